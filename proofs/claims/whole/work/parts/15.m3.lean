theorem hd_X12_mayHave : yX12_mayHave.cls = RX12 ∧ yX12_mayHave.cls ≠ "java/lang/invoke/MethodHandle" ∧ yX12_mayHave.cls ≠ "java/lang/invoke/VarHandle" ∧ (parseMethodDescriptor yX12_mayHave.desc).map (fun d => d.parameters.length) = some 2 := ⟨rfl, by decide +kernel, by decide +kernel, by decide +kernel⟩
def f_X12_mayHave (v : VV) (a1 : Int32) (a2 : Int32) : Option (Int32) :=
  gin a2 3 (gin a1 16 (if v.2.1 58 a2.toNatClampNeg < v.2.1 5 a1.toNatClampNeg then some 0 else gin a2 6 (gin a1 16 (if v.2.1 7 a1.toNatClampNeg < (v.2.1 10 a2.toNatClampNeg) + (v.2.1 3 3) then some 0 else some 1))))
set_option maxHeartbeats 4000000 in
set_option maxRecDepth 100000 in
theorem k_X12_mayHave (l : Launch) (G : va_G) (cy : Nat → ClassId) (ev : Nat → Nat) (ad : Nat → Nat) (v : VV) (a1 : Int32) (a2 : Int32) (res : Int32) (h : f_X12_mayHave v a1 a2 = some res) : MetI l yX12_mayHave cX12_mayHave 3 (some .boolean) 0 0 G cy ev [.ref (ad 0), .int a1, .int a2] (cX12 cy ad v) res (cX12 cy ad v) := by
  refine MetQ.start (by decide +kernel) (Nat.le_of_ble_eq_true rfl) (fun p e s m args below meth c A ls hx hb hr hml hown hts hlocks hK hP hD hA hl hE => ?_)
  have hS : va_S A s.heap s.heap [] := va_S.rf
  have hown : s.vm.findClass RX12 = some m.cls := hown
  have hl : lv_has ls 3 [(0, .ref (ad 0)), (1, .int a1), (2, .int a2)] := hl
  delta f_X12_mayHave at h
  refine lv_aload_n hx hb dX12_mayHave_0 rfl (lv_at hl 0 rfl) ?_
  refine gf_X12_58 hx hb hts hown hK hP dX12_mayHave_1 ?_
  refine lv_iload_n hx hb dX12_mayHave_4 rfl (lv_at hl 2 rfl) ?_
  replace h := gin_inv h
  obtain ⟨h9, h⟩ := h
  refine ld_X12_58 (f := v.2.1 58) (j := a2.toNatClampNeg) hx hb hK hP rfl h9 rfl dX12_mayHave_5 ?_
  refine lv_aload_n hx hb dX12_mayHave_6 rfl (lv_at hl 0 rfl) ?_
  refine gf_X12_5 hx hb hts hown hK hP dX12_mayHave_7 ?_
  refine lv_iload_n hx hb dX12_mayHave_10 rfl (lv_at hl 1 rfl) ?_
  replace h := gin_inv h
  obtain ⟨h9, h⟩ := h
  refine ld_X12_5 (f := v.2.1 5) (j := a1.toNatClampNeg) hx hb hK hP rfl h9 rfl dX12_mayHave_11 ?_
  refine lv_icmp_lt (tgt := 41) hx hb dX12_mayHave_12 (by decide) (fun c9 => ?_) (fun c9 => ?_)
  · replace h := (br h).1 c9
    refine lv_iconst (v := 0) hx hb dX12_mayHave_41 (by decide) ?_
    exact retZ (fr := fun q => q) (fw := fun _ => cX12 cy ad v) h hx hb hr narZ0 hlocks hK hP hD hS dX12_mayHave_42
  · replace h := (br h).2 c9
    refine lv_aload_n hx hb dX12_mayHave_15 rfl (lv_at hl 0 rfl) ?_
    refine gf_X12_10 hx hb hts hown hK hP dX12_mayHave_16 ?_
    refine lv_iload_n hx hb dX12_mayHave_19 rfl (lv_at hl 2 rfl) ?_
    replace h := gin_inv h
    obtain ⟨h9, h⟩ := h
    refine ld_X12_10 (f := v.2.1 10) (j := a2.toNatClampNeg) hx hb hK hP rfl h9 rfl dX12_mayHave_20 ?_
    refine lv_aload_n hx hb dX12_mayHave_21 rfl (lv_at hl 0 rfl) ?_
    refine gf_X12_3 hx hb hts hown hK hP dX12_mayHave_22 ?_
    refine lv_iconst (v := 3) hx hb dX12_mayHave_25 (by decide) ?_
    refine ld_X12_3 (f := v.2.1 3) (j := 3) hx hb hK hP rfl (vin_dec (by decide)) (by decide) dX12_mayHave_26 ?_
    refine lv_iadd hx hb dX12_mayHave_27 ?_
    refine lv_aload_n hx hb dX12_mayHave_28 rfl (lv_at hl 0 rfl) ?_
    refine gf_X12_7 hx hb hts hown hK hP dX12_mayHave_29 ?_
    refine lv_iload_n hx hb dX12_mayHave_32 rfl (lv_at hl 1 rfl) ?_
    replace h := gin_inv h
    obtain ⟨h9, h⟩ := h
    refine ld_X12_7 (f := v.2.1 7) (j := a1.toNatClampNeg) hx hb hK hP rfl h9 rfl dX12_mayHave_33 ?_
    refine lv_icmp_gt (tgt := 41) hx hb dX12_mayHave_34 (by decide) (fun c9 => ?_) (fun c9 => ?_)
    · replace h := (br h).1 c9
      refine lv_iconst (v := 0) hx hb dX12_mayHave_41 (by decide) ?_
      exact retZ (fr := fun q => q) (fw := fun _ => cX12 cy ad v) h hx hb hr narZ0 hlocks hK hP hD hS dX12_mayHave_42
    · replace h := (br h).2 c9
      refine lv_iconst (v := 1) hx hb dX12_mayHave_37 (by decide) ?_
      refine lv_goto (tgt := 42) hx hb dX12_mayHave_38 (by decide) ?_
      exact retZ (fr := fun q => q) (fw := fun _ => cX12 cy ad v) h hx hb hr narZ1 hlocks hK hP hD hS dX12_mayHave_42
theorem hd_X12_choiceOf : yX12_choiceOf.cls = RX12 ∧ yX12_choiceOf.cls ≠ "java/lang/invoke/MethodHandle" ∧ yX12_choiceOf.cls ≠ "java/lang/invoke/VarHandle" ∧ (parseMethodDescriptor yX12_choiceOf.desc).map (fun d => d.parameters.length) = some 1 := ⟨rfl, by decide +kernel, by decide +kernel, by decide +kernel⟩
def f_X12_choiceOf_b64 (N : Nat) (v : VV) (x1 : Int32) (x2 : Int32) (x3 : Int32) (x4 : Int32) : Option (((Int32 × Int32 × Int32) ⊕ (Int32))) :=
  some (.inl (x2, x3, x4 + 1))
def f_X12_choiceOf_b58 (N : Nat) (v : VV) (x1 : Int32) (x4 : Int32) (x5 : Int32) : Option (((Int32 × Int32 × Int32) ⊕ (Int32))) :=
  f_X12_choiceOf_b64 N v x1 x4 x5 x4
def f_X12_choiceOf_s8 (N : Nat) (v : VV) (x1 : Int32) (x2 : Int32) (x3 : Int32) (x4 : Int32) : Option (((Int32 × Int32 × Int32) ⊕ (Int32))) :=
  if v.2.1 3 2 ≤ x4 then inrO (some x2) else gin ((3 * x1) + x4) 48 (gin x4 3 (if (v.2.1 6 (((3 * x1) + x4).toNatClampNeg)) - (v.2.1 62 x4.toNatClampNeg) < 0 then f_X12_choiceOf_b64 N v x1 x2 x3 x4 else if x2 < 0 then f_X12_choiceOf_b58 N v x1 x4 ((v.2.1 6 (((3 * x1) + x4).toNatClampNeg)) - (v.2.1 62 x4.toNatClampNeg)) else if x3 < (v.2.1 6 (((3 * x1) + x4).toNatClampNeg)) - (v.2.1 62 x4.toNatClampNeg) then f_X12_choiceOf_b58 N v x1 x4 ((v.2.1 6 (((3 * x1) + x4).toNatClampNeg)) - (v.2.1 62 x4.toNatClampNeg)) else f_X12_choiceOf_b64 N v x1 x2 x3 x4))
def f_X12_choiceOf (N : Nat) (v : VV) (a1 : Int32) : Option (Int32) :=
  itr (fun q : Int32 × Int32 × Int32 => f_X12_choiceOf_s8 N v a1 q.1 q.2.1 q.2.2) N ((-2), 0, 0)
set_option maxHeartbeats 4000000 in
set_option maxRecDepth 100000 in
theorem k_X12_choiceOf (l : Launch) (G : va_G) (cy : Nat → ClassId) (ev : Nat → Nat) (N : Nat) (ad : Nat → Nat) (v : VV) (a1 : Int32) (res : Int32) (h : f_X12_choiceOf N v a1 = some res) : MetI l yX12_choiceOf cX12_choiceOf 6 (some .int) 0 0 G cy ev [.ref (ad 0), .int a1] (cX12 cy ad v) res (cX12 cy ad v) := by
  refine MetQ.start (by decide +kernel) (Nat.le_of_ble_eq_true rfl) (fun p e s m args below meth c A ls hx hb hr hml hown hts hlocks hK hP hD hA hl hE => ?_)
  have hS : va_S A s.heap s.heap [] := va_S.rf
  have hown : s.vm.findClass RX12 = some m.cls := hown
  have hl : lv_has ls 6 [(0, .ref (ad 0)), (1, .int a1)] := hl
  have L8 : ∀ (x1 : Int32) (n : Nat) (x2 : Int32) (x3 : Int32) (x4 : Int32) (H : Heap) (locs : List Loc) (ls : Array Slot), itr (fun q : Int32 × Int32 × Int32 => f_X12_choiceOf_s8 N v x1 q.1 q.2.1 q.2.2) n (x2, x3, x4) = some res → va_P G vwCl (cX12 cy ad v) H → va_D A (cX12 cy ad v) → va_S A s.heap H locs → lv_has ls 6 [(0, .ref (ad 0)), (1, .int x1), (2, .int x2), (3, .int x3), (4, .int x4)] → W p l e (rmX 0 0) s m args below meth c H locs 0 0 (MQ below (mQi (res) G cy A (cX12 cy ad v)) args s 0 0 A) (F0 m 8 ls []) := by
    intro x1 n
    induction n with
    | zero => intro x2 x3 x4 H locs ls h; exact (itr_zero h).elim
    | succ n ih1 =>
      intro x2 x3 x4 H locs ls h hP hD hS hl
      obtain ⟨y1, h, hy1⟩ := itr_inv h
      have h : f_X12_choiceOf_s8 N v x1 x2 x3 x4 = some y1 := h
      have B64 : ∀ (x2 : Int32) (x3 : Int32) (x4 : Int32) (H : Heap) (locs : List Loc) (ls : Array Slot), f_X12_choiceOf_b64 N v x1 x2 x3 x4 = some y1 → va_P G vwCl (cX12 cy ad v) H → va_D A (cX12 cy ad v) → va_S A s.heap H locs → lv_has ls 6 [(0, .ref (ad 0)), (1, .int x1), (2, .int x2), (3, .int x3), (4, .int x4)] → W p l e (rmX 0 0) s m args below meth c H locs 0 0 (MQ below (mQi (res) G cy A (cX12 cy ad v)) args s 0 0 A) (F0 m 64 ls []) := by
        intro x2 x3 x4 H locs ls h hP hD hS hl
        delta f_X12_choiceOf_b64 at h
        refine lv_iinc (v := x4 + 1) (lv' := [(4, .int (x4 + 1)), (0, .ref (ad 0)), (1, .int x1), (2, .int x2), (3, .int x3)]) hx hb dX12_choiceOf_64 hl (k := 4) rfl rfl (by decide) rfl (fun ls hl => ?_)
        refine lv_goto (tgt := 8) hx hb dX12_choiceOf_67 (by decide) ?_
        replace h := itr_back h hy1
        exact ih1 x2 x3 (x4 + 1) _ _ _ h hP hD hS (lv_sub hl [1, 2, 3, 4, 0] rfl)
      have B58 : ∀ (x4 : Int32) (x5 : Int32) (H : Heap) (locs : List Loc) (ls : Array Slot), f_X12_choiceOf_b58 N v x1 x4 x5 = some y1 → va_P G vwCl (cX12 cy ad v) H → va_D A (cX12 cy ad v) → va_S A s.heap H locs → lv_has ls 6 [(0, .ref (ad 0)), (1, .int x1), (4, .int x4), (5, .int x5)] → W p l e (rmX 0 0) s m args below meth c H locs 0 0 (MQ below (mQi (res) G cy A (cX12 cy ad v)) args s 0 0 A) (F0 m 58 ls []) := by
        intro x4 x5 H locs ls h hP hD hS hl
        delta f_X12_choiceOf_b58 at h
        refine lv_iload hx hb dX12_choiceOf_58 (lv_at hl 2 rfl) ?_
        refine lv_istore_n (lv' := [(2, .int x4), (0, .ref (ad 0)), (1, .int x1), (4, .int x4), (5, .int x5)]) hx hb dX12_choiceOf_60 rfl hl (by decide) rfl (fun ls hl => ?_)
        refine lv_iload hx hb dX12_choiceOf_61 (lv_at hl 4 rfl) ?_
        refine lv_istore_n (lv' := [(3, .int x5), (2, .int x4), (0, .ref (ad 0)), (1, .int x1), (4, .int x4), (5, .int x5)]) hx hb dX12_choiceOf_63 rfl hl (by decide) rfl (fun ls hl => ?_)
        exact B64 x4 x5 x4 _ _ _ h hP hD hS (lv_sub hl [2, 3, 1, 0, 4] rfl)
      delta f_X12_choiceOf_s8 at h
      refine lv_iload hx hb dX12_choiceOf_8 (lv_at hl 4 rfl) ?_
      refine lv_aload_n hx hb dX12_choiceOf_10 rfl (lv_at hl 0 rfl) ?_
      refine gf_X12_3 hx hb hts hown hK hP dX12_choiceOf_11 ?_
      refine lv_iconst (v := 2) hx hb dX12_choiceOf_14 (by decide) ?_
      refine ld_X12_3 (f := v.2.1 3) (j := 2) hx hb hK hP rfl (vin_dec (by decide)) (by decide) dX12_choiceOf_15 ?_
      refine lv_icmp_ge (tgt := 70) hx hb dX12_choiceOf_16 (by decide) (fun c9 => ?_) (fun c9 => ?_)
      · replace h := (br h).1 c9
        replace h := itr_exit h hy1
        refine lv_iload_n hx hb dX12_choiceOf_70 rfl (lv_at hl 2 rfl) ?_
        exact retI (fr := fun q => q) (fw := fun _ => cX12 cy ad v) h hx hb hr hlocks hK hP hD hS dX12_choiceOf_71
      · replace h := (br h).2 c9
        refine lv_aload_n hx hb dX12_choiceOf_19 rfl (lv_at hl 0 rfl) ?_
        refine gf_X12_6 hx hb hts hown hK hP dX12_choiceOf_20 ?_
        refine lv_iconst (v := 3) hx hb dX12_choiceOf_23 (by decide) ?_
        refine lv_iload_n hx hb dX12_choiceOf_24 rfl (lv_at hl 1 rfl) ?_
        refine lv_imul hx hb dX12_choiceOf_25 ?_
        refine lv_iload hx hb dX12_choiceOf_26 (lv_at hl 4 rfl) ?_
        refine lv_iadd hx hb dX12_choiceOf_28 ?_
        replace h := gin_inv h
        obtain ⟨h9, h⟩ := h
        refine ld_X12_6 (f := v.2.1 6) (j := ((3 * x1) + x4).toNatClampNeg) hx hb hK hP rfl h9 rfl dX12_choiceOf_29 ?_
        refine lv_aload_n hx hb dX12_choiceOf_30 rfl (lv_at hl 0 rfl) ?_
        refine gf_X12_62 hx hb hts hown hK hP dX12_choiceOf_31 ?_
        refine lv_iload hx hb dX12_choiceOf_34 (lv_at hl 4 rfl) ?_
        replace h := gin_inv h
        obtain ⟨h9, h⟩ := h
        refine ld_X12_62 (f := v.2.1 62) (j := x4.toNatClampNeg) hx hb hK hP rfl h9 rfl dX12_choiceOf_36 ?_
        refine lv_isub hx hb dX12_choiceOf_37 ?_
        refine lv_istore (lv' := [(5, .int ((v.2.1 6 (((3 * x1) + x4).toNatClampNeg)) - (v.2.1 62 x4.toNatClampNeg))), (0, .ref (ad 0)), (1, .int x1), (2, .int x2), (3, .int x3), (4, .int x4)]) hx hb dX12_choiceOf_38 hl (by decide) rfl (fun ls hl => ?_)
        refine lv_iload hx hb dX12_choiceOf_40 (lv_at hl 0 rfl) ?_
        refine lv_if_lt (tgt := 64) hx hb dX12_choiceOf_42 (by decide) (fun c9 => ?_) (fun c9 => ?_)
        · replace h := (br h).1 c9
          exact B64 x2 x3 x4 _ _ _ h hP hD hS (lv_sub hl [1, 2, 3, 4, 5] rfl)
        · replace h := (br h).2 c9
          refine lv_iload_n hx hb dX12_choiceOf_45 rfl (lv_at hl 3 rfl) ?_
          refine lv_if_lt (tgt := 58) hx hb dX12_choiceOf_46 (by decide) (fun c9 => ?_) (fun c9 => ?_)
          · replace h := (br h).1 c9
            exact B58 x4 ((v.2.1 6 (((3 * x1) + x4).toNatClampNeg)) - (v.2.1 62 x4.toNatClampNeg)) _ _ _ h hP hD hS (lv_sub hl [1, 2, 5, 0] rfl)
          · replace h := (br h).2 c9
            refine lv_iload hx hb dX12_choiceOf_49 (lv_at hl 0 rfl) ?_
            refine lv_iload_n hx hb dX12_choiceOf_51 rfl (lv_at hl 4 rfl) ?_
            refine lv_icmp_gt (tgt := 58) hx hb dX12_choiceOf_52 (by decide) (fun c9 => ?_) (fun c9 => ?_)
            · replace h := (br h).1 c9
              exact B58 x4 ((v.2.1 6 (((3 * x1) + x4).toNatClampNeg)) - (v.2.1 62 x4.toNatClampNeg)) _ _ _ h hP hD hS (lv_sub hl [1, 2, 5, 0] rfl)
            · replace h := (br h).2 c9
              refine lv_goto (tgt := 64) hx hb dX12_choiceOf_55 (by decide) ?_
              exact B64 x2 x3 x4 _ _ _ h hP hD hS (lv_sub hl [1, 2, 3, 4, 5] rfl)
  delta f_X12_choiceOf at h
  refine lv_bipush (v := (-2)) hx hb dX12_choiceOf_0 (by decide) ?_
  refine lv_istore_n (lv' := [(2, .int ((-2))), (0, .ref (ad 0)), (1, .int a1)]) hx hb dX12_choiceOf_2 rfl hl (by decide) rfl (fun ls hl => ?_)
  refine lv_iconst (v := 0) hx hb dX12_choiceOf_3 (by decide) ?_
  refine lv_istore_n (lv' := [(3, .int 0), (2, .int ((-2))), (0, .ref (ad 0)), (1, .int a1)]) hx hb dX12_choiceOf_4 rfl hl (by decide) rfl (fun ls hl => ?_)
  refine lv_iconst (v := 0) hx hb dX12_choiceOf_5 (by decide) ?_
  refine lv_istore (lv' := [(4, .int 0), (3, .int 0), (2, .int ((-2))), (0, .ref (ad 0)), (1, .int a1)]) hx hb dX12_choiceOf_6 hl (by decide) rfl (fun ls hl => ?_)
  exact L8 a1 N ((-2)) 0 0 _ _ _ h hP hD hS (lv_sub hl [3, 4, 2, 1, 0] rfl)
theorem hd_X12_choice : yX12_choice.cls = RX12 ∧ yX12_choice.cls ≠ "java/lang/invoke/MethodHandle" ∧ yX12_choice.cls ≠ "java/lang/invoke/VarHandle" ∧ (parseMethodDescriptor yX12_choice.desc).map (fun d => d.parameters.length) = some 1 := ⟨rfl, by decide +kernel, by decide +kernel, by decide +kernel⟩
def f_X12_choice_s17 (N : Nat) (v : VV) (x1 : Int32) (x2 : Int32) : Option (((Int32 × VV) ⊕ (Int32 × VV))) :=
  if (3 : Int32) ≤ x2 then inrO (bnd (f_X12_choiceOf N v x1) (fun q1701 => some (q1701, v))) else gin x2 69 (gin x2 3 (some (.inl (x2 + 1, sr v 62 x2.toNatClampNeg (v.2.1 43 x2.toNatClampNeg)))))
def f_X12_choice (N : Nat) (v : VV) (a1 : Int32) : Option (Int32 × VV) :=
  bnd (f_X12_isParty (si v 0 0) a1) (fun q1 => if q1 = 0 then some ((-1), si v 0 0) else itr (fun q : Int32 × VV => f_X12_choice_s17 N q.2 a1 q.1) N (0, si v 0 0))
set_option maxHeartbeats 4000000 in
set_option maxRecDepth 100000 in
theorem k_X12_choice (l : Launch) (G : va_G) (cy : Nat → ClassId) (ev : Nat → Nat) (N : Nat) (ad : Nat → Nat) (v : VV) (a1 : Int32) (res : Int32 × VV) (h : f_X12_choice N v a1 = some res) : MetI l yX12_choice cX12_choice 3 (some .int) 1 25 G cy ev [.ref (ad 0), .int a1] (cX12 cy ad v) res.1 (cX12 cy ad res.2) := by
  refine MetQ.start (by decide +kernel) (Nat.le_of_ble_eq_true rfl) (fun p e s m args below meth c A ls hx hb hr hml hown hts hlocks hK hP hD hA hl hE => ?_)
  have hS : va_S A s.heap s.heap [] := va_S.rf
  have hown : s.vm.findClass RX12 = some m.cls := hown
  have hl : lv_has ls 3 [(0, .ref (ad 0)), (1, .int a1)] := hl
  have L17 : ∀ (x1 : Int32) (n : Nat) (x2 : Int32) (v : VV) (H : Heap) (locs : List Loc) (ls : Array Slot), itr (fun q : Int32 × VV => f_X12_choice_s17 N q.2 x1 q.1) n (x2, v) = some res → va_P G vwCl (cX12 cy ad v) H → va_D A (cX12 cy ad v) → va_S A s.heap H locs → lv_has ls 3 [(0, .ref (ad 0)), (1, .int x1), (2, .int x2)] → W p l e (rmX 1 25) s m args below meth c H locs 0 0 (MQ below (mQi (res.1) G cy A (cX12 cy ad res.2)) args s 0 0 A) (F0 m 17 ls []) := by
    intro x1 n
    induction n with
    | zero => intro x2 v H locs ls h; exact (itr_zero h).elim
    | succ n ih1 =>
      intro x2 v H locs ls h hP hD hS hl
      obtain ⟨y1, h, hy1⟩ := itr_inv h
      have h : f_X12_choice_s17 N v x1 x2 = some y1 := h
      delta f_X12_choice_s17 at h
      refine lv_iload_n hx hb dX12_choice_17 rfl (lv_at hl 2 rfl) ?_
      refine lv_iconst (v := 3) hx hb dX12_choice_18 (by decide) ?_
      refine lv_icmp_ge (tgt := 40) hx hb dX12_choice_19 (by decide) (fun c9 => ?_) (fun c9 => ?_)
      · replace h := (br h).1 c9
        replace h := itr_exit h hy1
        refine lv_aload_n hx hb dX12_choice_40 rfl (lv_at hl 0 rfl) ?_
        refine lv_iload_n hx hb dX12_choice_41 rfl (lv_at hl 1 rfl) ?_
        replace h := bd h
        obtain ⟨q1701, h1702, h⟩ := h
        refine callVi0 (As := [.int x1]) (rest := []) hx hb hml hown hts (k_X12_choiceOf l G cy ev N ad v x1 q1701 h1702) wm_40_9 wm_40_10 wm_40_11 wm_1_5 wm_40_12 hd_X12_choiceOf ⟨by decide, by decide⟩ hK hP hD hS hA hE (va_recv hK hP (ci := 12) (q0 := 0) rfl rfl) rfl rfl hl.1 (Nat.le_of_ble_eq_true rfl) dX12_choice_42 (fun H locs hP hD hS => ?_)
        exact retI (fr := fun q => q.1) (fw := fun q => cX12 cy ad q.2) h hx hb hr hlocks hK hP hD hS dX12_choice_45
      · replace h := (br h).2 c9
        refine lv_aload_n hx hb dX12_choice_22 rfl (lv_at hl 0 rfl) ?_
        refine gf_X12_62 hx hb hts hown hK hP dX12_choice_23 ?_
        refine lv_iload_n hx hb dX12_choice_26 rfl (lv_at hl 2 rfl) ?_
        refine lv_aload_n hx hb dX12_choice_27 rfl (lv_at hl 0 rfl) ?_
        refine gf_X12_43 hx hb hts hown hK hP dX12_choice_28 ?_
        refine lv_iload_n hx hb dX12_choice_31 rfl (lv_at hl 2 rfl) ?_
        replace h := gin_inv h
        obtain ⟨h9, h⟩ := h
        refine ld_X12_43 (f := v.2.1 43) (j := x2.toNatClampNeg) hx hb hK hP rfl h9 rfl dX12_choice_32 ?_
        replace h := gin_inv h
        obtain ⟨h9, h⟩ := h
        refine st_X12_62 (j := x2.toNatClampNeg) hx hb hK hP hD hS h9 rfl dX12_choice_33 (fun H locs hP hD hS => ?_)
        refine lv_iinc (v := x2 + 1) (lv' := [(2, .int (x2 + 1)), (0, .ref (ad 0)), (1, .int x1)]) hx hb dX12_choice_34 hl (k := 2) rfl rfl (by decide) rfl (fun ls hl => ?_)
        refine lv_goto (tgt := 17) hx hb dX12_choice_37 (by decide) ?_
        replace h := itr_back h hy1
        exact ih1 (x2 + 1) (sr v 62 x2.toNatClampNeg (v.2.1 43 x2.toNatClampNeg)) _ _ _ h hP hD hS (lv_sub hl [1, 2, 0] rfl)
  delta f_X12_choice at h
  refine lv_aload_n hx hb dX12_choice_0 rfl (lv_at hl 0 rfl) ?_
  refine lv_iconst (v := 0) hx hb dX12_choice_1 (by decide) ?_
  refine pf_X12_0 hx hb hts hown hK hP hD hS dX12_choice_2 (fun H locs hP hD hS => ?_)
  refine lv_aload_n hx hb dX12_choice_5 rfl (lv_at hl 0 rfl) ?_
  refine lv_iload_n hx hb dX12_choice_6 rfl (lv_at hl 1 rfl) ?_
  replace h := bd h
  obtain ⟨q1, h2, h⟩ := h
  refine callVi0 (As := [.int a1]) (rest := []) hx hb hml hown hts (k_X12_isParty l G cy ev ad (si v 0 0) a1 q1 h2) wm_26_23 wm_27_0 wm_27_1 wm_1_5 wm_27_2 hd_X12_isParty ⟨by decide, by decide⟩ hK hP hD hS hA hE (va_recv hK hP (ci := 12) (q0 := 0) rfl rfl) rfl rfl hl.1 (Nat.le_of_ble_eq_true rfl) dX12_choice_7 (fun H locs hP hD hS => ?_)
  refine lv_if_ne (tgt := 15) hx hb dX12_choice_10 (by decide) (fun c9 => ?_) (fun c9 => ?_)
  · replace h := (br h).2 c9
    refine lv_iconst (v := 0) hx hb dX12_choice_15 (by decide) ?_
    refine lv_istore_n (lv' := [(2, .int 0), (0, .ref (ad 0)), (1, .int a1)]) hx hb dX12_choice_16 rfl hl (by decide) rfl (fun ls hl => ?_)
    exact L17 a1 N 0 (si v 0 0) _ _ _ h hP hD hS (lv_sub hl [1, 2, 0] rfl)
  · replace h := (br h).1 c9
    refine lv_iconst (v := (-1)) hx hb dX12_choice_13 (by decide) ?_
    exact retI (fr := fun q => q.1) (fw := fun q => cX12 cy ad q.2) h hx hb hr hlocks hK hP hD hS dX12_choice_14
theorem hd_X12_isLevel : yX12_isLevel.cls = RX12 ∧ yX12_isLevel.cls ≠ "java/lang/invoke/MethodHandle" ∧ yX12_isLevel.cls ≠ "java/lang/invoke/VarHandle" ∧ (parseMethodDescriptor yX12_isLevel.desc).map (fun d => d.parameters.length) = some 0 := ⟨rfl, by decide +kernel, by decide +kernel, by decide +kernel⟩
def f_X12_isLevel_b46 (N : Nat) (v : VV) (x1 : Int32) (x3 : Int32) (z0 : Int32) (z1 : Int32) : Option (((Int32 × Int32) ⊕ (((Int32) ⊕ (Int32))))) :=
  some (.inl (z1 + z0, x3 + 1))
def f_X12_isLevel_s16 (N : Nat) (v : VV) (x1 : Int32) (x2 : Int32) (x3 : Int32) : Option (((Int32 × Int32) ⊕ (((Int32) ⊕ (Int32))))) :=
  if v.2.1 3 0 ≤ x3 then inrO (if x2 ≤ v.2.1 3 1 then some (.inl (x1 + 1)) else inrO (some 0)) else bnd (f_X12_choiceOf N v x3) (fun q1601 => if q1601 = x1 then gin x3 16 (f_X12_isLevel_b46 N v x1 x3 (v.2.1 5 x3.toNatClampNeg) x2) else f_X12_isLevel_b46 N v x1 x3 0 x2)
def f_X12_isLevel_s2 (N : Nat) (v : VV) (x1 : Int32) : Option (((Int32) ⊕ (Int32))) :=
  if v.2.1 3 2 ≤ x1 then inrO (some 1) else itr (fun q : Int32 × Int32 => f_X12_isLevel_s16 N v x1 q.1 q.2) N (0, 0)
def f_X12_isLevel (N : Nat) (v : VV) : Option (Int32) :=
  itr (fun q : Int32 => f_X12_isLevel_s2 N v q) N 0
set_option maxHeartbeats 4000000 in
set_option maxRecDepth 100000 in
theorem k_X12_isLevel (l : Launch) (G : va_G) (cy : Nat → ClassId) (ev : Nat → Nat) (N : Nat) (ad : Nat → Nat) (v : VV)  (res : Int32) (h : f_X12_isLevel N v = some res) : MetI l yX12_isLevel cX12_isLevel 4 (some .boolean) 1 25 G cy ev [.ref (ad 0)] (cX12 cy ad v) res (cX12 cy ad v) := by
  refine MetQ.start (by decide +kernel) (Nat.le_of_ble_eq_true rfl) (fun p e s m args below meth c A ls hx hb hr hml hown hts hlocks hK hP hD hA hl hE => ?_)
  have hS : va_S A s.heap s.heap [] := va_S.rf
  have hown : s.vm.findClass RX12 = some m.cls := hown
  have hl : lv_has ls 4 [(0, .ref (ad 0))] := hl
  have L2 : ∀ (n : Nat) (x1 : Int32) (H : Heap) (locs : List Loc) (ls : Array Slot), itr (fun q : Int32 => f_X12_isLevel_s2 N v q) n x1 = some res → va_P G vwCl (cX12 cy ad v) H → va_D A (cX12 cy ad v) → va_S A s.heap H locs → lv_has ls 4 [(0, .ref (ad 0)), (1, .int x1)] → W p l e (rmX 1 25) s m args below meth c H locs 0 0 (MQ below (mQi (res) G cy A (cX12 cy ad v)) args s 0 0 A) (F0 m 2 ls []) := by
    intro n
    induction n with
    | zero => intro x1 H locs ls h; exact (itr_zero h).elim
    | succ n ih1 =>
      intro x1 H locs ls h hP hD hS hl
      obtain ⟨y1, h, hy1⟩ := itr_inv h
      have h : f_X12_isLevel_s2 N v x1 = some y1 := h
      have L16 : ∀ (x1 : Int32) (n : Nat) (x2 : Int32) (x3 : Int32) (H : Heap) (locs : List Loc) (ls : Array Slot), itr (fun q : Int32 × Int32 => f_X12_isLevel_s16 N v x1 q.1 q.2) n (x2, x3) = some y1 → va_P G vwCl (cX12 cy ad v) H → va_D A (cX12 cy ad v) → va_S A s.heap H locs → lv_has ls 4 [(0, .ref (ad 0)), (1, .int x1), (2, .int x2), (3, .int x3)] → W p l e (rmX 1 25) s m args below meth c H locs 0 0 (MQ below (mQi (res) G cy A (cX12 cy ad v)) args s 0 0 A) (F0 m 16 ls []) := by
        intro x1 n
        induction n with
        | zero => intro x2 x3 H locs ls h; exact (itr_zero h).elim
        | succ n ih2 =>
          intro x2 x3 H locs ls h hP hD hS hl
          obtain ⟨y2, h, hy2⟩ := itr_inv h
          have h : f_X12_isLevel_s16 N v x1 x2 x3 = some y2 := h
          have B46 : ∀ (x3 : Int32) (z0 : Int32) (z1 : Int32) (H : Heap) (locs : List Loc) (ls : Array Slot), f_X12_isLevel_b46 N v x1 x3 z0 z1 = some y2 → va_P G vwCl (cX12 cy ad v) H → va_D A (cX12 cy ad v) → va_S A s.heap H locs → lv_has ls 4 [(0, .ref (ad 0)), (1, .int x1), (3, .int x3)] → W p l e (rmX 1 25) s m args below meth c H locs 0 0 (MQ below (mQi (res) G cy A (cX12 cy ad v)) args s 0 0 A) (F0 m 46 ls [.int z0, .int z1]) := by
            intro x3 z0 z1 H locs ls h hP hD hS hl
            delta f_X12_isLevel_b46 at h
            refine lv_iadd hx hb dX12_isLevel_46 ?_
            refine lv_istore_n (lv' := [(2, .int (z1 + z0)), (0, .ref (ad 0)), (1, .int x1), (3, .int x3)]) hx hb dX12_isLevel_47 rfl hl (by decide) rfl (fun ls hl => ?_)
            refine lv_iinc (v := x3 + 1) (lv' := [(3, .int (x3 + 1)), (2, .int (z1 + z0)), (0, .ref (ad 0)), (1, .int x1)]) hx hb dX12_isLevel_48 hl (k := 3) rfl rfl (by decide) rfl (fun ls hl => ?_)
            refine lv_goto (tgt := 16) hx hb dX12_isLevel_51 (by decide) ?_
            replace h := itr_back h hy2
            exact ih2 (z1 + z0) (x3 + 1) _ _ _ h hP hD hS (lv_sub hl [2, 3, 1, 0] rfl)
          delta f_X12_isLevel_s16 at h
          refine lv_iload_n hx hb dX12_isLevel_16 rfl (lv_at hl 3 rfl) ?_
          refine lv_aload_n hx hb dX12_isLevel_17 rfl (lv_at hl 0 rfl) ?_
          refine gf_X12_3 hx hb hts hown hK hP dX12_isLevel_18 ?_
          refine lv_iconst (v := 0) hx hb dX12_isLevel_21 (by decide) ?_
          refine ld_X12_3 (f := v.2.1 3) (j := 0) hx hb hK hP rfl (vin_dec (by decide)) (by decide) dX12_isLevel_22 ?_
          refine lv_icmp_ge (tgt := 54) hx hb dX12_isLevel_23 (by decide) (fun c9 => ?_) (fun c9 => ?_)
          · replace h := (br h).1 c9
            replace h := itr_exit h hy2
            refine lv_iload_n hx hb dX12_isLevel_54 rfl (lv_at hl 2 rfl) ?_
            refine lv_aload_n hx hb dX12_isLevel_55 rfl (lv_at hl 0 rfl) ?_
            refine gf_X12_3 hx hb hts hown hK hP dX12_isLevel_56 ?_
            refine lv_iconst (v := 1) hx hb dX12_isLevel_59 (by decide) ?_
            refine ld_X12_3 (f := v.2.1 3) (j := 1) hx hb hK hP rfl (vin_dec (by decide)) (by decide) dX12_isLevel_60 ?_
            refine lv_icmp_le (tgt := 66) hx hb dX12_isLevel_61 (by decide) (fun c9 => ?_) (fun c9 => ?_)
            · replace h := (br h).1 c9
              refine lv_iinc (v := x1 + 1) (lv' := [(1, .int (x1 + 1)), (0, .ref (ad 0)), (2, .int x2), (3, .int x3)]) hx hb dX12_isLevel_66 hl (k := 1) rfl rfl (by decide) rfl (fun ls hl => ?_)
              refine lv_goto (tgt := 2) hx hb dX12_isLevel_69 (by decide) ?_
              replace h := itr_back h hy1
              exact ih1 (x1 + 1) _ _ _ h hP hD hS (lv_sub hl [1, 0] rfl)
            · replace h := (br h).2 c9
              replace h := itr_exit h hy1
              refine lv_iconst (v := 0) hx hb dX12_isLevel_64 (by decide) ?_
              exact retZ (fr := fun q => q) (fw := fun _ => cX12 cy ad v) h hx hb hr narZ0 hlocks hK hP hD hS dX12_isLevel_65
          · replace h := (br h).2 c9
            refine lv_iload_n hx hb dX12_isLevel_26 rfl (lv_at hl 2 rfl) ?_
            refine lv_aload_n hx hb dX12_isLevel_27 rfl (lv_at hl 0 rfl) ?_
            refine lv_iload_n hx hb dX12_isLevel_28 rfl (lv_at hl 3 rfl) ?_
            replace h := bd h
            obtain ⟨q1601, h1602, h⟩ := h
            refine callVi0 (As := [.int x3]) (rest := [.int x2]) hx hb hml hown hts (k_X12_choiceOf l G cy ev N ad v x3 q1601 h1602) wm_40_9 wm_40_10 wm_40_11 wm_1_5 wm_40_12 hd_X12_choiceOf ⟨by decide, by decide⟩ hK hP hD hS hA hE (va_recv hK hP (ci := 12) (q0 := 0) rfl rfl) rfl rfl hl.1 (Nat.le_of_ble_eq_true rfl) dX12_isLevel_29 (fun H locs hP hD hS => ?_)
            refine lv_iload_n hx hb dX12_isLevel_32 rfl (lv_at hl 1 rfl) ?_
            refine lv_icmp_ne (tgt := 45) hx hb dX12_isLevel_33 (by decide) (fun c9 => ?_) (fun c9 => ?_)
            · replace h := (br h).2 c9
              refine lv_iconst (v := 0) hx hb dX12_isLevel_45 (by decide) ?_
              exact B46 x3 0 x2 _ _ _ h hP hD hS (lv_sub hl [0, 1, 3] rfl)
            · replace h := (br h).1 c9
              refine lv_aload_n hx hb dX12_isLevel_36 rfl (lv_at hl 0 rfl) ?_
              refine gf_X12_5 hx hb hts hown hK hP dX12_isLevel_37 ?_
              refine lv_iload_n hx hb dX12_isLevel_40 rfl (lv_at hl 3 rfl) ?_
              replace h := gin_inv h
              obtain ⟨h9, h⟩ := h
              refine ld_X12_5 (f := v.2.1 5) (j := x3.toNatClampNeg) hx hb hK hP rfl h9 rfl dX12_isLevel_41 ?_
              refine lv_goto (tgt := 46) hx hb dX12_isLevel_42 (by decide) ?_
              exact B46 x3 (v.2.1 5 x3.toNatClampNeg) x2 _ _ _ h hP hD hS (lv_sub hl [0, 1, 3] rfl)
      delta f_X12_isLevel_s2 at h
      refine lv_iload_n hx hb dX12_isLevel_2 rfl (lv_at hl 1 rfl) ?_
      refine lv_aload_n hx hb dX12_isLevel_3 rfl (lv_at hl 0 rfl) ?_
      refine gf_X12_3 hx hb hts hown hK hP dX12_isLevel_4 ?_
      refine lv_iconst (v := 2) hx hb dX12_isLevel_7 (by decide) ?_
      refine ld_X12_3 (f := v.2.1 3) (j := 2) hx hb hK hP rfl (vin_dec (by decide)) (by decide) dX12_isLevel_8 ?_
      refine lv_icmp_ge (tgt := 72) hx hb dX12_isLevel_9 (by decide) (fun c9 => ?_) (fun c9 => ?_)
      · replace h := (br h).1 c9
        replace h := itr_exit h hy1
        refine lv_iconst (v := 1) hx hb dX12_isLevel_72 (by decide) ?_
        exact retZ (fr := fun q => q) (fw := fun _ => cX12 cy ad v) h hx hb hr narZ1 hlocks hK hP hD hS dX12_isLevel_73
      · replace h := (br h).2 c9
        refine lv_iconst (v := 0) hx hb dX12_isLevel_12 (by decide) ?_
        refine lv_istore_n (lv' := [(2, .int 0), (0, .ref (ad 0)), (1, .int x1)]) hx hb dX12_isLevel_13 rfl hl (by decide) rfl (fun ls hl => ?_)
        refine lv_iconst (v := 0) hx hb dX12_isLevel_14 (by decide) ?_
        refine lv_istore_n (lv' := [(3, .int 0), (2, .int 0), (0, .ref (ad 0)), (1, .int x1)]) hx hb dX12_isLevel_15 rfl hl (by decide) rfl (fun ls hl => ?_)
        exact L16 x1 N 0 0 _ _ _ h hP hD hS (lv_sub hl [2, 3, 1, 0] rfl)
  delta f_X12_isLevel at h
  refine lv_iconst (v := 0) hx hb dX12_isLevel_0 (by decide) ?_
  refine lv_istore_n (lv' := [(1, .int 0), (0, .ref (ad 0))]) hx hb dX12_isLevel_1 rfl hl (by decide) rfl (fun ls hl => ?_)
  exact L2  N 0 _ _ _ h hP hD hS (lv_sub hl [1, 0] rfl)
theorem hd_X12_layCode : yX12_layCode.cls = RX12 ∧ yX12_layCode.cls ≠ "java/lang/invoke/MethodHandle" ∧ yX12_layCode.cls ≠ "java/lang/invoke/VarHandle" ∧ (parseMethodDescriptor yX12_layCode.desc).map (fun d => d.parameters.length) = some 1 := ⟨rfl, by decide +kernel, by decide +kernel, by decide +kernel⟩
def f_X12_layCode_s14 (N : Nat) (v : VV) (x2 : Int32) (x3 : Int32) (x4 : Int32) : Option (((Int32 × Int32 × Int32 × VV) ⊕ (Int32 × VV))) :=
  if x4 < 0 then inrO (some (x3, v)) else gin x4 3 (gin x4 3 (some (.inl (x2 / 10, x3 + ((upd (v.2.1 62) x4.toNatClampNeg (x2 - x2 / 10 * 10)) x4.toNatClampNeg), x4 + (-1), sr v 62 x4.toNatClampNeg (x2 - x2 / 10 * 10)))))
def f_X12_layCode (N : Nat) (v : VV) (a1 : Int32) : Option (Int32 × VV) :=
  itr (fun q : Int32 × Int32 × Int32 × VV => f_X12_layCode_s14 N q.2.2.2 q.1 q.2.1 q.2.2.1) N (a1, 0, (v.2.1 3 2) - 1, v)
set_option maxHeartbeats 4000000 in
set_option maxRecDepth 100000 in
theorem k_X12_layCode (l : Launch) (G : va_G) (cy : Nat → ClassId) (ev : Nat → Nat) (N : Nat) (ad : Nat → Nat) (v : VV) (a1 : Int32) (res : Int32 × VV) (h : f_X12_layCode N v a1 = some res) : MetI l yX12_layCode cX12_layCode 5 (some .int) 0 0 G cy ev [.ref (ad 0), .int a1] (cX12 cy ad v) res.1 (cX12 cy ad res.2) := by
  refine MetQ.start (by decide +kernel) (Nat.le_of_ble_eq_true rfl) (fun p e s m args below meth c A ls hx hb hr hml hown hts hlocks hK hP hD hA hl hE => ?_)
  have hS : va_S A s.heap s.heap [] := va_S.rf
  have hown : s.vm.findClass RX12 = some m.cls := hown
  have hl : lv_has ls 5 [(0, .ref (ad 0)), (1, .int a1)] := hl
  have L14 : ∀ (n : Nat) (x2 : Int32) (x3 : Int32) (x4 : Int32) (v : VV) (H : Heap) (locs : List Loc) (ls : Array Slot), itr (fun q : Int32 × Int32 × Int32 × VV => f_X12_layCode_s14 N q.2.2.2 q.1 q.2.1 q.2.2.1) n (x2, x3, x4, v) = some res → va_P G vwCl (cX12 cy ad v) H → va_D A (cX12 cy ad v) → va_S A s.heap H locs → lv_has ls 5 [(0, .ref (ad 0)), (2, .int x2), (3, .int x3), (4, .int x4)] → W p l e (rmX 0 0) s m args below meth c H locs 0 0 (MQ below (mQi (res.1) G cy A (cX12 cy ad res.2)) args s 0 0 A) (F0 m 14 ls []) := by
    intro n
    induction n with
    | zero => intro x2 x3 x4 v H locs ls h; exact (itr_zero h).elim
    | succ n ih1 =>
      intro x2 x3 x4 v H locs ls h hP hD hS hl
      obtain ⟨y1, h, hy1⟩ := itr_inv h
      have h : f_X12_layCode_s14 N v x2 x3 x4 = some y1 := h
      delta f_X12_layCode_s14 at h
      refine lv_iload hx hb dX12_layCode_14 (lv_at hl 3 rfl) ?_
      refine lv_if_lt (tgt := 51) hx hb dX12_layCode_16 (by decide) (fun c9 => ?_) (fun c9 => ?_)
      · replace h := (br h).1 c9
        replace h := itr_exit h hy1
        refine lv_iload_n hx hb dX12_layCode_51 rfl (lv_at hl 2 rfl) ?_
        exact retI (fr := fun q => q.1) (fw := fun q => cX12 cy ad q.2) h hx hb hr hlocks hK hP hD hS dX12_layCode_52
      · replace h := (br h).2 c9
        refine lv_aload_n hx hb dX12_layCode_19 rfl (lv_at hl 0 rfl) ?_
        refine gf_X12_62 hx hb hts hown hK hP dX12_layCode_20 ?_
        refine lv_iload hx hb dX12_layCode_23 (lv_at hl 3 rfl) ?_
        refine lv_iload_n hx hb dX12_layCode_25 rfl (lv_at hl 1 rfl) ?_
        refine lv_bipush (v := 10) hx hb dX12_layCode_26 (by decide) ?_
        refine lv_irem hx hb dX12_layCode_28 (by decide) ?_
        replace h := gin_inv h
        obtain ⟨h9, h⟩ := h
        refine st_X12_62 (j := x4.toNatClampNeg) hx hb hK hP hD hS h9 rfl dX12_layCode_29 (fun H locs hP hD hS => ?_)
        refine lv_iload_n hx hb dX12_layCode_30 rfl (lv_at hl 1 rfl) ?_
        refine lv_bipush (v := 10) hx hb dX12_layCode_31 (by decide) ?_
        refine lv_idiv hx hb dX12_layCode_33 (by decide) ?_
        refine lv_istore_n (lv' := [(2, .int (x2 / 10)), (0, .ref (ad 0)), (3, .int x3), (4, .int x4)]) hx hb dX12_layCode_34 rfl hl (by decide) rfl (fun ls hl => ?_)
        refine lv_iload_n hx hb dX12_layCode_35 rfl (lv_at hl 2 rfl) ?_
        refine lv_aload_n hx hb dX12_layCode_36 rfl (lv_at hl 1 rfl) ?_
        refine gf_X12_62 hx hb hts hown hK hP dX12_layCode_37 ?_
        refine lv_iload hx hb dX12_layCode_40 (lv_at hl 3 rfl) ?_
        replace h := gin_inv h
        obtain ⟨h9, h⟩ := h
        refine ld_X12_62 (f := upd (v.2.1 62) x4.toNatClampNeg (x2 - x2 / 10 * 10)) (j := x4.toNatClampNeg) hx hb hK hP rfl h9 rfl dX12_layCode_42 ?_
        refine lv_iadd hx hb dX12_layCode_43 ?_
        refine lv_istore_n (lv' := [(3, .int (x3 + ((upd (v.2.1 62) x4.toNatClampNeg (x2 - x2 / 10 * 10)) x4.toNatClampNeg))), (2, .int (x2 / 10)), (0, .ref (ad 0)), (4, .int x4)]) hx hb dX12_layCode_44 rfl hl (by decide) rfl (fun ls hl => ?_)
        refine lv_iinc (v := x4 + (-1)) (lv' := [(4, .int (x4 + (-1))), (3, .int (x3 + ((upd (v.2.1 62) x4.toNatClampNeg (x2 - x2 / 10 * 10)) x4.toNatClampNeg))), (2, .int (x2 / 10)), (0, .ref (ad 0))]) hx hb dX12_layCode_45 hl (k := 3) rfl rfl (by decide) rfl (fun ls hl => ?_)
        refine lv_goto (tgt := 14) hx hb dX12_layCode_48 (by decide) ?_
        replace h := itr_back h hy1
        exact ih1 (x2 / 10) (x3 + ((upd (v.2.1 62) x4.toNatClampNeg (x2 - x2 / 10 * 10)) x4.toNatClampNeg)) (x4 + (-1)) (sr v 62 x4.toNatClampNeg (x2 - x2 / 10 * 10)) _ _ _ h hP hD hS (lv_sub hl [3, 2, 1, 0] rfl)
  delta f_X12_layCode at h
  refine lv_iload_n hx hb dX12_layCode_0 rfl (lv_at hl 1 rfl) ?_
  refine lv_istore_n (lv' := [(2, .int a1), (0, .ref (ad 0)), (1, .int a1)]) hx hb dX12_layCode_1 rfl hl (by decide) rfl (fun ls hl => ?_)
  refine lv_iconst (v := 0) hx hb dX12_layCode_2 (by decide) ?_
  refine lv_istore_n (lv' := [(3, .int 0), (2, .int a1), (0, .ref (ad 0)), (1, .int a1)]) hx hb dX12_layCode_3 rfl hl (by decide) rfl (fun ls hl => ?_)
  refine lv_aload_n hx hb dX12_layCode_4 rfl (lv_at hl 2 rfl) ?_
  refine gf_X12_3 hx hb hts hown hK hP dX12_layCode_5 ?_
  refine lv_iconst (v := 2) hx hb dX12_layCode_8 (by decide) ?_
  refine ld_X12_3 (f := v.2.1 3) (j := 2) hx hb hK hP rfl (vin_dec (by decide)) (by decide) dX12_layCode_9 ?_
  refine lv_iconst (v := 1) hx hb dX12_layCode_10 (by decide) ?_
  refine lv_isub hx hb dX12_layCode_11 ?_
  refine lv_istore (lv' := [(4, .int ((v.2.1 3 2) - 1)), (3, .int 0), (2, .int a1), (0, .ref (ad 0)), (1, .int a1)]) hx hb dX12_layCode_12 hl (by decide) rfl (fun ls hl => ?_)
  exact L14  N a1 0 ((v.2.1 3 2) - 1) v _ _ _ h hP hD hS (lv_sub hl [3, 2, 1, 0] rfl)
theorem hd_X12_level : yX12_level.cls = RX12 ∧ yX12_level.cls ≠ "java/lang/invoke/MethodHandle" ∧ yX12_level.cls ≠ "java/lang/invoke/VarHandle" ∧ (parseMethodDescriptor yX12_level.desc).map (fun d => d.parameters.length) = some 1 := ⟨rfl, by decide +kernel, by decide +kernel, by decide +kernel⟩
def f_X12_level_b91 (N : Nat) (v : VV) (x1 : Int32) (x2 : Int32) (x3 : Int32) (x4 : Int32) (x5 : Int32) : Option (((Int32 × Int32 × Int32 × VV) ⊕ (Int32 × VV))) :=
  some (.inl (x3, x4, x5 + 1, v))
def f_X12_level_b74 (N : Nat) (v : VV) (x1 : Int32) (x2 : Int32) (x3 : Int32) (x4 : Int32) (x5 : Int32) (x6 : Int32) : Option (((Int32 × Int32 × Int32 × VV) ⊕ (Int32 × VV))) :=
  bnd (f_X12_isLevel N v) (fun q7401 => if q7401 = 0 then f_X12_level_b91 N v x1 x2 x3 x4 x5 else f_X12_level_b91 N v x1 x2 x5 x6 x5)
def f_X12_level_s48 (N : Nat) (v : VV) (x1 : Int32) (x2 : Int32) (x3 : Int32) (x4 : Int32) (x5 : Int32) : Option (((Int32 × Int32 × Int32 × VV) ⊕ (Int32 × VV))) :=
  if x2 ≤ x5 then inrO (if x3 = (-1) then some ((-2), v) else bnd (f_X12_layCode N v x3) (fun q4801 => gin x1 3 (some (q4801.2.2.1 62 x1.toNatClampNeg, q4801.2)))) else bnd (f_X12_layCode N v x5) (fun q4803 => if x3 = (-1) then f_X12_level_b74 N q4803.2 x1 x2 x3 x4 x5 q4803.1 else if x4 ≤ q4803.1 then f_X12_level_b91 N q4803.2 x1 x2 x3 x4 x5 else f_X12_level_b74 N q4803.2 x1 x2 x3 x4 x5 q4803.1)
def f_X12_level_s19 (N : Nat) (v : VV) (x1 : Int32) (x2 : Int32) (x3 : Int32) : Option (((Int32 × Int32 × VV) ⊕ (Int32 × VV))) :=
  if v.2.1 3 2 ≤ x3 then inrO (itr (fun q : Int32 × Int32 × Int32 × VV => f_X12_level_s48 N q.2.2.2 x1 x2 q.1 q.2.1 q.2.2.1) N ((-1), 0, 0, v)) else some (.inl (x2 * 10, x3 + 1, v))
def f_X12_level (N : Nat) (v : VV) (a1 : Int32) : Option (Int32 × VV) :=
  bnd (f_X12_isSitting (si v 0 0) a1) (fun q1 => if q1 = 0 then some ((-1), si v 0 0) else itr (fun q : Int32 × Int32 × VV => f_X12_level_s19 N q.2.2 a1 q.1 q.2.1) N (1, 0, si v 0 0))
set_option maxHeartbeats 4000000 in
set_option maxRecDepth 100000 in
theorem k_X12_level (l : Launch) (G : va_G) (cy : Nat → ClassId) (ev : Nat → Nat) (N : Nat) (ad : Nat → Nat) (v : VV) (a1 : Int32) (res : Int32 × VV) (h : f_X12_level N v a1 = some res) : MetI l yX12_level cX12_level 7 (some .int) 2 48 G cy ev [.ref (ad 0), .int a1] (cX12 cy ad v) res.1 (cX12 cy ad res.2) := by
  refine MetQ.start (by decide +kernel) (Nat.le_of_ble_eq_true rfl) (fun p e s m args below meth c A ls hx hb hr hml hown hts hlocks hK hP hD hA hl hE => ?_)
  have hS : va_S A s.heap s.heap [] := va_S.rf
  have hown : s.vm.findClass RX12 = some m.cls := hown
  have hl : lv_has ls 7 [(0, .ref (ad 0)), (1, .int a1)] := hl
  have L48 : ∀ (x1 : Int32) (x2 : Int32) (n : Nat) (x3 : Int32) (x4 : Int32) (x5 : Int32) (v : VV) (H : Heap) (locs : List Loc) (ls : Array Slot), itr (fun q : Int32 × Int32 × Int32 × VV => f_X12_level_s48 N q.2.2.2 x1 x2 q.1 q.2.1 q.2.2.1) n (x3, x4, x5, v) = some res → va_P G vwCl (cX12 cy ad v) H → va_D A (cX12 cy ad v) → va_S A s.heap H locs → lv_has ls 7 [(0, .ref (ad 0)), (1, .int x1), (2, .int x2), (3, .int x3), (4, .int x4), (5, .int x5)] → W p l e (rmX 2 48) s m args below meth c H locs 0 0 (MQ below (mQi (res.1) G cy A (cX12 cy ad res.2)) args s 0 0 A) (F0 m 48 ls []) := by
    intro x1 x2 n
    induction n with
    | zero => intro x3 x4 x5 v H locs ls h; exact (itr_zero h).elim
    | succ n ih1 =>
      intro x3 x4 x5 v H locs ls h hP hD hS hl
      obtain ⟨y1, h, hy1⟩ := itr_inv h
      have h : f_X12_level_s48 N v x1 x2 x3 x4 x5 = some y1 := h
      have B91 : ∀ (x3 : Int32) (x4 : Int32) (x5 : Int32) (v : VV) (H : Heap) (locs : List Loc) (ls : Array Slot), f_X12_level_b91 N v x1 x2 x3 x4 x5 = some y1 → va_P G vwCl (cX12 cy ad v) H → va_D A (cX12 cy ad v) → va_S A s.heap H locs → lv_has ls 7 [(0, .ref (ad 0)), (1, .int x1), (2, .int x2), (3, .int x3), (4, .int x4), (5, .int x5)] → W p l e (rmX 2 48) s m args below meth c H locs 0 0 (MQ below (mQi (res.1) G cy A (cX12 cy ad res.2)) args s 0 0 A) (F0 m 91 ls []) := by
        intro x3 x4 x5 v H locs ls h hP hD hS hl
        delta f_X12_level_b91 at h
        refine lv_iinc (v := x5 + 1) (lv' := [(5, .int (x5 + 1)), (0, .ref (ad 0)), (1, .int x1), (2, .int x2), (3, .int x3), (4, .int x4)]) hx hb dX12_level_91 hl (k := 5) rfl rfl (by decide) rfl (fun ls hl => ?_)
        refine lv_goto (tgt := 48) hx hb dX12_level_94 (by decide) ?_
        replace h := itr_back h hy1
        exact ih1 x3 x4 (x5 + 1) v _ _ _ h hP hD hS (lv_sub hl [1, 2, 3, 4, 5, 0] rfl)
      have B74 : ∀ (x3 : Int32) (x4 : Int32) (x5 : Int32) (x6 : Int32) (v : VV) (H : Heap) (locs : List Loc) (ls : Array Slot), f_X12_level_b74 N v x1 x2 x3 x4 x5 x6 = some y1 → va_P G vwCl (cX12 cy ad v) H → va_D A (cX12 cy ad v) → va_S A s.heap H locs → lv_has ls 7 [(0, .ref (ad 0)), (1, .int x1), (2, .int x2), (3, .int x3), (4, .int x4), (5, .int x5), (6, .int x6)] → W p l e (rmX 2 48) s m args below meth c H locs 0 0 (MQ below (mQi (res.1) G cy A (cX12 cy ad res.2)) args s 0 0 A) (F0 m 74 ls []) := by
        intro x3 x4 x5 x6 v H locs ls h hP hD hS hl
        delta f_X12_level_b74 at h
        refine lv_aload_n hx hb dX12_level_74 rfl (lv_at hl 0 rfl) ?_
        replace h := bd h
        obtain ⟨q7401, h7402, h⟩ := h
        refine callVi0 (As := []) (rest := []) hx hb hml hown hts (k_X12_isLevel l G cy ev N ad v q7401 h7402) wm_41_15 wm_41_16 wm_41_17 wm_1_5 wm_41_18 hd_X12_isLevel ⟨by decide, by decide⟩ hK hP hD hS hA hE (va_recv hK hP (ci := 12) (q0 := 0) rfl rfl) rfl rfl hl.1 (Nat.le_of_ble_eq_true rfl) dX12_level_75 (fun H locs hP hD hS => ?_)
        refine lv_if_ne (tgt := 84) hx hb dX12_level_78 (by decide) (fun c9 => ?_) (fun c9 => ?_)
        · replace h := (br h).2 c9
          refine lv_iload hx hb dX12_level_84 (lv_at hl 5 rfl) ?_
          refine lv_istore_n (lv' := [(3, .int x5), (0, .ref (ad 0)), (1, .int x1), (2, .int x2), (4, .int x4), (5, .int x5), (6, .int x6)]) hx hb dX12_level_86 rfl hl (by decide) rfl (fun ls hl => ?_)
          refine lv_iload hx hb dX12_level_87 (lv_at hl 6 rfl) ?_
          refine lv_istore (lv' := [(4, .int x6), (3, .int x5), (0, .ref (ad 0)), (1, .int x1), (2, .int x2), (5, .int x5), (6, .int x6)]) hx hb dX12_level_89 hl (by decide) rfl (fun ls hl => ?_)
          exact B91 x5 x6 x5 v _ _ _ h hP hD hS (lv_sub hl [2, 3, 4, 1, 0, 5] rfl)
        · replace h := (br h).1 c9
          refine lv_goto (tgt := 91) hx hb dX12_level_81 (by decide) ?_
          exact B91 x3 x4 x5 v _ _ _ h hP hD hS (lv_sub hl [0, 1, 2, 3, 4, 5] rfl)
      delta f_X12_level_s48 at h
      refine lv_iload hx hb dX12_level_48 (lv_at hl 5 rfl) ?_
      refine lv_iload_n hx hb dX12_level_50 rfl (lv_at hl 2 rfl) ?_
      refine lv_icmp_ge (tgt := 97) hx hb dX12_level_51 (by decide) (fun c9 => ?_) (fun c9 => ?_)
      · replace h := (br h).1 c9
        replace h := itr_exit h hy1
        refine lv_iload_n hx hb dX12_level_97 rfl (lv_at hl 3 rfl) ?_
        refine lv_iconst (v := (-1)) hx hb dX12_level_98 (by decide) ?_
        refine lv_icmp_ne (tgt := 105) hx hb dX12_level_99 (by decide) (fun c9 => ?_) (fun c9 => ?_)
        · replace h := (br h).2 c9
          refine lv_aload_n hx hb dX12_level_105 rfl (lv_at hl 0 rfl) ?_
          refine lv_iload_n hx hb dX12_level_106 rfl (lv_at hl 3 rfl) ?_
          replace h := bd h
          obtain ⟨q4801, h4802, h⟩ := h
          refine callVi0 (As := [.int x3]) (rest := []) hx hb hml hown hts (k_X12_layCode l G cy ev N ad v x3 q4801 h4802) wm_41_11 wm_41_12 wm_41_13 wm_1_5 wm_41_14 hd_X12_layCode ⟨by decide, by decide⟩ hK hP hD hS hA hE (va_recv hK hP (ci := 12) (q0 := 0) rfl rfl) rfl rfl hl.1 (Nat.le_of_ble_eq_true rfl) dX12_level_107 (fun H locs hP hD hS => ?_)
          refine lv_pop hx hb dX12_level_110 rfl ?_
          refine lv_aload_n hx hb dX12_level_111 rfl (lv_at hl 0 rfl) ?_
          refine gf_X12_62 hx hb hts hown hK hP dX12_level_112 ?_
          refine lv_iload_n hx hb dX12_level_115 rfl (lv_at hl 1 rfl) ?_
          replace h := gin_inv h
          obtain ⟨h9, h⟩ := h
          refine ld_X12_62 (f := q4801.2.2.1 62) (j := x1.toNatClampNeg) hx hb hK hP rfl h9 rfl dX12_level_116 ?_
          exact retI (fr := fun q => q.1) (fw := fun q => cX12 cy ad q.2) h hx hb hr hlocks hK hP hD hS dX12_level_117
        · replace h := (br h).1 c9
          refine lv_bipush (v := (-2)) hx hb dX12_level_102 (by decide) ?_
          exact retI (fr := fun q => q.1) (fw := fun q => cX12 cy ad q.2) h hx hb hr hlocks hK hP hD hS dX12_level_104
      · replace h := (br h).2 c9
        refine lv_aload_n hx hb dX12_level_54 rfl (lv_at hl 0 rfl) ?_
        refine lv_iload hx hb dX12_level_55 (lv_at hl 5 rfl) ?_
        replace h := bd h
        obtain ⟨q4803, h4804, h⟩ := h
        refine callVi0 (As := [.int x5]) (rest := []) hx hb hml hown hts (k_X12_layCode l G cy ev N ad v x5 q4803 h4804) wm_41_11 wm_41_12 wm_41_13 wm_1_5 wm_41_14 hd_X12_layCode ⟨by decide, by decide⟩ hK hP hD hS hA hE (va_recv hK hP (ci := 12) (q0 := 0) rfl rfl) rfl rfl hl.1 (Nat.le_of_ble_eq_true rfl) dX12_level_57 (fun H locs hP hD hS => ?_)
        refine lv_istore (lv' := [(6, .int q4803.1), (0, .ref (ad 0)), (1, .int x1), (2, .int x2), (3, .int x3), (4, .int x4), (5, .int x5)]) hx hb dX12_level_60 hl (by decide) rfl (fun ls hl => ?_)
        refine lv_iload_n hx hb dX12_level_62 rfl (lv_at hl 4 rfl) ?_
        refine lv_iconst (v := (-1)) hx hb dX12_level_63 (by decide) ?_
        refine lv_icmp_eq (tgt := 74) hx hb dX12_level_64 (by decide) (fun c9 => ?_) (fun c9 => ?_)
        · replace h := (br h).1 c9
          exact B74 x3 x4 x5 q4803.1 q4803.2 _ _ _ h hP hD hS (lv_sub hl [1, 2, 3, 4, 5, 6, 0] rfl)
        · replace h := (br h).2 c9
          refine lv_iload hx hb dX12_level_67 (lv_at hl 0 rfl) ?_
          refine lv_iload hx hb dX12_level_69 (lv_at hl 5 rfl) ?_
          refine lv_icmp_ge (tgt := 91) hx hb dX12_level_71 (by decide) (fun c9 => ?_) (fun c9 => ?_)
          · replace h := (br h).1 c9
            exact B91 x3 x4 x5 q4803.2 _ _ _ h hP hD hS (lv_sub hl [1, 2, 3, 4, 5, 6] rfl)
          · replace h := (br h).2 c9
            exact B74 x3 x4 x5 q4803.1 q4803.2 _ _ _ h hP hD hS (lv_sub hl [1, 2, 3, 4, 5, 6, 0] rfl)
  have L19 : ∀ (x1 : Int32) (n : Nat) (x2 : Int32) (x3 : Int32) (v : VV) (H : Heap) (locs : List Loc) (ls : Array Slot), itr (fun q : Int32 × Int32 × VV => f_X12_level_s19 N q.2.2 x1 q.1 q.2.1) n (x2, x3, v) = some res → va_P G vwCl (cX12 cy ad v) H → va_D A (cX12 cy ad v) → va_S A s.heap H locs → lv_has ls 7 [(0, .ref (ad 0)), (1, .int x1), (2, .int x2), (3, .int x3)] → W p l e (rmX 2 48) s m args below meth c H locs 0 0 (MQ below (mQi (res.1) G cy A (cX12 cy ad res.2)) args s 0 0 A) (F0 m 19 ls []) := by
    intro x1 n
    induction n with
    | zero => intro x2 x3 v H locs ls h; exact (itr_zero h).elim
    | succ n ih1 =>
      intro x2 x3 v H locs ls h hP hD hS hl
      obtain ⟨y1, h, hy1⟩ := itr_inv h
      have h : f_X12_level_s19 N v x1 x2 x3 = some y1 := h
      delta f_X12_level_s19 at h
      refine lv_iload_n hx hb dX12_level_19 rfl (lv_at hl 3 rfl) ?_
      refine lv_aload_n hx hb dX12_level_20 rfl (lv_at hl 0 rfl) ?_
      refine gf_X12_3 hx hb hts hown hK hP dX12_level_21 ?_
      refine lv_iconst (v := 2) hx hb dX12_level_24 (by decide) ?_
      refine ld_X12_3 (f := v.2.1 3) (j := 2) hx hb hK hP rfl (vin_dec (by decide)) (by decide) dX12_level_25 ?_
      refine lv_icmp_ge (tgt := 40) hx hb dX12_level_26 (by decide) (fun c9 => ?_) (fun c9 => ?_)
      · replace h := (br h).1 c9
        replace h := itr_exit h hy1
        refine lv_iconst (v := (-1)) hx hb dX12_level_40 (by decide) ?_
        refine lv_istore_n (lv' := [(3, .int ((-1))), (0, .ref (ad 0)), (1, .int x1), (2, .int x2)]) hx hb dX12_level_41 rfl hl (by decide) rfl (fun ls hl => ?_)
        refine lv_iconst (v := 0) hx hb dX12_level_42 (by decide) ?_
        refine lv_istore (lv' := [(4, .int 0), (3, .int ((-1))), (0, .ref (ad 0)), (1, .int x1), (2, .int x2)]) hx hb dX12_level_43 hl (by decide) rfl (fun ls hl => ?_)
        refine lv_iconst (v := 0) hx hb dX12_level_45 (by decide) ?_
        refine lv_istore (lv' := [(5, .int 0), (4, .int 0), (3, .int ((-1))), (0, .ref (ad 0)), (1, .int x1), (2, .int x2)]) hx hb dX12_level_46 hl (by decide) rfl (fun ls hl => ?_)
        exact L48 x1 x2 N ((-1)) 0 0 v _ _ _ h hP hD hS (lv_sub hl [3, 4, 5, 2, 1, 0] rfl)
      · replace h := (br h).2 c9
        refine lv_iload_n hx hb dX12_level_29 rfl (lv_at hl 2 rfl) ?_
        refine lv_bipush (v := 10) hx hb dX12_level_30 (by decide) ?_
        refine lv_imul hx hb dX12_level_32 ?_
        refine lv_istore_n (lv' := [(2, .int (x2 * 10)), (0, .ref (ad 0)), (1, .int x1), (3, .int x3)]) hx hb dX12_level_33 rfl hl (by decide) rfl (fun ls hl => ?_)
        refine lv_iinc (v := x3 + 1) (lv' := [(3, .int (x3 + 1)), (2, .int (x2 * 10)), (0, .ref (ad 0)), (1, .int x1)]) hx hb dX12_level_34 hl (k := 3) rfl rfl (by decide) rfl (fun ls hl => ?_)
        refine lv_goto (tgt := 19) hx hb dX12_level_37 (by decide) ?_
        replace h := itr_back h hy1
        exact ih1 (x2 * 10) (x3 + 1) v _ _ _ h hP hD hS (lv_sub hl [2, 3, 1, 0] rfl)
  delta f_X12_level at h
  refine lv_aload_n hx hb dX12_level_0 rfl (lv_at hl 0 rfl) ?_
  refine lv_iconst (v := 0) hx hb dX12_level_1 (by decide) ?_
  refine pf_X12_0 hx hb hts hown hK hP hD hS dX12_level_2 (fun H locs hP hD hS => ?_)
  refine lv_aload_n hx hb dX12_level_5 rfl (lv_at hl 0 rfl) ?_
  refine lv_iload_n hx hb dX12_level_6 rfl (lv_at hl 1 rfl) ?_
  replace h := bd h
  obtain ⟨q1, h2, h⟩ := h
  refine callVi0 (As := [.int a1]) (rest := []) hx hb hml hown hts (k_X12_isSitting l G cy ev ad (si v 0 0) a1 q1 h2) wm_28_12 wm_28_13 wm_28_14 wm_1_5 wm_28_15 hd_X12_isSitting ⟨by decide, by decide⟩ hK hP hD hS hA hE (va_recv hK hP (ci := 12) (q0 := 0) rfl rfl) rfl rfl hl.1 (Nat.le_of_ble_eq_true rfl) dX12_level_7 (fun H locs hP hD hS => ?_)
  refine lv_if_ne (tgt := 15) hx hb dX12_level_10 (by decide) (fun c9 => ?_) (fun c9 => ?_)
  · replace h := (br h).2 c9
    refine lv_iconst (v := 1) hx hb dX12_level_15 (by decide) ?_
    refine lv_istore_n (lv' := [(2, .int 1), (0, .ref (ad 0)), (1, .int a1)]) hx hb dX12_level_16 rfl hl (by decide) rfl (fun ls hl => ?_)
    refine lv_iconst (v := 0) hx hb dX12_level_17 (by decide) ?_
    refine lv_istore_n (lv' := [(3, .int 0), (2, .int 1), (0, .ref (ad 0)), (1, .int a1)]) hx hb dX12_level_18 rfl hl (by decide) rfl (fun ls hl => ?_)
    exact L19 a1 N 1 0 (si v 0 0) _ _ _ h hP hD hS (lv_sub hl [2, 3, 1, 0] rfl)
  · replace h := (br h).1 c9
    refine lv_iconst (v := (-1)) hx hb dX12_level_13 (by decide) ?_
    exact retI (fr := fun q => q.1) (fw := fun q => cX12 cy ad q.2) h hx hb hr hlocks hK hP hD hS dX12_level_14
theorem hd_X12_common : yX12_common.cls = RX12 ∧ yX12_common.cls ≠ "java/lang/invoke/MethodHandle" ∧ yX12_common.cls ≠ "java/lang/invoke/VarHandle" ∧ (parseMethodDescriptor yX12_common.desc).map (fun d => d.parameters.length) = some 2 := ⟨rfl, by decide +kernel, by decide +kernel, by decide +kernel⟩
def f_X12_common_s6 (N : Nat) (x4 : Int64) (x6 : Int64) : Option (((Int64 × Int64) ⊕ (Int64))) :=
  if x6 = 0 then inrO (some x4) else gnzL x6 (some (.inl (x6, x4 - x4 / x6 * x6)))
def f_X12_common (N : Nat) (a1 : Int64) (a2 : Int64) : Option (Int64) :=
  itr (fun q : Int64 × Int64 => f_X12_common_s6 N q.1 q.2) N (a1, a2)
set_option maxHeartbeats 4000000 in
set_option maxRecDepth 100000 in
theorem k_X12_common (l : Launch) (G : va_G) (cy : Nat → ClassId) (ev : Nat → Nat) (N : Nat) (w : va_W)  (a1 : Int64) (a2 : Int64) (res : Int64) (h : f_X12_common N a1 a2 = some res) : MetL l yX12_common cX12_common 10 (some .long) 0 0 G cy ev [.long a1, .long a2] (w) res (w) := by
  refine MetQ.start (by decide +kernel) (Nat.le_of_ble_eq_true rfl) (fun p e s m args below meth c A ls hx hb hr hml hown hts hlocks hK hP hD hA hl hE => ?_)
  have hS : va_S A s.heap s.heap [] := va_S.rf
  have hown : s.vm.findClass RX12 = some m.cls := hown
  have hl : lv_has ls 10 [(0, .long a1), (2, .long a2)] := hl
  have L6 : ∀ (n : Nat) (x4 : Int64) (x6 : Int64) (H : Heap) (locs : List Loc) (ls : Array Slot), itr (fun q : Int64 × Int64 => f_X12_common_s6 N q.1 q.2) n (x4, x6) = some res → va_P G vwCl (w) H → va_D A (w) → va_S A s.heap H locs → lv_has ls 10 [(4, .long x4), (6, .long x6)] → W p l e (rmX 0 0) s m args below meth c H locs 0 0 (MQ below (mQl (res) G cy A (w)) args s 0 0 A) (F0 m 6 ls []) := by
    intro n
    induction n with
    | zero => intro x4 x6 H locs ls h; exact (itr_zero h).elim
    | succ n ih1 =>
      intro x4 x6 H locs ls h hP hD hS hl
      obtain ⟨y1, h, hy1⟩ := itr_inv h
      have h : f_X12_common_s6 N x4 x6 = some y1 := h
      delta f_X12_common_s6 at h
      refine lv_lload hx hb dX12_common_6 (lv_at hl 1 rfl) ?_
      refine lv_lconst (v := 0) hx hb dX12_common_8 (by decide) ?_
      refine lcmp_eq (tgt := 31) hx hb dX12_common_9 dX12_common_10 (by decide) (fun c9 => ?_) (fun c9 => ?_)
      · replace h := (br h).1 c9
        replace h := itr_exit h hy1
        refine lv_lload hx hb dX12_common_31 (lv_at hl 0 rfl) ?_
        exact retL (fr := fun q => q) (fw := fun _ => w) h hx hb hr hlocks hK hP hD hS dX12_common_33
      · replace h := (br h).2 c9
        refine lv_lload hx hb dX12_common_13 (lv_at hl 0 rfl) ?_
        refine lv_lload hx hb dX12_common_15 (lv_at hl 1 rfl) ?_
        replace h := gnzL_inv h
        obtain ⟨h9, h⟩ := h
        refine lv_lrem hx hb dX12_common_17 h9 ?_
        refine lv_lstore (lv' := [(8, .long (x4 - x4 / x6 * x6)), (4, .long x4), (6, .long x6)]) hx hb dX12_common_18 hl (by decide) rfl (fun ls hl => ?_)
        refine lv_lload hx hb dX12_common_20 (lv_at hl 2 rfl) ?_
        refine lv_lstore (lv' := [(4, .long x6), (8, .long (x4 - x4 / x6 * x6)), (6, .long x6)]) hx hb dX12_common_22 hl (by decide) rfl (fun ls hl => ?_)
        refine lv_lload hx hb dX12_common_24 (lv_at hl 1 rfl) ?_
        refine lv_lstore (lv' := [(6, .long (x4 - x4 / x6 * x6)), (4, .long x6), (8, .long (x4 - x4 / x6 * x6))]) hx hb dX12_common_26 hl (by decide) rfl (fun ls hl => ?_)
        refine lv_goto (tgt := 6) hx hb dX12_common_28 (by decide) ?_
        replace h := itr_back h hy1
        exact ih1 x6 (x4 - x4 / x6 * x6) _ _ _ h hP hD hS (lv_sub hl [1, 0] rfl)
  delta f_X12_common at h
  refine lv_lload_n hx hb dX12_common_0 rfl (lv_at hl 0 rfl) ?_
  refine lv_lstore (lv' := [(4, .long a1), (0, .long a1), (2, .long a2)]) hx hb dX12_common_1 hl (by decide) rfl (fun ls hl => ?_)
  refine lv_lload_n hx hb dX12_common_3 rfl (lv_at hl 2 rfl) ?_
  refine lv_lstore (lv' := [(6, .long a2), (4, .long a1), (0, .long a1), (2, .long a2)]) hx hb dX12_common_4 hl (by decide) rfl (fun ls hl => ?_)
  exact L6  N a1 a2 _ _ _ h hP hD hS (lv_sub hl [1, 0] rfl)
theorem hd_X12_crowd : yX12_crowd.cls = RX12 ∧ yX12_crowd.cls ≠ "java/lang/invoke/MethodHandle" ∧ yX12_crowd.cls ≠ "java/lang/invoke/VarHandle" ∧ (parseMethodDescriptor yX12_crowd.desc).map (fun d => d.parameters.length) = some 2 := ⟨rfl, by decide +kernel, by decide +kernel, by decide +kernel⟩
def f_X12_crowd_b219 (N : Nat) (v : VV) (x1 : Int32) (x2 : Int32) (x3 : Int32) (x4 : Int64) (x6 : Int64) (x8 : Int32) : Option (((Int64 × Int32 × VV) ⊕ (Int64 × VV))) :=
  some (.inl (x6, x8 + 1, v))
def f_X12_crowd_b192 (N : Nat) (v : VV) (x1 : Int32) (x2 : Int32) (x3 : Int32) (x4 : Int64) (x6 : Int64) (x8 : Int32) (x10 : Int64) (x12 : Int32) (z0 : Int32) (z1 : Int32) : Option (((Int32 × Int64 × Int32 × VV) ⊕ (((Int64 × Int32 × VV) ⊕ (Int64 × VV))))) :=
  some (.inl (z1 + z0, x10, x12 + 1, v))
def f_X12_crowd_b166 (N : Nat) (v : VV) (x1 : Int32) (x2 : Int32) (x3 : Int32) (x4 : Int64) (x6 : Int64) (x8 : Int32) (x9 : Int32) (x12 : Int32) (x14 : Int32) (z0 : Int64) (z1 : Int64) : Option (((Int32 × Int64 × Int32 × VV) ⊕ (((Int64 × Int32 × VV) ⊕ (Int64 × VV))))) :=
  if x14 = 0 then f_X12_crowd_b192 N v x1 x2 x3 x4 x6 x8 (z1 * z0) x12 0 x9 else gin x12 8 (gin (v.2.1 63 x12.toNatClampNeg) 16 (f_X12_crowd_b192 N v x1 x2 x3 x4 x6 x8 (z1 * z0) x12 (v.2.1 5 ((v.2.1 63 x12.toNatClampNeg).toNatClampNeg)) x9))
def f_X12_crowd_b145 (N : Nat) (v : VV) (x1 : Int32) (x2 : Int32) (x3 : Int32) (x4 : Int64) (x6 : Int64) (x8 : Int32) (x9 : Int32) (x10 : Int64) (x12 : Int32) (x13 : Int32) (z0 : Int32) : Option (((Int32 × Int64 × Int32 × VV) ⊕ (((Int64 × Int32 × VV) ⊕ (Int64 × VV))))) :=
  if z0 = 0 then f_X12_crowd_b166 N v x1 x2 x3 x4 x6 x8 x9 x12 z0 x13.toInt64 x10 else f_X12_crowd_b166 N v x1 x2 x3 x4 x6 x8 x9 x12 z0 ((100 - x13).toInt64) x10
def f_X12_crowd_s107 (N : Nat) (v : VV) (x1 : Int32) (x2 : Int32) (x3 : Int32) (x4 : Int64) (x6 : Int64) (x8 : Int32) (x9 : Int32) (x10 : Int64) (x12 : Int32) : Option (((Int32 × Int64 × Int32 × VV) ⊕ (((Int64 × Int32 × VV) ⊕ (Int64 × VV))))) :=
  if x3 ≤ x12 then inrO (if x9 ≤ v.2.1 3 1 then f_X12_crowd_b219 N v x1 x2 x3 x4 x6 x8 else f_X12_crowd_b219 N v x1 x2 x3 x4 (x6 + x10) x8) else gin x12 8 (bnd (f_X12_missOf N v 0 (v.2.1 63 x12.toNatClampNeg) x1 0) (fun q10701 => if (x8 >>> (x12 &&& 31)) &&& 1 = 1 then f_X12_crowd_b145 N q10701.2 x1 x2 x3 x4 x6 x8 x9 x10 x12 q10701.1 1 else f_X12_crowd_b145 N q10701.2 x1 x2 x3 x4 x6 x8 x9 x10 x12 q10701.1 0))
def f_X12_crowd_s90 (N : Nat) (v : VV) (x1 : Int32) (x2 : Int32) (x3 : Int32) (x4 : Int64) (x6 : Int64) (x8 : Int32) : Option (((Int64 × Int32 × VV) ⊕ (Int64 × VV))) :=
  if (1 : Int32) <<< (x3 &&& 31) ≤ x8 then inrO (bnd (f_X12_common N x6 x4) (fun q9001 => if x2 = 0 then gnzL q9001 (some (x6 / q9001, v)) else gnzL q9001 (some (x4 / q9001, v)))) else itr (fun q : Int32 × Int64 × Int32 × VV => f_X12_crowd_s107 N q.2.2.2 x1 x2 x3 x4 x6 x8 q.1 q.2.1 q.2.2.1) N (0, 1, 0, v)
def f_X12_crowd_b78 (N : Nat) (v : VV) (x1 : Int32) (x2 : Int32) (x3 : Int32) (x4 : Int64) (x6 : Int32) : Option (((Int32 × Int64 × Int32 × VV) ⊕ (Int64 × VV))) :=
  some (.inl (x3, x4, x6 + 1, v))
def f_X12_crowd_s34 (N : Nat) (v : VV) (x1 : Int32) (x2 : Int32) (x3 : Int32) (x4 : Int64) (x6 : Int32) : Option (((Int32 × Int64 × Int32 × VV) ⊕ (Int64 × VV))) :=
  if v.2.1 3 0 ≤ x6 then inrO (itr (fun q : Int64 × Int32 × VV => f_X12_crowd_s90 N q.2.2 x1 x2 x3 x4 q.1 q.2.1) N (0, 0, v)) else gin x6 184 (if v.2.1 37 x6.toNatClampNeg = x1 then gin x3 8 (f_X12_crowd_b78 N (sr v 63 x3.toNatClampNeg x6) x1 x2 (x3 + 1) (x4 * 100) x6) else f_X12_crowd_b78 N v x1 x2 x3 x4 x6)
def f_X12_crowd_b22 (N : Nat) (v : VV)  : Option (Int64 × VV) :=
  some ((-1), v)
def f_X12_crowd (N : Nat) (v : VV) (a1 : Int32) (a2 : Int32) : Option (Int64 × VV) :=
  bnd (f_X12_isSitting (si v 0 0) a1) (fun q1 => if q1 = 0 then f_X12_crowd_b22 N (si v 0 0) else if a2 < 0 then f_X12_crowd_b22 N (si v 0 0) else if a2 ≤ 1 then itr (fun q : Int32 × Int64 × Int32 × VV => f_X12_crowd_s34 N q.2.2.2 a1 a2 q.1 q.2.1 q.2.2.1) N (0, 1, 0, si v 0 0) else f_X12_crowd_b22 N (si v 0 0))
set_option maxHeartbeats 4000000 in
set_option maxRecDepth 100000 in
theorem k_X12_crowd (l : Launch) (G : va_G) (cy : Nat → ClassId) (ev : Nat → Nat) (N : Nat) (ad : Nat → Nat) (v : VV) (a1 : Int32) (a2 : Int32) (res : Int64 × VV) (h : f_X12_crowd N v a1 a2 = some res) : MetL l yX12_crowd cX12_crowd 15 (some .long) 5 120 G cy ev [.ref (ad 0), .int a1, .int a2] (cX12 cy ad v) res.1 (cX12 cy ad res.2) := by
  refine MetQ.start (by decide +kernel) (Nat.le_of_ble_eq_true rfl) (fun p e s m args below meth c A ls hx hb hr hml hown hts hlocks hK hP hD hA hl hE => ?_)
  have hS : va_S A s.heap s.heap [] := va_S.rf
  have hown : s.vm.findClass RX12 = some m.cls := hown
  have hl : lv_has ls 15 [(0, .ref (ad 0)), (1, .int a1), (2, .int a2)] := hl
  have L90 : ∀ (x1 : Int32) (x2 : Int32) (x3 : Int32) (x4 : Int64) (n : Nat) (x6 : Int64) (x8 : Int32) (v : VV) (H : Heap) (locs : List Loc) (ls : Array Slot), itr (fun q : Int64 × Int32 × VV => f_X12_crowd_s90 N q.2.2 x1 x2 x3 x4 q.1 q.2.1) n (x6, x8, v) = some res → va_P G vwCl (cX12 cy ad v) H → va_D A (cX12 cy ad v) → va_S A s.heap H locs → lv_has ls 15 [(0, .ref (ad 0)), (1, .int x1), (2, .int x2), (3, .int x3), (4, .long x4), (6, .long x6), (8, .int x8)] → W p l e (rmX 5 120) s m args below meth c H locs 0 0 (MQ below (mQl (res.1) G cy A (cX12 cy ad res.2)) args s 0 0 A) (F0 m 90 ls []) := by
    intro x1 x2 x3 x4 n
    induction n with
    | zero => intro x6 x8 v H locs ls h; exact (itr_zero h).elim
    | succ n ih1 =>
      intro x6 x8 v H locs ls h hP hD hS hl
      obtain ⟨y1, h, hy1⟩ := itr_inv h
      have h : f_X12_crowd_s90 N v x1 x2 x3 x4 x6 x8 = some y1 := h
      have B219 : ∀ (x6 : Int64) (x8 : Int32) (v : VV) (H : Heap) (locs : List Loc) (ls : Array Slot), f_X12_crowd_b219 N v x1 x2 x3 x4 x6 x8 = some y1 → va_P G vwCl (cX12 cy ad v) H → va_D A (cX12 cy ad v) → va_S A s.heap H locs → lv_has ls 15 [(0, .ref (ad 0)), (1, .int x1), (2, .int x2), (3, .int x3), (4, .long x4), (6, .long x6), (8, .int x8)] → W p l e (rmX 5 120) s m args below meth c H locs 0 0 (MQ below (mQl (res.1) G cy A (cX12 cy ad res.2)) args s 0 0 A) (F0 m 219 ls []) := by
        intro x6 x8 v H locs ls h hP hD hS hl
        delta f_X12_crowd_b219 at h
        refine lv_iinc (v := x8 + 1) (lv' := [(8, .int (x8 + 1)), (0, .ref (ad 0)), (1, .int x1), (2, .int x2), (3, .int x3), (4, .long x4), (6, .long x6)]) hx hb dX12_crowd_219 hl (k := 6) rfl rfl (by decide) rfl (fun ls hl => ?_)
        refine lv_goto (tgt := 90) hx hb dX12_crowd_222 (by decide) ?_
        replace h := itr_back h hy1
        exact ih1 x6 (x8 + 1) v _ _ _ h hP hD hS (lv_sub hl [1, 2, 3, 4, 5, 6, 0] rfl)
      have L107 : ∀ (x6 : Int64) (x8 : Int32) (n : Nat) (x9 : Int32) (x10 : Int64) (x12 : Int32) (v : VV) (H : Heap) (locs : List Loc) (ls : Array Slot), itr (fun q : Int32 × Int64 × Int32 × VV => f_X12_crowd_s107 N q.2.2.2 x1 x2 x3 x4 x6 x8 q.1 q.2.1 q.2.2.1) n (x9, x10, x12, v) = some y1 → va_P G vwCl (cX12 cy ad v) H → va_D A (cX12 cy ad v) → va_S A s.heap H locs → lv_has ls 15 [(0, .ref (ad 0)), (1, .int x1), (2, .int x2), (3, .int x3), (4, .long x4), (6, .long x6), (8, .int x8), (9, .int x9), (10, .long x10), (12, .int x12)] → W p l e (rmX 5 120) s m args below meth c H locs 0 0 (MQ below (mQl (res.1) G cy A (cX12 cy ad res.2)) args s 0 0 A) (F0 m 107 ls []) := by
        intro x6 x8 n
        induction n with
        | zero => intro x9 x10 x12 v H locs ls h; exact (itr_zero h).elim
        | succ n ih2 =>
          intro x9 x10 x12 v H locs ls h hP hD hS hl
          obtain ⟨y2, h, hy2⟩ := itr_inv h
          have h : f_X12_crowd_s107 N v x1 x2 x3 x4 x6 x8 x9 x10 x12 = some y2 := h
          have B192 : ∀ (x10 : Int64) (x12 : Int32) (z0 : Int32) (z1 : Int32) (v : VV) (H : Heap) (locs : List Loc) (ls : Array Slot), f_X12_crowd_b192 N v x1 x2 x3 x4 x6 x8 x10 x12 z0 z1 = some y2 → va_P G vwCl (cX12 cy ad v) H → va_D A (cX12 cy ad v) → va_S A s.heap H locs → lv_has ls 15 [(0, .ref (ad 0)), (1, .int x1), (2, .int x2), (3, .int x3), (4, .long x4), (6, .long x6), (8, .int x8), (10, .long x10), (12, .int x12)] → W p l e (rmX 5 120) s m args below meth c H locs 0 0 (MQ below (mQl (res.1) G cy A (cX12 cy ad res.2)) args s 0 0 A) (F0 m 192 ls [.int z0, .int z1]) := by
            intro x10 x12 z0 z1 v H locs ls h hP hD hS hl
            delta f_X12_crowd_b192 at h
            refine lv_iadd hx hb dX12_crowd_192 ?_
            refine lv_istore (lv' := [(9, .int (z1 + z0)), (0, .ref (ad 0)), (1, .int x1), (2, .int x2), (3, .int x3), (4, .long x4), (6, .long x6), (8, .int x8), (10, .long x10), (12, .int x12)]) hx hb dX12_crowd_193 hl (by decide) rfl (fun ls hl => ?_)
            refine lv_iinc (v := x12 + 1) (lv' := [(12, .int (x12 + 1)), (9, .int (z1 + z0)), (0, .ref (ad 0)), (1, .int x1), (2, .int x2), (3, .int x3), (4, .long x4), (6, .long x6), (8, .int x8), (10, .long x10)]) hx hb dX12_crowd_195 hl (k := 9) rfl rfl (by decide) rfl (fun ls hl => ?_)
            refine lv_goto (tgt := 107) hx hb dX12_crowd_198 (by decide) ?_
            replace h := itr_back h hy2
            exact ih2 (z1 + z0) x10 (x12 + 1) v _ _ _ h hP hD hS (lv_sub hl [2, 3, 4, 5, 6, 7, 8, 1, 9, 0] rfl)
          have B166 : ∀ (x9 : Int32) (x12 : Int32) (x14 : Int32) (z0 : Int64) (z1 : Int64) (v : VV) (H : Heap) (locs : List Loc) (ls : Array Slot), f_X12_crowd_b166 N v x1 x2 x3 x4 x6 x8 x9 x12 x14 z0 z1 = some y2 → va_P G vwCl (cX12 cy ad v) H → va_D A (cX12 cy ad v) → va_S A s.heap H locs → lv_has ls 15 [(0, .ref (ad 0)), (1, .int x1), (2, .int x2), (3, .int x3), (4, .long x4), (6, .long x6), (8, .int x8), (9, .int x9), (12, .int x12), (14, .int x14)] → W p l e (rmX 5 120) s m args below meth c H locs 0 0 (MQ below (mQl (res.1) G cy A (cX12 cy ad res.2)) args s 0 0 A) (F0 m 166 ls [.long z0, .long z1]) := by
            intro x9 x12 x14 z0 z1 v H locs ls h hP hD hS hl
            delta f_X12_crowd_b166 at h
            refine lv_lmul hx hb dX12_crowd_166 ?_
            refine lv_lstore (lv' := [(10, .long (z1 * z0)), (0, .ref (ad 0)), (1, .int x1), (2, .int x2), (3, .int x3), (4, .long x4), (6, .long x6), (8, .int x8), (9, .int x9), (12, .int x12), (14, .int x14)]) hx hb dX12_crowd_167 hl (by decide) rfl (fun ls hl => ?_)
            refine lv_iload hx hb dX12_crowd_169 (lv_at hl 8 rfl) ?_
            refine lv_iload hx hb dX12_crowd_171 (lv_at hl 10 rfl) ?_
            refine lv_if_eq (tgt := 191) hx hb dX12_crowd_173 (by decide) (fun c9 => ?_) (fun c9 => ?_)
            · replace h := (br h).1 c9
              refine lv_iconst (v := 0) hx hb dX12_crowd_191 (by decide) ?_
              exact B192 (z1 * z0) x12 0 x9 v _ _ _ h hP hD hS (lv_sub hl [1, 2, 3, 4, 5, 6, 7, 0, 9] rfl)
            · replace h := (br h).2 c9
              refine lv_aload_n hx hb dX12_crowd_176 rfl (lv_at hl 1 rfl) ?_
              refine gf_X12_5 hx hb hts hown hK hP dX12_crowd_177 ?_
              refine lv_aload_n hx hb dX12_crowd_180 rfl (lv_at hl 1 rfl) ?_
              refine gf_X12_63 hx hb hts hown hK hP dX12_crowd_181 ?_
              refine lv_iload hx hb dX12_crowd_184 (lv_at hl 9 rfl) ?_
              replace h := gin_inv h
              obtain ⟨h9, h⟩ := h
              refine ld_X12_63 (f := v.2.1 63) (j := x12.toNatClampNeg) hx hb hK hP rfl h9 rfl dX12_crowd_186 ?_
              replace h := gin_inv h
              obtain ⟨h9, h⟩ := h
              refine ld_X12_5 (f := v.2.1 5) (j := (v.2.1 63 x12.toNatClampNeg).toNatClampNeg) hx hb hK hP rfl h9 rfl dX12_crowd_187 ?_
              refine lv_goto (tgt := 192) hx hb dX12_crowd_188 (by decide) ?_
              exact B192 (z1 * z0) x12 (v.2.1 5 ((v.2.1 63 x12.toNatClampNeg).toNatClampNeg)) x9 v _ _ _ h hP hD hS (lv_sub hl [1, 2, 3, 4, 5, 6, 7, 0, 9] rfl)
          have B145 : ∀ (x9 : Int32) (x10 : Int64) (x12 : Int32) (x13 : Int32) (z0 : Int32) (v : VV) (H : Heap) (locs : List Loc) (ls : Array Slot), f_X12_crowd_b145 N v x1 x2 x3 x4 x6 x8 x9 x10 x12 x13 z0 = some y2 → va_P G vwCl (cX12 cy ad v) H → va_D A (cX12 cy ad v) → va_S A s.heap H locs → lv_has ls 15 [(0, .ref (ad 0)), (1, .int x1), (2, .int x2), (3, .int x3), (4, .long x4), (6, .long x6), (8, .int x8), (9, .int x9), (10, .long x10), (12, .int x12), (13, .int x13)] → W p l e (rmX 5 120) s m args below meth c H locs 0 0 (MQ below (mQl (res.1) G cy A (cX12 cy ad res.2)) args s 0 0 A) (F0 m 145 ls [.int z0]) := by
            intro x9 x10 x12 x13 z0 v H locs ls h hP hD hS hl
            delta f_X12_crowd_b145 at h
            refine lv_istore (lv' := [(14, .int z0), (0, .ref (ad 0)), (1, .int x1), (2, .int x2), (3, .int x3), (4, .long x4), (6, .long x6), (8, .int x8), (9, .int x9), (10, .long x10), (12, .int x12), (13, .int x13)]) hx hb dX12_crowd_145 hl (by decide) rfl (fun ls hl => ?_)
            refine lv_lload hx hb dX12_crowd_147 (lv_at hl 9 rfl) ?_
            refine lv_iload hx hb dX12_crowd_149 (lv_at hl 0 rfl) ?_
            refine lv_if_eq (tgt := 163) hx hb dX12_crowd_151 (by decide) (fun c9 => ?_) (fun c9 => ?_)
            · replace h := (br h).1 c9
              refine lv_iload hx hb dX12_crowd_163 (lv_at hl 11 rfl) ?_
              refine lv_i2l (v := x13.toInt64) hx hb dX12_crowd_165 rfl ?_
              exact B166 x9 x12 z0 x13.toInt64 x10 v _ _ _ h hP hD hS (lv_sub hl [1, 2, 3, 4, 5, 6, 7, 8, 10, 0] rfl)
            · replace h := (br h).2 c9
              refine lv_bipush (v := 100) hx hb dX12_crowd_154 (by decide) ?_
              refine lv_iload hx hb dX12_crowd_156 (lv_at hl 11 rfl) ?_
              refine lv_isub hx hb dX12_crowd_158 ?_
              refine lv_i2l (v := (100 - x13).toInt64) hx hb dX12_crowd_159 rfl ?_
              refine lv_goto (tgt := 166) hx hb dX12_crowd_160 (by decide) ?_
              exact B166 x9 x12 z0 ((100 - x13).toInt64) x10 v _ _ _ h hP hD hS (lv_sub hl [1, 2, 3, 4, 5, 6, 7, 8, 10, 0] rfl)
          delta f_X12_crowd_s107 at h
          refine lv_iload hx hb dX12_crowd_107 (lv_at hl 9 rfl) ?_
          refine lv_iload_n hx hb dX12_crowd_109 rfl (lv_at hl 3 rfl) ?_
          refine lv_icmp_ge (tgt := 201) hx hb dX12_crowd_110 (by decide) (fun c9 => ?_) (fun c9 => ?_)
          · replace h := (br h).1 c9
            replace h := itr_exit h hy2
            refine lv_iload hx hb dX12_crowd_201 (lv_at hl 7 rfl) ?_
            refine lv_aload_n hx hb dX12_crowd_203 rfl (lv_at hl 0 rfl) ?_
            refine gf_X12_3 hx hb hts hown hK hP dX12_crowd_204 ?_
            refine lv_iconst (v := 1) hx hb dX12_crowd_207 (by decide) ?_
            refine ld_X12_3 (f := v.2.1 3) (j := 1) hx hb hK hP rfl (vin_dec (by decide)) (by decide) dX12_crowd_208 ?_
            refine lv_icmp_le (tgt := 219) hx hb dX12_crowd_209 (by decide) (fun c9 => ?_) (fun c9 => ?_)
            · replace h := (br h).1 c9
              exact B219 x6 x8 v _ _ _ h hP hD hS (lv_sub hl [0, 1, 2, 3, 4, 5, 6] rfl)
            · replace h := (br h).2 c9
              refine lv_lload hx hb dX12_crowd_212 (lv_at hl 5 rfl) ?_
              refine lv_lload hx hb dX12_crowd_214 (lv_at hl 8 rfl) ?_
              refine lv_ladd hx hb dX12_crowd_216 ?_
              refine lv_lstore (lv' := [(6, .long (x6 + x10)), (0, .ref (ad 0)), (1, .int x1), (2, .int x2), (3, .int x3), (4, .long x4), (8, .int x8), (9, .int x9), (10, .long x10), (12, .int x12)]) hx hb dX12_crowd_217 hl (by decide) rfl (fun ls hl => ?_)
              exact B219 (x6 + x10) x8 v _ _ _ h hP hD hS (lv_sub hl [1, 2, 3, 4, 5, 0, 6] rfl)
          · replace h := (br h).2 c9
            refine lv_aload_n hx hb dX12_crowd_113 rfl (lv_at hl 0 rfl) ?_
            refine lv_iconst (v := 0) hx hb dX12_crowd_114 (by decide) ?_
            refine lv_aload_n hx hb dX12_crowd_115 rfl (lv_at hl 0 rfl) ?_
            refine gf_X12_63 hx hb hts hown hK hP dX12_crowd_116 ?_
            refine lv_iload hx hb dX12_crowd_119 (lv_at hl 9 rfl) ?_
            replace h := gin_inv h
            obtain ⟨h9, h⟩ := h
            refine ld_X12_63 (f := v.2.1 63) (j := x12.toNatClampNeg) hx hb hK hP rfl h9 rfl dX12_crowd_121 ?_
            refine lv_iload_n hx hb dX12_crowd_122 rfl (lv_at hl 1 rfl) ?_
            refine lv_iconst (v := 0) hx hb dX12_crowd_123 (by decide) ?_
            replace h := bd h
            obtain ⟨q10701, h10702, h⟩ := h
            refine callVi0 (As := [.int 0, .int (v.2.1 63 x12.toNatClampNeg), .int x1, .int 0]) (rest := []) hx hb hml hown hts (k_X12_missOf l G cy ev N ad v 0 (v.2.1 63 x12.toNatClampNeg) x1 0 q10701 h10702) wm_36_23 wm_37_0 wm_37_1 wm_1_5 wm_37_2 hd_X12_missOf ⟨by decide, by decide⟩ hK hP hD hS hA hE (va_recv hK hP (ci := 12) (q0 := 0) rfl rfl) rfl rfl hl.1 (Nat.le_of_ble_eq_true rfl) dX12_crowd_124 (fun H locs hP hD hS => ?_)
            refine lv_istore (lv' := [(13, .int q10701.1), (0, .ref (ad 0)), (1, .int x1), (2, .int x2), (3, .int x3), (4, .long x4), (6, .long x6), (8, .int x8), (9, .int x9), (10, .long x10), (12, .int x12)]) hx hb dX12_crowd_127 hl (by decide) rfl (fun ls hl => ?_)
            refine lv_iload hx hb dX12_crowd_129 (lv_at hl 7 rfl) ?_
            refine lv_iload hx hb dX12_crowd_131 (lv_at hl 10 rfl) ?_
            refine lv_ishr hx hb dX12_crowd_133 ?_
            refine lv_iconst (v := 1) hx hb dX12_crowd_134 (by decide) ?_
            refine lv_iand hx hb dX12_crowd_135 ?_
            refine lv_iconst (v := 1) hx hb dX12_crowd_136 (by decide) ?_
            refine lv_icmp_ne (tgt := 144) hx hb dX12_crowd_137 (by decide) (fun c9 => ?_) (fun c9 => ?_)
            · replace h := (br h).2 c9
              refine lv_iconst (v := 0) hx hb dX12_crowd_144 (by decide) ?_
              exact B145 x9 x10 x12 q10701.1 0 q10701.2 _ _ _ h hP hD hS (lv_sub hl [1, 2, 3, 4, 5, 6, 7, 8, 9, 10, 0] rfl)
            · replace h := (br h).1 c9
              refine lv_iconst (v := 1) hx hb dX12_crowd_140 (by decide) ?_
              refine lv_goto (tgt := 145) hx hb dX12_crowd_141 (by decide) ?_
              exact B145 x9 x10 x12 q10701.1 1 q10701.2 _ _ _ h hP hD hS (lv_sub hl [1, 2, 3, 4, 5, 6, 7, 8, 9, 10, 0] rfl)
      delta f_X12_crowd_s90 at h
      refine lv_iload hx hb dX12_crowd_90 (lv_at hl 6 rfl) ?_
      refine lv_iconst (v := 1) hx hb dX12_crowd_92 (by decide) ?_
      refine lv_iload_n hx hb dX12_crowd_93 rfl (lv_at hl 3 rfl) ?_
      refine lv_ishl hx hb dX12_crowd_94 ?_
      refine lv_icmp_ge (tgt := 225) hx hb dX12_crowd_95 (by decide) (fun c9 => ?_) (fun c9 => ?_)
      · replace h := (br h).1 c9
        replace h := itr_exit h hy1
        refine lv_lload hx hb dX12_crowd_225 (lv_at hl 5 rfl) ?_
        refine lv_lload hx hb dX12_crowd_227 (lv_at hl 4 rfl) ?_
        replace h := bd h
        obtain ⟨q9001, h9002, h⟩ := h
        refine callSl0 (As := [.long x6, .long x4]) (rest := []) hx hb hml hown hts (k_X12_common l G cy ev N (cX12 cy ad v) x6 x4 q9001 h9002) wm_42_15 wm_42_16 wm_1_5 wm_42_17 hd_X12_common ⟨by decide, by decide⟩ hK hP hD hS hA hE rfl rfl hl.1 (Nat.le_of_ble_eq_true rfl) dX12_crowd_229 (fun H locs hP hD hS => ?_)
        refine lv_lstore (lv' := [(8, .long q9001), (0, .ref (ad 0)), (1, .int x1), (2, .int x2), (3, .int x3), (4, .long x4), (6, .long x6)]) hx hb dX12_crowd_232 hl (by decide) rfl (fun ls hl => ?_)
        refine lv_iload_n hx hb dX12_crowd_234 rfl (lv_at hl 3 rfl) ?_
        refine lv_if_ne (tgt := 246) hx hb dX12_crowd_235 (by decide) (fun c9 => ?_) (fun c9 => ?_)
        · replace h := (br h).2 c9
          refine lv_lload hx hb dX12_crowd_246 (lv_at hl 5 rfl) ?_
          refine lv_lload hx hb dX12_crowd_248 (lv_at hl 0 rfl) ?_
          replace h := gnzL_inv h
          obtain ⟨h9, h⟩ := h
          refine lv_ldiv hx hb dX12_crowd_250 h9 ?_
          exact retL (fr := fun q => q.1) (fw := fun q => cX12 cy ad q.2) h hx hb hr hlocks hK hP hD hS dX12_crowd_251
        · replace h := (br h).1 c9
          refine lv_lload hx hb dX12_crowd_238 (lv_at hl 6 rfl) ?_
          refine lv_lload hx hb dX12_crowd_240 (lv_at hl 0 rfl) ?_
          replace h := gnzL_inv h
          obtain ⟨h9, h⟩ := h
          refine lv_ldiv hx hb dX12_crowd_242 h9 ?_
          refine lv_goto (tgt := 251) hx hb dX12_crowd_243 (by decide) ?_
          exact retL (fr := fun q => q.1) (fw := fun q => cX12 cy ad q.2) h hx hb hr hlocks hK hP hD hS dX12_crowd_251
      · replace h := (br h).2 c9
        refine lv_iconst (v := 0) hx hb dX12_crowd_98 (by decide) ?_
        refine lv_istore (lv' := [(9, .int 0), (0, .ref (ad 0)), (1, .int x1), (2, .int x2), (3, .int x3), (4, .long x4), (6, .long x6), (8, .int x8)]) hx hb dX12_crowd_99 hl (by decide) rfl (fun ls hl => ?_)
        refine lv_lconst (v := 1) hx hb dX12_crowd_101 (by decide) ?_
        refine lv_lstore (lv' := [(10, .long 1), (9, .int 0), (0, .ref (ad 0)), (1, .int x1), (2, .int x2), (3, .int x3), (4, .long x4), (6, .long x6), (8, .int x8)]) hx hb dX12_crowd_102 hl (by decide) rfl (fun ls hl => ?_)
        refine lv_iconst (v := 0) hx hb dX12_crowd_104 (by decide) ?_
        refine lv_istore (lv' := [(12, .int 0), (10, .long 1), (9, .int 0), (0, .ref (ad 0)), (1, .int x1), (2, .int x2), (3, .int x3), (4, .long x4), (6, .long x6), (8, .int x8)]) hx hb dX12_crowd_105 hl (by decide) rfl (fun ls hl => ?_)
        exact L107 x6 x8 N 0 1 0 v _ _ _ h hP hD hS (lv_sub hl [3, 4, 5, 6, 7, 8, 9, 2, 1, 0] rfl)
  have L34 : ∀ (x1 : Int32) (x2 : Int32) (n : Nat) (x3 : Int32) (x4 : Int64) (x6 : Int32) (v : VV) (H : Heap) (locs : List Loc) (ls : Array Slot), itr (fun q : Int32 × Int64 × Int32 × VV => f_X12_crowd_s34 N q.2.2.2 x1 x2 q.1 q.2.1 q.2.2.1) n (x3, x4, x6, v) = some res → va_P G vwCl (cX12 cy ad v) H → va_D A (cX12 cy ad v) → va_S A s.heap H locs → lv_has ls 15 [(0, .ref (ad 0)), (1, .int x1), (2, .int x2), (3, .int x3), (4, .long x4), (6, .int x6)] → W p l e (rmX 5 120) s m args below meth c H locs 0 0 (MQ below (mQl (res.1) G cy A (cX12 cy ad res.2)) args s 0 0 A) (F0 m 34 ls []) := by
    intro x1 x2 n
    induction n with
    | zero => intro x3 x4 x6 v H locs ls h; exact (itr_zero h).elim
    | succ n ih1 =>
      intro x3 x4 x6 v H locs ls h hP hD hS hl
      obtain ⟨y1, h, hy1⟩ := itr_inv h
      have h : f_X12_crowd_s34 N v x1 x2 x3 x4 x6 = some y1 := h
      have B78 : ∀ (x3 : Int32) (x4 : Int64) (x6 : Int32) (v : VV) (H : Heap) (locs : List Loc) (ls : Array Slot), f_X12_crowd_b78 N v x1 x2 x3 x4 x6 = some y1 → va_P G vwCl (cX12 cy ad v) H → va_D A (cX12 cy ad v) → va_S A s.heap H locs → lv_has ls 15 [(0, .ref (ad 0)), (1, .int x1), (2, .int x2), (3, .int x3), (4, .long x4), (6, .int x6)] → W p l e (rmX 5 120) s m args below meth c H locs 0 0 (MQ below (mQl (res.1) G cy A (cX12 cy ad res.2)) args s 0 0 A) (F0 m 78 ls []) := by
        intro x3 x4 x6 v H locs ls h hP hD hS hl
        delta f_X12_crowd_b78 at h
        refine lv_iinc (v := x6 + 1) (lv' := [(6, .int (x6 + 1)), (0, .ref (ad 0)), (1, .int x1), (2, .int x2), (3, .int x3), (4, .long x4)]) hx hb dX12_crowd_78 hl (k := 5) rfl rfl (by decide) rfl (fun ls hl => ?_)
        refine lv_goto (tgt := 34) hx hb dX12_crowd_81 (by decide) ?_
        replace h := itr_back h hy1
        exact ih1 x3 x4 (x6 + 1) v _ _ _ h hP hD hS (lv_sub hl [1, 2, 3, 4, 5, 0] rfl)
      delta f_X12_crowd_s34 at h
      refine lv_iload hx hb dX12_crowd_34 (lv_at hl 5 rfl) ?_
      refine lv_aload_n hx hb dX12_crowd_36 rfl (lv_at hl 0 rfl) ?_
      refine gf_X12_3 hx hb hts hown hK hP dX12_crowd_37 ?_
      refine lv_iconst (v := 0) hx hb dX12_crowd_40 (by decide) ?_
      refine ld_X12_3 (f := v.2.1 3) (j := 0) hx hb hK hP rfl (vin_dec (by decide)) (by decide) dX12_crowd_41 ?_
      refine lv_icmp_ge (tgt := 84) hx hb dX12_crowd_42 (by decide) (fun c9 => ?_) (fun c9 => ?_)
      · replace h := (br h).1 c9
        replace h := itr_exit h hy1
        refine lv_lconst (v := 0) hx hb dX12_crowd_84 (by decide) ?_
        refine lv_lstore (lv' := [(6, .long 0), (0, .ref (ad 0)), (1, .int x1), (2, .int x2), (3, .int x3), (4, .long x4)]) hx hb dX12_crowd_85 hl (by decide) rfl (fun ls hl => ?_)
        refine lv_iconst (v := 0) hx hb dX12_crowd_87 (by decide) ?_
        refine lv_istore (lv' := [(8, .int 0), (6, .long 0), (0, .ref (ad 0)), (1, .int x1), (2, .int x2), (3, .int x3), (4, .long x4)]) hx hb dX12_crowd_88 hl (by decide) rfl (fun ls hl => ?_)
        exact L90 x1 x2 x3 x4 N 0 0 v _ _ _ h hP hD hS (lv_sub hl [2, 3, 4, 5, 6, 1, 0] rfl)
      · replace h := (br h).2 c9
        refine lv_aload_n hx hb dX12_crowd_45 rfl (lv_at hl 0 rfl) ?_
        refine gf_X12_37 hx hb hts hown hK hP dX12_crowd_46 ?_
        refine lv_iload hx hb dX12_crowd_49 (lv_at hl 5 rfl) ?_
        replace h := gin_inv h
        obtain ⟨h9, h⟩ := h
        refine ld_X12_37 (f := v.2.1 37) (j := x6.toNatClampNeg) hx hb hK hP rfl h9 rfl dX12_crowd_51 ?_
        refine lv_iload_n hx hb dX12_crowd_52 rfl (lv_at hl 1 rfl) ?_
        refine lv_icmp_eq (tgt := 59) hx hb dX12_crowd_53 (by decide) (fun c9 => ?_) (fun c9 => ?_)
        · replace h := (br h).1 c9
          refine lv_aload_n hx hb dX12_crowd_59 rfl (lv_at hl 0 rfl) ?_
          refine gf_X12_63 hx hb hts hown hK hP dX12_crowd_60 ?_
          refine lv_iload_n hx hb dX12_crowd_63 rfl (lv_at hl 3 rfl) ?_
          refine lv_iload hx hb dX12_crowd_64 (lv_at hl 5 rfl) ?_
          replace h := gin_inv h
          obtain ⟨h9, h⟩ := h
          refine st_X12_63 (j := x3.toNatClampNeg) hx hb hK hP hD hS h9 rfl dX12_crowd_66 (fun H locs hP hD hS => ?_)
          refine lv_iinc (v := x3 + 1) (lv' := [(3, .int (x3 + 1)), (0, .ref (ad 0)), (1, .int x1), (2, .int x2), (4, .long x4), (6, .int x6)]) hx hb dX12_crowd_67 hl (k := 3) rfl rfl (by decide) rfl (fun ls hl => ?_)
          refine lv_lload hx hb dX12_crowd_70 (lv_at hl 4 rfl) ?_
          refine lv_ldc2 (v := (100)) hx hb hown (hts _ wm_42_14) dX12_crowd_72 ?_
          refine lv_lmul hx hb dX12_crowd_75 ?_
          refine lv_lstore (lv' := [(4, .long (x4 * 100)), (3, .int (x3 + 1)), (0, .ref (ad 0)), (1, .int x1), (2, .int x2), (6, .int x6)]) hx hb dX12_crowd_76 hl (by decide) rfl (fun ls hl => ?_)
          exact B78 (x3 + 1) (x4 * 100) x6 (sr v 63 x3.toNatClampNeg x6) _ _ _ h hP hD hS (lv_sub hl [2, 3, 4, 1, 0, 5] rfl)
        · replace h := (br h).2 c9
          refine lv_goto (tgt := 78) hx hb dX12_crowd_56 (by decide) ?_
          exact B78 x3 x4 x6 v _ _ _ h hP hD hS (lv_sub hl [0, 1, 2, 3, 4, 5] rfl)
  have B22 : ∀ (v : VV) (H : Heap) (locs : List Loc) (ls : Array Slot), f_X12_crowd_b22 N v = some res → va_P G vwCl (cX12 cy ad v) H → va_D A (cX12 cy ad v) → va_S A s.heap H locs → lv_has ls 15 [] → W p l e (rmX 5 120) s m args below meth c H locs 0 0 (MQ below (mQl (res.1) G cy A (cX12 cy ad res.2)) args s 0 0 A) (F0 m 22 ls []) := by
    intro v H locs ls h hP hD hS hl
    delta f_X12_crowd_b22 at h
    refine lv_ldc2 (v := (-1)) hx hb hown (hts _ wm_42_13) dX12_crowd_22 ?_
    exact retL (fr := fun q => q.1) (fw := fun q => cX12 cy ad q.2) h hx hb hr hlocks hK hP hD hS dX12_crowd_25
  delta f_X12_crowd at h
  refine lv_aload_n hx hb dX12_crowd_0 rfl (lv_at hl 0 rfl) ?_
  refine lv_iconst (v := 0) hx hb dX12_crowd_1 (by decide) ?_
  refine pf_X12_0 hx hb hts hown hK hP hD hS dX12_crowd_2 (fun H locs hP hD hS => ?_)
  refine lv_aload_n hx hb dX12_crowd_5 rfl (lv_at hl 0 rfl) ?_
  refine lv_iload_n hx hb dX12_crowd_6 rfl (lv_at hl 1 rfl) ?_
  replace h := bd h
  obtain ⟨q1, h2, h⟩ := h
  refine callVi0 (As := [.int a1]) (rest := []) hx hb hml hown hts (k_X12_isSitting l G cy ev ad (si v 0 0) a1 q1 h2) wm_28_12 wm_28_13 wm_28_14 wm_1_5 wm_28_15 hd_X12_isSitting ⟨by decide, by decide⟩ hK hP hD hS hA hE (va_recv hK hP (ci := 12) (q0 := 0) rfl rfl) rfl rfl hl.1 (Nat.le_of_ble_eq_true rfl) dX12_crowd_7 (fun H locs hP hD hS => ?_)
  refine lv_if_eq (tgt := 22) hx hb dX12_crowd_10 (by decide) (fun c9 => ?_) (fun c9 => ?_)
  · replace h := (br h).1 c9
    exact B22 (si v 0 0) _ _ _ h hP hD hS (lv_sub hl [] rfl)
  · replace h := (br h).2 c9
    refine lv_iload_n hx hb dX12_crowd_13 rfl (lv_at hl 2 rfl) ?_
    refine lv_if_lt (tgt := 22) hx hb dX12_crowd_14 (by decide) (fun c9 => ?_) (fun c9 => ?_)
    · replace h := (br h).1 c9
      exact B22 (si v 0 0) _ _ _ h hP hD hS (lv_sub hl [] rfl)
    · replace h := (br h).2 c9
      refine lv_iload_n hx hb dX12_crowd_17 rfl (lv_at hl 2 rfl) ?_
      refine lv_iconst (v := 1) hx hb dX12_crowd_18 (by decide) ?_
      refine lv_icmp_le (tgt := 26) hx hb dX12_crowd_19 (by decide) (fun c9 => ?_) (fun c9 => ?_)
      · replace h := (br h).1 c9
        refine lv_iconst (v := 0) hx hb dX12_crowd_26 (by decide) ?_
        refine lv_istore_n (lv' := [(3, .int 0), (0, .ref (ad 0)), (1, .int a1), (2, .int a2)]) hx hb dX12_crowd_27 rfl hl (by decide) rfl (fun ls hl => ?_)
        refine lv_lconst (v := 1) hx hb dX12_crowd_28 (by decide) ?_
        refine lv_lstore (lv' := [(4, .long 1), (3, .int 0), (0, .ref (ad 0)), (1, .int a1), (2, .int a2)]) hx hb dX12_crowd_29 hl (by decide) rfl (fun ls hl => ?_)
        refine lv_iconst (v := 0) hx hb dX12_crowd_31 (by decide) ?_
        refine lv_istore (lv' := [(6, .int 0), (4, .long 1), (3, .int 0), (0, .ref (ad 0)), (1, .int a1), (2, .int a2)]) hx hb dX12_crowd_32 hl (by decide) rfl (fun ls hl => ?_)
        exact L34 a1 a2 N 0 1 0 (si v 0 0) _ _ _ h hP hD hS (lv_sub hl [3, 4, 5, 2, 1, 0] rfl)
      · replace h := (br h).2 c9
        exact B22 (si v 0 0) _ _ _ h hP hD hS (lv_sub hl [] rfl)
theorem hd_X12_late : yX12_late.cls = RX12 ∧ yX12_late.cls ≠ "java/lang/invoke/MethodHandle" ∧ yX12_late.cls ≠ "java/lang/invoke/VarHandle" ∧ (parseMethodDescriptor yX12_late.desc).map (fun d => d.parameters.length) = some 1 := ⟨rfl, by decide +kernel, by decide +kernel, by decide +kernel⟩
def f_X12_late (N : Nat) (v : VV) (a1 : Int32) : Option (Int32 × VV) :=
  bnd (f_X12_isSitting (si v 0 0) a1) (fun q1 => if q1 = 0 then some ((-1), si v 0 0) else bnd (f_X12_today N (si v 0 0)) (fun q3 => bnd (f_X12_lateIn q3 1 a1) (fun q5 => some (q5, q3))))
set_option maxHeartbeats 4000000 in
set_option maxRecDepth 100000 in
theorem k_X12_late (l : Launch) (G : va_G) (cy : Nat → ClassId) (ev : Nat → Nat) (N : Nat) (ad : Nat → Nat) (v : VV) (a1 : Int32) (res : Int32 × VV) (h : f_X12_late N v a1 = some res) : MetI l yX12_late cX12_late 2 (some .int) 9 222 G cy ev [.ref (ad 0), .int a1] (cX12 cy ad v) res.1 (cX12 cy ad res.2) := by
  refine MetQ.start (by decide +kernel) (Nat.le_of_ble_eq_true rfl) (fun p e s m args below meth c A ls hx hb hr hml hown hts hlocks hK hP hD hA hl hE => ?_)
  have hS : va_S A s.heap s.heap [] := va_S.rf
  have hown : s.vm.findClass RX12 = some m.cls := hown
  have hl : lv_has ls 2 [(0, .ref (ad 0)), (1, .int a1)] := hl
  delta f_X12_late at h
  refine lv_aload_n hx hb dX12_late_0 rfl (lv_at hl 0 rfl) ?_
  refine lv_iconst (v := 0) hx hb dX12_late_1 (by decide) ?_
  refine pf_X12_0 hx hb hts hown hK hP hD hS dX12_late_2 (fun H locs hP hD hS => ?_)
  refine lv_aload_n hx hb dX12_late_5 rfl (lv_at hl 0 rfl) ?_
  refine lv_iload_n hx hb dX12_late_6 rfl (lv_at hl 1 rfl) ?_
  replace h := bd h
  obtain ⟨q1, h2, h⟩ := h
  refine callVi0 (As := [.int a1]) (rest := []) hx hb hml hown hts (k_X12_isSitting l G cy ev ad (si v 0 0) a1 q1 h2) wm_28_12 wm_28_13 wm_28_14 wm_1_5 wm_28_15 hd_X12_isSitting ⟨by decide, by decide⟩ hK hP hD hS hA hE (va_recv hK hP (ci := 12) (q0 := 0) rfl rfl) rfl rfl hl.1 (Nat.le_of_ble_eq_true rfl) dX12_late_7 (fun H locs hP hD hS => ?_)
  refine lv_if_ne (tgt := 15) hx hb dX12_late_10 (by decide) (fun c9 => ?_) (fun c9 => ?_)
  · replace h := (br h).2 c9
    refine lv_aload_n hx hb dX12_late_15 rfl (lv_at hl 0 rfl) ?_
    replace h := bd h
    obtain ⟨q3, h4, h⟩ := h
    refine callVv0 (As := []) (rest := []) hx hb hml hown hts (k_X12_today l G cy ev N ad (si v 0 0) q3 h4) wm_43_11 wm_43_12 wm_43_13 wm_1_5 wm_43_14 hd_X12_today ⟨by decide, by decide⟩ hK hP hD hS hA hE (va_recv hK hP (ci := 12) (q0 := 0) rfl rfl) rfl rfl hl.1 (Nat.le_of_ble_eq_true rfl) dX12_late_16 (fun H locs hP hD hS => ?_)
    refine lv_aload_n hx hb dX12_late_19 rfl (lv_at hl 0 rfl) ?_
    refine lv_iconst (v := 1) hx hb dX12_late_20 (by decide) ?_
    refine lv_iload_n hx hb dX12_late_21 rfl (lv_at hl 1 rfl) ?_
    replace h := bd h
    obtain ⟨q5, h6, h⟩ := h
    refine callVi0 (As := [.int 1, .int a1]) (rest := []) hx hb hml hown hts (k_X12_lateIn l G cy ev ad q3 1 a1 q5 h6) wm_43_15 wm_43_16 wm_43_17 wm_1_5 wm_43_18 hd_X12_lateIn ⟨by decide, by decide⟩ hK hP hD hS hA hE (va_recv hK hP (ci := 12) (q0 := 0) rfl rfl) rfl rfl hl.1 (Nat.le_of_ble_eq_true rfl) dX12_late_22 (fun H locs hP hD hS => ?_)
    exact retI (fr := fun q => q.1) (fw := fun q => cX12 cy ad q.2) h hx hb hr hlocks hK hP hD hS dX12_late_25
  · replace h := (br h).1 c9
    refine lv_iconst (v := (-1)) hx hb dX12_late_13 (by decide) ?_
    exact retI (fr := fun q => q.1) (fw := fun q => cX12 cy ad q.2) h hx hb hr hlocks hK hP hD hS dX12_late_14
theorem hd_X12_catchUp : yX12_catchUp.cls = RX12 ∧ yX12_catchUp.cls ≠ "java/lang/invoke/MethodHandle" ∧ yX12_catchUp.cls ≠ "java/lang/invoke/VarHandle" ∧ (parseMethodDescriptor yX12_catchUp.desc).map (fun d => d.parameters.length) = some 1 := ⟨rfl, by decide +kernel, by decide +kernel, by decide +kernel⟩
def f_X12_catchUp_s21 (N : Nat) (v : VV) (x1 : Int32) (x2 : Int32) : Option (((Int32 × VV) ⊕ (Int32 × VV))) :=
  if (3 : Int32) < x2 then inrO (some ((-2), v)) else bnd (f_X12_copies N v 1 0) (fun q2101 => gin ((3 + x1) - 1) 69 (bnd (f_X12_passes N (sr q2101 42 (((3 + x1) - 1).toNatClampNeg) x2) 1 0) (fun q2103 => bnd (f_X12_lateIn q2103 1 x1) (fun q2105 => if q2105 = 0 then inrO (some (x2, q2103)) else some (.inl (x2 + 1, q2103))))))
def f_X12_catchUp (N : Nat) (v : VV) (a1 : Int32) : Option (Int32 × VV) :=
  bnd (f_X12_isSitting (si v 0 0) a1) (fun q1 => if q1 = 0 then some ((-1), si v 0 0) else if a1 = 0 then some ((-1), si v 0 0) else itr (fun q : Int32 × VV => f_X12_catchUp_s21 N q.2 a1 q.1) N (0, si v 0 0))
set_option maxHeartbeats 4000000 in
set_option maxRecDepth 100000 in
theorem k_X12_catchUp (l : Launch) (G : va_G) (cy : Nat → ClassId) (ev : Nat → Nat) (N : Nat) (ad : Nat → Nat) (v : VV) (a1 : Int32) (res : Int32 × VV) (h : f_X12_catchUp N v a1 = some res) : MetI l yX12_catchUp cX12_catchUp 3 (some .int) 8 202 G cy ev [.ref (ad 0), .int a1] (cX12 cy ad v) res.1 (cX12 cy ad res.2) := by
  refine MetQ.start (by decide +kernel) (Nat.le_of_ble_eq_true rfl) (fun p e s m args below meth c A ls hx hb hr hml hown hts hlocks hK hP hD hA hl hE => ?_)
  have hS : va_S A s.heap s.heap [] := va_S.rf
  have hown : s.vm.findClass RX12 = some m.cls := hown
  have hl : lv_has ls 3 [(0, .ref (ad 0)), (1, .int a1)] := hl
  have L21 : ∀ (x1 : Int32) (n : Nat) (x2 : Int32) (v : VV) (H : Heap) (locs : List Loc) (ls : Array Slot), itr (fun q : Int32 × VV => f_X12_catchUp_s21 N q.2 x1 q.1) n (x2, v) = some res → va_P G vwCl (cX12 cy ad v) H → va_D A (cX12 cy ad v) → va_S A s.heap H locs → lv_has ls 3 [(0, .ref (ad 0)), (1, .int x1), (2, .int x2)] → W p l e (rmX 8 202) s m args below meth c H locs 0 0 (MQ below (mQi (res.1) G cy A (cX12 cy ad res.2)) args s 0 0 A) (F0 m 21 ls []) := by
    intro x1 n
    induction n with
    | zero => intro x2 v H locs ls h; exact (itr_zero h).elim
    | succ n ih1 =>
      intro x2 v H locs ls h hP hD hS hl
      obtain ⟨y1, h, hy1⟩ := itr_inv h
      have h : f_X12_catchUp_s21 N v x1 x2 = some y1 := h
      delta f_X12_catchUp_s21 at h
      refine lv_iload_n hx hb dX12_catchUp_21 rfl (lv_at hl 2 rfl) ?_
      refine lv_iconst (v := 3) hx hb dX12_catchUp_22 (by decide) ?_
      refine lv_icmp_gt (tgt := 66) hx hb dX12_catchUp_23 (by decide) (fun c9 => ?_) (fun c9 => ?_)
      · replace h := (br h).1 c9
        replace h := itr_exit h hy1
        refine lv_bipush (v := (-2)) hx hb dX12_catchUp_66 (by decide) ?_
        exact retI (fr := fun q => q.1) (fw := fun q => cX12 cy ad q.2) h hx hb hr hlocks hK hP hD hS dX12_catchUp_68
      · replace h := (br h).2 c9
        refine lv_aload_n hx hb dX12_catchUp_26 rfl (lv_at hl 0 rfl) ?_
        refine lv_iconst (v := 1) hx hb dX12_catchUp_27 (by decide) ?_
        refine lv_iconst (v := 0) hx hb dX12_catchUp_28 (by decide) ?_
        replace h := bd h
        obtain ⟨q2101, h2102, h⟩ := h
        refine callVv0 (As := [.int 1, .int 0]) (rest := []) hx hb hml hown hts (k_X12_copies l G cy ev N ad v 1 0 q2101 h2102) wm_32_14 wm_32_15 wm_32_16 wm_1_5 wm_32_17 hd_X12_copies ⟨by decide, by decide⟩ hK hP hD hS hA hE (va_recv hK hP (ci := 12) (q0 := 0) rfl rfl) rfl rfl hl.1 (Nat.le_of_ble_eq_true rfl) dX12_catchUp_29 (fun H locs hP hD hS => ?_)
        refine lv_aload_n hx hb dX12_catchUp_32 rfl (lv_at hl 0 rfl) ?_
        refine gf_X12_42 hx hb hts hown hK hP dX12_catchUp_33 ?_
        refine lv_iconst (v := 3) hx hb dX12_catchUp_36 (by decide) ?_
        refine lv_iload_n hx hb dX12_catchUp_37 rfl (lv_at hl 1 rfl) ?_
        refine lv_iadd hx hb dX12_catchUp_38 ?_
        refine lv_iconst (v := 1) hx hb dX12_catchUp_39 (by decide) ?_
        refine lv_isub hx hb dX12_catchUp_40 ?_
        refine lv_iload_n hx hb dX12_catchUp_41 rfl (lv_at hl 2 rfl) ?_
        replace h := gin_inv h
        obtain ⟨h9, h⟩ := h
        refine st_X12_42 (j := ((3 + x1) - 1).toNatClampNeg) hx hb hK hP hD hS h9 rfl dX12_catchUp_42 (fun H locs hP hD hS => ?_)
        refine lv_aload_n hx hb dX12_catchUp_43 rfl (lv_at hl 0 rfl) ?_
        refine lv_iconst (v := 1) hx hb dX12_catchUp_44 (by decide) ?_
        refine lv_iconst (v := 0) hx hb dX12_catchUp_45 (by decide) ?_
        replace h := bd h
        obtain ⟨q2103, h2104, h⟩ := h
        refine callVv0 (As := [.int 1, .int 0]) (rest := []) hx hb hml hown hts (k_X12_passes l G cy ev N ad (sr q2101 42 (((3 + x1) - 1).toNatClampNeg) x2) 1 0 q2103 h2104) wm_35_12 wm_35_13 wm_35_14 wm_1_5 wm_35_15 hd_X12_passes ⟨by decide, by decide⟩ hK hP hD hS hA hE (va_recv hK hP (ci := 12) (q0 := 0) rfl rfl) rfl rfl hl.1 (Nat.le_of_ble_eq_true rfl) dX12_catchUp_46 (fun H locs hP hD hS => ?_)
        refine lv_aload_n hx hb dX12_catchUp_49 rfl (lv_at hl 0 rfl) ?_
        refine lv_iconst (v := 1) hx hb dX12_catchUp_50 (by decide) ?_
        refine lv_iload_n hx hb dX12_catchUp_51 rfl (lv_at hl 1 rfl) ?_
        replace h := bd h
        obtain ⟨q2105, h2106, h⟩ := h
        refine callVi0 (As := [.int 1, .int x1]) (rest := []) hx hb hml hown hts (k_X12_lateIn l G cy ev ad q2103 1 x1 q2105 h2106) wm_43_15 wm_43_16 wm_43_17 wm_1_5 wm_43_18 hd_X12_lateIn ⟨by decide, by decide⟩ hK hP hD hS hA hE (va_recv hK hP (ci := 12) (q0 := 0) rfl rfl) rfl rfl hl.1 (Nat.le_of_ble_eq_true rfl) dX12_catchUp_52 (fun H locs hP hD hS => ?_)
        refine lv_if_ne (tgt := 60) hx hb dX12_catchUp_55 (by decide) (fun c9 => ?_) (fun c9 => ?_)
        · replace h := (br h).2 c9
          refine lv_iinc (v := x2 + 1) (lv' := [(2, .int (x2 + 1)), (0, .ref (ad 0)), (1, .int x1)]) hx hb dX12_catchUp_60 hl (k := 2) rfl rfl (by decide) rfl (fun ls hl => ?_)
          refine lv_goto (tgt := 21) hx hb dX12_catchUp_63 (by decide) ?_
          replace h := itr_back h hy1
          exact ih1 (x2 + 1) q2103 _ _ _ h hP hD hS (lv_sub hl [1, 2, 0] rfl)
        · replace h := (br h).1 c9
          replace h := itr_exit h hy1
          refine lv_iload_n hx hb dX12_catchUp_58 rfl (lv_at hl 2 rfl) ?_
          exact retI (fr := fun q => q.1) (fw := fun q => cX12 cy ad q.2) h hx hb hr hlocks hK hP hD hS dX12_catchUp_59
  delta f_X12_catchUp at h
  refine lv_aload_n hx hb dX12_catchUp_0 rfl (lv_at hl 0 rfl) ?_
  refine lv_iconst (v := 0) hx hb dX12_catchUp_1 (by decide) ?_
  refine pf_X12_0 hx hb hts hown hK hP hD hS dX12_catchUp_2 (fun H locs hP hD hS => ?_)
  refine lv_aload_n hx hb dX12_catchUp_5 rfl (lv_at hl 0 rfl) ?_
  refine lv_iload_n hx hb dX12_catchUp_6 rfl (lv_at hl 1 rfl) ?_
  replace h := bd h
  obtain ⟨q1, h2, h⟩ := h
  refine callVi0 (As := [.int a1]) (rest := []) hx hb hml hown hts (k_X12_isSitting l G cy ev ad (si v 0 0) a1 q1 h2) wm_28_12 wm_28_13 wm_28_14 wm_1_5 wm_28_15 hd_X12_isSitting ⟨by decide, by decide⟩ hK hP hD hS hA hE (va_recv hK hP (ci := 12) (q0 := 0) rfl rfl) rfl rfl hl.1 (Nat.le_of_ble_eq_true rfl) dX12_catchUp_7 (fun H locs hP hD hS => ?_)
  refine lv_if_eq (tgt := 17) hx hb dX12_catchUp_10 (by decide) (fun c9 => ?_) (fun c9 => ?_)
  · replace h := (br h).1 c9
    refine lv_iconst (v := (-1)) hx hb dX12_catchUp_17 (by decide) ?_
    exact retI (fr := fun q => q.1) (fw := fun q => cX12 cy ad q.2) h hx hb hr hlocks hK hP hD hS dX12_catchUp_18
  · replace h := (br h).2 c9
    refine lv_iload_n hx hb dX12_catchUp_13 rfl (lv_at hl 1 rfl) ?_
    refine lv_if_ne (tgt := 19) hx hb dX12_catchUp_14 (by decide) (fun c9 => ?_) (fun c9 => ?_)
    · replace h := (br h).2 c9
      refine lv_iconst (v := 0) hx hb dX12_catchUp_19 (by decide) ?_
      refine lv_istore_n (lv' := [(2, .int 0), (0, .ref (ad 0)), (1, .int a1)]) hx hb dX12_catchUp_20 rfl hl (by decide) rfl (fun ls hl => ?_)
      exact L21 a1 N 0 (si v 0 0) _ _ _ h hP hD hS (lv_sub hl [1, 2, 0] rfl)
    · replace h := (br h).1 c9
      refine lv_iconst (v := (-1)) hx hb dX12_catchUp_17 (by decide) ?_
      exact retI (fr := fun q => q.1) (fw := fun q => cX12 cy ad q.2) h hx hb hr hlocks hK hP hD hS dX12_catchUp_18
theorem hd_X12_isAnyLate : yX12_isAnyLate.cls = RX12 ∧ yX12_isAnyLate.cls ≠ "java/lang/invoke/MethodHandle" ∧ yX12_isAnyLate.cls ≠ "java/lang/invoke/VarHandle" ∧ (parseMethodDescriptor yX12_isAnyLate.desc).map (fun d => d.parameters.length) = some 0 := ⟨rfl, by decide +kernel, by decide +kernel, by decide +kernel⟩
def f_X12_isAnyLate_s2 (N : Nat) (v : VV) (x1 : Int32) : Option (((Int32) ⊕ (Int32))) :=
  if v.2.1 3 2 ≤ x1 then inrO (some 0) else bnd (f_X12_lateIn v 1 x1) (fun q201 => if q201 ≤ 0 then some (.inl (x1 + 1)) else inrO (some 1))
def f_X12_isAnyLate (N : Nat) (v : VV) : Option (Int32) :=
  itr (fun q : Int32 => f_X12_isAnyLate_s2 N v q) N 0
set_option maxHeartbeats 4000000 in
set_option maxRecDepth 100000 in
theorem k_X12_isAnyLate (l : Launch) (G : va_G) (cy : Nat → ClassId) (ev : Nat → Nat) (N : Nat) (ad : Nat → Nat) (v : VV)  (res : Int32) (h : f_X12_isAnyLate N v = some res) : MetI l yX12_isAnyLate cX12_isAnyLate 2 (some .boolean) 1 22 G cy ev [.ref (ad 0)] (cX12 cy ad v) res (cX12 cy ad v) := by
  refine MetQ.start (by decide +kernel) (Nat.le_of_ble_eq_true rfl) (fun p e s m args below meth c A ls hx hb hr hml hown hts hlocks hK hP hD hA hl hE => ?_)
  have hS : va_S A s.heap s.heap [] := va_S.rf
  have hown : s.vm.findClass RX12 = some m.cls := hown
  have hl : lv_has ls 2 [(0, .ref (ad 0))] := hl
  have L2 : ∀ (n : Nat) (x1 : Int32) (H : Heap) (locs : List Loc) (ls : Array Slot), itr (fun q : Int32 => f_X12_isAnyLate_s2 N v q) n x1 = some res → va_P G vwCl (cX12 cy ad v) H → va_D A (cX12 cy ad v) → va_S A s.heap H locs → lv_has ls 2 [(0, .ref (ad 0)), (1, .int x1)] → W p l e (rmX 1 22) s m args below meth c H locs 0 0 (MQ below (mQi (res) G cy A (cX12 cy ad v)) args s 0 0 A) (F0 m 2 ls []) := by
    intro n
    induction n with
    | zero => intro x1 H locs ls h; exact (itr_zero h).elim
    | succ n ih1 =>
      intro x1 H locs ls h hP hD hS hl
      obtain ⟨y1, h, hy1⟩ := itr_inv h
      have h : f_X12_isAnyLate_s2 N v x1 = some y1 := h
      delta f_X12_isAnyLate_s2 at h
      refine lv_iload_n hx hb dX12_isAnyLate_2 rfl (lv_at hl 1 rfl) ?_
      refine lv_aload_n hx hb dX12_isAnyLate_3 rfl (lv_at hl 0 rfl) ?_
      refine gf_X12_3 hx hb hts hown hK hP dX12_isAnyLate_4 ?_
      refine lv_iconst (v := 2) hx hb dX12_isAnyLate_7 (by decide) ?_
      refine ld_X12_3 (f := v.2.1 3) (j := 2) hx hb hK hP rfl (vin_dec (by decide)) (by decide) dX12_isAnyLate_8 ?_
      refine lv_icmp_ge (tgt := 29) hx hb dX12_isAnyLate_9 (by decide) (fun c9 => ?_) (fun c9 => ?_)
      · replace h := (br h).1 c9
        replace h := itr_exit h hy1
        refine lv_iconst (v := 0) hx hb dX12_isAnyLate_29 (by decide) ?_
        exact retZ (fr := fun q => q) (fw := fun _ => cX12 cy ad v) h hx hb hr narZ0 hlocks hK hP hD hS dX12_isAnyLate_30
      · replace h := (br h).2 c9
        refine lv_aload_n hx hb dX12_isAnyLate_12 rfl (lv_at hl 0 rfl) ?_
        refine lv_iconst (v := 1) hx hb dX12_isAnyLate_13 (by decide) ?_
        refine lv_iload_n hx hb dX12_isAnyLate_14 rfl (lv_at hl 1 rfl) ?_
        replace h := bd h
        obtain ⟨q201, h202, h⟩ := h
        refine callVi0 (As := [.int 1, .int x1]) (rest := []) hx hb hml hown hts (k_X12_lateIn l G cy ev ad v 1 x1 q201 h202) wm_43_15 wm_43_16 wm_43_17 wm_1_5 wm_43_18 hd_X12_lateIn ⟨by decide, by decide⟩ hK hP hD hS hA hE (va_recv hK hP (ci := 12) (q0 := 0) rfl rfl) rfl rfl hl.1 (Nat.le_of_ble_eq_true rfl) dX12_isAnyLate_15 (fun H locs hP hD hS => ?_)
        refine lv_if_le (tgt := 23) hx hb dX12_isAnyLate_18 (by decide) (fun c9 => ?_) (fun c9 => ?_)
        · replace h := (br h).1 c9
          refine lv_iinc (v := x1 + 1) (lv' := [(1, .int (x1 + 1)), (0, .ref (ad 0))]) hx hb dX12_isAnyLate_23 hl (k := 1) rfl rfl (by decide) rfl (fun ls hl => ?_)
          refine lv_goto (tgt := 2) hx hb dX12_isAnyLate_26 (by decide) ?_
          replace h := itr_back h hy1
          exact ih1 (x1 + 1) _ _ _ h hP hD hS (lv_sub hl [1, 0] rfl)
        · replace h := (br h).2 c9
          replace h := itr_exit h hy1
          refine lv_iconst (v := 1) hx hb dX12_isAnyLate_21 (by decide) ?_
          exact retZ (fr := fun q => q) (fw := fun _ => cX12 cy ad v) h hx hb hr narZ1 hlocks hK hP hD hS dX12_isAnyLate_22
  delta f_X12_isAnyLate at h
  refine lv_iconst (v := 0) hx hb dX12_isAnyLate_0 (by decide) ?_
  refine lv_istore_n (lv' := [(1, .int 0), (0, .ref (ad 0))]) hx hb dX12_isAnyLate_1 rfl hl (by decide) rfl (fun ls hl => ?_)
  exact L2  N 0 _ _ _ h hP hD hS (lv_sub hl [1, 0] rfl)
theorem hd_X12_hands : yX12_hands.cls = RX12 ∧ yX12_hands.cls ≠ "java/lang/invoke/MethodHandle" ∧ yX12_hands.cls ≠ "java/lang/invoke/VarHandle" ∧ (parseMethodDescriptor yX12_hands.desc).map (fun d => d.parameters.length) = some 0 := ⟨rfl, by decide +kernel, by decide +kernel, by decide +kernel⟩
def f_X12_hands_b34 (N : Nat) (v : VV) (x1 : Int32) (x2 : Int32) : Option (((Int32 × Int32 × VV) ⊕ (Int32 × VV))) :=
  some (.inl (x1, x2 + (-1), v))
def f_X12_hands_s11 (N : Nat) (v : VV) (x1 : Int32) (x2 : Int32) : Option (((Int32 × Int32 × VV) ⊕ (Int32 × VV))) :=
  if x2 < 1 then inrO (some (x1, si v 52 0)) else bnd (f_X12_today N (si v 52 x2)) (fun q1101 => bnd (f_X12_isAnyLate N q1101) (fun q1103 => if q1103 = 0 then f_X12_hands_b34 N q1101 x2 x2 else f_X12_hands_b34 N q1101 x1 x2))
def f_X12_hands (N : Nat) (v : VV) : Option (Int32 × VV) :=
  itr (fun q : Int32 × Int32 × VV => f_X12_hands_s11 N q.2.2 q.1 q.2.1) N ((-2), 9, si v 0 0)
set_option maxHeartbeats 4000000 in
set_option maxRecDepth 100000 in
theorem k_X12_hands (l : Launch) (G : va_G) (cy : Nat → ClassId) (ev : Nat → Nat) (N : Nat) (ad : Nat → Nat) (v : VV)  (res : Int32 × VV) (h : f_X12_hands N v = some res) : MetI l yX12_hands cX12_hands 3 (some .int) 9 222 G cy ev [.ref (ad 0)] (cX12 cy ad v) res.1 (cX12 cy ad res.2) := by
  refine MetQ.start (by decide +kernel) (Nat.le_of_ble_eq_true rfl) (fun p e s m args below meth c A ls hx hb hr hml hown hts hlocks hK hP hD hA hl hE => ?_)
  have hS : va_S A s.heap s.heap [] := va_S.rf
  have hown : s.vm.findClass RX12 = some m.cls := hown
  have hl : lv_has ls 3 [(0, .ref (ad 0))] := hl
  have L11 : ∀ (n : Nat) (x1 : Int32) (x2 : Int32) (v : VV) (H : Heap) (locs : List Loc) (ls : Array Slot), itr (fun q : Int32 × Int32 × VV => f_X12_hands_s11 N q.2.2 q.1 q.2.1) n (x1, x2, v) = some res → va_P G vwCl (cX12 cy ad v) H → va_D A (cX12 cy ad v) → va_S A s.heap H locs → lv_has ls 3 [(0, .ref (ad 0)), (1, .int x1), (2, .int x2)] → W p l e (rmX 9 222) s m args below meth c H locs 0 0 (MQ below (mQi (res.1) G cy A (cX12 cy ad res.2)) args s 0 0 A) (F0 m 11 ls []) := by
    intro n
    induction n with
    | zero => intro x1 x2 v H locs ls h; exact (itr_zero h).elim
    | succ n ih1 =>
      intro x1 x2 v H locs ls h hP hD hS hl
      obtain ⟨y1, h, hy1⟩ := itr_inv h
      have h : f_X12_hands_s11 N v x1 x2 = some y1 := h
      have B34 : ∀ (x1 : Int32) (x2 : Int32) (v : VV) (H : Heap) (locs : List Loc) (ls : Array Slot), f_X12_hands_b34 N v x1 x2 = some y1 → va_P G vwCl (cX12 cy ad v) H → va_D A (cX12 cy ad v) → va_S A s.heap H locs → lv_has ls 3 [(0, .ref (ad 0)), (1, .int x1), (2, .int x2)] → W p l e (rmX 9 222) s m args below meth c H locs 0 0 (MQ below (mQi (res.1) G cy A (cX12 cy ad res.2)) args s 0 0 A) (F0 m 34 ls []) := by
        intro x1 x2 v H locs ls h hP hD hS hl
        delta f_X12_hands_b34 at h
        refine lv_iinc (v := x2 + (-1)) (lv' := [(2, .int (x2 + (-1))), (0, .ref (ad 0)), (1, .int x1)]) hx hb dX12_hands_34 hl (k := 2) rfl rfl (by decide) rfl (fun ls hl => ?_)
        refine lv_goto (tgt := 11) hx hb dX12_hands_37 (by decide) ?_
        replace h := itr_back h hy1
        exact ih1 x1 (x2 + (-1)) v _ _ _ h hP hD hS (lv_sub hl [1, 2, 0] rfl)
      delta f_X12_hands_s11 at h
      refine lv_iload_n hx hb dX12_hands_11 rfl (lv_at hl 2 rfl) ?_
      refine lv_iconst (v := 1) hx hb dX12_hands_12 (by decide) ?_
      refine lv_icmp_lt (tgt := 40) hx hb dX12_hands_13 (by decide) (fun c9 => ?_) (fun c9 => ?_)
      · replace h := (br h).1 c9
        replace h := itr_exit h hy1
        refine lv_aload_n hx hb dX12_hands_40 rfl (lv_at hl 0 rfl) ?_
        refine lv_iconst (v := 0) hx hb dX12_hands_41 (by decide) ?_
        refine pf_X12_52 hx hb hts hown hK hP hD hS dX12_hands_42 (fun H locs hP hD hS => ?_)
        refine lv_iload_n hx hb dX12_hands_45 rfl (lv_at hl 1 rfl) ?_
        exact retI (fr := fun q => q.1) (fw := fun q => cX12 cy ad q.2) h hx hb hr hlocks hK hP hD hS dX12_hands_46
      · replace h := (br h).2 c9
        refine lv_aload_n hx hb dX12_hands_16 rfl (lv_at hl 0 rfl) ?_
        refine lv_iload_n hx hb dX12_hands_17 rfl (lv_at hl 2 rfl) ?_
        refine pf_X12_52 hx hb hts hown hK hP hD hS dX12_hands_18 (fun H locs hP hD hS => ?_)
        refine lv_aload_n hx hb dX12_hands_21 rfl (lv_at hl 0 rfl) ?_
        replace h := bd h
        obtain ⟨q1101, h1102, h⟩ := h
        refine callVv0 (As := []) (rest := []) hx hb hml hown hts (k_X12_today l G cy ev N ad (si v 52 x2) q1101 h1102) wm_43_11 wm_43_12 wm_43_13 wm_1_5 wm_43_14 hd_X12_today ⟨by decide, by decide⟩ hK hP hD hS hA hE (va_recv hK hP (ci := 12) (q0 := 0) rfl rfl) rfl rfl hl.1 (Nat.le_of_ble_eq_true rfl) dX12_hands_22 (fun H locs hP hD hS => ?_)
        refine lv_aload_n hx hb dX12_hands_25 rfl (lv_at hl 0 rfl) ?_
        replace h := bd h
        obtain ⟨q1103, h1104, h⟩ := h
        refine callVi0 (As := []) (rest := []) hx hb hml hown hts (k_X12_isAnyLate l G cy ev N ad q1101 q1103 h1104) wm_44_19 wm_44_20 wm_44_21 wm_1_5 wm_44_22 hd_X12_isAnyLate ⟨by decide, by decide⟩ hK hP hD hS hA hE (va_recv hK hP (ci := 12) (q0 := 0) rfl rfl) rfl rfl hl.1 (Nat.le_of_ble_eq_true rfl) dX12_hands_26 (fun H locs hP hD hS => ?_)
        refine lv_if_ne (tgt := 34) hx hb dX12_hands_29 (by decide) (fun c9 => ?_) (fun c9 => ?_)
        · replace h := (br h).2 c9
          exact B34 x1 x2 q1101 _ _ _ h hP hD hS (lv_sub hl [0, 1, 2] rfl)
        · replace h := (br h).1 c9
          refine lv_iload_n hx hb dX12_hands_32 rfl (lv_at hl 2 rfl) ?_
          refine lv_istore_n (lv' := [(1, .int x2), (0, .ref (ad 0)), (2, .int x2)]) hx hb dX12_hands_33 rfl hl (by decide) rfl (fun ls hl => ?_)
          exact B34 x2 x2 q1101 _ _ _ h hP hD hS (lv_sub hl [1, 0, 2] rfl)
  delta f_X12_hands at h
  refine lv_aload_n hx hb dX12_hands_0 rfl (lv_at hl 0 rfl) ?_
  refine lv_iconst (v := 0) hx hb dX12_hands_1 (by decide) ?_
  refine pf_X12_0 hx hb hts hown hK hP hD hS dX12_hands_2 (fun H locs hP hD hS => ?_)
  refine lv_bipush (v := (-2)) hx hb dX12_hands_5 (by decide) ?_
  refine lv_istore_n (lv' := [(1, .int ((-2))), (0, .ref (ad 0))]) hx hb dX12_hands_7 rfl hl (by decide) rfl (fun ls hl => ?_)
  refine lv_bipush (v := 9) hx hb dX12_hands_8 (by decide) ?_
  refine lv_istore_n (lv' := [(2, .int 9), (1, .int ((-2))), (0, .ref (ad 0))]) hx hb dX12_hands_10 rfl hl (by decide) rfl (fun ls hl => ?_)
  exact L11  N ((-2)) 9 (si v 0 0) _ _ _ h hP hD hS (lv_sub hl [2, 1, 0] rfl)
theorem hd_X12_later : yX12_later.cls = RX12 ∧ yX12_later.cls ≠ "java/lang/invoke/MethodHandle" ∧ yX12_later.cls ≠ "java/lang/invoke/VarHandle" ∧ (parseMethodDescriptor yX12_later.desc).map (fun d => d.parameters.length) = some 1 := ⟨rfl, by decide +kernel, by decide +kernel, by decide +kernel⟩
def f_X12_later_s61 (N : Nat) (v : VV) (x2 : Int32) (x3 : Int32) : Option (((Int32 × VV) ⊕ (Int32 × VV))) :=
  if (3 : Int32) ≤ x3 then inrO (some (x2, v)) else gin x3 3 (some (.inl (x3 + 1, sr v 54 x3.toNatClampNeg 0)))
def f_X12_later_s17 (N : Nat) (v : VV) (x1 : Int32) (x2 : Int32) : Option (((Int32 × VV) ⊕ (Int32 × VV))) :=
  if v.2.1 3 2 ≤ x2 then inrO (gin x1 3 (itr (fun q : Int32 × VV => f_X12_later_s61 N q.2 (v.2.1 54 x1.toNatClampNeg) q.1) N (0, v))) else bnd (f_X12_today N v) (fun q1701 => gin x2 3 (bnd (f_X12_lateIn q1701 1 x2) (fun q1703 => gin x2 3 (some (.inl (x2 + 1, sr q1701 54 x2.toNatClampNeg ((q1701.2.1 54 x2.toNatClampNeg) + q1703)))))))
def f_X12_later (N : Nat) (v : VV) (a1 : Int32) : Option (Int32 × VV) :=
  bnd (f_X12_isSitting (si v 0 0) a1) (fun q1 => if q1 = 0 then some ((-1), si v 0 0) else itr (fun q : Int32 × VV => f_X12_later_s17 N q.2 a1 q.1) N (0, si v 0 0))
set_option maxHeartbeats 4000000 in
set_option maxRecDepth 100000 in
theorem k_X12_later (l : Launch) (G : va_G) (cy : Nat → ClassId) (ev : Nat → Nat) (N : Nat) (ad : Nat → Nat) (v : VV) (a1 : Int32) (res : Int32 × VV) (h : f_X12_later N v a1 = some res) : MetI l yX12_later cX12_later 4 (some .int) 9 222 G cy ev [.ref (ad 0), .int a1] (cX12 cy ad v) res.1 (cX12 cy ad res.2) := by
  refine MetQ.start (by decide +kernel) (Nat.le_of_ble_eq_true rfl) (fun p e s m args below meth c A ls hx hb hr hml hown hts hlocks hK hP hD hA hl hE => ?_)
  have hS : va_S A s.heap s.heap [] := va_S.rf
  have hown : s.vm.findClass RX12 = some m.cls := hown
  have hl : lv_has ls 4 [(0, .ref (ad 0)), (1, .int a1)] := hl
  have L61 : ∀ (x2 : Int32) (n : Nat) (x3 : Int32) (v : VV) (H : Heap) (locs : List Loc) (ls : Array Slot), itr (fun q : Int32 × VV => f_X12_later_s61 N q.2 x2 q.1) n (x3, v) = some res → va_P G vwCl (cX12 cy ad v) H → va_D A (cX12 cy ad v) → va_S A s.heap H locs → lv_has ls 4 [(0, .ref (ad 0)), (2, .int x2), (3, .int x3)] → W p l e (rmX 9 222) s m args below meth c H locs 0 0 (MQ below (mQi (res.1) G cy A (cX12 cy ad res.2)) args s 0 0 A) (F0 m 61 ls []) := by
    intro x2 n
    induction n with
    | zero => intro x3 v H locs ls h; exact (itr_zero h).elim
    | succ n ih1 =>
      intro x3 v H locs ls h hP hD hS hl
      obtain ⟨y1, h, hy1⟩ := itr_inv h
      have h : f_X12_later_s61 N v x2 x3 = some y1 := h
      delta f_X12_later_s61 at h
      refine lv_iload_n hx hb dX12_later_61 rfl (lv_at hl 2 rfl) ?_
      refine lv_iconst (v := 3) hx hb dX12_later_62 (by decide) ?_
      refine lv_icmp_ge (tgt := 79) hx hb dX12_later_63 (by decide) (fun c9 => ?_) (fun c9 => ?_)
      · replace h := (br h).1 c9
        replace h := itr_exit h hy1
        refine lv_iload_n hx hb dX12_later_79 rfl (lv_at hl 1 rfl) ?_
        exact retI (fr := fun q => q.1) (fw := fun q => cX12 cy ad q.2) h hx hb hr hlocks hK hP hD hS dX12_later_80
      · replace h := (br h).2 c9
        refine lv_aload_n hx hb dX12_later_66 rfl (lv_at hl 0 rfl) ?_
        refine gf_X12_54 hx hb hts hown hK hP dX12_later_67 ?_
        refine lv_iload_n hx hb dX12_later_70 rfl (lv_at hl 2 rfl) ?_
        refine lv_iconst (v := 0) hx hb dX12_later_71 (by decide) ?_
        replace h := gin_inv h
        obtain ⟨h9, h⟩ := h
        refine st_X12_54 (j := x3.toNatClampNeg) hx hb hK hP hD hS h9 rfl dX12_later_72 (fun H locs hP hD hS => ?_)
        refine lv_iinc (v := x3 + 1) (lv' := [(3, .int (x3 + 1)), (0, .ref (ad 0)), (2, .int x2)]) hx hb dX12_later_73 hl (k := 2) rfl rfl (by decide) rfl (fun ls hl => ?_)
        refine lv_goto (tgt := 61) hx hb dX12_later_76 (by decide) ?_
        replace h := itr_back h hy1
        exact ih1 (x3 + 1) (sr v 54 x3.toNatClampNeg 0) _ _ _ h hP hD hS (lv_sub hl [1, 2, 0] rfl)
  have L17 : ∀ (x1 : Int32) (n : Nat) (x2 : Int32) (v : VV) (H : Heap) (locs : List Loc) (ls : Array Slot), itr (fun q : Int32 × VV => f_X12_later_s17 N q.2 x1 q.1) n (x2, v) = some res → va_P G vwCl (cX12 cy ad v) H → va_D A (cX12 cy ad v) → va_S A s.heap H locs → lv_has ls 4 [(0, .ref (ad 0)), (1, .int x1), (2, .int x2)] → W p l e (rmX 9 222) s m args below meth c H locs 0 0 (MQ below (mQi (res.1) G cy A (cX12 cy ad res.2)) args s 0 0 A) (F0 m 17 ls []) := by
    intro x1 n
    induction n with
    | zero => intro x2 v H locs ls h; exact (itr_zero h).elim
    | succ n ih1 =>
      intro x2 v H locs ls h hP hD hS hl
      obtain ⟨y1, h, hy1⟩ := itr_inv h
      have h : f_X12_later_s17 N v x1 x2 = some y1 := h
      delta f_X12_later_s17 at h
      refine lv_iload_n hx hb dX12_later_17 rfl (lv_at hl 2 rfl) ?_
      refine lv_aload_n hx hb dX12_later_18 rfl (lv_at hl 0 rfl) ?_
      refine gf_X12_3 hx hb hts hown hK hP dX12_later_19 ?_
      refine lv_iconst (v := 2) hx hb dX12_later_22 (by decide) ?_
      refine ld_X12_3 (f := v.2.1 3) (j := 2) hx hb hK hP rfl (vin_dec (by decide)) (by decide) dX12_later_23 ?_
      refine lv_icmp_ge (tgt := 52) hx hb dX12_later_24 (by decide) (fun c9 => ?_) (fun c9 => ?_)
      · replace h := (br h).1 c9
        replace h := itr_exit h hy1
        refine lv_aload_n hx hb dX12_later_52 rfl (lv_at hl 0 rfl) ?_
        refine gf_X12_54 hx hb hts hown hK hP dX12_later_53 ?_
        refine lv_iload_n hx hb dX12_later_56 rfl (lv_at hl 1 rfl) ?_
        replace h := gin_inv h
        obtain ⟨h9, h⟩ := h
        refine ld_X12_54 (f := v.2.1 54) (j := x1.toNatClampNeg) hx hb hK hP rfl h9 rfl dX12_later_57 ?_
        refine lv_istore_n (lv' := [(2, .int (v.2.1 54 x1.toNatClampNeg)), (0, .ref (ad 0)), (1, .int x1)]) hx hb dX12_later_58 rfl hl (by decide) rfl (fun ls hl => ?_)
        refine lv_iconst (v := 0) hx hb dX12_later_59 (by decide) ?_
        refine lv_istore_n (lv' := [(3, .int 0), (2, .int (v.2.1 54 x1.toNatClampNeg)), (0, .ref (ad 0)), (1, .int x1)]) hx hb dX12_later_60 rfl hl (by decide) rfl (fun ls hl => ?_)
        exact L61 (v.2.1 54 x1.toNatClampNeg) N 0 v _ _ _ h hP hD hS (lv_sub hl [2, 1, 0] rfl)
      · replace h := (br h).2 c9
        refine lv_aload_n hx hb dX12_later_27 rfl (lv_at hl 0 rfl) ?_
        replace h := bd h
        obtain ⟨q1701, h1702, h⟩ := h
        refine callVv0 (As := []) (rest := []) hx hb hml hown hts (k_X12_today l G cy ev N ad v q1701 h1702) wm_43_11 wm_43_12 wm_43_13 wm_1_5 wm_43_14 hd_X12_today ⟨by decide, by decide⟩ hK hP hD hS hA hE (va_recv hK hP (ci := 12) (q0 := 0) rfl rfl) rfl rfl hl.1 (Nat.le_of_ble_eq_true rfl) dX12_later_28 (fun H locs hP hD hS => ?_)
        refine lv_aload_n hx hb dX12_later_31 rfl (lv_at hl 0 rfl) ?_
        refine gf_X12_54 hx hb hts hown hK hP dX12_later_32 ?_
        refine lv_iload_n hx hb dX12_later_35 rfl (lv_at hl 2 rfl) ?_
        refine lv_dup2_11 hx hb dX12_later_36 rfl rfl ?_
        replace h := gin_inv h
        obtain ⟨h9, h⟩ := h
        refine ld_X12_54 (f := q1701.2.1 54) (j := x2.toNatClampNeg) hx hb hK hP rfl h9 rfl dX12_later_37 ?_
        refine lv_aload_n hx hb dX12_later_38 rfl (lv_at hl 0 rfl) ?_
        refine lv_iconst (v := 1) hx hb dX12_later_39 (by decide) ?_
        refine lv_iload_n hx hb dX12_later_40 rfl (lv_at hl 2 rfl) ?_
        replace h := bd h
        obtain ⟨q1703, h1704, h⟩ := h
        refine callVi0 (As := [.int 1, .int x2]) (rest := [.int (q1701.2.1 54 x2.toNatClampNeg), .int x2, .ref (ad 55)]) hx hb hml hown hts (k_X12_lateIn l G cy ev ad q1701 1 x2 q1703 h1704) wm_43_15 wm_43_16 wm_43_17 wm_1_5 wm_43_18 hd_X12_lateIn ⟨by decide, by decide⟩ hK hP hD hS hA hE (va_recv hK hP (ci := 12) (q0 := 0) rfl rfl) rfl rfl hl.1 (Nat.le_of_ble_eq_true rfl) dX12_later_41 (fun H locs hP hD hS => ?_)
        refine lv_iadd hx hb dX12_later_44 ?_
        replace h := gin_inv h
        obtain ⟨h9, h⟩ := h
        refine st_X12_54 (j := x2.toNatClampNeg) hx hb hK hP hD hS h9 rfl dX12_later_45 (fun H locs hP hD hS => ?_)
        refine lv_iinc (v := x2 + 1) (lv' := [(2, .int (x2 + 1)), (0, .ref (ad 0)), (1, .int x1)]) hx hb dX12_later_46 hl (k := 2) rfl rfl (by decide) rfl (fun ls hl => ?_)
        refine lv_goto (tgt := 17) hx hb dX12_later_49 (by decide) ?_
        replace h := itr_back h hy1
        exact ih1 (x2 + 1) (sr q1701 54 x2.toNatClampNeg ((q1701.2.1 54 x2.toNatClampNeg) + q1703)) _ _ _ h hP hD hS (lv_sub hl [1, 2, 0] rfl)
  delta f_X12_later at h
  refine lv_aload_n hx hb dX12_later_0 rfl (lv_at hl 0 rfl) ?_
  refine lv_iconst (v := 0) hx hb dX12_later_1 (by decide) ?_
  refine pf_X12_0 hx hb hts hown hK hP hD hS dX12_later_2 (fun H locs hP hD hS => ?_)
  refine lv_aload_n hx hb dX12_later_5 rfl (lv_at hl 0 rfl) ?_
  refine lv_iload_n hx hb dX12_later_6 rfl (lv_at hl 1 rfl) ?_
  replace h := bd h
  obtain ⟨q1, h2, h⟩ := h
  refine callVi0 (As := [.int a1]) (rest := []) hx hb hml hown hts (k_X12_isSitting l G cy ev ad (si v 0 0) a1 q1 h2) wm_28_12 wm_28_13 wm_28_14 wm_1_5 wm_28_15 hd_X12_isSitting ⟨by decide, by decide⟩ hK hP hD hS hA hE (va_recv hK hP (ci := 12) (q0 := 0) rfl rfl) rfl rfl hl.1 (Nat.le_of_ble_eq_true rfl) dX12_later_7 (fun H locs hP hD hS => ?_)
  refine lv_if_ne (tgt := 15) hx hb dX12_later_10 (by decide) (fun c9 => ?_) (fun c9 => ?_)
  · replace h := (br h).2 c9
    refine lv_iconst (v := 0) hx hb dX12_later_15 (by decide) ?_
    refine lv_istore_n (lv' := [(2, .int 0), (0, .ref (ad 0)), (1, .int a1)]) hx hb dX12_later_16 rfl hl (by decide) rfl (fun ls hl => ?_)
    exact L17 a1 N 0 (si v 0 0) _ _ _ h hP hD hS (lv_sub hl [1, 2, 0] rfl)
  · replace h := (br h).1 c9
    refine lv_iconst (v := (-1)) hx hb dX12_later_13 (by decide) ?_
    exact retI (fr := fun q => q.1) (fw := fun q => cX12 cy ad q.2) h hx hb hr hlocks hK hP hD hS dX12_later_14
theorem hd_X12_gains : yX12_gains.cls = RX12 ∧ yX12_gains.cls ≠ "java/lang/invoke/MethodHandle" ∧ yX12_gains.cls ≠ "java/lang/invoke/VarHandle" ∧ (parseMethodDescriptor yX12_gains.desc).map (fun d => d.parameters.length) = some 2 := ⟨rfl, by decide +kernel, by decide +kernel, by decide +kernel⟩
def f_X12_gains_b45 (N : Nat) (v : VV) (x3 : Int32) (z0 : Int32) : Option (Int32 × VV) :=
  if z0 ≤ x3 then some (0, v) else some (1, v)
def f_X12_gains_b27 (N : Nat) (v : VV) (x1 : Int32) (x2 : Int32) (z0 : Int32) : Option (Int32 × VV) :=
  if x2 = (-1) then f_X12_gains_b45 N v z0 0 else bnd (f_X12_likeOf N v 0 x1 x2 0) (fun q2701 => f_X12_gains_b45 N q2701.2 z0 q2701.1)
def f_X12_gains (N : Nat) (v : VV) (a1 : Int32) (a2 : Int32) : Option (Int32 × VV) :=
  gin a1 184 (if v.2.1 37 a1.toNatClampNeg = (-1) then f_X12_gains_b27 N v a1 a2 0 else gin a1 184 (bnd (f_X12_likeOf N v 0 a1 (v.2.1 37 a1.toNatClampNeg) 0) (fun q1 => f_X12_gains_b27 N q1.2 a1 a2 q1.1)))
set_option maxHeartbeats 4000000 in
set_option maxRecDepth 100000 in
theorem k_X12_gains (l : Launch) (G : va_G) (cy : Nat → ClassId) (ev : Nat → Nat) (N : Nat) (ad : Nat → Nat) (v : VV) (a1 : Int32) (a2 : Int32) (res : Int32 × VV) (h : f_X12_gains N v a1 a2 = some res) : MetI l yX12_gains cX12_gains 4 (some .boolean) 5 120 G cy ev [.ref (ad 0), .int a1, .int a2] (cX12 cy ad v) res.1 (cX12 cy ad res.2) := by
  refine MetQ.start (by decide +kernel) (Nat.le_of_ble_eq_true rfl) (fun p e s m args below meth c A ls hx hb hr hml hown hts hlocks hK hP hD hA hl hE => ?_)
  have hS : va_S A s.heap s.heap [] := va_S.rf
  have hown : s.vm.findClass RX12 = some m.cls := hown
  have hl : lv_has ls 4 [(0, .ref (ad 0)), (1, .int a1), (2, .int a2)] := hl
  have B45 : ∀ (x3 : Int32) (z0 : Int32) (v : VV) (H : Heap) (locs : List Loc) (ls : Array Slot), f_X12_gains_b45 N v x3 z0 = some res → va_P G vwCl (cX12 cy ad v) H → va_D A (cX12 cy ad v) → va_S A s.heap H locs → lv_has ls 4 [(3, .int x3)] → W p l e (rmX 5 120) s m args below meth c H locs 0 0 (MQ below (mQi (res.1) G cy A (cX12 cy ad res.2)) args s 0 0 A) (F0 m 45 ls [.int z0]) := by
    intro x3 z0 v H locs ls h hP hD hS hl
    delta f_X12_gains_b45 at h
    refine lv_iload_n hx hb dX12_gains_45 rfl (lv_at hl 0 rfl) ?_
    refine lv_icmp_le (tgt := 53) hx hb dX12_gains_46 (by decide) (fun c9 => ?_) (fun c9 => ?_)
    · replace h := (br h).1 c9
      refine lv_iconst (v := 0) hx hb dX12_gains_53 (by decide) ?_
      exact retZ (fr := fun q => q.1) (fw := fun q => cX12 cy ad q.2) h hx hb hr narZ0 hlocks hK hP hD hS dX12_gains_54
    · replace h := (br h).2 c9
      refine lv_iconst (v := 1) hx hb dX12_gains_49 (by decide) ?_
      refine lv_goto (tgt := 54) hx hb dX12_gains_50 (by decide) ?_
      exact retZ (fr := fun q => q.1) (fw := fun q => cX12 cy ad q.2) h hx hb hr narZ1 hlocks hK hP hD hS dX12_gains_54
  have B27 : ∀ (x1 : Int32) (x2 : Int32) (z0 : Int32) (v : VV) (H : Heap) (locs : List Loc) (ls : Array Slot), f_X12_gains_b27 N v x1 x2 z0 = some res → va_P G vwCl (cX12 cy ad v) H → va_D A (cX12 cy ad v) → va_S A s.heap H locs → lv_has ls 4 [(0, .ref (ad 0)), (1, .int x1), (2, .int x2)] → W p l e (rmX 5 120) s m args below meth c H locs 0 0 (MQ below (mQi (res.1) G cy A (cX12 cy ad res.2)) args s 0 0 A) (F0 m 27 ls [.int z0]) := by
    intro x1 x2 z0 v H locs ls h hP hD hS hl
    delta f_X12_gains_b27 at h
    refine lv_istore_n (lv' := [(3, .int z0), (0, .ref (ad 0)), (1, .int x1), (2, .int x2)]) hx hb dX12_gains_27 rfl hl (by decide) rfl (fun ls hl => ?_)
    refine lv_iload_n hx hb dX12_gains_28 rfl (lv_at hl 3 rfl) ?_
    refine lv_iconst (v := (-1)) hx hb dX12_gains_29 (by decide) ?_
    refine lv_icmp_ne (tgt := 37) hx hb dX12_gains_30 (by decide) (fun c9 => ?_) (fun c9 => ?_)
    · replace h := (br h).2 c9
      refine lv_aload_n hx hb dX12_gains_37 rfl (lv_at hl 1 rfl) ?_
      refine lv_iconst (v := 0) hx hb dX12_gains_38 (by decide) ?_
      refine lv_iload_n hx hb dX12_gains_39 rfl (lv_at hl 2 rfl) ?_
      refine lv_iload_n hx hb dX12_gains_40 rfl (lv_at hl 3 rfl) ?_
      refine lv_iconst (v := 0) hx hb dX12_gains_41 (by decide) ?_
      replace h := bd h
      obtain ⟨q2701, h2702, h⟩ := h
      refine callVi0 (As := [.int 0, .int x1, .int x2, .int 0]) (rest := []) hx hb hml hown hts (k_X12_likeOf l G cy ev N ad v 0 x1 x2 0 q2701 h2702) wm_36_9 wm_36_10 wm_36_11 wm_1_5 wm_36_12 hd_X12_likeOf ⟨by decide, by decide⟩ hK hP hD hS hA hE (va_recv hK hP (ci := 12) (q0 := 0) rfl rfl) rfl rfl hl.1 (Nat.le_of_ble_eq_true rfl) dX12_gains_42 (fun H locs hP hD hS => ?_)
      exact B45 z0 q2701.1 q2701.2 _ _ _ h hP hD hS (lv_sub hl [0] rfl)
    · replace h := (br h).1 c9
      refine lv_iconst (v := 0) hx hb dX12_gains_33 (by decide) ?_
      refine lv_goto (tgt := 45) hx hb dX12_gains_34 (by decide) ?_
      exact B45 z0 0 v _ _ _ h hP hD hS (lv_sub hl [0] rfl)
  delta f_X12_gains at h
  refine lv_aload_n hx hb dX12_gains_0 rfl (lv_at hl 0 rfl) ?_
  refine gf_X12_37 hx hb hts hown hK hP dX12_gains_1 ?_
  refine lv_iload_n hx hb dX12_gains_4 rfl (lv_at hl 1 rfl) ?_
  replace h := gin_inv h
  obtain ⟨h9, h⟩ := h
  refine ld_X12_37 (f := v.2.1 37) (j := a1.toNatClampNeg) hx hb hK hP rfl h9 rfl dX12_gains_5 ?_
  refine lv_iconst (v := (-1)) hx hb dX12_gains_6 (by decide) ?_
  refine lv_icmp_ne (tgt := 14) hx hb dX12_gains_7 (by decide) (fun c9 => ?_) (fun c9 => ?_)
  · replace h := (br h).2 c9
    refine lv_aload_n hx hb dX12_gains_14 rfl (lv_at hl 0 rfl) ?_
    refine lv_iconst (v := 0) hx hb dX12_gains_15 (by decide) ?_
    refine lv_iload_n hx hb dX12_gains_16 rfl (lv_at hl 1 rfl) ?_
    refine lv_aload_n hx hb dX12_gains_17 rfl (lv_at hl 0 rfl) ?_
    refine gf_X12_37 hx hb hts hown hK hP dX12_gains_18 ?_
    refine lv_iload_n hx hb dX12_gains_21 rfl (lv_at hl 1 rfl) ?_
    replace h := gin_inv h
    obtain ⟨h9, h⟩ := h
    refine ld_X12_37 (f := v.2.1 37) (j := a1.toNatClampNeg) hx hb hK hP rfl h9 rfl dX12_gains_22 ?_
    refine lv_iconst (v := 0) hx hb dX12_gains_23 (by decide) ?_
    replace h := bd h
    obtain ⟨q1, h2, h⟩ := h
    refine callVi0 (As := [.int 0, .int a1, .int (v.2.1 37 a1.toNatClampNeg), .int 0]) (rest := []) hx hb hml hown hts (k_X12_likeOf l G cy ev N ad v 0 a1 (v.2.1 37 a1.toNatClampNeg) 0 q1 h2) wm_36_9 wm_36_10 wm_36_11 wm_1_5 wm_36_12 hd_X12_likeOf ⟨by decide, by decide⟩ hK hP hD hS hA hE (va_recv hK hP (ci := 12) (q0 := 0) rfl rfl) rfl rfl hl.1 (Nat.le_of_ble_eq_true rfl) dX12_gains_24 (fun H locs hP hD hS => ?_)
    exact B27 a1 a2 q1.1 q1.2 _ _ _ h hP hD hS (lv_sub hl [0, 1, 2] rfl)
  · replace h := (br h).1 c9
    refine lv_iconst (v := 0) hx hb dX12_gains_10 (by decide) ?_
    refine lv_goto (tgt := 27) hx hb dX12_gains_11 (by decide) ?_
    exact B27 a1 a2 0 v _ _ _ h hP hD hS (lv_sub hl [0, 1, 2] rfl)
theorem hd_X12_fits : yX12_fits.cls = RX12 ∧ yX12_fits.cls ≠ "java/lang/invoke/MethodHandle" ∧ yX12_fits.cls ≠ "java/lang/invoke/VarHandle" ∧ (parseMethodDescriptor yX12_fits.desc).map (fun d => d.parameters.length) = some 2 := ⟨rfl, by decide +kernel, by decide +kernel, by decide +kernel⟩
def f_X12_fits_b48 (N : Nat) (v : VV)  : Option (Int32) :=
  some 1
def f_X12_fits (N : Nat) (v : VV) (a1 : Int32) (a2 : Int32) : Option (Int32) :=
  gin a2 184 (if v.2.1 37 a2.toNatClampNeg = (-1) then f_X12_fits_b48 N v else bnd (f_X12_withTicket N v (v.2.1 37 a2.toNatClampNeg)) (fun q1 => gin a2 16 (gin a1 16 (if (v.2.1 3 1) + (v.2.1 3 6) < (q1 - (v.2.1 5 a2.toNatClampNeg)) + (v.2.1 5 a1.toNatClampNeg) then some 0 else f_X12_fits_b48 N v))))
set_option maxHeartbeats 4000000 in
set_option maxRecDepth 100000 in
theorem k_X12_fits (l : Launch) (G : va_G) (cy : Nat → ClassId) (ev : Nat → Nat) (N : Nat) (ad : Nat → Nat) (v : VV) (a1 : Int32) (a2 : Int32) (res : Int32) (h : f_X12_fits N v a1 a2 = some res) : MetI l yX12_fits cX12_fits 4 (some .boolean) 1 23 G cy ev [.ref (ad 0), .int a1, .int a2] (cX12 cy ad v) res (cX12 cy ad v) := by
  refine MetQ.start (by decide +kernel) (Nat.le_of_ble_eq_true rfl) (fun p e s m args below meth c A ls hx hb hr hml hown hts hlocks hK hP hD hA hl hE => ?_)
  have hS : va_S A s.heap s.heap [] := va_S.rf
  have hown : s.vm.findClass RX12 = some m.cls := hown
  have hl : lv_has ls 4 [(0, .ref (ad 0)), (1, .int a1), (2, .int a2)] := hl
  have B48 : ∀ (H : Heap) (locs : List Loc) (ls : Array Slot), f_X12_fits_b48 N v = some res → va_P G vwCl (cX12 cy ad v) H → va_D A (cX12 cy ad v) → va_S A s.heap H locs → lv_has ls 4 [] → W p l e (rmX 1 23) s m args below meth c H locs 0 0 (MQ below (mQi (res) G cy A (cX12 cy ad v)) args s 0 0 A) (F0 m 48 ls []) := by
    intro H locs ls h hP hD hS hl
    delta f_X12_fits_b48 at h
    refine lv_iconst (v := 1) hx hb dX12_fits_48 (by decide) ?_
    refine lv_goto (tgt := 53) hx hb dX12_fits_49 (by decide) ?_
    exact retZ (fr := fun q => q) (fw := fun _ => cX12 cy ad v) h hx hb hr narZ1 hlocks hK hP hD hS dX12_fits_53
  delta f_X12_fits at h
  refine lv_aload_n hx hb dX12_fits_0 rfl (lv_at hl 0 rfl) ?_
  refine gf_X12_37 hx hb hts hown hK hP dX12_fits_1 ?_
  refine lv_iload_n hx hb dX12_fits_4 rfl (lv_at hl 2 rfl) ?_
  replace h := gin_inv h
  obtain ⟨h9, h⟩ := h
  refine ld_X12_37 (f := v.2.1 37) (j := a2.toNatClampNeg) hx hb hK hP rfl h9 rfl dX12_fits_5 ?_
  refine lv_istore_n (lv' := [(3, .int (v.2.1 37 a2.toNatClampNeg)), (0, .ref (ad 0)), (1, .int a1), (2, .int a2)]) hx hb dX12_fits_6 rfl hl (by decide) rfl (fun ls hl => ?_)
  refine lv_iload_n hx hb dX12_fits_7 rfl (lv_at hl 0 rfl) ?_
  refine lv_iconst (v := (-1)) hx hb dX12_fits_8 (by decide) ?_
  refine lv_icmp_eq (tgt := 48) hx hb dX12_fits_9 (by decide) (fun c9 => ?_) (fun c9 => ?_)
  · replace h := (br h).1 c9
    exact B48 _ _ _ h hP hD hS (lv_sub hl [] rfl)
  · replace h := (br h).2 c9
    refine lv_aload_n hx hb dX12_fits_12 rfl (lv_at hl 1 rfl) ?_
    refine lv_iload_n hx hb dX12_fits_13 rfl (lv_at hl 0 rfl) ?_
    replace h := bd h
    obtain ⟨q1, h2, h⟩ := h
    refine callVi0 (As := [.int (v.2.1 37 a2.toNatClampNeg)]) (rest := []) hx hb hml hown hts (k_X12_withTicket l G cy ev N ad v (v.2.1 37 a2.toNatClampNeg) q1 h2) wm_28_16 wm_28_17 wm_28_18 wm_1_5 wm_28_19 hd_X12_withTicket ⟨by decide, by decide⟩ hK hP hD hS hA hE (va_recv hK hP (ci := 12) (q0 := 0) rfl rfl) rfl rfl hl.1 (Nat.le_of_ble_eq_true rfl) dX12_fits_14 (fun H locs hP hD hS => ?_)
    refine lv_aload_n hx hb dX12_fits_17 rfl (lv_at hl 1 rfl) ?_
    refine gf_X12_5 hx hb hts hown hK hP dX12_fits_18 ?_
    refine lv_iload_n hx hb dX12_fits_21 rfl (lv_at hl 3 rfl) ?_
    replace h := gin_inv h
    obtain ⟨h9, h⟩ := h
    refine ld_X12_5 (f := v.2.1 5) (j := a2.toNatClampNeg) hx hb hK hP rfl h9 rfl dX12_fits_22 ?_
    refine lv_isub hx hb dX12_fits_23 ?_
    refine lv_aload_n hx hb dX12_fits_24 rfl (lv_at hl 1 rfl) ?_
    refine gf_X12_5 hx hb hts hown hK hP dX12_fits_25 ?_
    refine lv_iload_n hx hb dX12_fits_28 rfl (lv_at hl 2 rfl) ?_
    replace h := gin_inv h
    obtain ⟨h9, h⟩ := h
    refine ld_X12_5 (f := v.2.1 5) (j := a1.toNatClampNeg) hx hb hK hP rfl h9 rfl dX12_fits_29 ?_
    refine lv_iadd hx hb dX12_fits_30 ?_
    refine lv_aload_n hx hb dX12_fits_31 rfl (lv_at hl 1 rfl) ?_
    refine gf_X12_3 hx hb hts hown hK hP dX12_fits_32 ?_
    refine lv_iconst (v := 1) hx hb dX12_fits_35 (by decide) ?_
    refine ld_X12_3 (f := v.2.1 3) (j := 1) hx hb hK hP rfl (vin_dec (by decide)) (by decide) dX12_fits_36 ?_
    refine lv_aload_n hx hb dX12_fits_37 rfl (lv_at hl 1 rfl) ?_
    refine gf_X12_3 hx hb hts hown hK hP dX12_fits_38 ?_
    refine lv_bipush (v := 6) hx hb dX12_fits_41 (by decide) ?_
    refine ld_X12_3 (f := v.2.1 3) (j := 6) hx hb hK hP rfl (vin_dec (by decide)) (by decide) dX12_fits_43 ?_
    refine lv_iadd hx hb dX12_fits_44 ?_
    refine lv_icmp_gt (tgt := 52) hx hb dX12_fits_45 (by decide) (fun c9 => ?_) (fun c9 => ?_)
    · replace h := (br h).1 c9
      refine lv_iconst (v := 0) hx hb dX12_fits_52 (by decide) ?_
      exact retZ (fr := fun q => q) (fw := fun _ => cX12 cy ad v) h hx hb hr narZ0 hlocks hK hP hD hS dX12_fits_53
    · replace h := (br h).2 c9
      exact B48 _ _ _ h hP hD hS (lv_sub hl [] rfl)
theorem hd_X12_swap : yX12_swap.cls = RX12 ∧ yX12_swap.cls ≠ "java/lang/invoke/MethodHandle" ∧ yX12_swap.cls ≠ "java/lang/invoke/VarHandle" ∧ (parseMethodDescriptor yX12_swap.desc).map (fun d => d.parameters.length) = some 1 := ⟨rfl, by decide +kernel, by decide +kernel, by decide +kernel⟩
def f_X12_swap_b98 (N : Nat) (v : VV) (x1 : Int32) (x2 : Int32) (x3 : Int32) : Option (((Int32 × VV) ⊕ (((Int32 × VV) ⊕ (Int32 × VV))))) :=
  some (.inl (x3 + 1, v))
def f_X12_swap_s32 (N : Nat) (v : VV) (x1 : Int32) (x2 : Int32) (x3 : Int32) : Option (((Int32 × VV) ⊕ (((Int32 × VV) ⊕ (Int32 × VV))))) :=
  if v.2.1 3 0 ≤ x3 then inrO (some (.inl (x2 + 1, v))) else gin x3 184 (bnd (f_X12_gains N v x2 (v.2.1 37 x3.toNatClampNeg)) (fun q3201 => if q3201.1 = 0 then f_X12_swap_b98 N q3201.2 x1 x2 x3 else gin x2 184 (bnd (f_X12_gains N q3201.2 x3 (q3201.2.2.1 37 x2.toNatClampNeg)) (fun q3203 => if q3203.1 = 0 then f_X12_swap_b98 N q3203.2 x1 x2 x3 else bnd (f_X12_fits N q3203.2 x2 x3) (fun q3205 => if q3205 = 0 then f_X12_swap_b98 N q3203.2 x1 x2 x3 else bnd (f_X12_fits N q3203.2 x3 x2) (fun q3207 => if q3207 = 0 then f_X12_swap_b98 N q3203.2 x1 x2 x3 else inrO (inrO (if x1 = 0 then some (x2, q3203.2) else some (x3, q3203.2)))))))))
def f_X12_swap_s18 (N : Nat) (v : VV) (x1 : Int32) (x2 : Int32) : Option (((Int32 × VV) ⊕ (Int32 × VV))) :=
  if v.2.1 3 0 ≤ x2 then inrO (some ((-2), v)) else itr (fun q : Int32 × VV => f_X12_swap_s32 N q.2 x1 x2 q.1) N (x2 + 1, v)
def f_X12_swap (N : Nat) (v : VV) (a1 : Int32) : Option (Int32 × VV) :=
  if a1 < 0 then some ((-1), si v 0 0) else if a1 ≤ 1 then itr (fun q : Int32 × VV => f_X12_swap_s18 N q.2 a1 q.1) N (0, si v 0 0) else some ((-1), si v 0 0)
set_option maxHeartbeats 4000000 in
set_option maxRecDepth 100000 in
theorem k_X12_swap (l : Launch) (G : va_G) (cy : Nat → ClassId) (ev : Nat → Nat) (N : Nat) (ad : Nat → Nat) (v : VV) (a1 : Int32) (res : Int32 × VV) (h : f_X12_swap N v a1 = some res) : MetI l yX12_swap cX12_swap 4 (some .int) 6 143 G cy ev [.ref (ad 0), .int a1] (cX12 cy ad v) res.1 (cX12 cy ad res.2) := by
  refine MetQ.start (by decide +kernel) (Nat.le_of_ble_eq_true rfl) (fun p e s m args below meth c A ls hx hb hr hml hown hts hlocks hK hP hD hA hl hE => ?_)
  have hS : va_S A s.heap s.heap [] := va_S.rf
  have hown : s.vm.findClass RX12 = some m.cls := hown
  have hl : lv_has ls 4 [(0, .ref (ad 0)), (1, .int a1)] := hl
  have L18 : ∀ (x1 : Int32) (n : Nat) (x2 : Int32) (v : VV) (H : Heap) (locs : List Loc) (ls : Array Slot), itr (fun q : Int32 × VV => f_X12_swap_s18 N q.2 x1 q.1) n (x2, v) = some res → va_P G vwCl (cX12 cy ad v) H → va_D A (cX12 cy ad v) → va_S A s.heap H locs → lv_has ls 4 [(0, .ref (ad 0)), (1, .int x1), (2, .int x2)] → W p l e (rmX 6 143) s m args below meth c H locs 0 0 (MQ below (mQi (res.1) G cy A (cX12 cy ad res.2)) args s 0 0 A) (F0 m 18 ls []) := by
    intro x1 n
    induction n with
    | zero => intro x2 v H locs ls h; exact (itr_zero h).elim
    | succ n ih1 =>
      intro x2 v H locs ls h hP hD hS hl
      obtain ⟨y1, h, hy1⟩ := itr_inv h
      have h : f_X12_swap_s18 N v x1 x2 = some y1 := h
      have L32 : ∀ (x2 : Int32) (n : Nat) (x3 : Int32) (v : VV) (H : Heap) (locs : List Loc) (ls : Array Slot), itr (fun q : Int32 × VV => f_X12_swap_s32 N q.2 x1 x2 q.1) n (x3, v) = some y1 → va_P G vwCl (cX12 cy ad v) H → va_D A (cX12 cy ad v) → va_S A s.heap H locs → lv_has ls 4 [(0, .ref (ad 0)), (1, .int x1), (2, .int x2), (3, .int x3)] → W p l e (rmX 6 143) s m args below meth c H locs 0 0 (MQ below (mQi (res.1) G cy A (cX12 cy ad res.2)) args s 0 0 A) (F0 m 32 ls []) := by
        intro x2 n
        induction n with
        | zero => intro x3 v H locs ls h; exact (itr_zero h).elim
        | succ n ih2 =>
          intro x3 v H locs ls h hP hD hS hl
          obtain ⟨y2, h, hy2⟩ := itr_inv h
          have h : f_X12_swap_s32 N v x1 x2 x3 = some y2 := h
          have B98 : ∀ (x3 : Int32) (v : VV) (H : Heap) (locs : List Loc) (ls : Array Slot), f_X12_swap_b98 N v x1 x2 x3 = some y2 → va_P G vwCl (cX12 cy ad v) H → va_D A (cX12 cy ad v) → va_S A s.heap H locs → lv_has ls 4 [(0, .ref (ad 0)), (1, .int x1), (2, .int x2), (3, .int x3)] → W p l e (rmX 6 143) s m args below meth c H locs 0 0 (MQ below (mQi (res.1) G cy A (cX12 cy ad res.2)) args s 0 0 A) (F0 m 98 ls []) := by
            intro x3 v H locs ls h hP hD hS hl
            delta f_X12_swap_b98 at h
            refine lv_iinc (v := x3 + 1) (lv' := [(3, .int (x3 + 1)), (0, .ref (ad 0)), (1, .int x1), (2, .int x2)]) hx hb dX12_swap_98 hl (k := 3) rfl rfl (by decide) rfl (fun ls hl => ?_)
            refine lv_goto (tgt := 32) hx hb dX12_swap_101 (by decide) ?_
            replace h := itr_back h hy2
            exact ih2 (x3 + 1) v _ _ _ h hP hD hS (lv_sub hl [1, 2, 3, 0] rfl)
          delta f_X12_swap_s32 at h
          refine lv_iload_n hx hb dX12_swap_32 rfl (lv_at hl 3 rfl) ?_
          refine lv_aload_n hx hb dX12_swap_33 rfl (lv_at hl 0 rfl) ?_
          refine gf_X12_3 hx hb hts hown hK hP dX12_swap_34 ?_
          refine lv_iconst (v := 0) hx hb dX12_swap_37 (by decide) ?_
          refine ld_X12_3 (f := v.2.1 3) (j := 0) hx hb hK hP rfl (vin_dec (by decide)) (by decide) dX12_swap_38 ?_
          refine lv_icmp_ge (tgt := 104) hx hb dX12_swap_39 (by decide) (fun c9 => ?_) (fun c9 => ?_)
          · replace h := (br h).1 c9
            replace h := itr_exit h hy2
            refine lv_iinc (v := x2 + 1) (lv' := [(2, .int (x2 + 1)), (0, .ref (ad 0)), (1, .int x1), (3, .int x3)]) hx hb dX12_swap_104 hl (k := 2) rfl rfl (by decide) rfl (fun ls hl => ?_)
            refine lv_goto (tgt := 18) hx hb dX12_swap_107 (by decide) ?_
            replace h := itr_back h hy1
            exact ih1 (x2 + 1) v _ _ _ h hP hD hS (lv_sub hl [1, 2, 0] rfl)
          · replace h := (br h).2 c9
            refine lv_aload_n hx hb dX12_swap_42 rfl (lv_at hl 0 rfl) ?_
            refine lv_iload_n hx hb dX12_swap_43 rfl (lv_at hl 2 rfl) ?_
            refine lv_aload_n hx hb dX12_swap_44 rfl (lv_at hl 0 rfl) ?_
            refine gf_X12_37 hx hb hts hown hK hP dX12_swap_45 ?_
            refine lv_iload_n hx hb dX12_swap_48 rfl (lv_at hl 3 rfl) ?_
            replace h := gin_inv h
            obtain ⟨h9, h⟩ := h
            refine ld_X12_37 (f := v.2.1 37) (j := x3.toNatClampNeg) hx hb hK hP rfl h9 rfl dX12_swap_49 ?_
            replace h := bd h
            obtain ⟨q3201, h3202, h⟩ := h
            refine callVi0 (As := [.int x2, .int (v.2.1 37 x3.toNatClampNeg)]) (rest := []) hx hb hml hown hts (k_X12_gains l G cy ev N ad v x2 (v.2.1 37 x3.toNatClampNeg) q3201 h3202) wm_47_11 wm_47_12 wm_47_13 wm_1_5 wm_47_14 hd_X12_gains ⟨by decide, by decide⟩ hK hP hD hS hA hE (va_recv hK hP (ci := 12) (q0 := 0) rfl rfl) rfl rfl hl.1 (Nat.le_of_ble_eq_true rfl) dX12_swap_50 (fun H locs hP hD hS => ?_)
            refine lv_if_eq (tgt := 98) hx hb dX12_swap_53 (by decide) (fun c9 => ?_) (fun c9 => ?_)
            · replace h := (br h).1 c9
              exact B98 x3 q3201.2 _ _ _ h hP hD hS (lv_sub hl [0, 1, 2, 3] rfl)
            · replace h := (br h).2 c9
              refine lv_aload_n hx hb dX12_swap_56 rfl (lv_at hl 0 rfl) ?_
              refine lv_iload_n hx hb dX12_swap_57 rfl (lv_at hl 3 rfl) ?_
              refine lv_aload_n hx hb dX12_swap_58 rfl (lv_at hl 0 rfl) ?_
              refine gf_X12_37 hx hb hts hown hK hP dX12_swap_59 ?_
              refine lv_iload_n hx hb dX12_swap_62 rfl (lv_at hl 2 rfl) ?_
              replace h := gin_inv h
              obtain ⟨h9, h⟩ := h
              refine ld_X12_37 (f := q3201.2.2.1 37) (j := x2.toNatClampNeg) hx hb hK hP rfl h9 rfl dX12_swap_63 ?_
              replace h := bd h
              obtain ⟨q3203, h3204, h⟩ := h
              refine callVi0 (As := [.int x3, .int (q3201.2.2.1 37 x2.toNatClampNeg)]) (rest := []) hx hb hml hown hts (k_X12_gains l G cy ev N ad q3201.2 x3 (q3201.2.2.1 37 x2.toNatClampNeg) q3203 h3204) wm_47_11 wm_47_12 wm_47_13 wm_1_5 wm_47_14 hd_X12_gains ⟨by decide, by decide⟩ hK hP hD hS hA hE (va_recv hK hP (ci := 12) (q0 := 0) rfl rfl) rfl rfl hl.1 (Nat.le_of_ble_eq_true rfl) dX12_swap_64 (fun H locs hP hD hS => ?_)
              refine lv_if_eq (tgt := 98) hx hb dX12_swap_67 (by decide) (fun c9 => ?_) (fun c9 => ?_)
              · replace h := (br h).1 c9
                exact B98 x3 q3203.2 _ _ _ h hP hD hS (lv_sub hl [0, 1, 2, 3] rfl)
              · replace h := (br h).2 c9
                refine lv_aload_n hx hb dX12_swap_70 rfl (lv_at hl 0 rfl) ?_
                refine lv_iload_n hx hb dX12_swap_71 rfl (lv_at hl 2 rfl) ?_
                refine lv_iload_n hx hb dX12_swap_72 rfl (lv_at hl 3 rfl) ?_
                replace h := bd h
                obtain ⟨q3205, h3206, h⟩ := h
                refine callVi0 (As := [.int x2, .int x3]) (rest := []) hx hb hml hown hts (k_X12_fits l G cy ev N ad q3203.2 x2 x3 q3205 h3206) wm_47_15 wm_47_16 wm_47_17 wm_1_5 wm_47_18 hd_X12_fits ⟨by decide, by decide⟩ hK hP hD hS hA hE (va_recv hK hP (ci := 12) (q0 := 0) rfl rfl) rfl rfl hl.1 (Nat.le_of_ble_eq_true rfl) dX12_swap_73 (fun H locs hP hD hS => ?_)
                refine lv_if_eq (tgt := 98) hx hb dX12_swap_76 (by decide) (fun c9 => ?_) (fun c9 => ?_)
                · replace h := (br h).1 c9
                  exact B98 x3 q3203.2 _ _ _ h hP hD hS (lv_sub hl [0, 1, 2, 3] rfl)
                · replace h := (br h).2 c9
                  refine lv_aload_n hx hb dX12_swap_79 rfl (lv_at hl 0 rfl) ?_
                  refine lv_iload_n hx hb dX12_swap_80 rfl (lv_at hl 3 rfl) ?_
                  refine lv_iload_n hx hb dX12_swap_81 rfl (lv_at hl 2 rfl) ?_
                  replace h := bd h
                  obtain ⟨q3207, h3208, h⟩ := h
                  refine callVi0 (As := [.int x3, .int x2]) (rest := []) hx hb hml hown hts (k_X12_fits l G cy ev N ad q3203.2 x3 x2 q3207 h3208) wm_47_15 wm_47_16 wm_47_17 wm_1_5 wm_47_18 hd_X12_fits ⟨by decide, by decide⟩ hK hP hD hS hA hE (va_recv hK hP (ci := 12) (q0 := 0) rfl rfl) rfl rfl hl.1 (Nat.le_of_ble_eq_true rfl) dX12_swap_82 (fun H locs hP hD hS => ?_)
                  refine lv_if_eq (tgt := 98) hx hb dX12_swap_85 (by decide) (fun c9 => ?_) (fun c9 => ?_)
                  · replace h := (br h).1 c9
                    exact B98 x3 q3203.2 _ _ _ h hP hD hS (lv_sub hl [0, 1, 2, 3] rfl)
                  · replace h := (br h).2 c9
                    replace h := itr_exit h hy2
                    replace h := itr_exit h hy1
                    refine lv_iload_n hx hb dX12_swap_88 rfl (lv_at hl 1 rfl) ?_
                    refine lv_if_ne (tgt := 96) hx hb dX12_swap_89 (by decide) (fun c9 => ?_) (fun c9 => ?_)
                    · replace h := (br h).2 c9
                      refine lv_iload_n hx hb dX12_swap_96 rfl (lv_at hl 3 rfl) ?_
                      exact retI (fr := fun q => q.1) (fw := fun q => cX12 cy ad q.2) h hx hb hr hlocks hK hP hD hS dX12_swap_97
                    · replace h := (br h).1 c9
                      refine lv_iload_n hx hb dX12_swap_92 rfl (lv_at hl 2 rfl) ?_
                      refine lv_goto (tgt := 97) hx hb dX12_swap_93 (by decide) ?_
                      exact retI (fr := fun q => q.1) (fw := fun q => cX12 cy ad q.2) h hx hb hr hlocks hK hP hD hS dX12_swap_97
      delta f_X12_swap_s18 at h
      refine lv_iload_n hx hb dX12_swap_18 rfl (lv_at hl 2 rfl) ?_
      refine lv_aload_n hx hb dX12_swap_19 rfl (lv_at hl 0 rfl) ?_
      refine gf_X12_3 hx hb hts hown hK hP dX12_swap_20 ?_
      refine lv_iconst (v := 0) hx hb dX12_swap_23 (by decide) ?_
      refine ld_X12_3 (f := v.2.1 3) (j := 0) hx hb hK hP rfl (vin_dec (by decide)) (by decide) dX12_swap_24 ?_
      refine lv_icmp_ge (tgt := 110) hx hb dX12_swap_25 (by decide) (fun c9 => ?_) (fun c9 => ?_)
      · replace h := (br h).1 c9
        replace h := itr_exit h hy1
        refine lv_bipush (v := (-2)) hx hb dX12_swap_110 (by decide) ?_
        exact retI (fr := fun q => q.1) (fw := fun q => cX12 cy ad q.2) h hx hb hr hlocks hK hP hD hS dX12_swap_112
      · replace h := (br h).2 c9
        refine lv_iload_n hx hb dX12_swap_28 rfl (lv_at hl 2 rfl) ?_
        refine lv_iconst (v := 1) hx hb dX12_swap_29 (by decide) ?_
        refine lv_iadd hx hb dX12_swap_30 ?_
        refine lv_istore_n (lv' := [(3, .int (x2 + 1)), (0, .ref (ad 0)), (1, .int x1), (2, .int x2)]) hx hb dX12_swap_31 rfl hl (by decide) rfl (fun ls hl => ?_)
        exact L32 x2 N (x2 + 1) v _ _ _ h hP hD hS (lv_sub hl [1, 2, 3, 0] rfl)
  delta f_X12_swap at h
  refine lv_aload_n hx hb dX12_swap_0 rfl (lv_at hl 0 rfl) ?_
  refine lv_iconst (v := 0) hx hb dX12_swap_1 (by decide) ?_
  refine pf_X12_0 hx hb hts hown hK hP hD hS dX12_swap_2 (fun H locs hP hD hS => ?_)
  refine lv_iload_n hx hb dX12_swap_5 rfl (lv_at hl 1 rfl) ?_
  refine lv_if_lt (tgt := 14) hx hb dX12_swap_6 (by decide) (fun c9 => ?_) (fun c9 => ?_)
  · replace h := (br h).1 c9
    refine lv_iconst (v := (-1)) hx hb dX12_swap_14 (by decide) ?_
    exact retI (fr := fun q => q.1) (fw := fun q => cX12 cy ad q.2) h hx hb hr hlocks hK hP hD hS dX12_swap_15
  · replace h := (br h).2 c9
    refine lv_iload_n hx hb dX12_swap_9 rfl (lv_at hl 1 rfl) ?_
    refine lv_iconst (v := 1) hx hb dX12_swap_10 (by decide) ?_
    refine lv_icmp_le (tgt := 16) hx hb dX12_swap_11 (by decide) (fun c9 => ?_) (fun c9 => ?_)
    · replace h := (br h).1 c9
      refine lv_iconst (v := 0) hx hb dX12_swap_16 (by decide) ?_
      refine lv_istore_n (lv' := [(2, .int 0), (0, .ref (ad 0)), (1, .int a1)]) hx hb dX12_swap_17 rfl hl (by decide) rfl (fun ls hl => ?_)
      exact L18 a1 N 0 (si v 0 0) _ _ _ h hP hD hS (lv_sub hl [1, 2, 0] rfl)
    · replace h := (br h).2 c9
      refine lv_iconst (v := (-1)) hx hb dX12_swap_14 (by decide) ?_
      exact retI (fr := fun q => q.1) (fw := fun q => cX12 cy ad q.2) h hx hb hr hlocks hK hP hD hS dX12_swap_15
theorem hd_X12_has : yX12_has.cls = RX12 ∧ yX12_has.cls ≠ "java/lang/invoke/MethodHandle" ∧ yX12_has.cls ≠ "java/lang/invoke/VarHandle" ∧ (parseMethodDescriptor yX12_has.desc).map (fun d => d.parameters.length) = some 4 := ⟨rfl, by decide +kernel, by decide +kernel, by decide +kernel⟩
def f_X12_has (v : VV) (a1 : Int32) (a2 : Int32) (a3 : Int32) (a4 : Int32) : Option (Int32) :=
  if a1 = 0 then some 0 else if a2 = 0 then some a3 else some (a3 - (2 * a4))
set_option maxHeartbeats 4000000 in
set_option maxRecDepth 100000 in
theorem k_X12_has (l : Launch) (G : va_G) (cy : Nat → ClassId) (ev : Nat → Nat) (ad : Nat → Nat) (v : VV) (a1 : Int32) (a2 : Int32) (a3 : Int32) (a4 : Int32) (res : Int32) (h : f_X12_has v a1 a2 a3 a4 = some res) : MetI l yX12_has cX12_has 5 (some .int) 0 0 G cy ev [.ref (ad 0), .int a1, .int a2, .int a3, .int a4] (cX12 cy ad v) res (cX12 cy ad v) := by
  refine MetQ.start (by decide +kernel) (Nat.le_of_ble_eq_true rfl) (fun p e s m args below meth c A ls hx hb hr hml hown hts hlocks hK hP hD hA hl hE => ?_)
  have hS : va_S A s.heap s.heap [] := va_S.rf
  have hown : s.vm.findClass RX12 = some m.cls := hown
  have hl : lv_has ls 5 [(0, .ref (ad 0)), (1, .int a1), (2, .int a2), (3, .int a3), (4, .int a4)] := hl
  delta f_X12_has at h
  refine lv_iload_n hx hb dX12_has_0 rfl (lv_at hl 1 rfl) ?_
  refine lv_if_ne (tgt := 8) hx hb dX12_has_1 (by decide) (fun c9 => ?_) (fun c9 => ?_)
  · replace h := (br h).2 c9
    refine lv_iload_n hx hb dX12_has_8 rfl (lv_at hl 2 rfl) ?_
    refine lv_if_ne (tgt := 16) hx hb dX12_has_9 (by decide) (fun c9 => ?_) (fun c9 => ?_)
    · replace h := (br h).2 c9
      refine lv_iload_n hx hb dX12_has_16 rfl (lv_at hl 3 rfl) ?_
      refine lv_iconst (v := 2) hx hb dX12_has_17 (by decide) ?_
      refine lv_iload hx hb dX12_has_18 (lv_at hl 4 rfl) ?_
      refine lv_imul hx hb dX12_has_20 ?_
      refine lv_isub hx hb dX12_has_21 ?_
      exact retI (fr := fun q => q) (fw := fun _ => cX12 cy ad v) h hx hb hr hlocks hK hP hD hS dX12_has_22
    · replace h := (br h).1 c9
      refine lv_iload_n hx hb dX12_has_12 rfl (lv_at hl 3 rfl) ?_
      refine lv_goto (tgt := 22) hx hb dX12_has_13 (by decide) ?_
      exact retI (fr := fun q => q) (fw := fun _ => cX12 cy ad v) h hx hb hr hlocks hK hP hD hS dX12_has_22
  · replace h := (br h).1 c9
    refine lv_iconst (v := 0) hx hb dX12_has_4 (by decide) ?_
    refine lv_goto (tgt := 22) hx hb dX12_has_5 (by decide) ?_
    exact retI (fr := fun q => q) (fw := fun _ => cX12 cy ad v) h hx hb hr hlocks hK hP hD hS dX12_has_22
theorem hd_X12_isRest : yX12_isRest.cls = RX12 ∧ yX12_isRest.cls ≠ "java/lang/invoke/MethodHandle" ∧ yX12_isRest.cls ≠ "java/lang/invoke/VarHandle" ∧ (parseMethodDescriptor yX12_isRest.desc).map (fun d => d.parameters.length) = some 4 := ⟨rfl, by decide +kernel, by decide +kernel, by decide +kernel⟩
def f_X12_isRest (v : VV) (a1 : Int32) (a2 : Int32) (a3 : Int32) (a4 : Int32) : Option (Int32) :=
  gin a3 16 (gin a4 16 (bnd (f_X12_has v (1 - a1) a2 (v.2.1 8 a3.toNatClampNeg) (v.2.1 8 a4.toNatClampNeg)) (fun q1 => bnd (f_X12_has v a1 a2 (v.2.1 8 a3.toNatClampNeg) (v.2.1 8 a4.toNatClampNeg)) (fun q3 => if q3 < q1 then some 0 else bnd (f_X12_has v (1 - a2) a1 (v.2.1 8 a4.toNatClampNeg) (v.2.1 8 a3.toNatClampNeg)) (fun q5 => bnd (f_X12_has v a2 a1 (v.2.1 8 a4.toNatClampNeg) (v.2.1 8 a3.toNatClampNeg)) (fun q7 => if q7 < q5 then some 0 else some 1))))))
set_option maxHeartbeats 4000000 in
set_option maxRecDepth 100000 in
theorem k_X12_isRest (l : Launch) (G : va_G) (cy : Nat → ClassId) (ev : Nat → Nat) (ad : Nat → Nat) (v : VV) (a1 : Int32) (a2 : Int32) (a3 : Int32) (a4 : Int32) (res : Int32) (h : f_X12_isRest v a1 a2 a3 a4 = some res) : MetI l yX12_isRest cX12_isRest 7 (some .boolean) 1 24 G cy ev [.ref (ad 0), .int a1, .int a2, .int a3, .int a4] (cX12 cy ad v) res (cX12 cy ad v) := by
  refine MetQ.start (by decide +kernel) (Nat.le_of_ble_eq_true rfl) (fun p e s m args below meth c A ls hx hb hr hml hown hts hlocks hK hP hD hA hl hE => ?_)
  have hS : va_S A s.heap s.heap [] := va_S.rf
  have hown : s.vm.findClass RX12 = some m.cls := hown
  have hl : lv_has ls 7 [(0, .ref (ad 0)), (1, .int a1), (2, .int a2), (3, .int a3), (4, .int a4)] := hl
  delta f_X12_isRest at h
  refine lv_aload_n hx hb dX12_isRest_0 rfl (lv_at hl 0 rfl) ?_
  refine gf_X12_8 hx hb hts hown hK hP dX12_isRest_1 ?_
  refine lv_iload_n hx hb dX12_isRest_4 rfl (lv_at hl 3 rfl) ?_
  replace h := gin_inv h
  obtain ⟨h9, h⟩ := h
  refine ld_X12_8 (f := v.2.1 8) (j := a3.toNatClampNeg) hx hb hK hP rfl h9 rfl dX12_isRest_5 ?_
  refine lv_istore (lv' := [(5, .int (v.2.1 8 a3.toNatClampNeg)), (0, .ref (ad 0)), (1, .int a1), (2, .int a2), (3, .int a3), (4, .int a4)]) hx hb dX12_isRest_6 hl (by decide) rfl (fun ls hl => ?_)
  refine lv_aload_n hx hb dX12_isRest_8 rfl (lv_at hl 1 rfl) ?_
  refine gf_X12_8 hx hb hts hown hK hP dX12_isRest_9 ?_
  refine lv_iload hx hb dX12_isRest_12 (lv_at hl 5 rfl) ?_
  replace h := gin_inv h
  obtain ⟨h9, h⟩ := h
  refine ld_X12_8 (f := v.2.1 8) (j := a4.toNatClampNeg) hx hb hK hP rfl h9 rfl dX12_isRest_14 ?_
  refine lv_istore (lv' := [(6, .int (v.2.1 8 a4.toNatClampNeg)), (5, .int (v.2.1 8 a3.toNatClampNeg)), (0, .ref (ad 0)), (1, .int a1), (2, .int a2), (3, .int a3), (4, .int a4)]) hx hb dX12_isRest_15 hl (by decide) rfl (fun ls hl => ?_)
  refine lv_aload_n hx hb dX12_isRest_17 rfl (lv_at hl 2 rfl) ?_
  refine lv_iconst (v := 1) hx hb dX12_isRest_18 (by decide) ?_
  refine lv_iload_n hx hb dX12_isRest_19 rfl (lv_at hl 3 rfl) ?_
  refine lv_isub hx hb dX12_isRest_20 ?_
  refine lv_iload_n hx hb dX12_isRest_21 rfl (lv_at hl 4 rfl) ?_
  refine lv_iload hx hb dX12_isRest_22 (lv_at hl 1 rfl) ?_
  refine lv_iload hx hb dX12_isRest_24 (lv_at hl 0 rfl) ?_
  replace h := bd h
  obtain ⟨q1, h2, h⟩ := h
  refine callVi0 (As := [.int (1 - a1), .int a2, .int (v.2.1 8 a3.toNatClampNeg), .int (v.2.1 8 a4.toNatClampNeg)]) (rest := []) hx hb hml hown hts (k_X12_has l G cy ev ad v (1 - a1) a2 (v.2.1 8 a3.toNatClampNeg) (v.2.1 8 a4.toNatClampNeg) q1 h2) wm_49_9 wm_49_10 wm_49_11 wm_1_5 wm_49_12 hd_X12_has ⟨by decide, by decide⟩ hK hP hD hS hA hE (va_recv hK hP (ci := 12) (q0 := 0) rfl rfl) rfl rfl hl.1 (Nat.le_of_ble_eq_true rfl) dX12_isRest_26 (fun H locs hP hD hS => ?_)
  refine lv_aload_n hx hb dX12_isRest_29 rfl (lv_at hl 2 rfl) ?_
  refine lv_iload_n hx hb dX12_isRest_30 rfl (lv_at hl 3 rfl) ?_
  refine lv_iload_n hx hb dX12_isRest_31 rfl (lv_at hl 4 rfl) ?_
  refine lv_iload hx hb dX12_isRest_32 (lv_at hl 1 rfl) ?_
  refine lv_iload hx hb dX12_isRest_34 (lv_at hl 0 rfl) ?_
  replace h := bd h
  obtain ⟨q3, h4, h⟩ := h
  refine callVi0 (As := [.int a1, .int a2, .int (v.2.1 8 a3.toNatClampNeg), .int (v.2.1 8 a4.toNatClampNeg)]) (rest := [.int q1]) hx hb hml hown hts (k_X12_has l G cy ev ad v a1 a2 (v.2.1 8 a3.toNatClampNeg) (v.2.1 8 a4.toNatClampNeg) q3 h4) wm_49_9 wm_49_10 wm_49_11 wm_1_5 wm_49_12 hd_X12_has ⟨by decide, by decide⟩ hK hP hD hS hA hE (va_recv hK hP (ci := 12) (q0 := 0) rfl rfl) rfl rfl hl.1 (Nat.le_of_ble_eq_true rfl) dX12_isRest_36 (fun H locs hP hD hS => ?_)
  refine lv_icmp_gt (tgt := 71) hx hb dX12_isRest_39 (by decide) (fun c9 => ?_) (fun c9 => ?_)
  · replace h := (br h).1 c9
    refine lv_iconst (v := 0) hx hb dX12_isRest_71 (by decide) ?_
    exact retZ (fr := fun q => q) (fw := fun _ => cX12 cy ad v) h hx hb hr narZ0 hlocks hK hP hD hS dX12_isRest_72
  · replace h := (br h).2 c9
    refine lv_aload_n hx hb dX12_isRest_42 rfl (lv_at hl 2 rfl) ?_
    refine lv_iconst (v := 1) hx hb dX12_isRest_43 (by decide) ?_
    refine lv_iload_n hx hb dX12_isRest_44 rfl (lv_at hl 4 rfl) ?_
    refine lv_isub hx hb dX12_isRest_45 ?_
    refine lv_iload_n hx hb dX12_isRest_46 rfl (lv_at hl 3 rfl) ?_
    refine lv_iload hx hb dX12_isRest_47 (lv_at hl 0 rfl) ?_
    refine lv_iload hx hb dX12_isRest_49 (lv_at hl 1 rfl) ?_
    replace h := bd h
    obtain ⟨q5, h6, h⟩ := h
    refine callVi0 (As := [.int (1 - a2), .int a1, .int (v.2.1 8 a4.toNatClampNeg), .int (v.2.1 8 a3.toNatClampNeg)]) (rest := []) hx hb hml hown hts (k_X12_has l G cy ev ad v (1 - a2) a1 (v.2.1 8 a4.toNatClampNeg) (v.2.1 8 a3.toNatClampNeg) q5 h6) wm_49_9 wm_49_10 wm_49_11 wm_1_5 wm_49_12 hd_X12_has ⟨by decide, by decide⟩ hK hP hD hS hA hE (va_recv hK hP (ci := 12) (q0 := 0) rfl rfl) rfl rfl hl.1 (Nat.le_of_ble_eq_true rfl) dX12_isRest_51 (fun H locs hP hD hS => ?_)
    refine lv_aload_n hx hb dX12_isRest_54 rfl (lv_at hl 2 rfl) ?_
    refine lv_iload_n hx hb dX12_isRest_55 rfl (lv_at hl 4 rfl) ?_
    refine lv_iload_n hx hb dX12_isRest_56 rfl (lv_at hl 3 rfl) ?_
    refine lv_iload hx hb dX12_isRest_57 (lv_at hl 0 rfl) ?_
    refine lv_iload hx hb dX12_isRest_59 (lv_at hl 1 rfl) ?_
    replace h := bd h
    obtain ⟨q7, h8, h⟩ := h
    refine callVi0 (As := [.int a2, .int a1, .int (v.2.1 8 a4.toNatClampNeg), .int (v.2.1 8 a3.toNatClampNeg)]) (rest := [.int q5]) hx hb hml hown hts (k_X12_has l G cy ev ad v a2 a1 (v.2.1 8 a4.toNatClampNeg) (v.2.1 8 a3.toNatClampNeg) q7 h8) wm_49_9 wm_49_10 wm_49_11 wm_1_5 wm_49_12 hd_X12_has ⟨by decide, by decide⟩ hK hP hD hS hA hE (va_recv hK hP (ci := 12) (q0 := 0) rfl rfl) rfl rfl hl.1 (Nat.le_of_ble_eq_true rfl) dX12_isRest_61 (fun H locs hP hD hS => ?_)
    refine lv_icmp_gt (tgt := 71) hx hb dX12_isRest_64 (by decide) (fun c9 => ?_) (fun c9 => ?_)
    · replace h := (br h).1 c9
      refine lv_iconst (v := 0) hx hb dX12_isRest_71 (by decide) ?_
      exact retZ (fr := fun q => q) (fw := fun _ => cX12 cy ad v) h hx hb hr narZ0 hlocks hK hP hD hS dX12_isRest_72
    · replace h := (br h).2 c9
      refine lv_iconst (v := 1) hx hb dX12_isRest_67 (by decide) ?_
      refine lv_goto (tgt := 72) hx hb dX12_isRest_68 (by decide) ?_
      exact retZ (fr := fun q => q) (fw := fun _ => cX12 cy ad v) h hx hb hr narZ1 hlocks hK hP hD hS dX12_isRest_72
theorem hd_X12_restOf : yX12_restOf.cls = RX12 ∧ yX12_restOf.cls ≠ "java/lang/invoke/MethodHandle" ∧ yX12_restOf.cls ≠ "java/lang/invoke/VarHandle" ∧ (parseMethodDescriptor yX12_restOf.desc).map (fun d => d.parameters.length) = some 3 := ⟨rfl, by decide +kernel, by decide +kernel, by decide +kernel⟩
def f_X12_restOf_b54 (N : Nat) (v : VV) (x1 : Int32) (x2 : Int32) (x3 : Int32) (x4 : Int32) (x5 : Int32) : Option (((Int32 × Int32) ⊕ (Int32))) :=
  some (.inl (x4, x5 + 1))
def f_X12_restOf_s6 (N : Nat) (v : VV) (x1 : Int32) (x2 : Int32) (x3 : Int32) (x4 : Int32) (x5 : Int32) : Option (((Int32 × Int32) ⊕ (Int32))) :=
  if (4 : Int32) ≤ x5 then inrO (if x3 = (-1) then some x4 else some ((-2))) else bnd (f_X12_isRest v (x5 / 2) (x5 - x5 / 2 * 2) x1 x2) (fun q601 => if q601 = 0 then f_X12_restOf_b54 N v x1 x2 x3 x4 x5 else if x4 = x3 then inrO (some ((10 * (x5 / 2)) + (x5 - x5 / 2 * 2))) else f_X12_restOf_b54 N v x1 x2 x3 (x4 + 1) x5)
def f_X12_restOf (N : Nat) (v : VV) (a1 : Int32) (a2 : Int32) (a3 : Int32) : Option (Int32) :=
  itr (fun q : Int32 × Int32 => f_X12_restOf_s6 N v a1 a2 a3 q.1 q.2) N (0, 0)
set_option maxHeartbeats 4000000 in
set_option maxRecDepth 100000 in
theorem k_X12_restOf (l : Launch) (G : va_G) (cy : Nat → ClassId) (ev : Nat → Nat) (N : Nat) (ad : Nat → Nat) (v : VV) (a1 : Int32) (a2 : Int32) (a3 : Int32) (res : Int32) (h : f_X12_restOf N v a1 a2 a3 = some res) : MetI l yX12_restOf cX12_restOf 6 (some .int) 2 50 G cy ev [.ref (ad 0), .int a1, .int a2, .int a3] (cX12 cy ad v) res (cX12 cy ad v) := by
  refine MetQ.start (by decide +kernel) (Nat.le_of_ble_eq_true rfl) (fun p e s m args below meth c A ls hx hb hr hml hown hts hlocks hK hP hD hA hl hE => ?_)
  have hS : va_S A s.heap s.heap [] := va_S.rf
  have hown : s.vm.findClass RX12 = some m.cls := hown
  have hl : lv_has ls 6 [(0, .ref (ad 0)), (1, .int a1), (2, .int a2), (3, .int a3)] := hl
  have L6 : ∀ (x1 : Int32) (x2 : Int32) (x3 : Int32) (n : Nat) (x4 : Int32) (x5 : Int32) (H : Heap) (locs : List Loc) (ls : Array Slot), itr (fun q : Int32 × Int32 => f_X12_restOf_s6 N v x1 x2 x3 q.1 q.2) n (x4, x5) = some res → va_P G vwCl (cX12 cy ad v) H → va_D A (cX12 cy ad v) → va_S A s.heap H locs → lv_has ls 6 [(0, .ref (ad 0)), (1, .int x1), (2, .int x2), (3, .int x3), (4, .int x4), (5, .int x5)] → W p l e (rmX 2 50) s m args below meth c H locs 0 0 (MQ below (mQi (res) G cy A (cX12 cy ad v)) args s 0 0 A) (F0 m 6 ls []) := by
    intro x1 x2 x3 n
    induction n with
    | zero => intro x4 x5 H locs ls h; exact (itr_zero h).elim
    | succ n ih1 =>
      intro x4 x5 H locs ls h hP hD hS hl
      obtain ⟨y1, h, hy1⟩ := itr_inv h
      have h : f_X12_restOf_s6 N v x1 x2 x3 x4 x5 = some y1 := h
      have B54 : ∀ (x4 : Int32) (x5 : Int32) (H : Heap) (locs : List Loc) (ls : Array Slot), f_X12_restOf_b54 N v x1 x2 x3 x4 x5 = some y1 → va_P G vwCl (cX12 cy ad v) H → va_D A (cX12 cy ad v) → va_S A s.heap H locs → lv_has ls 6 [(0, .ref (ad 0)), (1, .int x1), (2, .int x2), (3, .int x3), (4, .int x4), (5, .int x5)] → W p l e (rmX 2 50) s m args below meth c H locs 0 0 (MQ below (mQi (res) G cy A (cX12 cy ad v)) args s 0 0 A) (F0 m 54 ls []) := by
        intro x4 x5 H locs ls h hP hD hS hl
        delta f_X12_restOf_b54 at h
        refine lv_iinc (v := x5 + 1) (lv' := [(5, .int (x5 + 1)), (0, .ref (ad 0)), (1, .int x1), (2, .int x2), (3, .int x3), (4, .int x4)]) hx hb dX12_restOf_54 hl (k := 5) rfl rfl (by decide) rfl (fun ls hl => ?_)
        refine lv_goto (tgt := 6) hx hb dX12_restOf_57 (by decide) ?_
        replace h := itr_back h hy1
        exact ih1 x4 (x5 + 1) _ _ _ h hP hD hS (lv_sub hl [1, 2, 3, 4, 5, 0] rfl)
      delta f_X12_restOf_s6 at h
      refine lv_iload hx hb dX12_restOf_6 (lv_at hl 5 rfl) ?_
      refine lv_iconst (v := 4) hx hb dX12_restOf_8 (by decide) ?_
      refine lv_icmp_ge (tgt := 60) hx hb dX12_restOf_9 (by decide) (fun c9 => ?_) (fun c9 => ?_)
      · replace h := (br h).1 c9
        replace h := itr_exit h hy1
        refine lv_iload_n hx hb dX12_restOf_60 rfl (lv_at hl 3 rfl) ?_
        refine lv_iconst (v := (-1)) hx hb dX12_restOf_61 (by decide) ?_
        refine lv_icmp_ne (tgt := 70) hx hb dX12_restOf_62 (by decide) (fun c9 => ?_) (fun c9 => ?_)
        · replace h := (br h).2 c9
          refine lv_bipush (v := (-2)) hx hb dX12_restOf_70 (by decide) ?_
          exact retI (fr := fun q => q) (fw := fun _ => cX12 cy ad v) h hx hb hr hlocks hK hP hD hS dX12_restOf_72
        · replace h := (br h).1 c9
          refine lv_iload hx hb dX12_restOf_65 (lv_at hl 4 rfl) ?_
          refine lv_goto (tgt := 72) hx hb dX12_restOf_67 (by decide) ?_
          exact retI (fr := fun q => q) (fw := fun _ => cX12 cy ad v) h hx hb hr hlocks hK hP hD hS dX12_restOf_72
      · replace h := (br h).2 c9
        refine lv_aload_n hx hb dX12_restOf_12 rfl (lv_at hl 0 rfl) ?_
        refine lv_iload hx hb dX12_restOf_13 (lv_at hl 5 rfl) ?_
        refine lv_iconst (v := 2) hx hb dX12_restOf_15 (by decide) ?_
        refine lv_idiv hx hb dX12_restOf_16 (by decide) ?_
        refine lv_iload hx hb dX12_restOf_17 (lv_at hl 5 rfl) ?_
        refine lv_iconst (v := 2) hx hb dX12_restOf_19 (by decide) ?_
        refine lv_irem hx hb dX12_restOf_20 (by decide) ?_
        refine lv_iload_n hx hb dX12_restOf_21 rfl (lv_at hl 1 rfl) ?_
        refine lv_iload_n hx hb dX12_restOf_22 rfl (lv_at hl 2 rfl) ?_
        replace h := bd h
        obtain ⟨q601, h602, h⟩ := h
        refine callVi0 (As := [.int (x5 / 2), .int (x5 - x5 / 2 * 2), .int x1, .int x2]) (rest := []) hx hb hml hown hts (k_X12_isRest l G cy ev ad v (x5 / 2) (x5 - x5 / 2 * 2) x1 x2 q601 h602) wm_49_5 wm_49_6 wm_49_7 wm_1_5 wm_49_8 hd_X12_isRest ⟨by decide, by decide⟩ hK hP hD hS hA hE (va_recv hK hP (ci := 12) (q0 := 0) rfl rfl) rfl rfl hl.1 (Nat.le_of_ble_eq_true rfl) dX12_restOf_23 (fun H locs hP hD hS => ?_)
        refine lv_if_ne (tgt := 32) hx hb dX12_restOf_26 (by decide) (fun c9 => ?_) (fun c9 => ?_)
        · replace h := (br h).2 c9
          refine lv_iload hx hb dX12_restOf_32 (lv_at hl 4 rfl) ?_
          refine lv_iload_n hx hb dX12_restOf_34 rfl (lv_at hl 3 rfl) ?_
          refine lv_icmp_ne (tgt := 51) hx hb dX12_restOf_35 (by decide) (fun c9 => ?_) (fun c9 => ?_)
          · replace h := (br h).2 c9
            refine lv_iinc (v := x4 + 1) (lv' := [(4, .int (x4 + 1)), (0, .ref (ad 0)), (1, .int x1), (2, .int x2), (3, .int x3), (5, .int x5)]) hx hb dX12_restOf_51 hl (k := 4) rfl rfl (by decide) rfl (fun ls hl => ?_)
            exact B54 (x4 + 1) x5 _ _ _ h hP hD hS (lv_sub hl [1, 2, 3, 4, 0, 5] rfl)
          · replace h := (br h).1 c9
            replace h := itr_exit h hy1
            refine lv_bipush (v := 10) hx hb dX12_restOf_38 (by decide) ?_
            refine lv_iload hx hb dX12_restOf_40 (lv_at hl 5 rfl) ?_
            refine lv_iconst (v := 2) hx hb dX12_restOf_42 (by decide) ?_
            refine lv_idiv hx hb dX12_restOf_43 (by decide) ?_
            refine lv_imul hx hb dX12_restOf_44 ?_
            refine lv_iload hx hb dX12_restOf_45 (lv_at hl 5 rfl) ?_
            refine lv_iconst (v := 2) hx hb dX12_restOf_47 (by decide) ?_
            refine lv_irem hx hb dX12_restOf_48 (by decide) ?_
            refine lv_iadd hx hb dX12_restOf_49 ?_
            exact retI (fr := fun q => q) (fw := fun _ => cX12 cy ad v) h hx hb hr hlocks hK hP hD hS dX12_restOf_50
        · replace h := (br h).1 c9
          refine lv_goto (tgt := 54) hx hb dX12_restOf_29 (by decide) ?_
          exact B54 x4 x5 _ _ _ h hP hD hS (lv_sub hl [0, 1, 2, 3, 4, 5] rfl)
  delta f_X12_restOf at h
  refine lv_iconst (v := 0) hx hb dX12_restOf_0 (by decide) ?_
  refine lv_istore (lv' := [(4, .int 0), (0, .ref (ad 0)), (1, .int a1), (2, .int a2), (3, .int a3)]) hx hb dX12_restOf_1 hl (by decide) rfl (fun ls hl => ?_)
  refine lv_iconst (v := 0) hx hb dX12_restOf_3 (by decide) ?_
  refine lv_istore (lv' := [(5, .int 0), (4, .int 0), (0, .ref (ad 0)), (1, .int a1), (2, .int a2), (3, .int a3)]) hx hb dX12_restOf_4 hl (by decide) rfl (fun ls hl => ?_)
  exact L6 a1 a2 a3 N 0 0 _ _ _ h hP hD hS (lv_sub hl [2, 3, 4, 5, 1, 0] rfl)
theorem hd_X12_areTwo : yX12_areTwo.cls = RX12 ∧ yX12_areTwo.cls ≠ "java/lang/invoke/MethodHandle" ∧ yX12_areTwo.cls ≠ "java/lang/invoke/VarHandle" ∧ (parseMethodDescriptor yX12_areTwo.desc).map (fun d => d.parameters.length) = some 2 := ⟨rfl, by decide +kernel, by decide +kernel, by decide +kernel⟩
def f_X12_areTwo (v : VV) (a1 : Int32) (a2 : Int32) : Option (Int32) :=
  bnd (f_X12_isParty v a1) (fun q1 => if q1 = 0 then some 0 else bnd (f_X12_isParty v a2) (fun q3 => if q3 = 0 then some 0 else if a1 = a2 then some 0 else some 1))
set_option maxHeartbeats 4000000 in
set_option maxRecDepth 100000 in
theorem k_X12_areTwo (l : Launch) (G : va_G) (cy : Nat → ClassId) (ev : Nat → Nat) (ad : Nat → Nat) (v : VV) (a1 : Int32) (a2 : Int32) (res : Int32) (h : f_X12_areTwo v a1 a2 = some res) : MetI l yX12_areTwo cX12_areTwo 3 (some .boolean) 1 21 G cy ev [.ref (ad 0), .int a1, .int a2] (cX12 cy ad v) res (cX12 cy ad v) := by
  refine MetQ.start (by decide +kernel) (Nat.le_of_ble_eq_true rfl) (fun p e s m args below meth c A ls hx hb hr hml hown hts hlocks hK hP hD hA hl hE => ?_)
  have hS : va_S A s.heap s.heap [] := va_S.rf
  have hown : s.vm.findClass RX12 = some m.cls := hown
  have hl : lv_has ls 3 [(0, .ref (ad 0)), (1, .int a1), (2, .int a2)] := hl
  delta f_X12_areTwo at h
  refine lv_aload_n hx hb dX12_areTwo_0 rfl (lv_at hl 0 rfl) ?_
  refine lv_iload_n hx hb dX12_areTwo_1 rfl (lv_at hl 1 rfl) ?_
  replace h := bd h
  obtain ⟨q1, h2, h⟩ := h
  refine callVi0 (As := [.int a1]) (rest := []) hx hb hml hown hts (k_X12_isParty l G cy ev ad v a1 q1 h2) wm_26_23 wm_27_0 wm_27_1 wm_1_5 wm_27_2 hd_X12_isParty ⟨by decide, by decide⟩ hK hP hD hS hA hE (va_recv hK hP (ci := 12) (q0 := 0) rfl rfl) rfl rfl hl.1 (Nat.le_of_ble_eq_true rfl) dX12_areTwo_2 (fun H locs hP hD hS => ?_)
  refine lv_if_eq (tgt := 25) hx hb dX12_areTwo_5 (by decide) (fun c9 => ?_) (fun c9 => ?_)
  · replace h := (br h).1 c9
    refine lv_iconst (v := 0) hx hb dX12_areTwo_25 (by decide) ?_
    exact retZ (fr := fun q => q) (fw := fun _ => cX12 cy ad v) h hx hb hr narZ0 hlocks hK hP hD hS dX12_areTwo_26
  · replace h := (br h).2 c9
    refine lv_aload_n hx hb dX12_areTwo_8 rfl (lv_at hl 0 rfl) ?_
    refine lv_iload_n hx hb dX12_areTwo_9 rfl (lv_at hl 2 rfl) ?_
    replace h := bd h
    obtain ⟨q3, h4, h⟩ := h
    refine callVi0 (As := [.int a2]) (rest := []) hx hb hml hown hts (k_X12_isParty l G cy ev ad v a2 q3 h4) wm_26_23 wm_27_0 wm_27_1 wm_1_5 wm_27_2 hd_X12_isParty ⟨by decide, by decide⟩ hK hP hD hS hA hE (va_recv hK hP (ci := 12) (q0 := 0) rfl rfl) rfl rfl hl.1 (Nat.le_of_ble_eq_true rfl) dX12_areTwo_10 (fun H locs hP hD hS => ?_)
    refine lv_if_eq (tgt := 25) hx hb dX12_areTwo_13 (by decide) (fun c9 => ?_) (fun c9 => ?_)
    · replace h := (br h).1 c9
      refine lv_iconst (v := 0) hx hb dX12_areTwo_25 (by decide) ?_
      exact retZ (fr := fun q => q) (fw := fun _ => cX12 cy ad v) h hx hb hr narZ0 hlocks hK hP hD hS dX12_areTwo_26
    · replace h := (br h).2 c9
      refine lv_iload_n hx hb dX12_areTwo_16 rfl (lv_at hl 1 rfl) ?_
      refine lv_iload_n hx hb dX12_areTwo_17 rfl (lv_at hl 2 rfl) ?_
      refine lv_icmp_eq (tgt := 25) hx hb dX12_areTwo_18 (by decide) (fun c9 => ?_) (fun c9 => ?_)
      · replace h := (br h).1 c9
        refine lv_iconst (v := 0) hx hb dX12_areTwo_25 (by decide) ?_
        exact retZ (fr := fun q => q) (fw := fun _ => cX12 cy ad v) h hx hb hr narZ0 hlocks hK hP hD hS dX12_areTwo_26
      · replace h := (br h).2 c9
        refine lv_iconst (v := 1) hx hb dX12_areTwo_21 (by decide) ?_
        refine lv_goto (tgt := 26) hx hb dX12_areTwo_22 (by decide) ?_
        exact retZ (fr := fun q => q) (fw := fun _ => cX12 cy ad v) h hx hb hr narZ1 hlocks hK hP hD hS dX12_areTwo_26
theorem hd_X12_rests : yX12_rests.cls = RX12 ∧ yX12_rests.cls ≠ "java/lang/invoke/MethodHandle" ∧ yX12_rests.cls ≠ "java/lang/invoke/VarHandle" ∧ (parseMethodDescriptor yX12_rests.desc).map (fun d => d.parameters.length) = some 2 := ⟨rfl, by decide +kernel, by decide +kernel, by decide +kernel⟩
def f_X12_rests (N : Nat) (v : VV) (a1 : Int32) (a2 : Int32) : Option (Int32 × VV) :=
  bnd (f_X12_areTwo (si v 0 0) a1 a2) (fun q1 => if q1 = 0 then some ((-1), si v 0 0) else bnd (f_X12_restOf N (si v 0 0) a1 a2 ((-1))) (fun q3 => some (q3, si v 0 0)))
set_option maxHeartbeats 4000000 in
set_option maxRecDepth 100000 in
theorem k_X12_rests (l : Launch) (G : va_G) (cy : Nat → ClassId) (ev : Nat → Nat) (N : Nat) (ad : Nat → Nat) (v : VV) (a1 : Int32) (a2 : Int32) (res : Int32 × VV) (h : f_X12_rests N v a1 a2 = some res) : MetI l yX12_rests cX12_rests 3 (some .int) 3 75 G cy ev [.ref (ad 0), .int a1, .int a2] (cX12 cy ad v) res.1 (cX12 cy ad res.2) := by
  refine MetQ.start (by decide +kernel) (Nat.le_of_ble_eq_true rfl) (fun p e s m args below meth c A ls hx hb hr hml hown hts hlocks hK hP hD hA hl hE => ?_)
  have hS : va_S A s.heap s.heap [] := va_S.rf
  have hown : s.vm.findClass RX12 = some m.cls := hown
  have hl : lv_has ls 3 [(0, .ref (ad 0)), (1, .int a1), (2, .int a2)] := hl
  delta f_X12_rests at h
  refine lv_aload_n hx hb dX12_rests_0 rfl (lv_at hl 0 rfl) ?_
  refine lv_iconst (v := 0) hx hb dX12_rests_1 (by decide) ?_
  refine pf_X12_0 hx hb hts hown hK hP hD hS dX12_rests_2 (fun H locs hP hD hS => ?_)
  refine lv_aload_n hx hb dX12_rests_5 rfl (lv_at hl 0 rfl) ?_
  refine lv_iload_n hx hb dX12_rests_6 rfl (lv_at hl 1 rfl) ?_
  refine lv_iload_n hx hb dX12_rests_7 rfl (lv_at hl 2 rfl) ?_
  replace h := bd h
  obtain ⟨q1, h2, h⟩ := h
  refine callVi0 (As := [.int a1, .int a2]) (rest := []) hx hb hml hown hts (k_X12_areTwo l G cy ev ad (si v 0 0) a1 a2 q1 h2) wm_48_21 wm_48_22 wm_48_23 wm_1_5 wm_49_0 hd_X12_areTwo ⟨by decide, by decide⟩ hK hP hD hS hA hE (va_recv hK hP (ci := 12) (q0 := 0) rfl rfl) rfl rfl hl.1 (Nat.le_of_ble_eq_true rfl) dX12_rests_8 (fun H locs hP hD hS => ?_)
  refine lv_if_eq (tgt := 24) hx hb dX12_rests_11 (by decide) (fun c9 => ?_) (fun c9 => ?_)
  · replace h := (br h).1 c9
    refine lv_iconst (v := (-1)) hx hb dX12_rests_24 (by decide) ?_
    exact retI (fr := fun q => q.1) (fw := fun q => cX12 cy ad q.2) h hx hb hr hlocks hK hP hD hS dX12_rests_25
  · replace h := (br h).2 c9
    refine lv_aload_n hx hb dX12_rests_14 rfl (lv_at hl 0 rfl) ?_
    refine lv_iload_n hx hb dX12_rests_15 rfl (lv_at hl 1 rfl) ?_
    refine lv_iload_n hx hb dX12_rests_16 rfl (lv_at hl 2 rfl) ?_
    refine lv_iconst (v := (-1)) hx hb dX12_rests_17 (by decide) ?_
    replace h := bd h
    obtain ⟨q3, h4, h⟩ := h
    refine callVi0 (As := [.int a1, .int a2, .int ((-1))]) (rest := []) hx hb hml hown hts (k_X12_restOf l G cy ev N ad (si v 0 0) a1 a2 ((-1)) q3 h4) wm_49_1 wm_49_2 wm_49_3 wm_1_5 wm_49_4 hd_X12_restOf ⟨by decide, by decide⟩ hK hP hD hS hA hE (va_recv hK hP (ci := 12) (q0 := 0) rfl rfl) rfl rfl hl.1 (Nat.le_of_ble_eq_true rfl) dX12_rests_18 (fun H locs hP hD hS => ?_)
    refine lv_goto (tgt := 25) hx hb dX12_rests_21 (by decide) ?_
    exact retI (fr := fun q => q.1) (fw := fun q => cX12 cy ad q.2) h hx hb hr hlocks hK hP hD hS dX12_rests_25
theorem hd_X12_rest : yX12_rest.cls = RX12 ∧ yX12_rest.cls ≠ "java/lang/invoke/MethodHandle" ∧ yX12_rest.cls ≠ "java/lang/invoke/VarHandle" ∧ (parseMethodDescriptor yX12_rest.desc).map (fun d => d.parameters.length) = some 3 := ⟨rfl, by decide +kernel, by decide +kernel, by decide +kernel⟩
def f_X12_rest (N : Nat) (v : VV) (a1 : Int32) (a2 : Int32) (a3 : Int32) : Option (Int32 × VV) :=
  bnd (f_X12_areTwo (si v 0 0) a1 a2) (fun q1 => if q1 = 0 then some ((-1), si v 0 0) else if a3 < 0 then some ((-1), si v 0 0) else bnd (f_X12_restOf N (si v 0 0) a1 a2 a3) (fun q3 => some (q3, si v 0 0)))
set_option maxHeartbeats 4000000 in
set_option maxRecDepth 100000 in
theorem k_X12_rest (l : Launch) (G : va_G) (cy : Nat → ClassId) (ev : Nat → Nat) (N : Nat) (ad : Nat → Nat) (v : VV) (a1 : Int32) (a2 : Int32) (a3 : Int32) (res : Int32 × VV) (h : f_X12_rest N v a1 a2 a3 = some res) : MetI l yX12_rest cX12_rest 4 (some .int) 3 75 G cy ev [.ref (ad 0), .int a1, .int a2, .int a3] (cX12 cy ad v) res.1 (cX12 cy ad res.2) := by
  refine MetQ.start (by decide +kernel) (Nat.le_of_ble_eq_true rfl) (fun p e s m args below meth c A ls hx hb hr hml hown hts hlocks hK hP hD hA hl hE => ?_)
  have hS : va_S A s.heap s.heap [] := va_S.rf
  have hown : s.vm.findClass RX12 = some m.cls := hown
  have hl : lv_has ls 4 [(0, .ref (ad 0)), (1, .int a1), (2, .int a2), (3, .int a3)] := hl
  delta f_X12_rest at h
  refine lv_aload_n hx hb dX12_rest_0 rfl (lv_at hl 0 rfl) ?_
  refine lv_iconst (v := 0) hx hb dX12_rest_1 (by decide) ?_
  refine pf_X12_0 hx hb hts hown hK hP hD hS dX12_rest_2 (fun H locs hP hD hS => ?_)
  refine lv_aload_n hx hb dX12_rest_5 rfl (lv_at hl 0 rfl) ?_
  refine lv_iload_n hx hb dX12_rest_6 rfl (lv_at hl 1 rfl) ?_
  refine lv_iload_n hx hb dX12_rest_7 rfl (lv_at hl 2 rfl) ?_
  replace h := bd h
  obtain ⟨q1, h2, h⟩ := h
  refine callVi0 (As := [.int a1, .int a2]) (rest := []) hx hb hml hown hts (k_X12_areTwo l G cy ev ad (si v 0 0) a1 a2 q1 h2) wm_48_21 wm_48_22 wm_48_23 wm_1_5 wm_49_0 hd_X12_areTwo ⟨by decide, by decide⟩ hK hP hD hS hA hE (va_recv hK hP (ci := 12) (q0 := 0) rfl rfl) rfl rfl hl.1 (Nat.le_of_ble_eq_true rfl) dX12_rest_8 (fun H locs hP hD hS => ?_)
  refine lv_if_eq (tgt := 28) hx hb dX12_rest_11 (by decide) (fun c9 => ?_) (fun c9 => ?_)
  · replace h := (br h).1 c9
    refine lv_iconst (v := (-1)) hx hb dX12_rest_28 (by decide) ?_
    exact retI (fr := fun q => q.1) (fw := fun q => cX12 cy ad q.2) h hx hb hr hlocks hK hP hD hS dX12_rest_29
  · replace h := (br h).2 c9
    refine lv_iload_n hx hb dX12_rest_14 rfl (lv_at hl 3 rfl) ?_
    refine lv_if_lt (tgt := 28) hx hb dX12_rest_15 (by decide) (fun c9 => ?_) (fun c9 => ?_)
    · replace h := (br h).1 c9
      refine lv_iconst (v := (-1)) hx hb dX12_rest_28 (by decide) ?_
      exact retI (fr := fun q => q.1) (fw := fun q => cX12 cy ad q.2) h hx hb hr hlocks hK hP hD hS dX12_rest_29
    · replace h := (br h).2 c9
      refine lv_aload_n hx hb dX12_rest_18 rfl (lv_at hl 0 rfl) ?_
      refine lv_iload_n hx hb dX12_rest_19 rfl (lv_at hl 1 rfl) ?_
      refine lv_iload_n hx hb dX12_rest_20 rfl (lv_at hl 2 rfl) ?_
      refine lv_iload_n hx hb dX12_rest_21 rfl (lv_at hl 3 rfl) ?_
      replace h := bd h
      obtain ⟨q3, h4, h⟩ := h
      refine callVi0 (As := [.int a1, .int a2, .int a3]) (rest := []) hx hb hml hown hts (k_X12_restOf l G cy ev N ad (si v 0 0) a1 a2 a3 q3 h4) wm_49_1 wm_49_2 wm_49_3 wm_1_5 wm_49_4 hd_X12_restOf ⟨by decide, by decide⟩ hK hP hD hS hA hE (va_recv hK hP (ci := 12) (q0 := 0) rfl rfl) rfl rfl hl.1 (Nat.le_of_ble_eq_true rfl) dX12_rest_22 (fun H locs hP hD hS => ?_)
      refine lv_goto (tgt := 29) hx hb dX12_rest_25 (by decide) ?_
      exact retI (fr := fun q => q.1) (fw := fun q => cX12 cy ad q.2) h hx hb hr hlocks hK hP hD hS dX12_rest_29
theorem hd_X12_note : yX12_note.cls = RX12 ∧ yX12_note.cls ≠ "java/lang/invoke/MethodHandle" ∧ yX12_note.cls ≠ "java/lang/invoke/VarHandle" ∧ (parseMethodDescriptor yX12_note.desc).map (fun d => d.parameters.length) = some 3 := ⟨rfl, by decide +kernel, by decide +kernel, by decide +kernel⟩
def f_X12_note (v : VV) (a1 : Int32) (a2 : Int32) (a3 : Int32) : Option (Int32 × VV) :=
  bnd (f_X12_isSitting (si v 0 0) a1) (fun q1 => if q1 = 0 then some ((-1), si v 0 0) else if a2 < 0 then some ((-1), si v 0 0) else if (999 : Int32) < a2 then some ((-1), si v 0 0) else if v.1 64 = 24 then some ((-1), si v 0 0) else gin (v.1 64) 24 (gin (v.1 64) 24 (gbz a3 (gin (v.1 64) 24 (gin (v.1 64) 24 (some (((v.1 64) + 1) - 1, si (sr (sr (sr (sr (si v 0 0) 66 ((v.1 64).toNatClampNeg) a1) 67 ((v.1 64).toNatClampNeg) a2) 68 ((v.1 64).toNatClampNeg) a3) 69 ((v.1 64).toNatClampNeg) ((-1))) 64 ((v.1 64) + 1))))))))
set_option maxHeartbeats 4000000 in
set_option maxRecDepth 100000 in
theorem k_X12_note (l : Launch) (G : va_G) (cy : Nat → ClassId) (ev : Nat → Nat) (ad : Nat → Nat) (v : VV) (a1 : Int32) (a2 : Int32) (a3 : Int32) (res : Int32 × VV) (h : f_X12_note v a1 a2 a3 = some res) : MetI l yX12_note cX12_note 4 (some .int) 1 21 G cy ev [.ref (ad 0), .int a1, .int a2, .int a3] (cX12 cy ad v) res.1 (cX12 cy ad res.2) := by
  refine MetQ.start (by decide +kernel) (Nat.le_of_ble_eq_true rfl) (fun p e s m args below meth c A ls hx hb hr hml hown hts hlocks hK hP hD hA hl hE => ?_)
  have hS : va_S A s.heap s.heap [] := va_S.rf
  have hown : s.vm.findClass RX12 = some m.cls := hown
  have hl : lv_has ls 4 [(0, .ref (ad 0)), (1, .int a1), (2, .int a2), (3, .int a3)] := hl
  delta f_X12_note at h
  refine lv_aload_n hx hb dX12_note_0 rfl (lv_at hl 0 rfl) ?_
  refine lv_iconst (v := 0) hx hb dX12_note_1 (by decide) ?_
  refine pf_X12_0 hx hb hts hown hK hP hD hS dX12_note_2 (fun H locs hP hD hS => ?_)
  refine lv_aload_n hx hb dX12_note_5 rfl (lv_at hl 0 rfl) ?_
  refine lv_iload_n hx hb dX12_note_6 rfl (lv_at hl 1 rfl) ?_
  replace h := bd h
  obtain ⟨q1, h2, h⟩ := h
  refine callVi0 (As := [.int a1]) (rest := []) hx hb hml hown hts (k_X12_isSitting l G cy ev ad (si v 0 0) a1 q1 h2) wm_28_12 wm_28_13 wm_28_14 wm_1_5 wm_28_15 hd_X12_isSitting ⟨by decide, by decide⟩ hK hP hD hS hA hE (va_recv hK hP (ci := 12) (q0 := 0) rfl rfl) rfl rfl hl.1 (Nat.le_of_ble_eq_true rfl) dX12_note_7 (fun H locs hP hD hS => ?_)
  refine lv_if_eq (tgt := 33) hx hb dX12_note_10 (by decide) (fun c9 => ?_) (fun c9 => ?_)
  · replace h := (br h).1 c9
    refine lv_iconst (v := (-1)) hx hb dX12_note_33 (by decide) ?_
    exact retI (fr := fun q => q.1) (fw := fun q => cX12 cy ad q.2) h hx hb hr hlocks hK hP hD hS dX12_note_34
  · replace h := (br h).2 c9
    refine lv_iload_n hx hb dX12_note_13 rfl (lv_at hl 2 rfl) ?_
    refine lv_if_lt (tgt := 33) hx hb dX12_note_14 (by decide) (fun c9 => ?_) (fun c9 => ?_)
    · replace h := (br h).1 c9
      refine lv_iconst (v := (-1)) hx hb dX12_note_33 (by decide) ?_
      exact retI (fr := fun q => q.1) (fw := fun q => cX12 cy ad q.2) h hx hb hr hlocks hK hP hD hS dX12_note_34
    · replace h := (br h).2 c9
      refine lv_iload_n hx hb dX12_note_17 rfl (lv_at hl 2 rfl) ?_
      refine lv_sipush (v := 999) hx hb dX12_note_18 (by decide) ?_
      refine lv_icmp_gt (tgt := 33) hx hb dX12_note_21 (by decide) (fun c9 => ?_) (fun c9 => ?_)
      · replace h := (br h).1 c9
        refine lv_iconst (v := (-1)) hx hb dX12_note_33 (by decide) ?_
        exact retI (fr := fun q => q.1) (fw := fun q => cX12 cy ad q.2) h hx hb hr hlocks hK hP hD hS dX12_note_34
      · replace h := (br h).2 c9
        refine lv_aload_n hx hb dX12_note_24 rfl (lv_at hl 0 rfl) ?_
        refine gf_X12_64 (x := v.1 64) hx hb hts hown hK hP rfl dX12_note_25 ?_
        refine lv_bipush (v := 24) hx hb dX12_note_28 (by decide) ?_
        refine lv_icmp_ne (tgt := 35) hx hb dX12_note_30 (by decide) (fun c9 => ?_) (fun c9 => ?_)
        · replace h := (br h).2 c9
          refine lv_aload_n hx hb dX12_note_35 rfl (lv_at hl 0 rfl) ?_
          refine gf_X12_66 hx hb hts hown hK hP dX12_note_36 ?_
          refine lv_aload_n hx hb dX12_note_39 rfl (lv_at hl 0 rfl) ?_
          refine gf_X12_64 (x := v.1 64) hx hb hts hown hK hP rfl dX12_note_40 ?_
          refine lv_iload_n hx hb dX12_note_43 rfl (lv_at hl 1 rfl) ?_
          replace h := gin_inv h
          obtain ⟨h9, h⟩ := h
          refine st_X12_66 (j := (v.1 64).toNatClampNeg) hx hb hK hP hD hS h9 rfl dX12_note_44 (fun H locs hP hD hS => ?_)
          refine lv_aload_n hx hb dX12_note_45 rfl (lv_at hl 0 rfl) ?_
          refine gf_X12_67 hx hb hts hown hK hP dX12_note_46 ?_
          refine lv_aload_n hx hb dX12_note_49 rfl (lv_at hl 0 rfl) ?_
          refine gf_X12_64 (x := v.1 64) hx hb hts hown hK hP rfl dX12_note_50 ?_
          refine lv_iload_n hx hb dX12_note_53 rfl (lv_at hl 2 rfl) ?_
          replace h := gin_inv h
          obtain ⟨h9, h⟩ := h
          refine st_X12_67 (j := (v.1 64).toNatClampNeg) hx hb hK hP hD hS h9 rfl dX12_note_54 (fun H locs hP hD hS => ?_)
          refine lv_aload_n hx hb dX12_note_55 rfl (lv_at hl 0 rfl) ?_
          refine gf_X12_68 hx hb hts hown hK hP dX12_note_56 ?_
          refine lv_aload_n hx hb dX12_note_59 rfl (lv_at hl 0 rfl) ?_
          refine gf_X12_64 (x := v.1 64) hx hb hts hown hK hP rfl dX12_note_60 ?_
          refine lv_iload_n hx hb dX12_note_63 rfl (lv_at hl 3 rfl) ?_
          replace h := gbz_inv h
          obtain ⟨h8, h⟩ := h
          replace h := gin_inv h
          obtain ⟨h9, h⟩ := h
          refine st_X12_68 (j := (v.1 64).toNatClampNeg) hx hb hK hP hD hS h9 h8 rfl dX12_note_64 (fun H locs hP hD hS => ?_)
          refine lv_aload_n hx hb dX12_note_65 rfl (lv_at hl 0 rfl) ?_
          refine gf_X12_69 hx hb hts hown hK hP dX12_note_66 ?_
          refine lv_aload_n hx hb dX12_note_69 rfl (lv_at hl 0 rfl) ?_
          refine gf_X12_64 (x := v.1 64) hx hb hts hown hK hP rfl dX12_note_70 ?_
          refine lv_iconst (v := (-1)) hx hb dX12_note_73 (by decide) ?_
          replace h := gin_inv h
          obtain ⟨h9, h⟩ := h
          refine st_X12_69 (j := (v.1 64).toNatClampNeg) hx hb hK hP hD hS h9 rfl dX12_note_74 (fun H locs hP hD hS => ?_)
          refine lv_aload_n hx hb dX12_note_75 rfl (lv_at hl 0 rfl) ?_
          refine lv_dup hx hb dX12_note_76 rfl ?_
          refine gf_X12_64 (x := v.1 64) hx hb hts hown hK hP rfl dX12_note_77 ?_
          refine lv_iconst (v := 1) hx hb dX12_note_80 (by decide) ?_
          refine lv_iadd hx hb dX12_note_81 ?_
          refine pf_X12_64 hx hb hts hown hK hP hD hS dX12_note_82 (fun H locs hP hD hS => ?_)
          refine lv_aload_n hx hb dX12_note_85 rfl (lv_at hl 0 rfl) ?_
          refine gf_X12_64 (x := (v.1 64) + 1) hx hb hts hown hK hP rfl dX12_note_86 ?_
          refine lv_iconst (v := 1) hx hb dX12_note_89 (by decide) ?_
          refine lv_isub hx hb dX12_note_90 ?_
          exact retI (fr := fun q => q.1) (fw := fun q => cX12 cy ad q.2) h hx hb hr hlocks hK hP hD hS dX12_note_91
        · replace h := (br h).1 c9
          refine lv_iconst (v := (-1)) hx hb dX12_note_33 (by decide) ?_
          exact retI (fr := fun q => q.1) (fw := fun q => cX12 cy ad q.2) h hx hb hr hlocks hK hP hD hS dX12_note_34
theorem hd_X12_out : yX12_out.cls = RX12 ∧ yX12_out.cls ≠ "java/lang/invoke/MethodHandle" ∧ yX12_out.cls ≠ "java/lang/invoke/VarHandle" ∧ (parseMethodDescriptor yX12_out.desc).map (fun d => d.parameters.length) = some 1 := ⟨rfl, by decide +kernel, by decide +kernel, by decide +kernel⟩
def f_X12_out (v : VV) (a1 : Int32) : Option (Int32 × VV) :=
  if a1 < 0 then some ((-1), si v 0 0) else if v.1 64 ≤ a1 then some ((-1), si v 0 0) else if v.1 64 = 24 then some ((-1), si v 0 0) else gin (v.1 64) 24 (some (((v.1 64) + 1) - 1, si (sr (si v 0 0) 69 ((v.1 64).toNatClampNeg) a1) 64 ((v.1 64) + 1)))
set_option maxHeartbeats 4000000 in
set_option maxRecDepth 100000 in
theorem k_X12_out (l : Launch) (G : va_G) (cy : Nat → ClassId) (ev : Nat → Nat) (ad : Nat → Nat) (v : VV) (a1 : Int32) (res : Int32 × VV) (h : f_X12_out v a1 = some res) : MetI l yX12_out cX12_out 2 (some .int) 0 0 G cy ev [.ref (ad 0), .int a1] (cX12 cy ad v) res.1 (cX12 cy ad res.2) := by
  refine MetQ.start (by decide +kernel) (Nat.le_of_ble_eq_true rfl) (fun p e s m args below meth c A ls hx hb hr hml hown hts hlocks hK hP hD hA hl hE => ?_)
  have hS : va_S A s.heap s.heap [] := va_S.rf
  have hown : s.vm.findClass RX12 = some m.cls := hown
  have hl : lv_has ls 2 [(0, .ref (ad 0)), (1, .int a1)] := hl
  delta f_X12_out at h
  refine lv_aload_n hx hb dX12_out_0 rfl (lv_at hl 0 rfl) ?_
  refine lv_iconst (v := 0) hx hb dX12_out_1 (by decide) ?_
  refine pf_X12_0 hx hb hts hown hK hP hD hS dX12_out_2 (fun H locs hP hD hS => ?_)
  refine lv_iload_n hx hb dX12_out_5 rfl (lv_at hl 1 rfl) ?_
  refine lv_if_lt (tgt := 26) hx hb dX12_out_6 (by decide) (fun c9 => ?_) (fun c9 => ?_)
  · replace h := (br h).1 c9
    refine lv_iconst (v := (-1)) hx hb dX12_out_26 (by decide) ?_
    exact retI (fr := fun q => q.1) (fw := fun q => cX12 cy ad q.2) h hx hb hr hlocks hK hP hD hS dX12_out_27
  · replace h := (br h).2 c9
    refine lv_iload_n hx hb dX12_out_9 rfl (lv_at hl 1 rfl) ?_
    refine lv_aload_n hx hb dX12_out_10 rfl (lv_at hl 0 rfl) ?_
    refine gf_X12_64 (x := v.1 64) hx hb hts hown hK hP rfl dX12_out_11 ?_
    refine lv_icmp_ge (tgt := 26) hx hb dX12_out_14 (by decide) (fun c9 => ?_) (fun c9 => ?_)
    · replace h := (br h).1 c9
      refine lv_iconst (v := (-1)) hx hb dX12_out_26 (by decide) ?_
      exact retI (fr := fun q => q.1) (fw := fun q => cX12 cy ad q.2) h hx hb hr hlocks hK hP hD hS dX12_out_27
    · replace h := (br h).2 c9
      refine lv_aload_n hx hb dX12_out_17 rfl (lv_at hl 0 rfl) ?_
      refine gf_X12_64 (x := v.1 64) hx hb hts hown hK hP rfl dX12_out_18 ?_
      refine lv_bipush (v := 24) hx hb dX12_out_21 (by decide) ?_
      refine lv_icmp_ne (tgt := 28) hx hb dX12_out_23 (by decide) (fun c9 => ?_) (fun c9 => ?_)
      · replace h := (br h).2 c9
        refine lv_aload_n hx hb dX12_out_28 rfl (lv_at hl 0 rfl) ?_
        refine gf_X12_69 hx hb hts hown hK hP dX12_out_29 ?_
        refine lv_aload_n hx hb dX12_out_32 rfl (lv_at hl 0 rfl) ?_
        refine gf_X12_64 (x := v.1 64) hx hb hts hown hK hP rfl dX12_out_33 ?_
        refine lv_iload_n hx hb dX12_out_36 rfl (lv_at hl 1 rfl) ?_
        replace h := gin_inv h
        obtain ⟨h9, h⟩ := h
        refine st_X12_69 (j := (v.1 64).toNatClampNeg) hx hb hK hP hD hS h9 rfl dX12_out_37 (fun H locs hP hD hS => ?_)
        refine lv_aload_n hx hb dX12_out_38 rfl (lv_at hl 0 rfl) ?_
        refine lv_dup hx hb dX12_out_39 rfl ?_
        refine gf_X12_64 (x := v.1 64) hx hb hts hown hK hP rfl dX12_out_40 ?_
        refine lv_iconst (v := 1) hx hb dX12_out_43 (by decide) ?_
        refine lv_iadd hx hb dX12_out_44 ?_
        refine pf_X12_64 hx hb hts hown hK hP hD hS dX12_out_45 (fun H locs hP hD hS => ?_)
        refine lv_aload_n hx hb dX12_out_48 rfl (lv_at hl 0 rfl) ?_
        refine gf_X12_64 (x := (v.1 64) + 1) hx hb hts hown hK hP rfl dX12_out_49 ?_
        refine lv_iconst (v := 1) hx hb dX12_out_52 (by decide) ?_
        refine lv_isub hx hb dX12_out_53 ?_
        exact retI (fr := fun q => q.1) (fw := fun q => cX12 cy ad q.2) h hx hb hr hlocks hK hP hD hS dX12_out_54
      · replace h := (br h).1 c9
        refine lv_iconst (v := (-1)) hx hb dX12_out_26 (by decide) ?_
        exact retI (fr := fun q => q.1) (fw := fun q => cX12 cy ad q.2) h hx hb hr hlocks hK hP hD hS dX12_out_27
theorem hd_X12_known : yX12_known.cls = RX12 ∧ yX12_known.cls ≠ "java/lang/invoke/MethodHandle" ∧ yX12_known.cls ≠ "java/lang/invoke/VarHandle" ∧ (parseMethodDescriptor yX12_known.desc).map (fun d => d.parameters.length) = some 1 := ⟨rfl, by decide +kernel, by decide +kernel, by decide +kernel⟩
def f_X12_known (v : VV) (a1 : Int32) : Option (Int32 × VV) :=
  if a1 < (-1) then some (0, si v 0 0) else if a1 ≤ v.1 64 then some (1, si (si v 0 0) 65 a1) else some (0, si v 0 0)
set_option maxHeartbeats 4000000 in
set_option maxRecDepth 100000 in
theorem k_X12_known (l : Launch) (G : va_G) (cy : Nat → ClassId) (ev : Nat → Nat) (ad : Nat → Nat) (v : VV) (a1 : Int32) (res : Int32 × VV) (h : f_X12_known v a1 = some res) : MetI l yX12_known cX12_known 2 (some .boolean) 0 0 G cy ev [.ref (ad 0), .int a1] (cX12 cy ad v) res.1 (cX12 cy ad res.2) := by
  refine MetQ.start (by decide +kernel) (Nat.le_of_ble_eq_true rfl) (fun p e s m args below meth c A ls hx hb hr hml hown hts hlocks hK hP hD hA hl hE => ?_)
  have hS : va_S A s.heap s.heap [] := va_S.rf
  have hown : s.vm.findClass RX12 = some m.cls := hown
  have hl : lv_has ls 2 [(0, .ref (ad 0)), (1, .int a1)] := hl
  delta f_X12_known at h
  refine lv_aload_n hx hb dX12_known_0 rfl (lv_at hl 0 rfl) ?_
  refine lv_iconst (v := 0) hx hb dX12_known_1 (by decide) ?_
  refine pf_X12_0 hx hb hts hown hK hP hD hS dX12_known_2 (fun H locs hP hD hS => ?_)
  refine lv_iload_n hx hb dX12_known_5 rfl (lv_at hl 1 rfl) ?_
  refine lv_iconst (v := (-1)) hx hb dX12_known_6 (by decide) ?_
  refine lv_icmp_lt (tgt := 18) hx hb dX12_known_7 (by decide) (fun c9 => ?_) (fun c9 => ?_)
  · replace h := (br h).1 c9
    refine lv_iconst (v := 0) hx hb dX12_known_18 (by decide) ?_
    exact retZ (fr := fun q => q.1) (fw := fun q => cX12 cy ad q.2) h hx hb hr narZ0 hlocks hK hP hD hS dX12_known_19
  · replace h := (br h).2 c9
    refine lv_iload_n hx hb dX12_known_10 rfl (lv_at hl 1 rfl) ?_
    refine lv_aload_n hx hb dX12_known_11 rfl (lv_at hl 0 rfl) ?_
    refine gf_X12_64 (x := v.1 64) hx hb hts hown hK hP rfl dX12_known_12 ?_
    refine lv_icmp_le (tgt := 20) hx hb dX12_known_15 (by decide) (fun c9 => ?_) (fun c9 => ?_)
    · replace h := (br h).1 c9
      refine lv_aload_n hx hb dX12_known_20 rfl (lv_at hl 0 rfl) ?_
      refine lv_iload_n hx hb dX12_known_21 rfl (lv_at hl 1 rfl) ?_
      refine pf_X12_65 hx hb hts hown hK hP hD hS dX12_known_22 (fun H locs hP hD hS => ?_)
      refine lv_iconst (v := 1) hx hb dX12_known_25 (by decide) ?_
      exact retZ (fr := fun q => q.1) (fw := fun q => cX12 cy ad q.2) h hx hb hr narZ1 hlocks hK hP hD hS dX12_known_26
    · replace h := (br h).2 c9
      refine lv_iconst (v := 0) hx hb dX12_known_18 (by decide) ?_
      exact retZ (fr := fun q => q.1) (fw := fun q => cX12 cy ad q.2) h hx hb hr narZ0 hlocks hK hP hD hS dX12_known_19
theorem hd_X12_knownMany : yX12_knownMany.cls = RX12 ∧ yX12_knownMany.cls ≠ "java/lang/invoke/MethodHandle" ∧ yX12_knownMany.cls ≠ "java/lang/invoke/VarHandle" ∧ (parseMethodDescriptor yX12_knownMany.desc).map (fun d => d.parameters.length) = some 0 := ⟨rfl, by decide +kernel, by decide +kernel, by decide +kernel⟩
def f_X12_knownMany (v : VV) : Option (Int32) :=
  if v.1 65 = (-1) then some (v.1 64) else some (v.1 65)
set_option maxHeartbeats 4000000 in
set_option maxRecDepth 100000 in
theorem k_X12_knownMany (l : Launch) (G : va_G) (cy : Nat → ClassId) (ev : Nat → Nat) (ad : Nat → Nat) (v : VV)  (res : Int32) (h : f_X12_knownMany v = some res) : MetI l yX12_knownMany cX12_knownMany 1 (some .int) 0 0 G cy ev [.ref (ad 0)] (cX12 cy ad v) res (cX12 cy ad v) := by
  refine MetQ.start (by decide +kernel) (Nat.le_of_ble_eq_true rfl) (fun p e s m args below meth c A ls hx hb hr hml hown hts hlocks hK hP hD hA hl hE => ?_)
  have hS : va_S A s.heap s.heap [] := va_S.rf
  have hown : s.vm.findClass RX12 = some m.cls := hown
  have hl : lv_has ls 1 [(0, .ref (ad 0))] := hl
  delta f_X12_knownMany at h
  refine lv_aload_n hx hb dX12_knownMany_0 rfl (lv_at hl 0 rfl) ?_
  refine gf_X12_65 (x := v.1 65) hx hb hts hown hK hP rfl dX12_knownMany_1 ?_
  refine lv_iconst (v := (-1)) hx hb dX12_knownMany_4 (by decide) ?_
  refine lv_icmp_ne (tgt := 15) hx hb dX12_knownMany_5 (by decide) (fun c9 => ?_) (fun c9 => ?_)
  · replace h := (br h).2 c9
    refine lv_aload_n hx hb dX12_knownMany_15 rfl (lv_at hl 0 rfl) ?_
    refine gf_X12_65 (x := v.1 65) hx hb hts hown hK hP rfl dX12_knownMany_16 ?_
    exact retI (fr := fun q => q) (fw := fun _ => cX12 cy ad v) h hx hb hr hlocks hK hP hD hS dX12_knownMany_19
  · replace h := (br h).1 c9
    refine lv_aload_n hx hb dX12_knownMany_8 rfl (lv_at hl 0 rfl) ?_
    refine gf_X12_64 (x := v.1 64) hx hb hts hown hK hP rfl dX12_knownMany_9 ?_
    refine lv_goto (tgt := 19) hx hb dX12_knownMany_12 (by decide) ?_
    exact retI (fr := fun q => q) (fw := fun _ => cX12 cy ad v) h hx hb hr hlocks hK hP hD hS dX12_knownMany_19
theorem hd_X12_isLinger : yX12_isLinger.cls = RX12 ∧ yX12_isLinger.cls ≠ "java/lang/invoke/MethodHandle" ∧ yX12_isLinger.cls ≠ "java/lang/invoke/VarHandle" ∧ (parseMethodDescriptor yX12_isLinger.desc).map (fun d => d.parameters.length) = some 1 := ⟨rfl, by decide +kernel, by decide +kernel, by decide +kernel⟩
def f_X12_isLinger_b97 (N : Nat) (v : VV) (x2 : Int32) : Option (((Int32 × VV) ⊕ (Int32 × VV))) :=
  some (.inl (x2 + 1, v))
def f_X12_isLinger_b86 (N : Nat) (v : VV) (x2 : Int32) (z0 : Int32) : Option (((Int32 × VV) ⊕ (Int32 × VV))) :=
  gin x2 24 (if z0 = v.2.1 68 x2.toNatClampNeg then f_X12_isLinger_b97 N v x2 else inrO (some (0, v)))
def f_X12_isLinger_s31 (N : Nat) (v : VV) (x2 : Int32) : Option (((Int32 × VV) ⊕ (Int32 × VV))) :=
  bnd (f_X12_knownMany v) (fun q3101 => if q3101 ≤ x2 then inrO (some (1, v)) else gin x2 24 (if v.2.1 70 x2.toNatClampNeg = 0 then gin x2 24 (if v.2.1 69 x2.toNatClampNeg = (-1) then gin x2 24 (bnd (f_X12_lateIn v 1 (v.2.1 66 x2.toNatClampNeg)) (fun q3103 => gin x2 24 (if q3103 < v.2.1 67 x2.toNatClampNeg then f_X12_isLinger_b86 N v x2 0 else f_X12_isLinger_b86 N v x2 1))) else f_X12_isLinger_b97 N v x2) else f_X12_isLinger_b97 N v x2))
def f_X12_isLinger (N : Nat) (v : VV) (a1 : Int32) : Option (Int32 × VV) :=
  bnd (f_X12_copies N v 1 0) (fun q1 => bnd (f_X12_passes N (si (sr q1 32 1 0) 53 a1) 1 0) (fun q3 => itr (fun q : Int32 × VV => f_X12_isLinger_s31 N q.2 q.1) N (0, si q3 53 ((-1)))))
set_option maxHeartbeats 4000000 in
set_option maxRecDepth 100000 in
theorem k_X12_isLinger (l : Launch) (G : va_G) (cy : Nat → ClassId) (ev : Nat → Nat) (N : Nat) (ad : Nat → Nat) (v : VV) (a1 : Int32) (res : Int32 × VV) (h : f_X12_isLinger N v a1 = some res) : MetI l yX12_isLinger cX12_isLinger 3 (some .boolean) 8 202 G cy ev [.ref (ad 0), .int a1] (cX12 cy ad v) res.1 (cX12 cy ad res.2) := by
  refine MetQ.start (by decide +kernel) (Nat.le_of_ble_eq_true rfl) (fun p e s m args below meth c A ls hx hb hr hml hown hts hlocks hK hP hD hA hl hE => ?_)
  have hS : va_S A s.heap s.heap [] := va_S.rf
  have hown : s.vm.findClass RX12 = some m.cls := hown
  have hl : lv_has ls 3 [(0, .ref (ad 0)), (1, .int a1)] := hl
  have L31 : ∀ (n : Nat) (x2 : Int32) (v : VV) (H : Heap) (locs : List Loc) (ls : Array Slot), itr (fun q : Int32 × VV => f_X12_isLinger_s31 N q.2 q.1) n (x2, v) = some res → va_P G vwCl (cX12 cy ad v) H → va_D A (cX12 cy ad v) → va_S A s.heap H locs → lv_has ls 3 [(0, .ref (ad 0)), (2, .int x2)] → W p l e (rmX 8 202) s m args below meth c H locs 0 0 (MQ below (mQi (res.1) G cy A (cX12 cy ad res.2)) args s 0 0 A) (F0 m 31 ls []) := by
    intro n
    induction n with
    | zero => intro x2 v H locs ls h; exact (itr_zero h).elim
    | succ n ih1 =>
      intro x2 v H locs ls h hP hD hS hl
      obtain ⟨y1, h, hy1⟩ := itr_inv h
      have h : f_X12_isLinger_s31 N v x2 = some y1 := h
      have B97 : ∀ (x2 : Int32) (v : VV) (H : Heap) (locs : List Loc) (ls : Array Slot), f_X12_isLinger_b97 N v x2 = some y1 → va_P G vwCl (cX12 cy ad v) H → va_D A (cX12 cy ad v) → va_S A s.heap H locs → lv_has ls 3 [(0, .ref (ad 0)), (2, .int x2)] → W p l e (rmX 8 202) s m args below meth c H locs 0 0 (MQ below (mQi (res.1) G cy A (cX12 cy ad res.2)) args s 0 0 A) (F0 m 97 ls []) := by
        intro x2 v H locs ls h hP hD hS hl
        delta f_X12_isLinger_b97 at h
        refine lv_iinc (v := x2 + 1) (lv' := [(2, .int (x2 + 1)), (0, .ref (ad 0))]) hx hb dX12_isLinger_97 hl (k := 1) rfl rfl (by decide) rfl (fun ls hl => ?_)
        refine lv_goto (tgt := 31) hx hb dX12_isLinger_100 (by decide) ?_
        replace h := itr_back h hy1
        exact ih1 (x2 + 1) v _ _ _ h hP hD hS (lv_sub hl [1, 0] rfl)
      have B86 : ∀ (x2 : Int32) (z0 : Int32) (v : VV) (H : Heap) (locs : List Loc) (ls : Array Slot), f_X12_isLinger_b86 N v x2 z0 = some y1 → va_P G vwCl (cX12 cy ad v) H → va_D A (cX12 cy ad v) → va_S A s.heap H locs → lv_has ls 3 [(0, .ref (ad 0)), (2, .int x2)] → W p l e (rmX 8 202) s m args below meth c H locs 0 0 (MQ below (mQi (res.1) G cy A (cX12 cy ad res.2)) args s 0 0 A) (F0 m 86 ls [.int z0]) := by
        intro x2 z0 v H locs ls h hP hD hS hl
        delta f_X12_isLinger_b86 at h
        refine lv_aload_n hx hb dX12_isLinger_86 rfl (lv_at hl 0 rfl) ?_
        refine gf_X12_68 hx hb hts hown hK hP dX12_isLinger_87 ?_
        refine lv_iload_n hx hb dX12_isLinger_90 rfl (lv_at hl 1 rfl) ?_
        replace h := gin_inv h
        obtain ⟨h9, h⟩ := h
        refine ld_X12_68 (f := v.2.1 68) (j := x2.toNatClampNeg) hx hb hK hP rfl h9 rfl dX12_isLinger_91 ?_
        refine lv_icmp_eq (tgt := 97) hx hb dX12_isLinger_92 (by decide) (fun c9 => ?_) (fun c9 => ?_)
        · replace h := (br h).1 c9
          exact B97 x2 v _ _ _ h hP hD hS (lv_sub hl [0, 1] rfl)
        · replace h := (br h).2 c9
          replace h := itr_exit h hy1
          refine lv_iconst (v := 0) hx hb dX12_isLinger_95 (by decide) ?_
          exact retZ (fr := fun q => q.1) (fw := fun q => cX12 cy ad q.2) h hx hb hr narZ0 hlocks hK hP hD hS dX12_isLinger_96
      delta f_X12_isLinger_s31 at h
      refine lv_iload_n hx hb dX12_isLinger_31 rfl (lv_at hl 1 rfl) ?_
      refine lv_aload_n hx hb dX12_isLinger_32 rfl (lv_at hl 0 rfl) ?_
      replace h := bd h
      obtain ⟨q3101, h3102, h⟩ := h
      refine callVi0 (As := []) (rest := [.int x2]) hx hb hml hown hts (k_X12_knownMany l G cy ev ad v q3101 h3102) wm_52_3 wm_52_4 wm_52_5 wm_1_5 wm_52_6 hd_X12_knownMany ⟨by decide, by decide⟩ hK hP hD hS hA hE (va_recv hK hP (ci := 12) (q0 := 0) rfl rfl) rfl rfl hl.1 (Nat.le_of_ble_eq_true rfl) dX12_isLinger_33 (fun H locs hP hD hS => ?_)
      refine lv_icmp_ge (tgt := 103) hx hb dX12_isLinger_36 (by decide) (fun c9 => ?_) (fun c9 => ?_)
      · replace h := (br h).1 c9
        replace h := itr_exit h hy1
        refine lv_iconst (v := 1) hx hb dX12_isLinger_103 (by decide) ?_
        exact retZ (fr := fun q => q.1) (fw := fun q => cX12 cy ad q.2) h hx hb hr narZ1 hlocks hK hP hD hS dX12_isLinger_104
      · replace h := (br h).2 c9
        refine lv_aload_n hx hb dX12_isLinger_39 rfl (lv_at hl 0 rfl) ?_
        refine gf_X12_70 hx hb hts hown hK hP dX12_isLinger_40 ?_
        refine lv_iload_n hx hb dX12_isLinger_43 rfl (lv_at hl 1 rfl) ?_
        replace h := gin_inv h
        obtain ⟨h9, h⟩ := h
        refine ld_X12_70 (f := v.2.1 70) (j := x2.toNatClampNeg) hx hb hK hP rfl h9 rfl dX12_isLinger_44 ?_
        refine lv_if_ne (tgt := 97) hx hb dX12_isLinger_45 (by decide) (fun c9 => ?_) (fun c9 => ?_)
        · replace h := (br h).2 c9
          exact B97 x2 v _ _ _ h hP hD hS (lv_sub hl [0, 1] rfl)
        · replace h := (br h).1 c9
          refine lv_aload_n hx hb dX12_isLinger_48 rfl (lv_at hl 0 rfl) ?_
          refine gf_X12_69 hx hb hts hown hK hP dX12_isLinger_49 ?_
          refine lv_iload_n hx hb dX12_isLinger_52 rfl (lv_at hl 1 rfl) ?_
          replace h := gin_inv h
          obtain ⟨h9, h⟩ := h
          refine ld_X12_69 (f := v.2.1 69) (j := x2.toNatClampNeg) hx hb hK hP rfl h9 rfl dX12_isLinger_53 ?_
          refine lv_iconst (v := (-1)) hx hb dX12_isLinger_54 (by decide) ?_
          refine lv_icmp_eq (tgt := 61) hx hb dX12_isLinger_55 (by decide) (fun c9 => ?_) (fun c9 => ?_)
          · replace h := (br h).1 c9
            refine lv_aload_n hx hb dX12_isLinger_61 rfl (lv_at hl 0 rfl) ?_
            refine lv_iconst (v := 1) hx hb dX12_isLinger_62 (by decide) ?_
            refine lv_aload_n hx hb dX12_isLinger_63 rfl (lv_at hl 0 rfl) ?_
            refine gf_X12_66 hx hb hts hown hK hP dX12_isLinger_64 ?_
            refine lv_iload_n hx hb dX12_isLinger_67 rfl (lv_at hl 1 rfl) ?_
            replace h := gin_inv h
            obtain ⟨h9, h⟩ := h
            refine ld_X12_66 (f := v.2.1 66) (j := x2.toNatClampNeg) hx hb hK hP rfl h9 rfl dX12_isLinger_68 ?_
            replace h := bd h
            obtain ⟨q3103, h3104, h⟩ := h
            refine callVi0 (As := [.int 1, .int (v.2.1 66 x2.toNatClampNeg)]) (rest := []) hx hb hml hown hts (k_X12_lateIn l G cy ev ad v 1 (v.2.1 66 x2.toNatClampNeg) q3103 h3104) wm_43_15 wm_43_16 wm_43_17 wm_1_5 wm_43_18 hd_X12_lateIn ⟨by decide, by decide⟩ hK hP hD hS hA hE (va_recv hK hP (ci := 12) (q0 := 0) rfl rfl) rfl rfl hl.1 (Nat.le_of_ble_eq_true rfl) dX12_isLinger_69 (fun H locs hP hD hS => ?_)
            refine lv_aload_n hx hb dX12_isLinger_72 rfl (lv_at hl 0 rfl) ?_
            refine gf_X12_67 hx hb hts hown hK hP dX12_isLinger_73 ?_
            refine lv_iload_n hx hb dX12_isLinger_76 rfl (lv_at hl 1 rfl) ?_
            replace h := gin_inv h
            obtain ⟨h9, h⟩ := h
            refine ld_X12_67 (f := v.2.1 67) (j := x2.toNatClampNeg) hx hb hK hP rfl h9 rfl dX12_isLinger_77 ?_
            refine lv_icmp_lt (tgt := 85) hx hb dX12_isLinger_78 (by decide) (fun c9 => ?_) (fun c9 => ?_)
            · replace h := (br h).1 c9
              refine lv_iconst (v := 0) hx hb dX12_isLinger_85 (by decide) ?_
              exact B86 x2 0 v _ _ _ h hP hD hS (lv_sub hl [0, 1] rfl)
            · replace h := (br h).2 c9
              refine lv_iconst (v := 1) hx hb dX12_isLinger_81 (by decide) ?_
              refine lv_goto (tgt := 86) hx hb dX12_isLinger_82 (by decide) ?_
              exact B86 x2 1 v _ _ _ h hP hD hS (lv_sub hl [0, 1] rfl)
          · replace h := (br h).2 c9
            refine lv_goto (tgt := 97) hx hb dX12_isLinger_58 (by decide) ?_
            exact B97 x2 v _ _ _ h hP hD hS (lv_sub hl [0, 1] rfl)
  delta f_X12_isLinger at h
  refine lv_aload_n hx hb dX12_isLinger_0 rfl (lv_at hl 0 rfl) ?_
  refine lv_iconst (v := 1) hx hb dX12_isLinger_1 (by decide) ?_
  refine lv_iconst (v := 0) hx hb dX12_isLinger_2 (by decide) ?_
  replace h := bd h
  obtain ⟨q1, h2, h⟩ := h
  refine callVv0 (As := [.int 1, .int 0]) (rest := []) hx hb hml hown hts (k_X12_copies l G cy ev N ad v 1 0 q1 h2) wm_32_14 wm_32_15 wm_32_16 wm_1_5 wm_32_17 hd_X12_copies ⟨by decide, by decide⟩ hK hP hD hS hA hE (va_recv hK hP (ci := 12) (q0 := 0) rfl rfl) rfl rfl hl.1 (Nat.le_of_ble_eq_true rfl) dX12_isLinger_3 (fun H locs hP hD hS => ?_)
  refine lv_aload_n hx hb dX12_isLinger_6 rfl (lv_at hl 0 rfl) ?_
  refine gf_X12_32 hx hb hts hown hK hP dX12_isLinger_7 ?_
  refine lv_iconst (v := 1) hx hb dX12_isLinger_10 (by decide) ?_
  refine lv_iconst (v := 0) hx hb dX12_isLinger_11 (by decide) ?_
  refine st_X12_32 (j := 1) hx hb hK hP hD hS (vin_dec (by decide)) (by decide) dX12_isLinger_12 (fun H locs hP hD hS => ?_)
  refine lv_aload_n hx hb dX12_isLinger_13 rfl (lv_at hl 0 rfl) ?_
  refine lv_iload_n hx hb dX12_isLinger_14 rfl (lv_at hl 1 rfl) ?_
  refine pf_X12_53 hx hb hts hown hK hP hD hS dX12_isLinger_15 (fun H locs hP hD hS => ?_)
  refine lv_aload_n hx hb dX12_isLinger_18 rfl (lv_at hl 0 rfl) ?_
  refine lv_iconst (v := 1) hx hb dX12_isLinger_19 (by decide) ?_
  refine lv_iconst (v := 0) hx hb dX12_isLinger_20 (by decide) ?_
  replace h := bd h
  obtain ⟨q3, h4, h⟩ := h
  refine callVv0 (As := [.int 1, .int 0]) (rest := []) hx hb hml hown hts (k_X12_passes l G cy ev N ad (si (sr q1 32 1 0) 53 a1) 1 0 q3 h4) wm_35_12 wm_35_13 wm_35_14 wm_1_5 wm_35_15 hd_X12_passes ⟨by decide, by decide⟩ hK hP hD hS hA hE (va_recv hK hP (ci := 12) (q0 := 0) rfl rfl) rfl rfl hl.1 (Nat.le_of_ble_eq_true rfl) dX12_isLinger_21 (fun H locs hP hD hS => ?_)
  refine lv_aload_n hx hb dX12_isLinger_24 rfl (lv_at hl 0 rfl) ?_
  refine lv_iconst (v := (-1)) hx hb dX12_isLinger_25 (by decide) ?_
  refine pf_X12_53 hx hb hts hown hK hP hD hS dX12_isLinger_26 (fun H locs hP hD hS => ?_)
  refine lv_iconst (v := 0) hx hb dX12_isLinger_29 (by decide) ?_
  refine lv_istore_n (lv' := [(2, .int 0), (0, .ref (ad 0)), (1, .int a1)]) hx hb dX12_isLinger_30 rfl hl (by decide) rfl (fun ls hl => ?_)
  exact L31  N 0 (si q3 53 ((-1))) _ _ _ h hP hD hS (lv_sub hl [1, 0] rfl)
theorem hd_X12_lingered : yX12_lingered.cls = RX12 ∧ yX12_lingered.cls ≠ "java/lang/invoke/MethodHandle" ∧ yX12_lingered.cls ≠ "java/lang/invoke/VarHandle" ∧ (parseMethodDescriptor yX12_lingered.desc).map (fun d => d.parameters.length) = some 0 := ⟨rfl, by decide +kernel, by decide +kernel, by decide +kernel⟩
def f_X12_lingered_b120 (N : Nat) (v : VV) (x2 : Int32) (z0 : Int32) (z1 : Int32) : Option (((Int32 × Int32 × VV) ⊕ (Int32 × VV))) :=
  some (.inl (z1 ||| z0, x2 + 1, v))
def f_X12_lingered_b107 (N : Nat) (v : VV) (x2 : Int32) (z0 : Int32) (z2 : Int32) : Option (((Int32 × Int32 × VV) ⊕ (Int32 × VV))) :=
  bnd (f_X12_isLinger N v z0) (fun q10701 => if q10701.1 = 0 then f_X12_lingered_b120 N q10701.2 x2 0 z2 else f_X12_lingered_b120 N q10701.2 x2 (1 <<< (x2 &&& 31)) z2)
def f_X12_lingered_s80 (N : Nat) (v : VV) (x1 : Int32) (x2 : Int32) : Option (((Int32 × Int32 × VV) ⊕ (Int32 × VV))) :=
  if v.2.1 3 0 < x2 then inrO (some (x1, v)) else if v.2.1 3 0 ≤ x2 then f_X12_lingered_b107 N v x2 ((-1)) x1 else f_X12_lingered_b107 N v x2 x2 x1
def f_X12_lingered_b70 (N : Nat) (v : VV) (x1 : Int32) : Option (((Int32 × VV) ⊕ (Int32 × VV))) :=
  some (.inl (x1 + (-1), v))
def f_X12_lingered_s35 (N : Nat) (v : VV) (x1 : Int32) : Option (((Int32 × VV) ⊕ (Int32 × VV))) :=
  if x1 < 0 then inrO (itr (fun q : Int32 × Int32 × VV => f_X12_lingered_s80 N q.2.2 q.1 q.2.1) N (0, 0, v)) else gin x1 24 (if v.2.1 70 x1.toNatClampNeg = 0 then gin x1 24 (if v.2.1 69 x1.toNatClampNeg = (-1) then f_X12_lingered_b70 N v x1 else gin x1 24 (gin (v.2.1 69 x1.toNatClampNeg) 24 (f_X12_lingered_b70 N (sr v 70 ((v.2.1 69 x1.toNatClampNeg).toNatClampNeg) 1) x1))) else f_X12_lingered_b70 N v x1)
def f_X12_lingered_s7 (N : Nat) (v : VV) (x1 : Int32) : Option (((Int32 × VV) ⊕ (Int32 × VV))) :=
  bnd (f_X12_knownMany v) (fun q701 => if q701 ≤ x1 then inrO (bnd (f_X12_knownMany v) (fun q703 => itr (fun q : Int32 × VV => f_X12_lingered_s35 N q.2 q.1) N (q703 - 1, v))) else gin x1 24 (some (.inl (x1 + 1, sr v 70 x1.toNatClampNeg 0))))
def f_X12_lingered (N : Nat) (v : VV) : Option (Int32 × VV) :=
  itr (fun q : Int32 × VV => f_X12_lingered_s7 N q.2 q.1) N (0, si v 0 0)
set_option maxHeartbeats 4000000 in
set_option maxRecDepth 100000 in
theorem k_X12_lingered (l : Launch) (G : va_G) (cy : Nat → ClassId) (ev : Nat → Nat) (N : Nat) (ad : Nat → Nat) (v : VV)  (res : Int32 × VV) (h : f_X12_lingered N v = some res) : MetI l yX12_lingered cX12_lingered 3 (some .int) 9 224 G cy ev [.ref (ad 0)] (cX12 cy ad v) res.1 (cX12 cy ad res.2) := by
  refine MetQ.start (by decide +kernel) (Nat.le_of_ble_eq_true rfl) (fun p e s m args below meth c A ls hx hb hr hml hown hts hlocks hK hP hD hA hl hE => ?_)
  have hS : va_S A s.heap s.heap [] := va_S.rf
  have hown : s.vm.findClass RX12 = some m.cls := hown
  have hl : lv_has ls 3 [(0, .ref (ad 0))] := hl
  have L80 : ∀ (n : Nat) (x1 : Int32) (x2 : Int32) (v : VV) (H : Heap) (locs : List Loc) (ls : Array Slot), itr (fun q : Int32 × Int32 × VV => f_X12_lingered_s80 N q.2.2 q.1 q.2.1) n (x1, x2, v) = some res → va_P G vwCl (cX12 cy ad v) H → va_D A (cX12 cy ad v) → va_S A s.heap H locs → lv_has ls 3 [(0, .ref (ad 0)), (1, .int x1), (2, .int x2)] → W p l e (rmX 9 224) s m args below meth c H locs 0 0 (MQ below (mQi (res.1) G cy A (cX12 cy ad res.2)) args s 0 0 A) (F0 m 80 ls []) := by
    intro n
    induction n with
    | zero => intro x1 x2 v H locs ls h; exact (itr_zero h).elim
    | succ n ih1 =>
      intro x1 x2 v H locs ls h hP hD hS hl
      obtain ⟨y1, h, hy1⟩ := itr_inv h
      have h : f_X12_lingered_s80 N v x1 x2 = some y1 := h
      have B120 : ∀ (x2 : Int32) (z0 : Int32) (z1 : Int32) (v : VV) (H : Heap) (locs : List Loc) (ls : Array Slot), f_X12_lingered_b120 N v x2 z0 z1 = some y1 → va_P G vwCl (cX12 cy ad v) H → va_D A (cX12 cy ad v) → va_S A s.heap H locs → lv_has ls 3 [(0, .ref (ad 0)), (2, .int x2)] → W p l e (rmX 9 224) s m args below meth c H locs 0 0 (MQ below (mQi (res.1) G cy A (cX12 cy ad res.2)) args s 0 0 A) (F0 m 120 ls [.int z0, .int z1]) := by
        intro x2 z0 z1 v H locs ls h hP hD hS hl
        delta f_X12_lingered_b120 at h
        refine lv_ior hx hb dX12_lingered_120 ?_
        refine lv_istore_n (lv' := [(1, .int (z1 ||| z0)), (0, .ref (ad 0)), (2, .int x2)]) hx hb dX12_lingered_121 rfl hl (by decide) rfl (fun ls hl => ?_)
        refine lv_iinc (v := x2 + 1) (lv' := [(2, .int (x2 + 1)), (1, .int (z1 ||| z0)), (0, .ref (ad 0))]) hx hb dX12_lingered_122 hl (k := 2) rfl rfl (by decide) rfl (fun ls hl => ?_)
        refine lv_goto (tgt := 80) hx hb dX12_lingered_125 (by decide) ?_
        replace h := itr_back h hy1
        exact ih1 (z1 ||| z0) (x2 + 1) v _ _ _ h hP hD hS (lv_sub hl [2, 1, 0] rfl)
      have B107 : ∀ (x2 : Int32) (z0 : Int32) (z2 : Int32) (v : VV) (H : Heap) (locs : List Loc) (ls : Array Slot), f_X12_lingered_b107 N v x2 z0 z2 = some y1 → va_P G vwCl (cX12 cy ad v) H → va_D A (cX12 cy ad v) → va_S A s.heap H locs → lv_has ls 3 [(0, .ref (ad 0)), (2, .int x2)] → W p l e (rmX 9 224) s m args below meth c H locs 0 0 (MQ below (mQi (res.1) G cy A (cX12 cy ad res.2)) args s 0 0 A) (F0 m 107 ls [.int z0, .ref (ad 0), .int z2]) := by
        intro x2 z0 z2 v H locs ls h hP hD hS hl
        delta f_X12_lingered_b107 at h
        replace h := bd h
        obtain ⟨q10701, h10702, h⟩ := h
        refine callVi0 (As := [.int z0]) (rest := [.int z2]) hx hb hml hown hts (k_X12_isLinger l G cy ev N ad v z0 q10701 h10702) wm_52_7 wm_52_8 wm_52_9 wm_1_5 wm_52_10 hd_X12_isLinger ⟨by decide, by decide⟩ hK hP hD hS hA hE (va_recv hK hP (ci := 12) (q0 := 0) rfl rfl) rfl rfl hl.1 (Nat.le_of_ble_eq_true rfl) dX12_lingered_107 (fun H locs hP hD hS => ?_)
        refine lv_if_eq (tgt := 119) hx hb dX12_lingered_110 (by decide) (fun c9 => ?_) (fun c9 => ?_)
        · replace h := (br h).1 c9
          refine lv_iconst (v := 0) hx hb dX12_lingered_119 (by decide) ?_
          exact B120 x2 0 z2 q10701.2 _ _ _ h hP hD hS (lv_sub hl [0, 1] rfl)
        · replace h := (br h).2 c9
          refine lv_iconst (v := 1) hx hb dX12_lingered_113 (by decide) ?_
          refine lv_iload_n hx hb dX12_lingered_114 rfl (lv_at hl 1 rfl) ?_
          refine lv_ishl hx hb dX12_lingered_115 ?_
          refine lv_goto (tgt := 120) hx hb dX12_lingered_116 (by decide) ?_
          exact B120 x2 (1 <<< (x2 &&& 31)) z2 q10701.2 _ _ _ h hP hD hS (lv_sub hl [0, 1] rfl)
      delta f_X12_lingered_s80 at h
      refine lv_iload_n hx hb dX12_lingered_80 rfl (lv_at hl 2 rfl) ?_
      refine lv_aload_n hx hb dX12_lingered_81 rfl (lv_at hl 0 rfl) ?_
      refine gf_X12_3 hx hb hts hown hK hP dX12_lingered_82 ?_
      refine lv_iconst (v := 0) hx hb dX12_lingered_85 (by decide) ?_
      refine ld_X12_3 (f := v.2.1 3) (j := 0) hx hb hK hP rfl (vin_dec (by decide)) (by decide) dX12_lingered_86 ?_
      refine lv_icmp_gt (tgt := 128) hx hb dX12_lingered_87 (by decide) (fun c9 => ?_) (fun c9 => ?_)
      · replace h := (br h).1 c9
        replace h := itr_exit h hy1
        refine lv_iload_n hx hb dX12_lingered_128 rfl (lv_at hl 1 rfl) ?_
        exact retI (fr := fun q => q.1) (fw := fun q => cX12 cy ad q.2) h hx hb hr hlocks hK hP hD hS dX12_lingered_129
      · replace h := (br h).2 c9
        refine lv_iload_n hx hb dX12_lingered_90 rfl (lv_at hl 1 rfl) ?_
        refine lv_aload_n hx hb dX12_lingered_91 rfl (lv_at hl 0 rfl) ?_
        refine lv_iload_n hx hb dX12_lingered_92 rfl (lv_at hl 2 rfl) ?_
        refine lv_aload_n hx hb dX12_lingered_93 rfl (lv_at hl 0 rfl) ?_
        refine gf_X12_3 hx hb hts hown hK hP dX12_lingered_94 ?_
        refine lv_iconst (v := 0) hx hb dX12_lingered_97 (by decide) ?_
        refine ld_X12_3 (f := v.2.1 3) (j := 0) hx hb hK hP rfl (vin_dec (by decide)) (by decide) dX12_lingered_98 ?_
        refine lv_icmp_ge (tgt := 106) hx hb dX12_lingered_99 (by decide) (fun c9 => ?_) (fun c9 => ?_)
        · replace h := (br h).1 c9
          refine lv_iconst (v := (-1)) hx hb dX12_lingered_106 (by decide) ?_
          exact B107 x2 ((-1)) x1 v _ _ _ h hP hD hS (lv_sub hl [0, 2] rfl)
        · replace h := (br h).2 c9
          refine lv_iload_n hx hb dX12_lingered_102 rfl (lv_at hl 2 rfl) ?_
          refine lv_goto (tgt := 107) hx hb dX12_lingered_103 (by decide) ?_
          exact B107 x2 x2 x1 v _ _ _ h hP hD hS (lv_sub hl [0, 2] rfl)
  have L35 : ∀ (n : Nat) (x1 : Int32) (v : VV) (H : Heap) (locs : List Loc) (ls : Array Slot), itr (fun q : Int32 × VV => f_X12_lingered_s35 N q.2 q.1) n (x1, v) = some res → va_P G vwCl (cX12 cy ad v) H → va_D A (cX12 cy ad v) → va_S A s.heap H locs → lv_has ls 3 [(0, .ref (ad 0)), (1, .int x1)] → W p l e (rmX 9 224) s m args below meth c H locs 0 0 (MQ below (mQi (res.1) G cy A (cX12 cy ad res.2)) args s 0 0 A) (F0 m 35 ls []) := by
    intro n
    induction n with
    | zero => intro x1 v H locs ls h; exact (itr_zero h).elim
    | succ n ih1 =>
      intro x1 v H locs ls h hP hD hS hl
      obtain ⟨y1, h, hy1⟩ := itr_inv h
      have h : f_X12_lingered_s35 N v x1 = some y1 := h
      have B70 : ∀ (x1 : Int32) (v : VV) (H : Heap) (locs : List Loc) (ls : Array Slot), f_X12_lingered_b70 N v x1 = some y1 → va_P G vwCl (cX12 cy ad v) H → va_D A (cX12 cy ad v) → va_S A s.heap H locs → lv_has ls 3 [(0, .ref (ad 0)), (1, .int x1)] → W p l e (rmX 9 224) s m args below meth c H locs 0 0 (MQ below (mQi (res.1) G cy A (cX12 cy ad res.2)) args s 0 0 A) (F0 m 70 ls []) := by
        intro x1 v H locs ls h hP hD hS hl
        delta f_X12_lingered_b70 at h
        refine lv_iinc (v := x1 + (-1)) (lv' := [(1, .int (x1 + (-1))), (0, .ref (ad 0))]) hx hb dX12_lingered_70 hl (k := 1) rfl rfl (by decide) rfl (fun ls hl => ?_)
        refine lv_goto (tgt := 35) hx hb dX12_lingered_73 (by decide) ?_
        replace h := itr_back h hy1
        exact ih1 (x1 + (-1)) v _ _ _ h hP hD hS (lv_sub hl [1, 0] rfl)
      delta f_X12_lingered_s35 at h
      refine lv_iload_n hx hb dX12_lingered_35 rfl (lv_at hl 1 rfl) ?_
      refine lv_if_lt (tgt := 76) hx hb dX12_lingered_36 (by decide) (fun c9 => ?_) (fun c9 => ?_)
      · replace h := (br h).1 c9
        replace h := itr_exit h hy1
        refine lv_iconst (v := 0) hx hb dX12_lingered_76 (by decide) ?_
        refine lv_istore_n (lv' := [(1, .int 0), (0, .ref (ad 0))]) hx hb dX12_lingered_77 rfl hl (by decide) rfl (fun ls hl => ?_)
        refine lv_iconst (v := 0) hx hb dX12_lingered_78 (by decide) ?_
        refine lv_istore_n (lv' := [(2, .int 0), (1, .int 0), (0, .ref (ad 0))]) hx hb dX12_lingered_79 rfl hl (by decide) rfl (fun ls hl => ?_)
        exact L80  N 0 0 v _ _ _ h hP hD hS (lv_sub hl [2, 1, 0] rfl)
      · replace h := (br h).2 c9
        refine lv_aload_n hx hb dX12_lingered_39 rfl (lv_at hl 0 rfl) ?_
        refine gf_X12_70 hx hb hts hown hK hP dX12_lingered_40 ?_
        refine lv_iload_n hx hb dX12_lingered_43 rfl (lv_at hl 1 rfl) ?_
        replace h := gin_inv h
        obtain ⟨h9, h⟩ := h
        refine ld_X12_70 (f := v.2.1 70) (j := x1.toNatClampNeg) hx hb hK hP rfl h9 rfl dX12_lingered_44 ?_
        refine lv_if_ne (tgt := 70) hx hb dX12_lingered_45 (by decide) (fun c9 => ?_) (fun c9 => ?_)
        · replace h := (br h).2 c9
          exact B70 x1 v _ _ _ h hP hD hS (lv_sub hl [0, 1] rfl)
        · replace h := (br h).1 c9
          refine lv_aload_n hx hb dX12_lingered_48 rfl (lv_at hl 0 rfl) ?_
          refine gf_X12_69 hx hb hts hown hK hP dX12_lingered_49 ?_
          refine lv_iload_n hx hb dX12_lingered_52 rfl (lv_at hl 1 rfl) ?_
          replace h := gin_inv h
          obtain ⟨h9, h⟩ := h
          refine ld_X12_69 (f := v.2.1 69) (j := x1.toNatClampNeg) hx hb hK hP rfl h9 rfl dX12_lingered_53 ?_
          refine lv_iconst (v := (-1)) hx hb dX12_lingered_54 (by decide) ?_
          refine lv_icmp_eq (tgt := 70) hx hb dX12_lingered_55 (by decide) (fun c9 => ?_) (fun c9 => ?_)
          · replace h := (br h).1 c9
            exact B70 x1 v _ _ _ h hP hD hS (lv_sub hl [0, 1] rfl)
          · replace h := (br h).2 c9
            refine lv_aload_n hx hb dX12_lingered_58 rfl (lv_at hl 0 rfl) ?_
            refine gf_X12_70 hx hb hts hown hK hP dX12_lingered_59 ?_
            refine lv_aload_n hx hb dX12_lingered_62 rfl (lv_at hl 0 rfl) ?_
            refine gf_X12_69 hx hb hts hown hK hP dX12_lingered_63 ?_
            refine lv_iload_n hx hb dX12_lingered_66 rfl (lv_at hl 1 rfl) ?_
            replace h := gin_inv h
            obtain ⟨h9, h⟩ := h
            refine ld_X12_69 (f := v.2.1 69) (j := x1.toNatClampNeg) hx hb hK hP rfl h9 rfl dX12_lingered_67 ?_
            refine lv_iconst (v := 1) hx hb dX12_lingered_68 (by decide) ?_
            replace h := gin_inv h
            obtain ⟨h9, h⟩ := h
            refine st_X12_70 (j := (v.2.1 69 x1.toNatClampNeg).toNatClampNeg) hx hb hK hP hD hS h9 (by decide) rfl dX12_lingered_69 (fun H locs hP hD hS => ?_)
            exact B70 x1 (sr v 70 ((v.2.1 69 x1.toNatClampNeg).toNatClampNeg) 1) _ _ _ h hP hD hS (lv_sub hl [0, 1] rfl)
  have L7 : ∀ (n : Nat) (x1 : Int32) (v : VV) (H : Heap) (locs : List Loc) (ls : Array Slot), itr (fun q : Int32 × VV => f_X12_lingered_s7 N q.2 q.1) n (x1, v) = some res → va_P G vwCl (cX12 cy ad v) H → va_D A (cX12 cy ad v) → va_S A s.heap H locs → lv_has ls 3 [(0, .ref (ad 0)), (1, .int x1)] → W p l e (rmX 9 224) s m args below meth c H locs 0 0 (MQ below (mQi (res.1) G cy A (cX12 cy ad res.2)) args s 0 0 A) (F0 m 7 ls []) := by
    intro n
    induction n with
    | zero => intro x1 v H locs ls h; exact (itr_zero h).elim
    | succ n ih1 =>
      intro x1 v H locs ls h hP hD hS hl
      obtain ⟨y1, h, hy1⟩ := itr_inv h
      have h : f_X12_lingered_s7 N v x1 = some y1 := h
      delta f_X12_lingered_s7 at h
      refine lv_iload_n hx hb dX12_lingered_7 rfl (lv_at hl 1 rfl) ?_
      refine lv_aload_n hx hb dX12_lingered_8 rfl (lv_at hl 0 rfl) ?_
      replace h := bd h
      obtain ⟨q701, h702, h⟩ := h
      refine callVi0 (As := []) (rest := [.int x1]) hx hb hml hown hts (k_X12_knownMany l G cy ev ad v q701 h702) wm_52_3 wm_52_4 wm_52_5 wm_1_5 wm_52_6 hd_X12_knownMany ⟨by decide, by decide⟩ hK hP hD hS hA hE (va_recv hK hP (ci := 12) (q0 := 0) rfl rfl) rfl rfl hl.1 (Nat.le_of_ble_eq_true rfl) dX12_lingered_9 (fun H locs hP hD hS => ?_)
      refine lv_icmp_ge (tgt := 28) hx hb dX12_lingered_12 (by decide) (fun c9 => ?_) (fun c9 => ?_)
      · replace h := (br h).1 c9
        replace h := itr_exit h hy1
        refine lv_aload_n hx hb dX12_lingered_28 rfl (lv_at hl 0 rfl) ?_
        replace h := bd h
        obtain ⟨q703, h704, h⟩ := h
        refine callVi0 (As := []) (rest := []) hx hb hml hown hts (k_X12_knownMany l G cy ev ad v q703 h704) wm_52_3 wm_52_4 wm_52_5 wm_1_5 wm_52_6 hd_X12_knownMany ⟨by decide, by decide⟩ hK hP hD hS hA hE (va_recv hK hP (ci := 12) (q0 := 0) rfl rfl) rfl rfl hl.1 (Nat.le_of_ble_eq_true rfl) dX12_lingered_29 (fun H locs hP hD hS => ?_)
        refine lv_iconst (v := 1) hx hb dX12_lingered_32 (by decide) ?_
        refine lv_isub hx hb dX12_lingered_33 ?_
        refine lv_istore_n (lv' := [(1, .int (q703 - 1)), (0, .ref (ad 0))]) hx hb dX12_lingered_34 rfl hl (by decide) rfl (fun ls hl => ?_)
        exact L35  N (q703 - 1) v _ _ _ h hP hD hS (lv_sub hl [1, 0] rfl)
      · replace h := (br h).2 c9
        refine lv_aload_n hx hb dX12_lingered_15 rfl (lv_at hl 0 rfl) ?_
        refine gf_X12_70 hx hb hts hown hK hP dX12_lingered_16 ?_
        refine lv_iload_n hx hb dX12_lingered_19 rfl (lv_at hl 1 rfl) ?_
        refine lv_iconst (v := 0) hx hb dX12_lingered_20 (by decide) ?_
        replace h := gin_inv h
        obtain ⟨h9, h⟩ := h
        refine st_X12_70 (j := x1.toNatClampNeg) hx hb hK hP hD hS h9 (by decide) rfl dX12_lingered_21 (fun H locs hP hD hS => ?_)
        refine lv_iinc (v := x1 + 1) (lv' := [(1, .int (x1 + 1)), (0, .ref (ad 0))]) hx hb dX12_lingered_22 hl (k := 1) rfl rfl (by decide) rfl (fun ls hl => ?_)
        refine lv_goto (tgt := 7) hx hb dX12_lingered_25 (by decide) ?_
        replace h := itr_back h hy1
        exact ih1 (x1 + 1) (sr v 70 x1.toNatClampNeg 0) _ _ _ h hP hD hS (lv_sub hl [1, 0] rfl)
  delta f_X12_lingered at h
  refine lv_aload_n hx hb dX12_lingered_0 rfl (lv_at hl 0 rfl) ?_
  refine lv_iconst (v := 0) hx hb dX12_lingered_1 (by decide) ?_
  refine pf_X12_0 hx hb hts hown hK hP hD hS dX12_lingered_2 (fun H locs hP hD hS => ?_)
  refine lv_iconst (v := 0) hx hb dX12_lingered_5 (by decide) ?_
  refine lv_istore_n (lv' := [(1, .int 0), (0, .ref (ad 0))]) hx hb dX12_lingered_6 rfl hl (by decide) rfl (fun ls hl => ?_)
  exact L7  N 0 (si v 0 0) _ _ _ h hP hD hS (lv_sub hl [1, 0] rfl)
theorem hd_X12_chance : yX12_chance.cls = RX12 ∧ yX12_chance.cls ≠ "java/lang/invoke/MethodHandle" ∧ yX12_chance.cls ≠ "java/lang/invoke/VarHandle" ∧ (parseMethodDescriptor yX12_chance.desc).map (fun d => d.parameters.length) = some 3 := ⟨rfl, by decide +kernel, by decide +kernel, by decide +kernel⟩
def f_X12_chance_b116 (N : Nat) (v : VV) (x2 : Int32) (x3 : Int32) (x4 : Int32) (x6 : Int32) (z0 : Int32) (z1 : Int32) : Option (((Int32 × Int32 × Int32 × VV) ⊕ (Int32 × VV))) :=
  some (.inl (x4, z1 + z0, x6 + 1, v))
def f_X12_chance_s66 (N : Nat) (v : VV) (x2 : Int32) (x3 : Int32) (x5 : Int32) (x6 : Int32) (x7 : Int32) : Option (((Int32 × VV) ⊕ (((Int32 × Int32 × Int32 × VV) ⊕ (Int32 × VV))))) :=
  if x2 ≤ x7 then inrO (if x3 < (v.2.1 34 1) - (v.2.1 34 0) then f_X12_chance_b116 N v x2 x3 (v.2.1 36 1) x6 0 x5 else f_X12_chance_b116 N v x2 x3 (v.2.1 36 1) x6 1 x5) else bnd (f_X12_passes N v 1 1) (fun q6601 => some (.inl (x7 + 1, q6601)))
def f_X12_chance_s42 (N : Nat) (v : VV) (x2 : Int32) (x3 : Int32) (x4 : Int32) (x5 : Int32) (x6 : Int32) : Option (((Int32 × Int32 × Int32 × VV) ⊕ (Int32 × VV))) :=
  if (10 : Int32) ≤ x6 then inrO (some (x5, v)) else bnd (f_X12_copies N v 1 0) (fun q4201 => itr (fun q : Int32 × VV => f_X12_chance_s66 N q.2 x2 x3 x5 x6 q.1) N (0, sr q4201 36 1 x4))
def f_X12_chance (N : Nat) (v : VV) (a1 : Int32) (a2 : Int32) (a3 : Int32) : Option (Int32 × VV) :=
  if a1 < 0 then some ((-1), si v 0 0) else if a2 < 1 then some ((-1), si v 0 0) else if (20 : Int32) < a2 then some ((-1), si v 0 0) else if a3 < 0 then some ((-1), si v 0 0) else if a3 ≤ 9999 then itr (fun q : Int32 × Int32 × Int32 × VV => f_X12_chance_s42 N q.2.2.2 a2 a3 q.1 q.2.1 q.2.2.1) N (a1, 0, 0, si v 0 0) else some ((-1), si v 0 0)
set_option maxHeartbeats 4000000 in
set_option maxRecDepth 100000 in
theorem k_X12_chance (l : Launch) (G : va_G) (cy : Nat → ClassId) (ev : Nat → Nat) (N : Nat) (ad : Nat → Nat) (v : VV) (a1 : Int32) (a2 : Int32) (a3 : Int32) (res : Int32 × VV) (h : f_X12_chance N v a1 a2 a3 = some res) : MetI l yX12_chance cX12_chance 8 (some .int) 8 202 G cy ev [.ref (ad 0), .int a1, .int a2, .int a3] (cX12 cy ad v) res.1 (cX12 cy ad res.2) := by
  refine MetQ.start (by decide +kernel) (Nat.le_of_ble_eq_true rfl) (fun p e s m args below meth c A ls hx hb hr hml hown hts hlocks hK hP hD hA hl hE => ?_)
  have hS : va_S A s.heap s.heap [] := va_S.rf
  have hown : s.vm.findClass RX12 = some m.cls := hown
  have hl : lv_has ls 8 [(0, .ref (ad 0)), (1, .int a1), (2, .int a2), (3, .int a3)] := hl
  have L42 : ∀ (x2 : Int32) (x3 : Int32) (n : Nat) (x4 : Int32) (x5 : Int32) (x6 : Int32) (v : VV) (H : Heap) (locs : List Loc) (ls : Array Slot), itr (fun q : Int32 × Int32 × Int32 × VV => f_X12_chance_s42 N q.2.2.2 x2 x3 q.1 q.2.1 q.2.2.1) n (x4, x5, x6, v) = some res → va_P G vwCl (cX12 cy ad v) H → va_D A (cX12 cy ad v) → va_S A s.heap H locs → lv_has ls 8 [(0, .ref (ad 0)), (2, .int x2), (3, .int x3), (4, .int x4), (5, .int x5), (6, .int x6)] → W p l e (rmX 8 202) s m args below meth c H locs 0 0 (MQ below (mQi (res.1) G cy A (cX12 cy ad res.2)) args s 0 0 A) (F0 m 42 ls []) := by
    intro x2 x3 n
    induction n with
    | zero => intro x4 x5 x6 v H locs ls h; exact (itr_zero h).elim
    | succ n ih1 =>
      intro x4 x5 x6 v H locs ls h hP hD hS hl
      obtain ⟨y1, h, hy1⟩ := itr_inv h
      have h : f_X12_chance_s42 N v x2 x3 x4 x5 x6 = some y1 := h
      have B116 : ∀ (x4 : Int32) (x6 : Int32) (z0 : Int32) (z1 : Int32) (v : VV) (H : Heap) (locs : List Loc) (ls : Array Slot), f_X12_chance_b116 N v x2 x3 x4 x6 z0 z1 = some y1 → va_P G vwCl (cX12 cy ad v) H → va_D A (cX12 cy ad v) → va_S A s.heap H locs → lv_has ls 8 [(0, .ref (ad 0)), (2, .int x2), (3, .int x3), (4, .int x4), (6, .int x6)] → W p l e (rmX 8 202) s m args below meth c H locs 0 0 (MQ below (mQi (res.1) G cy A (cX12 cy ad res.2)) args s 0 0 A) (F0 m 116 ls [.int z0, .int z1]) := by
        intro x4 x6 z0 z1 v H locs ls h hP hD hS hl
        delta f_X12_chance_b116 at h
        refine lv_iadd hx hb dX12_chance_116 ?_
        refine lv_istore (lv' := [(5, .int (z1 + z0)), (0, .ref (ad 0)), (2, .int x2), (3, .int x3), (4, .int x4), (6, .int x6)]) hx hb dX12_chance_117 hl (by decide) rfl (fun ls hl => ?_)
        refine lv_iinc (v := x6 + 1) (lv' := [(6, .int (x6 + 1)), (5, .int (z1 + z0)), (0, .ref (ad 0)), (2, .int x2), (3, .int x3), (4, .int x4)]) hx hb dX12_chance_119 hl (k := 5) rfl rfl (by decide) rfl (fun ls hl => ?_)
        refine lv_goto (tgt := 42) hx hb dX12_chance_122 (by decide) ?_
        replace h := itr_back h hy1
        exact ih1 x4 (z1 + z0) (x6 + 1) v _ _ _ h hP hD hS (lv_sub hl [2, 3, 4, 5, 1, 0] rfl)
      have L66 : ∀ (x5 : Int32) (x6 : Int32) (n : Nat) (x7 : Int32) (v : VV) (H : Heap) (locs : List Loc) (ls : Array Slot), itr (fun q : Int32 × VV => f_X12_chance_s66 N q.2 x2 x3 x5 x6 q.1) n (x7, v) = some y1 → va_P G vwCl (cX12 cy ad v) H → va_D A (cX12 cy ad v) → va_S A s.heap H locs → lv_has ls 8 [(0, .ref (ad 0)), (2, .int x2), (3, .int x3), (5, .int x5), (6, .int x6), (7, .int x7)] → W p l e (rmX 8 202) s m args below meth c H locs 0 0 (MQ below (mQi (res.1) G cy A (cX12 cy ad res.2)) args s 0 0 A) (F0 m 66 ls []) := by
        intro x5 x6 n
        induction n with
        | zero => intro x7 v H locs ls h; exact (itr_zero h).elim
        | succ n ih2 =>
          intro x7 v H locs ls h hP hD hS hl
          obtain ⟨y2, h, hy2⟩ := itr_inv h
          have h : f_X12_chance_s66 N v x2 x3 x5 x6 x7 = some y2 := h
          delta f_X12_chance_s66 at h
          refine lv_iload hx hb dX12_chance_66 (lv_at hl 5 rfl) ?_
          refine lv_iload_n hx hb dX12_chance_68 rfl (lv_at hl 1 rfl) ?_
          refine lv_icmp_ge (tgt := 84) hx hb dX12_chance_69 (by decide) (fun c9 => ?_) (fun c9 => ?_)
          · replace h := (br h).1 c9
            replace h := itr_exit h hy2
            refine lv_aload_n hx hb dX12_chance_84 rfl (lv_at hl 0 rfl) ?_
            refine gf_X12_36 hx hb hts hown hK hP dX12_chance_85 ?_
            refine lv_iconst (v := 1) hx hb dX12_chance_88 (by decide) ?_
            refine ld_X12_36 (f := v.2.1 36) (j := 1) hx hb hK hP rfl (vin_dec (by decide)) (by decide) dX12_chance_89 ?_
            refine lv_istore (lv' := [(4, .int (v.2.1 36 1)), (0, .ref (ad 0)), (2, .int x2), (3, .int x3), (5, .int x5), (6, .int x6), (7, .int x7)]) hx hb dX12_chance_90 hl (by decide) rfl (fun ls hl => ?_)
            refine lv_iload hx hb dX12_chance_92 (lv_at hl 4 rfl) ?_
            refine lv_aload_n hx hb dX12_chance_94 rfl (lv_at hl 1 rfl) ?_
            refine gf_X12_34 hx hb hts hown hK hP dX12_chance_95 ?_
            refine lv_iconst (v := 1) hx hb dX12_chance_98 (by decide) ?_
            refine ld_X12_34 (f := v.2.1 34) (j := 1) hx hb hK hP rfl (vin_dec (by decide)) (by decide) dX12_chance_99 ?_
            refine lv_aload_n hx hb dX12_chance_100 rfl (lv_at hl 1 rfl) ?_
            refine gf_X12_34 hx hb hts hown hK hP dX12_chance_101 ?_
            refine lv_iconst (v := 0) hx hb dX12_chance_104 (by decide) ?_
            refine ld_X12_34 (f := v.2.1 34) (j := 0) hx hb hK hP rfl (vin_dec (by decide)) (by decide) dX12_chance_105 ?_
            refine lv_isub hx hb dX12_chance_106 ?_
            refine lv_iload_n hx hb dX12_chance_107 rfl (lv_at hl 3 rfl) ?_
            refine lv_icmp_gt (tgt := 115) hx hb dX12_chance_108 (by decide) (fun c9 => ?_) (fun c9 => ?_)
            · replace h := (br h).1 c9
              refine lv_iconst (v := 0) hx hb dX12_chance_115 (by decide) ?_
              exact B116 (v.2.1 36 1) x6 0 x5 v _ _ _ h hP hD hS (lv_sub hl [1, 2, 3, 0, 5] rfl)
            · replace h := (br h).2 c9
              refine lv_iconst (v := 1) hx hb dX12_chance_111 (by decide) ?_
              refine lv_goto (tgt := 116) hx hb dX12_chance_112 (by decide) ?_
              exact B116 (v.2.1 36 1) x6 1 x5 v _ _ _ h hP hD hS (lv_sub hl [1, 2, 3, 0, 5] rfl)
          · replace h := (br h).2 c9
            refine lv_aload_n hx hb dX12_chance_72 rfl (lv_at hl 0 rfl) ?_
            refine lv_iconst (v := 1) hx hb dX12_chance_73 (by decide) ?_
            refine lv_iconst (v := 1) hx hb dX12_chance_74 (by decide) ?_
            replace h := bd h
            obtain ⟨q6601, h6602, h⟩ := h
            refine callVv0 (As := [.int 1, .int 1]) (rest := []) hx hb hml hown hts (k_X12_passes l G cy ev N ad v 1 1 q6601 h6602) wm_35_12 wm_35_13 wm_35_14 wm_1_5 wm_35_15 hd_X12_passes ⟨by decide, by decide⟩ hK hP hD hS hA hE (va_recv hK hP (ci := 12) (q0 := 0) rfl rfl) rfl rfl hl.1 (Nat.le_of_ble_eq_true rfl) dX12_chance_75 (fun H locs hP hD hS => ?_)
            refine lv_iinc (v := x7 + 1) (lv' := [(7, .int (x7 + 1)), (0, .ref (ad 0)), (2, .int x2), (3, .int x3), (5, .int x5), (6, .int x6)]) hx hb dX12_chance_78 hl (k := 5) rfl rfl (by decide) rfl (fun ls hl => ?_)
            refine lv_goto (tgt := 66) hx hb dX12_chance_81 (by decide) ?_
            replace h := itr_back h hy2
            exact ih2 (x7 + 1) q6601 _ _ _ h hP hD hS (lv_sub hl [1, 2, 3, 4, 5, 0] rfl)
      delta f_X12_chance_s42 at h
      refine lv_iload hx hb dX12_chance_42 (lv_at hl 5 rfl) ?_
      refine lv_bipush (v := 10) hx hb dX12_chance_44 (by decide) ?_
      refine lv_icmp_ge (tgt := 125) hx hb dX12_chance_46 (by decide) (fun c9 => ?_) (fun c9 => ?_)
      · replace h := (br h).1 c9
        replace h := itr_exit h hy1
        refine lv_iload hx hb dX12_chance_125 (lv_at hl 4 rfl) ?_
        exact retI (fr := fun q => q.1) (fw := fun q => cX12 cy ad q.2) h hx hb hr hlocks hK hP hD hS dX12_chance_127
      · replace h := (br h).2 c9
        refine lv_aload_n hx hb dX12_chance_49 rfl (lv_at hl 0 rfl) ?_
        refine lv_iconst (v := 1) hx hb dX12_chance_50 (by decide) ?_
        refine lv_iconst (v := 0) hx hb dX12_chance_51 (by decide) ?_
        replace h := bd h
        obtain ⟨q4201, h4202, h⟩ := h
        refine callVv0 (As := [.int 1, .int 0]) (rest := []) hx hb hml hown hts (k_X12_copies l G cy ev N ad v 1 0 q4201 h4202) wm_32_14 wm_32_15 wm_32_16 wm_1_5 wm_32_17 hd_X12_copies ⟨by decide, by decide⟩ hK hP hD hS hA hE (va_recv hK hP (ci := 12) (q0 := 0) rfl rfl) rfl rfl hl.1 (Nat.le_of_ble_eq_true rfl) dX12_chance_52 (fun H locs hP hD hS => ?_)
        refine lv_aload_n hx hb dX12_chance_55 rfl (lv_at hl 0 rfl) ?_
        refine gf_X12_36 hx hb hts hown hK hP dX12_chance_56 ?_
        refine lv_iconst (v := 1) hx hb dX12_chance_59 (by decide) ?_
        refine lv_iload hx hb dX12_chance_60 (lv_at hl 3 rfl) ?_
        refine st_X12_36 (j := 1) hx hb hK hP hD hS (vin_dec (by decide)) (by decide) dX12_chance_62 (fun H locs hP hD hS => ?_)
        refine lv_iconst (v := 0) hx hb dX12_chance_63 (by decide) ?_
        refine lv_istore (lv' := [(7, .int 0), (0, .ref (ad 0)), (2, .int x2), (3, .int x3), (4, .int x4), (5, .int x5), (6, .int x6)]) hx hb dX12_chance_64 hl (by decide) rfl (fun ls hl => ?_)
        exact L66 x5 x6 N 0 (sr q4201 36 1 x4) _ _ _ h hP hD hS (lv_sub hl [1, 2, 3, 5, 6, 0] rfl)
  delta f_X12_chance at h
  refine lv_aload_n hx hb dX12_chance_0 rfl (lv_at hl 0 rfl) ?_
  refine lv_iconst (v := 0) hx hb dX12_chance_1 (by decide) ?_
  refine pf_X12_0 hx hb hts hown hK hP hD hS dX12_chance_2 (fun H locs hP hD hS => ?_)
  refine lv_iload_n hx hb dX12_chance_5 rfl (lv_at hl 1 rfl) ?_
  refine lv_if_lt (tgt := 31) hx hb dX12_chance_6 (by decide) (fun c9 => ?_) (fun c9 => ?_)
  · replace h := (br h).1 c9
    refine lv_iconst (v := (-1)) hx hb dX12_chance_31 (by decide) ?_
    exact retI (fr := fun q => q.1) (fw := fun q => cX12 cy ad q.2) h hx hb hr hlocks hK hP hD hS dX12_chance_32
  · replace h := (br h).2 c9
    refine lv_iload_n hx hb dX12_chance_9 rfl (lv_at hl 2 rfl) ?_
    refine lv_iconst (v := 1) hx hb dX12_chance_10 (by decide) ?_
    refine lv_icmp_lt (tgt := 31) hx hb dX12_chance_11 (by decide) (fun c9 => ?_) (fun c9 => ?_)
    · replace h := (br h).1 c9
      refine lv_iconst (v := (-1)) hx hb dX12_chance_31 (by decide) ?_
      exact retI (fr := fun q => q.1) (fw := fun q => cX12 cy ad q.2) h hx hb hr hlocks hK hP hD hS dX12_chance_32
    · replace h := (br h).2 c9
      refine lv_iload_n hx hb dX12_chance_14 rfl (lv_at hl 2 rfl) ?_
      refine lv_bipush (v := 20) hx hb dX12_chance_15 (by decide) ?_
      refine lv_icmp_gt (tgt := 31) hx hb dX12_chance_17 (by decide) (fun c9 => ?_) (fun c9 => ?_)
      · replace h := (br h).1 c9
        refine lv_iconst (v := (-1)) hx hb dX12_chance_31 (by decide) ?_
        exact retI (fr := fun q => q.1) (fw := fun q => cX12 cy ad q.2) h hx hb hr hlocks hK hP hD hS dX12_chance_32
      · replace h := (br h).2 c9
        refine lv_iload_n hx hb dX12_chance_20 rfl (lv_at hl 3 rfl) ?_
        refine lv_if_lt (tgt := 31) hx hb dX12_chance_21 (by decide) (fun c9 => ?_) (fun c9 => ?_)
        · replace h := (br h).1 c9
          refine lv_iconst (v := (-1)) hx hb dX12_chance_31 (by decide) ?_
          exact retI (fr := fun q => q.1) (fw := fun q => cX12 cy ad q.2) h hx hb hr hlocks hK hP hD hS dX12_chance_32
        · replace h := (br h).2 c9
          refine lv_iload_n hx hb dX12_chance_24 rfl (lv_at hl 3 rfl) ?_
          refine lv_sipush (v := 9999) hx hb dX12_chance_25 (by decide) ?_
          refine lv_icmp_le (tgt := 33) hx hb dX12_chance_28 (by decide) (fun c9 => ?_) (fun c9 => ?_)
          · replace h := (br h).1 c9
            refine lv_iload_n hx hb dX12_chance_33 rfl (lv_at hl 1 rfl) ?_
            refine lv_istore (lv' := [(4, .int a1), (0, .ref (ad 0)), (1, .int a1), (2, .int a2), (3, .int a3)]) hx hb dX12_chance_34 hl (by decide) rfl (fun ls hl => ?_)
            refine lv_iconst (v := 0) hx hb dX12_chance_36 (by decide) ?_
            refine lv_istore (lv' := [(5, .int 0), (4, .int a1), (0, .ref (ad 0)), (1, .int a1), (2, .int a2), (3, .int a3)]) hx hb dX12_chance_37 hl (by decide) rfl (fun ls hl => ?_)
            refine lv_iconst (v := 0) hx hb dX12_chance_39 (by decide) ?_
            refine lv_istore (lv' := [(6, .int 0), (5, .int 0), (4, .int a1), (0, .ref (ad 0)), (1, .int a1), (2, .int a2), (3, .int a3)]) hx hb dX12_chance_40 hl (by decide) rfl (fun ls hl => ?_)
            exact L42 a2 a3 N a1 0 0 (si v 0 0) _ _ _ h hP hD hS (lv_sub hl [3, 5, 6, 2, 1, 0] rfl)
          · replace h := (br h).2 c9
            refine lv_iconst (v := (-1)) hx hb dX12_chance_31 (by decide) ?_
            exact retI (fr := fun q => q.1) (fw := fun q => cX12 cy ad q.2) h hx hb hr hlocks hK hP hD hS dX12_chance_32
theorem hd_X12_tried : yX12_tried.cls = RX12 ∧ yX12_tried.cls ≠ "java/lang/invoke/MethodHandle" ∧ yX12_tried.cls ≠ "java/lang/invoke/VarHandle" ∧ (parseMethodDescriptor yX12_tried.desc).map (fun d => d.parameters.length) = some 3 := ⟨rfl, by decide +kernel, by decide +kernel, by decide +kernel⟩
def f_X12_tried_s74 (N : Nat) (v : VV) (x3 : Int32) (x5 : Int32) : Option (((Int32 × VV) ⊕ (Int32 × VV))) :=
  if x3 ≤ x5 then inrO (some ((v.2.1 33 1) - (v.2.1 33 0), si (si v 50 0) 51 ((-1)))) else bnd (f_X12_passes N v 1 0) (fun q7401 => some (.inl (x5 + 1, q7401)))
def f_X12_tried_b36 (N : Nat) (v : VV) (x1 : Int32) (x2 : Int32) (x3 : Int32) (z0 : Int32) : Option (Int32 × VV) :=
  if z0 = 0 then some ((-1), v) else if x3 < 0 then some ((-1), v) else if x3 ≤ 20 then bnd (f_X12_copies N (si (si v 50 x1) 51 x2) 1 0) (fun q3601 => itr (fun q : Int32 × VV => f_X12_tried_s74 N q.2 x3 q.1) N (0, q3601)) else some ((-1), v)
def f_X12_tried_b35 (N : Nat) (v : VV) (x1 : Int32) (x2 : Int32) (x3 : Int32) : Option (Int32 × VV) :=
  f_X12_tried_b36 N v x1 x2 x3 0
def f_X12_tried (N : Nat) (v : VV) (a1 : Int32) (a2 : Int32) (a3 : Int32) : Option (Int32 × VV) :=
  if a1 = 2 then bnd (f_X12_isParty (si v 0 0) a2) (fun q1 => f_X12_tried_b36 N (si v 0 0) a1 a2 a3 q1) else if a1 < 0 then f_X12_tried_b35 N (si v 0 0) a1 a2 a3 else if (5 : Int32) < a1 then f_X12_tried_b35 N (si v 0 0) a1 a2 a3 else if a2 = 0 then f_X12_tried_b36 N (si v 0 0) a1 a2 a3 1 else f_X12_tried_b35 N (si v 0 0) a1 a2 a3
set_option maxHeartbeats 4000000 in
set_option maxRecDepth 100000 in
theorem k_X12_tried (l : Launch) (G : va_G) (cy : Nat → ClassId) (ev : Nat → Nat) (N : Nat) (ad : Nat → Nat) (v : VV) (a1 : Int32) (a2 : Int32) (a3 : Int32) (res : Int32 × VV) (h : f_X12_tried N v a1 a2 a3 = some res) : MetI l yX12_tried cX12_tried 6 (some .int) 8 202 G cy ev [.ref (ad 0), .int a1, .int a2, .int a3] (cX12 cy ad v) res.1 (cX12 cy ad res.2) := by
  refine MetQ.start (by decide +kernel) (Nat.le_of_ble_eq_true rfl) (fun p e s m args below meth c A ls hx hb hr hml hown hts hlocks hK hP hD hA hl hE => ?_)
  have hS : va_S A s.heap s.heap [] := va_S.rf
  have hown : s.vm.findClass RX12 = some m.cls := hown
  have hl : lv_has ls 6 [(0, .ref (ad 0)), (1, .int a1), (2, .int a2), (3, .int a3)] := hl
  have L74 : ∀ (x3 : Int32) (n : Nat) (x5 : Int32) (v : VV) (H : Heap) (locs : List Loc) (ls : Array Slot), itr (fun q : Int32 × VV => f_X12_tried_s74 N q.2 x3 q.1) n (x5, v) = some res → va_P G vwCl (cX12 cy ad v) H → va_D A (cX12 cy ad v) → va_S A s.heap H locs → lv_has ls 6 [(0, .ref (ad 0)), (3, .int x3), (5, .int x5)] → W p l e (rmX 8 202) s m args below meth c H locs 0 0 (MQ below (mQi (res.1) G cy A (cX12 cy ad res.2)) args s 0 0 A) (F0 m 74 ls []) := by
    intro x3 n
    induction n with
    | zero => intro x5 v H locs ls h; exact (itr_zero h).elim
    | succ n ih1 =>
      intro x5 v H locs ls h hP hD hS hl
      obtain ⟨y1, h, hy1⟩ := itr_inv h
      have h : f_X12_tried_s74 N v x3 x5 = some y1 := h
      delta f_X12_tried_s74 at h
      refine lv_iload hx hb dX12_tried_74 (lv_at hl 2 rfl) ?_
      refine lv_iload_n hx hb dX12_tried_76 rfl (lv_at hl 1 rfl) ?_
      refine lv_icmp_ge (tgt := 92) hx hb dX12_tried_77 (by decide) (fun c9 => ?_) (fun c9 => ?_)
      · replace h := (br h).1 c9
        replace h := itr_exit h hy1
        refine lv_aload_n hx hb dX12_tried_92 rfl (lv_at hl 0 rfl) ?_
        refine lv_iconst (v := 0) hx hb dX12_tried_93 (by decide) ?_
        refine pf_X12_50 hx hb hts hown hK hP hD hS dX12_tried_94 (fun H locs hP hD hS => ?_)
        refine lv_aload_n hx hb dX12_tried_97 rfl (lv_at hl 0 rfl) ?_
        refine lv_iconst (v := (-1)) hx hb dX12_tried_98 (by decide) ?_
        refine pf_X12_51 hx hb hts hown hK hP hD hS dX12_tried_99 (fun H locs hP hD hS => ?_)
        refine lv_aload_n hx hb dX12_tried_102 rfl (lv_at hl 0 rfl) ?_
        refine gf_X12_33 hx hb hts hown hK hP dX12_tried_103 ?_
        refine lv_iconst (v := 1) hx hb dX12_tried_106 (by decide) ?_
        refine ld_X12_33 (f := v.2.1 33) (j := 1) hx hb hK hP rfl (vin_dec (by decide)) (by decide) dX12_tried_107 ?_
        refine lv_aload_n hx hb dX12_tried_108 rfl (lv_at hl 0 rfl) ?_
        refine gf_X12_33 hx hb hts hown hK hP dX12_tried_109 ?_
        refine lv_iconst (v := 0) hx hb dX12_tried_112 (by decide) ?_
        refine ld_X12_33 (f := v.2.1 33) (j := 0) hx hb hK hP rfl (vin_dec (by decide)) (by decide) dX12_tried_113 ?_
        refine lv_isub hx hb dX12_tried_114 ?_
        exact retI (fr := fun q => q.1) (fw := fun q => cX12 cy ad q.2) h hx hb hr hlocks hK hP hD hS dX12_tried_115
      · replace h := (br h).2 c9
        refine lv_aload_n hx hb dX12_tried_80 rfl (lv_at hl 0 rfl) ?_
        refine lv_iconst (v := 1) hx hb dX12_tried_81 (by decide) ?_
        refine lv_iconst (v := 0) hx hb dX12_tried_82 (by decide) ?_
        replace h := bd h
        obtain ⟨q7401, h7402, h⟩ := h
        refine callVv0 (As := [.int 1, .int 0]) (rest := []) hx hb hml hown hts (k_X12_passes l G cy ev N ad v 1 0 q7401 h7402) wm_35_12 wm_35_13 wm_35_14 wm_1_5 wm_35_15 hd_X12_passes ⟨by decide, by decide⟩ hK hP hD hS hA hE (va_recv hK hP (ci := 12) (q0 := 0) rfl rfl) rfl rfl hl.1 (Nat.le_of_ble_eq_true rfl) dX12_tried_83 (fun H locs hP hD hS => ?_)
        refine lv_iinc (v := x5 + 1) (lv' := [(5, .int (x5 + 1)), (0, .ref (ad 0)), (3, .int x3)]) hx hb dX12_tried_86 hl (k := 2) rfl rfl (by decide) rfl (fun ls hl => ?_)
        refine lv_goto (tgt := 74) hx hb dX12_tried_89 (by decide) ?_
        replace h := itr_back h hy1
        exact ih1 (x5 + 1) q7401 _ _ _ h hP hD hS (lv_sub hl [1, 2, 0] rfl)
  have B36 : ∀ (x1 : Int32) (x2 : Int32) (x3 : Int32) (z0 : Int32) (v : VV) (H : Heap) (locs : List Loc) (ls : Array Slot), f_X12_tried_b36 N v x1 x2 x3 z0 = some res → va_P G vwCl (cX12 cy ad v) H → va_D A (cX12 cy ad v) → va_S A s.heap H locs → lv_has ls 6 [(0, .ref (ad 0)), (1, .int x1), (2, .int x2), (3, .int x3)] → W p l e (rmX 8 202) s m args below meth c H locs 0 0 (MQ below (mQi (res.1) G cy A (cX12 cy ad res.2)) args s 0 0 A) (F0 m 36 ls [.int z0]) := by
    intro x1 x2 x3 z0 v H locs ls h hP hD hS hl
    delta f_X12_tried_b36 at h
    refine lv_istore (lv' := [(4, .int z0), (0, .ref (ad 0)), (1, .int x1), (2, .int x2), (3, .int x3)]) hx hb dX12_tried_36 hl (by decide) rfl (fun ls hl => ?_)
    refine lv_iload hx hb dX12_tried_38 (lv_at hl 0 rfl) ?_
    refine lv_if_eq (tgt := 53) hx hb dX12_tried_40 (by decide) (fun c9 => ?_) (fun c9 => ?_)
    · replace h := (br h).1 c9
      refine lv_iconst (v := (-1)) hx hb dX12_tried_53 (by decide) ?_
      exact retI (fr := fun q => q.1) (fw := fun q => cX12 cy ad q.2) h hx hb hr hlocks hK hP hD hS dX12_tried_54
    · replace h := (br h).2 c9
      refine lv_iload_n hx hb dX12_tried_43 rfl (lv_at hl 4 rfl) ?_
      refine lv_if_lt (tgt := 53) hx hb dX12_tried_44 (by decide) (fun c9 => ?_) (fun c9 => ?_)
      · replace h := (br h).1 c9
        refine lv_iconst (v := (-1)) hx hb dX12_tried_53 (by decide) ?_
        exact retI (fr := fun q => q.1) (fw := fun q => cX12 cy ad q.2) h hx hb hr hlocks hK hP hD hS dX12_tried_54
      · replace h := (br h).2 c9
        refine lv_iload_n hx hb dX12_tried_47 rfl (lv_at hl 4 rfl) ?_
        refine lv_bipush (v := 20) hx hb dX12_tried_48 (by decide) ?_
        refine lv_icmp_le (tgt := 55) hx hb dX12_tried_50 (by decide) (fun c9 => ?_) (fun c9 => ?_)
        · replace h := (br h).1 c9
          refine lv_aload_n hx hb dX12_tried_55 rfl (lv_at hl 1 rfl) ?_
          refine lv_iload_n hx hb dX12_tried_56 rfl (lv_at hl 2 rfl) ?_
          refine pf_X12_50 hx hb hts hown hK hP hD hS dX12_tried_57 (fun H locs hP hD hS => ?_)
          refine lv_aload_n hx hb dX12_tried_60 rfl (lv_at hl 1 rfl) ?_
          refine lv_iload_n hx hb dX12_tried_61 rfl (lv_at hl 3 rfl) ?_
          refine pf_X12_51 hx hb hts hown hK hP hD hS dX12_tried_62 (fun H locs hP hD hS => ?_)
          refine lv_aload_n hx hb dX12_tried_65 rfl (lv_at hl 1 rfl) ?_
          refine lv_iconst (v := 1) hx hb dX12_tried_66 (by decide) ?_
          refine lv_iconst (v := 0) hx hb dX12_tried_67 (by decide) ?_
          replace h := bd h
          obtain ⟨q3601, h3602, h⟩ := h
          refine callVv0 (As := [.int 1, .int 0]) (rest := []) hx hb hml hown hts (k_X12_copies l G cy ev N ad (si (si v 50 x1) 51 x2) 1 0 q3601 h3602) wm_32_14 wm_32_15 wm_32_16 wm_1_5 wm_32_17 hd_X12_copies ⟨by decide, by decide⟩ hK hP hD hS hA hE (va_recv hK hP (ci := 12) (q0 := 0) rfl rfl) rfl rfl hl.1 (Nat.le_of_ble_eq_true rfl) dX12_tried_68 (fun H locs hP hD hS => ?_)
          refine lv_iconst (v := 0) hx hb dX12_tried_71 (by decide) ?_
          refine lv_istore (lv' := [(5, .int 0), (4, .int z0), (0, .ref (ad 0)), (1, .int x1), (2, .int x2), (3, .int x3)]) hx hb dX12_tried_72 hl (by decide) rfl (fun ls hl => ?_)
          exact L74 x3 N 0 q3601 _ _ _ h hP hD hS (lv_sub hl [2, 5, 0] rfl)
        · replace h := (br h).2 c9
          refine lv_iconst (v := (-1)) hx hb dX12_tried_53 (by decide) ?_
          exact retI (fr := fun q => q.1) (fw := fun q => cX12 cy ad q.2) h hx hb hr hlocks hK hP hD hS dX12_tried_54
  have B35 : ∀ (x1 : Int32) (x2 : Int32) (x3 : Int32) (v : VV) (H : Heap) (locs : List Loc) (ls : Array Slot), f_X12_tried_b35 N v x1 x2 x3 = some res → va_P G vwCl (cX12 cy ad v) H → va_D A (cX12 cy ad v) → va_S A s.heap H locs → lv_has ls 6 [(0, .ref (ad 0)), (1, .int x1), (2, .int x2), (3, .int x3)] → W p l e (rmX 8 202) s m args below meth c H locs 0 0 (MQ below (mQi (res.1) G cy A (cX12 cy ad res.2)) args s 0 0 A) (F0 m 35 ls []) := by
    intro x1 x2 x3 v H locs ls h hP hD hS hl
    delta f_X12_tried_b35 at h
    refine lv_iconst (v := 0) hx hb dX12_tried_35 (by decide) ?_
    exact B36 x1 x2 x3 0 v _ _ _ h hP hD hS (lv_sub hl [0, 1, 2, 3] rfl)
  delta f_X12_tried at h
  refine lv_aload_n hx hb dX12_tried_0 rfl (lv_at hl 0 rfl) ?_
  refine lv_iconst (v := 0) hx hb dX12_tried_1 (by decide) ?_
  refine pf_X12_0 hx hb hts hown hK hP hD hS dX12_tried_2 (fun H locs hP hD hS => ?_)
  refine lv_iload_n hx hb dX12_tried_5 rfl (lv_at hl 1 rfl) ?_
  refine lv_iconst (v := 2) hx hb dX12_tried_6 (by decide) ?_
  refine lv_icmp_ne (tgt := 18) hx hb dX12_tried_7 (by decide) (fun c9 => ?_) (fun c9 => ?_)
  · replace h := (br h).2 c9
    refine lv_iload_n hx hb dX12_tried_18 rfl (lv_at hl 1 rfl) ?_
    refine lv_if_lt (tgt := 35) hx hb dX12_tried_19 (by decide) (fun c9 => ?_) (fun c9 => ?_)
    · replace h := (br h).1 c9
      exact B35 a1 a2 a3 (si v 0 0) _ _ _ h hP hD hS (lv_sub hl [0, 1, 2, 3] rfl)
    · replace h := (br h).2 c9
      refine lv_iload_n hx hb dX12_tried_22 rfl (lv_at hl 1 rfl) ?_
      refine lv_iconst (v := 5) hx hb dX12_tried_23 (by decide) ?_
      refine lv_icmp_gt (tgt := 35) hx hb dX12_tried_24 (by decide) (fun c9 => ?_) (fun c9 => ?_)
      · replace h := (br h).1 c9
        exact B35 a1 a2 a3 (si v 0 0) _ _ _ h hP hD hS (lv_sub hl [0, 1, 2, 3] rfl)
      · replace h := (br h).2 c9
        refine lv_iload_n hx hb dX12_tried_27 rfl (lv_at hl 2 rfl) ?_
        refine lv_if_ne (tgt := 35) hx hb dX12_tried_28 (by decide) (fun c9 => ?_) (fun c9 => ?_)
        · replace h := (br h).2 c9
          exact B35 a1 a2 a3 (si v 0 0) _ _ _ h hP hD hS (lv_sub hl [0, 1, 2, 3] rfl)
        · replace h := (br h).1 c9
          refine lv_iconst (v := 1) hx hb dX12_tried_31 (by decide) ?_
          refine lv_goto (tgt := 36) hx hb dX12_tried_32 (by decide) ?_
          exact B36 a1 a2 a3 1 (si v 0 0) _ _ _ h hP hD hS (lv_sub hl [0, 1, 2, 3] rfl)
  · replace h := (br h).1 c9
    refine lv_aload_n hx hb dX12_tried_10 rfl (lv_at hl 0 rfl) ?_
    refine lv_iload_n hx hb dX12_tried_11 rfl (lv_at hl 2 rfl) ?_
    replace h := bd h
    obtain ⟨q1, h2, h⟩ := h
    refine callVi0 (As := [.int a2]) (rest := []) hx hb hml hown hts (k_X12_isParty l G cy ev ad (si v 0 0) a2 q1 h2) wm_26_23 wm_27_0 wm_27_1 wm_1_5 wm_27_2 hd_X12_isParty ⟨by decide, by decide⟩ hK hP hD hS hA hE (va_recv hK hP (ci := 12) (q0 := 0) rfl rfl) rfl rfl hl.1 (Nat.le_of_ble_eq_true rfl) dX12_tried_12 (fun H locs hP hD hS => ?_)
    refine lv_goto (tgt := 36) hx hb dX12_tried_15 (by decide) ?_
    exact B36 a1 a2 a3 q1 (si v 0 0) _ _ _ h hP hD hS (lv_sub hl [0, 1, 2, 3] rfl)
theorem hd_X12_undo : yX12_undo.cls = RX12 ∧ yX12_undo.cls ≠ "java/lang/invoke/MethodHandle" ∧ yX12_undo.cls ≠ "java/lang/invoke/VarHandle" ∧ (parseMethodDescriptor yX12_undo.desc).map (fun d => d.parameters.length) = some 0 := ⟨rfl, by decide +kernel, by decide +kernel, by decide +kernel⟩
def f_X12_undo (N : Nat) (v : VV) : Option (Int32 × VV) :=
  if v.1 49 = 0 then some ((-1), si v 0 0) else bnd (f_X12_copies N (si (si v 0 0) 49 ((v.1 49) - 1)) 0 (3 + ((v.1 49) - 1))) (fun q1 => some (q1.1 49, q1))
set_option maxHeartbeats 4000000 in
set_option maxRecDepth 100000 in
theorem k_X12_undo (l : Launch) (G : va_G) (cy : Nat → ClassId) (ev : Nat → Nat) (N : Nat) (ad : Nat → Nat) (v : VV)  (res : Int32 × VV) (h : f_X12_undo N v = some res) : MetI l yX12_undo cX12_undo 1 (some .int) 1 25 G cy ev [.ref (ad 0)] (cX12 cy ad v) res.1 (cX12 cy ad res.2) := by
  refine MetQ.start (by decide +kernel) (Nat.le_of_ble_eq_true rfl) (fun p e s m args below meth c A ls hx hb hr hml hown hts hlocks hK hP hD hA hl hE => ?_)
  have hS : va_S A s.heap s.heap [] := va_S.rf
  have hown : s.vm.findClass RX12 = some m.cls := hown
  have hl : lv_has ls 1 [(0, .ref (ad 0))] := hl
  delta f_X12_undo at h
  refine lv_aload_n hx hb dX12_undo_0 rfl (lv_at hl 0 rfl) ?_
  refine lv_iconst (v := 0) hx hb dX12_undo_1 (by decide) ?_
  refine pf_X12_0 hx hb hts hown hK hP hD hS dX12_undo_2 (fun H locs hP hD hS => ?_)
  refine lv_aload_n hx hb dX12_undo_5 rfl (lv_at hl 0 rfl) ?_
  refine gf_X12_49 (x := v.1 49) hx hb hts hown hK hP rfl dX12_undo_6 ?_
  refine lv_if_ne (tgt := 14) hx hb dX12_undo_9 (by decide) (fun c9 => ?_) (fun c9 => ?_)
  · replace h := (br h).2 c9
    refine lv_aload_n hx hb dX12_undo_14 rfl (lv_at hl 0 rfl) ?_
    refine lv_dup hx hb dX12_undo_15 rfl ?_
    refine gf_X12_49 (x := v.1 49) hx hb hts hown hK hP rfl dX12_undo_16 ?_
    refine lv_iconst (v := 1) hx hb dX12_undo_19 (by decide) ?_
    refine lv_isub hx hb dX12_undo_20 ?_
    refine pf_X12_49 hx hb hts hown hK hP hD hS dX12_undo_21 (fun H locs hP hD hS => ?_)
    refine lv_aload_n hx hb dX12_undo_24 rfl (lv_at hl 0 rfl) ?_
    refine lv_iconst (v := 0) hx hb dX12_undo_25 (by decide) ?_
    refine lv_iconst (v := 3) hx hb dX12_undo_26 (by decide) ?_
    refine lv_aload_n hx hb dX12_undo_27 rfl (lv_at hl 0 rfl) ?_
    refine gf_X12_49 (x := (v.1 49) - 1) hx hb hts hown hK hP rfl dX12_undo_28 ?_
    refine lv_iadd hx hb dX12_undo_31 ?_
    replace h := bd h
    obtain ⟨q1, h2, h⟩ := h
    refine callVv0 (As := [.int 0, .int (3 + ((v.1 49) - 1))]) (rest := []) hx hb hml hown hts (k_X12_copies l G cy ev N ad (si (si v 0 0) 49 ((v.1 49) - 1)) 0 (3 + ((v.1 49) - 1)) q1 h2) wm_32_14 wm_32_15 wm_32_16 wm_1_5 wm_32_17 hd_X12_copies ⟨by decide, by decide⟩ hK hP hD hS hA hE (va_recv hK hP (ci := 12) (q0 := 0) rfl rfl) rfl rfl hl.1 (Nat.le_of_ble_eq_true rfl) dX12_undo_32 (fun H locs hP hD hS => ?_)
    refine lv_aload_n hx hb dX12_undo_35 rfl (lv_at hl 0 rfl) ?_
    refine gf_X12_49 (x := q1.1 49) hx hb hts hown hK hP rfl dX12_undo_36 ?_
    exact retI (fr := fun q => q.1) (fw := fun q => cX12 cy ad q.2) h hx hb hr hlocks hK hP hD hS dX12_undo_39
  · replace h := (br h).1 c9
    refine lv_iconst (v := (-1)) hx hb dX12_undo_12 (by decide) ?_
    exact retI (fr := fun q => q.1) (fw := fun q => cX12 cy ad q.2) h hx hb hr hlocks hK hP hD hS dX12_undo_13
theorem hd_X12_keep : yX12_keep.cls = RX12 ∧ yX12_keep.cls ≠ "java/lang/invoke/MethodHandle" ∧ yX12_keep.cls ≠ "java/lang/invoke/VarHandle" ∧ (parseMethodDescriptor yX12_keep.desc).map (fun d => d.parameters.length) = some 0 := ⟨rfl, by decide +kernel, by decide +kernel, by decide +kernel⟩
def f_X12_keep (N : Nat) (v : VV) : Option (Int32 × VV) :=
  bnd (f_X12_copies N (si v 0 0) 2 0) (fun q1 => some (q1.2.1 32 0, si q1 48 1))
set_option maxHeartbeats 4000000 in
set_option maxRecDepth 100000 in
theorem k_X12_keep (l : Launch) (G : va_G) (cy : Nat → ClassId) (ev : Nat → Nat) (N : Nat) (ad : Nat → Nat) (v : VV)  (res : Int32 × VV) (h : f_X12_keep N v = some res) : MetI l yX12_keep cX12_keep 1 (some .int) 1 25 G cy ev [.ref (ad 0)] (cX12 cy ad v) res.1 (cX12 cy ad res.2) := by
  refine MetQ.start (by decide +kernel) (Nat.le_of_ble_eq_true rfl) (fun p e s m args below meth c A ls hx hb hr hml hown hts hlocks hK hP hD hA hl hE => ?_)
  have hS : va_S A s.heap s.heap [] := va_S.rf
  have hown : s.vm.findClass RX12 = some m.cls := hown
  have hl : lv_has ls 1 [(0, .ref (ad 0))] := hl
  delta f_X12_keep at h
  refine lv_aload_n hx hb dX12_keep_0 rfl (lv_at hl 0 rfl) ?_
  refine lv_iconst (v := 0) hx hb dX12_keep_1 (by decide) ?_
  refine pf_X12_0 hx hb hts hown hK hP hD hS dX12_keep_2 (fun H locs hP hD hS => ?_)
  refine lv_aload_n hx hb dX12_keep_5 rfl (lv_at hl 0 rfl) ?_
  refine lv_iconst (v := 2) hx hb dX12_keep_6 (by decide) ?_
  refine lv_iconst (v := 0) hx hb dX12_keep_7 (by decide) ?_
  replace h := bd h
  obtain ⟨q1, h2, h⟩ := h
  refine callVv0 (As := [.int 2, .int 0]) (rest := []) hx hb hml hown hts (k_X12_copies l G cy ev N ad (si v 0 0) 2 0 q1 h2) wm_32_14 wm_32_15 wm_32_16 wm_1_5 wm_32_17 hd_X12_copies ⟨by decide, by decide⟩ hK hP hD hS hA hE (va_recv hK hP (ci := 12) (q0 := 0) rfl rfl) rfl rfl hl.1 (Nat.le_of_ble_eq_true rfl) dX12_keep_8 (fun H locs hP hD hS => ?_)
  refine lv_aload_n hx hb dX12_keep_11 rfl (lv_at hl 0 rfl) ?_
  refine lv_iconst (v := 1) hx hb dX12_keep_12 (by decide) ?_
  refine pf_X12_48 hx hb hts hown hK hP hD hS (by decide) dX12_keep_13 (fun H locs hP hD hS => ?_)
  refine lv_aload_n hx hb dX12_keep_16 rfl (lv_at hl 0 rfl) ?_
  refine gf_X12_32 hx hb hts hown hK hP dX12_keep_17 ?_
  refine lv_iconst (v := 0) hx hb dX12_keep_20 (by decide) ?_
  refine ld_X12_32 (f := q1.2.1 32) (j := 0) hx hb hK hP rfl (vin_dec (by decide)) (by decide) dX12_keep_21 ?_
  exact retI (fr := fun q => q.1) (fw := fun q => cX12 cy ad q.2) h hx hb hr hlocks hK hP hD hS dX12_keep_22
theorem hd_X12_back : yX12_back.cls = RX12 ∧ yX12_back.cls ≠ "java/lang/invoke/MethodHandle" ∧ yX12_back.cls ≠ "java/lang/invoke/VarHandle" ∧ (parseMethodDescriptor yX12_back.desc).map (fun d => d.parameters.length) = some 0 := ⟨rfl, by decide +kernel, by decide +kernel, by decide +kernel⟩
def f_X12_back (N : Nat) (v : VV) : Option (Int32 × VV) :=
  if v.1 48 = 0 then some ((-1), si v 0 0) else bnd (f_X12_copies N (si v 0 0) 0 2) (fun q1 => some (q1.2.1 32 0, si q1 49 0))
set_option maxHeartbeats 4000000 in
set_option maxRecDepth 100000 in
theorem k_X12_back (l : Launch) (G : va_G) (cy : Nat → ClassId) (ev : Nat → Nat) (N : Nat) (ad : Nat → Nat) (v : VV)  (res : Int32 × VV) (h : f_X12_back N v = some res) : MetI l yX12_back cX12_back 1 (some .int) 1 25 G cy ev [.ref (ad 0)] (cX12 cy ad v) res.1 (cX12 cy ad res.2) := by
  refine MetQ.start (by decide +kernel) (Nat.le_of_ble_eq_true rfl) (fun p e s m args below meth c A ls hx hb hr hml hown hts hlocks hK hP hD hA hl hE => ?_)
  have hS : va_S A s.heap s.heap [] := va_S.rf
  have hown : s.vm.findClass RX12 = some m.cls := hown
  have hl : lv_has ls 1 [(0, .ref (ad 0))] := hl
  delta f_X12_back at h
  refine lv_aload_n hx hb dX12_back_0 rfl (lv_at hl 0 rfl) ?_
  refine lv_iconst (v := 0) hx hb dX12_back_1 (by decide) ?_
  refine pf_X12_0 hx hb hts hown hK hP hD hS dX12_back_2 (fun H locs hP hD hS => ?_)
  refine lv_aload_n hx hb dX12_back_5 rfl (lv_at hl 0 rfl) ?_
  refine gf_X12_48 (x := v.1 48) hx hb hts hown hK hP rfl dX12_back_6 ?_
  refine lv_if_ne (tgt := 14) hx hb dX12_back_9 (by decide) (fun c9 => ?_) (fun c9 => ?_)
  · replace h := (br h).2 c9
    refine lv_aload_n hx hb dX12_back_14 rfl (lv_at hl 0 rfl) ?_
    refine lv_iconst (v := 0) hx hb dX12_back_15 (by decide) ?_
    refine lv_iconst (v := 2) hx hb dX12_back_16 (by decide) ?_
    replace h := bd h
    obtain ⟨q1, h2, h⟩ := h
    refine callVv0 (As := [.int 0, .int 2]) (rest := []) hx hb hml hown hts (k_X12_copies l G cy ev N ad (si v 0 0) 0 2 q1 h2) wm_32_14 wm_32_15 wm_32_16 wm_1_5 wm_32_17 hd_X12_copies ⟨by decide, by decide⟩ hK hP hD hS hA hE (va_recv hK hP (ci := 12) (q0 := 0) rfl rfl) rfl rfl hl.1 (Nat.le_of_ble_eq_true rfl) dX12_back_17 (fun H locs hP hD hS => ?_)
    refine lv_aload_n hx hb dX12_back_20 rfl (lv_at hl 0 rfl) ?_
    refine lv_iconst (v := 0) hx hb dX12_back_21 (by decide) ?_
    refine pf_X12_49 hx hb hts hown hK hP hD hS dX12_back_22 (fun H locs hP hD hS => ?_)
    refine lv_aload_n hx hb dX12_back_25 rfl (lv_at hl 0 rfl) ?_
    refine gf_X12_32 hx hb hts hown hK hP dX12_back_26 ?_
    refine lv_iconst (v := 0) hx hb dX12_back_29 (by decide) ?_
    refine ld_X12_32 (f := q1.2.1 32) (j := 0) hx hb hK hP rfl (vin_dec (by decide)) (by decide) dX12_back_30 ?_
    exact retI (fr := fun q => q.1) (fw := fun q => cX12 cy ad q.2) h hx hb hr hlocks hK hP hD hS dX12_back_31
  · replace h := (br h).1 c9
    refine lv_iconst (v := (-1)) hx hb dX12_back_12 (by decide) ?_
    exact retI (fr := fun q => q.1) (fw := fun q => cX12 cy ad q.2) h hx hb hr hlocks hK hP hD hS dX12_back_13
theorem hd_X12_count : yX12_count.cls = RX12 ∧ yX12_count.cls ≠ "java/lang/invoke/MethodHandle" ∧ yX12_count.cls ≠ "java/lang/invoke/VarHandle" ∧ (parseMethodDescriptor yX12_count.desc).map (fun d => d.parameters.length) = some 1 := ⟨rfl, by decide +kernel, by decide +kernel, by decide +kernel⟩
def f_X12_count_b240 (N : Nat) (v : VV) (x3 : Int32) (z0 : Int32) (z1 : Int32) : Option (((Int32 × Int32 × VV) ⊕ (Int32 × VV))) :=
  some (.inl (z1 + z0, x3 + 1, v))
def f_X12_count_s209 (N : Nat) (v : VV) (x2 : Int32) (x3 : Int32) : Option (((Int32 × Int32 × VV) ⊕ (Int32 × VV))) :=
  if v.2.1 3 0 ≤ x3 then inrO (some (x2, v)) else gin x3 184 (if v.2.1 37 x3.toNatClampNeg = (-1) then f_X12_count_b240 N v x3 0 x2 else gin x3 16 (f_X12_count_b240 N v x3 (v.2.1 5 x3.toNatClampNeg) x2))
def f_X12_count_s166 (N : Nat) (v : VV) (x2 : Int32) (x3 : Int32) : Option (((Int32 × Int32 × VV) ⊕ (Int32 × VV))) :=
  if v.2.1 3 0 ≤ x3 then inrO (some (x2, v)) else gin x3 184 (some (.inl (x2 + (v.2.1 39 x3.toNatClampNeg), x3 + 1, v)))
def f_X12_count_s107 (N : Nat) (v : VV) (x2 : Int32) (x3 : Int32) : Option (((Int32 × Int32 × VV) ⊕ (Int32 × VV))) :=
  if v.2.1 3 0 ≤ x3 then inrO (some (x2, v)) else gin x3 16 (some (.inl (x2 + (v.2.1 5 x3.toNatClampNeg), x3 + 1, v)))
def f_X12_count (N : Nat) (v : VV) (a1 : Int32) : Option (Int32 × VV) :=
  if a1 = 0 then some (v.2.1 3 0, si v 0 0) else if a1 = 1 then some (v.2.1 3 2, si v 0 0) else if a1 = 2 then some (v.2.1 3 1, si v 0 0) else if a1 = 3 then itr (fun q : Int32 × Int32 × VV => f_X12_count_s107 N q.2.2 q.1 q.2.1) N (0, 0, si v 0 0) else if a1 = 4 then some (v.2.1 3 6, si v 0 0) else if a1 = 5 then some (v.2.1 3 8, si v 0 0) else if a1 = 6 then some (v.2.1 32 0, si v 0 0) else if a1 = 7 then some (v.2.1 33 0, si v 0 0) else if a1 = 8 then itr (fun q : Int32 × Int32 × VV => f_X12_count_s166 N q.2.2 q.1 q.2.1) N (0, 0, si v 0 0) else if a1 = 9 then some (v.2.1 34 0, si v 0 0) else if a1 = 10 then some (v.2.1 35 0, si v 0 0) else if a1 = 11 then itr (fun q : Int32 × Int32 × VV => f_X12_count_s209 N q.2.2 q.1 q.2.1) N (0, 0, si v 0 0) else if a1 = 12 then some (v.1 64, si v 0 0) else if a1 = 13 then bnd (f_X12_knownMany (si v 0 0)) (fun q2 => some (q2, si v 0 0)) else if a1 = 14 then some (v.1 49, si v 0 0) else some ((-1), si v 0 0)
set_option maxHeartbeats 4000000 in
set_option maxRecDepth 100000 in
theorem k_X12_count (l : Launch) (G : va_G) (cy : Nat → ClassId) (ev : Nat → Nat) (N : Nat) (ad : Nat → Nat) (v : VV) (a1 : Int32) (res : Int32 × VV) (h : f_X12_count N v a1 = some res) : MetI l yX12_count cX12_count 4 (some .int) 1 20 G cy ev [.ref (ad 0), .int a1] (cX12 cy ad v) res.1 (cX12 cy ad res.2) := by
  refine MetQ.start (by decide +kernel) (Nat.le_of_ble_eq_true rfl) (fun p e s m args below meth c A ls hx hb hr hml hown hts hlocks hK hP hD hA hl hE => ?_)
  have hS : va_S A s.heap s.heap [] := va_S.rf
  have hown : s.vm.findClass RX12 = some m.cls := hown
  have hl : lv_has ls 4 [(0, .ref (ad 0)), (1, .int a1)] := hl
  have L209 : ∀ (n : Nat) (x2 : Int32) (x3 : Int32) (v : VV) (H : Heap) (locs : List Loc) (ls : Array Slot), itr (fun q : Int32 × Int32 × VV => f_X12_count_s209 N q.2.2 q.1 q.2.1) n (x2, x3, v) = some res → va_P G vwCl (cX12 cy ad v) H → va_D A (cX12 cy ad v) → va_S A s.heap H locs → lv_has ls 4 [(0, .ref (ad 0)), (2, .int x2), (3, .int x3)] → W p l e (rmX 1 20) s m args below meth c H locs 0 0 (MQ below (mQi (res.1) G cy A (cX12 cy ad res.2)) args s 0 0 A) (F0 m 209 ls []) := by
    intro n
    induction n with
    | zero => intro x2 x3 v H locs ls h; exact (itr_zero h).elim
    | succ n ih1 =>
      intro x2 x3 v H locs ls h hP hD hS hl
      obtain ⟨y1, h, hy1⟩ := itr_inv h
      have h : f_X12_count_s209 N v x2 x3 = some y1 := h
      have B240 : ∀ (x3 : Int32) (z0 : Int32) (z1 : Int32) (v : VV) (H : Heap) (locs : List Loc) (ls : Array Slot), f_X12_count_b240 N v x3 z0 z1 = some y1 → va_P G vwCl (cX12 cy ad v) H → va_D A (cX12 cy ad v) → va_S A s.heap H locs → lv_has ls 4 [(0, .ref (ad 0)), (3, .int x3)] → W p l e (rmX 1 20) s m args below meth c H locs 0 0 (MQ below (mQi (res.1) G cy A (cX12 cy ad res.2)) args s 0 0 A) (F0 m 240 ls [.int z0, .int z1]) := by
        intro x3 z0 z1 v H locs ls h hP hD hS hl
        delta f_X12_count_b240 at h
        refine lv_iadd hx hb dX12_count_240 ?_
        refine lv_istore_n (lv' := [(2, .int (z1 + z0)), (0, .ref (ad 0)), (3, .int x3)]) hx hb dX12_count_241 rfl hl (by decide) rfl (fun ls hl => ?_)
        refine lv_iinc (v := x3 + 1) (lv' := [(3, .int (x3 + 1)), (2, .int (z1 + z0)), (0, .ref (ad 0))]) hx hb dX12_count_242 hl (k := 2) rfl rfl (by decide) rfl (fun ls hl => ?_)
        refine lv_goto (tgt := 209) hx hb dX12_count_245 (by decide) ?_
        replace h := itr_back h hy1
        exact ih1 (z1 + z0) (x3 + 1) v _ _ _ h hP hD hS (lv_sub hl [2, 1, 0] rfl)
      delta f_X12_count_s209 at h
      refine lv_iload_n hx hb dX12_count_209 rfl (lv_at hl 2 rfl) ?_
      refine lv_aload_n hx hb dX12_count_210 rfl (lv_at hl 0 rfl) ?_
      refine gf_X12_3 hx hb hts hown hK hP dX12_count_211 ?_
      refine lv_iconst (v := 0) hx hb dX12_count_214 (by decide) ?_
      refine ld_X12_3 (f := v.2.1 3) (j := 0) hx hb hK hP rfl (vin_dec (by decide)) (by decide) dX12_count_215 ?_
      refine lv_icmp_ge (tgt := 248) hx hb dX12_count_216 (by decide) (fun c9 => ?_) (fun c9 => ?_)
      · replace h := (br h).1 c9
        replace h := itr_exit h hy1
        refine lv_iload_n hx hb dX12_count_248 rfl (lv_at hl 1 rfl) ?_
        exact retI (fr := fun q => q.1) (fw := fun q => cX12 cy ad q.2) h hx hb hr hlocks hK hP hD hS dX12_count_249
      · replace h := (br h).2 c9
        refine lv_iload_n hx hb dX12_count_219 rfl (lv_at hl 1 rfl) ?_
        refine lv_aload_n hx hb dX12_count_220 rfl (lv_at hl 0 rfl) ?_
        refine gf_X12_37 hx hb hts hown hK hP dX12_count_221 ?_
        refine lv_iload_n hx hb dX12_count_224 rfl (lv_at hl 2 rfl) ?_
        replace h := gin_inv h
        obtain ⟨h9, h⟩ := h
        refine ld_X12_37 (f := v.2.1 37) (j := x3.toNatClampNeg) hx hb hK hP rfl h9 rfl dX12_count_225 ?_
        refine lv_iconst (v := (-1)) hx hb dX12_count_226 (by decide) ?_
        refine lv_icmp_ne (tgt := 234) hx hb dX12_count_227 (by decide) (fun c9 => ?_) (fun c9 => ?_)
        · replace h := (br h).2 c9
          refine lv_aload_n hx hb dX12_count_234 rfl (lv_at hl 0 rfl) ?_
          refine gf_X12_5 hx hb hts hown hK hP dX12_count_235 ?_
          refine lv_iload_n hx hb dX12_count_238 rfl (lv_at hl 2 rfl) ?_
          replace h := gin_inv h
          obtain ⟨h9, h⟩ := h
          refine ld_X12_5 (f := v.2.1 5) (j := x3.toNatClampNeg) hx hb hK hP rfl h9 rfl dX12_count_239 ?_
          exact B240 x3 (v.2.1 5 x3.toNatClampNeg) x2 v _ _ _ h hP hD hS (lv_sub hl [0, 2] rfl)
        · replace h := (br h).1 c9
          refine lv_iconst (v := 0) hx hb dX12_count_230 (by decide) ?_
          refine lv_goto (tgt := 240) hx hb dX12_count_231 (by decide) ?_
          exact B240 x3 0 x2 v _ _ _ h hP hD hS (lv_sub hl [0, 2] rfl)
  have L166 : ∀ (n : Nat) (x2 : Int32) (x3 : Int32) (v : VV) (H : Heap) (locs : List Loc) (ls : Array Slot), itr (fun q : Int32 × Int32 × VV => f_X12_count_s166 N q.2.2 q.1 q.2.1) n (x2, x3, v) = some res → va_P G vwCl (cX12 cy ad v) H → va_D A (cX12 cy ad v) → va_S A s.heap H locs → lv_has ls 4 [(0, .ref (ad 0)), (2, .int x2), (3, .int x3)] → W p l e (rmX 1 20) s m args below meth c H locs 0 0 (MQ below (mQi (res.1) G cy A (cX12 cy ad res.2)) args s 0 0 A) (F0 m 166 ls []) := by
    intro n
    induction n with
    | zero => intro x2 x3 v H locs ls h; exact (itr_zero h).elim
    | succ n ih1 =>
      intro x2 x3 v H locs ls h hP hD hS hl
      obtain ⟨y1, h, hy1⟩ := itr_inv h
      have h : f_X12_count_s166 N v x2 x3 = some y1 := h
      delta f_X12_count_s166 at h
      refine lv_iload_n hx hb dX12_count_166 rfl (lv_at hl 2 rfl) ?_
      refine lv_aload_n hx hb dX12_count_167 rfl (lv_at hl 0 rfl) ?_
      refine gf_X12_3 hx hb hts hown hK hP dX12_count_168 ?_
      refine lv_iconst (v := 0) hx hb dX12_count_171 (by decide) ?_
      refine ld_X12_3 (f := v.2.1 3) (j := 0) hx hb hK hP rfl (vin_dec (by decide)) (by decide) dX12_count_172 ?_
      refine lv_icmp_ge (tgt := 191) hx hb dX12_count_173 (by decide) (fun c9 => ?_) (fun c9 => ?_)
      · replace h := (br h).1 c9
        replace h := itr_exit h hy1
        refine lv_iload_n hx hb dX12_count_191 rfl (lv_at hl 1 rfl) ?_
        exact retI (fr := fun q => q.1) (fw := fun q => cX12 cy ad q.2) h hx hb hr hlocks hK hP hD hS dX12_count_192
      · replace h := (br h).2 c9
        refine lv_iload_n hx hb dX12_count_176 rfl (lv_at hl 1 rfl) ?_
        refine lv_aload_n hx hb dX12_count_177 rfl (lv_at hl 0 rfl) ?_
        refine gf_X12_39 hx hb hts hown hK hP dX12_count_178 ?_
        refine lv_iload_n hx hb dX12_count_181 rfl (lv_at hl 2 rfl) ?_
        replace h := gin_inv h
        obtain ⟨h9, h⟩ := h
        refine ld_X12_39 (f := v.2.1 39) (j := x3.toNatClampNeg) hx hb hK hP rfl h9 rfl dX12_count_182 ?_
        refine lv_iadd hx hb dX12_count_183 ?_
        refine lv_istore_n (lv' := [(2, .int (x2 + (v.2.1 39 x3.toNatClampNeg))), (0, .ref (ad 0)), (3, .int x3)]) hx hb dX12_count_184 rfl hl (by decide) rfl (fun ls hl => ?_)
        refine lv_iinc (v := x3 + 1) (lv' := [(3, .int (x3 + 1)), (2, .int (x2 + (v.2.1 39 x3.toNatClampNeg))), (0, .ref (ad 0))]) hx hb dX12_count_185 hl (k := 2) rfl rfl (by decide) rfl (fun ls hl => ?_)
        refine lv_goto (tgt := 166) hx hb dX12_count_188 (by decide) ?_
        replace h := itr_back h hy1
        exact ih1 (x2 + (v.2.1 39 x3.toNatClampNeg)) (x3 + 1) v _ _ _ h hP hD hS (lv_sub hl [2, 1, 0] rfl)
  have L107 : ∀ (n : Nat) (x2 : Int32) (x3 : Int32) (v : VV) (H : Heap) (locs : List Loc) (ls : Array Slot), itr (fun q : Int32 × Int32 × VV => f_X12_count_s107 N q.2.2 q.1 q.2.1) n (x2, x3, v) = some res → va_P G vwCl (cX12 cy ad v) H → va_D A (cX12 cy ad v) → va_S A s.heap H locs → lv_has ls 4 [(0, .ref (ad 0)), (2, .int x2), (3, .int x3)] → W p l e (rmX 1 20) s m args below meth c H locs 0 0 (MQ below (mQi (res.1) G cy A (cX12 cy ad res.2)) args s 0 0 A) (F0 m 107 ls []) := by
    intro n
    induction n with
    | zero => intro x2 x3 v H locs ls h; exact (itr_zero h).elim
    | succ n ih1 =>
      intro x2 x3 v H locs ls h hP hD hS hl
      obtain ⟨y1, h, hy1⟩ := itr_inv h
      have h : f_X12_count_s107 N v x2 x3 = some y1 := h
      delta f_X12_count_s107 at h
      refine lv_iload_n hx hb dX12_count_107 rfl (lv_at hl 2 rfl) ?_
      refine lv_aload_n hx hb dX12_count_108 rfl (lv_at hl 0 rfl) ?_
      refine gf_X12_3 hx hb hts hown hK hP dX12_count_109 ?_
      refine lv_iconst (v := 0) hx hb dX12_count_112 (by decide) ?_
      refine ld_X12_3 (f := v.2.1 3) (j := 0) hx hb hK hP rfl (vin_dec (by decide)) (by decide) dX12_count_113 ?_
      refine lv_icmp_ge (tgt := 132) hx hb dX12_count_114 (by decide) (fun c9 => ?_) (fun c9 => ?_)
      · replace h := (br h).1 c9
        replace h := itr_exit h hy1
        refine lv_iload_n hx hb dX12_count_132 rfl (lv_at hl 1 rfl) ?_
        exact retI (fr := fun q => q.1) (fw := fun q => cX12 cy ad q.2) h hx hb hr hlocks hK hP hD hS dX12_count_133
      · replace h := (br h).2 c9
        refine lv_iload_n hx hb dX12_count_117 rfl (lv_at hl 1 rfl) ?_
        refine lv_aload_n hx hb dX12_count_118 rfl (lv_at hl 0 rfl) ?_
        refine gf_X12_5 hx hb hts hown hK hP dX12_count_119 ?_
        refine lv_iload_n hx hb dX12_count_122 rfl (lv_at hl 2 rfl) ?_
        replace h := gin_inv h
        obtain ⟨h9, h⟩ := h
        refine ld_X12_5 (f := v.2.1 5) (j := x3.toNatClampNeg) hx hb hK hP rfl h9 rfl dX12_count_123 ?_
        refine lv_iadd hx hb dX12_count_124 ?_
        refine lv_istore_n (lv' := [(2, .int (x2 + (v.2.1 5 x3.toNatClampNeg))), (0, .ref (ad 0)), (3, .int x3)]) hx hb dX12_count_125 rfl hl (by decide) rfl (fun ls hl => ?_)
        refine lv_iinc (v := x3 + 1) (lv' := [(3, .int (x3 + 1)), (2, .int (x2 + (v.2.1 5 x3.toNatClampNeg))), (0, .ref (ad 0))]) hx hb dX12_count_126 hl (k := 2) rfl rfl (by decide) rfl (fun ls hl => ?_)
        refine lv_goto (tgt := 107) hx hb dX12_count_129 (by decide) ?_
        replace h := itr_back h hy1
        exact ih1 (x2 + (v.2.1 5 x3.toNatClampNeg)) (x3 + 1) v _ _ _ h hP hD hS (lv_sub hl [2, 1, 0] rfl)
  delta f_X12_count at h
  refine lv_aload_n hx hb dX12_count_0 rfl (lv_at hl 0 rfl) ?_
  refine lv_iconst (v := 0) hx hb dX12_count_1 (by decide) ?_
  refine pf_X12_0 hx hb hts hown hK hP hD hS dX12_count_2 (fun H locs hP hD hS => ?_)
  refine lv_iconst (v := 0) hx hb dX12_count_5 (by decide) ?_
  refine lv_istore_n (lv' := [(2, .int 0), (0, .ref (ad 0)), (1, .int a1)]) hx hb dX12_count_6 rfl hl (by decide) rfl (fun ls hl => ?_)
  refine lv_iload_n hx hb dX12_count_7 rfl (lv_at hl 2 rfl) ?_
  refine lv_topi (fun w1 ew1 => ?_)
  by_cases nw1_0 : a1 = 0
  · replace h := (br h).1 nw1_0
    rw [ew1, nw1_0]
    refine lv_tableIn (off := 76) (tgt := 84) hx hb dX12_count_8 (by decide) (by decide) rfl (by decide) ?_
    refine lv_aload_n hx hb dX12_count_84 rfl (lv_at hl 1 rfl) ?_
    refine gf_X12_3 hx hb hts hown hK hP dX12_count_85 ?_
    refine lv_iconst (v := 0) hx hb dX12_count_88 (by decide) ?_
    refine ld_X12_3 (f := v.2.1 3) (j := 0) hx hb hK hP rfl (vin_dec (by decide)) (by decide) dX12_count_89 ?_
    exact retI (fr := fun q => q.1) (fw := fun q => cX12 cy ad q.2) h hx hb hr hlocks hK hP hD hS dX12_count_90
  · replace h := (br h).2 nw1_0
    by_cases nw1_1 : a1 = 1
    · replace h := (br h).1 nw1_1
      rw [ew1, nw1_1]
      refine lv_tableIn (off := 83) (tgt := 91) hx hb dX12_count_8 (by decide) (by decide) rfl (by decide) ?_
      refine lv_aload_n hx hb dX12_count_91 rfl (lv_at hl 1 rfl) ?_
      refine gf_X12_3 hx hb hts hown hK hP dX12_count_92 ?_
      refine lv_iconst (v := 2) hx hb dX12_count_95 (by decide) ?_
      refine ld_X12_3 (f := v.2.1 3) (j := 2) hx hb hK hP rfl (vin_dec (by decide)) (by decide) dX12_count_96 ?_
      exact retI (fr := fun q => q.1) (fw := fun q => cX12 cy ad q.2) h hx hb hr hlocks hK hP hD hS dX12_count_97
    · replace h := (br h).2 nw1_1
      by_cases nw1_2 : a1 = 2
      · replace h := (br h).1 nw1_2
        rw [ew1, nw1_2]
        refine lv_tableIn (off := 90) (tgt := 98) hx hb dX12_count_8 (by decide) (by decide) rfl (by decide) ?_
        refine lv_aload_n hx hb dX12_count_98 rfl (lv_at hl 1 rfl) ?_
        refine gf_X12_3 hx hb hts hown hK hP dX12_count_99 ?_
        refine lv_iconst (v := 1) hx hb dX12_count_102 (by decide) ?_
        refine ld_X12_3 (f := v.2.1 3) (j := 1) hx hb hK hP rfl (vin_dec (by decide)) (by decide) dX12_count_103 ?_
        exact retI (fr := fun q => q.1) (fw := fun q => cX12 cy ad q.2) h hx hb hr hlocks hK hP hD hS dX12_count_104
      · replace h := (br h).2 nw1_2
        by_cases nw1_3 : a1 = 3
        · replace h := (br h).1 nw1_3
          rw [ew1, nw1_3]
          refine lv_tableIn (off := 97) (tgt := 105) hx hb dX12_count_8 (by decide) (by decide) rfl (by decide) ?_
          refine lv_iconst (v := 0) hx hb dX12_count_105 (by decide) ?_
          refine lv_istore_n (lv' := [(3, .int 0), (2, .int 0), (0, .ref (ad 0)), (1, .int a1)]) hx hb dX12_count_106 rfl hl (by decide) rfl (fun ls hl => ?_)
          exact L107  N 0 0 (si v 0 0) _ _ _ h hP hD hS (lv_sub hl [2, 1, 0] rfl)
        · replace h := (br h).2 nw1_3
          by_cases nw1_4 : a1 = 4
          · replace h := (br h).1 nw1_4
            rw [ew1, nw1_4]
            refine lv_tableIn (off := 126) (tgt := 134) hx hb dX12_count_8 (by decide) (by decide) rfl (by decide) ?_
            refine lv_aload_n hx hb dX12_count_134 rfl (lv_at hl 1 rfl) ?_
            refine gf_X12_3 hx hb hts hown hK hP dX12_count_135 ?_
            refine lv_bipush (v := 6) hx hb dX12_count_138 (by decide) ?_
            refine ld_X12_3 (f := v.2.1 3) (j := 6) hx hb hK hP rfl (vin_dec (by decide)) (by decide) dX12_count_140 ?_
            exact retI (fr := fun q => q.1) (fw := fun q => cX12 cy ad q.2) h hx hb hr hlocks hK hP hD hS dX12_count_141
          · replace h := (br h).2 nw1_4
            by_cases nw1_5 : a1 = 5
            · replace h := (br h).1 nw1_5
              rw [ew1, nw1_5]
              refine lv_tableIn (off := 134) (tgt := 142) hx hb dX12_count_8 (by decide) (by decide) rfl (by decide) ?_
              refine lv_aload_n hx hb dX12_count_142 rfl (lv_at hl 1 rfl) ?_
              refine gf_X12_3 hx hb hts hown hK hP dX12_count_143 ?_
              refine lv_bipush (v := 8) hx hb dX12_count_146 (by decide) ?_
              refine ld_X12_3 (f := v.2.1 3) (j := 8) hx hb hK hP rfl (vin_dec (by decide)) (by decide) dX12_count_148 ?_
              exact retI (fr := fun q => q.1) (fw := fun q => cX12 cy ad q.2) h hx hb hr hlocks hK hP hD hS dX12_count_149
            · replace h := (br h).2 nw1_5
              by_cases nw1_6 : a1 = 6
              · replace h := (br h).1 nw1_6
                rw [ew1, nw1_6]
                refine lv_tableIn (off := 142) (tgt := 150) hx hb dX12_count_8 (by decide) (by decide) rfl (by decide) ?_
                refine lv_aload_n hx hb dX12_count_150 rfl (lv_at hl 1 rfl) ?_
                refine gf_X12_32 hx hb hts hown hK hP dX12_count_151 ?_
                refine lv_iconst (v := 0) hx hb dX12_count_154 (by decide) ?_
                refine ld_X12_32 (f := v.2.1 32) (j := 0) hx hb hK hP rfl (vin_dec (by decide)) (by decide) dX12_count_155 ?_
                exact retI (fr := fun q => q.1) (fw := fun q => cX12 cy ad q.2) h hx hb hr hlocks hK hP hD hS dX12_count_156
              · replace h := (br h).2 nw1_6
                by_cases nw1_7 : a1 = 7
                · replace h := (br h).1 nw1_7
                  rw [ew1, nw1_7]
                  refine lv_tableIn (off := 149) (tgt := 157) hx hb dX12_count_8 (by decide) (by decide) rfl (by decide) ?_
                  refine lv_aload_n hx hb dX12_count_157 rfl (lv_at hl 1 rfl) ?_
                  refine gf_X12_33 hx hb hts hown hK hP dX12_count_158 ?_
                  refine lv_iconst (v := 0) hx hb dX12_count_161 (by decide) ?_
                  refine ld_X12_33 (f := v.2.1 33) (j := 0) hx hb hK hP rfl (vin_dec (by decide)) (by decide) dX12_count_162 ?_
                  exact retI (fr := fun q => q.1) (fw := fun q => cX12 cy ad q.2) h hx hb hr hlocks hK hP hD hS dX12_count_163
                · replace h := (br h).2 nw1_7
                  by_cases nw1_8 : a1 = 8
                  · replace h := (br h).1 nw1_8
                    rw [ew1, nw1_8]
                    refine lv_tableIn (off := 156) (tgt := 164) hx hb dX12_count_8 (by decide) (by decide) rfl (by decide) ?_
                    refine lv_iconst (v := 0) hx hb dX12_count_164 (by decide) ?_
                    refine lv_istore_n (lv' := [(3, .int 0), (2, .int 0), (0, .ref (ad 0)), (1, .int a1)]) hx hb dX12_count_165 rfl hl (by decide) rfl (fun ls hl => ?_)
                    exact L166  N 0 0 (si v 0 0) _ _ _ h hP hD hS (lv_sub hl [2, 1, 0] rfl)
                  · replace h := (br h).2 nw1_8
                    by_cases nw1_9 : a1 = 9
                    · replace h := (br h).1 nw1_9
                      rw [ew1, nw1_9]
                      refine lv_tableIn (off := 185) (tgt := 193) hx hb dX12_count_8 (by decide) (by decide) rfl (by decide) ?_
                      refine lv_aload_n hx hb dX12_count_193 rfl (lv_at hl 1 rfl) ?_
                      refine gf_X12_34 hx hb hts hown hK hP dX12_count_194 ?_
                      refine lv_iconst (v := 0) hx hb dX12_count_197 (by decide) ?_
                      refine ld_X12_34 (f := v.2.1 34) (j := 0) hx hb hK hP rfl (vin_dec (by decide)) (by decide) dX12_count_198 ?_
                      exact retI (fr := fun q => q.1) (fw := fun q => cX12 cy ad q.2) h hx hb hr hlocks hK hP hD hS dX12_count_199
                    · replace h := (br h).2 nw1_9
                      by_cases nw1_10 : a1 = 10
                      · replace h := (br h).1 nw1_10
                        rw [ew1, nw1_10]
                        refine lv_tableIn (off := 192) (tgt := 200) hx hb dX12_count_8 (by decide) (by decide) rfl (by decide) ?_
                        refine lv_aload_n hx hb dX12_count_200 rfl (lv_at hl 1 rfl) ?_
                        refine gf_X12_35 hx hb hts hown hK hP dX12_count_201 ?_
                        refine lv_iconst (v := 0) hx hb dX12_count_204 (by decide) ?_
                        refine ld_X12_35 (f := v.2.1 35) (j := 0) hx hb hK hP rfl (vin_dec (by decide)) (by decide) dX12_count_205 ?_
                        exact retI (fr := fun q => q.1) (fw := fun q => cX12 cy ad q.2) h hx hb hr hlocks hK hP hD hS dX12_count_206
                      · replace h := (br h).2 nw1_10
                        by_cases nw1_11 : a1 = 11
                        · replace h := (br h).1 nw1_11
                          rw [ew1, nw1_11]
                          refine lv_tableIn (off := 199) (tgt := 207) hx hb dX12_count_8 (by decide) (by decide) rfl (by decide) ?_
                          refine lv_iconst (v := 0) hx hb dX12_count_207 (by decide) ?_
                          refine lv_istore_n (lv' := [(3, .int 0), (2, .int 0), (0, .ref (ad 0)), (1, .int a1)]) hx hb dX12_count_208 rfl hl (by decide) rfl (fun ls hl => ?_)
                          exact L209  N 0 0 (si v 0 0) _ _ _ h hP hD hS (lv_sub hl [2, 1, 0] rfl)
                        · replace h := (br h).2 nw1_11
                          by_cases nw1_12 : a1 = 12
                          · replace h := (br h).1 nw1_12
                            rw [ew1, nw1_12]
                            refine lv_tableIn (off := 242) (tgt := 250) hx hb dX12_count_8 (by decide) (by decide) rfl (by decide) ?_
                            refine lv_aload_n hx hb dX12_count_250 rfl (lv_at hl 1 rfl) ?_
                            refine gf_X12_64 (x := v.1 64) hx hb hts hown hK hP rfl dX12_count_251 ?_
                            exact retI (fr := fun q => q.1) (fw := fun q => cX12 cy ad q.2) h hx hb hr hlocks hK hP hD hS dX12_count_254
                          · replace h := (br h).2 nw1_12
                            by_cases nw1_13 : a1 = 13
                            · replace h := (br h).1 nw1_13
                              rw [ew1, nw1_13]
                              refine lv_tableIn (off := 247) (tgt := 255) hx hb dX12_count_8 (by decide) (by decide) rfl (by decide) ?_
                              refine lv_aload_n hx hb dX12_count_255 rfl (lv_at hl 1 rfl) ?_
                              replace h := bd h
                              obtain ⟨q2, h3, h⟩ := h
                              refine callVi0 (As := []) (rest := []) hx hb hml hown hts (k_X12_knownMany l G cy ev ad (si v 0 0) q2 h3) wm_52_3 wm_52_4 wm_52_5 wm_1_5 wm_52_6 hd_X12_knownMany ⟨by decide, by decide⟩ hK hP hD hS hA hE (va_recv hK hP (ci := 12) (q0 := 0) rfl rfl) rfl rfl hl.1 (Nat.le_of_ble_eq_true rfl) dX12_count_256 (fun H locs hP hD hS => ?_)
                              exact retI (fr := fun q => q.1) (fw := fun q => cX12 cy ad q.2) h hx hb hr hlocks hK hP hD hS dX12_count_259
                            · replace h := (br h).2 nw1_13
                              by_cases nw1_14 : a1 = 14
                              · replace h := (br h).1 nw1_14
                                rw [ew1, nw1_14]
                                refine lv_tableIn (off := 252) (tgt := 260) hx hb dX12_count_8 (by decide) (by decide) rfl (by decide) ?_
                                refine lv_aload_n hx hb dX12_count_260 rfl (lv_at hl 1 rfl) ?_
                                refine gf_X12_49 (x := v.1 49) hx hb hts hown hK hP rfl dX12_count_261 ?_
                                exact retI (fr := fun q => q.1) (fw := fun q => cX12 cy ad q.2) h hx hb hr hlocks hK hP hD hS dX12_count_264
                              · replace h := (br h).2 nw1_14
                                rw [ew1]
                                refine lv_tableOut (tgt := 265) hx hb dX12_count_8 (by have := ne_toInt (k := 0) 0 (by decide) nw1_0; have := ne_toInt (k := 1) 1 (by decide) nw1_1; have := ne_toInt (k := 2) 2 (by decide) nw1_2; have := ne_toInt (k := 3) 3 (by decide) nw1_3; have := ne_toInt (k := 4) 4 (by decide) nw1_4; have := ne_toInt (k := 5) 5 (by decide) nw1_5; have := ne_toInt (k := 6) 6 (by decide) nw1_6; have := ne_toInt (k := 7) 7 (by decide) nw1_7; have := ne_toInt (k := 8) 8 (by decide) nw1_8; have := ne_toInt (k := 9) 9 (by decide) nw1_9; have := ne_toInt (k := 10) 10 (by decide) nw1_10; have := ne_toInt (k := 11) 11 (by decide) nw1_11; have := ne_toInt (k := 12) 12 (by decide) nw1_12; have := ne_toInt (k := 13) 13 (by decide) nw1_13; have := ne_toInt (k := 14) 14 (by decide) nw1_14; omega) (by decide) ?_
                                refine lv_iconst (v := (-1)) hx hb dX12_count_265 (by decide) ?_
                                exact retI (fr := fun q => q.1) (fw := fun q => cX12 cy ad q.2) h hx hb hr hlocks hK hP hD hS dX12_count_266
