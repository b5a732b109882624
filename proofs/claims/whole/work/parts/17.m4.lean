theorem hd_X12_word : yX12_word.cls = RX12 ∧ yX12_word.cls ≠ "java/lang/invoke/MethodHandle" ∧ yX12_word.cls ≠ "java/lang/invoke/VarHandle" ∧ (parseMethodDescriptor yX12_word.desc).map (fun d => d.parameters.length) = some 0 := ⟨rfl, by decide +kernel, by decide +kernel, by decide +kernel⟩
def f_X12_word_s97 (N : Nat) (v : VV) (x1 : Int32) (x2 : Int32) : Option (((Int32) ⊕ (((Int32 × Int32) ⊕ (Int32))))) :=
  gin x2 115 (if stc 3 x2.toNatClampNeg = 32 then inrO (some (.inl (x1 + 1, x2 + 1))) else some (.inl (x2 + 1)))
def f_X12_word_b69 (N : Nat) (v : VV) (x1 : Int32) (x2 : Int32) (x3 : Int32) : Option (((Int32 × Int32) ⊕ (Int32))) :=
  gin (x2 + x3) 115 (if stc 3 (x2 + x3).toNatClampNeg = 32 then if (v.1 20) + x3 = v.1 19 then inrO (some x1) else itr (fun q : Int32 => f_X12_word_s97 N v x1 q) N x2 else itr (fun q : Int32 => f_X12_word_s97 N v x1 q) N x2)
def f_X12_word_s15 (N : Nat) (v : VV) (x1 : Int32) (x2 : Int32) (x3 : Int32) : Option (((Int32) ⊕ (((Int32 × Int32) ⊕ (Int32))))) :=
  gin (x2 + x3) 115 (if stc 3 (x2 + x3).toNatClampNeg = 32 then inrO (f_X12_word_b69 N v x1 x2 x3) else if v.1 19 ≤ (v.1 20) + x3 then inrO (f_X12_word_b69 N v x1 x2 x3) else gin ((v.1 20) + x3) 700 (gin (x2 + x3) 115 (if v.2.1 1 (((v.1 20) + x3).toNatClampNeg) = stc 3 (x2 + x3).toNatClampNeg then some (.inl (x3 + 1)) else inrO (f_X12_word_b69 N v x1 x2 x3))))
def f_X12_word_s4 (N : Nat) (v : VV) (x1 : Int32) (x2 : Int32) : Option (((Int32 × Int32) ⊕ (Int32))) :=
  if (115 : Int32) ≤ x2 then inrO (some ((-1))) else itr (fun q : Int32 => f_X12_word_s15 N v x1 x2 q) N 0
def f_X12_word (N : Nat) (v : VV) : Option (Int32) :=
  itr (fun q : Int32 × Int32 => f_X12_word_s4 N v q.1 q.2) N (0, 0)
set_option maxHeartbeats 4000000 in
set_option maxRecDepth 100000 in
theorem k_X12_word (l : Launch) (G : va_G) (cy : Nat → ClassId) (ev : Nat → Nat) (N : Nat) (ad : Nat → Nat) (v : VV)  (res : Int32) (h : f_X12_word N v = some res) : MetI l yX12_word cX12_word 4 (some .int) 4 85 G cy ev [.ref (ad 0)] (cX12 cy ad v) res (cX12 cy ad v) := by
  refine MetQ.start (by decide +kernel) (Nat.le_of_ble_eq_true rfl) (fun p e s m args below meth c A ls hx hb hr hml hown hts hlocks hK hP hD hA hl hE => ?_)
  have hS : va_S A s.heap s.heap [] := va_S.rf
  have hown : s.vm.findClass RX12 = some m.cls := hown
  have hl : lv_has ls 4 [(0, .ref (ad 0))] := hl
  have L4 : ∀ (n : Nat) (x1 : Int32) (x2 : Int32) (H : Heap) (locs : List Loc) (ls : Array Slot), itr (fun q : Int32 × Int32 => f_X12_word_s4 N v q.1 q.2) n (x1, x2) = some res → va_P G vwCl (cX12 cy ad v) H → va_D A (cX12 cy ad v) → va_S A s.heap H locs → lv_has ls 4 [(0, .ref (ad 0)), (1, .int x1), (2, .int x2)] → W p l e (rmX 4 85) s m args below meth c H locs 0 0 (MQ below (mQi (res) G cy A (cX12 cy ad v)) args s 0 0 A) (F0 m 4 ls []) := by
    intro n
    induction n with
    | zero => intro x1 x2 H locs ls h; exact (itr_zero h).elim
    | succ n ih1 =>
      intro x1 x2 H locs ls h hP hD hS hl
      obtain ⟨y1, h, hy1⟩ := itr_inv h
      have h : f_X12_word_s4 N v x1 x2 = some y1 := h
      have L97 : ∀ (x1 : Int32) (n : Nat) (x2 : Int32) (H : Heap) (locs : List Loc) (ls : Array Slot), itr (fun q : Int32 => f_X12_word_s97 N v x1 q) n x2 = some y1 → va_P G vwCl (cX12 cy ad v) H → va_D A (cX12 cy ad v) → va_S A s.heap H locs → lv_has ls 4 [(0, .ref (ad 0)), (1, .int x1), (2, .int x2)] → W p l e (rmX 4 85) s m args below meth c H locs 0 0 (MQ below (mQi (res) G cy A (cX12 cy ad v)) args s 0 0 A) (F0 m 97 ls []) := by
        intro x1 n
        induction n with
        | zero => intro x2 H locs ls h; exact (itr_zero h).elim
        | succ n ih2 =>
          intro x2 H locs ls h hP hD hS hl
          obtain ⟨y2, h, hy2⟩ := itr_inv h
          have h : f_X12_word_s97 N v x1 x2 = some y2 := h
          delta f_X12_word_s97 at h
          refine va_ldcS hx hb hown (hE.2.2.1.2 3 (by decide)) dX12_word_97 ?_
          refine lv_iload_n hx hb dX12_word_99 rfl (lv_at hl 2 rfl) ?_
          replace h := gin_inv h
          obtain ⟨h9, h⟩ := h
          refine callVi0 (As := [.int x2]) (rest := []) hx hb hml hown hts (k_J0_charAt l G cy ev (cX12 cy ad v) 3 (by decide) x2 h9) wm_21_10 wm_14_3 wm_14_4 wm_13_17 wm_14_5 hd_J0_charAt_5068e ⟨by decide, by decide⟩ hK hP hD hS hA hE (vk_recv (i := 3) (adK := fun i => ev (10 + i)) hE.2.2.1.1 (by decide) hS) rfl rfl hl.1 (Nat.le_of_ble_eq_true rfl) dX12_word_100 (fun H locs hP hD hS => ?_)
          refine lv_bipush (v := 32) hx hb dX12_word_103 (by decide) ?_
          refine lv_icmp_eq (tgt := 114) hx hb dX12_word_105 (by decide) (fun c9 => ?_) (fun c9 => ?_)
          · replace h := (br h).1 c9
            replace h := itr_exit h hy2
            refine lv_iinc (v := x2 + 1) (lv' := [(2, .int (x2 + 1)), (0, .ref (ad 0)), (1, .int x1)]) hx hb dX12_word_114 hl (k := 2) rfl rfl (by decide) rfl (fun ls hl => ?_)
            refine lv_iinc (v := x1 + 1) (lv' := [(1, .int (x1 + 1)), (2, .int (x2 + 1)), (0, .ref (ad 0))]) hx hb dX12_word_117 hl (k := 2) rfl rfl (by decide) rfl (fun ls hl => ?_)
            refine lv_goto (tgt := 4) hx hb dX12_word_120 (by decide) ?_
            replace h := itr_back h hy1
            exact ih1 (x1 + 1) (x2 + 1) _ _ _ h hP hD hS (lv_sub hl [2, 0, 1] rfl)
          · replace h := (br h).2 c9
            refine lv_iinc (v := x2 + 1) (lv' := [(2, .int (x2 + 1)), (0, .ref (ad 0)), (1, .int x1)]) hx hb dX12_word_108 hl (k := 2) rfl rfl (by decide) rfl (fun ls hl => ?_)
            refine lv_goto (tgt := 97) hx hb dX12_word_111 (by decide) ?_
            replace h := itr_back h hy2
            exact ih2 (x2 + 1) _ _ _ h hP hD hS (lv_sub hl [1, 2, 0] rfl)
      have B69 : ∀ (x1 : Int32) (x2 : Int32) (x3 : Int32) (H : Heap) (locs : List Loc) (ls : Array Slot), f_X12_word_b69 N v x1 x2 x3 = some y1 → va_P G vwCl (cX12 cy ad v) H → va_D A (cX12 cy ad v) → va_S A s.heap H locs → lv_has ls 4 [(0, .ref (ad 0)), (1, .int x1), (2, .int x2), (3, .int x3)] → W p l e (rmX 4 85) s m args below meth c H locs 0 0 (MQ below (mQi (res) G cy A (cX12 cy ad v)) args s 0 0 A) (F0 m 69 ls []) := by
        intro x1 x2 x3 H locs ls h hP hD hS hl
        delta f_X12_word_b69 at h
        refine va_ldcS hx hb hown (hE.2.2.1.2 3 (by decide)) dX12_word_69 ?_
        refine lv_iload_n hx hb dX12_word_71 rfl (lv_at hl 2 rfl) ?_
        refine lv_iload_n hx hb dX12_word_72 rfl (lv_at hl 3 rfl) ?_
        refine lv_iadd hx hb dX12_word_73 ?_
        replace h := gin_inv h
        obtain ⟨h9, h⟩ := h
        refine callVi0 (As := [.int (x2 + x3)]) (rest := []) hx hb hml hown hts (k_J0_charAt l G cy ev (cX12 cy ad v) 3 (by decide) (x2 + x3) h9) wm_21_10 wm_14_3 wm_14_4 wm_13_17 wm_14_5 hd_J0_charAt_5068e ⟨by decide, by decide⟩ hK hP hD hS hA hE (vk_recv (i := 3) (adK := fun i => ev (10 + i)) hE.2.2.1.1 (by decide) hS) rfl rfl hl.1 (Nat.le_of_ble_eq_true rfl) dX12_word_74 (fun H locs hP hD hS => ?_)
        refine lv_bipush (v := 32) hx hb dX12_word_77 (by decide) ?_
        refine lv_icmp_ne (tgt := 97) hx hb dX12_word_79 (by decide) (fun c9 => ?_) (fun c9 => ?_)
        · replace h := (br h).2 c9
          exact L97 x1 N x2 _ _ _ h hP hD hS (lv_sub hl [0, 1, 2] rfl)
        · replace h := (br h).1 c9
          refine lv_aload_n hx hb dX12_word_82 rfl (lv_at hl 0 rfl) ?_
          refine gf_X12_20 (x := v.1 20) hx hb hts hown hK hP rfl dX12_word_83 ?_
          refine lv_iload_n hx hb dX12_word_86 rfl (lv_at hl 3 rfl) ?_
          refine lv_iadd hx hb dX12_word_87 ?_
          refine lv_aload_n hx hb dX12_word_88 rfl (lv_at hl 0 rfl) ?_
          refine gf_X12_19 (x := v.1 19) hx hb hts hown hK hP rfl dX12_word_89 ?_
          refine lv_icmp_ne (tgt := 97) hx hb dX12_word_92 (by decide) (fun c9 => ?_) (fun c9 => ?_)
          · replace h := (br h).2 c9
            exact L97 x1 N x2 _ _ _ h hP hD hS (lv_sub hl [0, 1, 2] rfl)
          · replace h := (br h).1 c9
            replace h := itr_exit h hy1
            refine lv_iload_n hx hb dX12_word_95 rfl (lv_at hl 1 rfl) ?_
            exact retI (fr := fun q => q) (fw := fun _ => cX12 cy ad v) h hx hb hr hlocks hK hP hD hS dX12_word_96
      have L15 : ∀ (x1 : Int32) (x2 : Int32) (n : Nat) (x3 : Int32) (H : Heap) (locs : List Loc) (ls : Array Slot), itr (fun q : Int32 => f_X12_word_s15 N v x1 x2 q) n x3 = some y1 → va_P G vwCl (cX12 cy ad v) H → va_D A (cX12 cy ad v) → va_S A s.heap H locs → lv_has ls 4 [(0, .ref (ad 0)), (1, .int x1), (2, .int x2), (3, .int x3)] → W p l e (rmX 4 85) s m args below meth c H locs 0 0 (MQ below (mQi (res) G cy A (cX12 cy ad v)) args s 0 0 A) (F0 m 15 ls []) := by
        intro x1 x2 n
        induction n with
        | zero => intro x3 H locs ls h; exact (itr_zero h).elim
        | succ n ih2 =>
          intro x3 H locs ls h hP hD hS hl
          obtain ⟨y2, h, hy2⟩ := itr_inv h
          have h : f_X12_word_s15 N v x1 x2 x3 = some y2 := h
          delta f_X12_word_s15 at h
          refine va_ldcS hx hb hown (hE.2.2.1.2 3 (by decide)) dX12_word_15 ?_
          refine lv_iload_n hx hb dX12_word_17 rfl (lv_at hl 2 rfl) ?_
          refine lv_iload_n hx hb dX12_word_18 rfl (lv_at hl 3 rfl) ?_
          refine lv_iadd hx hb dX12_word_19 ?_
          replace h := gin_inv h
          obtain ⟨h9, h⟩ := h
          refine callVi0 (As := [.int (x2 + x3)]) (rest := []) hx hb hml hown hts (k_J0_charAt l G cy ev (cX12 cy ad v) 3 (by decide) (x2 + x3) h9) wm_21_10 wm_14_3 wm_14_4 wm_13_17 wm_14_5 hd_J0_charAt_5068e ⟨by decide, by decide⟩ hK hP hD hS hA hE (vk_recv (i := 3) (adK := fun i => ev (10 + i)) hE.2.2.1.1 (by decide) hS) rfl rfl hl.1 (Nat.le_of_ble_eq_true rfl) dX12_word_20 (fun H locs hP hD hS => ?_)
          refine lv_bipush (v := 32) hx hb dX12_word_23 (by decide) ?_
          refine lv_icmp_eq (tgt := 69) hx hb dX12_word_25 (by decide) (fun c9 => ?_) (fun c9 => ?_)
          · replace h := (br h).1 c9
            replace h := itr_exit h hy2
            exact B69 x1 x2 x3 _ _ _ h hP hD hS (lv_sub hl [0, 1, 2, 3] rfl)
          · replace h := (br h).2 c9
            refine lv_aload_n hx hb dX12_word_28 rfl (lv_at hl 0 rfl) ?_
            refine gf_X12_20 (x := v.1 20) hx hb hts hown hK hP rfl dX12_word_29 ?_
            refine lv_iload_n hx hb dX12_word_32 rfl (lv_at hl 3 rfl) ?_
            refine lv_iadd hx hb dX12_word_33 ?_
            refine lv_aload_n hx hb dX12_word_34 rfl (lv_at hl 0 rfl) ?_
            refine gf_X12_19 (x := v.1 19) hx hb hts hown hK hP rfl dX12_word_35 ?_
            refine lv_icmp_ge (tgt := 69) hx hb dX12_word_38 (by decide) (fun c9 => ?_) (fun c9 => ?_)
            · replace h := (br h).1 c9
              replace h := itr_exit h hy2
              exact B69 x1 x2 x3 _ _ _ h hP hD hS (lv_sub hl [0, 1, 2, 3] rfl)
            · replace h := (br h).2 c9
              refine lv_aload_n hx hb dX12_word_41 rfl (lv_at hl 0 rfl) ?_
              refine gf_X12_1 hx hb hts hown hK hP dX12_word_42 ?_
              refine lv_aload_n hx hb dX12_word_45 rfl (lv_at hl 0 rfl) ?_
              refine gf_X12_20 (x := v.1 20) hx hb hts hown hK hP rfl dX12_word_46 ?_
              refine lv_iload_n hx hb dX12_word_49 rfl (lv_at hl 3 rfl) ?_
              refine lv_iadd hx hb dX12_word_50 ?_
              replace h := gin_inv h
              obtain ⟨h9, h⟩ := h
              refine ld_X12_1 (f := v.2.1 1) (j := ((v.1 20) + x3).toNatClampNeg) hx hb hK hP rfl h9 rfl dX12_word_51 ?_
              refine va_ldcS hx hb hown (hE.2.2.1.2 3 (by decide)) dX12_word_52 ?_
              refine lv_iload_n hx hb dX12_word_54 rfl (lv_at hl 2 rfl) ?_
              refine lv_iload_n hx hb dX12_word_55 rfl (lv_at hl 3 rfl) ?_
              refine lv_iadd hx hb dX12_word_56 ?_
              replace h := gin_inv h
              obtain ⟨h9, h⟩ := h
              refine callVi0 (As := [.int (x2 + x3)]) (rest := [.int (v.2.1 1 (((v.1 20) + x3).toNatClampNeg))]) hx hb hml hown hts (k_J0_charAt l G cy ev (cX12 cy ad v) 3 (by decide) (x2 + x3) h9) wm_21_10 wm_14_3 wm_14_4 wm_13_17 wm_14_5 hd_J0_charAt_5068e ⟨by decide, by decide⟩ hK hP hD hS hA hE (vk_recv (i := 3) (adK := fun i => ev (10 + i)) hE.2.2.1.1 (by decide) hS) rfl rfl hl.1 (Nat.le_of_ble_eq_true rfl) dX12_word_57 (fun H locs hP hD hS => ?_)
              refine lv_icmp_ne (tgt := 69) hx hb dX12_word_60 (by decide) (fun c9 => ?_) (fun c9 => ?_)
              · replace h := (br h).2 c9
                replace h := itr_exit h hy2
                exact B69 x1 x2 x3 _ _ _ h hP hD hS (lv_sub hl [0, 1, 2, 3] rfl)
              · replace h := (br h).1 c9
                refine lv_iinc (v := x3 + 1) (lv' := [(3, .int (x3 + 1)), (0, .ref (ad 0)), (1, .int x1), (2, .int x2)]) hx hb dX12_word_63 hl (k := 3) rfl rfl (by decide) rfl (fun ls hl => ?_)
                refine lv_goto (tgt := 15) hx hb dX12_word_66 (by decide) ?_
                replace h := itr_back h hy2
                exact ih2 (x3 + 1) _ _ _ h hP hD hS (lv_sub hl [1, 2, 3, 0] rfl)
      delta f_X12_word_s4 at h
      refine lv_iload_n hx hb dX12_word_4 rfl (lv_at hl 2 rfl) ?_
      refine va_ldcS hx hb hown (hE.2.2.1.2 3 (by decide)) dX12_word_5 ?_
      refine callVi0 (r := 115) (As := []) (rest := [.int x2]) hx hb hml hown hts (k_J0_length l G cy ev (cX12 cy ad v) 3 (by decide)) wm_21_9 wm_13_15 wm_13_16 wm_13_17 wm_13_18 hd_J0_length_8abf5 ⟨by decide, by decide⟩ hK hP hD hS hA hE (vk_recv (i := 3) (adK := fun i => ev (10 + i)) hE.2.2.1.1 (by decide) hS) rfl rfl hl.1 (Nat.le_of_ble_eq_true rfl) dX12_word_7 (fun H locs hP hD hS => ?_)
      refine lv_icmp_ge (tgt := 123) hx hb dX12_word_10 (by decide) (fun c9 => ?_) (fun c9 => ?_)
      · replace h := (br h).1 c9
        replace h := itr_exit h hy1
        refine lv_iconst (v := (-1)) hx hb dX12_word_123 (by decide) ?_
        exact retI (fr := fun q => q) (fw := fun _ => cX12 cy ad v) h hx hb hr hlocks hK hP hD hS dX12_word_124
      · replace h := (br h).2 c9
        refine lv_iconst (v := 0) hx hb dX12_word_13 (by decide) ?_
        refine lv_istore_n (lv' := [(3, .int 0), (0, .ref (ad 0)), (1, .int x1), (2, .int x2)]) hx hb dX12_word_14 rfl hl (by decide) rfl (fun ls hl => ?_)
        exact L15 x1 x2 N 0 _ _ _ h hP hD hS (lv_sub hl [1, 2, 3, 0] rfl)
  delta f_X12_word at h
  refine lv_iconst (v := 0) hx hb dX12_word_0 (by decide) ?_
  refine lv_istore_n (lv' := [(1, .int 0), (0, .ref (ad 0))]) hx hb dX12_word_1 rfl hl (by decide) rfl (fun ls hl => ?_)
  refine lv_iconst (v := 0) hx hb dX12_word_2 (by decide) ?_
  refine lv_istore_n (lv' := [(2, .int 0), (1, .int 0), (0, .ref (ad 0))]) hx hb dX12_word_3 rfl hl (by decide) rfl (fun ls hl => ?_)
  exact L4  N 0 0 _ _ _ h hP hD hS (lv_sub hl [2, 1, 0] rfl)
theorem hd_X12_token : yX12_token.cls = RX12 ∧ yX12_token.cls ≠ "java/lang/invoke/MethodHandle" ∧ yX12_token.cls ≠ "java/lang/invoke/VarHandle" ∧ (parseMethodDescriptor yX12_token.desc).map (fun d => d.parameters.length) = some 0 := ⟨rfl, by decide +kernel, by decide +kernel, by decide +kernel⟩
def f_X12_token_b204 (N : Nat) (v : VV) (z0 : Int32) : Option (((VV) ⊕ (VV))) :=
  some (.inl (si (si v 22 z0) 19 ((v.1 19) + 1)))
def f_X12_token_s162 (N : Nat) (v : VV)  : Option (((VV) ⊕ (VV))) :=
  bnd (f_X12_here v) (fun q16201 => bnd (f_X12_isDigit q16201) (fun q16203 => if q16203 = 0 then inrO (some v) else if v.1 22 ≤ 99999 then bnd (f_X12_here v) (fun q16205 => f_X12_token_b204 N v (((10 * (v.1 22)) + q16205) - 48)) else f_X12_token_b204 N v (v.1 22)))
def f_X12_token_b127 (N : Nat) (v : VV) (z0 : Int32) : Option (VV) :=
  if z0 = 1 then bnd (f_X12_name N (si v 21 z0)) (fun q12701 => some q12701) else some (si v 21 z0)
def f_X12_token_s64 (N : Nat) (v : VV)  : Option (((VV) ⊕ (VV))) :=
  bnd (f_X12_here v) (fun q6401 => bnd (f_X12_isSmall q6401) (fun q6403 => if q6403 = 0 then inrO (bnd (f_X12_word N v) (fun q6405 => if q6405 = (-1) then if (v.1 19) - (v.1 20) ≤ 6 then f_X12_token_b127 N (si v 22 q6405) 1 else f_X12_token_b127 N (si v 22 q6405) 5 else f_X12_token_b127 N (si v 22 q6405) 0)) else some (.inl (si v 19 ((v.1 19) + 1)))))
def f_X12_token_b18 (N : Nat) (v : VV)  : Option (((VV) ⊕ (VV))) :=
  some (.inl (si v 19 ((v.1 19) + 1)))
def f_X12_token_s0 (N : Nat) (v : VV)  : Option (((VV) ⊕ (VV))) :=
  bnd (f_X12_here v) (fun q1 => if q1 = 10 then f_X12_token_b18 N v else bnd (f_X12_here v) (fun q3 => if q3 = 32 then f_X12_token_b18 N v else inrO (bnd (f_X12_here (si v 20 (v.1 19))) (fun q5 => if q5 = (-1) then some (si (si v 20 (v.1 19)) 21 4) else bnd (f_X12_isSmall q5) (fun q7 => if q7 = 0 then bnd (f_X12_isDigit q5) (fun q9 => if q9 = 0 then bnd (f_X12_sign (si v 20 (v.1 19)) q5) (fun q11 => some q11) else itr (fun q : VV => f_X12_token_s162 N q) N (si (si (si v 20 (v.1 19)) 21 2) 22 0)) else itr (fun q : VV => f_X12_token_s64 N q) N (si v 20 (v.1 19)))))))
def f_X12_token (N : Nat) (v : VV) : Option (VV) :=
  itr (fun q : VV => f_X12_token_s0 N q) N v
set_option maxHeartbeats 4000000 in
set_option maxRecDepth 100000 in
theorem k_X12_token (l : Launch) (G : va_G) (cy : Nat → ClassId) (ev : Nat → Nat) (N : Nat) (ad : Nat → Nat) (v : VV)  (res : VV) (h : f_X12_token N v = some res) : MetV l yX12_token cX12_token 2 none 5 108 G cy ev [.ref (ad 0)] (cX12 cy ad v) (cX12 cy ad res) := by
  refine MetQ.start (by decide +kernel) (Nat.le_of_ble_eq_true rfl) (fun p e s m args below meth c A ls hx hb hr hml hown hts hlocks hK hP hD hA hl hE => ?_)
  have hS : va_S A s.heap s.heap [] := va_S.rf
  have hown : s.vm.findClass RX12 = some m.cls := hown
  have hl : lv_has ls 2 [(0, .ref (ad 0))] := hl
  have L162 : ∀ (n : Nat) (v : VV) (H : Heap) (locs : List Loc) (ls : Array Slot), itr (fun q : VV => f_X12_token_s162 N q) n v = some res → va_P G vwCl (cX12 cy ad v) H → va_D A (cX12 cy ad v) → va_S A s.heap H locs → lv_has ls 2 [(0, .ref (ad 0))] → W p l e (rmX 5 108) s m args below meth c H locs 0 0 (MQ below (mQv G cy A (cX12 cy ad res)) args s 0 0 A) (F0 m 162 ls []) := by
    intro n
    induction n with
    | zero => intro v H locs ls h; exact (itr_zero h).elim
    | succ n ih1 =>
      intro v H locs ls h hP hD hS hl
      obtain ⟨y1, h, hy1⟩ := itr_inv h
      have h : f_X12_token_s162 N v = some y1 := h
      have B204 : ∀ (z0 : Int32) (v : VV) (H : Heap) (locs : List Loc) (ls : Array Slot), f_X12_token_b204 N v z0 = some y1 → va_P G vwCl (cX12 cy ad v) H → va_D A (cX12 cy ad v) → va_S A s.heap H locs → lv_has ls 2 [(0, .ref (ad 0))] → W p l e (rmX 5 108) s m args below meth c H locs 0 0 (MQ below (mQv G cy A (cX12 cy ad res)) args s 0 0 A) (F0 m 204 ls [.int z0, .ref (ad 0)]) := by
        intro z0 v H locs ls h hP hD hS hl
        delta f_X12_token_b204 at h
        refine pf_X12_22 hx hb hts hown hK hP hD hS dX12_token_204 (fun H locs hP hD hS => ?_)
        refine lv_aload_n hx hb dX12_token_207 rfl (lv_at hl 0 rfl) ?_
        refine lv_dup hx hb dX12_token_208 rfl ?_
        refine gf_X12_19 (x := v.1 19) hx hb hts hown hK hP rfl dX12_token_209 ?_
        refine lv_iconst (v := 1) hx hb dX12_token_212 (by decide) ?_
        refine lv_iadd hx hb dX12_token_213 ?_
        refine pf_X12_19 hx hb hts hown hK hP hD hS dX12_token_214 (fun H locs hP hD hS => ?_)
        refine lv_goto (tgt := 162) hx hb dX12_token_217 (by decide) ?_
        replace h := itr_back h hy1
        exact ih1 (si (si v 22 z0) 19 ((v.1 19) + 1)) _ _ _ h hP hD hS (lv_sub hl [0] rfl)
      delta f_X12_token_s162 at h
      refine lv_aload_n hx hb dX12_token_162 rfl (lv_at hl 0 rfl) ?_
      replace h := bd h
      obtain ⟨q16201, h16202, h⟩ := h
      refine callVi0 (As := []) (rest := []) hx hb hml hown hts (k_X12_here l G cy ev ad v q16201 h16202) wm_20_22 wm_20_23 wm_21_0 wm_1_5 wm_21_1 hd_X12_here ⟨by decide, by decide⟩ hK hP hD hS hA hE (va_recv hK hP (ci := 12) (q0 := 0) rfl rfl) rfl rfl hl.1 (Nat.le_of_ble_eq_true rfl) dX12_token_163 (fun H locs hP hD hS => ?_)
      replace h := bd h
      obtain ⟨q16203, h16204, h⟩ := h
      refine callSi0 (As := [.int q16201]) (rest := []) hx hb hml hown hts (k_X12_isDigit l G cy ev (cX12 cy ad v) q16201 q16203 h16204) wm_21_15 wm_21_16 wm_1_5 wm_21_17 hd_X12_isDigit ⟨by decide, by decide⟩ hK hP hD hS hA hE rfl rfl hl.1 (Nat.le_of_ble_eq_true rfl) dX12_token_166 (fun H locs hP hD hS => ?_)
      refine lv_if_eq (tgt := 225) hx hb dX12_token_169 (by decide) (fun c9 => ?_) (fun c9 => ?_)
      · replace h := (br h).1 c9
        replace h := itr_exit h hy1
        exact retV (fw := fun q => cX12 cy ad q) h hx hb hr hlocks hK hP hD hS dX12_token_225
      · replace h := (br h).2 c9
        refine lv_aload_n hx hb dX12_token_172 rfl (lv_at hl 0 rfl) ?_
        refine lv_aload_n hx hb dX12_token_173 rfl (lv_at hl 0 rfl) ?_
        refine gf_X12_22 (x := v.1 22) hx hb hts hown hK hP rfl dX12_token_174 ?_
        refine lv_ldc (v := (99999)) hx hb hown (hts _ wm_20_21) dX12_token_177 ?_
        refine lv_icmp_le (tgt := 189) hx hb dX12_token_179 (by decide) (fun c9 => ?_) (fun c9 => ?_)
        · replace h := (br h).1 c9
          refine lv_bipush (v := 10) hx hb dX12_token_189 (by decide) ?_
          refine lv_aload_n hx hb dX12_token_191 rfl (lv_at hl 0 rfl) ?_
          refine gf_X12_22 (x := v.1 22) hx hb hts hown hK hP rfl dX12_token_192 ?_
          refine lv_imul hx hb dX12_token_195 ?_
          refine lv_aload_n hx hb dX12_token_196 rfl (lv_at hl 0 rfl) ?_
          replace h := bd h
          obtain ⟨q16205, h16206, h⟩ := h
          refine callVi0 (As := []) (rest := [.int (10 * (v.1 22)), .ref (ad 0)]) hx hb hml hown hts (k_X12_here l G cy ev ad v q16205 h16206) wm_20_22 wm_20_23 wm_21_0 wm_1_5 wm_21_1 hd_X12_here ⟨by decide, by decide⟩ hK hP hD hS hA hE (va_recv hK hP (ci := 12) (q0 := 0) rfl rfl) rfl rfl hl.1 (Nat.le_of_ble_eq_true rfl) dX12_token_197 (fun H locs hP hD hS => ?_)
          refine lv_iadd hx hb dX12_token_200 ?_
          refine lv_bipush (v := 48) hx hb dX12_token_201 (by decide) ?_
          refine lv_isub hx hb dX12_token_203 ?_
          exact B204 (((10 * (v.1 22)) + q16205) - 48) v _ _ _ h hP hD hS (lv_sub hl [0] rfl)
        · replace h := (br h).2 c9
          refine lv_aload_n hx hb dX12_token_182 rfl (lv_at hl 0 rfl) ?_
          refine gf_X12_22 (x := v.1 22) hx hb hts hown hK hP rfl dX12_token_183 ?_
          refine lv_goto (tgt := 204) hx hb dX12_token_186 (by decide) ?_
          exact B204 (v.1 22) v _ _ _ h hP hD hS (lv_sub hl [0] rfl)
  have B127 : ∀ (z0 : Int32) (v : VV) (H : Heap) (locs : List Loc) (ls : Array Slot), f_X12_token_b127 N v z0 = some res → va_P G vwCl (cX12 cy ad v) H → va_D A (cX12 cy ad v) → va_S A s.heap H locs → lv_has ls 2 [(0, .ref (ad 0))] → W p l e (rmX 5 108) s m args below meth c H locs 0 0 (MQ below (mQv G cy A (cX12 cy ad res)) args s 0 0 A) (F0 m 127 ls [.int z0, .ref (ad 0)]) := by
    intro z0 v H locs ls h hP hD hS hl
    delta f_X12_token_b127 at h
    refine pf_X12_21 hx hb hts hown hK hP hD hS dX12_token_127 (fun H locs hP hD hS => ?_)
    refine lv_aload_n hx hb dX12_token_130 rfl (lv_at hl 0 rfl) ?_
    refine gf_X12_21 (x := z0) hx hb hts hown hK hP rfl dX12_token_131 ?_
    refine lv_iconst (v := 1) hx hb dX12_token_134 (by decide) ?_
    refine lv_icmp_ne (tgt := 225) hx hb dX12_token_135 (by decide) (fun c9 => ?_) (fun c9 => ?_)
    · replace h := (br h).2 c9
      exact retV (fw := fun q => cX12 cy ad q) h hx hb hr hlocks hK hP hD hS dX12_token_225
    · replace h := (br h).1 c9
      refine lv_aload_n hx hb dX12_token_138 rfl (lv_at hl 0 rfl) ?_
      replace h := bd h
      obtain ⟨q12701, h12702, h⟩ := h
      refine callVv0 (As := []) (rest := []) hx hb hml hown hts (k_X12_name l G cy ev N ad (si v 21 z0) q12701 h12702) wm_21_11 wm_21_12 wm_21_13 wm_1_5 wm_21_14 hd_X12_name ⟨by decide, by decide⟩ hK hP hD hS hA hE (va_recv hK hP (ci := 12) (q0 := 0) rfl rfl) rfl rfl hl.1 (Nat.le_of_ble_eq_true rfl) dX12_token_139 (fun H locs hP hD hS => ?_)
      refine lv_goto (tgt := 225) hx hb dX12_token_142 (by decide) ?_
      exact retV (fw := fun q => cX12 cy ad q) h hx hb hr hlocks hK hP hD hS dX12_token_225
  have L64 : ∀ (n : Nat) (v : VV) (H : Heap) (locs : List Loc) (ls : Array Slot), itr (fun q : VV => f_X12_token_s64 N q) n v = some res → va_P G vwCl (cX12 cy ad v) H → va_D A (cX12 cy ad v) → va_S A s.heap H locs → lv_has ls 2 [(0, .ref (ad 0))] → W p l e (rmX 5 108) s m args below meth c H locs 0 0 (MQ below (mQv G cy A (cX12 cy ad res)) args s 0 0 A) (F0 m 64 ls []) := by
    intro n
    induction n with
    | zero => intro v H locs ls h; exact (itr_zero h).elim
    | succ n ih1 =>
      intro v H locs ls h hP hD hS hl
      obtain ⟨y1, h, hy1⟩ := itr_inv h
      have h : f_X12_token_s64 N v = some y1 := h
      delta f_X12_token_s64 at h
      refine lv_aload_n hx hb dX12_token_64 rfl (lv_at hl 0 rfl) ?_
      replace h := bd h
      obtain ⟨q6401, h6402, h⟩ := h
      refine callVi0 (As := []) (rest := []) hx hb hml hown hts (k_X12_here l G cy ev ad v q6401 h6402) wm_20_22 wm_20_23 wm_21_0 wm_1_5 wm_21_1 hd_X12_here ⟨by decide, by decide⟩ hK hP hD hS hA hE (va_recv hK hP (ci := 12) (q0 := 0) rfl rfl) rfl rfl hl.1 (Nat.le_of_ble_eq_true rfl) dX12_token_65 (fun H locs hP hD hS => ?_)
      replace h := bd h
      obtain ⟨q6403, h6404, h⟩ := h
      refine callSi0 (As := [.int q6401]) (rest := []) hx hb hml hown hts (k_X12_isSmall l G cy ev (cX12 cy ad v) q6401 q6403 h6404) wm_21_2 wm_21_3 wm_1_5 wm_21_4 hd_X12_isSmall ⟨by decide, by decide⟩ hK hP hD hS hA hE rfl rfl hl.1 (Nat.le_of_ble_eq_true rfl) dX12_token_68 (fun H locs hP hD hS => ?_)
      refine lv_if_eq (tgt := 87) hx hb dX12_token_71 (by decide) (fun c9 => ?_) (fun c9 => ?_)
      · replace h := (br h).1 c9
        replace h := itr_exit h hy1
        refine lv_aload_n hx hb dX12_token_87 rfl (lv_at hl 0 rfl) ?_
        refine lv_aload_n hx hb dX12_token_88 rfl (lv_at hl 0 rfl) ?_
        replace h := bd h
        obtain ⟨q6405, h6406, h⟩ := h
        refine callVi0 (As := []) (rest := [.ref (ad 0)]) hx hb hml hown hts (k_X12_word l G cy ev N ad v q6405 h6406) wm_21_5 wm_21_6 wm_21_7 wm_1_5 wm_21_8 hd_X12_word ⟨by decide, by decide⟩ hK hP hD hS hA hE (va_recv hK hP (ci := 12) (q0 := 0) rfl rfl) rfl rfl hl.1 (Nat.le_of_ble_eq_true rfl) dX12_token_89 (fun H locs hP hD hS => ?_)
        refine pf_X12_22 hx hb hts hown hK hP hD hS dX12_token_92 (fun H locs hP hD hS => ?_)
        refine lv_aload_n hx hb dX12_token_95 rfl (lv_at hl 0 rfl) ?_
        refine lv_aload_n hx hb dX12_token_96 rfl (lv_at hl 0 rfl) ?_
        refine gf_X12_22 (x := q6405) hx hb hts hown hK hP rfl dX12_token_97 ?_
        refine lv_iconst (v := (-1)) hx hb dX12_token_100 (by decide) ?_
        refine lv_icmp_eq (tgt := 108) hx hb dX12_token_101 (by decide) (fun c9 => ?_) (fun c9 => ?_)
        · replace h := (br h).1 c9
          refine lv_aload_n hx hb dX12_token_108 rfl (lv_at hl 0 rfl) ?_
          refine gf_X12_19 (x := v.1 19) hx hb hts hown hK hP rfl dX12_token_109 ?_
          refine lv_aload_n hx hb dX12_token_112 rfl (lv_at hl 0 rfl) ?_
          refine gf_X12_20 (x := v.1 20) hx hb hts hown hK hP rfl dX12_token_113 ?_
          refine lv_isub hx hb dX12_token_116 ?_
          refine lv_bipush (v := 6) hx hb dX12_token_117 (by decide) ?_
          refine lv_icmp_le (tgt := 126) hx hb dX12_token_119 (by decide) (fun c9 => ?_) (fun c9 => ?_)
          · replace h := (br h).1 c9
            refine lv_iconst (v := 1) hx hb dX12_token_126 (by decide) ?_
            exact B127 1 (si v 22 q6405) _ _ _ h hP hD hS (lv_sub hl [0] rfl)
          · replace h := (br h).2 c9
            refine lv_iconst (v := 5) hx hb dX12_token_122 (by decide) ?_
            refine lv_goto (tgt := 127) hx hb dX12_token_123 (by decide) ?_
            exact B127 5 (si v 22 q6405) _ _ _ h hP hD hS (lv_sub hl [0] rfl)
        · replace h := (br h).2 c9
          refine lv_iconst (v := 0) hx hb dX12_token_104 (by decide) ?_
          refine lv_goto (tgt := 127) hx hb dX12_token_105 (by decide) ?_
          exact B127 0 (si v 22 q6405) _ _ _ h hP hD hS (lv_sub hl [0] rfl)
      · replace h := (br h).2 c9
        refine lv_aload_n hx hb dX12_token_74 rfl (lv_at hl 0 rfl) ?_
        refine lv_dup hx hb dX12_token_75 rfl ?_
        refine gf_X12_19 (x := v.1 19) hx hb hts hown hK hP rfl dX12_token_76 ?_
        refine lv_iconst (v := 1) hx hb dX12_token_79 (by decide) ?_
        refine lv_iadd hx hb dX12_token_80 ?_
        refine pf_X12_19 hx hb hts hown hK hP hD hS dX12_token_81 (fun H locs hP hD hS => ?_)
        refine lv_goto (tgt := 64) hx hb dX12_token_84 (by decide) ?_
        replace h := itr_back h hy1
        exact ih1 (si v 19 ((v.1 19) + 1)) _ _ _ h hP hD hS (lv_sub hl [0] rfl)
  have L0 : ∀ (n : Nat) (v : VV) (H : Heap) (locs : List Loc) (ls : Array Slot), itr (fun q : VV => f_X12_token_s0 N q) n v = some res → va_P G vwCl (cX12 cy ad v) H → va_D A (cX12 cy ad v) → va_S A s.heap H locs → lv_has ls 2 [(0, .ref (ad 0))] → W p l e (rmX 5 108) s m args below meth c H locs 0 0 (MQ below (mQv G cy A (cX12 cy ad res)) args s 0 0 A) (F0 m 0 ls []) := by
    intro n
    induction n with
    | zero => intro v H locs ls h; exact (itr_zero h).elim
    | succ n ih1 =>
      intro v H locs ls h hP hD hS hl
      obtain ⟨y1, h, hy1⟩ := itr_inv h
      have h : f_X12_token_s0 N v = some y1 := h
      have B18 : ∀ (v : VV) (H : Heap) (locs : List Loc) (ls : Array Slot), f_X12_token_b18 N v = some y1 → va_P G vwCl (cX12 cy ad v) H → va_D A (cX12 cy ad v) → va_S A s.heap H locs → lv_has ls 2 [(0, .ref (ad 0))] → W p l e (rmX 5 108) s m args below meth c H locs 0 0 (MQ below (mQv G cy A (cX12 cy ad res)) args s 0 0 A) (F0 m 18 ls []) := by
        intro v H locs ls h hP hD hS hl
        delta f_X12_token_b18 at h
        refine lv_aload_n hx hb dX12_token_18 rfl (lv_at hl 0 rfl) ?_
        refine lv_dup hx hb dX12_token_19 rfl ?_
        refine gf_X12_19 (x := v.1 19) hx hb hts hown hK hP rfl dX12_token_20 ?_
        refine lv_iconst (v := 1) hx hb dX12_token_23 (by decide) ?_
        refine lv_iadd hx hb dX12_token_24 ?_
        refine pf_X12_19 hx hb hts hown hK hP hD hS dX12_token_25 (fun H locs hP hD hS => ?_)
        refine lv_goto (tgt := 0) hx hb dX12_token_28 (by decide) ?_
        replace h := itr_back h hy1
        exact ih1 (si v 19 ((v.1 19) + 1)) _ _ _ h hP hD hS (lv_sub hl [0] rfl)
      delta f_X12_token_s0 at h
      refine lv_aload_n hx hb dX12_token_0 rfl (lv_at hl 0 rfl) ?_
      replace h := bd h
      obtain ⟨q1, h2, h⟩ := h
      refine callVi0 (As := []) (rest := []) hx hb hml hown hts (k_X12_here l G cy ev ad v q1 h2) wm_20_22 wm_20_23 wm_21_0 wm_1_5 wm_21_1 hd_X12_here ⟨by decide, by decide⟩ hK hP hD hS hA hE (va_recv hK hP (ci := 12) (q0 := 0) rfl rfl) rfl rfl hl.1 (Nat.le_of_ble_eq_true rfl) dX12_token_1 (fun H locs hP hD hS => ?_)
      refine lv_bipush (v := 10) hx hb dX12_token_4 (by decide) ?_
      refine lv_icmp_eq (tgt := 18) hx hb dX12_token_6 (by decide) (fun c9 => ?_) (fun c9 => ?_)
      · replace h := (br h).1 c9
        exact B18 v _ _ _ h hP hD hS (lv_sub hl [0] rfl)
      · replace h := (br h).2 c9
        refine lv_aload_n hx hb dX12_token_9 rfl (lv_at hl 0 rfl) ?_
        replace h := bd h
        obtain ⟨q3, h4, h⟩ := h
        refine callVi0 (As := []) (rest := []) hx hb hml hown hts (k_X12_here l G cy ev ad v q3 h4) wm_20_22 wm_20_23 wm_21_0 wm_1_5 wm_21_1 hd_X12_here ⟨by decide, by decide⟩ hK hP hD hS hA hE (va_recv hK hP (ci := 12) (q0 := 0) rfl rfl) rfl rfl hl.1 (Nat.le_of_ble_eq_true rfl) dX12_token_10 (fun H locs hP hD hS => ?_)
        refine lv_bipush (v := 32) hx hb dX12_token_13 (by decide) ?_
        refine lv_icmp_ne (tgt := 31) hx hb dX12_token_15 (by decide) (fun c9 => ?_) (fun c9 => ?_)
        · replace h := (br h).2 c9
          replace h := itr_exit h hy1
          refine lv_aload_n hx hb dX12_token_31 rfl (lv_at hl 0 rfl) ?_
          refine lv_aload_n hx hb dX12_token_32 rfl (lv_at hl 0 rfl) ?_
          refine gf_X12_19 (x := v.1 19) hx hb hts hown hK hP rfl dX12_token_33 ?_
          refine pf_X12_20 hx hb hts hown hK hP hD hS dX12_token_36 (fun H locs hP hD hS => ?_)
          refine lv_aload_n hx hb dX12_token_39 rfl (lv_at hl 0 rfl) ?_
          replace h := bd h
          obtain ⟨q5, h6, h⟩ := h
          refine callVi0 (As := []) (rest := []) hx hb hml hown hts (k_X12_here l G cy ev ad (si v 20 (v.1 19)) q5 h6) wm_20_22 wm_20_23 wm_21_0 wm_1_5 wm_21_1 hd_X12_here ⟨by decide, by decide⟩ hK hP hD hS hA hE (va_recv hK hP (ci := 12) (q0 := 0) rfl rfl) rfl rfl hl.1 (Nat.le_of_ble_eq_true rfl) dX12_token_40 (fun H locs hP hD hS => ?_)
          refine lv_istore_n (lv' := [(1, .int q5), (0, .ref (ad 0))]) hx hb dX12_token_43 rfl hl (by decide) rfl (fun ls hl => ?_)
          refine lv_iload_n hx hb dX12_token_44 rfl (lv_at hl 0 rfl) ?_
          refine lv_iconst (v := (-1)) hx hb dX12_token_45 (by decide) ?_
          refine lv_icmp_ne (tgt := 57) hx hb dX12_token_46 (by decide) (fun c9 => ?_) (fun c9 => ?_)
          · replace h := (br h).2 c9
            refine lv_iload_n hx hb dX12_token_57 rfl (lv_at hl 0 rfl) ?_
            replace h := bd h
            obtain ⟨q7, h8, h⟩ := h
            refine callSi0 (As := [.int q5]) (rest := []) hx hb hml hown hts (k_X12_isSmall l G cy ev (cX12 cy ad (si v 20 (v.1 19))) q5 q7 h8) wm_21_2 wm_21_3 wm_1_5 wm_21_4 hd_X12_isSmall ⟨by decide, by decide⟩ hK hP hD hS hA hE rfl rfl hl.1 (Nat.le_of_ble_eq_true rfl) dX12_token_58 (fun H locs hP hD hS => ?_)
            refine lv_if_eq (tgt := 145) hx hb dX12_token_61 (by decide) (fun c9 => ?_) (fun c9 => ?_)
            · replace h := (br h).1 c9
              refine lv_iload_n hx hb dX12_token_145 rfl (lv_at hl 0 rfl) ?_
              replace h := bd h
              obtain ⟨q9, h10, h⟩ := h
              refine callSi0 (As := [.int q5]) (rest := []) hx hb hml hown hts (k_X12_isDigit l G cy ev (cX12 cy ad (si v 20 (v.1 19))) q5 q9 h10) wm_21_15 wm_21_16 wm_1_5 wm_21_17 hd_X12_isDigit ⟨by decide, by decide⟩ hK hP hD hS hA hE rfl rfl hl.1 (Nat.le_of_ble_eq_true rfl) dX12_token_146 (fun H locs hP hD hS => ?_)
              refine lv_if_eq (tgt := 220) hx hb dX12_token_149 (by decide) (fun c9 => ?_) (fun c9 => ?_)
              · replace h := (br h).1 c9
                refine lv_aload_n hx hb dX12_token_220 rfl (lv_at hl 1 rfl) ?_
                refine lv_iload_n hx hb dX12_token_221 rfl (lv_at hl 0 rfl) ?_
                replace h := bd h
                obtain ⟨q11, h12, h⟩ := h
                refine callVv0 (As := [.int q5]) (rest := []) hx hb hml hown hts (k_X12_sign l G cy ev ad (si v 20 (v.1 19)) q5 q11 h12) wm_21_18 wm_21_19 wm_21_20 wm_1_5 wm_21_21 hd_X12_sign ⟨by decide, by decide⟩ hK hP hD hS hA hE (va_recv hK hP (ci := 12) (q0 := 0) rfl rfl) rfl rfl hl.1 (Nat.le_of_ble_eq_true rfl) dX12_token_222 (fun H locs hP hD hS => ?_)
                exact retV (fw := fun q => cX12 cy ad q) h hx hb hr hlocks hK hP hD hS dX12_token_225
              · replace h := (br h).2 c9
                refine lv_aload_n hx hb dX12_token_152 rfl (lv_at hl 1 rfl) ?_
                refine lv_iconst (v := 2) hx hb dX12_token_153 (by decide) ?_
                refine pf_X12_21 hx hb hts hown hK hP hD hS dX12_token_154 (fun H locs hP hD hS => ?_)
                refine lv_aload_n hx hb dX12_token_157 rfl (lv_at hl 1 rfl) ?_
                refine lv_iconst (v := 0) hx hb dX12_token_158 (by decide) ?_
                refine pf_X12_22 hx hb hts hown hK hP hD hS dX12_token_159 (fun H locs hP hD hS => ?_)
                exact L162  N (si (si (si v 20 (v.1 19)) 21 2) 22 0) _ _ _ h hP hD hS (lv_sub hl [1] rfl)
            · replace h := (br h).2 c9
              exact L64  N (si v 20 (v.1 19)) _ _ _ h hP hD hS (lv_sub hl [1] rfl)
          · replace h := (br h).1 c9
            refine lv_aload_n hx hb dX12_token_49 rfl (lv_at hl 1 rfl) ?_
            refine lv_iconst (v := 4) hx hb dX12_token_50 (by decide) ?_
            refine pf_X12_21 hx hb hts hown hK hP hD hS dX12_token_51 (fun H locs hP hD hS => ?_)
            refine lv_goto (tgt := 225) hx hb dX12_token_54 (by decide) ?_
            exact retV (fw := fun q => cX12 cy ad q) h hx hb hr hlocks hK hP hD hS dX12_token_225
        · replace h := (br h).1 c9
          exact B18 v _ _ _ h hP hD hS (lv_sub hl [0] rfl)
  delta f_X12_token at h
  exact L0  N v _ _ _ h hP hD hS (lv_sub hl [0] rfl)
theorem hd_X12_goOn : yX12_goOn.cls = RX12 ∧ yX12_goOn.cls ≠ "java/lang/invoke/MethodHandle" ∧ yX12_goOn.cls ≠ "java/lang/invoke/VarHandle" ∧ (parseMethodDescriptor yX12_goOn.desc).map (fun d => d.parameters.length) = some 0 := ⟨rfl, by decide +kernel, by decide +kernel, by decide +kernel⟩
def f_X12_goOn (N : Nat) (v : VV) : Option (VV) :=
  if v.1 23 = 0 then bnd (f_X12_token N v) (fun q1 => some q1) else some v
set_option maxHeartbeats 4000000 in
set_option maxRecDepth 100000 in
theorem k_X12_goOn (l : Launch) (G : va_G) (cy : Nat → ClassId) (ev : Nat → Nat) (N : Nat) (ad : Nat → Nat) (v : VV)  (res : VV) (h : f_X12_goOn N v = some res) : MetV l yX12_goOn cX12_goOn 1 none 6 129 G cy ev [.ref (ad 0)] (cX12 cy ad v) (cX12 cy ad res) := by
  refine MetQ.start (by decide +kernel) (Nat.le_of_ble_eq_true rfl) (fun p e s m args below meth c A ls hx hb hr hml hown hts hlocks hK hP hD hA hl hE => ?_)
  have hS : va_S A s.heap s.heap [] := va_S.rf
  have hown : s.vm.findClass RX12 = some m.cls := hown
  have hl : lv_has ls 1 [(0, .ref (ad 0))] := hl
  delta f_X12_goOn at h
  refine lv_aload_n hx hb dX12_goOn_0 rfl (lv_at hl 0 rfl) ?_
  refine gf_X12_23 (x := v.1 23) hx hb hts hown hK hP rfl dX12_goOn_1 ?_
  refine lv_if_ne (tgt := 11) hx hb dX12_goOn_4 (by decide) (fun c9 => ?_) (fun c9 => ?_)
  · replace h := (br h).2 c9
    exact retV (fw := fun q => cX12 cy ad q) h hx hb hr hlocks hK hP hD hS dX12_goOn_11
  · replace h := (br h).1 c9
    refine lv_aload_n hx hb dX12_goOn_7 rfl (lv_at hl 0 rfl) ?_
    replace h := bd h
    obtain ⟨q1, h2, h⟩ := h
    refine callVv0 (As := []) (rest := []) hx hb hml hown hts (k_X12_token l G cy ev N ad v q1 h2) wm_20_15 wm_20_16 wm_20_17 wm_1_5 wm_20_18 hd_X12_token ⟨by decide, by decide⟩ hK hP hD hS hA hE (va_recv hK hP (ci := 12) (q0 := 0) rfl rfl) rfl rfl hl.1 (Nat.le_of_ble_eq_true rfl) dX12_goOn_8 (fun H locs hP hD hS => ?_)
    exact retV (fw := fun q => cX12 cy ad q) h hx hb hr hlocks hK hP hD hS dX12_goOn_11
theorem hd_X12_numeral : yX12_numeral.cls = RX12 ∧ yX12_numeral.cls ≠ "java/lang/invoke/MethodHandle" ∧ yX12_numeral.cls ≠ "java/lang/invoke/VarHandle" ∧ (parseMethodDescriptor yX12_numeral.desc).map (fun d => d.parameters.length) = some 2 := ⟨rfl, by decide +kernel, by decide +kernel, by decide +kernel⟩
def f_X12_numeral_b46 (N : Nat) (v : VV) (x1 : Int32) : Option (Int32 × VV) :=
  if v.1 23 = 0 then bnd (f_X12_token N v) (fun q4601 => some (v.1 22, q4601)) else some (x1, v)
def f_X12_numeral_b41 (N : Nat) (v : VV) (x1 : Int32) : Option (Int32 × VV) :=
  bnd (f_X12_wrong v 2) (fun q4101 => f_X12_numeral_b46 N q4101 x1)
def f_X12_numeral (N : Nat) (v : VV) (a1 : Int32) (a2 : Int32) : Option (Int32 × VV) :=
  if v.1 23 = 0 then if v.1 21 = 2 then if v.1 22 < a1 then f_X12_numeral_b41 N v a1 else if v.1 22 ≤ a2 then f_X12_numeral_b46 N v a1 else f_X12_numeral_b41 N v a1 else bnd (f_X12_wrong v 1) (fun q1 => f_X12_numeral_b46 N q1 a1) else some (a1, v)
set_option maxHeartbeats 4000000 in
set_option maxRecDepth 100000 in
theorem k_X12_numeral (l : Launch) (G : va_G) (cy : Nat → ClassId) (ev : Nat → Nat) (N : Nat) (ad : Nat → Nat) (v : VV) (a1 : Int32) (a2 : Int32) (res : Int32 × VV) (h : f_X12_numeral N v a1 a2 = some res) : MetI l yX12_numeral cX12_numeral 4 (some .int) 6 129 G cy ev [.ref (ad 0), .int a1, .int a2] (cX12 cy ad v) res.1 (cX12 cy ad res.2) := by
  refine MetQ.start (by decide +kernel) (Nat.le_of_ble_eq_true rfl) (fun p e s m args below meth c A ls hx hb hr hml hown hts hlocks hK hP hD hA hl hE => ?_)
  have hS : va_S A s.heap s.heap [] := va_S.rf
  have hown : s.vm.findClass RX12 = some m.cls := hown
  have hl : lv_has ls 4 [(0, .ref (ad 0)), (1, .int a1), (2, .int a2)] := hl
  have B46 : ∀ (x1 : Int32) (v : VV) (H : Heap) (locs : List Loc) (ls : Array Slot), f_X12_numeral_b46 N v x1 = some res → va_P G vwCl (cX12 cy ad v) H → va_D A (cX12 cy ad v) → va_S A s.heap H locs → lv_has ls 4 [(0, .ref (ad 0)), (1, .int x1)] → W p l e (rmX 6 129) s m args below meth c H locs 0 0 (MQ below (mQi (res.1) G cy A (cX12 cy ad res.2)) args s 0 0 A) (F0 m 46 ls []) := by
    intro x1 v H locs ls h hP hD hS hl
    delta f_X12_numeral_b46 at h
    refine lv_aload_n hx hb dX12_numeral_46 rfl (lv_at hl 0 rfl) ?_
    refine gf_X12_23 (x := v.1 23) hx hb hts hown hK hP rfl dX12_numeral_47 ?_
    refine lv_if_eq (tgt := 55) hx hb dX12_numeral_50 (by decide) (fun c9 => ?_) (fun c9 => ?_)
    · replace h := (br h).1 c9
      refine lv_aload_n hx hb dX12_numeral_55 rfl (lv_at hl 0 rfl) ?_
      refine gf_X12_22 (x := v.1 22) hx hb hts hown hK hP rfl dX12_numeral_56 ?_
      refine lv_istore_n (lv' := [(3, .int (v.1 22)), (0, .ref (ad 0)), (1, .int x1)]) hx hb dX12_numeral_59 rfl hl (by decide) rfl (fun ls hl => ?_)
      refine lv_aload_n hx hb dX12_numeral_60 rfl (lv_at hl 1 rfl) ?_
      replace h := bd h
      obtain ⟨q4601, h4602, h⟩ := h
      refine callVv0 (As := []) (rest := []) hx hb hml hown hts (k_X12_token l G cy ev N ad v q4601 h4602) wm_20_15 wm_20_16 wm_20_17 wm_1_5 wm_20_18 hd_X12_token ⟨by decide, by decide⟩ hK hP hD hS hA hE (va_recv hK hP (ci := 12) (q0 := 0) rfl rfl) rfl rfl hl.1 (Nat.le_of_ble_eq_true rfl) dX12_numeral_61 (fun H locs hP hD hS => ?_)
      refine lv_iload_n hx hb dX12_numeral_64 rfl (lv_at hl 0 rfl) ?_
      exact retI (fr := fun q => q.1) (fw := fun q => cX12 cy ad q.2) h hx hb hr hlocks hK hP hD hS dX12_numeral_65
    · replace h := (br h).2 c9
      refine lv_iload_n hx hb dX12_numeral_53 rfl (lv_at hl 1 rfl) ?_
      exact retI (fr := fun q => q.1) (fw := fun q => cX12 cy ad q.2) h hx hb hr hlocks hK hP hD hS dX12_numeral_54
  have B41 : ∀ (x1 : Int32) (v : VV) (H : Heap) (locs : List Loc) (ls : Array Slot), f_X12_numeral_b41 N v x1 = some res → va_P G vwCl (cX12 cy ad v) H → va_D A (cX12 cy ad v) → va_S A s.heap H locs → lv_has ls 4 [(0, .ref (ad 0)), (1, .int x1)] → W p l e (rmX 6 129) s m args below meth c H locs 0 0 (MQ below (mQi (res.1) G cy A (cX12 cy ad res.2)) args s 0 0 A) (F0 m 41 ls []) := by
    intro x1 v H locs ls h hP hD hS hl
    delta f_X12_numeral_b41 at h
    refine lv_aload_n hx hb dX12_numeral_41 rfl (lv_at hl 0 rfl) ?_
    refine lv_iconst (v := 2) hx hb dX12_numeral_42 (by decide) ?_
    replace h := bd h
    obtain ⟨q4101, h4102, h⟩ := h
    refine callVv0 (As := [.int 2]) (rest := []) hx hb hml hown hts (k_X12_wrong l G cy ev ad v 2 q4101 h4102) wm_22_2 wm_22_3 wm_22_4 wm_1_5 wm_22_5 hd_X12_wrong ⟨by decide, by decide⟩ hK hP hD hS hA hE (va_recv hK hP (ci := 12) (q0 := 0) rfl rfl) rfl rfl hl.1 (Nat.le_of_ble_eq_true rfl) dX12_numeral_43 (fun H locs hP hD hS => ?_)
    exact B46 x1 q4101 _ _ _ h hP hD hS (lv_sub hl [0, 1] rfl)
  delta f_X12_numeral at h
  refine lv_aload_n hx hb dX12_numeral_0 rfl (lv_at hl 0 rfl) ?_
  refine gf_X12_23 (x := v.1 23) hx hb hts hown hK hP rfl dX12_numeral_1 ?_
  refine lv_if_eq (tgt := 9) hx hb dX12_numeral_4 (by decide) (fun c9 => ?_) (fun c9 => ?_)
  · replace h := (br h).1 c9
    refine lv_aload_n hx hb dX12_numeral_9 rfl (lv_at hl 0 rfl) ?_
    refine gf_X12_21 (x := v.1 21) hx hb hts hown hK hP rfl dX12_numeral_10 ?_
    refine lv_iconst (v := 2) hx hb dX12_numeral_13 (by decide) ?_
    refine lv_icmp_eq (tgt := 25) hx hb dX12_numeral_14 (by decide) (fun c9 => ?_) (fun c9 => ?_)
    · replace h := (br h).1 c9
      refine lv_aload_n hx hb dX12_numeral_25 rfl (lv_at hl 0 rfl) ?_
      refine gf_X12_22 (x := v.1 22) hx hb hts hown hK hP rfl dX12_numeral_26 ?_
      refine lv_iload_n hx hb dX12_numeral_29 rfl (lv_at hl 1 rfl) ?_
      refine lv_icmp_lt (tgt := 41) hx hb dX12_numeral_30 (by decide) (fun c9 => ?_) (fun c9 => ?_)
      · replace h := (br h).1 c9
        exact B41 a1 v _ _ _ h hP hD hS (lv_sub hl [0, 1] rfl)
      · replace h := (br h).2 c9
        refine lv_aload_n hx hb dX12_numeral_33 rfl (lv_at hl 0 rfl) ?_
        refine gf_X12_22 (x := v.1 22) hx hb hts hown hK hP rfl dX12_numeral_34 ?_
        refine lv_iload_n hx hb dX12_numeral_37 rfl (lv_at hl 2 rfl) ?_
        refine lv_icmp_le (tgt := 46) hx hb dX12_numeral_38 (by decide) (fun c9 => ?_) (fun c9 => ?_)
        · replace h := (br h).1 c9
          exact B46 a1 v _ _ _ h hP hD hS (lv_sub hl [0, 1] rfl)
        · replace h := (br h).2 c9
          exact B41 a1 v _ _ _ h hP hD hS (lv_sub hl [0, 1] rfl)
    · replace h := (br h).2 c9
      refine lv_aload_n hx hb dX12_numeral_17 rfl (lv_at hl 0 rfl) ?_
      refine lv_iconst (v := 1) hx hb dX12_numeral_18 (by decide) ?_
      replace h := bd h
      obtain ⟨q1, h2, h⟩ := h
      refine callVv0 (As := [.int 1]) (rest := []) hx hb hml hown hts (k_X12_wrong l G cy ev ad v 1 q1 h2) wm_22_2 wm_22_3 wm_22_4 wm_1_5 wm_22_5 hd_X12_wrong ⟨by decide, by decide⟩ hK hP hD hS hA hE (va_recv hK hP (ci := 12) (q0 := 0) rfl rfl) rfl rfl hl.1 (Nat.le_of_ble_eq_true rfl) dX12_numeral_19 (fun H locs hP hD hS => ?_)
      refine lv_goto (tgt := 46) hx hb dX12_numeral_22 (by decide) ?_
      exact B46 a1 q1 _ _ _ h hP hD hS (lv_sub hl [0, 1] rfl)
  · replace h := (br h).2 c9
    refine lv_iload_n hx hb dX12_numeral_7 rfl (lv_at hl 1 rfl) ?_
    exact retI (fr := fun q => q.1) (fw := fun q => cX12 cy ad q.2) h hx hb hr hlocks hK hP hD hS dX12_numeral_8
theorem hd_X12_fresh : yX12_fresh.cls = RX12 ∧ yX12_fresh.cls ≠ "java/lang/invoke/MethodHandle" ∧ yX12_fresh.cls ≠ "java/lang/invoke/VarHandle" ∧ (parseMethodDescriptor yX12_fresh.desc).map (fun d => d.parameters.length) = some 3 := ⟨rfl, by decide +kernel, by decide +kernel, by decide +kernel⟩
def f_X12_fresh_b44 (N : Nat) (v : VV)  : Option (Int32 × VV) :=
  if v.1 23 = 0 then bnd (f_X12_token N v) (fun q4401 => some (v.1 22, q4401)) else some (0, v)
def f_X12_fresh (N : Nat) (v : VV) (a2 : Int32) (a3 : Int32) : Option (Int32 × VV) :=
  if v.1 23 = 0 then if v.1 21 = 1 then bnd (f_X12_found N v a2 a3 (v.1 22)) (fun q1 => if q1 = (-1) then f_X12_fresh_b44 N v else bnd (f_X12_wrong v 3) (fun q3 => f_X12_fresh_b44 N q3)) else bnd (f_X12_wrong v 1) (fun q5 => f_X12_fresh_b44 N q5) else some (0, v)
set_option maxHeartbeats 4000000 in
set_option maxRecDepth 100000 in
theorem k_X12_fresh (l : Launch) (G : va_G) (cy : Nat → ClassId) (ev : Nat → Nat) (N : Nat) (ad : Nat → Nat) (v : VV) (a2 : Int32) (a3 : Int32) (res : Int32 × VV) (h : f_X12_fresh N v a2 a3 = some res) : MetI l yX12_fresh cX12_fresh 5 (some .int) 6 129 G cy ev [.ref (ad 0), .ref (ad 5), .int a2, .int a3] (cX12 cy ad v) res.1 (cX12 cy ad res.2) := by
  refine MetQ.start (by decide +kernel) (Nat.le_of_ble_eq_true rfl) (fun p e s m args below meth c A ls hx hb hr hml hown hts hlocks hK hP hD hA hl hE => ?_)
  have hS : va_S A s.heap s.heap [] := va_S.rf
  have hown : s.vm.findClass RX12 = some m.cls := hown
  have hl : lv_has ls 5 [(0, .ref (ad 0)), (1, .ref (ad 5)), (2, .int a2), (3, .int a3)] := hl
  have B44 : ∀ (v : VV) (H : Heap) (locs : List Loc) (ls : Array Slot), f_X12_fresh_b44 N v = some res → va_P G vwCl (cX12 cy ad v) H → va_D A (cX12 cy ad v) → va_S A s.heap H locs → lv_has ls 5 [(0, .ref (ad 0))] → W p l e (rmX 6 129) s m args below meth c H locs 0 0 (MQ below (mQi (res.1) G cy A (cX12 cy ad res.2)) args s 0 0 A) (F0 m 44 ls []) := by
    intro v H locs ls h hP hD hS hl
    delta f_X12_fresh_b44 at h
    refine lv_aload_n hx hb dX12_fresh_44 rfl (lv_at hl 0 rfl) ?_
    refine gf_X12_23 (x := v.1 23) hx hb hts hown hK hP rfl dX12_fresh_45 ?_
    refine lv_if_eq (tgt := 53) hx hb dX12_fresh_48 (by decide) (fun c9 => ?_) (fun c9 => ?_)
    · replace h := (br h).1 c9
      refine lv_aload_n hx hb dX12_fresh_53 rfl (lv_at hl 0 rfl) ?_
      refine gf_X12_22 (x := v.1 22) hx hb hts hown hK hP rfl dX12_fresh_54 ?_
      refine lv_istore (lv' := [(4, .int (v.1 22)), (0, .ref (ad 0))]) hx hb dX12_fresh_57 hl (by decide) rfl (fun ls hl => ?_)
      refine lv_aload_n hx hb dX12_fresh_59 rfl (lv_at hl 1 rfl) ?_
      replace h := bd h
      obtain ⟨q4401, h4402, h⟩ := h
      refine callVv0 (As := []) (rest := []) hx hb hml hown hts (k_X12_token l G cy ev N ad v q4401 h4402) wm_20_15 wm_20_16 wm_20_17 wm_1_5 wm_20_18 hd_X12_token ⟨by decide, by decide⟩ hK hP hD hS hA hE (va_recv hK hP (ci := 12) (q0 := 0) rfl rfl) rfl rfl hl.1 (Nat.le_of_ble_eq_true rfl) dX12_fresh_60 (fun H locs hP hD hS => ?_)
      refine lv_iload hx hb dX12_fresh_63 (lv_at hl 0 rfl) ?_
      exact retI (fr := fun q => q.1) (fw := fun q => cX12 cy ad q.2) h hx hb hr hlocks hK hP hD hS dX12_fresh_65
    · replace h := (br h).2 c9
      refine lv_iconst (v := 0) hx hb dX12_fresh_51 (by decide) ?_
      exact retI (fr := fun q => q.1) (fw := fun q => cX12 cy ad q.2) h hx hb hr hlocks hK hP hD hS dX12_fresh_52
  delta f_X12_fresh at h
  refine lv_aload_n hx hb dX12_fresh_0 rfl (lv_at hl 0 rfl) ?_
  refine gf_X12_23 (x := v.1 23) hx hb hts hown hK hP rfl dX12_fresh_1 ?_
  refine lv_if_eq (tgt := 9) hx hb dX12_fresh_4 (by decide) (fun c9 => ?_) (fun c9 => ?_)
  · replace h := (br h).1 c9
    refine lv_aload_n hx hb dX12_fresh_9 rfl (lv_at hl 0 rfl) ?_
    refine gf_X12_21 (x := v.1 21) hx hb hts hown hK hP rfl dX12_fresh_10 ?_
    refine lv_iconst (v := 1) hx hb dX12_fresh_13 (by decide) ?_
    refine lv_icmp_eq (tgt := 25) hx hb dX12_fresh_14 (by decide) (fun c9 => ?_) (fun c9 => ?_)
    · replace h := (br h).1 c9
      refine lv_aload_n hx hb dX12_fresh_25 rfl (lv_at hl 1 rfl) ?_
      refine lv_iload_n hx hb dX12_fresh_26 rfl (lv_at hl 2 rfl) ?_
      refine lv_iload_n hx hb dX12_fresh_27 rfl (lv_at hl 3 rfl) ?_
      refine lv_aload_n hx hb dX12_fresh_28 rfl (lv_at hl 0 rfl) ?_
      refine gf_X12_22 (x := v.1 22) hx hb hts hown hK hP rfl dX12_fresh_29 ?_
      replace h := bd h
      obtain ⟨q1, h2, h⟩ := h
      refine callSi0 (As := [.ref (ad 5), .int a2, .int a3, .int (v.1 22)]) (rest := []) hx hb hml hown hts (k_X12_found l G cy ev N ad v a2 a3 (v.1 22) q1 h2) wm_22_18 wm_22_19 wm_1_5 wm_22_20 hd_X12_found ⟨by decide, by decide⟩ hK hP hD hS hA hE rfl rfl hl.1 (Nat.le_of_ble_eq_true rfl) dX12_fresh_32 (fun H locs hP hD hS => ?_)
      refine lv_iconst (v := (-1)) hx hb dX12_fresh_35 (by decide) ?_
      refine lv_icmp_eq (tgt := 44) hx hb dX12_fresh_36 (by decide) (fun c9 => ?_) (fun c9 => ?_)
      · replace h := (br h).1 c9
        exact B44 v _ _ _ h hP hD hS (lv_sub hl [0] rfl)
      · replace h := (br h).2 c9
        refine lv_aload_n hx hb dX12_fresh_39 rfl (lv_at hl 0 rfl) ?_
        refine lv_iconst (v := 3) hx hb dX12_fresh_40 (by decide) ?_
        replace h := bd h
        obtain ⟨q3, h4, h⟩ := h
        refine callVv0 (As := [.int 3]) (rest := []) hx hb hml hown hts (k_X12_wrong l G cy ev ad v 3 q3 h4) wm_22_2 wm_22_3 wm_22_4 wm_1_5 wm_22_5 hd_X12_wrong ⟨by decide, by decide⟩ hK hP hD hS hA hE (va_recv hK hP (ci := 12) (q0 := 0) rfl rfl) rfl rfl hl.1 (Nat.le_of_ble_eq_true rfl) dX12_fresh_41 (fun H locs hP hD hS => ?_)
        exact B44 q3 _ _ _ h hP hD hS (lv_sub hl [0] rfl)
    · replace h := (br h).2 c9
      refine lv_aload_n hx hb dX12_fresh_17 rfl (lv_at hl 0 rfl) ?_
      refine lv_iconst (v := 1) hx hb dX12_fresh_18 (by decide) ?_
      replace h := bd h
      obtain ⟨q5, h6, h⟩ := h
      refine callVv0 (As := [.int 1]) (rest := []) hx hb hml hown hts (k_X12_wrong l G cy ev ad v 1 q5 h6) wm_22_2 wm_22_3 wm_22_4 wm_1_5 wm_22_5 hd_X12_wrong ⟨by decide, by decide⟩ hK hP hD hS hA hE (va_recv hK hP (ci := 12) (q0 := 0) rfl rfl) rfl rfl hl.1 (Nat.le_of_ble_eq_true rfl) dX12_fresh_19 (fun H locs hP hD hS => ?_)
      refine lv_goto (tgt := 44) hx hb dX12_fresh_22 (by decide) ?_
      exact B44 q5 _ _ _ h hP hD hS (lv_sub hl [0] rfl)
  · replace h := (br h).2 c9
    refine lv_iconst (v := 0) hx hb dX12_fresh_7 (by decide) ?_
    exact retI (fr := fun q => q.1) (fw := fun q => cX12 cy ad q.2) h hx hb hr hlocks hK hP hD hS dX12_fresh_8
theorem hd_X12_partyLine : yX12_partyLine.cls = RX12 ∧ yX12_partyLine.cls ≠ "java/lang/invoke/MethodHandle" ∧ yX12_partyLine.cls ≠ "java/lang/invoke/VarHandle" ∧ (parseMethodDescriptor yX12_partyLine.desc).map (fun d => d.parameters.length) = some 1 := ⟨rfl, by decide +kernel, by decide +kernel, by decide +kernel⟩
def f_X12_partyLine_s36 (N : Nat) (v : VV) (x1 : Int32) (x2 : Int32) : Option (((Int32 × VV) ⊕ (VV))) :=
  if (3 : Int32) ≤ x2 then inrO (bnd (f_X12_numeral N v 0 999) (fun q3601 => gin x1 16 (bnd (f_X12_numeral N (sr q3601.2 7 x1.toNatClampNeg q3601.1) 0 99) (fun q3603 => gin x1 16 (bnd (f_X12_numeral N (sr q3603.2 8 x1.toNatClampNeg q3603.1) 0 100) (fun q3605 => gin x1 16 (bnd (f_X12_fresher (sr q3605.2 9 x1.toNatClampNeg q3605.1) 0) (fun q3607 => bnd (f_X12_reads (sr q3605.2 9 x1.toNatClampNeg q3605.1) 0 (q3607 + 1)) (fun q3609 => some q3609))))))))) else bnd (f_X12_numeral N v 0 9) (fun q3611 => gin ((3 * x1) + x2) 48 (some (.inl (x2 + 1, sr q3611.2 6 (((3 * x1) + x2).toNatClampNeg) q3611.1))))
def f_X12_partyLine (N : Nat) (v : VV) (a1 : Int32) : Option (VV) :=
  bnd (f_X12_fresher v 0) (fun q1 => bnd (f_X12_fresh N v 8 q1) (fun q3 => gin a1 16 (bnd (f_X12_numeral N (sr q3.2 4 a1.toNatClampNeg q3.1) 1 9) (fun q5 => gin a1 16 (itr (fun q : Int32 × VV => f_X12_partyLine_s36 N q.2 a1 q.1) N (0, sr q5.2 5 a1.toNatClampNeg q5.1))))))
set_option maxHeartbeats 4000000 in
set_option maxRecDepth 100000 in
theorem k_X12_partyLine (l : Launch) (G : va_G) (cy : Nat → ClassId) (ev : Nat → Nat) (N : Nat) (ad : Nat → Nat) (v : VV) (a1 : Int32) (res : VV) (h : f_X12_partyLine N v a1 = some res) : MetV l yX12_partyLine cX12_partyLine 3 none 7 153 G cy ev [.ref (ad 0), .int a1] (cX12 cy ad v) (cX12 cy ad res) := by
  refine MetQ.start (by decide +kernel) (Nat.le_of_ble_eq_true rfl) (fun p e s m args below meth c A ls hx hb hr hml hown hts hlocks hK hP hD hA hl hE => ?_)
  have hS : va_S A s.heap s.heap [] := va_S.rf
  have hown : s.vm.findClass RX12 = some m.cls := hown
  have hl : lv_has ls 3 [(0, .ref (ad 0)), (1, .int a1)] := hl
  have L36 : ∀ (x1 : Int32) (n : Nat) (x2 : Int32) (v : VV) (H : Heap) (locs : List Loc) (ls : Array Slot), itr (fun q : Int32 × VV => f_X12_partyLine_s36 N q.2 x1 q.1) n (x2, v) = some res → va_P G vwCl (cX12 cy ad v) H → va_D A (cX12 cy ad v) → va_S A s.heap H locs → lv_has ls 3 [(0, .ref (ad 0)), (1, .int x1), (2, .int x2)] → W p l e (rmX 7 153) s m args below meth c H locs 0 0 (MQ below (mQv G cy A (cX12 cy ad res)) args s 0 0 A) (F0 m 36 ls []) := by
    intro x1 n
    induction n with
    | zero => intro x2 v H locs ls h; exact (itr_zero h).elim
    | succ n ih1 =>
      intro x2 v H locs ls h hP hD hS hl
      obtain ⟨y1, h, hy1⟩ := itr_inv h
      have h : f_X12_partyLine_s36 N v x1 x2 = some y1 := h
      delta f_X12_partyLine_s36 at h
      refine lv_iload_n hx hb dX12_partyLine_36 rfl (lv_at hl 2 rfl) ?_
      refine lv_iconst (v := 3) hx hb dX12_partyLine_37 (by decide) ?_
      refine lv_icmp_ge (tgt := 64) hx hb dX12_partyLine_38 (by decide) (fun c9 => ?_) (fun c9 => ?_)
      · replace h := (br h).1 c9
        replace h := itr_exit h hy1
        refine lv_aload_n hx hb dX12_partyLine_64 rfl (lv_at hl 0 rfl) ?_
        refine gf_X12_7 hx hb hts hown hK hP dX12_partyLine_65 ?_
        refine lv_iload_n hx hb dX12_partyLine_68 rfl (lv_at hl 1 rfl) ?_
        refine lv_aload_n hx hb dX12_partyLine_69 rfl (lv_at hl 0 rfl) ?_
        refine lv_iconst (v := 0) hx hb dX12_partyLine_70 (by decide) ?_
        refine lv_sipush (v := 999) hx hb dX12_partyLine_71 (by decide) ?_
        replace h := bd h
        obtain ⟨q3601, h3602, h⟩ := h
        refine callVi0 (As := [.int 0, .int 999]) (rest := [.int x1, .ref (ad 8)]) hx hb hml hown hts (k_X12_numeral l G cy ev N ad v 0 999 q3601 h3602) wm_22_21 wm_22_22 wm_22_23 wm_1_5 wm_23_0 hd_X12_numeral ⟨by decide, by decide⟩ hK hP hD hS hA hE (va_recv hK hP (ci := 12) (q0 := 0) rfl rfl) rfl rfl hl.1 (Nat.le_of_ble_eq_true rfl) dX12_partyLine_74 (fun H locs hP hD hS => ?_)
        replace h := gin_inv h
        obtain ⟨h9, h⟩ := h
        refine st_X12_7 (j := x1.toNatClampNeg) hx hb hK hP hD hS h9 rfl dX12_partyLine_77 (fun H locs hP hD hS => ?_)
        refine lv_aload_n hx hb dX12_partyLine_78 rfl (lv_at hl 0 rfl) ?_
        refine gf_X12_8 hx hb hts hown hK hP dX12_partyLine_79 ?_
        refine lv_iload_n hx hb dX12_partyLine_82 rfl (lv_at hl 1 rfl) ?_
        refine lv_aload_n hx hb dX12_partyLine_83 rfl (lv_at hl 0 rfl) ?_
        refine lv_iconst (v := 0) hx hb dX12_partyLine_84 (by decide) ?_
        refine lv_bipush (v := 99) hx hb dX12_partyLine_85 (by decide) ?_
        replace h := bd h
        obtain ⟨q3603, h3604, h⟩ := h
        refine callVi0 (As := [.int 0, .int 99]) (rest := [.int x1, .ref (ad 9)]) hx hb hml hown hts (k_X12_numeral l G cy ev N ad (sr q3601.2 7 x1.toNatClampNeg q3601.1) 0 99 q3603 h3604) wm_22_21 wm_22_22 wm_22_23 wm_1_5 wm_23_0 hd_X12_numeral ⟨by decide, by decide⟩ hK hP hD hS hA hE (va_recv hK hP (ci := 12) (q0 := 0) rfl rfl) rfl rfl hl.1 (Nat.le_of_ble_eq_true rfl) dX12_partyLine_87 (fun H locs hP hD hS => ?_)
        replace h := gin_inv h
        obtain ⟨h9, h⟩ := h
        refine st_X12_8 (j := x1.toNatClampNeg) hx hb hK hP hD hS h9 rfl dX12_partyLine_90 (fun H locs hP hD hS => ?_)
        refine lv_aload_n hx hb dX12_partyLine_91 rfl (lv_at hl 0 rfl) ?_
        refine gf_X12_9 hx hb hts hown hK hP dX12_partyLine_92 ?_
        refine lv_iload_n hx hb dX12_partyLine_95 rfl (lv_at hl 1 rfl) ?_
        refine lv_aload_n hx hb dX12_partyLine_96 rfl (lv_at hl 0 rfl) ?_
        refine lv_iconst (v := 0) hx hb dX12_partyLine_97 (by decide) ?_
        refine lv_bipush (v := 100) hx hb dX12_partyLine_98 (by decide) ?_
        replace h := bd h
        obtain ⟨q3605, h3606, h⟩ := h
        refine callVi0 (As := [.int 0, .int 100]) (rest := [.int x1, .ref (ad 10)]) hx hb hml hown hts (k_X12_numeral l G cy ev N ad (sr q3603.2 8 x1.toNatClampNeg q3603.1) 0 100 q3605 h3606) wm_22_21 wm_22_22 wm_22_23 wm_1_5 wm_23_0 hd_X12_numeral ⟨by decide, by decide⟩ hK hP hD hS hA hE (va_recv hK hP (ci := 12) (q0 := 0) rfl rfl) rfl rfl hl.1 (Nat.le_of_ble_eq_true rfl) dX12_partyLine_100 (fun H locs hP hD hS => ?_)
        replace h := gin_inv h
        obtain ⟨h9, h⟩ := h
        refine st_X12_9 (j := x1.toNatClampNeg) hx hb hK hP hD hS h9 rfl dX12_partyLine_103 (fun H locs hP hD hS => ?_)
        refine lv_aload_n hx hb dX12_partyLine_104 rfl (lv_at hl 0 rfl) ?_
        refine lv_iconst (v := 0) hx hb dX12_partyLine_105 (by decide) ?_
        refine lv_aload_n hx hb dX12_partyLine_106 rfl (lv_at hl 0 rfl) ?_
        refine lv_iconst (v := 0) hx hb dX12_partyLine_107 (by decide) ?_
        replace h := bd h
        obtain ⟨q3607, h3608, h⟩ := h
        refine callVi0 (As := [.int 0]) (rest := [.int 0, .ref (ad 0)]) hx hb hml hown hts (k_X12_fresher l G cy ev ad (sr q3605.2 9 x1.toNatClampNeg q3605.1) 0 q3607 h3608) wm_22_6 wm_22_7 wm_22_8 wm_1_5 wm_22_9 hd_X12_fresher ⟨by decide, by decide⟩ hK hP hD hS hA hE (va_recv hK hP (ci := 12) (q0 := 0) rfl rfl) rfl rfl hl.1 (Nat.le_of_ble_eq_true rfl) dX12_partyLine_108 (fun H locs hP hD hS => ?_)
        refine lv_iconst (v := 1) hx hb dX12_partyLine_111 (by decide) ?_
        refine lv_iadd hx hb dX12_partyLine_112 ?_
        replace h := bd h
        obtain ⟨q3609, h3610, h⟩ := h
        refine callVv0 (As := [.int 0, .int (q3607 + 1)]) (rest := []) hx hb hml hown hts (k_X12_reads l G cy ev ad (sr q3605.2 9 x1.toNatClampNeg q3605.1) 0 (q3607 + 1) q3609 h3610) wm_20_11 wm_20_12 wm_20_13 wm_1_5 wm_20_14 hd_X12_reads ⟨by decide, by decide⟩ hK hP hD hS hA hE (va_recv hK hP (ci := 12) (q0 := 0) rfl rfl) rfl rfl hl.1 (Nat.le_of_ble_eq_true rfl) dX12_partyLine_113 (fun H locs hP hD hS => ?_)
        exact retV (fw := fun q => cX12 cy ad q) h hx hb hr hlocks hK hP hD hS dX12_partyLine_116
      · replace h := (br h).2 c9
        refine lv_aload_n hx hb dX12_partyLine_41 rfl (lv_at hl 0 rfl) ?_
        refine gf_X12_6 hx hb hts hown hK hP dX12_partyLine_42 ?_
        refine lv_iconst (v := 3) hx hb dX12_partyLine_45 (by decide) ?_
        refine lv_iload_n hx hb dX12_partyLine_46 rfl (lv_at hl 1 rfl) ?_
        refine lv_imul hx hb dX12_partyLine_47 ?_
        refine lv_iload_n hx hb dX12_partyLine_48 rfl (lv_at hl 2 rfl) ?_
        refine lv_iadd hx hb dX12_partyLine_49 ?_
        refine lv_aload_n hx hb dX12_partyLine_50 rfl (lv_at hl 0 rfl) ?_
        refine lv_iconst (v := 0) hx hb dX12_partyLine_51 (by decide) ?_
        refine lv_bipush (v := 9) hx hb dX12_partyLine_52 (by decide) ?_
        replace h := bd h
        obtain ⟨q3611, h3612, h⟩ := h
        refine callVi0 (As := [.int 0, .int 9]) (rest := [.int ((3 * x1) + x2), .ref (ad 7)]) hx hb hml hown hts (k_X12_numeral l G cy ev N ad v 0 9 q3611 h3612) wm_22_21 wm_22_22 wm_22_23 wm_1_5 wm_23_0 hd_X12_numeral ⟨by decide, by decide⟩ hK hP hD hS hA hE (va_recv hK hP (ci := 12) (q0 := 0) rfl rfl) rfl rfl hl.1 (Nat.le_of_ble_eq_true rfl) dX12_partyLine_54 (fun H locs hP hD hS => ?_)
        replace h := gin_inv h
        obtain ⟨h9, h⟩ := h
        refine st_X12_6 (j := ((3 * x1) + x2).toNatClampNeg) hx hb hK hP hD hS h9 rfl dX12_partyLine_57 (fun H locs hP hD hS => ?_)
        refine lv_iinc (v := x2 + 1) (lv' := [(2, .int (x2 + 1)), (0, .ref (ad 0)), (1, .int x1)]) hx hb dX12_partyLine_58 hl (k := 2) rfl rfl (by decide) rfl (fun ls hl => ?_)
        refine lv_goto (tgt := 36) hx hb dX12_partyLine_61 (by decide) ?_
        replace h := itr_back h hy1
        exact ih1 (x2 + 1) (sr q3611.2 6 (((3 * x1) + x2).toNatClampNeg) q3611.1) _ _ _ h hP hD hS (lv_sub hl [1, 2, 0] rfl)
  delta f_X12_partyLine at h
  refine lv_aload_n hx hb dX12_partyLine_0 rfl (lv_at hl 0 rfl) ?_
  refine gf_X12_4 hx hb hts hown hK hP dX12_partyLine_1 ?_
  refine lv_iload_n hx hb dX12_partyLine_4 rfl (lv_at hl 1 rfl) ?_
  refine lv_aload_n hx hb dX12_partyLine_5 rfl (lv_at hl 0 rfl) ?_
  refine lv_aload_n hx hb dX12_partyLine_6 rfl (lv_at hl 0 rfl) ?_
  refine gf_X12_4 hx hb hts hown hK hP dX12_partyLine_7 ?_
  refine lv_bipush (v := 8) hx hb dX12_partyLine_10 (by decide) ?_
  refine lv_aload_n hx hb dX12_partyLine_12 rfl (lv_at hl 0 rfl) ?_
  refine lv_iconst (v := 0) hx hb dX12_partyLine_13 (by decide) ?_
  replace h := bd h
  obtain ⟨q1, h2, h⟩ := h
  refine callVi0 (As := [.int 0]) (rest := [.int 8, .ref (ad 5), .ref (ad 0), .int a1, .ref (ad 5)]) hx hb hml hown hts (k_X12_fresher l G cy ev ad v 0 q1 h2) wm_22_6 wm_22_7 wm_22_8 wm_1_5 wm_22_9 hd_X12_fresher ⟨by decide, by decide⟩ hK hP hD hS hA hE (va_recv hK hP (ci := 12) (q0 := 0) rfl rfl) rfl rfl hl.1 (Nat.le_of_ble_eq_true rfl) dX12_partyLine_14 (fun H locs hP hD hS => ?_)
  replace h := bd h
  obtain ⟨q3, h4, h⟩ := h
  refine callVi0 (As := [.ref (ad 5), .int 8, .int q1]) (rest := [.int a1, .ref (ad 5)]) hx hb hml hown hts (k_X12_fresh l G cy ev N ad v 8 q1 q3 h4) wm_22_14 wm_22_15 wm_22_16 wm_1_5 wm_22_17 hd_X12_fresh ⟨by decide, by decide⟩ hK hP hD hS hA hE (va_recv hK hP (ci := 12) (q0 := 0) rfl rfl) rfl rfl hl.1 (Nat.le_of_ble_eq_true rfl) dX12_partyLine_17 (fun H locs hP hD hS => ?_)
  replace h := gin_inv h
  obtain ⟨h9, h⟩ := h
  refine st_X12_4 (j := a1.toNatClampNeg) hx hb hK hP hD hS h9 rfl dX12_partyLine_20 (fun H locs hP hD hS => ?_)
  refine lv_aload_n hx hb dX12_partyLine_21 rfl (lv_at hl 0 rfl) ?_
  refine gf_X12_5 hx hb hts hown hK hP dX12_partyLine_22 ?_
  refine lv_iload_n hx hb dX12_partyLine_25 rfl (lv_at hl 1 rfl) ?_
  refine lv_aload_n hx hb dX12_partyLine_26 rfl (lv_at hl 0 rfl) ?_
  refine lv_iconst (v := 1) hx hb dX12_partyLine_27 (by decide) ?_
  refine lv_bipush (v := 9) hx hb dX12_partyLine_28 (by decide) ?_
  replace h := bd h
  obtain ⟨q5, h6, h⟩ := h
  refine callVi0 (As := [.int 1, .int 9]) (rest := [.int a1, .ref (ad 6)]) hx hb hml hown hts (k_X12_numeral l G cy ev N ad (sr q3.2 4 a1.toNatClampNeg q3.1) 1 9 q5 h6) wm_22_21 wm_22_22 wm_22_23 wm_1_5 wm_23_0 hd_X12_numeral ⟨by decide, by decide⟩ hK hP hD hS hA hE (va_recv hK hP (ci := 12) (q0 := 0) rfl rfl) rfl rfl hl.1 (Nat.le_of_ble_eq_true rfl) dX12_partyLine_30 (fun H locs hP hD hS => ?_)
  replace h := gin_inv h
  obtain ⟨h9, h⟩ := h
  refine st_X12_5 (j := a1.toNatClampNeg) hx hb hK hP hD hS h9 rfl dX12_partyLine_33 (fun H locs hP hD hS => ?_)
  refine lv_iconst (v := 0) hx hb dX12_partyLine_34 (by decide) ?_
  refine lv_istore_n (lv' := [(2, .int 0), (0, .ref (ad 0)), (1, .int a1)]) hx hb dX12_partyLine_35 rfl hl (by decide) rfl (fun ls hl => ?_)
  exact L36 a1 N 0 (sr q5.2 5 a1.toNatClampNeg q5.1) _ _ _ h hP hD hS (lv_sub hl [1, 2, 0] rfl)
theorem hd_X12_expression : yX12_expression.cls = RX12 ∧ yX12_expression.cls ≠ "java/lang/invoke/MethodHandle" ∧ yX12_expression.cls ≠ "java/lang/invoke/VarHandle" ∧ (parseMethodDescriptor yX12_expression.desc).map (fun d => d.parameters.length) = some 0 := ⟨rfl, by decide +kernel, by decide +kernel, by decide +kernel⟩
theorem hd_X12_primary : yX12_primary.cls = RX12 ∧ yX12_primary.cls ≠ "java/lang/invoke/MethodHandle" ∧ yX12_primary.cls ≠ "java/lang/invoke/VarHandle" ∧ (parseMethodDescriptor yX12_primary.desc).map (fun d => d.parameters.length) = some 0 := ⟨rfl, by decide +kernel, by decide +kernel, by decide +kernel⟩
def f_X12_primary_b194 (N : Nat) (ex : VV → Option (VV)) (v : VV) (z0 : Int32) (z1 : Int32) : Option (VV) :=
  bnd (f_X12_puts v z1 z0) (fun q19401 => bnd (f_X12_goOn N q19401) (fun q19403 => some q19403))
def f_X12_primary_b176 (N : Nat) (ex : VV → Option (VV)) (v : VV) (x1 : Int32) (z0 : Int32) : Option (VV) :=
  if x1 = 0 then f_X12_primary_b194 N ex v ((v.1 22) - 15) z0 else f_X12_primary_b194 N ex v (v.1 22) z0
def f_X12_primary_b162 (N : Nat) (ex : VV → Option (VV)) (v : VV) (x1 : Int32) : Option (VV) :=
  bnd (f_X12_knot v) (fun q16201 => if x1 = 0 then f_X12_primary_b176 N ex q16201 x1 1 else f_X12_primary_b176 N ex q16201 x1 0)
def f_X12_primary_b157 (N : Nat) (ex : VV → Option (VV)) (v : VV) (x1 : Int32) : Option (VV) :=
  bnd (f_X12_wrong v 1) (fun q15701 => f_X12_primary_b162 N ex q15701 x1)
def f_X12_primary_b137 (N : Nat) (ex : VV → Option (VV)) (v : VV) (x1 : Int32) : Option (VV) :=
  if x1 = 0 then if v.1 21 = 0 then if (15 : Int32) ≤ v.1 22 then f_X12_primary_b162 N ex v x1 else f_X12_primary_b157 N ex v x1 else f_X12_primary_b157 N ex v x1 else f_X12_primary_b162 N ex v x1
def f_X12_primary_b114 (N : Nat) (ex : VV → Option (VV)) (v : VV) (z0 : Int32) : Option (VV) :=
  if z0 = 0 then f_X12_primary_b137 N ex v z0 else if v.1 22 ≤ 9999 then f_X12_primary_b137 N ex v z0 else bnd (f_X12_wrong v 2) (fun q11401 => f_X12_primary_b162 N ex q11401 z0)
def f_X12_primary_b78 (N : Nat) (ex : VV → Option (VV)) (v : VV)  : Option (VV) :=
  if v.1 23 = 0 then bnd (f_X12_token N (si v 27 ((v.1 27) - 1))) (fun q7801 => some q7801) else some v
def f_X12_primary_b31 (N : Nat) (ex : VV → Option (VV)) (v : VV)  : Option (VV) :=
  if v.1 23 = 0 then bnd (f_X12_token N (si v 27 ((v.1 27) + 1))) (fun q3101 => bnd (ex q3101) (fun q3103 => if q3103.1 23 = 0 then bnd (f_X12_isSign q3103 41) (fun q3105 => if q3105 = 0 then bnd (f_X12_wrong q3103 1) (fun q3107 => f_X12_primary_b78 N ex q3107) else f_X12_primary_b78 N ex q3103) else f_X12_primary_b78 N ex q3103)) else some v
def f_X12_primary (N : Nat) (ex : VV → Option (VV)) (v : VV) : Option (VV) :=
  if v.1 23 = 0 then bnd (f_X12_isSign v 40) (fun q1 => if q1 = 0 then if v.1 21 = 2 then f_X12_primary_b114 N ex v 1 else f_X12_primary_b114 N ex v 0 else if v.1 27 = 8 then bnd (f_X12_wrong v 2) (fun q3 => f_X12_primary_b31 N ex q3) else f_X12_primary_b31 N ex v) else some v
set_option maxHeartbeats 4000000 in
set_option maxRecDepth 100000 in
theorem k_X12_primary (l : Launch) (G : va_G) (cy : Nat → ClassId) (ev : Nat → Nat) (N : Nat) (fe le : Nat) (ex : VV → Option (VV)) (hex : ∀ (ad : Nat → Nat) (v : VV)  (res : VV), ex v = some res → MetV l yX12_expression cX12_expression 1 none fe le G cy ev [.ref (ad 0)] (cX12 cy ad v) (cX12 cy ad res)) (ad : Nat → Nat) (v : VV)  (res : VV) (h : f_X12_primary N ex v = some res) : MetV l yX12_primary cX12_primary 2 none (fe + 7) (le + 149) G cy ev [.ref (ad 0)] (cX12 cy ad v) (cX12 cy ad res) := by
  refine MetQ.start (by decide +kernel) (Nat.le_of_ble_eq_true rfl) (fun p e s m args below meth c A ls hx hb hr hml hown hts hlocks hK hP hD hA hl hE => ?_)
  have hS : va_S A s.heap s.heap [] := va_S.rf
  have hown : s.vm.findClass RX12 = some m.cls := hown
  have hl : lv_has ls 2 [(0, .ref (ad 0))] := hl
  have B194 : ∀ (z0 : Int32) (z1 : Int32) (v : VV) (H : Heap) (locs : List Loc) (ls : Array Slot), f_X12_primary_b194 N ex v z0 z1 = some res → va_P G vwCl (cX12 cy ad v) H → va_D A (cX12 cy ad v) → va_S A s.heap H locs → lv_has ls 2 [(0, .ref (ad 0))] → W p l e (rmX (fe + 7) (le + 149)) s m args below meth c H locs 0 0 (MQ below (mQv G cy A (cX12 cy ad res)) args s 0 0 A) (F0 m 194 ls [.int z0, .int z1, .ref (ad 0)]) := by
    intro z0 z1 v H locs ls h hP hD hS hl
    delta f_X12_primary_b194 at h
    replace h := bd h
    obtain ⟨q19401, h19402, h⟩ := h
    refine callVv0 (As := [.int z1, .int z0]) (rest := []) hx hb hml hown hts (k_X12_puts l G cy ev ad v z1 z0 q19401 h19402) wm_24_0 wm_24_1 wm_24_2 wm_1_5 wm_24_3 hd_X12_puts ⟨by simp only [rmX]; omega, by simp only [rmX]; omega⟩ hK hP hD hS hA hE (va_recv hK hP (ci := 12) (q0 := 0) rfl rfl) rfl rfl hl.1 (Nat.le_of_ble_eq_true rfl) dX12_primary_194 (fun H locs hP hD hS => ?_)
    refine lv_aload_n hx hb dX12_primary_197 rfl (lv_at hl 0 rfl) ?_
    replace h := bd h
    obtain ⟨q19403, h19404, h⟩ := h
    refine callVv0 (As := []) (rest := []) hx hb hml hown hts (k_X12_goOn l G cy ev N ad q19401 q19403 h19404) wm_23_20 wm_23_21 wm_23_22 wm_1_5 wm_23_23 hd_X12_goOn ⟨by simp only [rmX]; omega, by simp only [rmX]; omega⟩ hK hP hD hS hA hE (va_recv hK hP (ci := 12) (q0 := 0) rfl rfl) rfl rfl hl.1 (Nat.le_of_ble_eq_true rfl) dX12_primary_198 (fun H locs hP hD hS => ?_)
    exact retV (fw := fun q => cX12 cy ad q) h hx hb hr hlocks hK hP hD hS dX12_primary_201
  have B176 : ∀ (x1 : Int32) (z0 : Int32) (v : VV) (H : Heap) (locs : List Loc) (ls : Array Slot), f_X12_primary_b176 N ex v x1 z0 = some res → va_P G vwCl (cX12 cy ad v) H → va_D A (cX12 cy ad v) → va_S A s.heap H locs → lv_has ls 2 [(0, .ref (ad 0)), (1, .int x1)] → W p l e (rmX (fe + 7) (le + 149)) s m args below meth c H locs 0 0 (MQ below (mQv G cy A (cX12 cy ad res)) args s 0 0 A) (F0 m 176 ls [.int z0, .ref (ad 0)]) := by
    intro x1 z0 v H locs ls h hP hD hS hl
    delta f_X12_primary_b176 at h
    refine lv_iload_n hx hb dX12_primary_176 rfl (lv_at hl 1 rfl) ?_
    refine lv_if_eq (tgt := 187) hx hb dX12_primary_177 (by decide) (fun c9 => ?_) (fun c9 => ?_)
    · replace h := (br h).1 c9
      refine lv_aload_n hx hb dX12_primary_187 rfl (lv_at hl 0 rfl) ?_
      refine gf_X12_22 (x := v.1 22) hx hb hts hown hK hP rfl dX12_primary_188 ?_
      refine lv_bipush (v := 15) hx hb dX12_primary_191 (by decide) ?_
      refine lv_isub hx hb dX12_primary_193 ?_
      exact B194 ((v.1 22) - 15) z0 v _ _ _ h hP hD hS (lv_sub hl [0] rfl)
    · replace h := (br h).2 c9
      refine lv_aload_n hx hb dX12_primary_180 rfl (lv_at hl 0 rfl) ?_
      refine gf_X12_22 (x := v.1 22) hx hb hts hown hK hP rfl dX12_primary_181 ?_
      refine lv_goto (tgt := 194) hx hb dX12_primary_184 (by decide) ?_
      exact B194 (v.1 22) z0 v _ _ _ h hP hD hS (lv_sub hl [0] rfl)
  have B162 : ∀ (x1 : Int32) (v : VV) (H : Heap) (locs : List Loc) (ls : Array Slot), f_X12_primary_b162 N ex v x1 = some res → va_P G vwCl (cX12 cy ad v) H → va_D A (cX12 cy ad v) → va_S A s.heap H locs → lv_has ls 2 [(0, .ref (ad 0)), (1, .int x1)] → W p l e (rmX (fe + 7) (le + 149)) s m args below meth c H locs 0 0 (MQ below (mQv G cy A (cX12 cy ad res)) args s 0 0 A) (F0 m 162 ls []) := by
    intro x1 v H locs ls h hP hD hS hl
    delta f_X12_primary_b162 at h
    refine lv_aload_n hx hb dX12_primary_162 rfl (lv_at hl 0 rfl) ?_
    replace h := bd h
    obtain ⟨q16201, h16202, h⟩ := h
    refine callVv0 (As := []) (rest := []) hx hb hml hown hts (k_X12_knot l G cy ev ad v q16201 h16202) wm_23_16 wm_23_17 wm_23_18 wm_1_5 wm_23_19 hd_X12_knot ⟨by simp only [rmX]; omega, by simp only [rmX]; omega⟩ hK hP hD hS hA hE (va_recv hK hP (ci := 12) (q0 := 0) rfl rfl) rfl rfl hl.1 (Nat.le_of_ble_eq_true rfl) dX12_primary_163 (fun H locs hP hD hS => ?_)
    refine lv_aload_n hx hb dX12_primary_166 rfl (lv_at hl 0 rfl) ?_
    refine lv_iload_n hx hb dX12_primary_167 rfl (lv_at hl 1 rfl) ?_
    refine lv_if_eq (tgt := 175) hx hb dX12_primary_168 (by decide) (fun c9 => ?_) (fun c9 => ?_)
    · replace h := (br h).1 c9
      refine lv_iconst (v := 1) hx hb dX12_primary_175 (by decide) ?_
      exact B176 x1 1 q16201 _ _ _ h hP hD hS (lv_sub hl [0, 1] rfl)
    · replace h := (br h).2 c9
      refine lv_iconst (v := 0) hx hb dX12_primary_171 (by decide) ?_
      refine lv_goto (tgt := 176) hx hb dX12_primary_172 (by decide) ?_
      exact B176 x1 0 q16201 _ _ _ h hP hD hS (lv_sub hl [0, 1] rfl)
  have B157 : ∀ (x1 : Int32) (v : VV) (H : Heap) (locs : List Loc) (ls : Array Slot), f_X12_primary_b157 N ex v x1 = some res → va_P G vwCl (cX12 cy ad v) H → va_D A (cX12 cy ad v) → va_S A s.heap H locs → lv_has ls 2 [(0, .ref (ad 0)), (1, .int x1)] → W p l e (rmX (fe + 7) (le + 149)) s m args below meth c H locs 0 0 (MQ below (mQv G cy A (cX12 cy ad res)) args s 0 0 A) (F0 m 157 ls []) := by
    intro x1 v H locs ls h hP hD hS hl
    delta f_X12_primary_b157 at h
    refine lv_aload_n hx hb dX12_primary_157 rfl (lv_at hl 0 rfl) ?_
    refine lv_iconst (v := 1) hx hb dX12_primary_158 (by decide) ?_
    replace h := bd h
    obtain ⟨q15701, h15702, h⟩ := h
    refine callVv0 (As := [.int 1]) (rest := []) hx hb hml hown hts (k_X12_wrong l G cy ev ad v 1 q15701 h15702) wm_22_2 wm_22_3 wm_22_4 wm_1_5 wm_22_5 hd_X12_wrong ⟨by simp only [rmX]; omega, by simp only [rmX]; omega⟩ hK hP hD hS hA hE (va_recv hK hP (ci := 12) (q0 := 0) rfl rfl) rfl rfl hl.1 (Nat.le_of_ble_eq_true rfl) dX12_primary_159 (fun H locs hP hD hS => ?_)
    exact B162 x1 q15701 _ _ _ h hP hD hS (lv_sub hl [0, 1] rfl)
  have B137 : ∀ (x1 : Int32) (v : VV) (H : Heap) (locs : List Loc) (ls : Array Slot), f_X12_primary_b137 N ex v x1 = some res → va_P G vwCl (cX12 cy ad v) H → va_D A (cX12 cy ad v) → va_S A s.heap H locs → lv_has ls 2 [(0, .ref (ad 0)), (1, .int x1)] → W p l e (rmX (fe + 7) (le + 149)) s m args below meth c H locs 0 0 (MQ below (mQv G cy A (cX12 cy ad res)) args s 0 0 A) (F0 m 137 ls []) := by
    intro x1 v H locs ls h hP hD hS hl
    delta f_X12_primary_b137 at h
    refine lv_iload_n hx hb dX12_primary_137 rfl (lv_at hl 1 rfl) ?_
    refine lv_if_ne (tgt := 162) hx hb dX12_primary_138 (by decide) (fun c9 => ?_) (fun c9 => ?_)
    · replace h := (br h).2 c9
      exact B162 x1 v _ _ _ h hP hD hS (lv_sub hl [0, 1] rfl)
    · replace h := (br h).1 c9
      refine lv_aload_n hx hb dX12_primary_141 rfl (lv_at hl 0 rfl) ?_
      refine gf_X12_21 (x := v.1 21) hx hb hts hown hK hP rfl dX12_primary_142 ?_
      refine lv_if_ne (tgt := 157) hx hb dX12_primary_145 (by decide) (fun c9 => ?_) (fun c9 => ?_)
      · replace h := (br h).2 c9
        exact B157 x1 v _ _ _ h hP hD hS (lv_sub hl [0, 1] rfl)
      · replace h := (br h).1 c9
        refine lv_aload_n hx hb dX12_primary_148 rfl (lv_at hl 0 rfl) ?_
        refine gf_X12_22 (x := v.1 22) hx hb hts hown hK hP rfl dX12_primary_149 ?_
        refine lv_bipush (v := 15) hx hb dX12_primary_152 (by decide) ?_
        refine lv_icmp_ge (tgt := 162) hx hb dX12_primary_154 (by decide) (fun c9 => ?_) (fun c9 => ?_)
        · replace h := (br h).1 c9
          exact B162 x1 v _ _ _ h hP hD hS (lv_sub hl [0, 1] rfl)
        · replace h := (br h).2 c9
          exact B157 x1 v _ _ _ h hP hD hS (lv_sub hl [0, 1] rfl)
  have B114 : ∀ (z0 : Int32) (v : VV) (H : Heap) (locs : List Loc) (ls : Array Slot), f_X12_primary_b114 N ex v z0 = some res → va_P G vwCl (cX12 cy ad v) H → va_D A (cX12 cy ad v) → va_S A s.heap H locs → lv_has ls 2 [(0, .ref (ad 0))] → W p l e (rmX (fe + 7) (le + 149)) s m args below meth c H locs 0 0 (MQ below (mQv G cy A (cX12 cy ad res)) args s 0 0 A) (F0 m 114 ls [.int z0]) := by
    intro z0 v H locs ls h hP hD hS hl
    delta f_X12_primary_b114 at h
    refine lv_istore_n (lv' := [(1, .int z0), (0, .ref (ad 0))]) hx hb dX12_primary_114 rfl hl (by decide) rfl (fun ls hl => ?_)
    refine lv_iload_n hx hb dX12_primary_115 rfl (lv_at hl 0 rfl) ?_
    refine lv_if_eq (tgt := 137) hx hb dX12_primary_116 (by decide) (fun c9 => ?_) (fun c9 => ?_)
    · replace h := (br h).1 c9
      exact B137 z0 v _ _ _ h hP hD hS (lv_sub hl [1, 0] rfl)
    · replace h := (br h).2 c9
      refine lv_aload_n hx hb dX12_primary_119 rfl (lv_at hl 1 rfl) ?_
      refine gf_X12_22 (x := v.1 22) hx hb hts hown hK hP rfl dX12_primary_120 ?_
      refine lv_sipush (v := 9999) hx hb dX12_primary_123 (by decide) ?_
      refine lv_icmp_le (tgt := 137) hx hb dX12_primary_126 (by decide) (fun c9 => ?_) (fun c9 => ?_)
      · replace h := (br h).1 c9
        exact B137 z0 v _ _ _ h hP hD hS (lv_sub hl [1, 0] rfl)
      · replace h := (br h).2 c9
        refine lv_aload_n hx hb dX12_primary_129 rfl (lv_at hl 1 rfl) ?_
        refine lv_iconst (v := 2) hx hb dX12_primary_130 (by decide) ?_
        replace h := bd h
        obtain ⟨q11401, h11402, h⟩ := h
        refine callVv0 (As := [.int 2]) (rest := []) hx hb hml hown hts (k_X12_wrong l G cy ev ad v 2 q11401 h11402) wm_22_2 wm_22_3 wm_22_4 wm_1_5 wm_22_5 hd_X12_wrong ⟨by simp only [rmX]; omega, by simp only [rmX]; omega⟩ hK hP hD hS hA hE (va_recv hK hP (ci := 12) (q0 := 0) rfl rfl) rfl rfl hl.1 (Nat.le_of_ble_eq_true rfl) dX12_primary_131 (fun H locs hP hD hS => ?_)
        refine lv_goto (tgt := 162) hx hb dX12_primary_134 (by decide) ?_
        exact B162 z0 q11401 _ _ _ h hP hD hS (lv_sub hl [1, 0] rfl)
  have B78 : ∀ (v : VV) (H : Heap) (locs : List Loc) (ls : Array Slot), f_X12_primary_b78 N ex v = some res → va_P G vwCl (cX12 cy ad v) H → va_D A (cX12 cy ad v) → va_S A s.heap H locs → lv_has ls 2 [(0, .ref (ad 0))] → W p l e (rmX (fe + 7) (le + 149)) s m args below meth c H locs 0 0 (MQ below (mQv G cy A (cX12 cy ad res)) args s 0 0 A) (F0 m 78 ls []) := by
    intro v H locs ls h hP hD hS hl
    delta f_X12_primary_b78 at h
    refine lv_aload_n hx hb dX12_primary_78 rfl (lv_at hl 0 rfl) ?_
    refine gf_X12_23 (x := v.1 23) hx hb hts hown hK hP rfl dX12_primary_79 ?_
    refine lv_if_eq (tgt := 86) hx hb dX12_primary_82 (by decide) (fun c9 => ?_) (fun c9 => ?_)
    · replace h := (br h).1 c9
      refine lv_aload_n hx hb dX12_primary_86 rfl (lv_at hl 0 rfl) ?_
      refine lv_dup hx hb dX12_primary_87 rfl ?_
      refine gf_X12_27 (x := v.1 27) hx hb hts hown hK hP rfl dX12_primary_88 ?_
      refine lv_iconst (v := 1) hx hb dX12_primary_91 (by decide) ?_
      refine lv_isub hx hb dX12_primary_92 ?_
      refine pf_X12_27 hx hb hts hown hK hP hD hS dX12_primary_93 (fun H locs hP hD hS => ?_)
      refine lv_aload_n hx hb dX12_primary_96 rfl (lv_at hl 0 rfl) ?_
      replace h := bd h
      obtain ⟨q7801, h7802, h⟩ := h
      refine callVv0 (As := []) (rest := []) hx hb hml hown hts (k_X12_token l G cy ev N ad (si v 27 ((v.1 27) - 1)) q7801 h7802) wm_20_15 wm_20_16 wm_20_17 wm_1_5 wm_20_18 hd_X12_token ⟨by simp only [rmX]; omega, by simp only [rmX]; omega⟩ hK hP hD hS hA hE (va_recv hK hP (ci := 12) (q0 := 0) rfl rfl) rfl rfl hl.1 (Nat.le_of_ble_eq_true rfl) dX12_primary_97 (fun H locs hP hD hS => ?_)
      exact retV (fw := fun q => cX12 cy ad q) h hx hb hr hlocks hK hP hD hS dX12_primary_100
    · replace h := (br h).2 c9
      exact retV (fw := fun q => cX12 cy ad q) h hx hb hr hlocks hK hP hD hS dX12_primary_85
  have B31 : ∀ (v : VV) (H : Heap) (locs : List Loc) (ls : Array Slot), f_X12_primary_b31 N ex v = some res → va_P G vwCl (cX12 cy ad v) H → va_D A (cX12 cy ad v) → va_S A s.heap H locs → lv_has ls 2 [(0, .ref (ad 0))] → W p l e (rmX (fe + 7) (le + 149)) s m args below meth c H locs 0 0 (MQ below (mQv G cy A (cX12 cy ad res)) args s 0 0 A) (F0 m 31 ls []) := by
    intro v H locs ls h hP hD hS hl
    delta f_X12_primary_b31 at h
    refine lv_aload_n hx hb dX12_primary_31 rfl (lv_at hl 0 rfl) ?_
    refine gf_X12_23 (x := v.1 23) hx hb hts hown hK hP rfl dX12_primary_32 ?_
    refine lv_if_eq (tgt := 39) hx hb dX12_primary_35 (by decide) (fun c9 => ?_) (fun c9 => ?_)
    · replace h := (br h).1 c9
      refine lv_aload_n hx hb dX12_primary_39 rfl (lv_at hl 0 rfl) ?_
      refine lv_dup hx hb dX12_primary_40 rfl ?_
      refine gf_X12_27 (x := v.1 27) hx hb hts hown hK hP rfl dX12_primary_41 ?_
      refine lv_iconst (v := 1) hx hb dX12_primary_44 (by decide) ?_
      refine lv_iadd hx hb dX12_primary_45 ?_
      refine pf_X12_27 hx hb hts hown hK hP hD hS dX12_primary_46 (fun H locs hP hD hS => ?_)
      refine lv_aload_n hx hb dX12_primary_49 rfl (lv_at hl 0 rfl) ?_
      replace h := bd h
      obtain ⟨q3101, h3102, h⟩ := h
      refine callVv0 (As := []) (rest := []) hx hb hml hown hts (k_X12_token l G cy ev N ad (si v 27 ((v.1 27) + 1)) q3101 h3102) wm_20_15 wm_20_16 wm_20_17 wm_1_5 wm_20_18 hd_X12_token ⟨by simp only [rmX]; omega, by simp only [rmX]; omega⟩ hK hP hD hS hA hE (va_recv hK hP (ci := 12) (q0 := 0) rfl rfl) rfl rfl hl.1 (Nat.le_of_ble_eq_true rfl) dX12_primary_50 (fun H locs hP hD hS => ?_)
      refine lv_aload_n hx hb dX12_primary_53 rfl (lv_at hl 0 rfl) ?_
      replace h := bd h
      obtain ⟨q3103, h3104, h⟩ := h
      refine callVv0 (As := []) (rest := []) hx hb hml hown hts (hex ad q3101 q3103 h3104) wm_23_5 wm_23_6 wm_23_7 wm_1_5 wm_23_8 hd_X12_expression ⟨by simp only [rmX]; omega, by simp only [rmX]; omega⟩ hK hP hD hS hA hE (va_recv hK hP (ci := 12) (q0 := 0) rfl rfl) rfl rfl hl.1 (Nat.le_of_ble_eq_true rfl) dX12_primary_54 (fun H locs hP hD hS => ?_)
      refine lv_aload_n hx hb dX12_primary_57 rfl (lv_at hl 0 rfl) ?_
      refine gf_X12_23 (x := q3103.1 23) hx hb hts hown hK hP rfl dX12_primary_58 ?_
      refine lv_if_ne (tgt := 78) hx hb dX12_primary_61 (by decide) (fun c9 => ?_) (fun c9 => ?_)
      · replace h := (br h).2 c9
        exact B78 q3103 _ _ _ h hP hD hS (lv_sub hl [0] rfl)
      · replace h := (br h).1 c9
        refine lv_aload_n hx hb dX12_primary_64 rfl (lv_at hl 0 rfl) ?_
        refine lv_bipush (v := 41) hx hb dX12_primary_65 (by decide) ?_
        replace h := bd h
        obtain ⟨q3105, h3106, h⟩ := h
        refine callVi0 (As := [.int 41]) (rest := []) hx hb hml hown hts (k_X12_isSign l G cy ev ad q3103 41 q3105 h3106) wm_24_13 wm_24_14 wm_24_15 wm_1_5 wm_24_16 hd_X12_isSign ⟨by simp only [rmX]; omega, by simp only [rmX]; omega⟩ hK hP hD hS hA hE (va_recv hK hP (ci := 12) (q0 := 0) rfl rfl) rfl rfl hl.1 (Nat.le_of_ble_eq_true rfl) dX12_primary_67 (fun H locs hP hD hS => ?_)
        refine lv_if_ne (tgt := 78) hx hb dX12_primary_70 (by decide) (fun c9 => ?_) (fun c9 => ?_)
        · replace h := (br h).2 c9
          exact B78 q3103 _ _ _ h hP hD hS (lv_sub hl [0] rfl)
        · replace h := (br h).1 c9
          refine lv_aload_n hx hb dX12_primary_73 rfl (lv_at hl 0 rfl) ?_
          refine lv_iconst (v := 1) hx hb dX12_primary_74 (by decide) ?_
          replace h := bd h
          obtain ⟨q3107, h3108, h⟩ := h
          refine callVv0 (As := [.int 1]) (rest := []) hx hb hml hown hts (k_X12_wrong l G cy ev ad q3103 1 q3107 h3108) wm_22_2 wm_22_3 wm_22_4 wm_1_5 wm_22_5 hd_X12_wrong ⟨by simp only [rmX]; omega, by simp only [rmX]; omega⟩ hK hP hD hS hA hE (va_recv hK hP (ci := 12) (q0 := 0) rfl rfl) rfl rfl hl.1 (Nat.le_of_ble_eq_true rfl) dX12_primary_75 (fun H locs hP hD hS => ?_)
          exact B78 q3107 _ _ _ h hP hD hS (lv_sub hl [0] rfl)
    · replace h := (br h).2 c9
      exact retV (fw := fun q => cX12 cy ad q) h hx hb hr hlocks hK hP hD hS dX12_primary_38
  delta f_X12_primary at h
  refine lv_aload_n hx hb dX12_primary_0 rfl (lv_at hl 0 rfl) ?_
  refine gf_X12_23 (x := v.1 23) hx hb hts hown hK hP rfl dX12_primary_1 ?_
  refine lv_if_eq (tgt := 8) hx hb dX12_primary_4 (by decide) (fun c9 => ?_) (fun c9 => ?_)
  · replace h := (br h).1 c9
    refine lv_aload_n hx hb dX12_primary_8 rfl (lv_at hl 0 rfl) ?_
    refine lv_bipush (v := 40) hx hb dX12_primary_9 (by decide) ?_
    replace h := bd h
    obtain ⟨q1, h2, h⟩ := h
    refine callVi0 (As := [.int 40]) (rest := []) hx hb hml hown hts (k_X12_isSign l G cy ev ad v 40 q1 h2) wm_24_13 wm_24_14 wm_24_15 wm_1_5 wm_24_16 hd_X12_isSign ⟨by simp only [rmX]; omega, by simp only [rmX]; omega⟩ hK hP hD hS hA hE (va_recv hK hP (ci := 12) (q0 := 0) rfl rfl) rfl rfl hl.1 (Nat.le_of_ble_eq_true rfl) dX12_primary_11 (fun H locs hP hD hS => ?_)
    refine lv_if_eq (tgt := 101) hx hb dX12_primary_14 (by decide) (fun c9 => ?_) (fun c9 => ?_)
    · replace h := (br h).1 c9
      refine lv_aload_n hx hb dX12_primary_101 rfl (lv_at hl 0 rfl) ?_
      refine gf_X12_21 (x := v.1 21) hx hb hts hown hK hP rfl dX12_primary_102 ?_
      refine lv_iconst (v := 2) hx hb dX12_primary_105 (by decide) ?_
      refine lv_icmp_ne (tgt := 113) hx hb dX12_primary_106 (by decide) (fun c9 => ?_) (fun c9 => ?_)
      · replace h := (br h).2 c9
        refine lv_iconst (v := 0) hx hb dX12_primary_113 (by decide) ?_
        exact B114 0 v _ _ _ h hP hD hS (lv_sub hl [0] rfl)
      · replace h := (br h).1 c9
        refine lv_iconst (v := 1) hx hb dX12_primary_109 (by decide) ?_
        refine lv_goto (tgt := 114) hx hb dX12_primary_110 (by decide) ?_
        exact B114 1 v _ _ _ h hP hD hS (lv_sub hl [0] rfl)
    · replace h := (br h).2 c9
      refine lv_aload_n hx hb dX12_primary_17 rfl (lv_at hl 0 rfl) ?_
      refine gf_X12_27 (x := v.1 27) hx hb hts hown hK hP rfl dX12_primary_18 ?_
      refine lv_bipush (v := 8) hx hb dX12_primary_21 (by decide) ?_
      refine lv_icmp_ne (tgt := 31) hx hb dX12_primary_23 (by decide) (fun c9 => ?_) (fun c9 => ?_)
      · replace h := (br h).2 c9
        exact B31 v _ _ _ h hP hD hS (lv_sub hl [0] rfl)
      · replace h := (br h).1 c9
        refine lv_aload_n hx hb dX12_primary_26 rfl (lv_at hl 0 rfl) ?_
        refine lv_iconst (v := 2) hx hb dX12_primary_27 (by decide) ?_
        replace h := bd h
        obtain ⟨q3, h4, h⟩ := h
        refine callVv0 (As := [.int 2]) (rest := []) hx hb hml hown hts (k_X12_wrong l G cy ev ad v 2 q3 h4) wm_22_2 wm_22_3 wm_22_4 wm_1_5 wm_22_5 hd_X12_wrong ⟨by simp only [rmX]; omega, by simp only [rmX]; omega⟩ hK hP hD hS hA hE (va_recv hK hP (ci := 12) (q0 := 0) rfl rfl) rfl rfl hl.1 (Nat.le_of_ble_eq_true rfl) dX12_primary_28 (fun H locs hP hD hS => ?_)
        exact B31 q3 _ _ _ h hP hD hS (lv_sub hl [0] rfl)
  · replace h := (br h).2 c9
    exact retV (fw := fun q => cX12 cy ad q) h hx hb hr hlocks hK hP hD hS dX12_primary_7
theorem hd_X12_product : yX12_product.cls = RX12 ∧ yX12_product.cls ≠ "java/lang/invoke/MethodHandle" ∧ yX12_product.cls ≠ "java/lang/invoke/VarHandle" ∧ (parseMethodDescriptor yX12_product.desc).map (fun d => d.parameters.length) = some 0 := ⟨rfl, by decide +kernel, by decide +kernel, by decide +kernel⟩
def f_X12_product_b22 (N : Nat) (ex : VV → Option (VV)) (v : VV)  : Option (((VV) ⊕ (VV))) :=
  bnd (f_X12_knot v) (fun q2201 => bnd (f_X12_goOn N q2201) (fun q2203 => bnd (f_X12_primary N ex q2203) (fun q2205 => bnd (f_X12_puts q2205 2 (v.1 22)) (fun q2207 => some (.inl q2207)))))
def f_X12_product_s4 (N : Nat) (ex : VV → Option (VV)) (v : VV)  : Option (((VV) ⊕ (VV))) :=
  bnd (f_X12_isSign v 42) (fun q401 => if q401 = 0 then bnd (f_X12_isSign v 47) (fun q403 => if q403 = 0 then inrO (some v) else f_X12_product_b22 N ex v) else f_X12_product_b22 N ex v)
def f_X12_product (N : Nat) (ex : VV → Option (VV)) (v : VV) : Option (VV) :=
  bnd (f_X12_primary N ex v) (fun q1 => itr (fun q : VV => f_X12_product_s4 N ex q) N q1)
set_option maxHeartbeats 4000000 in
set_option maxRecDepth 100000 in
theorem k_X12_product (l : Launch) (G : va_G) (cy : Nat → ClassId) (ev : Nat → Nat) (N : Nat) (fe le : Nat) (ex : VV → Option (VV)) (hex : ∀ (ad : Nat → Nat) (v : VV)  (res : VV), ex v = some res → MetV l yX12_expression cX12_expression 1 none fe le G cy ev [.ref (ad 0)] (cX12 cy ad v) (cX12 cy ad res)) (ad : Nat → Nat) (v : VV)  (res : VV) (h : f_X12_product N ex v = some res) : MetV l yX12_product cX12_product 2 none (fe + 8) (le + 170) G cy ev [.ref (ad 0)] (cX12 cy ad v) (cX12 cy ad res) := by
  refine MetQ.start (by decide +kernel) (Nat.le_of_ble_eq_true rfl) (fun p e s m args below meth c A ls hx hb hr hml hown hts hlocks hK hP hD hA hl hE => ?_)
  have hS : va_S A s.heap s.heap [] := va_S.rf
  have hown : s.vm.findClass RX12 = some m.cls := hown
  have hl : lv_has ls 2 [(0, .ref (ad 0))] := hl
  have L4 : ∀ (n : Nat) (v : VV) (H : Heap) (locs : List Loc) (ls : Array Slot), itr (fun q : VV => f_X12_product_s4 N ex q) n v = some res → va_P G vwCl (cX12 cy ad v) H → va_D A (cX12 cy ad v) → va_S A s.heap H locs → lv_has ls 2 [(0, .ref (ad 0))] → W p l e (rmX (fe + 8) (le + 170)) s m args below meth c H locs 0 0 (MQ below (mQv G cy A (cX12 cy ad res)) args s 0 0 A) (F0 m 4 ls []) := by
    intro n
    induction n with
    | zero => intro v H locs ls h; exact (itr_zero h).elim
    | succ n ih1 =>
      intro v H locs ls h hP hD hS hl
      obtain ⟨y1, h, hy1⟩ := itr_inv h
      have h : f_X12_product_s4 N ex v = some y1 := h
      have B22 : ∀ (v : VV) (H : Heap) (locs : List Loc) (ls : Array Slot), f_X12_product_b22 N ex v = some y1 → va_P G vwCl (cX12 cy ad v) H → va_D A (cX12 cy ad v) → va_S A s.heap H locs → lv_has ls 2 [(0, .ref (ad 0))] → W p l e (rmX (fe + 8) (le + 170)) s m args below meth c H locs 0 0 (MQ below (mQv G cy A (cX12 cy ad res)) args s 0 0 A) (F0 m 22 ls []) := by
        intro v H locs ls h hP hD hS hl
        delta f_X12_product_b22 at h
        refine lv_aload_n hx hb dX12_product_22 rfl (lv_at hl 0 rfl) ?_
        refine gf_X12_22 (x := v.1 22) hx hb hts hown hK hP rfl dX12_product_23 ?_
        refine lv_istore_n (lv' := [(1, .int (v.1 22)), (0, .ref (ad 0))]) hx hb dX12_product_26 rfl hl (by decide) rfl (fun ls hl => ?_)
        refine lv_aload_n hx hb dX12_product_27 rfl (lv_at hl 1 rfl) ?_
        replace h := bd h
        obtain ⟨q2201, h2202, h⟩ := h
        refine callVv0 (As := []) (rest := []) hx hb hml hown hts (k_X12_knot l G cy ev ad v q2201 h2202) wm_23_16 wm_23_17 wm_23_18 wm_1_5 wm_23_19 hd_X12_knot ⟨by simp only [rmX]; omega, by simp only [rmX]; omega⟩ hK hP hD hS hA hE (va_recv hK hP (ci := 12) (q0 := 0) rfl rfl) rfl rfl hl.1 (Nat.le_of_ble_eq_true rfl) dX12_product_28 (fun H locs hP hD hS => ?_)
        refine lv_aload_n hx hb dX12_product_31 rfl (lv_at hl 1 rfl) ?_
        replace h := bd h
        obtain ⟨q2203, h2204, h⟩ := h
        refine callVv0 (As := []) (rest := []) hx hb hml hown hts (k_X12_goOn l G cy ev N ad q2201 q2203 h2204) wm_23_20 wm_23_21 wm_23_22 wm_1_5 wm_23_23 hd_X12_goOn ⟨by simp only [rmX]; omega, by simp only [rmX]; omega⟩ hK hP hD hS hA hE (va_recv hK hP (ci := 12) (q0 := 0) rfl rfl) rfl rfl hl.1 (Nat.le_of_ble_eq_true rfl) dX12_product_32 (fun H locs hP hD hS => ?_)
        refine lv_aload_n hx hb dX12_product_35 rfl (lv_at hl 1 rfl) ?_
        replace h := bd h
        obtain ⟨q2205, h2206, h⟩ := h
        refine callVv0 (As := []) (rest := []) hx hb hml hown hts (k_X12_primary l G cy ev N fe le ex hex ad q2203 q2205 h2206) wm_24_18 wm_24_19 wm_24_20 wm_1_5 wm_24_12 hd_X12_primary ⟨by simp only [rmX]; omega, by simp only [rmX]; omega⟩ hK hP hD hS hA hE (va_recv hK hP (ci := 12) (q0 := 0) rfl rfl) rfl rfl hl.1 (Nat.le_of_ble_eq_true rfl) dX12_product_36 (fun H locs hP hD hS => ?_)
        refine lv_aload_n hx hb dX12_product_39 rfl (lv_at hl 1 rfl) ?_
        refine lv_iconst (v := 2) hx hb dX12_product_40 (by decide) ?_
        refine lv_iload_n hx hb dX12_product_41 rfl (lv_at hl 0 rfl) ?_
        replace h := bd h
        obtain ⟨q2207, h2208, h⟩ := h
        refine callVv0 (As := [.int 2, .int (v.1 22)]) (rest := []) hx hb hml hown hts (k_X12_puts l G cy ev ad q2205 2 (v.1 22) q2207 h2208) wm_24_0 wm_24_1 wm_24_2 wm_1_5 wm_24_3 hd_X12_puts ⟨by simp only [rmX]; omega, by simp only [rmX]; omega⟩ hK hP hD hS hA hE (va_recv hK hP (ci := 12) (q0 := 0) rfl rfl) rfl rfl hl.1 (Nat.le_of_ble_eq_true rfl) dX12_product_42 (fun H locs hP hD hS => ?_)
        refine lv_goto (tgt := 4) hx hb dX12_product_45 (by decide) ?_
        replace h := itr_back h hy1
        exact ih1 q2207 _ _ _ h hP hD hS (lv_sub hl [1] rfl)
      delta f_X12_product_s4 at h
      refine lv_aload_n hx hb dX12_product_4 rfl (lv_at hl 0 rfl) ?_
      refine lv_bipush (v := 42) hx hb dX12_product_5 (by decide) ?_
      replace h := bd h
      obtain ⟨q401, h402, h⟩ := h
      refine callVi0 (As := [.int 42]) (rest := []) hx hb hml hown hts (k_X12_isSign l G cy ev ad v 42 q401 h402) wm_24_13 wm_24_14 wm_24_15 wm_1_5 wm_24_16 hd_X12_isSign ⟨by simp only [rmX]; omega, by simp only [rmX]; omega⟩ hK hP hD hS hA hE (va_recv hK hP (ci := 12) (q0 := 0) rfl rfl) rfl rfl hl.1 (Nat.le_of_ble_eq_true rfl) dX12_product_7 (fun H locs hP hD hS => ?_)
      refine lv_if_ne (tgt := 22) hx hb dX12_product_10 (by decide) (fun c9 => ?_) (fun c9 => ?_)
      · replace h := (br h).2 c9
        exact B22 v _ _ _ h hP hD hS (lv_sub hl [0] rfl)
      · replace h := (br h).1 c9
        refine lv_aload_n hx hb dX12_product_13 rfl (lv_at hl 0 rfl) ?_
        refine lv_bipush (v := 47) hx hb dX12_product_14 (by decide) ?_
        replace h := bd h
        obtain ⟨q403, h404, h⟩ := h
        refine callVi0 (As := [.int 47]) (rest := []) hx hb hml hown hts (k_X12_isSign l G cy ev ad v 47 q403 h404) wm_24_13 wm_24_14 wm_24_15 wm_1_5 wm_24_16 hd_X12_isSign ⟨by simp only [rmX]; omega, by simp only [rmX]; omega⟩ hK hP hD hS hA hE (va_recv hK hP (ci := 12) (q0 := 0) rfl rfl) rfl rfl hl.1 (Nat.le_of_ble_eq_true rfl) dX12_product_16 (fun H locs hP hD hS => ?_)
        refine lv_if_eq (tgt := 48) hx hb dX12_product_19 (by decide) (fun c9 => ?_) (fun c9 => ?_)
        · replace h := (br h).1 c9
          replace h := itr_exit h hy1
          exact retV (fw := fun q => cX12 cy ad q) h hx hb hr hlocks hK hP hD hS dX12_product_48
        · replace h := (br h).2 c9
          exact B22 v _ _ _ h hP hD hS (lv_sub hl [0] rfl)
  delta f_X12_product at h
  refine lv_aload_n hx hb dX12_product_0 rfl (lv_at hl 0 rfl) ?_
  replace h := bd h
  obtain ⟨q1, h2, h⟩ := h
  refine callVv0 (As := []) (rest := []) hx hb hml hown hts (k_X12_primary l G cy ev N fe le ex hex ad v q1 h2) wm_24_18 wm_24_19 wm_24_20 wm_1_5 wm_24_12 hd_X12_primary ⟨by simp only [rmX]; omega, by simp only [rmX]; omega⟩ hK hP hD hS hA hE (va_recv hK hP (ci := 12) (q0 := 0) rfl rfl) rfl rfl hl.1 (Nat.le_of_ble_eq_true rfl) dX12_product_1 (fun H locs hP hD hS => ?_)
  exact L4  N q1 _ _ _ h hP hD hS (lv_sub hl [0] rfl)
theorem hd_X12_sum : yX12_sum.cls = RX12 ∧ yX12_sum.cls ≠ "java/lang/invoke/MethodHandle" ∧ yX12_sum.cls ≠ "java/lang/invoke/VarHandle" ∧ (parseMethodDescriptor yX12_sum.desc).map (fun d => d.parameters.length) = some 0 := ⟨rfl, by decide +kernel, by decide +kernel, by decide +kernel⟩
def f_X12_sum_b22 (N : Nat) (ex : VV → Option (VV)) (v : VV)  : Option (((VV) ⊕ (VV))) :=
  bnd (f_X12_knot v) (fun q2201 => bnd (f_X12_goOn N q2201) (fun q2203 => bnd (f_X12_product N ex q2203) (fun q2205 => bnd (f_X12_puts q2205 2 (v.1 22)) (fun q2207 => some (.inl q2207)))))
def f_X12_sum_s4 (N : Nat) (ex : VV → Option (VV)) (v : VV)  : Option (((VV) ⊕ (VV))) :=
  bnd (f_X12_isSign v 43) (fun q401 => if q401 = 0 then bnd (f_X12_isSign v 45) (fun q403 => if q403 = 0 then inrO (some v) else f_X12_sum_b22 N ex v) else f_X12_sum_b22 N ex v)
def f_X12_sum (N : Nat) (ex : VV → Option (VV)) (v : VV) : Option (VV) :=
  bnd (f_X12_product N ex v) (fun q1 => itr (fun q : VV => f_X12_sum_s4 N ex q) N q1)
set_option maxHeartbeats 4000000 in
set_option maxRecDepth 100000 in
theorem k_X12_sum (l : Launch) (G : va_G) (cy : Nat → ClassId) (ev : Nat → Nat) (N : Nat) (fe le : Nat) (ex : VV → Option (VV)) (hex : ∀ (ad : Nat → Nat) (v : VV)  (res : VV), ex v = some res → MetV l yX12_expression cX12_expression 1 none fe le G cy ev [.ref (ad 0)] (cX12 cy ad v) (cX12 cy ad res)) (ad : Nat → Nat) (v : VV)  (res : VV) (h : f_X12_sum N ex v = some res) : MetV l yX12_sum cX12_sum 2 none (fe + 9) (le + 191) G cy ev [.ref (ad 0)] (cX12 cy ad v) (cX12 cy ad res) := by
  refine MetQ.start (by decide +kernel) (Nat.le_of_ble_eq_true rfl) (fun p e s m args below meth c A ls hx hb hr hml hown hts hlocks hK hP hD hA hl hE => ?_)
  have hS : va_S A s.heap s.heap [] := va_S.rf
  have hown : s.vm.findClass RX12 = some m.cls := hown
  have hl : lv_has ls 2 [(0, .ref (ad 0))] := hl
  have L4 : ∀ (n : Nat) (v : VV) (H : Heap) (locs : List Loc) (ls : Array Slot), itr (fun q : VV => f_X12_sum_s4 N ex q) n v = some res → va_P G vwCl (cX12 cy ad v) H → va_D A (cX12 cy ad v) → va_S A s.heap H locs → lv_has ls 2 [(0, .ref (ad 0))] → W p l e (rmX (fe + 9) (le + 191)) s m args below meth c H locs 0 0 (MQ below (mQv G cy A (cX12 cy ad res)) args s 0 0 A) (F0 m 4 ls []) := by
    intro n
    induction n with
    | zero => intro v H locs ls h; exact (itr_zero h).elim
    | succ n ih1 =>
      intro v H locs ls h hP hD hS hl
      obtain ⟨y1, h, hy1⟩ := itr_inv h
      have h : f_X12_sum_s4 N ex v = some y1 := h
      have B22 : ∀ (v : VV) (H : Heap) (locs : List Loc) (ls : Array Slot), f_X12_sum_b22 N ex v = some y1 → va_P G vwCl (cX12 cy ad v) H → va_D A (cX12 cy ad v) → va_S A s.heap H locs → lv_has ls 2 [(0, .ref (ad 0))] → W p l e (rmX (fe + 9) (le + 191)) s m args below meth c H locs 0 0 (MQ below (mQv G cy A (cX12 cy ad res)) args s 0 0 A) (F0 m 22 ls []) := by
        intro v H locs ls h hP hD hS hl
        delta f_X12_sum_b22 at h
        refine lv_aload_n hx hb dX12_sum_22 rfl (lv_at hl 0 rfl) ?_
        refine gf_X12_22 (x := v.1 22) hx hb hts hown hK hP rfl dX12_sum_23 ?_
        refine lv_istore_n (lv' := [(1, .int (v.1 22)), (0, .ref (ad 0))]) hx hb dX12_sum_26 rfl hl (by decide) rfl (fun ls hl => ?_)
        refine lv_aload_n hx hb dX12_sum_27 rfl (lv_at hl 1 rfl) ?_
        replace h := bd h
        obtain ⟨q2201, h2202, h⟩ := h
        refine callVv0 (As := []) (rest := []) hx hb hml hown hts (k_X12_knot l G cy ev ad v q2201 h2202) wm_23_16 wm_23_17 wm_23_18 wm_1_5 wm_23_19 hd_X12_knot ⟨by simp only [rmX]; omega, by simp only [rmX]; omega⟩ hK hP hD hS hA hE (va_recv hK hP (ci := 12) (q0 := 0) rfl rfl) rfl rfl hl.1 (Nat.le_of_ble_eq_true rfl) dX12_sum_28 (fun H locs hP hD hS => ?_)
        refine lv_aload_n hx hb dX12_sum_31 rfl (lv_at hl 1 rfl) ?_
        replace h := bd h
        obtain ⟨q2203, h2204, h⟩ := h
        refine callVv0 (As := []) (rest := []) hx hb hml hown hts (k_X12_goOn l G cy ev N ad q2201 q2203 h2204) wm_23_20 wm_23_21 wm_23_22 wm_1_5 wm_23_23 hd_X12_goOn ⟨by simp only [rmX]; omega, by simp only [rmX]; omega⟩ hK hP hD hS hA hE (va_recv hK hP (ci := 12) (q0 := 0) rfl rfl) rfl rfl hl.1 (Nat.le_of_ble_eq_true rfl) dX12_sum_32 (fun H locs hP hD hS => ?_)
        refine lv_aload_n hx hb dX12_sum_35 rfl (lv_at hl 1 rfl) ?_
        replace h := bd h
        obtain ⟨q2205, h2206, h⟩ := h
        refine callVv0 (As := []) (rest := []) hx hb hml hown hts (k_X12_product l G cy ev N fe le ex hex ad q2203 q2205 h2206) wm_24_22 wm_24_23 wm_25_0 wm_1_5 wm_24_17 hd_X12_product ⟨by simp only [rmX]; omega, by simp only [rmX]; omega⟩ hK hP hD hS hA hE (va_recv hK hP (ci := 12) (q0 := 0) rfl rfl) rfl rfl hl.1 (Nat.le_of_ble_eq_true rfl) dX12_sum_36 (fun H locs hP hD hS => ?_)
        refine lv_aload_n hx hb dX12_sum_39 rfl (lv_at hl 1 rfl) ?_
        refine lv_iconst (v := 2) hx hb dX12_sum_40 (by decide) ?_
        refine lv_iload_n hx hb dX12_sum_41 rfl (lv_at hl 0 rfl) ?_
        replace h := bd h
        obtain ⟨q2207, h2208, h⟩ := h
        refine callVv0 (As := [.int 2, .int (v.1 22)]) (rest := []) hx hb hml hown hts (k_X12_puts l G cy ev ad q2205 2 (v.1 22) q2207 h2208) wm_24_0 wm_24_1 wm_24_2 wm_1_5 wm_24_3 hd_X12_puts ⟨by simp only [rmX]; omega, by simp only [rmX]; omega⟩ hK hP hD hS hA hE (va_recv hK hP (ci := 12) (q0 := 0) rfl rfl) rfl rfl hl.1 (Nat.le_of_ble_eq_true rfl) dX12_sum_42 (fun H locs hP hD hS => ?_)
        refine lv_goto (tgt := 4) hx hb dX12_sum_45 (by decide) ?_
        replace h := itr_back h hy1
        exact ih1 q2207 _ _ _ h hP hD hS (lv_sub hl [1] rfl)
      delta f_X12_sum_s4 at h
      refine lv_aload_n hx hb dX12_sum_4 rfl (lv_at hl 0 rfl) ?_
      refine lv_bipush (v := 43) hx hb dX12_sum_5 (by decide) ?_
      replace h := bd h
      obtain ⟨q401, h402, h⟩ := h
      refine callVi0 (As := [.int 43]) (rest := []) hx hb hml hown hts (k_X12_isSign l G cy ev ad v 43 q401 h402) wm_24_13 wm_24_14 wm_24_15 wm_1_5 wm_24_16 hd_X12_isSign ⟨by simp only [rmX]; omega, by simp only [rmX]; omega⟩ hK hP hD hS hA hE (va_recv hK hP (ci := 12) (q0 := 0) rfl rfl) rfl rfl hl.1 (Nat.le_of_ble_eq_true rfl) dX12_sum_7 (fun H locs hP hD hS => ?_)
      refine lv_if_ne (tgt := 22) hx hb dX12_sum_10 (by decide) (fun c9 => ?_) (fun c9 => ?_)
      · replace h := (br h).2 c9
        exact B22 v _ _ _ h hP hD hS (lv_sub hl [0] rfl)
      · replace h := (br h).1 c9
        refine lv_aload_n hx hb dX12_sum_13 rfl (lv_at hl 0 rfl) ?_
        refine lv_bipush (v := 45) hx hb dX12_sum_14 (by decide) ?_
        replace h := bd h
        obtain ⟨q403, h404, h⟩ := h
        refine callVi0 (As := [.int 45]) (rest := []) hx hb hml hown hts (k_X12_isSign l G cy ev ad v 45 q403 h404) wm_24_13 wm_24_14 wm_24_15 wm_1_5 wm_24_16 hd_X12_isSign ⟨by simp only [rmX]; omega, by simp only [rmX]; omega⟩ hK hP hD hS hA hE (va_recv hK hP (ci := 12) (q0 := 0) rfl rfl) rfl rfl hl.1 (Nat.le_of_ble_eq_true rfl) dX12_sum_16 (fun H locs hP hD hS => ?_)
        refine lv_if_eq (tgt := 48) hx hb dX12_sum_19 (by decide) (fun c9 => ?_) (fun c9 => ?_)
        · replace h := (br h).1 c9
          replace h := itr_exit h hy1
          exact retV (fw := fun q => cX12 cy ad q) h hx hb hr hlocks hK hP hD hS dX12_sum_48
        · replace h := (br h).2 c9
          exact B22 v _ _ _ h hP hD hS (lv_sub hl [0] rfl)
  delta f_X12_sum at h
  refine lv_aload_n hx hb dX12_sum_0 rfl (lv_at hl 0 rfl) ?_
  replace h := bd h
  obtain ⟨q1, h2, h⟩ := h
  refine callVv0 (As := []) (rest := []) hx hb hml hown hts (k_X12_product l G cy ev N fe le ex hex ad v q1 h2) wm_24_22 wm_24_23 wm_25_0 wm_1_5 wm_24_17 hd_X12_product ⟨by simp only [rmX]; omega, by simp only [rmX]; omega⟩ hK hP hD hS hA hE (va_recv hK hP (ci := 12) (q0 := 0) rfl rfl) rfl rfl hl.1 (Nat.le_of_ble_eq_true rfl) dX12_sum_1 (fun H locs hP hD hS => ?_)
  exact L4  N q1 _ _ _ h hP hD hS (lv_sub hl [0] rfl)
theorem hd_X12_negation : yX12_negation.cls = RX12 ∧ yX12_negation.cls ≠ "java/lang/invoke/MethodHandle" ∧ yX12_negation.cls ≠ "java/lang/invoke/VarHandle" ∧ (parseMethodDescriptor yX12_negation.desc).map (fun d => d.parameters.length) = some 0 := ⟨rfl, by decide +kernel, by decide +kernel, by decide +kernel⟩
def f_X12_negation_b87 (N : Nat) (ex : VV → Option (VV)) (rc : VV → Option (VV)) (v : VV)  : Option (VV) :=
  bnd (f_X12_knot v) (fun q8701 => bnd (f_X12_goOn N q8701) (fun q8703 => bnd (f_X12_sum N ex q8703) (fun q8705 => bnd (f_X12_puts q8705 2 (v.1 22)) (fun q8707 => some q8707))))
def f_X12_negation_body (N : Nat) (ex : VV → Option (VV)) (rc : VV → Option (VV)) (v : VV) : Option (VV) :=
  bnd (f_X12_isWord v 14) (fun q1 => if q1 = 0 then bnd (f_X12_sum N ex v) (fun q3 => if q3.1 23 = 0 then if q3.1 21 = 3 then if q3.1 22 = 60 then f_X12_negation_b87 N ex rc q3 else if q3.1 22 = 62 then f_X12_negation_b87 N ex rc q3 else if q3.1 22 = 61 then f_X12_negation_b87 N ex rc q3 else if (256 : Int32) ≤ q3.1 22 then f_X12_negation_b87 N ex rc q3 else some q3 else some q3 else some q3) else bnd (f_X12_knot v) (fun q5 => bnd (f_X12_goOn N q5) (fun q7 => bnd (rc q7) (fun q9 => bnd (f_X12_puts q9 2 260) (fun q11 => some q11)))))
def f_X12_negation (N : Nat) (ex : VV → Option (VV)) : Nat → VV → Option (VV)
  | 0, _ => none
  | d + 1, v => f_X12_negation_body N ex (f_X12_negation N ex d) v
set_option maxHeartbeats 4000000 in
set_option maxRecDepth 100000 in
theorem k_X12_negation (l : Launch) (G : va_G) (cy : Nat → ClassId) (ev : Nat → Nat) (N : Nat) (fe le : Nat) (ex : VV → Option (VV)) (hex : ∀ (ad : Nat → Nat) (v : VV)  (res : VV), ex v = some res → MetV l yX12_expression cX12_expression 1 none fe le G cy ev [.ref (ad 0)] (cX12 cy ad v) (cX12 cy ad res)) : ∀ (d : Nat) (ad : Nat → Nat) (v : VV)  (res : VV), f_X12_negation N ex d v = some res → MetV l yX12_negation cX12_negation 2 none (fe + 10 + 1 * d) (le + 212 + 21 * d) G cy ev [.ref (ad 0)] (cX12 cy ad v) (cX12 cy ad res) := by
  intro d
  induction d with
  | zero => intro ad v res h; exact nomatch h
  | succ d ihd =>
    intro ad v res h
    have h : f_X12_negation_body N ex (f_X12_negation N ex d) v = some res := h
    refine MetQ.start (by decide +kernel) (Nat.le_of_ble_eq_true rfl) (fun p e s m args below meth c A ls hx hb hr hml hown hts hlocks hK hP hD hA hl hE => ?_)
    have hS : va_S A s.heap s.heap [] := va_S.rf
    have hown : s.vm.findClass RX12 = some m.cls := hown
    have hl : lv_has ls 2 [(0, .ref (ad 0))] := hl
    have B87 : ∀ (v : VV) (H : Heap) (locs : List Loc) (ls : Array Slot), f_X12_negation_b87 N ex (f_X12_negation N ex d) v = some res → va_P G vwCl (cX12 cy ad v) H → va_D A (cX12 cy ad v) → va_S A s.heap H locs → lv_has ls 2 [(0, .ref (ad 0))] → W p l e (rmX (fe + 10 + 1 * (d + 1)) (le + 212 + 21 * (d + 1))) s m args below meth c H locs 0 0 (MQ below (mQv G cy A (cX12 cy ad res)) args s 0 0 A) (F0 m 87 ls []) := by
      intro v H locs ls h hP hD hS hl
      delta f_X12_negation_b87 at h
      refine lv_aload_n hx hb dX12_negation_87 rfl (lv_at hl 0 rfl) ?_
      refine gf_X12_22 (x := v.1 22) hx hb hts hown hK hP rfl dX12_negation_88 ?_
      refine lv_istore_n (lv' := [(1, .int (v.1 22)), (0, .ref (ad 0))]) hx hb dX12_negation_91 rfl hl (by decide) rfl (fun ls hl => ?_)
      refine lv_aload_n hx hb dX12_negation_92 rfl (lv_at hl 1 rfl) ?_
      replace h := bd h
      obtain ⟨q8701, h8702, h⟩ := h
      refine callVv0 (As := []) (rest := []) hx hb hml hown hts (k_X12_knot l G cy ev ad v q8701 h8702) wm_23_16 wm_23_17 wm_23_18 wm_1_5 wm_23_19 hd_X12_knot ⟨by simp only [rmX]; omega, by simp only [rmX]; omega⟩ hK hP hD hS hA hE (va_recv hK hP (ci := 12) (q0 := 0) rfl rfl) rfl rfl hl.1 (Nat.le_of_ble_eq_true rfl) dX12_negation_93 (fun H locs hP hD hS => ?_)
      refine lv_aload_n hx hb dX12_negation_96 rfl (lv_at hl 1 rfl) ?_
      replace h := bd h
      obtain ⟨q8703, h8704, h⟩ := h
      refine callVv0 (As := []) (rest := []) hx hb hml hown hts (k_X12_goOn l G cy ev N ad q8701 q8703 h8704) wm_23_20 wm_23_21 wm_23_22 wm_1_5 wm_23_23 hd_X12_goOn ⟨by simp only [rmX]; omega, by simp only [rmX]; omega⟩ hK hP hD hS hA hE (va_recv hK hP (ci := 12) (q0 := 0) rfl rfl) rfl rfl hl.1 (Nat.le_of_ble_eq_true rfl) dX12_negation_97 (fun H locs hP hD hS => ?_)
      refine lv_aload_n hx hb dX12_negation_100 rfl (lv_at hl 1 rfl) ?_
      replace h := bd h
      obtain ⟨q8705, h8706, h⟩ := h
      refine callVv0 (As := []) (rest := []) hx hb hml hown hts (k_X12_sum l G cy ev N fe le ex hex ad q8703 q8705 h8706) wm_24_9 wm_24_10 wm_24_11 wm_1_5 wm_24_21 hd_X12_sum ⟨by simp only [rmX]; omega, by simp only [rmX]; omega⟩ hK hP hD hS hA hE (va_recv hK hP (ci := 12) (q0 := 0) rfl rfl) rfl rfl hl.1 (Nat.le_of_ble_eq_true rfl) dX12_negation_101 (fun H locs hP hD hS => ?_)
      refine lv_aload_n hx hb dX12_negation_104 rfl (lv_at hl 1 rfl) ?_
      refine lv_iconst (v := 2) hx hb dX12_negation_105 (by decide) ?_
      refine lv_iload_n hx hb dX12_negation_106 rfl (lv_at hl 0 rfl) ?_
      replace h := bd h
      obtain ⟨q8707, h8708, h⟩ := h
      refine callVv0 (As := [.int 2, .int (v.1 22)]) (rest := []) hx hb hml hown hts (k_X12_puts l G cy ev ad q8705 2 (v.1 22) q8707 h8708) wm_24_0 wm_24_1 wm_24_2 wm_1_5 wm_24_3 hd_X12_puts ⟨by simp only [rmX]; omega, by simp only [rmX]; omega⟩ hK hP hD hS hA hE (va_recv hK hP (ci := 12) (q0 := 0) rfl rfl) rfl rfl hl.1 (Nat.le_of_ble_eq_true rfl) dX12_negation_107 (fun H locs hP hD hS => ?_)
      exact retV (fw := fun q => cX12 cy ad q) h hx hb hr hlocks hK hP hD hS dX12_negation_110
    delta f_X12_negation_body at h
    refine lv_aload_n hx hb dX12_negation_0 rfl (lv_at hl 0 rfl) ?_
    refine lv_bipush (v := 14) hx hb dX12_negation_1 (by decide) ?_
    replace h := bd h
    obtain ⟨q1, h2, h⟩ := h
    refine callVi0 (As := [.int 14]) (rest := []) hx hb hml hown hts (k_X12_isWord l G cy ev ad v 14 q1 h2) wm_23_12 wm_23_13 wm_23_14 wm_1_5 wm_23_15 hd_X12_isWord ⟨by simp only [rmX]; omega, by simp only [rmX]; omega⟩ hK hP hD hS hA hE (va_recv hK hP (ci := 12) (q0 := 0) rfl rfl) rfl rfl hl.1 (Nat.le_of_ble_eq_true rfl) dX12_negation_3 (fun H locs hP hD hS => ?_)
    refine lv_if_eq (tgt := 30) hx hb dX12_negation_6 (by decide) (fun c9 => ?_) (fun c9 => ?_)
    · replace h := (br h).1 c9
      refine lv_aload_n hx hb dX12_negation_30 rfl (lv_at hl 0 rfl) ?_
      replace h := bd h
      obtain ⟨q3, h4, h⟩ := h
      refine callVv0 (As := []) (rest := []) hx hb hml hown hts (k_X12_sum l G cy ev N fe le ex hex ad v q3 h4) wm_24_9 wm_24_10 wm_24_11 wm_1_5 wm_24_21 hd_X12_sum ⟨by simp only [rmX]; omega, by simp only [rmX]; omega⟩ hK hP hD hS hA hE (va_recv hK hP (ci := 12) (q0 := 0) rfl rfl) rfl rfl hl.1 (Nat.le_of_ble_eq_true rfl) dX12_negation_31 (fun H locs hP hD hS => ?_)
      refine lv_aload_n hx hb dX12_negation_34 rfl (lv_at hl 0 rfl) ?_
      refine gf_X12_23 (x := q3.1 23) hx hb hts hown hK hP rfl dX12_negation_35 ?_
      refine lv_if_ne (tgt := 86) hx hb dX12_negation_38 (by decide) (fun c9 => ?_) (fun c9 => ?_)
      · replace h := (br h).2 c9
        exact retV (fw := fun q => cX12 cy ad q) h hx hb hr hlocks hK hP hD hS dX12_negation_86
      · replace h := (br h).1 c9
        refine lv_aload_n hx hb dX12_negation_41 rfl (lv_at hl 0 rfl) ?_
        refine gf_X12_21 (x := q3.1 21) hx hb hts hown hK hP rfl dX12_negation_42 ?_
        refine lv_iconst (v := 3) hx hb dX12_negation_45 (by decide) ?_
        refine lv_icmp_ne (tgt := 86) hx hb dX12_negation_46 (by decide) (fun c9 => ?_) (fun c9 => ?_)
        · replace h := (br h).2 c9
          exact retV (fw := fun q => cX12 cy ad q) h hx hb hr hlocks hK hP hD hS dX12_negation_86
        · replace h := (br h).1 c9
          refine lv_aload_n hx hb dX12_negation_49 rfl (lv_at hl 0 rfl) ?_
          refine gf_X12_22 (x := q3.1 22) hx hb hts hown hK hP rfl dX12_negation_50 ?_
          refine lv_bipush (v := 60) hx hb dX12_negation_53 (by decide) ?_
          refine lv_icmp_eq (tgt := 87) hx hb dX12_negation_55 (by decide) (fun c9 => ?_) (fun c9 => ?_)
          · replace h := (br h).1 c9
            exact B87 q3 _ _ _ h hP hD hS (lv_sub hl [0] rfl)
          · replace h := (br h).2 c9
            refine lv_aload_n hx hb dX12_negation_58 rfl (lv_at hl 0 rfl) ?_
            refine gf_X12_22 (x := q3.1 22) hx hb hts hown hK hP rfl dX12_negation_59 ?_
            refine lv_bipush (v := 62) hx hb dX12_negation_62 (by decide) ?_
            refine lv_icmp_eq (tgt := 87) hx hb dX12_negation_64 (by decide) (fun c9 => ?_) (fun c9 => ?_)
            · replace h := (br h).1 c9
              exact B87 q3 _ _ _ h hP hD hS (lv_sub hl [0] rfl)
            · replace h := (br h).2 c9
              refine lv_aload_n hx hb dX12_negation_67 rfl (lv_at hl 0 rfl) ?_
              refine gf_X12_22 (x := q3.1 22) hx hb hts hown hK hP rfl dX12_negation_68 ?_
              refine lv_bipush (v := 61) hx hb dX12_negation_71 (by decide) ?_
              refine lv_icmp_eq (tgt := 87) hx hb dX12_negation_73 (by decide) (fun c9 => ?_) (fun c9 => ?_)
              · replace h := (br h).1 c9
                exact B87 q3 _ _ _ h hP hD hS (lv_sub hl [0] rfl)
              · replace h := (br h).2 c9
                refine lv_aload_n hx hb dX12_negation_76 rfl (lv_at hl 0 rfl) ?_
                refine gf_X12_22 (x := q3.1 22) hx hb hts hown hK hP rfl dX12_negation_77 ?_
                refine lv_sipush (v := 256) hx hb dX12_negation_80 (by decide) ?_
                refine lv_icmp_ge (tgt := 87) hx hb dX12_negation_83 (by decide) (fun c9 => ?_) (fun c9 => ?_)
                · replace h := (br h).1 c9
                  exact B87 q3 _ _ _ h hP hD hS (lv_sub hl [0] rfl)
                · replace h := (br h).2 c9
                  exact retV (fw := fun q => cX12 cy ad q) h hx hb hr hlocks hK hP hD hS dX12_negation_86
    · replace h := (br h).2 c9
      refine lv_aload_n hx hb dX12_negation_9 rfl (lv_at hl 0 rfl) ?_
      replace h := bd h
      obtain ⟨q5, h6, h⟩ := h
      refine callVv0 (As := []) (rest := []) hx hb hml hown hts (k_X12_knot l G cy ev ad v q5 h6) wm_23_16 wm_23_17 wm_23_18 wm_1_5 wm_23_19 hd_X12_knot ⟨by simp only [rmX]; omega, by simp only [rmX]; omega⟩ hK hP hD hS hA hE (va_recv hK hP (ci := 12) (q0 := 0) rfl rfl) rfl rfl hl.1 (Nat.le_of_ble_eq_true rfl) dX12_negation_10 (fun H locs hP hD hS => ?_)
      refine lv_aload_n hx hb dX12_negation_13 rfl (lv_at hl 0 rfl) ?_
      replace h := bd h
      obtain ⟨q7, h8, h⟩ := h
      refine callVv0 (As := []) (rest := []) hx hb hml hown hts (k_X12_goOn l G cy ev N ad q5 q7 h8) wm_23_20 wm_23_21 wm_23_22 wm_1_5 wm_23_23 hd_X12_goOn ⟨by simp only [rmX]; omega, by simp only [rmX]; omega⟩ hK hP hD hS hA hE (va_recv hK hP (ci := 12) (q0 := 0) rfl rfl) rfl rfl hl.1 (Nat.le_of_ble_eq_true rfl) dX12_negation_14 (fun H locs hP hD hS => ?_)
      refine lv_aload_n hx hb dX12_negation_17 rfl (lv_at hl 0 rfl) ?_
      replace h := bd h
      obtain ⟨q9, h10, h⟩ := h
      refine callVv0 (As := []) (rest := []) hx hb hml hown hts (ihd ad q7 q9 h10) wm_24_5 wm_24_6 wm_24_7 wm_1_5 wm_24_8 hd_X12_negation ⟨by simp only [rmX]; omega, by simp only [rmX]; omega⟩ hK hP hD hS hA hE (va_recv hK hP (ci := 12) (q0 := 0) rfl rfl) rfl rfl hl.1 (Nat.le_of_ble_eq_true rfl) dX12_negation_18 (fun H locs hP hD hS => ?_)
      refine lv_aload_n hx hb dX12_negation_21 rfl (lv_at hl 0 rfl) ?_
      refine lv_iconst (v := 2) hx hb dX12_negation_22 (by decide) ?_
      refine lv_sipush (v := 260) hx hb dX12_negation_23 (by decide) ?_
      replace h := bd h
      obtain ⟨q11, h12, h⟩ := h
      refine callVv0 (As := [.int 2, .int 260]) (rest := []) hx hb hml hown hts (k_X12_puts l G cy ev ad q9 2 260 q11 h12) wm_24_0 wm_24_1 wm_24_2 wm_1_5 wm_24_3 hd_X12_puts ⟨by simp only [rmX]; omega, by simp only [rmX]; omega⟩ hK hP hD hS hA hE (va_recv hK hP (ci := 12) (q0 := 0) rfl rfl) rfl rfl hl.1 (Nat.le_of_ble_eq_true rfl) dX12_negation_26 (fun H locs hP hD hS => ?_)
      exact retV (fw := fun q => cX12 cy ad q) h hx hb hr hlocks hK hP hD hS dX12_negation_29
theorem hd_X12_conjunction : yX12_conjunction.cls = RX12 ∧ yX12_conjunction.cls ≠ "java/lang/invoke/MethodHandle" ∧ yX12_conjunction.cls ≠ "java/lang/invoke/VarHandle" ∧ (parseMethodDescriptor yX12_conjunction.desc).map (fun d => d.parameters.length) = some 0 := ⟨rfl, by decide +kernel, by decide +kernel, by decide +kernel⟩
def f_X12_conjunction_s4 (N : Nat) (ex : VV → Option (VV)) (v : VV)  : Option (((VV) ⊕ (VV))) :=
  bnd (f_X12_isWord v 13) (fun q401 => if q401 = 0 then inrO (some v) else bnd (f_X12_knot v) (fun q403 => bnd (f_X12_goOn N q403) (fun q405 => bnd (f_X12_negation N ex 66 q405) (fun q407 => bnd (f_X12_puts q407 2 261) (fun q409 => some (.inl q409))))))
def f_X12_conjunction (N : Nat) (ex : VV → Option (VV)) (v : VV) : Option (VV) :=
  bnd (f_X12_negation N ex 66 v) (fun q1 => itr (fun q : VV => f_X12_conjunction_s4 N ex q) N q1)
set_option maxHeartbeats 4000000 in
set_option maxRecDepth 100000 in
theorem k_X12_conjunction (l : Launch) (G : va_G) (cy : Nat → ClassId) (ev : Nat → Nat) (N : Nat) (fe le : Nat) (ex : VV → Option (VV)) (hex : ∀ (ad : Nat → Nat) (v : VV)  (res : VV), ex v = some res → MetV l yX12_expression cX12_expression 1 none fe le G cy ev [.ref (ad 0)] (cX12 cy ad v) (cX12 cy ad res)) (ad : Nat → Nat) (v : VV)  (res : VV) (h : f_X12_conjunction N ex v = some res) : MetV l yX12_conjunction cX12_conjunction 1 none (fe + 77) (le + 1619) G cy ev [.ref (ad 0)] (cX12 cy ad v) (cX12 cy ad res) := by
  refine MetQ.start (by decide +kernel) (Nat.le_of_ble_eq_true rfl) (fun p e s m args below meth c A ls hx hb hr hml hown hts hlocks hK hP hD hA hl hE => ?_)
  have hS : va_S A s.heap s.heap [] := va_S.rf
  have hown : s.vm.findClass RX12 = some m.cls := hown
  have hl : lv_has ls 1 [(0, .ref (ad 0))] := hl
  have L4 : ∀ (n : Nat) (v : VV) (H : Heap) (locs : List Loc) (ls : Array Slot), itr (fun q : VV => f_X12_conjunction_s4 N ex q) n v = some res → va_P G vwCl (cX12 cy ad v) H → va_D A (cX12 cy ad v) → va_S A s.heap H locs → lv_has ls 1 [(0, .ref (ad 0))] → W p l e (rmX (fe + 77) (le + 1619)) s m args below meth c H locs 0 0 (MQ below (mQv G cy A (cX12 cy ad res)) args s 0 0 A) (F0 m 4 ls []) := by
    intro n
    induction n with
    | zero => intro v H locs ls h; exact (itr_zero h).elim
    | succ n ih1 =>
      intro v H locs ls h hP hD hS hl
      obtain ⟨y1, h, hy1⟩ := itr_inv h
      have h : f_X12_conjunction_s4 N ex v = some y1 := h
      delta f_X12_conjunction_s4 at h
      refine lv_aload_n hx hb dX12_conjunction_4 rfl (lv_at hl 0 rfl) ?_
      refine lv_bipush (v := 13) hx hb dX12_conjunction_5 (by decide) ?_
      replace h := bd h
      obtain ⟨q401, h402, h⟩ := h
      refine callVi0 (As := [.int 13]) (rest := []) hx hb hml hown hts (k_X12_isWord l G cy ev ad v 13 q401 h402) wm_23_12 wm_23_13 wm_23_14 wm_1_5 wm_23_15 hd_X12_isWord ⟨by simp only [rmX]; omega, by simp only [rmX]; omega⟩ hK hP hD hS hA hE (va_recv hK hP (ci := 12) (q0 := 0) rfl rfl) rfl rfl hl.1 (Nat.le_of_ble_eq_true rfl) dX12_conjunction_7 (fun H locs hP hD hS => ?_)
      refine lv_if_eq (tgt := 36) hx hb dX12_conjunction_10 (by decide) (fun c9 => ?_) (fun c9 => ?_)
      · replace h := (br h).1 c9
        replace h := itr_exit h hy1
        exact retV (fw := fun q => cX12 cy ad q) h hx hb hr hlocks hK hP hD hS dX12_conjunction_36
      · replace h := (br h).2 c9
        refine lv_aload_n hx hb dX12_conjunction_13 rfl (lv_at hl 0 rfl) ?_
        replace h := bd h
        obtain ⟨q403, h404, h⟩ := h
        refine callVv0 (As := []) (rest := []) hx hb hml hown hts (k_X12_knot l G cy ev ad v q403 h404) wm_23_16 wm_23_17 wm_23_18 wm_1_5 wm_23_19 hd_X12_knot ⟨by simp only [rmX]; omega, by simp only [rmX]; omega⟩ hK hP hD hS hA hE (va_recv hK hP (ci := 12) (q0 := 0) rfl rfl) rfl rfl hl.1 (Nat.le_of_ble_eq_true rfl) dX12_conjunction_14 (fun H locs hP hD hS => ?_)
        refine lv_aload_n hx hb dX12_conjunction_17 rfl (lv_at hl 0 rfl) ?_
        replace h := bd h
        obtain ⟨q405, h406, h⟩ := h
        refine callVv0 (As := []) (rest := []) hx hb hml hown hts (k_X12_goOn l G cy ev N ad q403 q405 h406) wm_23_20 wm_23_21 wm_23_22 wm_1_5 wm_23_23 hd_X12_goOn ⟨by simp only [rmX]; omega, by simp only [rmX]; omega⟩ hK hP hD hS hA hE (va_recv hK hP (ci := 12) (q0 := 0) rfl rfl) rfl rfl hl.1 (Nat.le_of_ble_eq_true rfl) dX12_conjunction_18 (fun H locs hP hD hS => ?_)
        refine lv_aload_n hx hb dX12_conjunction_21 rfl (lv_at hl 0 rfl) ?_
        replace h := bd h
        obtain ⟨q407, h408, h⟩ := h
        refine callVv0 (As := []) (rest := []) hx hb hml hown hts (k_X12_negation l G cy ev N fe le ex hex 66 ad q405 q407 h408) wm_24_5 wm_24_6 wm_24_7 wm_1_5 wm_24_8 hd_X12_negation ⟨by simp only [rmX]; omega, by simp only [rmX]; omega⟩ hK hP hD hS hA hE (va_recv hK hP (ci := 12) (q0 := 0) rfl rfl) rfl rfl hl.1 (Nat.le_of_ble_eq_true rfl) dX12_conjunction_22 (fun H locs hP hD hS => ?_)
        refine lv_aload_n hx hb dX12_conjunction_25 rfl (lv_at hl 0 rfl) ?_
        refine lv_iconst (v := 2) hx hb dX12_conjunction_26 (by decide) ?_
        refine lv_sipush (v := 261) hx hb dX12_conjunction_27 (by decide) ?_
        replace h := bd h
        obtain ⟨q409, h410, h⟩ := h
        refine callVv0 (As := [.int 2, .int 261]) (rest := []) hx hb hml hown hts (k_X12_puts l G cy ev ad q407 2 261 q409 h410) wm_24_0 wm_24_1 wm_24_2 wm_1_5 wm_24_3 hd_X12_puts ⟨by simp only [rmX]; omega, by simp only [rmX]; omega⟩ hK hP hD hS hA hE (va_recv hK hP (ci := 12) (q0 := 0) rfl rfl) rfl rfl hl.1 (Nat.le_of_ble_eq_true rfl) dX12_conjunction_30 (fun H locs hP hD hS => ?_)
        refine lv_goto (tgt := 4) hx hb dX12_conjunction_33 (by decide) ?_
        replace h := itr_back h hy1
        exact ih1 q409 _ _ _ h hP hD hS (lv_sub hl [0] rfl)
  delta f_X12_conjunction at h
  refine lv_aload_n hx hb dX12_conjunction_0 rfl (lv_at hl 0 rfl) ?_
  replace h := bd h
  obtain ⟨q1, h2, h⟩ := h
  refine callVv0 (As := []) (rest := []) hx hb hml hown hts (k_X12_negation l G cy ev N fe le ex hex 66 ad v q1 h2) wm_24_5 wm_24_6 wm_24_7 wm_1_5 wm_24_8 hd_X12_negation ⟨by simp only [rmX]; omega, by simp only [rmX]; omega⟩ hK hP hD hS hA hE (va_recv hK hP (ci := 12) (q0 := 0) rfl rfl) rfl rfl hl.1 (Nat.le_of_ble_eq_true rfl) dX12_conjunction_1 (fun H locs hP hD hS => ?_)
  exact L4  N q1 _ _ _ h hP hD hS (lv_sub hl [0] rfl)
def f_X12_expression_s4 (N : Nat) (rc : VV → Option (VV)) (v : VV)  : Option (((VV) ⊕ (VV))) :=
  bnd (f_X12_isWord v 12) (fun q401 => if q401 = 0 then inrO (some v) else bnd (f_X12_knot v) (fun q403 => bnd (f_X12_goOn N q403) (fun q405 => bnd (f_X12_conjunction N rc q405) (fun q407 => bnd (f_X12_puts q407 2 262) (fun q409 => some (.inl q409))))))
def f_X12_expression_body (N : Nat) (rc : VV → Option (VV)) (v : VV) : Option (VV) :=
  bnd (f_X12_conjunction N rc v) (fun q1 => itr (fun q : VV => f_X12_expression_s4 N rc q) N q1)
def f_X12_expression (N : Nat) : Nat → VV → Option (VV)
  | 0, _ => none
  | d + 1, v => f_X12_expression_body N (f_X12_expression N d) v
set_option maxHeartbeats 4000000 in
set_option maxRecDepth 100000 in
theorem k_X12_expression (l : Launch) (G : va_G) (cy : Nat → ClassId) (ev : Nat → Nat) (N : Nat) : ∀ (d : Nat) (ad : Nat → Nat) (v : VV)  (res : VV), f_X12_expression N d v = some res → MetV l yX12_expression cX12_expression 1 none (7 + 78 * d) (149 + 1639 * d) G cy ev [.ref (ad 0)] (cX12 cy ad v) (cX12 cy ad res) := by
  intro d
  induction d with
  | zero => intro ad v res h; exact nomatch h
  | succ d ihd =>
    intro ad v res h
    have h : f_X12_expression_body N (f_X12_expression N d) v = some res := h
    refine MetQ.start (by decide +kernel) (Nat.le_of_ble_eq_true rfl) (fun p e s m args below meth c A ls hx hb hr hml hown hts hlocks hK hP hD hA hl hE => ?_)
    have hS : va_S A s.heap s.heap [] := va_S.rf
    have hown : s.vm.findClass RX12 = some m.cls := hown
    have hl : lv_has ls 1 [(0, .ref (ad 0))] := hl
    have L4 : ∀ (n : Nat) (v : VV) (H : Heap) (locs : List Loc) (ls : Array Slot), itr (fun q : VV => f_X12_expression_s4 N (f_X12_expression N d) q) n v = some res → va_P G vwCl (cX12 cy ad v) H → va_D A (cX12 cy ad v) → va_S A s.heap H locs → lv_has ls 1 [(0, .ref (ad 0))] → W p l e (rmX (7 + 78 * (d + 1)) (149 + 1639 * (d + 1))) s m args below meth c H locs 0 0 (MQ below (mQv G cy A (cX12 cy ad res)) args s 0 0 A) (F0 m 4 ls []) := by
      intro n
      induction n with
      | zero => intro v H locs ls h; exact (itr_zero h).elim
      | succ n ih1 =>
        intro v H locs ls h hP hD hS hl
        obtain ⟨y1, h, hy1⟩ := itr_inv h
        have h : f_X12_expression_s4 N (f_X12_expression N d) v = some y1 := h
        delta f_X12_expression_s4 at h
        refine lv_aload_n hx hb dX12_expression_4 rfl (lv_at hl 0 rfl) ?_
        refine lv_bipush (v := 12) hx hb dX12_expression_5 (by decide) ?_
        replace h := bd h
        obtain ⟨q401, h402, h⟩ := h
        refine callVi0 (As := [.int 12]) (rest := []) hx hb hml hown hts (k_X12_isWord l G cy ev ad v 12 q401 h402) wm_23_12 wm_23_13 wm_23_14 wm_1_5 wm_23_15 hd_X12_isWord ⟨by simp only [rmX]; omega, by simp only [rmX]; omega⟩ hK hP hD hS hA hE (va_recv hK hP (ci := 12) (q0 := 0) rfl rfl) rfl rfl hl.1 (Nat.le_of_ble_eq_true rfl) dX12_expression_7 (fun H locs hP hD hS => ?_)
        refine lv_if_eq (tgt := 36) hx hb dX12_expression_10 (by decide) (fun c9 => ?_) (fun c9 => ?_)
        · replace h := (br h).1 c9
          replace h := itr_exit h hy1
          exact retV (fw := fun q => cX12 cy ad q) h hx hb hr hlocks hK hP hD hS dX12_expression_36
        · replace h := (br h).2 c9
          refine lv_aload_n hx hb dX12_expression_13 rfl (lv_at hl 0 rfl) ?_
          replace h := bd h
          obtain ⟨q403, h404, h⟩ := h
          refine callVv0 (As := []) (rest := []) hx hb hml hown hts (k_X12_knot l G cy ev ad v q403 h404) wm_23_16 wm_23_17 wm_23_18 wm_1_5 wm_23_19 hd_X12_knot ⟨by simp only [rmX]; omega, by simp only [rmX]; omega⟩ hK hP hD hS hA hE (va_recv hK hP (ci := 12) (q0 := 0) rfl rfl) rfl rfl hl.1 (Nat.le_of_ble_eq_true rfl) dX12_expression_14 (fun H locs hP hD hS => ?_)
          refine lv_aload_n hx hb dX12_expression_17 rfl (lv_at hl 0 rfl) ?_
          replace h := bd h
          obtain ⟨q405, h406, h⟩ := h
          refine callVv0 (As := []) (rest := []) hx hb hml hown hts (k_X12_goOn l G cy ev N ad q403 q405 h406) wm_23_20 wm_23_21 wm_23_22 wm_1_5 wm_23_23 hd_X12_goOn ⟨by simp only [rmX]; omega, by simp only [rmX]; omega⟩ hK hP hD hS hA hE (va_recv hK hP (ci := 12) (q0 := 0) rfl rfl) rfl rfl hl.1 (Nat.le_of_ble_eq_true rfl) dX12_expression_18 (fun H locs hP hD hS => ?_)
          refine lv_aload_n hx hb dX12_expression_21 rfl (lv_at hl 0 rfl) ?_
          replace h := bd h
          obtain ⟨q407, h408, h⟩ := h
          refine callVv0 (As := []) (rest := []) hx hb hml hown hts (k_X12_conjunction l G cy ev N (7 + 78 * d) (149 + 1639 * d) (f_X12_expression N d) ihd ad q405 q407 h408) wm_23_9 wm_23_10 wm_23_11 wm_1_5 wm_24_4 hd_X12_conjunction ⟨by simp only [rmX]; omega, by simp only [rmX]; omega⟩ hK hP hD hS hA hE (va_recv hK hP (ci := 12) (q0 := 0) rfl rfl) rfl rfl hl.1 (Nat.le_of_ble_eq_true rfl) dX12_expression_22 (fun H locs hP hD hS => ?_)
          refine lv_aload_n hx hb dX12_expression_25 rfl (lv_at hl 0 rfl) ?_
          refine lv_iconst (v := 2) hx hb dX12_expression_26 (by decide) ?_
          refine lv_sipush (v := 262) hx hb dX12_expression_27 (by decide) ?_
          replace h := bd h
          obtain ⟨q409, h410, h⟩ := h
          refine callVv0 (As := [.int 2, .int 262]) (rest := []) hx hb hml hown hts (k_X12_puts l G cy ev ad q407 2 262 q409 h410) wm_24_0 wm_24_1 wm_24_2 wm_1_5 wm_24_3 hd_X12_puts ⟨by simp only [rmX]; omega, by simp only [rmX]; omega⟩ hK hP hD hS hA hE (va_recv hK hP (ci := 12) (q0 := 0) rfl rfl) rfl rfl hl.1 (Nat.le_of_ble_eq_true rfl) dX12_expression_30 (fun H locs hP hD hS => ?_)
          refine lv_goto (tgt := 4) hx hb dX12_expression_33 (by decide) ?_
          replace h := itr_back h hy1
          exact ih1 q409 _ _ _ h hP hD hS (lv_sub hl [0] rfl)
    delta f_X12_expression_body at h
    refine lv_aload_n hx hb dX12_expression_0 rfl (lv_at hl 0 rfl) ?_
    replace h := bd h
    obtain ⟨q1, h2, h⟩ := h
    refine callVv0 (As := []) (rest := []) hx hb hml hown hts (k_X12_conjunction l G cy ev N (7 + 78 * d) (149 + 1639 * d) (f_X12_expression N d) ihd ad v q1 h2) wm_23_9 wm_23_10 wm_23_11 wm_1_5 wm_24_4 hd_X12_conjunction ⟨by simp only [rmX]; omega, by simp only [rmX]; omega⟩ hK hP hD hS hA hE (va_recv hK hP (ci := 12) (q0 := 0) rfl rfl) rfl rfl hl.1 (Nat.le_of_ble_eq_true rfl) dX12_expression_1 (fun H locs hP hD hS => ?_)
    exact L4  N q1 _ _ _ h hP hD hS (lv_sub hl [0] rfl)
theorem hd_X12_lawLine : yX12_lawLine.cls = RX12 ∧ yX12_lawLine.cls ≠ "java/lang/invoke/MethodHandle" ∧ yX12_lawLine.cls ≠ "java/lang/invoke/VarHandle" ∧ (parseMethodDescriptor yX12_lawLine.desc).map (fun d => d.parameters.length) = some 0 := ⟨rfl, by decide +kernel, by decide +kernel, by decide +kernel⟩
def f_X12_lawLine_b65 (N : Nat) (v : VV) (x1 : Int32) : Option (VV) :=
  if v.1 23 = 0 then bnd (f_X12_token N (si v 16 ((v.1 16) ||| (1 <<< ((16 + x1) &&& 31))))) (fun q6501 => bnd (f_X12_fresher q6501 8) (fun q6503 => gin (3 + x1) 6 (bnd (f_X12_expression N 10 (sr q6501 12 ((3 + x1).toNatClampNeg) q6503)) (fun q6505 => bnd (f_X12_fresher q6505 8) (fun q6507 => gin (3 + x1) 6 (some (sr q6505 13 ((3 + x1).toNatClampNeg) q6507))))))) else some v
def f_X12_lawLine_b30 (N : Nat) (v : VV)  : Option (VV) :=
  if v.1 23 = 0 then if ((v.1 16) >>> ((16 + ((v.1 22) - 9)) &&& 31)) &&& 1 = 1 then bnd (f_X12_wrong v 3) (fun q3001 => f_X12_lawLine_b65 N q3001 ((v.1 22) - 9)) else f_X12_lawLine_b65 N v ((v.1 22) - 9) else f_X12_lawLine_b65 N v ((v.1 22) - 9)
def f_X12_lawLine_b25 (N : Nat) (v : VV)  : Option (VV) :=
  bnd (f_X12_wrong v 1) (fun q2501 => f_X12_lawLine_b30 N q2501)
def f_X12_lawLine (N : Nat) (v : VV) : Option (VV) :=
  if v.1 21 = 0 then if v.1 22 < 9 then f_X12_lawLine_b25 N v else if v.1 22 ≤ 11 then f_X12_lawLine_b30 N v else f_X12_lawLine_b25 N v else f_X12_lawLine_b25 N v
set_option maxHeartbeats 4000000 in
set_option maxRecDepth 100000 in
theorem k_X12_lawLine (l : Launch) (G : va_G) (cy : Nat → ClassId) (ev : Nat → Nat) (N : Nat) (ad : Nat → Nat) (v : VV)  (res : VV) (h : f_X12_lawLine N v = some res) : MetV l yX12_lawLine cX12_lawLine 2 none 788 16559 G cy ev [.ref (ad 0)] (cX12 cy ad v) (cX12 cy ad res) := by
  refine MetQ.start (by decide +kernel) (Nat.le_of_ble_eq_true rfl) (fun p e s m args below meth c A ls hx hb hr hml hown hts hlocks hK hP hD hA hl hE => ?_)
  have hS : va_S A s.heap s.heap [] := va_S.rf
  have hown : s.vm.findClass RX12 = some m.cls := hown
  have hl : lv_has ls 2 [(0, .ref (ad 0))] := hl
  have B65 : ∀ (x1 : Int32) (v : VV) (H : Heap) (locs : List Loc) (ls : Array Slot), f_X12_lawLine_b65 N v x1 = some res → va_P G vwCl (cX12 cy ad v) H → va_D A (cX12 cy ad v) → va_S A s.heap H locs → lv_has ls 2 [(0, .ref (ad 0)), (1, .int x1)] → W p l e (rmX 788 16559) s m args below meth c H locs 0 0 (MQ below (mQv G cy A (cX12 cy ad res)) args s 0 0 A) (F0 m 65 ls []) := by
    intro x1 v H locs ls h hP hD hS hl
    delta f_X12_lawLine_b65 at h
    refine lv_aload_n hx hb dX12_lawLine_65 rfl (lv_at hl 0 rfl) ?_
    refine gf_X12_23 (x := v.1 23) hx hb hts hown hK hP rfl dX12_lawLine_66 ?_
    refine lv_if_eq (tgt := 73) hx hb dX12_lawLine_69 (by decide) (fun c9 => ?_) (fun c9 => ?_)
    · replace h := (br h).1 c9
      refine lv_aload_n hx hb dX12_lawLine_73 rfl (lv_at hl 0 rfl) ?_
      refine lv_dup hx hb dX12_lawLine_74 rfl ?_
      refine gf_X12_16 (x := v.1 16) hx hb hts hown hK hP rfl dX12_lawLine_75 ?_
      refine lv_iconst (v := 1) hx hb dX12_lawLine_78 (by decide) ?_
      refine lv_bipush (v := 16) hx hb dX12_lawLine_79 (by decide) ?_
      refine lv_iload_n hx hb dX12_lawLine_81 rfl (lv_at hl 1 rfl) ?_
      refine lv_iadd hx hb dX12_lawLine_82 ?_
      refine lv_ishl hx hb dX12_lawLine_83 ?_
      refine lv_ior hx hb dX12_lawLine_84 ?_
      refine pf_X12_16 hx hb hts hown hK hP hD hS dX12_lawLine_85 (fun H locs hP hD hS => ?_)
      refine lv_aload_n hx hb dX12_lawLine_88 rfl (lv_at hl 0 rfl) ?_
      replace h := bd h
      obtain ⟨q6501, h6502, h⟩ := h
      refine callVv0 (As := []) (rest := []) hx hb hml hown hts (k_X12_token l G cy ev N ad (si v 16 ((v.1 16) ||| (1 <<< ((16 + x1) &&& 31)))) q6501 h6502) wm_20_15 wm_20_16 wm_20_17 wm_1_5 wm_20_18 hd_X12_token ⟨by decide, by decide⟩ hK hP hD hS hA hE (va_recv hK hP (ci := 12) (q0 := 0) rfl rfl) rfl rfl hl.1 (Nat.le_of_ble_eq_true rfl) dX12_lawLine_89 (fun H locs hP hD hS => ?_)
      refine lv_aload_n hx hb dX12_lawLine_92 rfl (lv_at hl 0 rfl) ?_
      refine gf_X12_12 hx hb hts hown hK hP dX12_lawLine_93 ?_
      refine lv_iconst (v := 3) hx hb dX12_lawLine_96 (by decide) ?_
      refine lv_iload_n hx hb dX12_lawLine_97 rfl (lv_at hl 1 rfl) ?_
      refine lv_iadd hx hb dX12_lawLine_98 ?_
      refine lv_aload_n hx hb dX12_lawLine_99 rfl (lv_at hl 0 rfl) ?_
      refine lv_bipush (v := 8) hx hb dX12_lawLine_100 (by decide) ?_
      replace h := bd h
      obtain ⟨q6503, h6504, h⟩ := h
      refine callVi0 (As := [.int 8]) (rest := [.int (3 + x1), .ref (ad 13)]) hx hb hml hown hts (k_X12_fresher l G cy ev ad q6501 8 q6503 h6504) wm_22_6 wm_22_7 wm_22_8 wm_1_5 wm_22_9 hd_X12_fresher ⟨by decide, by decide⟩ hK hP hD hS hA hE (va_recv hK hP (ci := 12) (q0 := 0) rfl rfl) rfl rfl hl.1 (Nat.le_of_ble_eq_true rfl) dX12_lawLine_102 (fun H locs hP hD hS => ?_)
      replace h := gin_inv h
      obtain ⟨h9, h⟩ := h
      refine st_X12_12 (j := (3 + x1).toNatClampNeg) hx hb hK hP hD hS h9 rfl dX12_lawLine_105 (fun H locs hP hD hS => ?_)
      refine lv_aload_n hx hb dX12_lawLine_106 rfl (lv_at hl 0 rfl) ?_
      replace h := bd h
      obtain ⟨q6505, h6506, h⟩ := h
      refine callVv0 (As := []) (rest := []) hx hb hml hown hts (k_X12_expression l G cy ev N 10 ad (sr q6501 12 ((3 + x1).toNatClampNeg) q6503) q6505 h6506) wm_23_5 wm_23_6 wm_23_7 wm_1_5 wm_23_8 hd_X12_expression ⟨by decide, by decide⟩ hK hP hD hS hA hE (va_recv hK hP (ci := 12) (q0 := 0) rfl rfl) rfl rfl hl.1 (Nat.le_of_ble_eq_true rfl) dX12_lawLine_107 (fun H locs hP hD hS => ?_)
      refine lv_aload_n hx hb dX12_lawLine_110 rfl (lv_at hl 0 rfl) ?_
      refine gf_X12_13 hx hb hts hown hK hP dX12_lawLine_111 ?_
      refine lv_iconst (v := 3) hx hb dX12_lawLine_114 (by decide) ?_
      refine lv_iload_n hx hb dX12_lawLine_115 rfl (lv_at hl 1 rfl) ?_
      refine lv_iadd hx hb dX12_lawLine_116 ?_
      refine lv_aload_n hx hb dX12_lawLine_117 rfl (lv_at hl 0 rfl) ?_
      refine lv_bipush (v := 8) hx hb dX12_lawLine_118 (by decide) ?_
      replace h := bd h
      obtain ⟨q6507, h6508, h⟩ := h
      refine callVi0 (As := [.int 8]) (rest := [.int (3 + x1), .ref (ad 14)]) hx hb hml hown hts (k_X12_fresher l G cy ev ad q6505 8 q6507 h6508) wm_22_6 wm_22_7 wm_22_8 wm_1_5 wm_22_9 hd_X12_fresher ⟨by decide, by decide⟩ hK hP hD hS hA hE (va_recv hK hP (ci := 12) (q0 := 0) rfl rfl) rfl rfl hl.1 (Nat.le_of_ble_eq_true rfl) dX12_lawLine_120 (fun H locs hP hD hS => ?_)
      replace h := gin_inv h
      obtain ⟨h9, h⟩ := h
      refine st_X12_13 (j := (3 + x1).toNatClampNeg) hx hb hK hP hD hS h9 rfl dX12_lawLine_123 (fun H locs hP hD hS => ?_)
      exact retV (fw := fun q => cX12 cy ad q) h hx hb hr hlocks hK hP hD hS dX12_lawLine_124
    · replace h := (br h).2 c9
      exact retV (fw := fun q => cX12 cy ad q) h hx hb hr hlocks hK hP hD hS dX12_lawLine_72
  have B30 : ∀ (v : VV) (H : Heap) (locs : List Loc) (ls : Array Slot), f_X12_lawLine_b30 N v = some res → va_P G vwCl (cX12 cy ad v) H → va_D A (cX12 cy ad v) → va_S A s.heap H locs → lv_has ls 2 [(0, .ref (ad 0))] → W p l e (rmX 788 16559) s m args below meth c H locs 0 0 (MQ below (mQv G cy A (cX12 cy ad res)) args s 0 0 A) (F0 m 30 ls []) := by
    intro v H locs ls h hP hD hS hl
    delta f_X12_lawLine_b30 at h
    refine lv_aload_n hx hb dX12_lawLine_30 rfl (lv_at hl 0 rfl) ?_
    refine gf_X12_22 (x := v.1 22) hx hb hts hown hK hP rfl dX12_lawLine_31 ?_
    refine lv_bipush (v := 9) hx hb dX12_lawLine_34 (by decide) ?_
    refine lv_isub hx hb dX12_lawLine_36 ?_
    refine lv_istore_n (lv' := [(1, .int ((v.1 22) - 9)), (0, .ref (ad 0))]) hx hb dX12_lawLine_37 rfl hl (by decide) rfl (fun ls hl => ?_)
    refine lv_aload_n hx hb dX12_lawLine_38 rfl (lv_at hl 1 rfl) ?_
    refine gf_X12_23 (x := v.1 23) hx hb hts hown hK hP rfl dX12_lawLine_39 ?_
    refine lv_if_ne (tgt := 65) hx hb dX12_lawLine_42 (by decide) (fun c9 => ?_) (fun c9 => ?_)
    · replace h := (br h).2 c9
      exact B65 ((v.1 22) - 9) v _ _ _ h hP hD hS (lv_sub hl [1, 0] rfl)
    · replace h := (br h).1 c9
      refine lv_aload_n hx hb dX12_lawLine_45 rfl (lv_at hl 1 rfl) ?_
      refine gf_X12_16 (x := v.1 16) hx hb hts hown hK hP rfl dX12_lawLine_46 ?_
      refine lv_bipush (v := 16) hx hb dX12_lawLine_49 (by decide) ?_
      refine lv_iload_n hx hb dX12_lawLine_51 rfl (lv_at hl 0 rfl) ?_
      refine lv_iadd hx hb dX12_lawLine_52 ?_
      refine lv_ishr hx hb dX12_lawLine_53 ?_
      refine lv_iconst (v := 1) hx hb dX12_lawLine_54 (by decide) ?_
      refine lv_iand hx hb dX12_lawLine_55 ?_
      refine lv_iconst (v := 1) hx hb dX12_lawLine_56 (by decide) ?_
      refine lv_icmp_ne (tgt := 65) hx hb dX12_lawLine_57 (by decide) (fun c9 => ?_) (fun c9 => ?_)
      · replace h := (br h).2 c9
        exact B65 ((v.1 22) - 9) v _ _ _ h hP hD hS (lv_sub hl [1, 0] rfl)
      · replace h := (br h).1 c9
        refine lv_aload_n hx hb dX12_lawLine_60 rfl (lv_at hl 1 rfl) ?_
        refine lv_iconst (v := 3) hx hb dX12_lawLine_61 (by decide) ?_
        replace h := bd h
        obtain ⟨q3001, h3002, h⟩ := h
        refine callVv0 (As := [.int 3]) (rest := []) hx hb hml hown hts (k_X12_wrong l G cy ev ad v 3 q3001 h3002) wm_22_2 wm_22_3 wm_22_4 wm_1_5 wm_22_5 hd_X12_wrong ⟨by decide, by decide⟩ hK hP hD hS hA hE (va_recv hK hP (ci := 12) (q0 := 0) rfl rfl) rfl rfl hl.1 (Nat.le_of_ble_eq_true rfl) dX12_lawLine_62 (fun H locs hP hD hS => ?_)
        exact B65 ((v.1 22) - 9) q3001 _ _ _ h hP hD hS (lv_sub hl [1, 0] rfl)
  have B25 : ∀ (v : VV) (H : Heap) (locs : List Loc) (ls : Array Slot), f_X12_lawLine_b25 N v = some res → va_P G vwCl (cX12 cy ad v) H → va_D A (cX12 cy ad v) → va_S A s.heap H locs → lv_has ls 2 [(0, .ref (ad 0))] → W p l e (rmX 788 16559) s m args below meth c H locs 0 0 (MQ below (mQv G cy A (cX12 cy ad res)) args s 0 0 A) (F0 m 25 ls []) := by
    intro v H locs ls h hP hD hS hl
    delta f_X12_lawLine_b25 at h
    refine lv_aload_n hx hb dX12_lawLine_25 rfl (lv_at hl 0 rfl) ?_
    refine lv_iconst (v := 1) hx hb dX12_lawLine_26 (by decide) ?_
    replace h := bd h
    obtain ⟨q2501, h2502, h⟩ := h
    refine callVv0 (As := [.int 1]) (rest := []) hx hb hml hown hts (k_X12_wrong l G cy ev ad v 1 q2501 h2502) wm_22_2 wm_22_3 wm_22_4 wm_1_5 wm_22_5 hd_X12_wrong ⟨by decide, by decide⟩ hK hP hD hS hA hE (va_recv hK hP (ci := 12) (q0 := 0) rfl rfl) rfl rfl hl.1 (Nat.le_of_ble_eq_true rfl) dX12_lawLine_27 (fun H locs hP hD hS => ?_)
    exact B30 q2501 _ _ _ h hP hD hS (lv_sub hl [0] rfl)
  delta f_X12_lawLine at h
  refine lv_aload_n hx hb dX12_lawLine_0 rfl (lv_at hl 0 rfl) ?_
  refine gf_X12_21 (x := v.1 21) hx hb hts hown hK hP rfl dX12_lawLine_1 ?_
  refine lv_if_ne (tgt := 25) hx hb dX12_lawLine_4 (by decide) (fun c9 => ?_) (fun c9 => ?_)
  · replace h := (br h).2 c9
    exact B25 v _ _ _ h hP hD hS (lv_sub hl [0] rfl)
  · replace h := (br h).1 c9
    refine lv_aload_n hx hb dX12_lawLine_7 rfl (lv_at hl 0 rfl) ?_
    refine gf_X12_22 (x := v.1 22) hx hb hts hown hK hP rfl dX12_lawLine_8 ?_
    refine lv_bipush (v := 9) hx hb dX12_lawLine_11 (by decide) ?_
    refine lv_icmp_lt (tgt := 25) hx hb dX12_lawLine_13 (by decide) (fun c9 => ?_) (fun c9 => ?_)
    · replace h := (br h).1 c9
      exact B25 v _ _ _ h hP hD hS (lv_sub hl [0] rfl)
    · replace h := (br h).2 c9
      refine lv_aload_n hx hb dX12_lawLine_16 rfl (lv_at hl 0 rfl) ?_
      refine gf_X12_22 (x := v.1 22) hx hb hts hown hK hP rfl dX12_lawLine_17 ?_
      refine lv_bipush (v := 11) hx hb dX12_lawLine_20 (by decide) ?_
      refine lv_icmp_le (tgt := 30) hx hb dX12_lawLine_22 (by decide) (fun c9 => ?_) (fun c9 => ?_)
      · replace h := (br h).1 c9
        exact B30 v _ _ _ h hP hD hS (lv_sub hl [0] rfl)
      · replace h := (br h).2 c9
        exact B25 v _ _ _ h hP hD hS (lv_sub hl [0] rfl)
theorem hd_X12_line : yX12_line.cls = RX12 ∧ yX12_line.cls ≠ "java/lang/invoke/MethodHandle" ∧ yX12_line.cls ≠ "java/lang/invoke/VarHandle" ∧ (parseMethodDescriptor yX12_line.desc).map (fun d => d.parameters.length) = some 0 := ⟨rfl, by decide +kernel, by decide +kernel, by decide +kernel⟩
def f_X12_line_b384 (N : Nat) (v : VV)  : Option (VV) :=
  some (si v 17 ((v.1 17) + 1))
def f_X12_line_b355 (N : Nat) (v : VV)  : Option (VV) :=
  if v.1 23 = 0 then bnd (f_X12_isSign v 59) (fun q35501 => if q35501 = 0 then bnd (f_X12_wrong v 1) (fun q35505 => f_X12_line_b384 N q35505) else bnd (f_X12_token N v) (fun q35503 => f_X12_line_b384 N q35503)) else some v
def f_X12_line_b239 (N : Nat) (v : VV) (x3 : Int32) (z0 : Int32) (z2 : Int32) : Option (VV) :=
  bnd (f_X12_numeral N v z0 999) (fun q23901 => gin z2 6 (bnd (f_X12_numeral N (sr q23901.2 10 z2.toNatClampNeg q23901.1) 0 99) (fun q23903 => gin x3 6 (bnd (f_X12_fresher (sr q23903.2 11 x3.toNatClampNeg q23903.1) 2) (fun q23905 => bnd (f_X12_reads (sr q23903.2 11 x3.toNatClampNeg q23903.1) 2 (q23905 + 1)) (fun q23907 => f_X12_line_b355 N q23907))))))
def f_X12_line_b105 (N : Nat) (v : VV) (x1 : Int32) : Option (VV) :=
  if v.1 23 = 0 then bnd (f_X12_token N (si v 16 ((v.1 16) ||| (1 <<< (x1 &&& 31))))) (fun q10501 => if x1 = 0 then bnd (f_X12_fresher q10501 0) (fun q10504 => bnd (f_X12_partyLine N q10501 (8 + q10504)) (fun q10506 => f_X12_line_b355 N q10506)) else if x1 = 1 then bnd (f_X12_numeral N q10501 1 99) (fun q10508 => bnd (f_X12_reads q10508.2 1 q10508.1) (fun q10510 => f_X12_line_b355 N q10510)) else if x1 = 2 then bnd (f_X12_fresher q10501 2) (fun q10512 => if 3 + q10512 = 3 then f_X12_line_b239 N q10501 (3 + q10512) 0 (3 + q10512) else gin ((3 + q10512) - 1) 6 (f_X12_line_b239 N q10501 (3 + q10512) ((q10501.2.1 10 (((3 + q10512) - 1).toNatClampNeg)) + 1) (3 + q10512))) else if x1 = 3 then bnd (f_X12_numeral N q10501 1 99) (fun q10514 => bnd (f_X12_reads q10514.2 3 q10514.1) (fun q10516 => f_X12_line_b355 N q10516)) else if x1 = 4 then bnd (f_X12_numeral N q10501 0 99) (fun q10518 => bnd (f_X12_reads q10518.2 4 q10518.1) (fun q10520 => f_X12_line_b355 N q10520)) else if x1 = 5 then bnd (f_X12_numeral N q10501 1 9) (fun q10522 => bnd (f_X12_reads q10522.2 5 q10522.1) (fun q10524 => f_X12_line_b355 N q10524)) else if x1 = 6 then bnd (f_X12_numeral N q10501 0 99) (fun q10526 => bnd (f_X12_reads q10526.2 6 q10526.1) (fun q10528 => f_X12_line_b355 N q10528)) else if x1 = 7 then bnd (f_X12_numeral N q10501 0 99999) (fun q10530 => bnd (f_X12_reads q10530.2 7 q10530.1) (fun q10532 => f_X12_line_b355 N q10532)) else bnd (f_X12_lawLine N q10501) (fun q10534 => f_X12_line_b355 N q10534)) else some v
def f_X12_line_b84 (N : Nat) (v : VV) (x1 : Int32) (x2 : Int32) : Option (VV) :=
  if x2 = 0 then f_X12_line_b105 N v x1 else if ((v.1 16) >>> (x1 &&& 31)) &&& 1 = 1 then bnd (f_X12_wrong v 3) (fun q8401 => f_X12_line_b105 N q8401 x1) else f_X12_line_b105 N v x1
def f_X12_line_b76 (N : Nat) (v : VV) (x1 : Int32) : Option (VV) :=
  bnd (f_X12_wrong v 2) (fun q7601 => f_X12_line_b105 N q7601 x1)
def f_X12_line_b62 (N : Nat) (v : VV) (x1 : Int32) (x2 : Int32) : Option (VV) :=
  if x1 = 2 then bnd (f_X12_fresher v 2) (fun q6201 => if q6201 = 3 then f_X12_line_b76 N v x1 else f_X12_line_b84 N v x1 x2) else f_X12_line_b84 N v x1 x2
def f_X12_line_b47 (N : Nat) (v : VV) (x1 : Int32) (z0 : Int32) : Option (VV) :=
  if x1 = 0 then bnd (f_X12_fresher v 0) (fun q4701 => if q4701 = 8 then f_X12_line_b76 N v x1 else f_X12_line_b62 N v x1 z0) else f_X12_line_b62 N v x1 z0
def f_X12_line_b46 (N : Nat) (v : VV) (x1 : Int32) : Option (VV) :=
  f_X12_line_b47 N v x1 0
def f_X12_line_b16 (N : Nat) (v : VV)  : Option (VV) :=
  bnd (f_X12_wrong v 1) (fun q1601 => some q1601)
def f_X12_line (N : Nat) (v : VV) : Option (VV) :=
  if v.1 21 = 0 then if v.1 22 ≤ 8 then if v.1 22 = 0 then f_X12_line_b46 N v (v.1 22) else if v.1 22 = 2 then f_X12_line_b46 N v (v.1 22) else if v.1 22 = 8 then f_X12_line_b46 N v (v.1 22) else f_X12_line_b47 N v (v.1 22) 1 else f_X12_line_b16 N v else f_X12_line_b16 N v
set_option maxHeartbeats 4000000 in
set_option maxRecDepth 100000 in
theorem k_X12_line (l : Launch) (G : va_G) (cy : Nat → ClassId) (ev : Nat → Nat) (N : Nat) (ad : Nat → Nat) (v : VV)  (res : VV) (h : f_X12_line N v = some res) : MetV l yX12_line cX12_line 4 none 789 16580 G cy ev [.ref (ad 0)] (cX12 cy ad v) (cX12 cy ad res) := by
  refine MetQ.start (by decide +kernel) (Nat.le_of_ble_eq_true rfl) (fun p e s m args below meth c A ls hx hb hr hml hown hts hlocks hK hP hD hA hl hE => ?_)
  have hS : va_S A s.heap s.heap [] := va_S.rf
  have hown : s.vm.findClass RX12 = some m.cls := hown
  have hl : lv_has ls 4 [(0, .ref (ad 0))] := hl
  have B384 : ∀ (v : VV) (H : Heap) (locs : List Loc) (ls : Array Slot), f_X12_line_b384 N v = some res → va_P G vwCl (cX12 cy ad v) H → va_D A (cX12 cy ad v) → va_S A s.heap H locs → lv_has ls 4 [(0, .ref (ad 0))] → W p l e (rmX 789 16580) s m args below meth c H locs 0 0 (MQ below (mQv G cy A (cX12 cy ad res)) args s 0 0 A) (F0 m 384 ls []) := by
    intro v H locs ls h hP hD hS hl
    delta f_X12_line_b384 at h
    refine lv_aload_n hx hb dX12_line_384 rfl (lv_at hl 0 rfl) ?_
    refine lv_dup hx hb dX12_line_385 rfl ?_
    refine gf_X12_17 (x := v.1 17) hx hb hts hown hK hP rfl dX12_line_386 ?_
    refine lv_iconst (v := 1) hx hb dX12_line_389 (by decide) ?_
    refine lv_iadd hx hb dX12_line_390 ?_
    refine pf_X12_17 hx hb hts hown hK hP hD hS dX12_line_391 (fun H locs hP hD hS => ?_)
    exact retV (fw := fun q => cX12 cy ad q) h hx hb hr hlocks hK hP hD hS dX12_line_394
  have B355 : ∀ (v : VV) (H : Heap) (locs : List Loc) (ls : Array Slot), f_X12_line_b355 N v = some res → va_P G vwCl (cX12 cy ad v) H → va_D A (cX12 cy ad v) → va_S A s.heap H locs → lv_has ls 4 [(0, .ref (ad 0))] → W p l e (rmX 789 16580) s m args below meth c H locs 0 0 (MQ below (mQv G cy A (cX12 cy ad res)) args s 0 0 A) (F0 m 355 ls []) := by
    intro v H locs ls h hP hD hS hl
    delta f_X12_line_b355 at h
    refine lv_aload_n hx hb dX12_line_355 rfl (lv_at hl 0 rfl) ?_
    refine gf_X12_23 (x := v.1 23) hx hb hts hown hK hP rfl dX12_line_356 ?_
    refine lv_if_eq (tgt := 363) hx hb dX12_line_359 (by decide) (fun c9 => ?_) (fun c9 => ?_)
    · replace h := (br h).1 c9
      refine lv_aload_n hx hb dX12_line_363 rfl (lv_at hl 0 rfl) ?_
      refine lv_bipush (v := 59) hx hb dX12_line_364 (by decide) ?_
      replace h := bd h
      obtain ⟨q35501, h35502, h⟩ := h
      refine callVi0 (As := [.int 59]) (rest := []) hx hb hml hown hts (k_X12_isSign l G cy ev ad v 59 q35501 h35502) wm_24_13 wm_24_14 wm_24_15 wm_1_5 wm_24_16 hd_X12_isSign ⟨by decide, by decide⟩ hK hP hD hS hA hE (va_recv hK hP (ci := 12) (q0 := 0) rfl rfl) rfl rfl hl.1 (Nat.le_of_ble_eq_true rfl) dX12_line_366 (fun H locs hP hD hS => ?_)
      refine lv_if_ne (tgt := 380) hx hb dX12_line_369 (by decide) (fun c9 => ?_) (fun c9 => ?_)
      · replace h := (br h).2 c9
        refine lv_aload_n hx hb dX12_line_380 rfl (lv_at hl 0 rfl) ?_
        replace h := bd h
        obtain ⟨q35503, h35504, h⟩ := h
        refine callVv0 (As := []) (rest := []) hx hb hml hown hts (k_X12_token l G cy ev N ad v q35503 h35504) wm_20_15 wm_20_16 wm_20_17 wm_1_5 wm_20_18 hd_X12_token ⟨by decide, by decide⟩ hK hP hD hS hA hE (va_recv hK hP (ci := 12) (q0 := 0) rfl rfl) rfl rfl hl.1 (Nat.le_of_ble_eq_true rfl) dX12_line_381 (fun H locs hP hD hS => ?_)
        exact B384 q35503 _ _ _ h hP hD hS (lv_sub hl [0] rfl)
      · replace h := (br h).1 c9
        refine lv_aload_n hx hb dX12_line_372 rfl (lv_at hl 0 rfl) ?_
        refine lv_iconst (v := 1) hx hb dX12_line_373 (by decide) ?_
        replace h := bd h
        obtain ⟨q35505, h35506, h⟩ := h
        refine callVv0 (As := [.int 1]) (rest := []) hx hb hml hown hts (k_X12_wrong l G cy ev ad v 1 q35505 h35506) wm_22_2 wm_22_3 wm_22_4 wm_1_5 wm_22_5 hd_X12_wrong ⟨by decide, by decide⟩ hK hP hD hS hA hE (va_recv hK hP (ci := 12) (q0 := 0) rfl rfl) rfl rfl hl.1 (Nat.le_of_ble_eq_true rfl) dX12_line_374 (fun H locs hP hD hS => ?_)
        refine lv_goto (tgt := 384) hx hb dX12_line_377 (by decide) ?_
        exact B384 q35505 _ _ _ h hP hD hS (lv_sub hl [0] rfl)
    · replace h := (br h).2 c9
      exact retV (fw := fun q => cX12 cy ad q) h hx hb hr hlocks hK hP hD hS dX12_line_362
  have B239 : ∀ (x3 : Int32) (z0 : Int32) (z2 : Int32) (v : VV) (H : Heap) (locs : List Loc) (ls : Array Slot), f_X12_line_b239 N v x3 z0 z2 = some res → va_P G vwCl (cX12 cy ad v) H → va_D A (cX12 cy ad v) → va_S A s.heap H locs → lv_has ls 4 [(0, .ref (ad 0)), (3, .int x3)] → W p l e (rmX 789 16580) s m args below meth c H locs 0 0 (MQ below (mQv G cy A (cX12 cy ad res)) args s 0 0 A) (F0 m 239 ls [.int z0, .ref (ad 0), .int z2, .ref (ad 11)]) := by
    intro x3 z0 z2 v H locs ls h hP hD hS hl
    delta f_X12_line_b239 at h
    refine lv_sipush (v := 999) hx hb dX12_line_239 (by decide) ?_
    replace h := bd h
    obtain ⟨q23901, h23902, h⟩ := h
    refine callVi0 (As := [.int z0, .int 999]) (rest := [.int z2, .ref (ad 11)]) hx hb hml hown hts (k_X12_numeral l G cy ev N ad v z0 999 q23901 h23902) wm_22_21 wm_22_22 wm_22_23 wm_1_5 wm_23_0 hd_X12_numeral ⟨by decide, by decide⟩ hK hP hD hS hA hE (va_recv hK hP (ci := 12) (q0 := 0) rfl rfl) rfl rfl hl.1 (Nat.le_of_ble_eq_true rfl) dX12_line_242 (fun H locs hP hD hS => ?_)
    replace h := gin_inv h
    obtain ⟨h9, h⟩ := h
    refine st_X12_10 (j := z2.toNatClampNeg) hx hb hK hP hD hS h9 rfl dX12_line_245 (fun H locs hP hD hS => ?_)
    refine lv_aload_n hx hb dX12_line_246 rfl (lv_at hl 0 rfl) ?_
    refine gf_X12_11 hx hb hts hown hK hP dX12_line_247 ?_
    refine lv_iload_n hx hb dX12_line_250 rfl (lv_at hl 1 rfl) ?_
    refine lv_aload_n hx hb dX12_line_251 rfl (lv_at hl 0 rfl) ?_
    refine lv_iconst (v := 0) hx hb dX12_line_252 (by decide) ?_
    refine lv_bipush (v := 99) hx hb dX12_line_253 (by decide) ?_
    replace h := bd h
    obtain ⟨q23903, h23904, h⟩ := h
    refine callVi0 (As := [.int 0, .int 99]) (rest := [.int x3, .ref (ad 12)]) hx hb hml hown hts (k_X12_numeral l G cy ev N ad (sr q23901.2 10 z2.toNatClampNeg q23901.1) 0 99 q23903 h23904) wm_22_21 wm_22_22 wm_22_23 wm_1_5 wm_23_0 hd_X12_numeral ⟨by decide, by decide⟩ hK hP hD hS hA hE (va_recv hK hP (ci := 12) (q0 := 0) rfl rfl) rfl rfl hl.1 (Nat.le_of_ble_eq_true rfl) dX12_line_255 (fun H locs hP hD hS => ?_)
    replace h := gin_inv h
    obtain ⟨h9, h⟩ := h
    refine st_X12_11 (j := x3.toNatClampNeg) hx hb hK hP hD hS h9 rfl dX12_line_258 (fun H locs hP hD hS => ?_)
    refine lv_aload_n hx hb dX12_line_259 rfl (lv_at hl 0 rfl) ?_
    refine lv_iconst (v := 2) hx hb dX12_line_260 (by decide) ?_
    refine lv_aload_n hx hb dX12_line_261 rfl (lv_at hl 0 rfl) ?_
    refine lv_iconst (v := 2) hx hb dX12_line_262 (by decide) ?_
    replace h := bd h
    obtain ⟨q23905, h23906, h⟩ := h
    refine callVi0 (As := [.int 2]) (rest := [.int 2, .ref (ad 0)]) hx hb hml hown hts (k_X12_fresher l G cy ev ad (sr q23903.2 11 x3.toNatClampNeg q23903.1) 2 q23905 h23906) wm_22_6 wm_22_7 wm_22_8 wm_1_5 wm_22_9 hd_X12_fresher ⟨by decide, by decide⟩ hK hP hD hS hA hE (va_recv hK hP (ci := 12) (q0 := 0) rfl rfl) rfl rfl hl.1 (Nat.le_of_ble_eq_true rfl) dX12_line_263 (fun H locs hP hD hS => ?_)
    refine lv_iconst (v := 1) hx hb dX12_line_266 (by decide) ?_
    refine lv_iadd hx hb dX12_line_267 ?_
    replace h := bd h
    obtain ⟨q23907, h23908, h⟩ := h
    refine callVv0 (As := [.int 2, .int (q23905 + 1)]) (rest := []) hx hb hml hown hts (k_X12_reads l G cy ev ad (sr q23903.2 11 x3.toNatClampNeg q23903.1) 2 (q23905 + 1) q23907 h23908) wm_20_11 wm_20_12 wm_20_13 wm_1_5 wm_20_14 hd_X12_reads ⟨by decide, by decide⟩ hK hP hD hS hA hE (va_recv hK hP (ci := 12) (q0 := 0) rfl rfl) rfl rfl hl.1 (Nat.le_of_ble_eq_true rfl) dX12_line_268 (fun H locs hP hD hS => ?_)
    refine lv_goto (tgt := 355) hx hb dX12_line_271 (by decide) ?_
    exact B355 q23907 _ _ _ h hP hD hS (lv_sub hl [0] rfl)
  have B105 : ∀ (x1 : Int32) (v : VV) (H : Heap) (locs : List Loc) (ls : Array Slot), f_X12_line_b105 N v x1 = some res → va_P G vwCl (cX12 cy ad v) H → va_D A (cX12 cy ad v) → va_S A s.heap H locs → lv_has ls 4 [(0, .ref (ad 0)), (1, .int x1)] → W p l e (rmX 789 16580) s m args below meth c H locs 0 0 (MQ below (mQv G cy A (cX12 cy ad res)) args s 0 0 A) (F0 m 105 ls []) := by
    intro x1 v H locs ls h hP hD hS hl
    delta f_X12_line_b105 at h
    refine lv_aload_n hx hb dX12_line_105 rfl (lv_at hl 0 rfl) ?_
    refine gf_X12_23 (x := v.1 23) hx hb hts hown hK hP rfl dX12_line_106 ?_
    refine lv_if_eq (tgt := 113) hx hb dX12_line_109 (by decide) (fun c9 => ?_) (fun c9 => ?_)
    · replace h := (br h).1 c9
      refine lv_aload_n hx hb dX12_line_113 rfl (lv_at hl 0 rfl) ?_
      refine lv_dup hx hb dX12_line_114 rfl ?_
      refine gf_X12_16 (x := v.1 16) hx hb hts hown hK hP rfl dX12_line_115 ?_
      refine lv_iconst (v := 1) hx hb dX12_line_118 (by decide) ?_
      refine lv_iload_n hx hb dX12_line_119 rfl (lv_at hl 1 rfl) ?_
      refine lv_ishl hx hb dX12_line_120 ?_
      refine lv_ior hx hb dX12_line_121 ?_
      refine pf_X12_16 hx hb hts hown hK hP hD hS dX12_line_122 (fun H locs hP hD hS => ?_)
      refine lv_aload_n hx hb dX12_line_125 rfl (lv_at hl 0 rfl) ?_
      replace h := bd h
      obtain ⟨q10501, h10502, h⟩ := h
      refine callVv0 (As := []) (rest := []) hx hb hml hown hts (k_X12_token l G cy ev N ad (si v 16 ((v.1 16) ||| (1 <<< (x1 &&& 31)))) q10501 h10502) wm_20_15 wm_20_16 wm_20_17 wm_1_5 wm_20_18 hd_X12_token ⟨by decide, by decide⟩ hK hP hD hS hA hE (va_recv hK hP (ci := 12) (q0 := 0) rfl rfl) rfl rfl hl.1 (Nat.le_of_ble_eq_true rfl) dX12_line_126 (fun H locs hP hD hS => ?_)
      refine lv_iload_n hx hb dX12_line_129 rfl (lv_at hl 1 rfl) ?_
      refine lv_topi (fun w10503 ew10503 => ?_)
      by_cases nw10503_0 : x1 = 0
      · replace h := (br h).1 nw10503_0
        rw [ew10503, nw10503_0]
        refine lv_tableIn (off := 46) (tgt := 176) hx hb dX12_line_130 (by decide) (by decide) rfl (by decide) ?_
        refine lv_aload_n hx hb dX12_line_176 rfl (lv_at hl 0 rfl) ?_
        refine lv_bipush (v := 8) hx hb dX12_line_177 (by decide) ?_
        refine lv_aload_n hx hb dX12_line_179 rfl (lv_at hl 0 rfl) ?_
        refine lv_iconst (v := 0) hx hb dX12_line_180 (by decide) ?_
        replace h := bd h
        obtain ⟨q10504, h10505, h⟩ := h
        refine callVi0 (As := [.int 0]) (rest := [.int 8, .ref (ad 0)]) hx hb hml hown hts (k_X12_fresher l G cy ev ad q10501 0 q10504 h10505) wm_22_6 wm_22_7 wm_22_8 wm_1_5 wm_22_9 hd_X12_fresher ⟨by decide, by decide⟩ hK hP hD hS hA hE (va_recv hK hP (ci := 12) (q0 := 0) rfl rfl) rfl rfl hl.1 (Nat.le_of_ble_eq_true rfl) dX12_line_181 (fun H locs hP hD hS => ?_)
        refine lv_iadd hx hb dX12_line_184 ?_
        replace h := bd h
        obtain ⟨q10506, h10507, h⟩ := h
        refine callVv0 (As := [.int (8 + q10504)]) (rest := []) hx hb hml hown hts (k_X12_partyLine l G cy ev N ad q10501 (8 + q10504) q10506 h10507) wm_22_10 wm_22_11 wm_22_12 wm_1_5 wm_22_13 hd_X12_partyLine ⟨by decide, by decide⟩ hK hP hD hS hA hE (va_recv hK hP (ci := 12) (q0 := 0) rfl rfl) rfl rfl hl.1 (Nat.le_of_ble_eq_true rfl) dX12_line_185 (fun H locs hP hD hS => ?_)
        refine lv_goto (tgt := 355) hx hb dX12_line_188 (by decide) ?_
        exact B355 q10506 _ _ _ h hP hD hS (lv_sub hl [0] rfl)
      · replace h := (br h).2 nw10503_0
        by_cases nw10503_1 : x1 = 1
        · replace h := (br h).1 nw10503_1
          rw [ew10503, nw10503_1]
          refine lv_tableIn (off := 61) (tgt := 191) hx hb dX12_line_130 (by decide) (by decide) rfl (by decide) ?_
          refine lv_aload_n hx hb dX12_line_191 rfl (lv_at hl 0 rfl) ?_
          refine lv_iconst (v := 1) hx hb dX12_line_192 (by decide) ?_
          refine lv_aload_n hx hb dX12_line_193 rfl (lv_at hl 0 rfl) ?_
          refine lv_iconst (v := 1) hx hb dX12_line_194 (by decide) ?_
          refine lv_bipush (v := 99) hx hb dX12_line_195 (by decide) ?_
          replace h := bd h
          obtain ⟨q10508, h10509, h⟩ := h
          refine callVi0 (As := [.int 1, .int 99]) (rest := [.int 1, .ref (ad 0)]) hx hb hml hown hts (k_X12_numeral l G cy ev N ad q10501 1 99 q10508 h10509) wm_22_21 wm_22_22 wm_22_23 wm_1_5 wm_23_0 hd_X12_numeral ⟨by decide, by decide⟩ hK hP hD hS hA hE (va_recv hK hP (ci := 12) (q0 := 0) rfl rfl) rfl rfl hl.1 (Nat.le_of_ble_eq_true rfl) dX12_line_197 (fun H locs hP hD hS => ?_)
          replace h := bd h
          obtain ⟨q10510, h10511, h⟩ := h
          refine callVv0 (As := [.int 1, .int q10508.1]) (rest := []) hx hb hml hown hts (k_X12_reads l G cy ev ad q10508.2 1 q10508.1 q10510 h10511) wm_20_11 wm_20_12 wm_20_13 wm_1_5 wm_20_14 hd_X12_reads ⟨by decide, by decide⟩ hK hP hD hS hA hE (va_recv hK hP (ci := 12) (q0 := 0) rfl rfl) rfl rfl hl.1 (Nat.le_of_ble_eq_true rfl) dX12_line_200 (fun H locs hP hD hS => ?_)
          refine lv_goto (tgt := 355) hx hb dX12_line_203 (by decide) ?_
          exact B355 q10510 _ _ _ h hP hD hS (lv_sub hl [0] rfl)
        · replace h := (br h).2 nw10503_1
          by_cases nw10503_2 : x1 = 2
          · replace h := (br h).1 nw10503_2
            rw [ew10503, nw10503_2]
            refine lv_tableIn (off := 76) (tgt := 206) hx hb dX12_line_130 (by decide) (by decide) rfl (by decide) ?_
            refine lv_iconst (v := 3) hx hb dX12_line_206 (by decide) ?_
            refine lv_aload_n hx hb dX12_line_207 rfl (lv_at hl 0 rfl) ?_
            refine lv_iconst (v := 2) hx hb dX12_line_208 (by decide) ?_
            replace h := bd h
            obtain ⟨q10512, h10513, h⟩ := h
            refine callVi0 (As := [.int 2]) (rest := [.int 3]) hx hb hml hown hts (k_X12_fresher l G cy ev ad q10501 2 q10512 h10513) wm_22_6 wm_22_7 wm_22_8 wm_1_5 wm_22_9 hd_X12_fresher ⟨by decide, by decide⟩ hK hP hD hS hA hE (va_recv hK hP (ci := 12) (q0 := 0) rfl rfl) rfl rfl hl.1 (Nat.le_of_ble_eq_true rfl) dX12_line_209 (fun H locs hP hD hS => ?_)
            refine lv_iadd hx hb dX12_line_212 ?_
            refine lv_istore_n (lv' := [(3, .int (3 + q10512)), (0, .ref (ad 0)), (1, .int x1)]) hx hb dX12_line_213 rfl hl (by decide) rfl (fun ls hl => ?_)
            refine lv_aload_n hx hb dX12_line_214 rfl (lv_at hl 1 rfl) ?_
            refine gf_X12_10 hx hb hts hown hK hP dX12_line_215 ?_
            refine lv_iload_n hx hb dX12_line_218 rfl (lv_at hl 0 rfl) ?_
            refine lv_aload_n hx hb dX12_line_219 rfl (lv_at hl 1 rfl) ?_
            refine lv_iload_n hx hb dX12_line_220 rfl (lv_at hl 0 rfl) ?_
            refine lv_iconst (v := 3) hx hb dX12_line_221 (by decide) ?_
            refine lv_icmp_ne (tgt := 229) hx hb dX12_line_222 (by decide) (fun c9 => ?_) (fun c9 => ?_)
            · replace h := (br h).2 c9
              refine lv_aload_n hx hb dX12_line_229 rfl (lv_at hl 1 rfl) ?_
              refine gf_X12_10 hx hb hts hown hK hP dX12_line_230 ?_
              refine lv_iload_n hx hb dX12_line_233 rfl (lv_at hl 0 rfl) ?_
              refine lv_iconst (v := 1) hx hb dX12_line_234 (by decide) ?_
              refine lv_isub hx hb dX12_line_235 ?_
              replace h := gin_inv h
              obtain ⟨h9, h⟩ := h
              refine ld_X12_10 (f := q10501.2.1 10) (j := ((3 + q10512) - 1).toNatClampNeg) hx hb hK hP rfl h9 rfl dX12_line_236 ?_
              refine lv_iconst (v := 1) hx hb dX12_line_237 (by decide) ?_
              refine lv_iadd hx hb dX12_line_238 ?_
              exact B239 (3 + q10512) ((q10501.2.1 10 (((3 + q10512) - 1).toNatClampNeg)) + 1) (3 + q10512) q10501 _ _ _ h hP hD hS (lv_sub hl [1, 0] rfl)
            · replace h := (br h).1 c9
              refine lv_iconst (v := 0) hx hb dX12_line_225 (by decide) ?_
              refine lv_goto (tgt := 239) hx hb dX12_line_226 (by decide) ?_
              exact B239 (3 + q10512) 0 (3 + q10512) q10501 _ _ _ h hP hD hS (lv_sub hl [1, 0] rfl)
          · replace h := (br h).2 nw10503_2
            by_cases nw10503_3 : x1 = 3
            · replace h := (br h).1 nw10503_3
              rw [ew10503, nw10503_3]
              refine lv_tableIn (off := 144) (tgt := 274) hx hb dX12_line_130 (by decide) (by decide) rfl (by decide) ?_
              refine lv_aload_n hx hb dX12_line_274 rfl (lv_at hl 0 rfl) ?_
              refine lv_iconst (v := 3) hx hb dX12_line_275 (by decide) ?_
              refine lv_aload_n hx hb dX12_line_276 rfl (lv_at hl 0 rfl) ?_
              refine lv_iconst (v := 1) hx hb dX12_line_277 (by decide) ?_
              refine lv_bipush (v := 99) hx hb dX12_line_278 (by decide) ?_
              replace h := bd h
              obtain ⟨q10514, h10515, h⟩ := h
              refine callVi0 (As := [.int 1, .int 99]) (rest := [.int 3, .ref (ad 0)]) hx hb hml hown hts (k_X12_numeral l G cy ev N ad q10501 1 99 q10514 h10515) wm_22_21 wm_22_22 wm_22_23 wm_1_5 wm_23_0 hd_X12_numeral ⟨by decide, by decide⟩ hK hP hD hS hA hE (va_recv hK hP (ci := 12) (q0 := 0) rfl rfl) rfl rfl hl.1 (Nat.le_of_ble_eq_true rfl) dX12_line_280 (fun H locs hP hD hS => ?_)
              replace h := bd h
              obtain ⟨q10516, h10517, h⟩ := h
              refine callVv0 (As := [.int 3, .int q10514.1]) (rest := []) hx hb hml hown hts (k_X12_reads l G cy ev ad q10514.2 3 q10514.1 q10516 h10517) wm_20_11 wm_20_12 wm_20_13 wm_1_5 wm_20_14 hd_X12_reads ⟨by decide, by decide⟩ hK hP hD hS hA hE (va_recv hK hP (ci := 12) (q0 := 0) rfl rfl) rfl rfl hl.1 (Nat.le_of_ble_eq_true rfl) dX12_line_283 (fun H locs hP hD hS => ?_)
              refine lv_goto (tgt := 355) hx hb dX12_line_286 (by decide) ?_
              exact B355 q10516 _ _ _ h hP hD hS (lv_sub hl [0] rfl)
            · replace h := (br h).2 nw10503_3
              by_cases nw10503_4 : x1 = 4
              · replace h := (br h).1 nw10503_4
                rw [ew10503, nw10503_4]
                refine lv_tableIn (off := 159) (tgt := 289) hx hb dX12_line_130 (by decide) (by decide) rfl (by decide) ?_
                refine lv_aload_n hx hb dX12_line_289 rfl (lv_at hl 0 rfl) ?_
                refine lv_iconst (v := 4) hx hb dX12_line_290 (by decide) ?_
                refine lv_aload_n hx hb dX12_line_291 rfl (lv_at hl 0 rfl) ?_
                refine lv_iconst (v := 0) hx hb dX12_line_292 (by decide) ?_
                refine lv_bipush (v := 99) hx hb dX12_line_293 (by decide) ?_
                replace h := bd h
                obtain ⟨q10518, h10519, h⟩ := h
                refine callVi0 (As := [.int 0, .int 99]) (rest := [.int 4, .ref (ad 0)]) hx hb hml hown hts (k_X12_numeral l G cy ev N ad q10501 0 99 q10518 h10519) wm_22_21 wm_22_22 wm_22_23 wm_1_5 wm_23_0 hd_X12_numeral ⟨by decide, by decide⟩ hK hP hD hS hA hE (va_recv hK hP (ci := 12) (q0 := 0) rfl rfl) rfl rfl hl.1 (Nat.le_of_ble_eq_true rfl) dX12_line_295 (fun H locs hP hD hS => ?_)
                replace h := bd h
                obtain ⟨q10520, h10521, h⟩ := h
                refine callVv0 (As := [.int 4, .int q10518.1]) (rest := []) hx hb hml hown hts (k_X12_reads l G cy ev ad q10518.2 4 q10518.1 q10520 h10521) wm_20_11 wm_20_12 wm_20_13 wm_1_5 wm_20_14 hd_X12_reads ⟨by decide, by decide⟩ hK hP hD hS hA hE (va_recv hK hP (ci := 12) (q0 := 0) rfl rfl) rfl rfl hl.1 (Nat.le_of_ble_eq_true rfl) dX12_line_298 (fun H locs hP hD hS => ?_)
                refine lv_goto (tgt := 355) hx hb dX12_line_301 (by decide) ?_
                exact B355 q10520 _ _ _ h hP hD hS (lv_sub hl [0] rfl)
              · replace h := (br h).2 nw10503_4
                by_cases nw10503_5 : x1 = 5
                · replace h := (br h).1 nw10503_5
                  rw [ew10503, nw10503_5]
                  refine lv_tableIn (off := 174) (tgt := 304) hx hb dX12_line_130 (by decide) (by decide) rfl (by decide) ?_
                  refine lv_aload_n hx hb dX12_line_304 rfl (lv_at hl 0 rfl) ?_
                  refine lv_iconst (v := 5) hx hb dX12_line_305 (by decide) ?_
                  refine lv_aload_n hx hb dX12_line_306 rfl (lv_at hl 0 rfl) ?_
                  refine lv_iconst (v := 1) hx hb dX12_line_307 (by decide) ?_
                  refine lv_bipush (v := 9) hx hb dX12_line_308 (by decide) ?_
                  replace h := bd h
                  obtain ⟨q10522, h10523, h⟩ := h
                  refine callVi0 (As := [.int 1, .int 9]) (rest := [.int 5, .ref (ad 0)]) hx hb hml hown hts (k_X12_numeral l G cy ev N ad q10501 1 9 q10522 h10523) wm_22_21 wm_22_22 wm_22_23 wm_1_5 wm_23_0 hd_X12_numeral ⟨by decide, by decide⟩ hK hP hD hS hA hE (va_recv hK hP (ci := 12) (q0 := 0) rfl rfl) rfl rfl hl.1 (Nat.le_of_ble_eq_true rfl) dX12_line_310 (fun H locs hP hD hS => ?_)
                  replace h := bd h
                  obtain ⟨q10524, h10525, h⟩ := h
                  refine callVv0 (As := [.int 5, .int q10522.1]) (rest := []) hx hb hml hown hts (k_X12_reads l G cy ev ad q10522.2 5 q10522.1 q10524 h10525) wm_20_11 wm_20_12 wm_20_13 wm_1_5 wm_20_14 hd_X12_reads ⟨by decide, by decide⟩ hK hP hD hS hA hE (va_recv hK hP (ci := 12) (q0 := 0) rfl rfl) rfl rfl hl.1 (Nat.le_of_ble_eq_true rfl) dX12_line_313 (fun H locs hP hD hS => ?_)
                  refine lv_goto (tgt := 355) hx hb dX12_line_316 (by decide) ?_
                  exact B355 q10524 _ _ _ h hP hD hS (lv_sub hl [0] rfl)
                · replace h := (br h).2 nw10503_5
                  by_cases nw10503_6 : x1 = 6
                  · replace h := (br h).1 nw10503_6
                    rw [ew10503, nw10503_6]
                    refine lv_tableIn (off := 189) (tgt := 319) hx hb dX12_line_130 (by decide) (by decide) rfl (by decide) ?_
                    refine lv_aload_n hx hb dX12_line_319 rfl (lv_at hl 0 rfl) ?_
                    refine lv_bipush (v := 6) hx hb dX12_line_320 (by decide) ?_
                    refine lv_aload_n hx hb dX12_line_322 rfl (lv_at hl 0 rfl) ?_
                    refine lv_iconst (v := 0) hx hb dX12_line_323 (by decide) ?_
                    refine lv_bipush (v := 99) hx hb dX12_line_324 (by decide) ?_
                    replace h := bd h
                    obtain ⟨q10526, h10527, h⟩ := h
                    refine callVi0 (As := [.int 0, .int 99]) (rest := [.int 6, .ref (ad 0)]) hx hb hml hown hts (k_X12_numeral l G cy ev N ad q10501 0 99 q10526 h10527) wm_22_21 wm_22_22 wm_22_23 wm_1_5 wm_23_0 hd_X12_numeral ⟨by decide, by decide⟩ hK hP hD hS hA hE (va_recv hK hP (ci := 12) (q0 := 0) rfl rfl) rfl rfl hl.1 (Nat.le_of_ble_eq_true rfl) dX12_line_326 (fun H locs hP hD hS => ?_)
                    replace h := bd h
                    obtain ⟨q10528, h10529, h⟩ := h
                    refine callVv0 (As := [.int 6, .int q10526.1]) (rest := []) hx hb hml hown hts (k_X12_reads l G cy ev ad q10526.2 6 q10526.1 q10528 h10529) wm_20_11 wm_20_12 wm_20_13 wm_1_5 wm_20_14 hd_X12_reads ⟨by decide, by decide⟩ hK hP hD hS hA hE (va_recv hK hP (ci := 12) (q0 := 0) rfl rfl) rfl rfl hl.1 (Nat.le_of_ble_eq_true rfl) dX12_line_329 (fun H locs hP hD hS => ?_)
                    refine lv_goto (tgt := 355) hx hb dX12_line_332 (by decide) ?_
                    exact B355 q10528 _ _ _ h hP hD hS (lv_sub hl [0] rfl)
                  · replace h := (br h).2 nw10503_6
                    by_cases nw10503_7 : x1 = 7
                    · replace h := (br h).1 nw10503_7
                      rw [ew10503, nw10503_7]
                      refine lv_tableIn (off := 205) (tgt := 335) hx hb dX12_line_130 (by decide) (by decide) rfl (by decide) ?_
                      refine lv_aload_n hx hb dX12_line_335 rfl (lv_at hl 0 rfl) ?_
                      refine lv_bipush (v := 7) hx hb dX12_line_336 (by decide) ?_
                      refine lv_aload_n hx hb dX12_line_338 rfl (lv_at hl 0 rfl) ?_
                      refine lv_iconst (v := 0) hx hb dX12_line_339 (by decide) ?_
                      refine lv_ldc (v := (99999)) hx hb hown (hts _ wm_20_21) dX12_line_340 ?_
                      replace h := bd h
                      obtain ⟨q10530, h10531, h⟩ := h
                      refine callVi0 (As := [.int 0, .int 99999]) (rest := [.int 7, .ref (ad 0)]) hx hb hml hown hts (k_X12_numeral l G cy ev N ad q10501 0 99999 q10530 h10531) wm_22_21 wm_22_22 wm_22_23 wm_1_5 wm_23_0 hd_X12_numeral ⟨by decide, by decide⟩ hK hP hD hS hA hE (va_recv hK hP (ci := 12) (q0 := 0) rfl rfl) rfl rfl hl.1 (Nat.le_of_ble_eq_true rfl) dX12_line_342 (fun H locs hP hD hS => ?_)
                      replace h := bd h
                      obtain ⟨q10532, h10533, h⟩ := h
                      refine callVv0 (As := [.int 7, .int q10530.1]) (rest := []) hx hb hml hown hts (k_X12_reads l G cy ev ad q10530.2 7 q10530.1 q10532 h10533) wm_20_11 wm_20_12 wm_20_13 wm_1_5 wm_20_14 hd_X12_reads ⟨by decide, by decide⟩ hK hP hD hS hA hE (va_recv hK hP (ci := 12) (q0 := 0) rfl rfl) rfl rfl hl.1 (Nat.le_of_ble_eq_true rfl) dX12_line_345 (fun H locs hP hD hS => ?_)
                      refine lv_goto (tgt := 355) hx hb dX12_line_348 (by decide) ?_
                      exact B355 q10532 _ _ _ h hP hD hS (lv_sub hl [0] rfl)
                    · replace h := (br h).2 nw10503_7
                      rw [ew10503]
                      refine lv_tableOut (tgt := 351) hx hb dX12_line_130 (by have := ne_toInt (k := 0) 0 (by decide) nw10503_0; have := ne_toInt (k := 1) 1 (by decide) nw10503_1; have := ne_toInt (k := 2) 2 (by decide) nw10503_2; have := ne_toInt (k := 3) 3 (by decide) nw10503_3; have := ne_toInt (k := 4) 4 (by decide) nw10503_4; have := ne_toInt (k := 5) 5 (by decide) nw10503_5; have := ne_toInt (k := 6) 6 (by decide) nw10503_6; have := ne_toInt (k := 7) 7 (by decide) nw10503_7; omega) (by decide) ?_
                      refine lv_aload_n hx hb dX12_line_351 rfl (lv_at hl 0 rfl) ?_
                      replace h := bd h
                      obtain ⟨q10534, h10535, h⟩ := h
                      refine callVv0 (As := []) (rest := []) hx hb hml hown hts (k_X12_lawLine l G cy ev N ad q10501 q10534 h10535) wm_23_1 wm_23_2 wm_23_3 wm_1_5 wm_23_4 hd_X12_lawLine ⟨by decide, by decide⟩ hK hP hD hS hA hE (va_recv hK hP (ci := 12) (q0 := 0) rfl rfl) rfl rfl hl.1 (Nat.le_of_ble_eq_true rfl) dX12_line_352 (fun H locs hP hD hS => ?_)
                      exact B355 q10534 _ _ _ h hP hD hS (lv_sub hl [0] rfl)
    · replace h := (br h).2 c9
      exact retV (fw := fun q => cX12 cy ad q) h hx hb hr hlocks hK hP hD hS dX12_line_112
  have B84 : ∀ (x1 : Int32) (x2 : Int32) (v : VV) (H : Heap) (locs : List Loc) (ls : Array Slot), f_X12_line_b84 N v x1 x2 = some res → va_P G vwCl (cX12 cy ad v) H → va_D A (cX12 cy ad v) → va_S A s.heap H locs → lv_has ls 4 [(0, .ref (ad 0)), (1, .int x1), (2, .int x2)] → W p l e (rmX 789 16580) s m args below meth c H locs 0 0 (MQ below (mQv G cy A (cX12 cy ad res)) args s 0 0 A) (F0 m 84 ls []) := by
    intro x1 x2 v H locs ls h hP hD hS hl
    delta f_X12_line_b84 at h
    refine lv_iload_n hx hb dX12_line_84 rfl (lv_at hl 2 rfl) ?_
    refine lv_if_eq (tgt := 105) hx hb dX12_line_85 (by decide) (fun c9 => ?_) (fun c9 => ?_)
    · replace h := (br h).1 c9
      exact B105 x1 v _ _ _ h hP hD hS (lv_sub hl [0, 1] rfl)
    · replace h := (br h).2 c9
      refine lv_aload_n hx hb dX12_line_88 rfl (lv_at hl 0 rfl) ?_
      refine gf_X12_16 (x := v.1 16) hx hb hts hown hK hP rfl dX12_line_89 ?_
      refine lv_iload_n hx hb dX12_line_92 rfl (lv_at hl 1 rfl) ?_
      refine lv_ishr hx hb dX12_line_93 ?_
      refine lv_iconst (v := 1) hx hb dX12_line_94 (by decide) ?_
      refine lv_iand hx hb dX12_line_95 ?_
      refine lv_iconst (v := 1) hx hb dX12_line_96 (by decide) ?_
      refine lv_icmp_ne (tgt := 105) hx hb dX12_line_97 (by decide) (fun c9 => ?_) (fun c9 => ?_)
      · replace h := (br h).2 c9
        exact B105 x1 v _ _ _ h hP hD hS (lv_sub hl [0, 1] rfl)
      · replace h := (br h).1 c9
        refine lv_aload_n hx hb dX12_line_100 rfl (lv_at hl 0 rfl) ?_
        refine lv_iconst (v := 3) hx hb dX12_line_101 (by decide) ?_
        replace h := bd h
        obtain ⟨q8401, h8402, h⟩ := h
        refine callVv0 (As := [.int 3]) (rest := []) hx hb hml hown hts (k_X12_wrong l G cy ev ad v 3 q8401 h8402) wm_22_2 wm_22_3 wm_22_4 wm_1_5 wm_22_5 hd_X12_wrong ⟨by decide, by decide⟩ hK hP hD hS hA hE (va_recv hK hP (ci := 12) (q0 := 0) rfl rfl) rfl rfl hl.1 (Nat.le_of_ble_eq_true rfl) dX12_line_102 (fun H locs hP hD hS => ?_)
        exact B105 x1 q8401 _ _ _ h hP hD hS (lv_sub hl [0, 1] rfl)
  have B76 : ∀ (x1 : Int32) (v : VV) (H : Heap) (locs : List Loc) (ls : Array Slot), f_X12_line_b76 N v x1 = some res → va_P G vwCl (cX12 cy ad v) H → va_D A (cX12 cy ad v) → va_S A s.heap H locs → lv_has ls 4 [(0, .ref (ad 0)), (1, .int x1)] → W p l e (rmX 789 16580) s m args below meth c H locs 0 0 (MQ below (mQv G cy A (cX12 cy ad res)) args s 0 0 A) (F0 m 76 ls []) := by
    intro x1 v H locs ls h hP hD hS hl
    delta f_X12_line_b76 at h
    refine lv_aload_n hx hb dX12_line_76 rfl (lv_at hl 0 rfl) ?_
    refine lv_iconst (v := 2) hx hb dX12_line_77 (by decide) ?_
    replace h := bd h
    obtain ⟨q7601, h7602, h⟩ := h
    refine callVv0 (As := [.int 2]) (rest := []) hx hb hml hown hts (k_X12_wrong l G cy ev ad v 2 q7601 h7602) wm_22_2 wm_22_3 wm_22_4 wm_1_5 wm_22_5 hd_X12_wrong ⟨by decide, by decide⟩ hK hP hD hS hA hE (va_recv hK hP (ci := 12) (q0 := 0) rfl rfl) rfl rfl hl.1 (Nat.le_of_ble_eq_true rfl) dX12_line_78 (fun H locs hP hD hS => ?_)
    refine lv_goto (tgt := 105) hx hb dX12_line_81 (by decide) ?_
    exact B105 x1 q7601 _ _ _ h hP hD hS (lv_sub hl [0, 1] rfl)
  have B62 : ∀ (x1 : Int32) (x2 : Int32) (v : VV) (H : Heap) (locs : List Loc) (ls : Array Slot), f_X12_line_b62 N v x1 x2 = some res → va_P G vwCl (cX12 cy ad v) H → va_D A (cX12 cy ad v) → va_S A s.heap H locs → lv_has ls 4 [(0, .ref (ad 0)), (1, .int x1), (2, .int x2)] → W p l e (rmX 789 16580) s m args below meth c H locs 0 0 (MQ below (mQv G cy A (cX12 cy ad res)) args s 0 0 A) (F0 m 62 ls []) := by
    intro x1 x2 v H locs ls h hP hD hS hl
    delta f_X12_line_b62 at h
    refine lv_iload_n hx hb dX12_line_62 rfl (lv_at hl 1 rfl) ?_
    refine lv_iconst (v := 2) hx hb dX12_line_63 (by decide) ?_
    refine lv_icmp_ne (tgt := 84) hx hb dX12_line_64 (by decide) (fun c9 => ?_) (fun c9 => ?_)
    · replace h := (br h).2 c9
      exact B84 x1 x2 v _ _ _ h hP hD hS (lv_sub hl [0, 1, 2] rfl)
    · replace h := (br h).1 c9
      refine lv_aload_n hx hb dX12_line_67 rfl (lv_at hl 0 rfl) ?_
      refine lv_iconst (v := 2) hx hb dX12_line_68 (by decide) ?_
      replace h := bd h
      obtain ⟨q6201, h6202, h⟩ := h
      refine callVi0 (As := [.int 2]) (rest := []) hx hb hml hown hts (k_X12_fresher l G cy ev ad v 2 q6201 h6202) wm_22_6 wm_22_7 wm_22_8 wm_1_5 wm_22_9 hd_X12_fresher ⟨by decide, by decide⟩ hK hP hD hS hA hE (va_recv hK hP (ci := 12) (q0 := 0) rfl rfl) rfl rfl hl.1 (Nat.le_of_ble_eq_true rfl) dX12_line_69 (fun H locs hP hD hS => ?_)
      refine lv_iconst (v := 3) hx hb dX12_line_72 (by decide) ?_
      refine lv_icmp_ne (tgt := 84) hx hb dX12_line_73 (by decide) (fun c9 => ?_) (fun c9 => ?_)
      · replace h := (br h).2 c9
        exact B84 x1 x2 v _ _ _ h hP hD hS (lv_sub hl [0, 1, 2] rfl)
      · replace h := (br h).1 c9
        exact B76 x1 v _ _ _ h hP hD hS (lv_sub hl [0, 1] rfl)
  have B47 : ∀ (x1 : Int32) (z0 : Int32) (v : VV) (H : Heap) (locs : List Loc) (ls : Array Slot), f_X12_line_b47 N v x1 z0 = some res → va_P G vwCl (cX12 cy ad v) H → va_D A (cX12 cy ad v) → va_S A s.heap H locs → lv_has ls 4 [(0, .ref (ad 0)), (1, .int x1)] → W p l e (rmX 789 16580) s m args below meth c H locs 0 0 (MQ below (mQv G cy A (cX12 cy ad res)) args s 0 0 A) (F0 m 47 ls [.int z0]) := by
    intro x1 z0 v H locs ls h hP hD hS hl
    delta f_X12_line_b47 at h
    refine lv_istore_n (lv' := [(2, .int z0), (0, .ref (ad 0)), (1, .int x1)]) hx hb dX12_line_47 rfl hl (by decide) rfl (fun ls hl => ?_)
    refine lv_iload_n hx hb dX12_line_48 rfl (lv_at hl 2 rfl) ?_
    refine lv_if_ne (tgt := 62) hx hb dX12_line_49 (by decide) (fun c9 => ?_) (fun c9 => ?_)
    · replace h := (br h).2 c9
      exact B62 x1 z0 v _ _ _ h hP hD hS (lv_sub hl [1, 2, 0] rfl)
    · replace h := (br h).1 c9
      refine lv_aload_n hx hb dX12_line_52 rfl (lv_at hl 1 rfl) ?_
      refine lv_iconst (v := 0) hx hb dX12_line_53 (by decide) ?_
      replace h := bd h
      obtain ⟨q4701, h4702, h⟩ := h
      refine callVi0 (As := [.int 0]) (rest := []) hx hb hml hown hts (k_X12_fresher l G cy ev ad v 0 q4701 h4702) wm_22_6 wm_22_7 wm_22_8 wm_1_5 wm_22_9 hd_X12_fresher ⟨by decide, by decide⟩ hK hP hD hS hA hE (va_recv hK hP (ci := 12) (q0 := 0) rfl rfl) rfl rfl hl.1 (Nat.le_of_ble_eq_true rfl) dX12_line_54 (fun H locs hP hD hS => ?_)
      refine lv_bipush (v := 8) hx hb dX12_line_57 (by decide) ?_
      refine lv_icmp_eq (tgt := 76) hx hb dX12_line_59 (by decide) (fun c9 => ?_) (fun c9 => ?_)
      · replace h := (br h).1 c9
        exact B76 x1 v _ _ _ h hP hD hS (lv_sub hl [1, 2] rfl)
      · replace h := (br h).2 c9
        exact B62 x1 z0 v _ _ _ h hP hD hS (lv_sub hl [1, 2, 0] rfl)
  have B46 : ∀ (x1 : Int32) (v : VV) (H : Heap) (locs : List Loc) (ls : Array Slot), f_X12_line_b46 N v x1 = some res → va_P G vwCl (cX12 cy ad v) H → va_D A (cX12 cy ad v) → va_S A s.heap H locs → lv_has ls 4 [(0, .ref (ad 0)), (1, .int x1)] → W p l e (rmX 789 16580) s m args below meth c H locs 0 0 (MQ below (mQv G cy A (cX12 cy ad res)) args s 0 0 A) (F0 m 46 ls []) := by
    intro x1 v H locs ls h hP hD hS hl
    delta f_X12_line_b46 at h
    refine lv_iconst (v := 0) hx hb dX12_line_46 (by decide) ?_
    exact B47 x1 0 v _ _ _ h hP hD hS (lv_sub hl [0, 1] rfl)
  have B16 : ∀ (v : VV) (H : Heap) (locs : List Loc) (ls : Array Slot), f_X12_line_b16 N v = some res → va_P G vwCl (cX12 cy ad v) H → va_D A (cX12 cy ad v) → va_S A s.heap H locs → lv_has ls 4 [(0, .ref (ad 0))] → W p l e (rmX 789 16580) s m args below meth c H locs 0 0 (MQ below (mQv G cy A (cX12 cy ad res)) args s 0 0 A) (F0 m 16 ls []) := by
    intro v H locs ls h hP hD hS hl
    delta f_X12_line_b16 at h
    refine lv_aload_n hx hb dX12_line_16 rfl (lv_at hl 0 rfl) ?_
    refine lv_iconst (v := 1) hx hb dX12_line_17 (by decide) ?_
    replace h := bd h
    obtain ⟨q1601, h1602, h⟩ := h
    refine callVv0 (As := [.int 1]) (rest := []) hx hb hml hown hts (k_X12_wrong l G cy ev ad v 1 q1601 h1602) wm_22_2 wm_22_3 wm_22_4 wm_1_5 wm_22_5 hd_X12_wrong ⟨by decide, by decide⟩ hK hP hD hS hA hE (va_recv hK hP (ci := 12) (q0 := 0) rfl rfl) rfl rfl hl.1 (Nat.le_of_ble_eq_true rfl) dX12_line_18 (fun H locs hP hD hS => ?_)
    exact retV (fw := fun q => cX12 cy ad q) h hx hb hr hlocks hK hP hD hS dX12_line_21
  delta f_X12_line at h
  refine lv_aload_n hx hb dX12_line_0 rfl (lv_at hl 0 rfl) ?_
  refine gf_X12_21 (x := v.1 21) hx hb hts hown hK hP rfl dX12_line_1 ?_
  refine lv_if_ne (tgt := 16) hx hb dX12_line_4 (by decide) (fun c9 => ?_) (fun c9 => ?_)
  · replace h := (br h).2 c9
    exact B16 v _ _ _ h hP hD hS (lv_sub hl [0] rfl)
  · replace h := (br h).1 c9
    refine lv_aload_n hx hb dX12_line_7 rfl (lv_at hl 0 rfl) ?_
    refine gf_X12_22 (x := v.1 22) hx hb hts hown hK hP rfl dX12_line_8 ?_
    refine lv_bipush (v := 8) hx hb dX12_line_11 (by decide) ?_
    refine lv_icmp_le (tgt := 22) hx hb dX12_line_13 (by decide) (fun c9 => ?_) (fun c9 => ?_)
    · replace h := (br h).1 c9
      refine lv_aload_n hx hb dX12_line_22 rfl (lv_at hl 0 rfl) ?_
      refine gf_X12_22 (x := v.1 22) hx hb hts hown hK hP rfl dX12_line_23 ?_
      refine lv_istore_n (lv' := [(1, .int (v.1 22)), (0, .ref (ad 0))]) hx hb dX12_line_26 rfl hl (by decide) rfl (fun ls hl => ?_)
      refine lv_iload_n hx hb dX12_line_27 rfl (lv_at hl 0 rfl) ?_
      refine lv_if_eq (tgt := 46) hx hb dX12_line_28 (by decide) (fun c9 => ?_) (fun c9 => ?_)
      · replace h := (br h).1 c9
        exact B46 (v.1 22) v _ _ _ h hP hD hS (lv_sub hl [1, 0] rfl)
      · replace h := (br h).2 c9
        refine lv_iload_n hx hb dX12_line_31 rfl (lv_at hl 0 rfl) ?_
        refine lv_iconst (v := 2) hx hb dX12_line_32 (by decide) ?_
        refine lv_icmp_eq (tgt := 46) hx hb dX12_line_33 (by decide) (fun c9 => ?_) (fun c9 => ?_)
        · replace h := (br h).1 c9
          exact B46 (v.1 22) v _ _ _ h hP hD hS (lv_sub hl [1, 0] rfl)
        · replace h := (br h).2 c9
          refine lv_iload_n hx hb dX12_line_36 rfl (lv_at hl 0 rfl) ?_
          refine lv_bipush (v := 8) hx hb dX12_line_37 (by decide) ?_
          refine lv_icmp_eq (tgt := 46) hx hb dX12_line_39 (by decide) (fun c9 => ?_) (fun c9 => ?_)
          · replace h := (br h).1 c9
            exact B46 (v.1 22) v _ _ _ h hP hD hS (lv_sub hl [1, 0] rfl)
          · replace h := (br h).2 c9
            refine lv_iconst (v := 1) hx hb dX12_line_42 (by decide) ?_
            refine lv_goto (tgt := 47) hx hb dX12_line_43 (by decide) ?_
            exact B47 (v.1 22) 1 v _ _ _ h hP hD hS (lv_sub hl [1, 0] rfl)
    · replace h := (br h).2 c9
      exact B16 v _ _ _ h hP hD hS (lv_sub hl [0] rfl)
theorem hd_X12_text : yX12_text.cls = RX12 ∧ yX12_text.cls ≠ "java/lang/invoke/MethodHandle" ∧ yX12_text.cls ≠ "java/lang/invoke/VarHandle" ∧ (parseMethodDescriptor yX12_text.desc).map (fun d => d.parameters.length) = some 1 := ⟨rfl, by decide +kernel, by decide +kernel, by decide +kernel⟩
def f_X12_text_b178 (N : Nat) (v : VV)  : Option (Int32 × VV) :=
  if v.1 23 = 0 then bnd (f_X12_half N 18 (v.2.1 3)) (fun q17801 => bnd (f_X12_half N 16 (v.2.1 4)) (fun q17803 => bnd (f_X12_half N 16 (v.2.1 5)) (fun q17805 => bnd (f_X12_half N 48 (v.2.1 6)) (fun q17807 => bnd (f_X12_half N 16 (v.2.1 7)) (fun q17809 => bnd (f_X12_half N 16 (v.2.1 8)) (fun q17811 => bnd (f_X12_half N 16 (v.2.1 9)) (fun q17813 => bnd (f_X12_half N 6 (v.2.1 10)) (fun q17815 => bnd (f_X12_half N 6 (v.2.1 11)) (fun q17817 => bnd (f_X12_half N 6 (v.2.1 12)) (fun q17819 => bnd (f_X12_half N 6 (v.2.1 13)) (fun q17821 => bnd (f_X12_half N 128 (v.2.1 14)) (fun q17823 => bnd (f_X12_half N 128 (v.2.1 15)) (fun q17825 => bnd (f_X12_begins N (si (si (si (si (sw (sw (sw (sw (sw (sw (sw (sw (sw (sw (sw (sw (sw (si (si v 25 (v.1 23)) 26 (v.1 24)) 3 q17801) 4 q17803) 5 q17805) 6 q17807) 7 q17809) 8 q17811) 9 q17813) 10 q17815) 11 q17817) 12 q17819) 13 q17821) 14 q17823) 15 q17825) 64 0) 65 ((-1))) 48 0) 49 0)) (fun q17827 => some (q17827.1 17, q17827))))))))))))))) else some ((-1), si (si v 25 (v.1 23)) 26 (v.1 24))
def f_X12_text_s156 (N : Nat) (v : VV)  : Option (((VV) ⊕ (Int32 × VV))) :=
  if v.1 23 = 0 then if v.1 21 = 4 then inrO (f_X12_text_b178 N v) else bnd (f_X12_line N v) (fun q15601 => some (.inl q15601)) else inrO (f_X12_text_b178 N v)
def f_X12_text_s106 (N : Nat) (v : VV) (x2 : Int32) : Option (((Int32 × VV) ⊕ (Int32 × VV))) :=
  if (6 : Int32) ≤ x2 then inrO (bnd (f_X12_token N (si (si (si (si v 16 0) 17 0) 27 0) 28 0)) (fun q10601 => itr (fun q : VV => f_X12_text_s156 N q) N q10601)) else gin x2 6 (gin x2 6 (some (.inl (x2 + 1, sr (sr v 12 x2.toNatClampNeg 0) 13 x2.toNatClampNeg 0))))
def f_X12_text_b95 (N : Nat) (v : VV) (x2 : Int32) (z0 : Int32) (z1 : Int32) : Option (((Int32 × VV) ⊕ (Int32 × VV))) :=
  bnd (f_X12_reads v z1 z0) (fun q9501 => some (.inl (x2 + 1, q9501)))
def f_X12_text_s47 (N : Nat) (v : VV) (x2 : Int32) : Option (((Int32 × VV) ⊕ (Int32 × VV))) :=
  if (9 : Int32) ≤ x2 then inrO (itr (fun q : Int32 × VV => f_X12_text_s106 N q.2 q.1) N (3, v)) else if x2 = 1 then f_X12_text_b95 N v x2 12 x2 else if x2 = 3 then f_X12_text_b95 N v x2 30 x2 else if x2 = 4 then f_X12_text_b95 N v x2 20 x2 else if x2 = 5 then f_X12_text_b95 N v x2 2 x2 else f_X12_text_b95 N v x2 0 x2
def f_X12_text (N : Nat) (v : VV) (a1 : Int32) : Option (Int32 × VV) :=
  if a1 < 0 then some ((-2), si v 0 0) else if a1 ≤ v.1 2 then itr (fun q : Int32 × VV => f_X12_text_s47 N q.2 q.1) N (0, si (si (si (si (si (si v 0 0) 18 a1) 2 0) 19 0) 23 0) 24 ((-1))) else some ((-2), si v 0 0)
set_option maxHeartbeats 4000000 in
set_option maxRecDepth 100000 in
theorem k_X12_text (l : Launch) (G : va_G) (cy : Nat → ClassId) (ev : Nat → Nat) (N : Nat) (ad : Nat → Nat) (v : VV) (a1 : Int32) (res : Int32 × VV) (h : f_X12_text N v a1 = some res) : MetI l yX12_text cX12_text 3 (some .int) 790 16603 G cy ev [.ref (ad 0), .int a1] (cX12 cy ad v) res.1 (cX12 cy ad res.2) := by
  refine MetQ.start (by decide +kernel) (Nat.le_of_ble_eq_true rfl) (fun p e s m args below meth c A ls hx hb hr hml hown hts hlocks hK hP hD hA hl hE => ?_)
  have hS : va_S A s.heap s.heap [] := va_S.rf
  have hown : s.vm.findClass RX12 = some m.cls := hown
  have hl : lv_has ls 3 [(0, .ref (ad 0)), (1, .int a1)] := hl
  have B178 : ∀ (v : VV) (H : Heap) (locs : List Loc) (ls : Array Slot), f_X12_text_b178 N v = some res → va_P G vwCl (cX12 cy ad v) H → va_D A (cX12 cy ad v) → va_S A s.heap H locs → lv_has ls 3 [(0, .ref (ad 0))] → W p l e (rmX 790 16603) s m args below meth c H locs 0 0 (MQ below (mQi (res.1) G cy A (cX12 cy ad res.2)) args s 0 0 A) (F0 m 178 ls []) := by
    intro v H locs ls h hP hD hS hl
    delta f_X12_text_b178 at h
    refine lv_aload_n hx hb dX12_text_178 rfl (lv_at hl 0 rfl) ?_
    refine lv_aload_n hx hb dX12_text_179 rfl (lv_at hl 0 rfl) ?_
    refine gf_X12_23 (x := v.1 23) hx hb hts hown hK hP rfl dX12_text_180 ?_
    refine pf_X12_25 hx hb hts hown hK hP hD hS dX12_text_183 (fun H locs hP hD hS => ?_)
    refine lv_aload_n hx hb dX12_text_186 rfl (lv_at hl 0 rfl) ?_
    refine lv_aload_n hx hb dX12_text_187 rfl (lv_at hl 0 rfl) ?_
    refine gf_X12_24 (x := v.1 24) hx hb hts hown hK hP rfl dX12_text_188 ?_
    refine pf_X12_26 hx hb hts hown hK hP hD hS dX12_text_191 (fun H locs hP hD hS => ?_)
    refine lv_aload_n hx hb dX12_text_194 rfl (lv_at hl 0 rfl) ?_
    refine gf_X12_23 (x := v.1 23) hx hb hts hown hK hP rfl dX12_text_195 ?_
    refine lv_if_eq (tgt := 203) hx hb dX12_text_198 (by decide) (fun c9 => ?_) (fun c9 => ?_)
    · replace h := (br h).1 c9
      refine lv_aload_n hx hb dX12_text_203 rfl (lv_at hl 0 rfl) ?_
      refine gf_X12_3 hx hb hts hown hK hP dX12_text_204 ?_
      replace h := bd h
      obtain ⟨q17801, h17802, h⟩ := h
      refine callSv (As := [.ref (ad 4)]) (rest := []) (ws := cX12 cy ad (si (si v 25 (v.1 23)) 26 (v.1 24))) (wn := cX12 cy ad (sw (si (si v 25 (v.1 23)) 26 (v.1 24)) 3 q17801)) (wr := wrest [0, 1, 3, 4, 5, 6, 7, 8, 9, 10, 11, 12, 13, 14, 15, 16, 17, 18, 19, 20, 21, 22, 23, 24, 25, 26, 27, 28, 29, 30, 31, 32, 33, 34, 35, 36, 37, 38, 39, 40, 41, 42, 43] (cX12 cy ad (si (si v 25 (v.1 23)) 26 (v.1 24)))) (isC := [2]) (isR := [0, 1, 3, 4, 5, 6, 7, 8, 9, 10, 11, 12, 13, 14, 15, 16, 17, 18, 19, 20, 21, 22, 23, 24, 25, 26, 27, 28, 29, 30, 31, 32, 33, 34, 35, 36, 37, 38, 39, 40, 41, 42, 43]) (perm := [0, 1, 43, 2, 3, 4, 5, 6, 7, 8, 9, 10, 11, 12, 13, 14, 15, 16, 17, 18, 19, 20, 21, 22, 23, 24, 25, 26, 27, 28, 29, 30, 31, 32, 33, 34, 35, 36, 37, 38, 39, 40, 41, 42]) hx hb hml hown hts (k_X12_half l G cy ev N (ad 4) 18 (v.2.1 3) q17801 h17802) wm_25_1 wm_25_2 wm_1_5 wm_25_3 hd_X12_half ⟨by decide, by decide⟩ hK hP hD hS hA hE rfl rfl rfl rfl (by decide) rfl rfl rfl rfl hl.1 (Nat.le_of_ble_eq_true rfl) dX12_text_207 (fun H locs hP hD hS => ?_)
      refine lv_aload_n hx hb dX12_text_210 rfl (lv_at hl 0 rfl) ?_
      refine gf_X12_4 hx hb hts hown hK hP dX12_text_211 ?_
      replace h := bd h
      obtain ⟨q17803, h17804, h⟩ := h
      refine callSv (As := [.ref (ad 5)]) (rest := []) (ws := cX12 cy ad (sw (si (si v 25 (v.1 23)) 26 (v.1 24)) 3 q17801)) (wn := cX12 cy ad (sw (sw (si (si v 25 (v.1 23)) 26 (v.1 24)) 3 q17801) 4 q17803)) (wr := wrest [0, 1, 2, 4, 5, 6, 7, 8, 9, 10, 11, 12, 13, 14, 15, 16, 17, 18, 19, 20, 21, 22, 23, 24, 25, 26, 27, 28, 29, 30, 31, 32, 33, 34, 35, 36, 37, 38, 39, 40, 41, 42, 43] (cX12 cy ad (sw (si (si v 25 (v.1 23)) 26 (v.1 24)) 3 q17801))) (isC := [3]) (isR := [0, 1, 2, 4, 5, 6, 7, 8, 9, 10, 11, 12, 13, 14, 15, 16, 17, 18, 19, 20, 21, 22, 23, 24, 25, 26, 27, 28, 29, 30, 31, 32, 33, 34, 35, 36, 37, 38, 39, 40, 41, 42, 43]) (perm := [0, 1, 2, 43, 3, 4, 5, 6, 7, 8, 9, 10, 11, 12, 13, 14, 15, 16, 17, 18, 19, 20, 21, 22, 23, 24, 25, 26, 27, 28, 29, 30, 31, 32, 33, 34, 35, 36, 37, 38, 39, 40, 41, 42]) hx hb hml hown hts (k_X12_half l G cy ev N (ad 5) 16 (v.2.1 4) q17803 h17804) wm_25_1 wm_25_2 wm_1_5 wm_25_3 hd_X12_half ⟨by decide, by decide⟩ hK hP hD hS hA hE rfl rfl rfl rfl (by decide) rfl rfl rfl rfl hl.1 (Nat.le_of_ble_eq_true rfl) dX12_text_214 (fun H locs hP hD hS => ?_)
      refine lv_aload_n hx hb dX12_text_217 rfl (lv_at hl 0 rfl) ?_
      refine gf_X12_5 hx hb hts hown hK hP dX12_text_218 ?_
      replace h := bd h
      obtain ⟨q17805, h17806, h⟩ := h
      refine callSv (As := [.ref (ad 6)]) (rest := []) (ws := cX12 cy ad (sw (sw (si (si v 25 (v.1 23)) 26 (v.1 24)) 3 q17801) 4 q17803)) (wn := cX12 cy ad (sw (sw (sw (si (si v 25 (v.1 23)) 26 (v.1 24)) 3 q17801) 4 q17803) 5 q17805)) (wr := wrest [0, 1, 2, 3, 5, 6, 7, 8, 9, 10, 11, 12, 13, 14, 15, 16, 17, 18, 19, 20, 21, 22, 23, 24, 25, 26, 27, 28, 29, 30, 31, 32, 33, 34, 35, 36, 37, 38, 39, 40, 41, 42, 43] (cX12 cy ad (sw (sw (si (si v 25 (v.1 23)) 26 (v.1 24)) 3 q17801) 4 q17803))) (isC := [4]) (isR := [0, 1, 2, 3, 5, 6, 7, 8, 9, 10, 11, 12, 13, 14, 15, 16, 17, 18, 19, 20, 21, 22, 23, 24, 25, 26, 27, 28, 29, 30, 31, 32, 33, 34, 35, 36, 37, 38, 39, 40, 41, 42, 43]) (perm := [0, 1, 2, 3, 43, 4, 5, 6, 7, 8, 9, 10, 11, 12, 13, 14, 15, 16, 17, 18, 19, 20, 21, 22, 23, 24, 25, 26, 27, 28, 29, 30, 31, 32, 33, 34, 35, 36, 37, 38, 39, 40, 41, 42]) hx hb hml hown hts (k_X12_half l G cy ev N (ad 6) 16 (v.2.1 5) q17805 h17806) wm_25_1 wm_25_2 wm_1_5 wm_25_3 hd_X12_half ⟨by decide, by decide⟩ hK hP hD hS hA hE rfl rfl rfl rfl (by decide) rfl rfl rfl rfl hl.1 (Nat.le_of_ble_eq_true rfl) dX12_text_221 (fun H locs hP hD hS => ?_)
      refine lv_aload_n hx hb dX12_text_224 rfl (lv_at hl 0 rfl) ?_
      refine gf_X12_6 hx hb hts hown hK hP dX12_text_225 ?_
      replace h := bd h
      obtain ⟨q17807, h17808, h⟩ := h
      refine callSv (As := [.ref (ad 7)]) (rest := []) (ws := cX12 cy ad (sw (sw (sw (si (si v 25 (v.1 23)) 26 (v.1 24)) 3 q17801) 4 q17803) 5 q17805)) (wn := cX12 cy ad (sw (sw (sw (sw (si (si v 25 (v.1 23)) 26 (v.1 24)) 3 q17801) 4 q17803) 5 q17805) 6 q17807)) (wr := wrest [0, 1, 2, 3, 4, 6, 7, 8, 9, 10, 11, 12, 13, 14, 15, 16, 17, 18, 19, 20, 21, 22, 23, 24, 25, 26, 27, 28, 29, 30, 31, 32, 33, 34, 35, 36, 37, 38, 39, 40, 41, 42, 43] (cX12 cy ad (sw (sw (sw (si (si v 25 (v.1 23)) 26 (v.1 24)) 3 q17801) 4 q17803) 5 q17805))) (isC := [5]) (isR := [0, 1, 2, 3, 4, 6, 7, 8, 9, 10, 11, 12, 13, 14, 15, 16, 17, 18, 19, 20, 21, 22, 23, 24, 25, 26, 27, 28, 29, 30, 31, 32, 33, 34, 35, 36, 37, 38, 39, 40, 41, 42, 43]) (perm := [0, 1, 2, 3, 4, 43, 5, 6, 7, 8, 9, 10, 11, 12, 13, 14, 15, 16, 17, 18, 19, 20, 21, 22, 23, 24, 25, 26, 27, 28, 29, 30, 31, 32, 33, 34, 35, 36, 37, 38, 39, 40, 41, 42]) hx hb hml hown hts (k_X12_half l G cy ev N (ad 7) 48 (v.2.1 6) q17807 h17808) wm_25_1 wm_25_2 wm_1_5 wm_25_3 hd_X12_half ⟨by decide, by decide⟩ hK hP hD hS hA hE rfl rfl rfl rfl (by decide) rfl rfl rfl rfl hl.1 (Nat.le_of_ble_eq_true rfl) dX12_text_228 (fun H locs hP hD hS => ?_)
      refine lv_aload_n hx hb dX12_text_231 rfl (lv_at hl 0 rfl) ?_
      refine gf_X12_7 hx hb hts hown hK hP dX12_text_232 ?_
      replace h := bd h
      obtain ⟨q17809, h17810, h⟩ := h
      refine callSv (As := [.ref (ad 8)]) (rest := []) (ws := cX12 cy ad (sw (sw (sw (sw (si (si v 25 (v.1 23)) 26 (v.1 24)) 3 q17801) 4 q17803) 5 q17805) 6 q17807)) (wn := cX12 cy ad (sw (sw (sw (sw (sw (si (si v 25 (v.1 23)) 26 (v.1 24)) 3 q17801) 4 q17803) 5 q17805) 6 q17807) 7 q17809)) (wr := wrest [0, 1, 2, 3, 4, 5, 7, 8, 9, 10, 11, 12, 13, 14, 15, 16, 17, 18, 19, 20, 21, 22, 23, 24, 25, 26, 27, 28, 29, 30, 31, 32, 33, 34, 35, 36, 37, 38, 39, 40, 41, 42, 43] (cX12 cy ad (sw (sw (sw (sw (si (si v 25 (v.1 23)) 26 (v.1 24)) 3 q17801) 4 q17803) 5 q17805) 6 q17807))) (isC := [6]) (isR := [0, 1, 2, 3, 4, 5, 7, 8, 9, 10, 11, 12, 13, 14, 15, 16, 17, 18, 19, 20, 21, 22, 23, 24, 25, 26, 27, 28, 29, 30, 31, 32, 33, 34, 35, 36, 37, 38, 39, 40, 41, 42, 43]) (perm := [0, 1, 2, 3, 4, 5, 43, 6, 7, 8, 9, 10, 11, 12, 13, 14, 15, 16, 17, 18, 19, 20, 21, 22, 23, 24, 25, 26, 27, 28, 29, 30, 31, 32, 33, 34, 35, 36, 37, 38, 39, 40, 41, 42]) hx hb hml hown hts (k_X12_half l G cy ev N (ad 8) 16 (v.2.1 7) q17809 h17810) wm_25_1 wm_25_2 wm_1_5 wm_25_3 hd_X12_half ⟨by decide, by decide⟩ hK hP hD hS hA hE rfl rfl rfl rfl (by decide) rfl rfl rfl rfl hl.1 (Nat.le_of_ble_eq_true rfl) dX12_text_235 (fun H locs hP hD hS => ?_)
      refine lv_aload_n hx hb dX12_text_238 rfl (lv_at hl 0 rfl) ?_
      refine gf_X12_8 hx hb hts hown hK hP dX12_text_239 ?_
      replace h := bd h
      obtain ⟨q17811, h17812, h⟩ := h
      refine callSv (As := [.ref (ad 9)]) (rest := []) (ws := cX12 cy ad (sw (sw (sw (sw (sw (si (si v 25 (v.1 23)) 26 (v.1 24)) 3 q17801) 4 q17803) 5 q17805) 6 q17807) 7 q17809)) (wn := cX12 cy ad (sw (sw (sw (sw (sw (sw (si (si v 25 (v.1 23)) 26 (v.1 24)) 3 q17801) 4 q17803) 5 q17805) 6 q17807) 7 q17809) 8 q17811)) (wr := wrest [0, 1, 2, 3, 4, 5, 6, 8, 9, 10, 11, 12, 13, 14, 15, 16, 17, 18, 19, 20, 21, 22, 23, 24, 25, 26, 27, 28, 29, 30, 31, 32, 33, 34, 35, 36, 37, 38, 39, 40, 41, 42, 43] (cX12 cy ad (sw (sw (sw (sw (sw (si (si v 25 (v.1 23)) 26 (v.1 24)) 3 q17801) 4 q17803) 5 q17805) 6 q17807) 7 q17809))) (isC := [7]) (isR := [0, 1, 2, 3, 4, 5, 6, 8, 9, 10, 11, 12, 13, 14, 15, 16, 17, 18, 19, 20, 21, 22, 23, 24, 25, 26, 27, 28, 29, 30, 31, 32, 33, 34, 35, 36, 37, 38, 39, 40, 41, 42, 43]) (perm := [0, 1, 2, 3, 4, 5, 6, 43, 7, 8, 9, 10, 11, 12, 13, 14, 15, 16, 17, 18, 19, 20, 21, 22, 23, 24, 25, 26, 27, 28, 29, 30, 31, 32, 33, 34, 35, 36, 37, 38, 39, 40, 41, 42]) hx hb hml hown hts (k_X12_half l G cy ev N (ad 9) 16 (v.2.1 8) q17811 h17812) wm_25_1 wm_25_2 wm_1_5 wm_25_3 hd_X12_half ⟨by decide, by decide⟩ hK hP hD hS hA hE rfl rfl rfl rfl (by decide) rfl rfl rfl rfl hl.1 (Nat.le_of_ble_eq_true rfl) dX12_text_242 (fun H locs hP hD hS => ?_)
      refine lv_aload_n hx hb dX12_text_245 rfl (lv_at hl 0 rfl) ?_
      refine gf_X12_9 hx hb hts hown hK hP dX12_text_246 ?_
      replace h := bd h
      obtain ⟨q17813, h17814, h⟩ := h
      refine callSv (As := [.ref (ad 10)]) (rest := []) (ws := cX12 cy ad (sw (sw (sw (sw (sw (sw (si (si v 25 (v.1 23)) 26 (v.1 24)) 3 q17801) 4 q17803) 5 q17805) 6 q17807) 7 q17809) 8 q17811)) (wn := cX12 cy ad (sw (sw (sw (sw (sw (sw (sw (si (si v 25 (v.1 23)) 26 (v.1 24)) 3 q17801) 4 q17803) 5 q17805) 6 q17807) 7 q17809) 8 q17811) 9 q17813)) (wr := wrest [0, 1, 2, 3, 4, 5, 6, 7, 9, 10, 11, 12, 13, 14, 15, 16, 17, 18, 19, 20, 21, 22, 23, 24, 25, 26, 27, 28, 29, 30, 31, 32, 33, 34, 35, 36, 37, 38, 39, 40, 41, 42, 43] (cX12 cy ad (sw (sw (sw (sw (sw (sw (si (si v 25 (v.1 23)) 26 (v.1 24)) 3 q17801) 4 q17803) 5 q17805) 6 q17807) 7 q17809) 8 q17811))) (isC := [8]) (isR := [0, 1, 2, 3, 4, 5, 6, 7, 9, 10, 11, 12, 13, 14, 15, 16, 17, 18, 19, 20, 21, 22, 23, 24, 25, 26, 27, 28, 29, 30, 31, 32, 33, 34, 35, 36, 37, 38, 39, 40, 41, 42, 43]) (perm := [0, 1, 2, 3, 4, 5, 6, 7, 43, 8, 9, 10, 11, 12, 13, 14, 15, 16, 17, 18, 19, 20, 21, 22, 23, 24, 25, 26, 27, 28, 29, 30, 31, 32, 33, 34, 35, 36, 37, 38, 39, 40, 41, 42]) hx hb hml hown hts (k_X12_half l G cy ev N (ad 10) 16 (v.2.1 9) q17813 h17814) wm_25_1 wm_25_2 wm_1_5 wm_25_3 hd_X12_half ⟨by decide, by decide⟩ hK hP hD hS hA hE rfl rfl rfl rfl (by decide) rfl rfl rfl rfl hl.1 (Nat.le_of_ble_eq_true rfl) dX12_text_249 (fun H locs hP hD hS => ?_)
      refine lv_aload_n hx hb dX12_text_252 rfl (lv_at hl 0 rfl) ?_
      refine gf_X12_10 hx hb hts hown hK hP dX12_text_253 ?_
      replace h := bd h
      obtain ⟨q17815, h17816, h⟩ := h
      refine callSv (As := [.ref (ad 11)]) (rest := []) (ws := cX12 cy ad (sw (sw (sw (sw (sw (sw (sw (si (si v 25 (v.1 23)) 26 (v.1 24)) 3 q17801) 4 q17803) 5 q17805) 6 q17807) 7 q17809) 8 q17811) 9 q17813)) (wn := cX12 cy ad (sw (sw (sw (sw (sw (sw (sw (sw (si (si v 25 (v.1 23)) 26 (v.1 24)) 3 q17801) 4 q17803) 5 q17805) 6 q17807) 7 q17809) 8 q17811) 9 q17813) 10 q17815)) (wr := wrest [0, 1, 2, 3, 4, 5, 6, 7, 8, 10, 11, 12, 13, 14, 15, 16, 17, 18, 19, 20, 21, 22, 23, 24, 25, 26, 27, 28, 29, 30, 31, 32, 33, 34, 35, 36, 37, 38, 39, 40, 41, 42, 43] (cX12 cy ad (sw (sw (sw (sw (sw (sw (sw (si (si v 25 (v.1 23)) 26 (v.1 24)) 3 q17801) 4 q17803) 5 q17805) 6 q17807) 7 q17809) 8 q17811) 9 q17813))) (isC := [9]) (isR := [0, 1, 2, 3, 4, 5, 6, 7, 8, 10, 11, 12, 13, 14, 15, 16, 17, 18, 19, 20, 21, 22, 23, 24, 25, 26, 27, 28, 29, 30, 31, 32, 33, 34, 35, 36, 37, 38, 39, 40, 41, 42, 43]) (perm := [0, 1, 2, 3, 4, 5, 6, 7, 8, 43, 9, 10, 11, 12, 13, 14, 15, 16, 17, 18, 19, 20, 21, 22, 23, 24, 25, 26, 27, 28, 29, 30, 31, 32, 33, 34, 35, 36, 37, 38, 39, 40, 41, 42]) hx hb hml hown hts (k_X12_half l G cy ev N (ad 11) 6 (v.2.1 10) q17815 h17816) wm_25_1 wm_25_2 wm_1_5 wm_25_3 hd_X12_half ⟨by decide, by decide⟩ hK hP hD hS hA hE rfl rfl rfl rfl (by decide) rfl rfl rfl rfl hl.1 (Nat.le_of_ble_eq_true rfl) dX12_text_256 (fun H locs hP hD hS => ?_)
      refine lv_aload_n hx hb dX12_text_259 rfl (lv_at hl 0 rfl) ?_
      refine gf_X12_11 hx hb hts hown hK hP dX12_text_260 ?_
      replace h := bd h
      obtain ⟨q17817, h17818, h⟩ := h
      refine callSv (As := [.ref (ad 12)]) (rest := []) (ws := cX12 cy ad (sw (sw (sw (sw (sw (sw (sw (sw (si (si v 25 (v.1 23)) 26 (v.1 24)) 3 q17801) 4 q17803) 5 q17805) 6 q17807) 7 q17809) 8 q17811) 9 q17813) 10 q17815)) (wn := cX12 cy ad (sw (sw (sw (sw (sw (sw (sw (sw (sw (si (si v 25 (v.1 23)) 26 (v.1 24)) 3 q17801) 4 q17803) 5 q17805) 6 q17807) 7 q17809) 8 q17811) 9 q17813) 10 q17815) 11 q17817)) (wr := wrest [0, 1, 2, 3, 4, 5, 6, 7, 8, 9, 11, 12, 13, 14, 15, 16, 17, 18, 19, 20, 21, 22, 23, 24, 25, 26, 27, 28, 29, 30, 31, 32, 33, 34, 35, 36, 37, 38, 39, 40, 41, 42, 43] (cX12 cy ad (sw (sw (sw (sw (sw (sw (sw (sw (si (si v 25 (v.1 23)) 26 (v.1 24)) 3 q17801) 4 q17803) 5 q17805) 6 q17807) 7 q17809) 8 q17811) 9 q17813) 10 q17815))) (isC := [10]) (isR := [0, 1, 2, 3, 4, 5, 6, 7, 8, 9, 11, 12, 13, 14, 15, 16, 17, 18, 19, 20, 21, 22, 23, 24, 25, 26, 27, 28, 29, 30, 31, 32, 33, 34, 35, 36, 37, 38, 39, 40, 41, 42, 43]) (perm := [0, 1, 2, 3, 4, 5, 6, 7, 8, 9, 43, 10, 11, 12, 13, 14, 15, 16, 17, 18, 19, 20, 21, 22, 23, 24, 25, 26, 27, 28, 29, 30, 31, 32, 33, 34, 35, 36, 37, 38, 39, 40, 41, 42]) hx hb hml hown hts (k_X12_half l G cy ev N (ad 12) 6 (v.2.1 11) q17817 h17818) wm_25_1 wm_25_2 wm_1_5 wm_25_3 hd_X12_half ⟨by decide, by decide⟩ hK hP hD hS hA hE rfl rfl rfl rfl (by decide) rfl rfl rfl rfl hl.1 (Nat.le_of_ble_eq_true rfl) dX12_text_263 (fun H locs hP hD hS => ?_)
      refine lv_aload_n hx hb dX12_text_266 rfl (lv_at hl 0 rfl) ?_
      refine gf_X12_12 hx hb hts hown hK hP dX12_text_267 ?_
      replace h := bd h
      obtain ⟨q17819, h17820, h⟩ := h
      refine callSv (As := [.ref (ad 13)]) (rest := []) (ws := cX12 cy ad (sw (sw (sw (sw (sw (sw (sw (sw (sw (si (si v 25 (v.1 23)) 26 (v.1 24)) 3 q17801) 4 q17803) 5 q17805) 6 q17807) 7 q17809) 8 q17811) 9 q17813) 10 q17815) 11 q17817)) (wn := cX12 cy ad (sw (sw (sw (sw (sw (sw (sw (sw (sw (sw (si (si v 25 (v.1 23)) 26 (v.1 24)) 3 q17801) 4 q17803) 5 q17805) 6 q17807) 7 q17809) 8 q17811) 9 q17813) 10 q17815) 11 q17817) 12 q17819)) (wr := wrest [0, 1, 2, 3, 4, 5, 6, 7, 8, 9, 10, 12, 13, 14, 15, 16, 17, 18, 19, 20, 21, 22, 23, 24, 25, 26, 27, 28, 29, 30, 31, 32, 33, 34, 35, 36, 37, 38, 39, 40, 41, 42, 43] (cX12 cy ad (sw (sw (sw (sw (sw (sw (sw (sw (sw (si (si v 25 (v.1 23)) 26 (v.1 24)) 3 q17801) 4 q17803) 5 q17805) 6 q17807) 7 q17809) 8 q17811) 9 q17813) 10 q17815) 11 q17817))) (isC := [11]) (isR := [0, 1, 2, 3, 4, 5, 6, 7, 8, 9, 10, 12, 13, 14, 15, 16, 17, 18, 19, 20, 21, 22, 23, 24, 25, 26, 27, 28, 29, 30, 31, 32, 33, 34, 35, 36, 37, 38, 39, 40, 41, 42, 43]) (perm := [0, 1, 2, 3, 4, 5, 6, 7, 8, 9, 10, 43, 11, 12, 13, 14, 15, 16, 17, 18, 19, 20, 21, 22, 23, 24, 25, 26, 27, 28, 29, 30, 31, 32, 33, 34, 35, 36, 37, 38, 39, 40, 41, 42]) hx hb hml hown hts (k_X12_half l G cy ev N (ad 13) 6 (v.2.1 12) q17819 h17820) wm_25_1 wm_25_2 wm_1_5 wm_25_3 hd_X12_half ⟨by decide, by decide⟩ hK hP hD hS hA hE rfl rfl rfl rfl (by decide) rfl rfl rfl rfl hl.1 (Nat.le_of_ble_eq_true rfl) dX12_text_270 (fun H locs hP hD hS => ?_)
      refine lv_aload_n hx hb dX12_text_273 rfl (lv_at hl 0 rfl) ?_
      refine gf_X12_13 hx hb hts hown hK hP dX12_text_274 ?_
      replace h := bd h
      obtain ⟨q17821, h17822, h⟩ := h
      refine callSv (As := [.ref (ad 14)]) (rest := []) (ws := cX12 cy ad (sw (sw (sw (sw (sw (sw (sw (sw (sw (sw (si (si v 25 (v.1 23)) 26 (v.1 24)) 3 q17801) 4 q17803) 5 q17805) 6 q17807) 7 q17809) 8 q17811) 9 q17813) 10 q17815) 11 q17817) 12 q17819)) (wn := cX12 cy ad (sw (sw (sw (sw (sw (sw (sw (sw (sw (sw (sw (si (si v 25 (v.1 23)) 26 (v.1 24)) 3 q17801) 4 q17803) 5 q17805) 6 q17807) 7 q17809) 8 q17811) 9 q17813) 10 q17815) 11 q17817) 12 q17819) 13 q17821)) (wr := wrest [0, 1, 2, 3, 4, 5, 6, 7, 8, 9, 10, 11, 13, 14, 15, 16, 17, 18, 19, 20, 21, 22, 23, 24, 25, 26, 27, 28, 29, 30, 31, 32, 33, 34, 35, 36, 37, 38, 39, 40, 41, 42, 43] (cX12 cy ad (sw (sw (sw (sw (sw (sw (sw (sw (sw (sw (si (si v 25 (v.1 23)) 26 (v.1 24)) 3 q17801) 4 q17803) 5 q17805) 6 q17807) 7 q17809) 8 q17811) 9 q17813) 10 q17815) 11 q17817) 12 q17819))) (isC := [12]) (isR := [0, 1, 2, 3, 4, 5, 6, 7, 8, 9, 10, 11, 13, 14, 15, 16, 17, 18, 19, 20, 21, 22, 23, 24, 25, 26, 27, 28, 29, 30, 31, 32, 33, 34, 35, 36, 37, 38, 39, 40, 41, 42, 43]) (perm := [0, 1, 2, 3, 4, 5, 6, 7, 8, 9, 10, 11, 43, 12, 13, 14, 15, 16, 17, 18, 19, 20, 21, 22, 23, 24, 25, 26, 27, 28, 29, 30, 31, 32, 33, 34, 35, 36, 37, 38, 39, 40, 41, 42]) hx hb hml hown hts (k_X12_half l G cy ev N (ad 14) 6 (v.2.1 13) q17821 h17822) wm_25_1 wm_25_2 wm_1_5 wm_25_3 hd_X12_half ⟨by decide, by decide⟩ hK hP hD hS hA hE rfl rfl rfl rfl (by decide) rfl rfl rfl rfl hl.1 (Nat.le_of_ble_eq_true rfl) dX12_text_277 (fun H locs hP hD hS => ?_)
      refine lv_aload_n hx hb dX12_text_280 rfl (lv_at hl 0 rfl) ?_
      refine gf_X12_14 hx hb hts hown hK hP dX12_text_281 ?_
      replace h := bd h
      obtain ⟨q17823, h17824, h⟩ := h
      refine callSv (As := [.ref (ad 15)]) (rest := []) (ws := cX12 cy ad (sw (sw (sw (sw (sw (sw (sw (sw (sw (sw (sw (si (si v 25 (v.1 23)) 26 (v.1 24)) 3 q17801) 4 q17803) 5 q17805) 6 q17807) 7 q17809) 8 q17811) 9 q17813) 10 q17815) 11 q17817) 12 q17819) 13 q17821)) (wn := cX12 cy ad (sw (sw (sw (sw (sw (sw (sw (sw (sw (sw (sw (sw (si (si v 25 (v.1 23)) 26 (v.1 24)) 3 q17801) 4 q17803) 5 q17805) 6 q17807) 7 q17809) 8 q17811) 9 q17813) 10 q17815) 11 q17817) 12 q17819) 13 q17821) 14 q17823)) (wr := wrest [0, 1, 2, 3, 4, 5, 6, 7, 8, 9, 10, 11, 12, 14, 15, 16, 17, 18, 19, 20, 21, 22, 23, 24, 25, 26, 27, 28, 29, 30, 31, 32, 33, 34, 35, 36, 37, 38, 39, 40, 41, 42, 43] (cX12 cy ad (sw (sw (sw (sw (sw (sw (sw (sw (sw (sw (sw (si (si v 25 (v.1 23)) 26 (v.1 24)) 3 q17801) 4 q17803) 5 q17805) 6 q17807) 7 q17809) 8 q17811) 9 q17813) 10 q17815) 11 q17817) 12 q17819) 13 q17821))) (isC := [13]) (isR := [0, 1, 2, 3, 4, 5, 6, 7, 8, 9, 10, 11, 12, 14, 15, 16, 17, 18, 19, 20, 21, 22, 23, 24, 25, 26, 27, 28, 29, 30, 31, 32, 33, 34, 35, 36, 37, 38, 39, 40, 41, 42, 43]) (perm := [0, 1, 2, 3, 4, 5, 6, 7, 8, 9, 10, 11, 12, 43, 13, 14, 15, 16, 17, 18, 19, 20, 21, 22, 23, 24, 25, 26, 27, 28, 29, 30, 31, 32, 33, 34, 35, 36, 37, 38, 39, 40, 41, 42]) hx hb hml hown hts (k_X12_half l G cy ev N (ad 15) 128 (v.2.1 14) q17823 h17824) wm_25_1 wm_25_2 wm_1_5 wm_25_3 hd_X12_half ⟨by decide, by decide⟩ hK hP hD hS hA hE rfl rfl rfl rfl (by decide) rfl rfl rfl rfl hl.1 (Nat.le_of_ble_eq_true rfl) dX12_text_284 (fun H locs hP hD hS => ?_)
      refine lv_aload_n hx hb dX12_text_287 rfl (lv_at hl 0 rfl) ?_
      refine gf_X12_15 hx hb hts hown hK hP dX12_text_288 ?_
      replace h := bd h
      obtain ⟨q17825, h17826, h⟩ := h
      refine callSv (As := [.ref (ad 16)]) (rest := []) (ws := cX12 cy ad (sw (sw (sw (sw (sw (sw (sw (sw (sw (sw (sw (sw (si (si v 25 (v.1 23)) 26 (v.1 24)) 3 q17801) 4 q17803) 5 q17805) 6 q17807) 7 q17809) 8 q17811) 9 q17813) 10 q17815) 11 q17817) 12 q17819) 13 q17821) 14 q17823)) (wn := cX12 cy ad (sw (sw (sw (sw (sw (sw (sw (sw (sw (sw (sw (sw (sw (si (si v 25 (v.1 23)) 26 (v.1 24)) 3 q17801) 4 q17803) 5 q17805) 6 q17807) 7 q17809) 8 q17811) 9 q17813) 10 q17815) 11 q17817) 12 q17819) 13 q17821) 14 q17823) 15 q17825)) (wr := wrest [0, 1, 2, 3, 4, 5, 6, 7, 8, 9, 10, 11, 12, 13, 15, 16, 17, 18, 19, 20, 21, 22, 23, 24, 25, 26, 27, 28, 29, 30, 31, 32, 33, 34, 35, 36, 37, 38, 39, 40, 41, 42, 43] (cX12 cy ad (sw (sw (sw (sw (sw (sw (sw (sw (sw (sw (sw (sw (si (si v 25 (v.1 23)) 26 (v.1 24)) 3 q17801) 4 q17803) 5 q17805) 6 q17807) 7 q17809) 8 q17811) 9 q17813) 10 q17815) 11 q17817) 12 q17819) 13 q17821) 14 q17823))) (isC := [14]) (isR := [0, 1, 2, 3, 4, 5, 6, 7, 8, 9, 10, 11, 12, 13, 15, 16, 17, 18, 19, 20, 21, 22, 23, 24, 25, 26, 27, 28, 29, 30, 31, 32, 33, 34, 35, 36, 37, 38, 39, 40, 41, 42, 43]) (perm := [0, 1, 2, 3, 4, 5, 6, 7, 8, 9, 10, 11, 12, 13, 43, 14, 15, 16, 17, 18, 19, 20, 21, 22, 23, 24, 25, 26, 27, 28, 29, 30, 31, 32, 33, 34, 35, 36, 37, 38, 39, 40, 41, 42]) hx hb hml hown hts (k_X12_half l G cy ev N (ad 16) 128 (v.2.1 15) q17825 h17826) wm_25_1 wm_25_2 wm_1_5 wm_25_3 hd_X12_half ⟨by decide, by decide⟩ hK hP hD hS hA hE rfl rfl rfl rfl (by decide) rfl rfl rfl rfl hl.1 (Nat.le_of_ble_eq_true rfl) dX12_text_291 (fun H locs hP hD hS => ?_)
      refine lv_aload_n hx hb dX12_text_294 rfl (lv_at hl 0 rfl) ?_
      refine lv_iconst (v := 0) hx hb dX12_text_295 (by decide) ?_
      refine pf_X12_64 hx hb hts hown hK hP hD hS dX12_text_296 (fun H locs hP hD hS => ?_)
      refine lv_aload_n hx hb dX12_text_299 rfl (lv_at hl 0 rfl) ?_
      refine lv_iconst (v := (-1)) hx hb dX12_text_300 (by decide) ?_
      refine pf_X12_65 hx hb hts hown hK hP hD hS dX12_text_301 (fun H locs hP hD hS => ?_)
      refine lv_aload_n hx hb dX12_text_304 rfl (lv_at hl 0 rfl) ?_
      refine lv_iconst (v := 0) hx hb dX12_text_305 (by decide) ?_
      refine pf_X12_48 hx hb hts hown hK hP hD hS (by decide) dX12_text_306 (fun H locs hP hD hS => ?_)
      refine lv_aload_n hx hb dX12_text_309 rfl (lv_at hl 0 rfl) ?_
      refine lv_iconst (v := 0) hx hb dX12_text_310 (by decide) ?_
      refine pf_X12_49 hx hb hts hown hK hP hD hS dX12_text_311 (fun H locs hP hD hS => ?_)
      refine lv_aload_n hx hb dX12_text_314 rfl (lv_at hl 0 rfl) ?_
      replace h := bd h
      obtain ⟨q17827, h17828, h⟩ := h
      refine callVv0 (As := []) (rest := []) hx hb hml hown hts (k_X12_begins l G cy ev N ad (si (si (si (si (sw (sw (sw (sw (sw (sw (sw (sw (sw (sw (sw (sw (sw (si (si v 25 (v.1 23)) 26 (v.1 24)) 3 q17801) 4 q17803) 5 q17805) 6 q17807) 7 q17809) 8 q17811) 9 q17813) 10 q17815) 11 q17817) 12 q17819) 13 q17821) 14 q17823) 15 q17825) 64 0) 65 ((-1))) 48 0) 49 0) q17827 h17828) wm_11_3 wm_11_4 wm_11_5 wm_1_5 wm_11_6 hd_X12_begins ⟨by decide, by decide⟩ hK hP hD hS hA hE (va_recv hK hP (ci := 12) (q0 := 0) rfl rfl) rfl rfl hl.1 (Nat.le_of_ble_eq_true rfl) dX12_text_315 (fun H locs hP hD hS => ?_)
      refine lv_aload_n hx hb dX12_text_318 rfl (lv_at hl 0 rfl) ?_
      refine gf_X12_17 (x := q17827.1 17) hx hb hts hown hK hP rfl dX12_text_319 ?_
      exact retI (fr := fun q => q.1) (fw := fun q => cX12 cy ad q.2) h hx hb hr hlocks hK hP hD hS dX12_text_322
    · replace h := (br h).2 c9
      refine lv_iconst (v := (-1)) hx hb dX12_text_201 (by decide) ?_
      exact retI (fr := fun q => q.1) (fw := fun q => cX12 cy ad q.2) h hx hb hr hlocks hK hP hD hS dX12_text_202
  have L156 : ∀ (n : Nat) (v : VV) (H : Heap) (locs : List Loc) (ls : Array Slot), itr (fun q : VV => f_X12_text_s156 N q) n v = some res → va_P G vwCl (cX12 cy ad v) H → va_D A (cX12 cy ad v) → va_S A s.heap H locs → lv_has ls 3 [(0, .ref (ad 0))] → W p l e (rmX 790 16603) s m args below meth c H locs 0 0 (MQ below (mQi (res.1) G cy A (cX12 cy ad res.2)) args s 0 0 A) (F0 m 156 ls []) := by
    intro n
    induction n with
    | zero => intro v H locs ls h; exact (itr_zero h).elim
    | succ n ih1 =>
      intro v H locs ls h hP hD hS hl
      obtain ⟨y1, h, hy1⟩ := itr_inv h
      have h : f_X12_text_s156 N v = some y1 := h
      delta f_X12_text_s156 at h
      refine lv_aload_n hx hb dX12_text_156 rfl (lv_at hl 0 rfl) ?_
      refine gf_X12_23 (x := v.1 23) hx hb hts hown hK hP rfl dX12_text_157 ?_
      refine lv_if_ne (tgt := 178) hx hb dX12_text_160 (by decide) (fun c9 => ?_) (fun c9 => ?_)
      · replace h := (br h).2 c9
        replace h := itr_exit h hy1
        exact B178 v _ _ _ h hP hD hS (lv_sub hl [0] rfl)
      · replace h := (br h).1 c9
        refine lv_aload_n hx hb dX12_text_163 rfl (lv_at hl 0 rfl) ?_
        refine gf_X12_21 (x := v.1 21) hx hb hts hown hK hP rfl dX12_text_164 ?_
        refine lv_iconst (v := 4) hx hb dX12_text_167 (by decide) ?_
        refine lv_icmp_eq (tgt := 178) hx hb dX12_text_168 (by decide) (fun c9 => ?_) (fun c9 => ?_)
        · replace h := (br h).1 c9
          replace h := itr_exit h hy1
          exact B178 v _ _ _ h hP hD hS (lv_sub hl [0] rfl)
        · replace h := (br h).2 c9
          refine lv_aload_n hx hb dX12_text_171 rfl (lv_at hl 0 rfl) ?_
          replace h := bd h
          obtain ⟨q15601, h15602, h⟩ := h
          refine callVv0 (As := []) (rest := []) hx hb hml hown hts (k_X12_line l G cy ev N ad v q15601 h15602) wm_21_22 wm_21_23 wm_22_0 wm_1_5 wm_22_1 hd_X12_line ⟨by decide, by decide⟩ hK hP hD hS hA hE (va_recv hK hP (ci := 12) (q0 := 0) rfl rfl) rfl rfl hl.1 (Nat.le_of_ble_eq_true rfl) dX12_text_172 (fun H locs hP hD hS => ?_)
          refine lv_goto (tgt := 156) hx hb dX12_text_175 (by decide) ?_
          replace h := itr_back h hy1
          exact ih1 q15601 _ _ _ h hP hD hS (lv_sub hl [0] rfl)
  have L106 : ∀ (n : Nat) (x2 : Int32) (v : VV) (H : Heap) (locs : List Loc) (ls : Array Slot), itr (fun q : Int32 × VV => f_X12_text_s106 N q.2 q.1) n (x2, v) = some res → va_P G vwCl (cX12 cy ad v) H → va_D A (cX12 cy ad v) → va_S A s.heap H locs → lv_has ls 3 [(0, .ref (ad 0)), (2, .int x2)] → W p l e (rmX 790 16603) s m args below meth c H locs 0 0 (MQ below (mQi (res.1) G cy A (cX12 cy ad res.2)) args s 0 0 A) (F0 m 106 ls []) := by
    intro n
    induction n with
    | zero => intro x2 v H locs ls h; exact (itr_zero h).elim
    | succ n ih1 =>
      intro x2 v H locs ls h hP hD hS hl
      obtain ⟨y1, h, hy1⟩ := itr_inv h
      have h : f_X12_text_s106 N v x2 = some y1 := h
      delta f_X12_text_s106 at h
      refine lv_iload_n hx hb dX12_text_106 rfl (lv_at hl 1 rfl) ?_
      refine lv_bipush (v := 6) hx hb dX12_text_107 (by decide) ?_
      refine lv_icmp_ge (tgt := 132) hx hb dX12_text_109 (by decide) (fun c9 => ?_) (fun c9 => ?_)
      · replace h := (br h).1 c9
        replace h := itr_exit h hy1
        refine lv_aload_n hx hb dX12_text_132 rfl (lv_at hl 0 rfl) ?_
        refine lv_iconst (v := 0) hx hb dX12_text_133 (by decide) ?_
        refine pf_X12_16 hx hb hts hown hK hP hD hS dX12_text_134 (fun H locs hP hD hS => ?_)
        refine lv_aload_n hx hb dX12_text_137 rfl (lv_at hl 0 rfl) ?_
        refine lv_iconst (v := 0) hx hb dX12_text_138 (by decide) ?_
        refine pf_X12_17 hx hb hts hown hK hP hD hS dX12_text_139 (fun H locs hP hD hS => ?_)
        refine lv_aload_n hx hb dX12_text_142 rfl (lv_at hl 0 rfl) ?_
        refine lv_iconst (v := 0) hx hb dX12_text_143 (by decide) ?_
        refine pf_X12_27 hx hb hts hown hK hP hD hS dX12_text_144 (fun H locs hP hD hS => ?_)
        refine lv_aload_n hx hb dX12_text_147 rfl (lv_at hl 0 rfl) ?_
        refine lv_iconst (v := 0) hx hb dX12_text_148 (by decide) ?_
        refine pf_X12_28 hx hb hts hown hK hP hD hS dX12_text_149 (fun H locs hP hD hS => ?_)
        refine lv_aload_n hx hb dX12_text_152 rfl (lv_at hl 0 rfl) ?_
        replace h := bd h
        obtain ⟨q10601, h10602, h⟩ := h
        refine callVv0 (As := []) (rest := []) hx hb hml hown hts (k_X12_token l G cy ev N ad (si (si (si (si v 16 0) 17 0) 27 0) 28 0) q10601 h10602) wm_20_15 wm_20_16 wm_20_17 wm_1_5 wm_20_18 hd_X12_token ⟨by decide, by decide⟩ hK hP hD hS hA hE (va_recv hK hP (ci := 12) (q0 := 0) rfl rfl) rfl rfl hl.1 (Nat.le_of_ble_eq_true rfl) dX12_text_153 (fun H locs hP hD hS => ?_)
        exact L156  N q10601 _ _ _ h hP hD hS (lv_sub hl [0] rfl)
      · replace h := (br h).2 c9
        refine lv_aload_n hx hb dX12_text_112 rfl (lv_at hl 0 rfl) ?_
        refine gf_X12_12 hx hb hts hown hK hP dX12_text_113 ?_
        refine lv_iload_n hx hb dX12_text_116 rfl (lv_at hl 1 rfl) ?_
        refine lv_iconst (v := 0) hx hb dX12_text_117 (by decide) ?_
        replace h := gin_inv h
        obtain ⟨h9, h⟩ := h
        refine st_X12_12 (j := x2.toNatClampNeg) hx hb hK hP hD hS h9 rfl dX12_text_118 (fun H locs hP hD hS => ?_)
        refine lv_aload_n hx hb dX12_text_119 rfl (lv_at hl 0 rfl) ?_
        refine gf_X12_13 hx hb hts hown hK hP dX12_text_120 ?_
        refine lv_iload_n hx hb dX12_text_123 rfl (lv_at hl 1 rfl) ?_
        refine lv_iconst (v := 0) hx hb dX12_text_124 (by decide) ?_
        replace h := gin_inv h
        obtain ⟨h9, h⟩ := h
        refine st_X12_13 (j := x2.toNatClampNeg) hx hb hK hP hD hS h9 rfl dX12_text_125 (fun H locs hP hD hS => ?_)
        refine lv_iinc (v := x2 + 1) (lv' := [(2, .int (x2 + 1)), (0, .ref (ad 0))]) hx hb dX12_text_126 hl (k := 1) rfl rfl (by decide) rfl (fun ls hl => ?_)
        refine lv_goto (tgt := 106) hx hb dX12_text_129 (by decide) ?_
        replace h := itr_back h hy1
        exact ih1 (x2 + 1) (sr (sr v 12 x2.toNatClampNeg 0) 13 x2.toNatClampNeg 0) _ _ _ h hP hD hS (lv_sub hl [1, 0] rfl)
  have L47 : ∀ (n : Nat) (x2 : Int32) (v : VV) (H : Heap) (locs : List Loc) (ls : Array Slot), itr (fun q : Int32 × VV => f_X12_text_s47 N q.2 q.1) n (x2, v) = some res → va_P G vwCl (cX12 cy ad v) H → va_D A (cX12 cy ad v) → va_S A s.heap H locs → lv_has ls 3 [(0, .ref (ad 0)), (2, .int x2)] → W p l e (rmX 790 16603) s m args below meth c H locs 0 0 (MQ below (mQi (res.1) G cy A (cX12 cy ad res.2)) args s 0 0 A) (F0 m 47 ls []) := by
    intro n
    induction n with
    | zero => intro x2 v H locs ls h; exact (itr_zero h).elim
    | succ n ih1 =>
      intro x2 v H locs ls h hP hD hS hl
      obtain ⟨y1, h, hy1⟩ := itr_inv h
      have h : f_X12_text_s47 N v x2 = some y1 := h
      have B95 : ∀ (x2 : Int32) (z0 : Int32) (z1 : Int32) (v : VV) (H : Heap) (locs : List Loc) (ls : Array Slot), f_X12_text_b95 N v x2 z0 z1 = some y1 → va_P G vwCl (cX12 cy ad v) H → va_D A (cX12 cy ad v) → va_S A s.heap H locs → lv_has ls 3 [(0, .ref (ad 0)), (2, .int x2)] → W p l e (rmX 790 16603) s m args below meth c H locs 0 0 (MQ below (mQi (res.1) G cy A (cX12 cy ad res.2)) args s 0 0 A) (F0 m 95 ls [.int z0, .int z1, .ref (ad 0)]) := by
        intro x2 z0 z1 v H locs ls h hP hD hS hl
        delta f_X12_text_b95 at h
        replace h := bd h
        obtain ⟨q9501, h9502, h⟩ := h
        refine callVv0 (As := [.int z1, .int z0]) (rest := []) hx hb hml hown hts (k_X12_reads l G cy ev ad v z1 z0 q9501 h9502) wm_20_11 wm_20_12 wm_20_13 wm_1_5 wm_20_14 hd_X12_reads ⟨by decide, by decide⟩ hK hP hD hS hA hE (va_recv hK hP (ci := 12) (q0 := 0) rfl rfl) rfl rfl hl.1 (Nat.le_of_ble_eq_true rfl) dX12_text_95 (fun H locs hP hD hS => ?_)
        refine lv_iinc (v := x2 + 1) (lv' := [(2, .int (x2 + 1)), (0, .ref (ad 0))]) hx hb dX12_text_98 hl (k := 1) rfl rfl (by decide) rfl (fun ls hl => ?_)
        refine lv_goto (tgt := 47) hx hb dX12_text_101 (by decide) ?_
        replace h := itr_back h hy1
        exact ih1 (x2 + 1) q9501 _ _ _ h hP hD hS (lv_sub hl [1, 0] rfl)
      delta f_X12_text_s47 at h
      refine lv_iload_n hx hb dX12_text_47 rfl (lv_at hl 1 rfl) ?_
      refine lv_bipush (v := 9) hx hb dX12_text_48 (by decide) ?_
      refine lv_icmp_ge (tgt := 104) hx hb dX12_text_50 (by decide) (fun c9 => ?_) (fun c9 => ?_)
      · replace h := (br h).1 c9
        replace h := itr_exit h hy1
        refine lv_iconst (v := 3) hx hb dX12_text_104 (by decide) ?_
        refine lv_istore_n (lv' := [(2, .int 3), (0, .ref (ad 0))]) hx hb dX12_text_105 rfl hl (by decide) rfl (fun ls hl => ?_)
        exact L106  N 3 v _ _ _ h hP hD hS (lv_sub hl [1, 0] rfl)
      · replace h := (br h).2 c9
        refine lv_aload_n hx hb dX12_text_53 rfl (lv_at hl 0 rfl) ?_
        refine lv_iload_n hx hb dX12_text_54 rfl (lv_at hl 1 rfl) ?_
        refine lv_iload_n hx hb dX12_text_55 rfl (lv_at hl 1 rfl) ?_
        refine lv_iconst (v := 1) hx hb dX12_text_56 (by decide) ?_
        refine lv_icmp_ne (tgt := 65) hx hb dX12_text_57 (by decide) (fun c9 => ?_) (fun c9 => ?_)
        · replace h := (br h).2 c9
          refine lv_iload_n hx hb dX12_text_65 rfl (lv_at hl 1 rfl) ?_
          refine lv_iconst (v := 3) hx hb dX12_text_66 (by decide) ?_
          refine lv_icmp_ne (tgt := 75) hx hb dX12_text_67 (by decide) (fun c9 => ?_) (fun c9 => ?_)
          · replace h := (br h).2 c9
            refine lv_iload_n hx hb dX12_text_75 rfl (lv_at hl 1 rfl) ?_
            refine lv_iconst (v := 4) hx hb dX12_text_76 (by decide) ?_
            refine lv_icmp_ne (tgt := 85) hx hb dX12_text_77 (by decide) (fun c9 => ?_) (fun c9 => ?_)
            · replace h := (br h).2 c9
              refine lv_iload_n hx hb dX12_text_85 rfl (lv_at hl 1 rfl) ?_
              refine lv_iconst (v := 5) hx hb dX12_text_86 (by decide) ?_
              refine lv_icmp_ne (tgt := 94) hx hb dX12_text_87 (by decide) (fun c9 => ?_) (fun c9 => ?_)
              · replace h := (br h).2 c9
                refine lv_iconst (v := 0) hx hb dX12_text_94 (by decide) ?_
                exact B95 x2 0 x2 v _ _ _ h hP hD hS (lv_sub hl [0, 1] rfl)
              · replace h := (br h).1 c9
                refine lv_iconst (v := 2) hx hb dX12_text_90 (by decide) ?_
                refine lv_goto (tgt := 95) hx hb dX12_text_91 (by decide) ?_
                exact B95 x2 2 x2 v _ _ _ h hP hD hS (lv_sub hl [0, 1] rfl)
            · replace h := (br h).1 c9
              refine lv_bipush (v := 20) hx hb dX12_text_80 (by decide) ?_
              refine lv_goto (tgt := 95) hx hb dX12_text_82 (by decide) ?_
              exact B95 x2 20 x2 v _ _ _ h hP hD hS (lv_sub hl [0, 1] rfl)
          · replace h := (br h).1 c9
            refine lv_bipush (v := 30) hx hb dX12_text_70 (by decide) ?_
            refine lv_goto (tgt := 95) hx hb dX12_text_72 (by decide) ?_
            exact B95 x2 30 x2 v _ _ _ h hP hD hS (lv_sub hl [0, 1] rfl)
        · replace h := (br h).1 c9
          refine lv_bipush (v := 12) hx hb dX12_text_60 (by decide) ?_
          refine lv_goto (tgt := 95) hx hb dX12_text_62 (by decide) ?_
          exact B95 x2 12 x2 v _ _ _ h hP hD hS (lv_sub hl [0, 1] rfl)
  delta f_X12_text at h
  refine lv_aload_n hx hb dX12_text_0 rfl (lv_at hl 0 rfl) ?_
  refine lv_iconst (v := 0) hx hb dX12_text_1 (by decide) ?_
  refine pf_X12_0 hx hb hts hown hK hP hD hS dX12_text_2 (fun H locs hP hD hS => ?_)
  refine lv_iload_n hx hb dX12_text_5 rfl (lv_at hl 1 rfl) ?_
  refine lv_if_lt (tgt := 17) hx hb dX12_text_6 (by decide) (fun c9 => ?_) (fun c9 => ?_)
  · replace h := (br h).1 c9
    refine lv_bipush (v := (-2)) hx hb dX12_text_17 (by decide) ?_
    exact retI (fr := fun q => q.1) (fw := fun q => cX12 cy ad q.2) h hx hb hr hlocks hK hP hD hS dX12_text_19
  · replace h := (br h).2 c9
    refine lv_iload_n hx hb dX12_text_9 rfl (lv_at hl 1 rfl) ?_
    refine lv_aload_n hx hb dX12_text_10 rfl (lv_at hl 0 rfl) ?_
    refine gf_X12_2 (x := v.1 2) hx hb hts hown hK hP rfl dX12_text_11 ?_
    refine lv_icmp_le (tgt := 20) hx hb dX12_text_14 (by decide) (fun c9 => ?_) (fun c9 => ?_)
    · replace h := (br h).1 c9
      refine lv_aload_n hx hb dX12_text_20 rfl (lv_at hl 0 rfl) ?_
      refine lv_iload_n hx hb dX12_text_21 rfl (lv_at hl 1 rfl) ?_
      refine pf_X12_18 hx hb hts hown hK hP hD hS dX12_text_22 (fun H locs hP hD hS => ?_)
      refine lv_aload_n hx hb dX12_text_25 rfl (lv_at hl 0 rfl) ?_
      refine lv_iconst (v := 0) hx hb dX12_text_26 (by decide) ?_
      refine pf_X12_2 hx hb hts hown hK hP hD hS dX12_text_27 (fun H locs hP hD hS => ?_)
      refine lv_aload_n hx hb dX12_text_30 rfl (lv_at hl 0 rfl) ?_
      refine lv_iconst (v := 0) hx hb dX12_text_31 (by decide) ?_
      refine pf_X12_19 hx hb hts hown hK hP hD hS dX12_text_32 (fun H locs hP hD hS => ?_)
      refine lv_aload_n hx hb dX12_text_35 rfl (lv_at hl 0 rfl) ?_
      refine lv_iconst (v := 0) hx hb dX12_text_36 (by decide) ?_
      refine pf_X12_23 hx hb hts hown hK hP hD hS dX12_text_37 (fun H locs hP hD hS => ?_)
      refine lv_aload_n hx hb dX12_text_40 rfl (lv_at hl 0 rfl) ?_
      refine lv_iconst (v := (-1)) hx hb dX12_text_41 (by decide) ?_
      refine pf_X12_24 hx hb hts hown hK hP hD hS dX12_text_42 (fun H locs hP hD hS => ?_)
      refine lv_iconst (v := 0) hx hb dX12_text_45 (by decide) ?_
      refine lv_istore_n (lv' := [(2, .int 0), (0, .ref (ad 0)), (1, .int a1)]) hx hb dX12_text_46 rfl hl (by decide) rfl (fun ls hl => ?_)
      exact L47  N 0 (si (si (si (si (si (si v 0 0) 18 a1) 2 0) 19 0) 23 0) 24 ((-1))) _ _ _ h hP hD hS (lv_sub hl [1, 0] rfl)
    · replace h := (br h).2 c9
      refine lv_bipush (v := (-2)) hx hb dX12_text_17 (by decide) ?_
      exact retI (fr := fun q => q.1) (fw := fun q => cX12 cy ad q.2) h hx hb hr hlocks hK hP hD hS dX12_text_19
theorem hd_X12_rows : yX12_rows.cls = RX12 ∧ yX12_rows.cls ≠ "java/lang/invoke/MethodHandle" ∧ yX12_rows.cls ≠ "java/lang/invoke/VarHandle" ∧ (parseMethodDescriptor yX12_rows.desc).map (fun d => d.parameters.length) = some 2 := ⟨rfl, by decide +kernel, by decide +kernel, by decide +kernel⟩
def f_X12_rows_b150 (N : Nat) (rc : VV → Int32 → Int32 → Option (VV)) (v : VV) (x1 : Int32) (x2 : Int32) (x3 : Int32) : Option (((Int32 × VV) ⊕ (VV))) :=
  some (.inl (x3 + 1, v))
def f_X12_rows_s67 (N : Nat) (rc : VV → Int32 → Int32 → Option (VV)) (v : VV) (x1 : Int32) (x2 : Int32) (x3 : Int32) : Option (((Int32 × VV) ⊕ (VV))) :=
  if v.2.1 3 2 ≤ x3 then inrO (some v) else bnd (f_X12_mayHave v x1 x3) (fun q6701 => if q6701 = 0 then f_X12_rows_b150 N rc v x1 x2 x3 else gin x3 3 (gin x1 16 (gin x3 3 (gin x1 8 (bnd (f_X12_likeOf N (sr (sr v 58 x3.toNatClampNeg ((v.2.1 58 x3.toNatClampNeg) - (v.2.1 5 x1.toNatClampNeg))) 59 x1.toNatClampNeg x3) 0 x1 x3 0) (fun q6703 => gin x1 16 (bnd (rc q6703.2 (x1 + 1) (x2 + (q6703.1 * (q6703.2.2.1 5 x1.toNatClampNeg)))) (fun q6705 => gin x3 3 (gin x1 16 (gin x3 3 (f_X12_rows_b150 N rc (sr q6705 58 x3.toNatClampNeg ((q6705.2.1 58 x3.toNatClampNeg) + (q6705.2.1 5 x1.toNatClampNeg))) x1 x2 x3)))))))))))
def f_X12_rows_s26 (N : Nat) (rc : VV → Int32 → Int32 → Option (VV)) (v : VV) (x1 : Int32) (x3 : Int32) : Option (((Int32 × VV) ⊕ (VV))) :=
  if x1 ≤ x3 then inrO (some v) else gin x3 8 (gin x3 8 (some (.inl (x3 + 1, sr v 60 x3.toNatClampNeg (v.2.1 59 x3.toNatClampNeg)))))
def f_X12_rows_body (N : Nat) (rc : VV → Int32 → Int32 → Option (VV)) (v : VV) (a1 : Int32) (a2 : Int32) : Option (VV) :=
  if a1 = v.2.1 3 0 then if v.1 61 < a2 then itr (fun q : Int32 × VV => f_X12_rows_s26 N rc q.2 a1 q.1) N (0, si v 61 a2) else some v else gin a1 8 (bnd (rc (sr v 59 a1.toNatClampNeg ((-1))) (a1 + 1) a2) (fun q1 => itr (fun q : Int32 × VV => f_X12_rows_s67 N rc q.2 a1 a2 q.1) N (0, q1)))
def f_X12_rows (N : Nat) : Nat → VV → Int32 → Int32 → Option (VV)
  | 0, _, _, _ => none
  | d + 1, v, a1, a2 => f_X12_rows_body N (f_X12_rows N d) v a1 a2
set_option maxHeartbeats 4000000 in
set_option maxRecDepth 100000 in
theorem k_X12_rows (l : Launch) (G : va_G) (cy : Nat → ClassId) (ev : Nat → Nat) (N : Nat) : ∀ (d : Nat) (ad : Nat → Nat) (v : VV) (a1 : Int32) (a2 : Int32) (res : VV), f_X12_rows N d v a1 a2 = some res → MetV l yX12_rows cX12_rows 4 none (5 + 1 * d) (120 + 23 * d) G cy ev [.ref (ad 0), .int a1, .int a2] (cX12 cy ad v) (cX12 cy ad res) := by
  intro d
  induction d with
  | zero => intro ad v a1 a2 res h; exact nomatch h
  | succ d ihd =>
    intro ad v a1 a2 res h
    have h : f_X12_rows_body N (f_X12_rows N d) v a1 a2 = some res := h
    refine MetQ.start (by decide +kernel) (Nat.le_of_ble_eq_true rfl) (fun p e s m args below meth c A ls hx hb hr hml hown hts hlocks hK hP hD hA hl hE => ?_)
    have hS : va_S A s.heap s.heap [] := va_S.rf
    have hown : s.vm.findClass RX12 = some m.cls := hown
    have hl : lv_has ls 4 [(0, .ref (ad 0)), (1, .int a1), (2, .int a2)] := hl
    have L67 : ∀ (x1 : Int32) (x2 : Int32) (n : Nat) (x3 : Int32) (v : VV) (H : Heap) (locs : List Loc) (ls : Array Slot), itr (fun q : Int32 × VV => f_X12_rows_s67 N (f_X12_rows N d) q.2 x1 x2 q.1) n (x3, v) = some res → va_P G vwCl (cX12 cy ad v) H → va_D A (cX12 cy ad v) → va_S A s.heap H locs → lv_has ls 4 [(0, .ref (ad 0)), (1, .int x1), (2, .int x2), (3, .int x3)] → W p l e (rmX (5 + 1 * (d + 1)) (120 + 23 * (d + 1))) s m args below meth c H locs 0 0 (MQ below (mQv G cy A (cX12 cy ad res)) args s 0 0 A) (F0 m 67 ls []) := by
      intro x1 x2 n
      induction n with
      | zero => intro x3 v H locs ls h; exact (itr_zero h).elim
      | succ n ih1 =>
        intro x3 v H locs ls h hP hD hS hl
        obtain ⟨y1, h, hy1⟩ := itr_inv h
        have h : f_X12_rows_s67 N (f_X12_rows N d) v x1 x2 x3 = some y1 := h
        have B150 : ∀ (x3 : Int32) (v : VV) (H : Heap) (locs : List Loc) (ls : Array Slot), f_X12_rows_b150 N (f_X12_rows N d) v x1 x2 x3 = some y1 → va_P G vwCl (cX12 cy ad v) H → va_D A (cX12 cy ad v) → va_S A s.heap H locs → lv_has ls 4 [(0, .ref (ad 0)), (1, .int x1), (2, .int x2), (3, .int x3)] → W p l e (rmX (5 + 1 * (d + 1)) (120 + 23 * (d + 1))) s m args below meth c H locs 0 0 (MQ below (mQv G cy A (cX12 cy ad res)) args s 0 0 A) (F0 m 150 ls []) := by
          intro x3 v H locs ls h hP hD hS hl
          delta f_X12_rows_b150 at h
          refine lv_iinc (v := x3 + 1) (lv' := [(3, .int (x3 + 1)), (0, .ref (ad 0)), (1, .int x1), (2, .int x2)]) hx hb dX12_rows_150 hl (k := 3) rfl rfl (by decide) rfl (fun ls hl => ?_)
          refine lv_goto (tgt := 67) hx hb dX12_rows_153 (by decide) ?_
          replace h := itr_back h hy1
          exact ih1 (x3 + 1) v _ _ _ h hP hD hS (lv_sub hl [1, 2, 3, 0] rfl)
        delta f_X12_rows_s67 at h
        refine lv_iload_n hx hb dX12_rows_67 rfl (lv_at hl 3 rfl) ?_
        refine lv_aload_n hx hb dX12_rows_68 rfl (lv_at hl 0 rfl) ?_
        refine gf_X12_3 hx hb hts hown hK hP dX12_rows_69 ?_
        refine lv_iconst (v := 2) hx hb dX12_rows_72 (by decide) ?_
        refine ld_X12_3 (f := v.2.1 3) (j := 2) hx hb hK hP rfl (vin_dec (by decide)) (by decide) dX12_rows_73 ?_
        refine lv_icmp_ge (tgt := 156) hx hb dX12_rows_74 (by decide) (fun c9 => ?_) (fun c9 => ?_)
        · replace h := (br h).1 c9
          replace h := itr_exit h hy1
          exact retV (fw := fun q => cX12 cy ad q) h hx hb hr hlocks hK hP hD hS dX12_rows_156
        · replace h := (br h).2 c9
          refine lv_aload_n hx hb dX12_rows_77 rfl (lv_at hl 0 rfl) ?_
          refine lv_iload_n hx hb dX12_rows_78 rfl (lv_at hl 1 rfl) ?_
          refine lv_iload_n hx hb dX12_rows_79 rfl (lv_at hl 3 rfl) ?_
          replace h := bd h
          obtain ⟨q6701, h6702, h⟩ := h
          refine callVi0 (As := [.int x1, .int x3]) (rest := []) hx hb hml hown hts (k_X12_mayHave l G cy ev ad v x1 x3 q6701 h6702) wm_39_8 wm_39_9 wm_39_10 wm_1_5 wm_39_11 hd_X12_mayHave ⟨by simp only [rmX]; omega, by simp only [rmX]; omega⟩ hK hP hD hS hA hE (va_recv hK hP (ci := 12) (q0 := 0) rfl rfl) rfl rfl hl.1 (Nat.le_of_ble_eq_true rfl) dX12_rows_80 (fun H locs hP hD hS => ?_)
          refine lv_if_ne (tgt := 89) hx hb dX12_rows_83 (by decide) (fun c9 => ?_) (fun c9 => ?_)
          · replace h := (br h).2 c9
            refine lv_aload_n hx hb dX12_rows_89 rfl (lv_at hl 0 rfl) ?_
            refine gf_X12_58 hx hb hts hown hK hP dX12_rows_90 ?_
            refine lv_iload_n hx hb dX12_rows_93 rfl (lv_at hl 3 rfl) ?_
            refine lv_dup2_11 hx hb dX12_rows_94 rfl rfl ?_
            replace h := gin_inv h
            obtain ⟨h9, h⟩ := h
            refine ld_X12_58 (f := v.2.1 58) (j := x3.toNatClampNeg) hx hb hK hP rfl h9 rfl dX12_rows_95 ?_
            refine lv_aload_n hx hb dX12_rows_96 rfl (lv_at hl 0 rfl) ?_
            refine gf_X12_5 hx hb hts hown hK hP dX12_rows_97 ?_
            refine lv_iload_n hx hb dX12_rows_100 rfl (lv_at hl 1 rfl) ?_
            replace h := gin_inv h
            obtain ⟨h9, h⟩ := h
            refine ld_X12_5 (f := v.2.1 5) (j := x1.toNatClampNeg) hx hb hK hP rfl h9 rfl dX12_rows_101 ?_
            refine lv_isub hx hb dX12_rows_102 ?_
            replace h := gin_inv h
            obtain ⟨h9, h⟩ := h
            refine st_X12_58 (j := x3.toNatClampNeg) hx hb hK hP hD hS h9 rfl dX12_rows_103 (fun H locs hP hD hS => ?_)
            refine lv_aload_n hx hb dX12_rows_104 rfl (lv_at hl 0 rfl) ?_
            refine gf_X12_59 hx hb hts hown hK hP dX12_rows_105 ?_
            refine lv_iload_n hx hb dX12_rows_108 rfl (lv_at hl 1 rfl) ?_
            refine lv_iload_n hx hb dX12_rows_109 rfl (lv_at hl 3 rfl) ?_
            replace h := gin_inv h
            obtain ⟨h9, h⟩ := h
            refine st_X12_59 (j := x1.toNatClampNeg) hx hb hK hP hD hS h9 rfl dX12_rows_110 (fun H locs hP hD hS => ?_)
            refine lv_aload_n hx hb dX12_rows_111 rfl (lv_at hl 0 rfl) ?_
            refine lv_iload_n hx hb dX12_rows_112 rfl (lv_at hl 1 rfl) ?_
            refine lv_iconst (v := 1) hx hb dX12_rows_113 (by decide) ?_
            refine lv_iadd hx hb dX12_rows_114 ?_
            refine lv_iload_n hx hb dX12_rows_115 rfl (lv_at hl 2 rfl) ?_
            refine lv_aload_n hx hb dX12_rows_116 rfl (lv_at hl 0 rfl) ?_
            refine lv_iconst (v := 0) hx hb dX12_rows_117 (by decide) ?_
            refine lv_iload_n hx hb dX12_rows_118 rfl (lv_at hl 1 rfl) ?_
            refine lv_iload_n hx hb dX12_rows_119 rfl (lv_at hl 3 rfl) ?_
            refine lv_iconst (v := 0) hx hb dX12_rows_120 (by decide) ?_
            replace h := bd h
            obtain ⟨q6703, h6704, h⟩ := h
            refine callVi0 (As := [.int 0, .int x1, .int x3, .int 0]) (rest := [.int x2, .int (x1 + 1), .ref (ad 0)]) hx hb hml hown hts (k_X12_likeOf l G cy ev N ad (sr (sr v 58 x3.toNatClampNeg ((v.2.1 58 x3.toNatClampNeg) - (v.2.1 5 x1.toNatClampNeg))) 59 x1.toNatClampNeg x3) 0 x1 x3 0 q6703 h6704) wm_36_9 wm_36_10 wm_36_11 wm_1_5 wm_36_12 hd_X12_likeOf ⟨by simp only [rmX]; omega, by simp only [rmX]; omega⟩ hK hP hD hS hA hE (va_recv hK hP (ci := 12) (q0 := 0) rfl rfl) rfl rfl hl.1 (Nat.le_of_ble_eq_true rfl) dX12_rows_121 (fun H locs hP hD hS => ?_)
            refine lv_aload_n hx hb dX12_rows_124 rfl (lv_at hl 0 rfl) ?_
            refine gf_X12_5 hx hb hts hown hK hP dX12_rows_125 ?_
            refine lv_iload_n hx hb dX12_rows_128 rfl (lv_at hl 1 rfl) ?_
            replace h := gin_inv h
            obtain ⟨h9, h⟩ := h
            refine ld_X12_5 (f := q6703.2.2.1 5) (j := x1.toNatClampNeg) hx hb hK hP rfl h9 rfl dX12_rows_129 ?_
            refine lv_imul hx hb dX12_rows_130 ?_
            refine lv_iadd hx hb dX12_rows_131 ?_
            replace h := bd h
            obtain ⟨q6705, h6706, h⟩ := h
            refine callVv0 (As := [.int (x1 + 1), .int (x2 + (q6703.1 * (q6703.2.2.1 5 x1.toNatClampNeg)))]) (rest := []) hx hb hml hown hts (ihd ad q6703.2 (x1 + 1) (x2 + (q6703.1 * (q6703.2.2.1 5 x1.toNatClampNeg))) q6705 h6706) wm_39_4 wm_39_5 wm_39_6 wm_1_5 wm_39_7 hd_X12_rows ⟨by simp only [rmX]; omega, by simp only [rmX]; omega⟩ hK hP hD hS hA hE (va_recv hK hP (ci := 12) (q0 := 0) rfl rfl) rfl rfl hl.1 (Nat.le_of_ble_eq_true rfl) dX12_rows_132 (fun H locs hP hD hS => ?_)
            refine lv_aload_n hx hb dX12_rows_135 rfl (lv_at hl 0 rfl) ?_
            refine gf_X12_58 hx hb hts hown hK hP dX12_rows_136 ?_
            refine lv_iload_n hx hb dX12_rows_139 rfl (lv_at hl 3 rfl) ?_
            refine lv_dup2_11 hx hb dX12_rows_140 rfl rfl ?_
            replace h := gin_inv h
            obtain ⟨h9, h⟩ := h
            refine ld_X12_58 (f := q6705.2.1 58) (j := x3.toNatClampNeg) hx hb hK hP rfl h9 rfl dX12_rows_141 ?_
            refine lv_aload_n hx hb dX12_rows_142 rfl (lv_at hl 0 rfl) ?_
            refine gf_X12_5 hx hb hts hown hK hP dX12_rows_143 ?_
            refine lv_iload_n hx hb dX12_rows_146 rfl (lv_at hl 1 rfl) ?_
            replace h := gin_inv h
            obtain ⟨h9, h⟩ := h
            refine ld_X12_5 (f := q6705.2.1 5) (j := x1.toNatClampNeg) hx hb hK hP rfl h9 rfl dX12_rows_147 ?_
            refine lv_iadd hx hb dX12_rows_148 ?_
            replace h := gin_inv h
            obtain ⟨h9, h⟩ := h
            refine st_X12_58 (j := x3.toNatClampNeg) hx hb hK hP hD hS h9 rfl dX12_rows_149 (fun H locs hP hD hS => ?_)
            exact B150 x3 (sr q6705 58 x3.toNatClampNeg ((q6705.2.1 58 x3.toNatClampNeg) + (q6705.2.1 5 x1.toNatClampNeg))) _ _ _ h hP hD hS (lv_sub hl [0, 1, 2, 3] rfl)
          · replace h := (br h).1 c9
            refine lv_goto (tgt := 150) hx hb dX12_rows_86 (by decide) ?_
            exact B150 x3 v _ _ _ h hP hD hS (lv_sub hl [0, 1, 2, 3] rfl)
    have L26 : ∀ (x1 : Int32) (n : Nat) (x3 : Int32) (v : VV) (H : Heap) (locs : List Loc) (ls : Array Slot), itr (fun q : Int32 × VV => f_X12_rows_s26 N (f_X12_rows N d) q.2 x1 q.1) n (x3, v) = some res → va_P G vwCl (cX12 cy ad v) H → va_D A (cX12 cy ad v) → va_S A s.heap H locs → lv_has ls 4 [(0, .ref (ad 0)), (1, .int x1), (3, .int x3)] → W p l e (rmX (5 + 1 * (d + 1)) (120 + 23 * (d + 1))) s m args below meth c H locs 0 0 (MQ below (mQv G cy A (cX12 cy ad res)) args s 0 0 A) (F0 m 26 ls []) := by
      intro x1 n
      induction n with
      | zero => intro x3 v H locs ls h; exact (itr_zero h).elim
      | succ n ih1 =>
        intro x3 v H locs ls h hP hD hS hl
        obtain ⟨y1, h, hy1⟩ := itr_inv h
        have h : f_X12_rows_s26 N (f_X12_rows N d) v x1 x3 = some y1 := h
        delta f_X12_rows_s26 at h
        refine lv_iload_n hx hb dX12_rows_26 rfl (lv_at hl 2 rfl) ?_
        refine lv_iload_n hx hb dX12_rows_27 rfl (lv_at hl 1 rfl) ?_
        refine lv_icmp_ge (tgt := 49) hx hb dX12_rows_28 (by decide) (fun c9 => ?_) (fun c9 => ?_)
        · replace h := (br h).1 c9
          replace h := itr_exit h hy1
          exact retV (fw := fun q => cX12 cy ad q) h hx hb hr hlocks hK hP hD hS dX12_rows_49
        · replace h := (br h).2 c9
          refine lv_aload_n hx hb dX12_rows_31 rfl (lv_at hl 0 rfl) ?_
          refine gf_X12_60 hx hb hts hown hK hP dX12_rows_32 ?_
          refine lv_iload_n hx hb dX12_rows_35 rfl (lv_at hl 2 rfl) ?_
          refine lv_aload_n hx hb dX12_rows_36 rfl (lv_at hl 0 rfl) ?_
          refine gf_X12_59 hx hb hts hown hK hP dX12_rows_37 ?_
          refine lv_iload_n hx hb dX12_rows_40 rfl (lv_at hl 2 rfl) ?_
          replace h := gin_inv h
          obtain ⟨h9, h⟩ := h
          refine ld_X12_59 (f := v.2.1 59) (j := x3.toNatClampNeg) hx hb hK hP rfl h9 rfl dX12_rows_41 ?_
          replace h := gin_inv h
          obtain ⟨h9, h⟩ := h
          refine st_X12_60 (j := x3.toNatClampNeg) hx hb hK hP hD hS h9 rfl dX12_rows_42 (fun H locs hP hD hS => ?_)
          refine lv_iinc (v := x3 + 1) (lv' := [(3, .int (x3 + 1)), (0, .ref (ad 0)), (1, .int x1)]) hx hb dX12_rows_43 hl (k := 2) rfl rfl (by decide) rfl (fun ls hl => ?_)
          refine lv_goto (tgt := 26) hx hb dX12_rows_46 (by decide) ?_
          replace h := itr_back h hy1
          exact ih1 (x3 + 1) (sr v 60 x3.toNatClampNeg (v.2.1 59 x3.toNatClampNeg)) _ _ _ h hP hD hS (lv_sub hl [1, 2, 0] rfl)
    delta f_X12_rows_body at h
    refine lv_iload_n hx hb dX12_rows_0 rfl (lv_at hl 1 rfl) ?_
    refine lv_aload_n hx hb dX12_rows_1 rfl (lv_at hl 0 rfl) ?_
    refine gf_X12_3 hx hb hts hown hK hP dX12_rows_2 ?_
    refine lv_iconst (v := 0) hx hb dX12_rows_5 (by decide) ?_
    refine ld_X12_3 (f := v.2.1 3) (j := 0) hx hb hK hP rfl (vin_dec (by decide)) (by decide) dX12_rows_6 ?_
    refine lv_icmp_ne (tgt := 50) hx hb dX12_rows_7 (by decide) (fun c9 => ?_) (fun c9 => ?_)
    · replace h := (br h).2 c9
      refine lv_aload_n hx hb dX12_rows_50 rfl (lv_at hl 0 rfl) ?_
      refine gf_X12_59 hx hb hts hown hK hP dX12_rows_51 ?_
      refine lv_iload_n hx hb dX12_rows_54 rfl (lv_at hl 1 rfl) ?_
      refine lv_iconst (v := (-1)) hx hb dX12_rows_55 (by decide) ?_
      replace h := gin_inv h
      obtain ⟨h9, h⟩ := h
      refine st_X12_59 (j := a1.toNatClampNeg) hx hb hK hP hD hS h9 rfl dX12_rows_56 (fun H locs hP hD hS => ?_)
      refine lv_aload_n hx hb dX12_rows_57 rfl (lv_at hl 0 rfl) ?_
      refine lv_iload_n hx hb dX12_rows_58 rfl (lv_at hl 1 rfl) ?_
      refine lv_iconst (v := 1) hx hb dX12_rows_59 (by decide) ?_
      refine lv_iadd hx hb dX12_rows_60 ?_
      refine lv_iload_n hx hb dX12_rows_61 rfl (lv_at hl 2 rfl) ?_
      replace h := bd h
      obtain ⟨q1, h2, h⟩ := h
      refine callVv0 (As := [.int (a1 + 1), .int a2]) (rest := []) hx hb hml hown hts (ihd ad (sr v 59 a1.toNatClampNeg ((-1))) (a1 + 1) a2 q1 h2) wm_39_4 wm_39_5 wm_39_6 wm_1_5 wm_39_7 hd_X12_rows ⟨by simp only [rmX]; omega, by simp only [rmX]; omega⟩ hK hP hD hS hA hE (va_recv hK hP (ci := 12) (q0 := 0) rfl rfl) rfl rfl hl.1 (Nat.le_of_ble_eq_true rfl) dX12_rows_62 (fun H locs hP hD hS => ?_)
      refine lv_iconst (v := 0) hx hb dX12_rows_65 (by decide) ?_
      refine lv_istore_n (lv' := [(3, .int 0), (0, .ref (ad 0)), (1, .int a1), (2, .int a2)]) hx hb dX12_rows_66 rfl hl (by decide) rfl (fun ls hl => ?_)
      exact L67 a1 a2 N 0 q1 _ _ _ h hP hD hS (lv_sub hl [1, 2, 3, 0] rfl)
    · replace h := (br h).1 c9
      refine lv_iload_n hx hb dX12_rows_10 rfl (lv_at hl 2 rfl) ?_
      refine lv_aload_n hx hb dX12_rows_11 rfl (lv_at hl 0 rfl) ?_
      refine gf_X12_61 (x := v.1 61) hx hb hts hown hK hP rfl dX12_rows_12 ?_
      refine lv_icmp_gt (tgt := 19) hx hb dX12_rows_15 (by decide) (fun c9 => ?_) (fun c9 => ?_)
      · replace h := (br h).1 c9
        refine lv_aload_n hx hb dX12_rows_19 rfl (lv_at hl 0 rfl) ?_
        refine lv_iload_n hx hb dX12_rows_20 rfl (lv_at hl 2 rfl) ?_
        refine pf_X12_61 hx hb hts hown hK hP hD hS dX12_rows_21 (fun H locs hP hD hS => ?_)
        refine lv_iconst (v := 0) hx hb dX12_rows_24 (by decide) ?_
        refine lv_istore_n (lv' := [(3, .int 0), (0, .ref (ad 0)), (1, .int a1), (2, .int a2)]) hx hb dX12_rows_25 rfl hl (by decide) rfl (fun ls hl => ?_)
        exact L26 a1 N 0 (si v 61 a2) _ _ _ h hP hD hS (lv_sub hl [1, 2, 0] rfl)
      · replace h := (br h).2 c9
        exact retV (fw := fun q => cX12 cy ad q) h hx hb hr hlocks hK hP hD hS dX12_rows_18
theorem hd_X12_layBest : yX12_layBest.cls = RX12 ∧ yX12_layBest.cls ≠ "java/lang/invoke/MethodHandle" ∧ yX12_layBest.cls ≠ "java/lang/invoke/VarHandle" ∧ (parseMethodDescriptor yX12_layBest.desc).map (fun d => d.parameters.length) = some 0 := ⟨rfl, by decide +kernel, by decide +kernel, by decide +kernel⟩
def f_X12_layBest_s2 (N : Nat) (v : VV) (x1 : Int32) : Option (((Int32 × VV) ⊕ (VV))) :=
  if (3 : Int32) ≤ x1 then inrO (bnd (f_X12_rows N 10 (si v 61 ((-1))) 0 0) (fun q201 => some q201)) else gin x1 3 (some (.inl (x1 + 1, sr v 58 x1.toNatClampNeg ((v.2.1 3 1) + (v.2.1 3 6)))))
def f_X12_layBest (N : Nat) (v : VV) : Option (VV) :=
  itr (fun q : Int32 × VV => f_X12_layBest_s2 N q.2 q.1) N (0, v)
set_option maxHeartbeats 4000000 in
set_option maxRecDepth 100000 in
theorem k_X12_layBest (l : Launch) (G : va_G) (cy : Nat → ClassId) (ev : Nat → Nat) (N : Nat) (ad : Nat → Nat) (v : VV)  (res : VV) (h : f_X12_layBest N v = some res) : MetV l yX12_layBest cX12_layBest 2 none 16 373 G cy ev [.ref (ad 0)] (cX12 cy ad v) (cX12 cy ad res) := by
  refine MetQ.start (by decide +kernel) (Nat.le_of_ble_eq_true rfl) (fun p e s m args below meth c A ls hx hb hr hml hown hts hlocks hK hP hD hA hl hE => ?_)
  have hS : va_S A s.heap s.heap [] := va_S.rf
  have hown : s.vm.findClass RX12 = some m.cls := hown
  have hl : lv_has ls 2 [(0, .ref (ad 0))] := hl
  have L2 : ∀ (n : Nat) (x1 : Int32) (v : VV) (H : Heap) (locs : List Loc) (ls : Array Slot), itr (fun q : Int32 × VV => f_X12_layBest_s2 N q.2 q.1) n (x1, v) = some res → va_P G vwCl (cX12 cy ad v) H → va_D A (cX12 cy ad v) → va_S A s.heap H locs → lv_has ls 2 [(0, .ref (ad 0)), (1, .int x1)] → W p l e (rmX 16 373) s m args below meth c H locs 0 0 (MQ below (mQv G cy A (cX12 cy ad res)) args s 0 0 A) (F0 m 2 ls []) := by
    intro n
    induction n with
    | zero => intro x1 v H locs ls h; exact (itr_zero h).elim
    | succ n ih1 =>
      intro x1 v H locs ls h hP hD hS hl
      obtain ⟨y1, h, hy1⟩ := itr_inv h
      have h : f_X12_layBest_s2 N v x1 = some y1 := h
      delta f_X12_layBest_s2 at h
      refine lv_iload_n hx hb dX12_layBest_2 rfl (lv_at hl 1 rfl) ?_
      refine lv_iconst (v := 3) hx hb dX12_layBest_3 (by decide) ?_
      refine lv_icmp_ge (tgt := 33) hx hb dX12_layBest_4 (by decide) (fun c9 => ?_) (fun c9 => ?_)
      · replace h := (br h).1 c9
        replace h := itr_exit h hy1
        refine lv_aload_n hx hb dX12_layBest_33 rfl (lv_at hl 0 rfl) ?_
        refine lv_iconst (v := (-1)) hx hb dX12_layBest_34 (by decide) ?_
        refine pf_X12_61 hx hb hts hown hK hP hD hS dX12_layBest_35 (fun H locs hP hD hS => ?_)
        refine lv_aload_n hx hb dX12_layBest_38 rfl (lv_at hl 0 rfl) ?_
        refine lv_iconst (v := 0) hx hb dX12_layBest_39 (by decide) ?_
        refine lv_iconst (v := 0) hx hb dX12_layBest_40 (by decide) ?_
        replace h := bd h
        obtain ⟨q201, h202, h⟩ := h
        refine callVv0 (As := [.int 0, .int 0]) (rest := []) hx hb hml hown hts (k_X12_rows l G cy ev N 10 ad (si v 61 ((-1))) 0 0 q201 h202) wm_39_4 wm_39_5 wm_39_6 wm_1_5 wm_39_7 hd_X12_rows ⟨by decide, by decide⟩ hK hP hD hS hA hE (va_recv hK hP (ci := 12) (q0 := 0) rfl rfl) rfl rfl hl.1 (Nat.le_of_ble_eq_true rfl) dX12_layBest_41 (fun H locs hP hD hS => ?_)
        exact retV (fw := fun q => cX12 cy ad q) h hx hb hr hlocks hK hP hD hS dX12_layBest_44
      · replace h := (br h).2 c9
        refine lv_aload_n hx hb dX12_layBest_7 rfl (lv_at hl 0 rfl) ?_
        refine gf_X12_58 hx hb hts hown hK hP dX12_layBest_8 ?_
        refine lv_iload_n hx hb dX12_layBest_11 rfl (lv_at hl 1 rfl) ?_
        refine lv_aload_n hx hb dX12_layBest_12 rfl (lv_at hl 0 rfl) ?_
        refine gf_X12_3 hx hb hts hown hK hP dX12_layBest_13 ?_
        refine lv_iconst (v := 1) hx hb dX12_layBest_16 (by decide) ?_
        refine ld_X12_3 (f := v.2.1 3) (j := 1) hx hb hK hP rfl (vin_dec (by decide)) (by decide) dX12_layBest_17 ?_
        refine lv_aload_n hx hb dX12_layBest_18 rfl (lv_at hl 0 rfl) ?_
        refine gf_X12_3 hx hb hts hown hK hP dX12_layBest_19 ?_
        refine lv_bipush (v := 6) hx hb dX12_layBest_22 (by decide) ?_
        refine ld_X12_3 (f := v.2.1 3) (j := 6) hx hb hK hP rfl (vin_dec (by decide)) (by decide) dX12_layBest_24 ?_
        refine lv_iadd hx hb dX12_layBest_25 ?_
        replace h := gin_inv h
        obtain ⟨h9, h⟩ := h
        refine st_X12_58 (j := x1.toNatClampNeg) hx hb hK hP hD hS h9 rfl dX12_layBest_26 (fun H locs hP hD hS => ?_)
        refine lv_iinc (v := x1 + 1) (lv' := [(1, .int (x1 + 1)), (0, .ref (ad 0))]) hx hb dX12_layBest_27 hl (k := 1) rfl rfl (by decide) rfl (fun ls hl => ?_)
        refine lv_goto (tgt := 2) hx hb dX12_layBest_30 (by decide) ?_
        replace h := itr_back h hy1
        exact ih1 (x1 + 1) (sr v 58 x1.toNatClampNeg ((v.2.1 3 1) + (v.2.1 3 6))) _ _ _ h hP hD hS (lv_sub hl [1, 0] rfl)
  delta f_X12_layBest at h
  refine lv_iconst (v := 0) hx hb dX12_layBest_0 (by decide) ?_
  refine lv_istore_n (lv' := [(1, .int 0), (0, .ref (ad 0))]) hx hb dX12_layBest_1 rfl hl (by decide) rfl (fun ls hl => ?_)
  exact L2  N 0 v _ _ _ h hP hD hS (lv_sub hl [1, 0] rfl)
theorem hd_X12_best : yX12_best.cls = RX12 ∧ yX12_best.cls ≠ "java/lang/invoke/MethodHandle" ∧ yX12_best.cls ≠ "java/lang/invoke/VarHandle" ∧ (parseMethodDescriptor yX12_best.desc).map (fun d => d.parameters.length) = some 1 := ⟨rfl, by decide +kernel, by decide +kernel, by decide +kernel⟩
def f_X12_best (N : Nat) (v : VV) (a1 : Int32) : Option (Int32 × VV) :=
  bnd (f_X12_isParty (si v 0 0) a1) (fun q1 => if q1 = 0 then some ((-1), si v 0 0) else bnd (f_X12_layBest N (si v 0 0)) (fun q3 => gin a1 8 (if q3.2.1 60 a1.toNatClampNeg = (-1) then some ((-2), q3) else gin a1 8 (some (q3.2.1 60 a1.toNatClampNeg, q3)))))
set_option maxHeartbeats 4000000 in
set_option maxRecDepth 100000 in
theorem k_X12_best (l : Launch) (G : va_G) (cy : Nat → ClassId) (ev : Nat → Nat) (N : Nat) (ad : Nat → Nat) (v : VV) (a1 : Int32) (res : Int32 × VV) (h : f_X12_best N v a1 = some res) : MetI l yX12_best cX12_best 2 (some .int) 17 394 G cy ev [.ref (ad 0), .int a1] (cX12 cy ad v) res.1 (cX12 cy ad res.2) := by
  refine MetQ.start (by decide +kernel) (Nat.le_of_ble_eq_true rfl) (fun p e s m args below meth c A ls hx hb hr hml hown hts hlocks hK hP hD hA hl hE => ?_)
  have hS : va_S A s.heap s.heap [] := va_S.rf
  have hown : s.vm.findClass RX12 = some m.cls := hown
  have hl : lv_has ls 2 [(0, .ref (ad 0)), (1, .int a1)] := hl
  delta f_X12_best at h
  refine lv_aload_n hx hb dX12_best_0 rfl (lv_at hl 0 rfl) ?_
  refine lv_iconst (v := 0) hx hb dX12_best_1 (by decide) ?_
  refine pf_X12_0 hx hb hts hown hK hP hD hS dX12_best_2 (fun H locs hP hD hS => ?_)
  refine lv_aload_n hx hb dX12_best_5 rfl (lv_at hl 0 rfl) ?_
  refine lv_iload_n hx hb dX12_best_6 rfl (lv_at hl 1 rfl) ?_
  replace h := bd h
  obtain ⟨q1, h2, h⟩ := h
  refine callVi0 (As := [.int a1]) (rest := []) hx hb hml hown hts (k_X12_isParty l G cy ev ad (si v 0 0) a1 q1 h2) wm_26_23 wm_27_0 wm_27_1 wm_1_5 wm_27_2 hd_X12_isParty ⟨by decide, by decide⟩ hK hP hD hS hA hE (va_recv hK hP (ci := 12) (q0 := 0) rfl rfl) rfl rfl hl.1 (Nat.le_of_ble_eq_true rfl) dX12_best_7 (fun H locs hP hD hS => ?_)
  refine lv_if_ne (tgt := 15) hx hb dX12_best_10 (by decide) (fun c9 => ?_) (fun c9 => ?_)
  · replace h := (br h).2 c9
    refine lv_aload_n hx hb dX12_best_15 rfl (lv_at hl 0 rfl) ?_
    replace h := bd h
    obtain ⟨q3, h4, h⟩ := h
    refine callVv0 (As := []) (rest := []) hx hb hml hown hts (k_X12_layBest l G cy ev N ad (si v 0 0) q3 h4) wm_38_23 wm_39_0 wm_39_1 wm_1_5 wm_39_2 hd_X12_layBest ⟨by decide, by decide⟩ hK hP hD hS hA hE (va_recv hK hP (ci := 12) (q0 := 0) rfl rfl) rfl rfl hl.1 (Nat.le_of_ble_eq_true rfl) dX12_best_16 (fun H locs hP hD hS => ?_)
    refine lv_aload_n hx hb dX12_best_19 rfl (lv_at hl 0 rfl) ?_
    refine gf_X12_60 hx hb hts hown hK hP dX12_best_20 ?_
    refine lv_iload_n hx hb dX12_best_23 rfl (lv_at hl 1 rfl) ?_
    replace h := gin_inv h
    obtain ⟨h9, h⟩ := h
    refine ld_X12_60 (f := q3.2.1 60) (j := a1.toNatClampNeg) hx hb hK hP rfl h9 rfl dX12_best_24 ?_
    refine lv_iconst (v := (-1)) hx hb dX12_best_25 (by decide) ?_
    refine lv_icmp_ne (tgt := 34) hx hb dX12_best_26 (by decide) (fun c9 => ?_) (fun c9 => ?_)
    · replace h := (br h).2 c9
      refine lv_aload_n hx hb dX12_best_34 rfl (lv_at hl 0 rfl) ?_
      refine gf_X12_60 hx hb hts hown hK hP dX12_best_35 ?_
      refine lv_iload_n hx hb dX12_best_38 rfl (lv_at hl 1 rfl) ?_
      replace h := gin_inv h
      obtain ⟨h9, h⟩ := h
      refine ld_X12_60 (f := q3.2.1 60) (j := a1.toNatClampNeg) hx hb hK hP rfl h9 rfl dX12_best_39 ?_
      exact retI (fr := fun q => q.1) (fw := fun q => cX12 cy ad q.2) h hx hb hr hlocks hK hP hD hS dX12_best_40
    · replace h := (br h).1 c9
      refine lv_bipush (v := (-2)) hx hb dX12_best_29 (by decide) ?_
      refine lv_goto (tgt := 40) hx hb dX12_best_31 (by decide) ?_
      exact retI (fr := fun q => q.1) (fw := fun q => cX12 cy ad q.2) h hx hb hr hlocks hK hP hD hS dX12_best_40
  · replace h := (br h).1 c9
    refine lv_iconst (v := (-1)) hx hb dX12_best_13 (by decide) ?_
    exact retI (fr := fun q => q.1) (fw := fun q => cX12 cy ad q.2) h hx hb hr hlocks hK hP hD hS dX12_best_14
theorem hd_X12_bestSum : yX12_bestSum.cls = RX12 ∧ yX12_bestSum.cls ≠ "java/lang/invoke/MethodHandle" ∧ yX12_bestSum.cls ≠ "java/lang/invoke/VarHandle" ∧ (parseMethodDescriptor yX12_bestSum.desc).map (fun d => d.parameters.length) = some 0 := ⟨rfl, by decide +kernel, by decide +kernel, by decide +kernel⟩
def f_X12_bestSum (N : Nat) (v : VV) : Option (Int32 × VV) :=
  bnd (f_X12_layBest N (si v 0 0)) (fun q1 => some (q1.1 61, q1))
set_option maxHeartbeats 4000000 in
set_option maxRecDepth 100000 in
theorem k_X12_bestSum (l : Launch) (G : va_G) (cy : Nat → ClassId) (ev : Nat → Nat) (N : Nat) (ad : Nat → Nat) (v : VV)  (res : Int32 × VV) (h : f_X12_bestSum N v = some res) : MetI l yX12_bestSum cX12_bestSum 1 (some .int) 17 394 G cy ev [.ref (ad 0)] (cX12 cy ad v) res.1 (cX12 cy ad res.2) := by
  refine MetQ.start (by decide +kernel) (Nat.le_of_ble_eq_true rfl) (fun p e s m args below meth c A ls hx hb hr hml hown hts hlocks hK hP hD hA hl hE => ?_)
  have hS : va_S A s.heap s.heap [] := va_S.rf
  have hown : s.vm.findClass RX12 = some m.cls := hown
  have hl : lv_has ls 1 [(0, .ref (ad 0))] := hl
  delta f_X12_bestSum at h
  refine lv_aload_n hx hb dX12_bestSum_0 rfl (lv_at hl 0 rfl) ?_
  refine lv_iconst (v := 0) hx hb dX12_bestSum_1 (by decide) ?_
  refine pf_X12_0 hx hb hts hown hK hP hD hS dX12_bestSum_2 (fun H locs hP hD hS => ?_)
  refine lv_aload_n hx hb dX12_bestSum_5 rfl (lv_at hl 0 rfl) ?_
  replace h := bd h
  obtain ⟨q1, h2, h⟩ := h
  refine callVv0 (As := []) (rest := []) hx hb hml hown hts (k_X12_layBest l G cy ev N ad (si v 0 0) q1 h2) wm_38_23 wm_39_0 wm_39_1 wm_1_5 wm_39_2 hd_X12_layBest ⟨by decide, by decide⟩ hK hP hD hS hA hE (va_recv hK hP (ci := 12) (q0 := 0) rfl rfl) rfl rfl hl.1 (Nat.le_of_ble_eq_true rfl) dX12_bestSum_6 (fun H locs hP hD hS => ?_)
  refine lv_aload_n hx hb dX12_bestSum_9 rfl (lv_at hl 0 rfl) ?_
  refine gf_X12_61 (x := q1.1 61) hx hb hts hown hK hP rfl dX12_bestSum_10 ?_
  exact retI (fr := fun q => q.1) (fw := fun q => cX12 cy ad q.2) h hx hb hr hlocks hK hP hD hS dX12_bestSum_13
