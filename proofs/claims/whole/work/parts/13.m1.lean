theorem hd_X12_thrown : yX12_thrown.cls = RX12 ∧ yX12_thrown.cls ≠ "java/lang/invoke/MethodHandle" ∧ yX12_thrown.cls ≠ "java/lang/invoke/VarHandle" ∧ (parseMethodDescriptor yX12_thrown.desc).map (fun d => d.parameters.length) = some 0 := ⟨rfl, by decide +kernel, by decide +kernel, by decide +kernel⟩
def f_X12_thrown (v : VV) : Option (Int32) :=
  some (v.1 0)
set_option maxHeartbeats 4000000 in
set_option maxRecDepth 100000 in
theorem k_X12_thrown (l : Launch) (G : va_G) (cy : Nat → ClassId) (ev : Nat → Nat) (ad : Nat → Nat) (v : VV)  (res : Int32) (h : f_X12_thrown v = some res) : MetI l yX12_thrown cX12_thrown 1 (some .int) 0 0 G cy ev [.ref (ad 0)] (cX12 cy ad v) res (cX12 cy ad v) := by
  refine MetQ.start (by decide +kernel) (Nat.le_of_ble_eq_true rfl) (fun p e s m args below meth c A ls hx hb hr hml hown hts hlocks hK hP hD hA hl hE => ?_)
  have hS : va_S A s.heap s.heap [] := va_S.rf
  have hown : s.vm.findClass RX12 = some m.cls := hown
  have hl : lv_has ls 1 [(0, .ref (ad 0))] := hl
  delta f_X12_thrown at h
  refine lv_aload_n hx hb dX12_thrown_0 rfl (lv_at hl 0 rfl) ?_
  refine gf_X12_0 (x := v.1 0) hx hb hts hown hK hP rfl dX12_thrown_1 ?_
  exact retI (fr := fun q => q) (fw := fun _ => cX12 cy ad v) h hx hb hr hlocks hK hP hD hS dX12_thrown_4
theorem hd_X12_here : yX12_here.cls = RX12 ∧ yX12_here.cls ≠ "java/lang/invoke/MethodHandle" ∧ yX12_here.cls ≠ "java/lang/invoke/VarHandle" ∧ (parseMethodDescriptor yX12_here.desc).map (fun d => d.parameters.length) = some 0 := ⟨rfl, by decide +kernel, by decide +kernel, by decide +kernel⟩
def f_X12_here (v : VV) : Option (Int32) :=
  if v.1 18 ≤ v.1 19 then some ((-1)) else gin (v.1 19) 700 (some (v.2.1 1 ((v.1 19).toNatClampNeg)))
set_option maxHeartbeats 4000000 in
set_option maxRecDepth 100000 in
theorem k_X12_here (l : Launch) (G : va_G) (cy : Nat → ClassId) (ev : Nat → Nat) (ad : Nat → Nat) (v : VV)  (res : Int32) (h : f_X12_here v = some res) : MetI l yX12_here cX12_here 1 (some .int) 0 0 G cy ev [.ref (ad 0)] (cX12 cy ad v) res (cX12 cy ad v) := by
  refine MetQ.start (by decide +kernel) (Nat.le_of_ble_eq_true rfl) (fun p e s m args below meth c A ls hx hb hr hml hown hts hlocks hK hP hD hA hl hE => ?_)
  have hS : va_S A s.heap s.heap [] := va_S.rf
  have hown : s.vm.findClass RX12 = some m.cls := hown
  have hl : lv_has ls 1 [(0, .ref (ad 0))] := hl
  delta f_X12_here at h
  refine lv_aload_n hx hb dX12_here_0 rfl (lv_at hl 0 rfl) ?_
  refine gf_X12_19 (x := v.1 19) hx hb hts hown hK hP rfl dX12_here_1 ?_
  refine lv_aload_n hx hb dX12_here_4 rfl (lv_at hl 0 rfl) ?_
  refine gf_X12_18 (x := v.1 18) hx hb hts hown hK hP rfl dX12_here_5 ?_
  refine lv_icmp_ge (tgt := 23) hx hb dX12_here_8 (by decide) (fun c9 => ?_) (fun c9 => ?_)
  · replace h := (br h).1 c9
    refine lv_iconst (v := (-1)) hx hb dX12_here_23 (by decide) ?_
    exact retI (fr := fun q => q) (fw := fun _ => cX12 cy ad v) h hx hb hr hlocks hK hP hD hS dX12_here_24
  · replace h := (br h).2 c9
    refine lv_aload_n hx hb dX12_here_11 rfl (lv_at hl 0 rfl) ?_
    refine gf_X12_1 hx hb hts hown hK hP dX12_here_12 ?_
    refine lv_aload_n hx hb dX12_here_15 rfl (lv_at hl 0 rfl) ?_
    refine gf_X12_19 (x := v.1 19) hx hb hts hown hK hP rfl dX12_here_16 ?_
    replace h := gin_inv h
    obtain ⟨h9, h⟩ := h
    refine ld_X12_1 (f := v.2.1 1) (j := (v.1 19).toNatClampNeg) hx hb hK hP rfl h9 rfl dX12_here_19 ?_
    refine lv_goto (tgt := 24) hx hb dX12_here_20 (by decide) ?_
    exact retI (fr := fun q => q) (fw := fun _ => cX12 cy ad v) h hx hb hr hlocks hK hP hD hS dX12_here_24
theorem hd_X12_isSmall : yX12_isSmall.cls = RX12 ∧ yX12_isSmall.cls ≠ "java/lang/invoke/MethodHandle" ∧ yX12_isSmall.cls ≠ "java/lang/invoke/VarHandle" ∧ (parseMethodDescriptor yX12_isSmall.desc).map (fun d => d.parameters.length) = some 1 := ⟨rfl, by decide +kernel, by decide +kernel, by decide +kernel⟩
def f_X12_isSmall (a1 : Int32) : Option (Int32) :=
  if a1 < 97 then some 0 else if (122 : Int32) < a1 then some 0 else some 1
set_option maxHeartbeats 4000000 in
set_option maxRecDepth 100000 in
theorem k_X12_isSmall (l : Launch) (G : va_G) (cy : Nat → ClassId) (ev : Nat → Nat) (w : va_W)  (a1 : Int32) (res : Int32) (h : f_X12_isSmall a1 = some res) : MetI l yX12_isSmall cX12_isSmall 1 (some .boolean) 0 0 G cy ev [.int a1] (w) res (w) := by
  refine MetQ.start (by decide +kernel) (Nat.le_of_ble_eq_true rfl) (fun p e s m args below meth c A ls hx hb hr hml hown hts hlocks hK hP hD hA hl hE => ?_)
  have hS : va_S A s.heap s.heap [] := va_S.rf
  have hown : s.vm.findClass RX12 = some m.cls := hown
  have hl : lv_has ls 1 [(0, .int a1)] := hl
  delta f_X12_isSmall at h
  refine lv_iload_n hx hb dX12_isSmall_0 rfl (lv_at hl 0 rfl) ?_
  refine lv_bipush (v := 97) hx hb dX12_isSmall_1 (by decide) ?_
  refine lv_icmp_lt (tgt := 16) hx hb dX12_isSmall_3 (by decide) (fun c9 => ?_) (fun c9 => ?_)
  · replace h := (br h).1 c9
    refine lv_iconst (v := 0) hx hb dX12_isSmall_16 (by decide) ?_
    exact retZ (fr := fun q => q) (fw := fun _ => w) h hx hb hr narZ0 hlocks hK hP hD hS dX12_isSmall_17
  · replace h := (br h).2 c9
    refine lv_iload_n hx hb dX12_isSmall_6 rfl (lv_at hl 0 rfl) ?_
    refine lv_bipush (v := 122) hx hb dX12_isSmall_7 (by decide) ?_
    refine lv_icmp_gt (tgt := 16) hx hb dX12_isSmall_9 (by decide) (fun c9 => ?_) (fun c9 => ?_)
    · replace h := (br h).1 c9
      refine lv_iconst (v := 0) hx hb dX12_isSmall_16 (by decide) ?_
      exact retZ (fr := fun q => q) (fw := fun _ => w) h hx hb hr narZ0 hlocks hK hP hD hS dX12_isSmall_17
    · replace h := (br h).2 c9
      refine lv_iconst (v := 1) hx hb dX12_isSmall_12 (by decide) ?_
      refine lv_goto (tgt := 17) hx hb dX12_isSmall_13 (by decide) ?_
      exact retZ (fr := fun q => q) (fw := fun _ => w) h hx hb hr narZ1 hlocks hK hP hD hS dX12_isSmall_17
theorem hd_X12_isDigit : yX12_isDigit.cls = RX12 ∧ yX12_isDigit.cls ≠ "java/lang/invoke/MethodHandle" ∧ yX12_isDigit.cls ≠ "java/lang/invoke/VarHandle" ∧ (parseMethodDescriptor yX12_isDigit.desc).map (fun d => d.parameters.length) = some 1 := ⟨rfl, by decide +kernel, by decide +kernel, by decide +kernel⟩
def f_X12_isDigit (a1 : Int32) : Option (Int32) :=
  if a1 < 48 then some 0 else if (57 : Int32) < a1 then some 0 else some 1
set_option maxHeartbeats 4000000 in
set_option maxRecDepth 100000 in
theorem k_X12_isDigit (l : Launch) (G : va_G) (cy : Nat → ClassId) (ev : Nat → Nat) (w : va_W)  (a1 : Int32) (res : Int32) (h : f_X12_isDigit a1 = some res) : MetI l yX12_isDigit cX12_isDigit 1 (some .boolean) 0 0 G cy ev [.int a1] (w) res (w) := by
  refine MetQ.start (by decide +kernel) (Nat.le_of_ble_eq_true rfl) (fun p e s m args below meth c A ls hx hb hr hml hown hts hlocks hK hP hD hA hl hE => ?_)
  have hS : va_S A s.heap s.heap [] := va_S.rf
  have hown : s.vm.findClass RX12 = some m.cls := hown
  have hl : lv_has ls 1 [(0, .int a1)] := hl
  delta f_X12_isDigit at h
  refine lv_iload_n hx hb dX12_isDigit_0 rfl (lv_at hl 0 rfl) ?_
  refine lv_bipush (v := 48) hx hb dX12_isDigit_1 (by decide) ?_
  refine lv_icmp_lt (tgt := 16) hx hb dX12_isDigit_3 (by decide) (fun c9 => ?_) (fun c9 => ?_)
  · replace h := (br h).1 c9
    refine lv_iconst (v := 0) hx hb dX12_isDigit_16 (by decide) ?_
    exact retZ (fr := fun q => q) (fw := fun _ => w) h hx hb hr narZ0 hlocks hK hP hD hS dX12_isDigit_17
  · replace h := (br h).2 c9
    refine lv_iload_n hx hb dX12_isDigit_6 rfl (lv_at hl 0 rfl) ?_
    refine lv_bipush (v := 57) hx hb dX12_isDigit_7 (by decide) ?_
    refine lv_icmp_gt (tgt := 16) hx hb dX12_isDigit_9 (by decide) (fun c9 => ?_) (fun c9 => ?_)
    · replace h := (br h).1 c9
      refine lv_iconst (v := 0) hx hb dX12_isDigit_16 (by decide) ?_
      exact retZ (fr := fun q => q) (fw := fun _ => w) h hx hb hr narZ0 hlocks hK hP hD hS dX12_isDigit_17
    · replace h := (br h).2 c9
      refine lv_iconst (v := 1) hx hb dX12_isDigit_12 (by decide) ?_
      refine lv_goto (tgt := 17) hx hb dX12_isDigit_13 (by decide) ?_
      exact retZ (fr := fun q => q) (fw := fun _ => w) h hx hb hr narZ1 hlocks hK hP hD hS dX12_isDigit_17
theorem hd_X12_is : yX12_is.cls = RX12 ∧ yX12_is.cls ≠ "java/lang/invoke/MethodHandle" ∧ yX12_is.cls ≠ "java/lang/invoke/VarHandle" ∧ (parseMethodDescriptor yX12_is.desc).map (fun d => d.parameters.length) = some 1 := ⟨rfl, by decide +kernel, by decide +kernel, by decide +kernel⟩
def f_X12_is (a1 : Int32) : Option (Int64) :=
  if a1 = 0 then some 0 else some 1
set_option maxHeartbeats 4000000 in
set_option maxRecDepth 100000 in
theorem k_X12_is (l : Launch) (G : va_G) (cy : Nat → ClassId) (ev : Nat → Nat) (w : va_W)  (a1 : Int32) (res : Int64) (h : f_X12_is a1 = some res) : MetL l yX12_is cX12_is 1 (some .long) 0 0 G cy ev [.int a1] (w) res (w) := by
  refine MetQ.start (by decide +kernel) (Nat.le_of_ble_eq_true rfl) (fun p e s m args below meth c A ls hx hb hr hml hown hts hlocks hK hP hD hA hl hE => ?_)
  have hS : va_S A s.heap s.heap [] := va_S.rf
  have hown : s.vm.findClass RX12 = some m.cls := hown
  have hl : lv_has ls 1 [(0, .int a1)] := hl
  delta f_X12_is at h
  refine lv_iload_n hx hb dX12_is_0 rfl (lv_at hl 0 rfl) ?_
  refine lv_if_eq (tgt := 8) hx hb dX12_is_1 (by decide) (fun c9 => ?_) (fun c9 => ?_)
  · replace h := (br h).1 c9
    refine lv_lconst (v := 0) hx hb dX12_is_8 (by decide) ?_
    exact retL (fr := fun q => q) (fw := fun _ => w) h hx hb hr hlocks hK hP hD hS dX12_is_9
  · replace h := (br h).2 c9
    refine lv_lconst (v := 1) hx hb dX12_is_4 (by decide) ?_
    refine lv_goto (tgt := 9) hx hb dX12_is_5 (by decide) ?_
    exact retL (fr := fun q => q) (fw := fun _ => w) h hx hb hr hlocks hK hP hD hS dX12_is_9
theorem hd_X12_wrong : yX12_wrong.cls = RX12 ∧ yX12_wrong.cls ≠ "java/lang/invoke/MethodHandle" ∧ yX12_wrong.cls ≠ "java/lang/invoke/VarHandle" ∧ (parseMethodDescriptor yX12_wrong.desc).map (fun d => d.parameters.length) = some 1 := ⟨rfl, by decide +kernel, by decide +kernel, by decide +kernel⟩
def f_X12_wrong (v : VV) (a1 : Int32) : Option (VV) :=
  if v.1 23 = 0 then some (si (si v 23 a1) 24 (v.1 20)) else some v
set_option maxHeartbeats 4000000 in
set_option maxRecDepth 100000 in
theorem k_X12_wrong (l : Launch) (G : va_G) (cy : Nat → ClassId) (ev : Nat → Nat) (ad : Nat → Nat) (v : VV) (a1 : Int32) (res : VV) (h : f_X12_wrong v a1 = some res) : MetV l yX12_wrong cX12_wrong 2 none 0 0 G cy ev [.ref (ad 0), .int a1] (cX12 cy ad v) (cX12 cy ad res) := by
  refine MetQ.start (by decide +kernel) (Nat.le_of_ble_eq_true rfl) (fun p e s m args below meth c A ls hx hb hr hml hown hts hlocks hK hP hD hA hl hE => ?_)
  have hS : va_S A s.heap s.heap [] := va_S.rf
  have hown : s.vm.findClass RX12 = some m.cls := hown
  have hl : lv_has ls 2 [(0, .ref (ad 0)), (1, .int a1)] := hl
  delta f_X12_wrong at h
  refine lv_aload_n hx hb dX12_wrong_0 rfl (lv_at hl 0 rfl) ?_
  refine gf_X12_23 (x := v.1 23) hx hb hts hown hK hP rfl dX12_wrong_1 ?_
  refine lv_if_eq (tgt := 8) hx hb dX12_wrong_4 (by decide) (fun c9 => ?_) (fun c9 => ?_)
  · replace h := (br h).1 c9
    refine lv_aload_n hx hb dX12_wrong_8 rfl (lv_at hl 0 rfl) ?_
    refine lv_iload_n hx hb dX12_wrong_9 rfl (lv_at hl 1 rfl) ?_
    refine pf_X12_23 hx hb hts hown hK hP hD hS dX12_wrong_10 (fun H locs hP hD hS => ?_)
    refine lv_aload_n hx hb dX12_wrong_13 rfl (lv_at hl 0 rfl) ?_
    refine lv_aload_n hx hb dX12_wrong_14 rfl (lv_at hl 0 rfl) ?_
    refine gf_X12_20 (x := v.1 20) hx hb hts hown hK hP rfl dX12_wrong_15 ?_
    refine pf_X12_24 hx hb hts hown hK hP hD hS dX12_wrong_18 (fun H locs hP hD hS => ?_)
    exact retV (fw := fun q => cX12 cy ad q) h hx hb hr hlocks hK hP hD hS dX12_wrong_21
  · replace h := (br h).2 c9
    exact retV (fw := fun q => cX12 cy ad q) h hx hb hr hlocks hK hP hD hS dX12_wrong_7
theorem hd_X12_isWord : yX12_isWord.cls = RX12 ∧ yX12_isWord.cls ≠ "java/lang/invoke/MethodHandle" ∧ yX12_isWord.cls ≠ "java/lang/invoke/VarHandle" ∧ (parseMethodDescriptor yX12_isWord.desc).map (fun d => d.parameters.length) = some 1 := ⟨rfl, by decide +kernel, by decide +kernel, by decide +kernel⟩
def f_X12_isWord (v : VV) (a1 : Int32) : Option (Int32) :=
  if v.1 23 = 0 then if v.1 21 = 0 then if v.1 22 = a1 then some 1 else some 0 else some 0 else some 0
set_option maxHeartbeats 4000000 in
set_option maxRecDepth 100000 in
theorem k_X12_isWord (l : Launch) (G : va_G) (cy : Nat → ClassId) (ev : Nat → Nat) (ad : Nat → Nat) (v : VV) (a1 : Int32) (res : Int32) (h : f_X12_isWord v a1 = some res) : MetI l yX12_isWord cX12_isWord 2 (some .boolean) 0 0 G cy ev [.ref (ad 0), .int a1] (cX12 cy ad v) res (cX12 cy ad v) := by
  refine MetQ.start (by decide +kernel) (Nat.le_of_ble_eq_true rfl) (fun p e s m args below meth c A ls hx hb hr hml hown hts hlocks hK hP hD hA hl hE => ?_)
  have hS : va_S A s.heap s.heap [] := va_S.rf
  have hown : s.vm.findClass RX12 = some m.cls := hown
  have hl : lv_has ls 2 [(0, .ref (ad 0)), (1, .int a1)] := hl
  delta f_X12_isWord at h
  refine lv_aload_n hx hb dX12_isWord_0 rfl (lv_at hl 0 rfl) ?_
  refine gf_X12_23 (x := v.1 23) hx hb hts hown hK hP rfl dX12_isWord_1 ?_
  refine lv_if_ne (tgt := 26) hx hb dX12_isWord_4 (by decide) (fun c9 => ?_) (fun c9 => ?_)
  · replace h := (br h).2 c9
    refine lv_iconst (v := 0) hx hb dX12_isWord_26 (by decide) ?_
    exact retZ (fr := fun q => q) (fw := fun _ => cX12 cy ad v) h hx hb hr narZ0 hlocks hK hP hD hS dX12_isWord_27
  · replace h := (br h).1 c9
    refine lv_aload_n hx hb dX12_isWord_7 rfl (lv_at hl 0 rfl) ?_
    refine gf_X12_21 (x := v.1 21) hx hb hts hown hK hP rfl dX12_isWord_8 ?_
    refine lv_if_ne (tgt := 26) hx hb dX12_isWord_11 (by decide) (fun c9 => ?_) (fun c9 => ?_)
    · replace h := (br h).2 c9
      refine lv_iconst (v := 0) hx hb dX12_isWord_26 (by decide) ?_
      exact retZ (fr := fun q => q) (fw := fun _ => cX12 cy ad v) h hx hb hr narZ0 hlocks hK hP hD hS dX12_isWord_27
    · replace h := (br h).1 c9
      refine lv_aload_n hx hb dX12_isWord_14 rfl (lv_at hl 0 rfl) ?_
      refine gf_X12_22 (x := v.1 22) hx hb hts hown hK hP rfl dX12_isWord_15 ?_
      refine lv_iload_n hx hb dX12_isWord_18 rfl (lv_at hl 1 rfl) ?_
      refine lv_icmp_ne (tgt := 26) hx hb dX12_isWord_19 (by decide) (fun c9 => ?_) (fun c9 => ?_)
      · replace h := (br h).2 c9
        refine lv_iconst (v := 0) hx hb dX12_isWord_26 (by decide) ?_
        exact retZ (fr := fun q => q) (fw := fun _ => cX12 cy ad v) h hx hb hr narZ0 hlocks hK hP hD hS dX12_isWord_27
      · replace h := (br h).1 c9
        refine lv_iconst (v := 1) hx hb dX12_isWord_22 (by decide) ?_
        refine lv_goto (tgt := 27) hx hb dX12_isWord_23 (by decide) ?_
        exact retZ (fr := fun q => q) (fw := fun _ => cX12 cy ad v) h hx hb hr narZ1 hlocks hK hP hD hS dX12_isWord_27
theorem hd_X12_isSign : yX12_isSign.cls = RX12 ∧ yX12_isSign.cls ≠ "java/lang/invoke/MethodHandle" ∧ yX12_isSign.cls ≠ "java/lang/invoke/VarHandle" ∧ (parseMethodDescriptor yX12_isSign.desc).map (fun d => d.parameters.length) = some 1 := ⟨rfl, by decide +kernel, by decide +kernel, by decide +kernel⟩
def f_X12_isSign (v : VV) (a1 : Int32) : Option (Int32) :=
  if v.1 23 = 0 then if v.1 21 = 3 then if v.1 22 = a1 then some 1 else some 0 else some 0 else some 0
set_option maxHeartbeats 4000000 in
set_option maxRecDepth 100000 in
theorem k_X12_isSign (l : Launch) (G : va_G) (cy : Nat → ClassId) (ev : Nat → Nat) (ad : Nat → Nat) (v : VV) (a1 : Int32) (res : Int32) (h : f_X12_isSign v a1 = some res) : MetI l yX12_isSign cX12_isSign 2 (some .boolean) 0 0 G cy ev [.ref (ad 0), .int a1] (cX12 cy ad v) res (cX12 cy ad v) := by
  refine MetQ.start (by decide +kernel) (Nat.le_of_ble_eq_true rfl) (fun p e s m args below meth c A ls hx hb hr hml hown hts hlocks hK hP hD hA hl hE => ?_)
  have hS : va_S A s.heap s.heap [] := va_S.rf
  have hown : s.vm.findClass RX12 = some m.cls := hown
  have hl : lv_has ls 2 [(0, .ref (ad 0)), (1, .int a1)] := hl
  delta f_X12_isSign at h
  refine lv_aload_n hx hb dX12_isSign_0 rfl (lv_at hl 0 rfl) ?_
  refine gf_X12_23 (x := v.1 23) hx hb hts hown hK hP rfl dX12_isSign_1 ?_
  refine lv_if_ne (tgt := 27) hx hb dX12_isSign_4 (by decide) (fun c9 => ?_) (fun c9 => ?_)
  · replace h := (br h).2 c9
    refine lv_iconst (v := 0) hx hb dX12_isSign_27 (by decide) ?_
    exact retZ (fr := fun q => q) (fw := fun _ => cX12 cy ad v) h hx hb hr narZ0 hlocks hK hP hD hS dX12_isSign_28
  · replace h := (br h).1 c9
    refine lv_aload_n hx hb dX12_isSign_7 rfl (lv_at hl 0 rfl) ?_
    refine gf_X12_21 (x := v.1 21) hx hb hts hown hK hP rfl dX12_isSign_8 ?_
    refine lv_iconst (v := 3) hx hb dX12_isSign_11 (by decide) ?_
    refine lv_icmp_ne (tgt := 27) hx hb dX12_isSign_12 (by decide) (fun c9 => ?_) (fun c9 => ?_)
    · replace h := (br h).2 c9
      refine lv_iconst (v := 0) hx hb dX12_isSign_27 (by decide) ?_
      exact retZ (fr := fun q => q) (fw := fun _ => cX12 cy ad v) h hx hb hr narZ0 hlocks hK hP hD hS dX12_isSign_28
    · replace h := (br h).1 c9
      refine lv_aload_n hx hb dX12_isSign_15 rfl (lv_at hl 0 rfl) ?_
      refine gf_X12_22 (x := v.1 22) hx hb hts hown hK hP rfl dX12_isSign_16 ?_
      refine lv_iload_n hx hb dX12_isSign_19 rfl (lv_at hl 1 rfl) ?_
      refine lv_icmp_ne (tgt := 27) hx hb dX12_isSign_20 (by decide) (fun c9 => ?_) (fun c9 => ?_)
      · replace h := (br h).2 c9
        refine lv_iconst (v := 0) hx hb dX12_isSign_27 (by decide) ?_
        exact retZ (fr := fun q => q) (fw := fun _ => cX12 cy ad v) h hx hb hr narZ0 hlocks hK hP hD hS dX12_isSign_28
      · replace h := (br h).1 c9
        refine lv_iconst (v := 1) hx hb dX12_isSign_23 (by decide) ?_
        refine lv_goto (tgt := 28) hx hb dX12_isSign_24 (by decide) ?_
        exact retZ (fr := fun q => q) (fw := fun _ => cX12 cy ad v) h hx hb hr narZ1 hlocks hK hP hD hS dX12_isSign_28
theorem hd_X12_fresher : yX12_fresher.cls = RX12 ∧ yX12_fresher.cls ≠ "java/lang/invoke/MethodHandle" ∧ yX12_fresher.cls ≠ "java/lang/invoke/VarHandle" ∧ (parseMethodDescriptor yX12_fresher.desc).map (fun d => d.parameters.length) = some 1 := ⟨rfl, by decide +kernel, by decide +kernel, by decide +kernel⟩
def f_X12_fresher (v : VV) (a1 : Int32) : Option (Int32) :=
  gin (9 + a1) 18 (some (v.2.1 3 ((9 + a1).toNatClampNeg)))
set_option maxHeartbeats 4000000 in
set_option maxRecDepth 100000 in
theorem k_X12_fresher (l : Launch) (G : va_G) (cy : Nat → ClassId) (ev : Nat → Nat) (ad : Nat → Nat) (v : VV) (a1 : Int32) (res : Int32) (h : f_X12_fresher v a1 = some res) : MetI l yX12_fresher cX12_fresher 2 (some .int) 0 0 G cy ev [.ref (ad 0), .int a1] (cX12 cy ad v) res (cX12 cy ad v) := by
  refine MetQ.start (by decide +kernel) (Nat.le_of_ble_eq_true rfl) (fun p e s m args below meth c A ls hx hb hr hml hown hts hlocks hK hP hD hA hl hE => ?_)
  have hS : va_S A s.heap s.heap [] := va_S.rf
  have hown : s.vm.findClass RX12 = some m.cls := hown
  have hl : lv_has ls 2 [(0, .ref (ad 0)), (1, .int a1)] := hl
  delta f_X12_fresher at h
  refine lv_aload_n hx hb dX12_fresher_0 rfl (lv_at hl 0 rfl) ?_
  refine gf_X12_3 hx hb hts hown hK hP dX12_fresher_1 ?_
  refine lv_bipush (v := 9) hx hb dX12_fresher_4 (by decide) ?_
  refine lv_iload_n hx hb dX12_fresher_6 rfl (lv_at hl 1 rfl) ?_
  refine lv_iadd hx hb dX12_fresher_7 ?_
  replace h := gin_inv h
  obtain ⟨h9, h⟩ := h
  refine ld_X12_3 (f := v.2.1 3) (j := (9 + a1).toNatClampNeg) hx hb hK hP rfl h9 rfl dX12_fresher_8 ?_
  exact retI (fr := fun q => q) (fw := fun _ => cX12 cy ad v) h hx hb hr hlocks hK hP hD hS dX12_fresher_9
theorem hd_X12_reads : yX12_reads.cls = RX12 ∧ yX12_reads.cls ≠ "java/lang/invoke/MethodHandle" ∧ yX12_reads.cls ≠ "java/lang/invoke/VarHandle" ∧ (parseMethodDescriptor yX12_reads.desc).map (fun d => d.parameters.length) = some 2 := ⟨rfl, by decide +kernel, by decide +kernel, by decide +kernel⟩
def f_X12_reads (v : VV) (a1 : Int32) (a2 : Int32) : Option (VV) :=
  gin (9 + a1) 18 (some (sr v 3 ((9 + a1).toNatClampNeg) a2))
set_option maxHeartbeats 4000000 in
set_option maxRecDepth 100000 in
theorem k_X12_reads (l : Launch) (G : va_G) (cy : Nat → ClassId) (ev : Nat → Nat) (ad : Nat → Nat) (v : VV) (a1 : Int32) (a2 : Int32) (res : VV) (h : f_X12_reads v a1 a2 = some res) : MetV l yX12_reads cX12_reads 3 none 0 0 G cy ev [.ref (ad 0), .int a1, .int a2] (cX12 cy ad v) (cX12 cy ad res) := by
  refine MetQ.start (by decide +kernel) (Nat.le_of_ble_eq_true rfl) (fun p e s m args below meth c A ls hx hb hr hml hown hts hlocks hK hP hD hA hl hE => ?_)
  have hS : va_S A s.heap s.heap [] := va_S.rf
  have hown : s.vm.findClass RX12 = some m.cls := hown
  have hl : lv_has ls 3 [(0, .ref (ad 0)), (1, .int a1), (2, .int a2)] := hl
  delta f_X12_reads at h
  refine lv_aload_n hx hb dX12_reads_0 rfl (lv_at hl 0 rfl) ?_
  refine gf_X12_3 hx hb hts hown hK hP dX12_reads_1 ?_
  refine lv_bipush (v := 9) hx hb dX12_reads_4 (by decide) ?_
  refine lv_iload_n hx hb dX12_reads_6 rfl (lv_at hl 1 rfl) ?_
  refine lv_iadd hx hb dX12_reads_7 ?_
  refine lv_iload_n hx hb dX12_reads_8 rfl (lv_at hl 2 rfl) ?_
  replace h := gin_inv h
  obtain ⟨h9, h⟩ := h
  refine st_X12_3 (j := (9 + a1).toNatClampNeg) hx hb hK hP hD hS h9 rfl dX12_reads_9 (fun H locs hP hD hS => ?_)
  exact retV (fw := fun q => cX12 cy ad q) h hx hb hr hlocks hK hP hD hS dX12_reads_10
theorem hd_X12_isParty : yX12_isParty.cls = RX12 ∧ yX12_isParty.cls ≠ "java/lang/invoke/MethodHandle" ∧ yX12_isParty.cls ≠ "java/lang/invoke/VarHandle" ∧ (parseMethodDescriptor yX12_isParty.desc).map (fun d => d.parameters.length) = some 1 := ⟨rfl, by decide +kernel, by decide +kernel, by decide +kernel⟩
def f_X12_isParty (v : VV) (a1 : Int32) : Option (Int32) :=
  if a1 < 0 then some 0 else if v.2.1 3 0 ≤ a1 then some 0 else some 1
set_option maxHeartbeats 4000000 in
set_option maxRecDepth 100000 in
theorem k_X12_isParty (l : Launch) (G : va_G) (cy : Nat → ClassId) (ev : Nat → Nat) (ad : Nat → Nat) (v : VV) (a1 : Int32) (res : Int32) (h : f_X12_isParty v a1 = some res) : MetI l yX12_isParty cX12_isParty 2 (some .boolean) 0 0 G cy ev [.ref (ad 0), .int a1] (cX12 cy ad v) res (cX12 cy ad v) := by
  refine MetQ.start (by decide +kernel) (Nat.le_of_ble_eq_true rfl) (fun p e s m args below meth c A ls hx hb hr hml hown hts hlocks hK hP hD hA hl hE => ?_)
  have hS : va_S A s.heap s.heap [] := va_S.rf
  have hown : s.vm.findClass RX12 = some m.cls := hown
  have hl : lv_has ls 2 [(0, .ref (ad 0)), (1, .int a1)] := hl
  delta f_X12_isParty at h
  refine lv_iload_n hx hb dX12_isParty_0 rfl (lv_at hl 1 rfl) ?_
  refine lv_if_lt (tgt := 18) hx hb dX12_isParty_1 (by decide) (fun c9 => ?_) (fun c9 => ?_)
  · replace h := (br h).1 c9
    refine lv_iconst (v := 0) hx hb dX12_isParty_18 (by decide) ?_
    exact retZ (fr := fun q => q) (fw := fun _ => cX12 cy ad v) h hx hb hr narZ0 hlocks hK hP hD hS dX12_isParty_19
  · replace h := (br h).2 c9
    refine lv_iload_n hx hb dX12_isParty_4 rfl (lv_at hl 1 rfl) ?_
    refine lv_aload_n hx hb dX12_isParty_5 rfl (lv_at hl 0 rfl) ?_
    refine gf_X12_3 hx hb hts hown hK hP dX12_isParty_6 ?_
    refine lv_iconst (v := 0) hx hb dX12_isParty_9 (by decide) ?_
    refine ld_X12_3 (f := v.2.1 3) (j := 0) hx hb hK hP rfl (vin_dec (by decide)) (by decide) dX12_isParty_10 ?_
    refine lv_icmp_ge (tgt := 18) hx hb dX12_isParty_11 (by decide) (fun c9 => ?_) (fun c9 => ?_)
    · replace h := (br h).1 c9
      refine lv_iconst (v := 0) hx hb dX12_isParty_18 (by decide) ?_
      exact retZ (fr := fun q => q) (fw := fun _ => cX12 cy ad v) h hx hb hr narZ0 hlocks hK hP hD hS dX12_isParty_19
    · replace h := (br h).2 c9
      refine lv_iconst (v := 1) hx hb dX12_isParty_14 (by decide) ?_
      refine lv_goto (tgt := 19) hx hb dX12_isParty_15 (by decide) ?_
      exact retZ (fr := fun q => q) (fw := fun _ => cX12 cy ad v) h hx hb hr narZ1 hlocks hK hP hD hS dX12_isParty_19
theorem hd_X12_isSitting : yX12_isSitting.cls = RX12 ∧ yX12_isSitting.cls ≠ "java/lang/invoke/MethodHandle" ∧ yX12_isSitting.cls ≠ "java/lang/invoke/VarHandle" ∧ (parseMethodDescriptor yX12_isSitting.desc).map (fun d => d.parameters.length) = some 1 := ⟨rfl, by decide +kernel, by decide +kernel, by decide +kernel⟩
def f_X12_isSitting (v : VV) (a1 : Int32) : Option (Int32) :=
  if a1 < 0 then some 0 else if v.2.1 3 2 ≤ a1 then some 0 else some 1
set_option maxHeartbeats 4000000 in
set_option maxRecDepth 100000 in
theorem k_X12_isSitting (l : Launch) (G : va_G) (cy : Nat → ClassId) (ev : Nat → Nat) (ad : Nat → Nat) (v : VV) (a1 : Int32) (res : Int32) (h : f_X12_isSitting v a1 = some res) : MetI l yX12_isSitting cX12_isSitting 2 (some .boolean) 0 0 G cy ev [.ref (ad 0), .int a1] (cX12 cy ad v) res (cX12 cy ad v) := by
  refine MetQ.start (by decide +kernel) (Nat.le_of_ble_eq_true rfl) (fun p e s m args below meth c A ls hx hb hr hml hown hts hlocks hK hP hD hA hl hE => ?_)
  have hS : va_S A s.heap s.heap [] := va_S.rf
  have hown : s.vm.findClass RX12 = some m.cls := hown
  have hl : lv_has ls 2 [(0, .ref (ad 0)), (1, .int a1)] := hl
  delta f_X12_isSitting at h
  refine lv_iload_n hx hb dX12_isSitting_0 rfl (lv_at hl 1 rfl) ?_
  refine lv_if_lt (tgt := 18) hx hb dX12_isSitting_1 (by decide) (fun c9 => ?_) (fun c9 => ?_)
  · replace h := (br h).1 c9
    refine lv_iconst (v := 0) hx hb dX12_isSitting_18 (by decide) ?_
    exact retZ (fr := fun q => q) (fw := fun _ => cX12 cy ad v) h hx hb hr narZ0 hlocks hK hP hD hS dX12_isSitting_19
  · replace h := (br h).2 c9
    refine lv_iload_n hx hb dX12_isSitting_4 rfl (lv_at hl 1 rfl) ?_
    refine lv_aload_n hx hb dX12_isSitting_5 rfl (lv_at hl 0 rfl) ?_
    refine gf_X12_3 hx hb hts hown hK hP dX12_isSitting_6 ?_
    refine lv_iconst (v := 2) hx hb dX12_isSitting_9 (by decide) ?_
    refine ld_X12_3 (f := v.2.1 3) (j := 2) hx hb hK hP rfl (vin_dec (by decide)) (by decide) dX12_isSitting_10 ?_
    refine lv_icmp_ge (tgt := 18) hx hb dX12_isSitting_11 (by decide) (fun c9 => ?_) (fun c9 => ?_)
    · replace h := (br h).1 c9
      refine lv_iconst (v := 0) hx hb dX12_isSitting_18 (by decide) ?_
      exact retZ (fr := fun q => q) (fw := fun _ => cX12 cy ad v) h hx hb hr narZ0 hlocks hK hP hD hS dX12_isSitting_19
    · replace h := (br h).2 c9
      refine lv_iconst (v := 1) hx hb dX12_isSitting_14 (by decide) ?_
      refine lv_goto (tgt := 19) hx hb dX12_isSitting_15 (by decide) ?_
      exact retZ (fr := fun q => q) (fw := fun _ => cX12 cy ad v) h hx hb hr narZ1 hlocks hK hP hD hS dX12_isSitting_19
theorem hd_X12_hasLaw : yX12_hasLaw.cls = RX12 ∧ yX12_hasLaw.cls ≠ "java/lang/invoke/MethodHandle" ∧ yX12_hasLaw.cls ≠ "java/lang/invoke/VarHandle" ∧ (parseMethodDescriptor yX12_hasLaw.desc).map (fun d => d.parameters.length) = some 1 := ⟨rfl, by decide +kernel, by decide +kernel, by decide +kernel⟩
def f_X12_hasLaw (v : VV) (a1 : Int32) : Option (Int32) :=
  gin a1 6 (gin a1 6 (if v.2.1 13 a1.toNatClampNeg ≤ v.2.1 12 a1.toNatClampNeg then some 0 else some 1))
set_option maxHeartbeats 4000000 in
set_option maxRecDepth 100000 in
theorem k_X12_hasLaw (l : Launch) (G : va_G) (cy : Nat → ClassId) (ev : Nat → Nat) (ad : Nat → Nat) (v : VV) (a1 : Int32) (res : Int32) (h : f_X12_hasLaw v a1 = some res) : MetI l yX12_hasLaw cX12_hasLaw 2 (some .boolean) 0 0 G cy ev [.ref (ad 0), .int a1] (cX12 cy ad v) res (cX12 cy ad v) := by
  refine MetQ.start (by decide +kernel) (Nat.le_of_ble_eq_true rfl) (fun p e s m args below meth c A ls hx hb hr hml hown hts hlocks hK hP hD hA hl hE => ?_)
  have hS : va_S A s.heap s.heap [] := va_S.rf
  have hown : s.vm.findClass RX12 = some m.cls := hown
  have hl : lv_has ls 2 [(0, .ref (ad 0)), (1, .int a1)] := hl
  delta f_X12_hasLaw at h
  refine lv_aload_n hx hb dX12_hasLaw_0 rfl (lv_at hl 0 rfl) ?_
  refine gf_X12_13 hx hb hts hown hK hP dX12_hasLaw_1 ?_
  refine lv_iload_n hx hb dX12_hasLaw_4 rfl (lv_at hl 1 rfl) ?_
  replace h := gin_inv h
  obtain ⟨h9, h⟩ := h
  refine ld_X12_13 (f := v.2.1 13) (j := a1.toNatClampNeg) hx hb hK hP rfl h9 rfl dX12_hasLaw_5 ?_
  refine lv_aload_n hx hb dX12_hasLaw_6 rfl (lv_at hl 0 rfl) ?_
  refine gf_X12_12 hx hb hts hown hK hP dX12_hasLaw_7 ?_
  refine lv_iload_n hx hb dX12_hasLaw_10 rfl (lv_at hl 1 rfl) ?_
  replace h := gin_inv h
  obtain ⟨h9, h⟩ := h
  refine ld_X12_12 (f := v.2.1 12) (j := a1.toNatClampNeg) hx hb hK hP rfl h9 rfl dX12_hasLaw_11 ?_
  refine lv_icmp_le (tgt := 19) hx hb dX12_hasLaw_12 (by decide) (fun c9 => ?_) (fun c9 => ?_)
  · replace h := (br h).1 c9
    refine lv_iconst (v := 0) hx hb dX12_hasLaw_19 (by decide) ?_
    exact retZ (fr := fun q => q) (fw := fun _ => cX12 cy ad v) h hx hb hr narZ0 hlocks hK hP hD hS dX12_hasLaw_20
  · replace h := (br h).2 c9
    refine lv_iconst (v := 1) hx hb dX12_hasLaw_15 (by decide) ?_
    refine lv_goto (tgt := 20) hx hb dX12_hasLaw_16 (by decide) ?_
    exact retZ (fr := fun q => q) (fw := fun _ => cX12 cy ad v) h hx hb hr narZ1 hlocks hK hP hD hS dX12_hasLaw_20
theorem hd_X12_puts : yX12_puts.cls = RX12 ∧ yX12_puts.cls ≠ "java/lang/invoke/MethodHandle" ∧ yX12_puts.cls ≠ "java/lang/invoke/VarHandle" ∧ (parseMethodDescriptor yX12_puts.desc).map (fun d => d.parameters.length) = some 2 := ⟨rfl, by decide +kernel, by decide +kernel, by decide +kernel⟩
def f_X12_puts (v : VV) (a1 : Int32) (a2 : Int32) : Option (VV) :=
  if v.1 23 = 0 then bnd (f_X12_fresher v 8) (fun q1 => gin (64 + q1) 128 (bnd (f_X12_fresher (sr v 14 ((64 + q1).toNatClampNeg) a1) 8) (fun q3 => gin (64 + q3) 128 (bnd (f_X12_fresher (sr (sr v 14 ((64 + q1).toNatClampNeg) a1) 15 ((64 + q3).toNatClampNeg) a2) 8) (fun q5 => bnd (f_X12_reads (sr (sr v 14 ((64 + q1).toNatClampNeg) a1) 15 ((64 + q3).toNatClampNeg) a2) 8 (q5 + 1)) (fun q7 => some q7)))))) else some v
set_option maxHeartbeats 4000000 in
set_option maxRecDepth 100000 in
theorem k_X12_puts (l : Launch) (G : va_G) (cy : Nat → ClassId) (ev : Nat → Nat) (ad : Nat → Nat) (v : VV) (a1 : Int32) (a2 : Int32) (res : VV) (h : f_X12_puts v a1 a2 = some res) : MetV l yX12_puts cX12_puts 3 none 1 22 G cy ev [.ref (ad 0), .int a1, .int a2] (cX12 cy ad v) (cX12 cy ad res) := by
  refine MetQ.start (by decide +kernel) (Nat.le_of_ble_eq_true rfl) (fun p e s m args below meth c A ls hx hb hr hml hown hts hlocks hK hP hD hA hl hE => ?_)
  have hS : va_S A s.heap s.heap [] := va_S.rf
  have hown : s.vm.findClass RX12 = some m.cls := hown
  have hl : lv_has ls 3 [(0, .ref (ad 0)), (1, .int a1), (2, .int a2)] := hl
  delta f_X12_puts at h
  refine lv_aload_n hx hb dX12_puts_0 rfl (lv_at hl 0 rfl) ?_
  refine gf_X12_23 (x := v.1 23) hx hb hts hown hK hP rfl dX12_puts_1 ?_
  refine lv_if_eq (tgt := 8) hx hb dX12_puts_4 (by decide) (fun c9 => ?_) (fun c9 => ?_)
  · replace h := (br h).1 c9
    refine lv_aload_n hx hb dX12_puts_8 rfl (lv_at hl 0 rfl) ?_
    refine gf_X12_14 hx hb hts hown hK hP dX12_puts_9 ?_
    refine lv_bipush (v := 64) hx hb dX12_puts_12 (by decide) ?_
    refine lv_aload_n hx hb dX12_puts_14 rfl (lv_at hl 0 rfl) ?_
    refine lv_bipush (v := 8) hx hb dX12_puts_15 (by decide) ?_
    replace h := bd h
    obtain ⟨q1, h2, h⟩ := h
    refine callVi0 (As := [.int 8]) (rest := [.int 64, .ref (ad 15)]) hx hb hml hown hts (k_X12_fresher l G cy ev ad v 8 q1 h2) wm_22_6 wm_22_7 wm_22_8 wm_1_5 wm_22_9 hd_X12_fresher ⟨by decide, by decide⟩ hK hP hD hS hA hE (va_recv hK hP (ci := 12) (q0 := 0) rfl rfl) rfl rfl hl.1 (Nat.le_of_ble_eq_true rfl) dX12_puts_17 (fun H locs hP hD hS => ?_)
    refine lv_iadd hx hb dX12_puts_20 ?_
    refine lv_iload_n hx hb dX12_puts_21 rfl (lv_at hl 1 rfl) ?_
    replace h := gin_inv h
    obtain ⟨h9, h⟩ := h
    refine st_X12_14 (j := (64 + q1).toNatClampNeg) hx hb hK hP hD hS h9 rfl dX12_puts_22 (fun H locs hP hD hS => ?_)
    refine lv_aload_n hx hb dX12_puts_23 rfl (lv_at hl 0 rfl) ?_
    refine gf_X12_15 hx hb hts hown hK hP dX12_puts_24 ?_
    refine lv_bipush (v := 64) hx hb dX12_puts_27 (by decide) ?_
    refine lv_aload_n hx hb dX12_puts_29 rfl (lv_at hl 0 rfl) ?_
    refine lv_bipush (v := 8) hx hb dX12_puts_30 (by decide) ?_
    replace h := bd h
    obtain ⟨q3, h4, h⟩ := h
    refine callVi0 (As := [.int 8]) (rest := [.int 64, .ref (ad 16)]) hx hb hml hown hts (k_X12_fresher l G cy ev ad (sr v 14 ((64 + q1).toNatClampNeg) a1) 8 q3 h4) wm_22_6 wm_22_7 wm_22_8 wm_1_5 wm_22_9 hd_X12_fresher ⟨by decide, by decide⟩ hK hP hD hS hA hE (va_recv hK hP (ci := 12) (q0 := 0) rfl rfl) rfl rfl hl.1 (Nat.le_of_ble_eq_true rfl) dX12_puts_32 (fun H locs hP hD hS => ?_)
    refine lv_iadd hx hb dX12_puts_35 ?_
    refine lv_iload_n hx hb dX12_puts_36 rfl (lv_at hl 2 rfl) ?_
    replace h := gin_inv h
    obtain ⟨h9, h⟩ := h
    refine st_X12_15 (j := (64 + q3).toNatClampNeg) hx hb hK hP hD hS h9 rfl dX12_puts_37 (fun H locs hP hD hS => ?_)
    refine lv_aload_n hx hb dX12_puts_38 rfl (lv_at hl 0 rfl) ?_
    refine lv_bipush (v := 8) hx hb dX12_puts_39 (by decide) ?_
    refine lv_aload_n hx hb dX12_puts_41 rfl (lv_at hl 0 rfl) ?_
    refine lv_bipush (v := 8) hx hb dX12_puts_42 (by decide) ?_
    replace h := bd h
    obtain ⟨q5, h6, h⟩ := h
    refine callVi0 (As := [.int 8]) (rest := [.int 8, .ref (ad 0)]) hx hb hml hown hts (k_X12_fresher l G cy ev ad (sr (sr v 14 ((64 + q1).toNatClampNeg) a1) 15 ((64 + q3).toNatClampNeg) a2) 8 q5 h6) wm_22_6 wm_22_7 wm_22_8 wm_1_5 wm_22_9 hd_X12_fresher ⟨by decide, by decide⟩ hK hP hD hS hA hE (va_recv hK hP (ci := 12) (q0 := 0) rfl rfl) rfl rfl hl.1 (Nat.le_of_ble_eq_true rfl) dX12_puts_44 (fun H locs hP hD hS => ?_)
    refine lv_iconst (v := 1) hx hb dX12_puts_47 (by decide) ?_
    refine lv_iadd hx hb dX12_puts_48 ?_
    replace h := bd h
    obtain ⟨q7, h8, h⟩ := h
    refine callVv0 (As := [.int 8, .int (q5 + 1)]) (rest := []) hx hb hml hown hts (k_X12_reads l G cy ev ad (sr (sr v 14 ((64 + q1).toNatClampNeg) a1) 15 ((64 + q3).toNatClampNeg) a2) 8 (q5 + 1) q7 h8) wm_20_11 wm_20_12 wm_20_13 wm_1_5 wm_20_14 hd_X12_reads ⟨by decide, by decide⟩ hK hP hD hS hA hE (va_recv hK hP (ci := 12) (q0 := 0) rfl rfl) rfl rfl hl.1 (Nat.le_of_ble_eq_true rfl) dX12_puts_49 (fun H locs hP hD hS => ?_)
    exact retV (fw := fun q => cX12 cy ad q) h hx hb hr hlocks hK hP hD hS dX12_puts_52
  · replace h := (br h).2 c9
    exact retV (fw := fun q => cX12 cy ad q) h hx hb hr hlocks hK hP hD hS dX12_puts_7
theorem hd_X12_knot : yX12_knot.cls = RX12 ∧ yX12_knot.cls ≠ "java/lang/invoke/MethodHandle" ∧ yX12_knot.cls ≠ "java/lang/invoke/VarHandle" ∧ (parseMethodDescriptor yX12_knot.desc).map (fun d => d.parameters.length) = some 0 := ⟨rfl, by decide +kernel, by decide +kernel, by decide +kernel⟩
def f_X12_knot (v : VV) : Option (VV) :=
  if v.1 23 = 0 then if v.1 28 = 64 then bnd (f_X12_wrong v 2) (fun q1 => some q1) else some (si v 28 ((v.1 28) + 1)) else some v
set_option maxHeartbeats 4000000 in
set_option maxRecDepth 100000 in
theorem k_X12_knot (l : Launch) (G : va_G) (cy : Nat → ClassId) (ev : Nat → Nat) (ad : Nat → Nat) (v : VV)  (res : VV) (h : f_X12_knot v = some res) : MetV l yX12_knot cX12_knot 1 none 1 21 G cy ev [.ref (ad 0)] (cX12 cy ad v) (cX12 cy ad res) := by
  refine MetQ.start (by decide +kernel) (Nat.le_of_ble_eq_true rfl) (fun p e s m args below meth c A ls hx hb hr hml hown hts hlocks hK hP hD hA hl hE => ?_)
  have hS : va_S A s.heap s.heap [] := va_S.rf
  have hown : s.vm.findClass RX12 = some m.cls := hown
  have hl : lv_has ls 1 [(0, .ref (ad 0))] := hl
  delta f_X12_knot at h
  refine lv_aload_n hx hb dX12_knot_0 rfl (lv_at hl 0 rfl) ?_
  refine gf_X12_23 (x := v.1 23) hx hb hts hown hK hP rfl dX12_knot_1 ?_
  refine lv_if_eq (tgt := 8) hx hb dX12_knot_4 (by decide) (fun c9 => ?_) (fun c9 => ?_)
  · replace h := (br h).1 c9
    refine lv_aload_n hx hb dX12_knot_8 rfl (lv_at hl 0 rfl) ?_
    refine gf_X12_28 (x := v.1 28) hx hb hts hown hK hP rfl dX12_knot_9 ?_
    refine lv_bipush (v := 64) hx hb dX12_knot_12 (by decide) ?_
    refine lv_icmp_ne (tgt := 25) hx hb dX12_knot_14 (by decide) (fun c9 => ?_) (fun c9 => ?_)
    · replace h := (br h).2 c9
      refine lv_aload_n hx hb dX12_knot_25 rfl (lv_at hl 0 rfl) ?_
      refine lv_dup hx hb dX12_knot_26 rfl ?_
      refine gf_X12_28 (x := v.1 28) hx hb hts hown hK hP rfl dX12_knot_27 ?_
      refine lv_iconst (v := 1) hx hb dX12_knot_30 (by decide) ?_
      refine lv_iadd hx hb dX12_knot_31 ?_
      refine pf_X12_28 hx hb hts hown hK hP hD hS dX12_knot_32 (fun H locs hP hD hS => ?_)
      exact retV (fw := fun q => cX12 cy ad q) h hx hb hr hlocks hK hP hD hS dX12_knot_35
    · replace h := (br h).1 c9
      refine lv_aload_n hx hb dX12_knot_17 rfl (lv_at hl 0 rfl) ?_
      refine lv_iconst (v := 2) hx hb dX12_knot_18 (by decide) ?_
      replace h := bd h
      obtain ⟨q1, h2, h⟩ := h
      refine callVv0 (As := [.int 2]) (rest := []) hx hb hml hown hts (k_X12_wrong l G cy ev ad v 2 q1 h2) wm_22_2 wm_22_3 wm_22_4 wm_1_5 wm_22_5 hd_X12_wrong ⟨by decide, by decide⟩ hK hP hD hS hA hE (va_recv hK hP (ci := 12) (q0 := 0) rfl rfl) rfl rfl hl.1 (Nat.le_of_ble_eq_true rfl) dX12_knot_19 (fun H locs hP hD hS => ?_)
      refine lv_goto (tgt := 35) hx hb dX12_knot_22 (by decide) ?_
      exact retV (fw := fun q => cX12 cy ad q) h hx hb hr hlocks hK hP hD hS dX12_knot_35
  · replace h := (br h).2 c9
    exact retV (fw := fun q => cX12 cy ad q) h hx hb hr hlocks hK hP hD hS dX12_knot_7
theorem hd_X12_coffeeIn : yX12_coffeeIn.cls = RX12 ∧ yX12_coffeeIn.cls ≠ "java/lang/invoke/MethodHandle" ∧ yX12_coffeeIn.cls ≠ "java/lang/invoke/VarHandle" ∧ (parseMethodDescriptor yX12_coffeeIn.desc).map (fun d => d.parameters.length) = some 1 := ⟨rfl, by decide +kernel, by decide +kernel, by decide +kernel⟩
def f_X12_coffeeIn (v : VV) (a1 : Int32) : Option (Int32) :=
  if a1 = v.1 53 then gin a1 16 (some (jmin 99 ((v.2.1 8 a1.toNatClampNeg) + 20))) else gin a1 16 (some (v.2.1 8 a1.toNatClampNeg))
set_option maxHeartbeats 4000000 in
set_option maxRecDepth 100000 in
theorem k_X12_coffeeIn (l : Launch) (G : va_G) (cy : Nat → ClassId) (ev : Nat → Nat) (ad : Nat → Nat) (v : VV) (a1 : Int32) (res : Int32) (h : f_X12_coffeeIn v a1 = some res) : MetI l yX12_coffeeIn cX12_coffeeIn 2 (some .int) 1 24 G cy ev [.ref (ad 0), .int a1] (cX12 cy ad v) res (cX12 cy ad v) := by
  refine MetQ.start (by decide +kernel) (Nat.le_of_ble_eq_true rfl) (fun p e s m args below meth c A ls hx hb hr hml hown hts hlocks hK hP hD hA hl hE => ?_)
  have hS : va_S A s.heap s.heap [] := va_S.rf
  have hown : s.vm.findClass RX12 = some m.cls := hown
  have hl : lv_has ls 2 [(0, .ref (ad 0)), (1, .int a1)] := hl
  delta f_X12_coffeeIn at h
  refine lv_iload_n hx hb dX12_coffeeIn_0 rfl (lv_at hl 1 rfl) ?_
  refine lv_aload_n hx hb dX12_coffeeIn_1 rfl (lv_at hl 0 rfl) ?_
  refine gf_X12_53 (x := v.1 53) hx hb hts hown hK hP rfl dX12_coffeeIn_2 ?_
  refine lv_icmp_ne (tgt := 25) hx hb dX12_coffeeIn_5 (by decide) (fun c9 => ?_) (fun c9 => ?_)
  · replace h := (br h).2 c9
    refine lv_aload_n hx hb dX12_coffeeIn_25 rfl (lv_at hl 0 rfl) ?_
    refine gf_X12_8 hx hb hts hown hK hP dX12_coffeeIn_26 ?_
    refine lv_iload_n hx hb dX12_coffeeIn_29 rfl (lv_at hl 1 rfl) ?_
    replace h := gin_inv h
    obtain ⟨h9, h⟩ := h
    refine ld_X12_8 (f := v.2.1 8) (j := a1.toNatClampNeg) hx hb hK hP rfl h9 rfl dX12_coffeeIn_30 ?_
    exact retI (fr := fun q => q) (fw := fun _ => cX12 cy ad v) h hx hb hr hlocks hK hP hD hS dX12_coffeeIn_31
  · replace h := (br h).1 c9
    refine lv_bipush (v := 99) hx hb dX12_coffeeIn_8 (by decide) ?_
    refine lv_aload_n hx hb dX12_coffeeIn_10 rfl (lv_at hl 0 rfl) ?_
    refine gf_X12_8 hx hb hts hown hK hP dX12_coffeeIn_11 ?_
    refine lv_iload_n hx hb dX12_coffeeIn_14 rfl (lv_at hl 1 rfl) ?_
    replace h := gin_inv h
    obtain ⟨h9, h⟩ := h
    refine ld_X12_8 (f := v.2.1 8) (j := a1.toNatClampNeg) hx hb hK hP rfl h9 rfl dX12_coffeeIn_15 ?_
    refine lv_bipush (v := 20) hx hb dX12_coffeeIn_16 (by decide) ?_
    refine lv_iadd hx hb dX12_coffeeIn_18 ?_
    refine mmin hx hb (by rw [hml]; exact hl.1.symm) hown (hts _ wm_30_23) hts (by decide) (Nat.le_of_ble_eq_true rfl) dX12_coffeeIn_19 ?_
    refine lv_goto (tgt := 31) hx hb dX12_coffeeIn_22 (by decide) ?_
    exact retI (fr := fun q => q) (fw := fun _ => cX12 cy ad v) h hx hb hr hlocks hK hP hD hS dX12_coffeeIn_31
theorem hd_X12_seatsOf : yX12_seatsOf.cls = RX12 ∧ yX12_seatsOf.cls ≠ "java/lang/invoke/MethodHandle" ∧ yX12_seatsOf.cls ≠ "java/lang/invoke/VarHandle" ∧ (parseMethodDescriptor yX12_seatsOf.desc).map (fun d => d.parameters.length) = some 0 := ⟨rfl, by decide +kernel, by decide +kernel, by decide +kernel⟩
def f_X12_seatsOf_b19 (v : VV) (z0 : Int32) (z1 : Int32) : Option (Int32) :=
  some (z1 + z0)
def f_X12_seatsOf (v : VV) : Option (Int32) :=
  if v.1 50 = 3 then f_X12_seatsOf_b19 v 4 (v.2.1 3 1) else f_X12_seatsOf_b19 v 0 (v.2.1 3 1)
set_option maxHeartbeats 4000000 in
set_option maxRecDepth 100000 in
theorem k_X12_seatsOf (l : Launch) (G : va_G) (cy : Nat → ClassId) (ev : Nat → Nat) (ad : Nat → Nat) (v : VV)  (res : Int32) (h : f_X12_seatsOf v = some res) : MetI l yX12_seatsOf cX12_seatsOf 1 (some .int) 0 0 G cy ev [.ref (ad 0)] (cX12 cy ad v) res (cX12 cy ad v) := by
  refine MetQ.start (by decide +kernel) (Nat.le_of_ble_eq_true rfl) (fun p e s m args below meth c A ls hx hb hr hml hown hts hlocks hK hP hD hA hl hE => ?_)
  have hS : va_S A s.heap s.heap [] := va_S.rf
  have hown : s.vm.findClass RX12 = some m.cls := hown
  have hl : lv_has ls 1 [(0, .ref (ad 0))] := hl
  have B19 : ∀ (z0 : Int32) (z1 : Int32) (H : Heap) (locs : List Loc) (ls : Array Slot), f_X12_seatsOf_b19 v z0 z1 = some res → va_P G vwCl (cX12 cy ad v) H → va_D A (cX12 cy ad v) → va_S A s.heap H locs → lv_has ls 1 [] → W p l e (rmX 0 0) s m args below meth c H locs 0 0 (MQ below (mQi (res) G cy A (cX12 cy ad v)) args s 0 0 A) (F0 m 19 ls [.int z0, .int z1]) := by
    intro z0 z1 H locs ls h hP hD hS hl
    delta f_X12_seatsOf_b19 at h
    refine lv_iadd hx hb dX12_seatsOf_19 ?_
    exact retI (fr := fun q => q) (fw := fun _ => cX12 cy ad v) h hx hb hr hlocks hK hP hD hS dX12_seatsOf_20
  delta f_X12_seatsOf at h
  refine lv_aload_n hx hb dX12_seatsOf_0 rfl (lv_at hl 0 rfl) ?_
  refine gf_X12_3 hx hb hts hown hK hP dX12_seatsOf_1 ?_
  refine lv_iconst (v := 1) hx hb dX12_seatsOf_4 (by decide) ?_
  refine ld_X12_3 (f := v.2.1 3) (j := 1) hx hb hK hP rfl (vin_dec (by decide)) (by decide) dX12_seatsOf_5 ?_
  refine lv_aload_n hx hb dX12_seatsOf_6 rfl (lv_at hl 0 rfl) ?_
  refine gf_X12_50 (x := v.1 50) hx hb hts hown hK hP rfl dX12_seatsOf_7 ?_
  refine lv_iconst (v := 3) hx hb dX12_seatsOf_10 (by decide) ?_
  refine lv_icmp_ne (tgt := 18) hx hb dX12_seatsOf_11 (by decide) (fun c9 => ?_) (fun c9 => ?_)
  · replace h := (br h).2 c9
    refine lv_iconst (v := 0) hx hb dX12_seatsOf_18 (by decide) ?_
    exact B19 0 (v.2.1 3 1) _ _ _ h hP hD hS (lv_sub hl [] rfl)
  · replace h := (br h).1 c9
    refine lv_iconst (v := 4) hx hb dX12_seatsOf_14 (by decide) ?_
    refine lv_goto (tgt := 19) hx hb dX12_seatsOf_15 (by decide) ?_
    exact B19 4 (v.2.1 3 1) _ _ _ h hP hD hS (lv_sub hl [] rfl)
theorem hd_X12_handsOf : yX12_handsOf.cls = RX12 ∧ yX12_handsOf.cls ≠ "java/lang/invoke/MethodHandle" ∧ yX12_handsOf.cls ≠ "java/lang/invoke/VarHandle" ∧ (parseMethodDescriptor yX12_handsOf.desc).map (fun d => d.parameters.length) = some 0 := ⟨rfl, by decide +kernel, by decide +kernel, by decide +kernel⟩
def f_X12_handsOf (v : VV) : Option (Int32) :=
  if v.1 52 ≤ 0 then if v.1 50 = 5 then some 9 else some (v.2.1 3 5) else some (v.1 52)
set_option maxHeartbeats 4000000 in
set_option maxRecDepth 100000 in
theorem k_X12_handsOf (l : Launch) (G : va_G) (cy : Nat → ClassId) (ev : Nat → Nat) (ad : Nat → Nat) (v : VV)  (res : Int32) (h : f_X12_handsOf v = some res) : MetI l yX12_handsOf cX12_handsOf 1 (some .int) 0 0 G cy ev [.ref (ad 0)] (cX12 cy ad v) res (cX12 cy ad v) := by
  refine MetQ.start (by decide +kernel) (Nat.le_of_ble_eq_true rfl) (fun p e s m args below meth c A ls hx hb hr hml hown hts hlocks hK hP hD hA hl hE => ?_)
  have hS : va_S A s.heap s.heap [] := va_S.rf
  have hown : s.vm.findClass RX12 = some m.cls := hown
  have hl : lv_has ls 1 [(0, .ref (ad 0))] := hl
  delta f_X12_handsOf at h
  refine lv_aload_n hx hb dX12_handsOf_0 rfl (lv_at hl 0 rfl) ?_
  refine gf_X12_52 (x := v.1 52) hx hb hts hown hK hP rfl dX12_handsOf_1 ?_
  refine lv_if_le (tgt := 14) hx hb dX12_handsOf_4 (by decide) (fun c9 => ?_) (fun c9 => ?_)
  · replace h := (br h).1 c9
    refine lv_aload_n hx hb dX12_handsOf_14 rfl (lv_at hl 0 rfl) ?_
    refine gf_X12_50 (x := v.1 50) hx hb hts hown hK hP rfl dX12_handsOf_15 ?_
    refine lv_iconst (v := 5) hx hb dX12_handsOf_18 (by decide) ?_
    refine lv_icmp_ne (tgt := 27) hx hb dX12_handsOf_19 (by decide) (fun c9 => ?_) (fun c9 => ?_)
    · replace h := (br h).2 c9
      refine lv_aload_n hx hb dX12_handsOf_27 rfl (lv_at hl 0 rfl) ?_
      refine gf_X12_3 hx hb hts hown hK hP dX12_handsOf_28 ?_
      refine lv_iconst (v := 5) hx hb dX12_handsOf_31 (by decide) ?_
      refine ld_X12_3 (f := v.2.1 3) (j := 5) hx hb hK hP rfl (vin_dec (by decide)) (by decide) dX12_handsOf_32 ?_
      exact retI (fr := fun q => q) (fw := fun _ => cX12 cy ad v) h hx hb hr hlocks hK hP hD hS dX12_handsOf_33
    · replace h := (br h).1 c9
      refine lv_bipush (v := 9) hx hb dX12_handsOf_22 (by decide) ?_
      refine lv_goto (tgt := 33) hx hb dX12_handsOf_24 (by decide) ?_
      exact retI (fr := fun q => q) (fw := fun _ => cX12 cy ad v) h hx hb hr hlocks hK hP hD hS dX12_handsOf_33
  · replace h := (br h).2 c9
    refine lv_aload_n hx hb dX12_handsOf_7 rfl (lv_at hl 0 rfl) ?_
    refine gf_X12_52 (x := v.1 52) hx hb hts hown hK hP rfl dX12_handsOf_8 ?_
    refine lv_goto (tgt := 33) hx hb dX12_handsOf_11 (by decide) ?_
    exact retI (fr := fun q => q) (fw := fun _ => cX12 cy ad v) h hx hb hr hlocks hK hP hD hS dX12_handsOf_33
theorem hd_X12_fault : yX12_fault.cls = RX12 ∧ yX12_fault.cls ≠ "java/lang/invoke/MethodHandle" ∧ yX12_fault.cls ≠ "java/lang/invoke/VarHandle" ∧ (parseMethodDescriptor yX12_fault.desc).map (fun d => d.parameters.length) = some 1 := ⟨rfl, by decide +kernel, by decide +kernel, by decide +kernel⟩
def f_X12_fault (v : VV) (a1 : Int32) : Option (Int32 × VV) :=
  if a1 = 0 then some (v.1 25, si v 0 0) else if a1 = 1 then some (v.1 26, si v 0 0) else some ((-1), si v 0 0)
set_option maxHeartbeats 4000000 in
set_option maxRecDepth 100000 in
theorem k_X12_fault (l : Launch) (G : va_G) (cy : Nat → ClassId) (ev : Nat → Nat) (ad : Nat → Nat) (v : VV) (a1 : Int32) (res : Int32 × VV) (h : f_X12_fault v a1 = some res) : MetI l yX12_fault cX12_fault 2 (some .int) 0 0 G cy ev [.ref (ad 0), .int a1] (cX12 cy ad v) res.1 (cX12 cy ad res.2) := by
  refine MetQ.start (by decide +kernel) (Nat.le_of_ble_eq_true rfl) (fun p e s m args below meth c A ls hx hb hr hml hown hts hlocks hK hP hD hA hl hE => ?_)
  have hS : va_S A s.heap s.heap [] := va_S.rf
  have hown : s.vm.findClass RX12 = some m.cls := hown
  have hl : lv_has ls 2 [(0, .ref (ad 0)), (1, .int a1)] := hl
  delta f_X12_fault at h
  refine lv_aload_n hx hb dX12_fault_0 rfl (lv_at hl 0 rfl) ?_
  refine lv_iconst (v := 0) hx hb dX12_fault_1 (by decide) ?_
  refine pf_X12_0 hx hb hts hown hK hP hD hS dX12_fault_2 (fun H locs hP hD hS => ?_)
  refine lv_iload_n hx hb dX12_fault_5 rfl (lv_at hl 1 rfl) ?_
  refine lv_if_ne (tgt := 16) hx hb dX12_fault_6 (by decide) (fun c9 => ?_) (fun c9 => ?_)
  · replace h := (br h).2 c9
    refine lv_iload_n hx hb dX12_fault_16 rfl (lv_at hl 1 rfl) ?_
    refine lv_iconst (v := 1) hx hb dX12_fault_17 (by decide) ?_
    refine lv_icmp_ne (tgt := 28) hx hb dX12_fault_18 (by decide) (fun c9 => ?_) (fun c9 => ?_)
    · replace h := (br h).2 c9
      refine lv_iconst (v := (-1)) hx hb dX12_fault_28 (by decide) ?_
      exact retI (fr := fun q => q.1) (fw := fun q => cX12 cy ad q.2) h hx hb hr hlocks hK hP hD hS dX12_fault_29
    · replace h := (br h).1 c9
      refine lv_aload_n hx hb dX12_fault_21 rfl (lv_at hl 0 rfl) ?_
      refine gf_X12_26 (x := v.1 26) hx hb hts hown hK hP rfl dX12_fault_22 ?_
      refine lv_goto (tgt := 29) hx hb dX12_fault_25 (by decide) ?_
      exact retI (fr := fun q => q.1) (fw := fun q => cX12 cy ad q.2) h hx hb hr hlocks hK hP hD hS dX12_fault_29
  · replace h := (br h).1 c9
    refine lv_aload_n hx hb dX12_fault_9 rfl (lv_at hl 0 rfl) ?_
    refine gf_X12_25 (x := v.1 25) hx hb hts hown hK hP rfl dX12_fault_10 ?_
    refine lv_goto (tgt := 29) hx hb dX12_fault_13 (by decide) ?_
    exact retI (fr := fun q => q.1) (fw := fun q => cX12 cy ad q.2) h hx hb hr hlocks hK hP hD hS dX12_fault_29
theorem hd_X12_found : yX12_found.cls = RX12 ∧ yX12_found.cls ≠ "java/lang/invoke/MethodHandle" ∧ yX12_found.cls ≠ "java/lang/invoke/VarHandle" ∧ (parseMethodDescriptor yX12_found.desc).map (fun d => d.parameters.length) = some 4 := ⟨rfl, by decide +kernel, by decide +kernel, by decide +kernel⟩
def f_X12_found_s3 (N : Nat) (v : VV) (x1 : Int32) (x2 : Int32) (x3 : Int32) (x4 : Int32) : Option (((Int32) ⊕ (Int32))) :=
  if x2 ≤ x4 then inrO (some ((-1))) else gin (x1 + x4) 16 (if v.2.1 4 ((x1 + x4).toNatClampNeg) = x3 then inrO (some x4) else some (.inl (x4 + 1)))
def f_X12_found (N : Nat) (v : VV) (a2 : Int32) (a3 : Int32) (a4 : Int32) : Option (Int32) :=
  itr (fun q : Int32 => f_X12_found_s3 N v a2 a3 a4 q) N 0
set_option maxHeartbeats 4000000 in
set_option maxRecDepth 100000 in
theorem k_X12_found (l : Launch) (G : va_G) (cy : Nat → ClassId) (ev : Nat → Nat) (N : Nat) (ad : Nat → Nat) (v : VV) (a2 : Int32) (a3 : Int32) (a4 : Int32) (res : Int32) (h : f_X12_found N v a2 a3 a4 = some res) : MetI l yX12_found cX12_found 5 (some .int) 0 0 G cy ev [.ref (ad 5), .int a2, .int a3, .int a4] (cX12 cy ad v) res (cX12 cy ad v) := by
  refine MetQ.start (by decide +kernel) (Nat.le_of_ble_eq_true rfl) (fun p e s m args below meth c A ls hx hb hr hml hown hts hlocks hK hP hD hA hl hE => ?_)
  have hS : va_S A s.heap s.heap [] := va_S.rf
  have hown : s.vm.findClass RX12 = some m.cls := hown
  have hl : lv_has ls 5 [(0, .ref (ad 5)), (1, .int a2), (2, .int a3), (3, .int a4)] := hl
  have L3 : ∀ (x1 : Int32) (x2 : Int32) (x3 : Int32) (n : Nat) (x4 : Int32) (H : Heap) (locs : List Loc) (ls : Array Slot), itr (fun q : Int32 => f_X12_found_s3 N v x1 x2 x3 q) n x4 = some res → va_P G vwCl (cX12 cy ad v) H → va_D A (cX12 cy ad v) → va_S A s.heap H locs → lv_has ls 5 [(0, .ref (ad 5)), (1, .int x1), (2, .int x2), (3, .int x3), (4, .int x4)] → W p l e (rmX 0 0) s m args below meth c H locs 0 0 (MQ below (mQi (res) G cy A (cX12 cy ad v)) args s 0 0 A) (F0 m 3 ls []) := by
    intro x1 x2 x3 n
    induction n with
    | zero => intro x4 H locs ls h; exact (itr_zero h).elim
    | succ n ih1 =>
      intro x4 H locs ls h hP hD hS hl
      obtain ⟨y1, h, hy1⟩ := itr_inv h
      have h : f_X12_found_s3 N v x1 x2 x3 x4 = some y1 := h
      delta f_X12_found_s3 at h
      refine lv_iload hx hb dX12_found_3 (lv_at hl 4 rfl) ?_
      refine lv_iload_n hx hb dX12_found_5 rfl (lv_at hl 2 rfl) ?_
      refine lv_icmp_ge (tgt := 28) hx hb dX12_found_6 (by decide) (fun c9 => ?_) (fun c9 => ?_)
      · replace h := (br h).1 c9
        replace h := itr_exit h hy1
        refine lv_iconst (v := (-1)) hx hb dX12_found_28 (by decide) ?_
        exact retI (fr := fun q => q) (fw := fun _ => cX12 cy ad v) h hx hb hr hlocks hK hP hD hS dX12_found_29
      · replace h := (br h).2 c9
        refine lv_aload_n hx hb dX12_found_9 rfl (lv_at hl 0 rfl) ?_
        refine lv_iload_n hx hb dX12_found_10 rfl (lv_at hl 1 rfl) ?_
        refine lv_iload hx hb dX12_found_11 (lv_at hl 4 rfl) ?_
        refine lv_iadd hx hb dX12_found_13 ?_
        replace h := gin_inv h
        obtain ⟨h9, h⟩ := h
        refine ld_X12_4 (f := v.2.1 4) (j := (x1 + x4).toNatClampNeg) hx hb hK hP rfl h9 rfl dX12_found_14 ?_
        refine lv_iload_n hx hb dX12_found_15 rfl (lv_at hl 3 rfl) ?_
        refine lv_icmp_ne (tgt := 22) hx hb dX12_found_16 (by decide) (fun c9 => ?_) (fun c9 => ?_)
        · replace h := (br h).2 c9
          refine lv_iinc (v := x4 + 1) (lv' := [(4, .int (x4 + 1)), (0, .ref (ad 5)), (1, .int x1), (2, .int x2), (3, .int x3)]) hx hb dX12_found_22 hl (k := 4) rfl rfl (by decide) rfl (fun ls hl => ?_)
          refine lv_goto (tgt := 3) hx hb dX12_found_25 (by decide) ?_
          replace h := itr_back h hy1
          exact ih1 (x4 + 1) _ _ _ h hP hD hS (lv_sub hl [1, 2, 3, 4, 0] rfl)
        · replace h := (br h).1 c9
          replace h := itr_exit h hy1
          refine lv_iload hx hb dX12_found_19 (lv_at hl 4 rfl) ?_
          exact retI (fr := fun q => q) (fw := fun _ => cX12 cy ad v) h hx hb hr hlocks hK hP hD hS dX12_found_21
  delta f_X12_found at h
  refine lv_iconst (v := 0) hx hb dX12_found_0 (by decide) ?_
  refine lv_istore (lv' := [(4, .int 0), (0, .ref (ad 5)), (1, .int a2), (2, .int a3), (3, .int a4)]) hx hb dX12_found_1 hl (by decide) rfl (fun ls hl => ?_)
  exact L3 a2 a3 a4 N 0 _ _ _ h hP hD hS (lv_sub hl [1, 2, 3, 4, 0] rfl)
theorem hd_X12_named : yX12_named.cls = RX12 ∧ yX12_named.cls ≠ "java/lang/invoke/MethodHandle" ∧ yX12_named.cls ≠ "java/lang/invoke/VarHandle" ∧ (parseMethodDescriptor yX12_named.desc).map (fun d => d.parameters.length) = some 1 := ⟨rfl, by decide +kernel, by decide +kernel, by decide +kernel⟩
def f_X12_named (N : Nat) (v : VV) (a1 : Int32) : Option (Int32 × VV) :=
  bnd (f_X12_found N (si v 0 0) 0 (v.2.1 3 0) a1) (fun q1 => some (q1, si v 0 0))
set_option maxHeartbeats 4000000 in
set_option maxRecDepth 100000 in
theorem k_X12_named (l : Launch) (G : va_G) (cy : Nat → ClassId) (ev : Nat → Nat) (N : Nat) (ad : Nat → Nat) (v : VV) (a1 : Int32) (res : Int32 × VV) (h : f_X12_named N v a1 = some res) : MetI l yX12_named cX12_named 2 (some .int) 1 24 G cy ev [.ref (ad 0), .int a1] (cX12 cy ad v) res.1 (cX12 cy ad res.2) := by
  refine MetQ.start (by decide +kernel) (Nat.le_of_ble_eq_true rfl) (fun p e s m args below meth c A ls hx hb hr hml hown hts hlocks hK hP hD hA hl hE => ?_)
  have hS : va_S A s.heap s.heap [] := va_S.rf
  have hown : s.vm.findClass RX12 = some m.cls := hown
  have hl : lv_has ls 2 [(0, .ref (ad 0)), (1, .int a1)] := hl
  delta f_X12_named at h
  refine lv_aload_n hx hb dX12_named_0 rfl (lv_at hl 0 rfl) ?_
  refine lv_iconst (v := 0) hx hb dX12_named_1 (by decide) ?_
  refine pf_X12_0 hx hb hts hown hK hP hD hS dX12_named_2 (fun H locs hP hD hS => ?_)
  refine lv_aload_n hx hb dX12_named_5 rfl (lv_at hl 0 rfl) ?_
  refine gf_X12_4 hx hb hts hown hK hP dX12_named_6 ?_
  refine lv_iconst (v := 0) hx hb dX12_named_9 (by decide) ?_
  refine lv_aload_n hx hb dX12_named_10 rfl (lv_at hl 0 rfl) ?_
  refine gf_X12_3 hx hb hts hown hK hP dX12_named_11 ?_
  refine lv_iconst (v := 0) hx hb dX12_named_14 (by decide) ?_
  refine ld_X12_3 (f := v.2.1 3) (j := 0) hx hb hK hP rfl (vin_dec (by decide)) (by decide) dX12_named_15 ?_
  refine lv_iload_n hx hb dX12_named_16 rfl (lv_at hl 1 rfl) ?_
  replace h := bd h
  obtain ⟨q1, h2, h⟩ := h
  refine callSi0 (As := [.ref (ad 5), .int 0, .int (v.2.1 3 0), .int a1]) (rest := []) hx hb hml hown hts (k_X12_found l G cy ev N ad (si v 0 0) 0 (v.2.1 3 0) a1 q1 h2) wm_22_18 wm_22_19 wm_1_5 wm_22_20 hd_X12_found ⟨by decide, by decide⟩ hK hP hD hS hA hE rfl rfl hl.1 (Nat.le_of_ble_eq_true rfl) dX12_named_17 (fun H locs hP hD hS => ?_)
  exact retI (fr := fun q => q.1) (fw := fun q => cX12 cy ad q.2) h hx hb hr hlocks hK hP hD hS dX12_named_20
theorem hd_X12_feed : yX12_feed.cls = RX12 ∧ yX12_feed.cls ≠ "java/lang/invoke/MethodHandle" ∧ yX12_feed.cls ≠ "java/lang/invoke/VarHandle" ∧ (parseMethodDescriptor yX12_feed.desc).map (fun d => d.parameters.length) = some 5 := ⟨rfl, by decide +kernel, by decide +kernel, by decide +kernel⟩
def f_X12_feed_b73 (N : Nat) (v : VV) (x1 : Int32) (x2 : Int32) (x3 : Int32) (x4 : Int32) (x5 : Int32) (x6 : Int32) (z0 : Int32) : Option (((Int32 × VV) ⊕ (Int32 × VV))) :=
  gin ((v.1 2) + x6) 700 (some (.inl (x6 + 1, sr v 1 (((v.1 2) + x6).toNatClampNeg) ((z0 >>> ((24 - (8 * (x6 - x6 / 4 * 4))) &&& 31)) &&& 255))))
def f_X12_feed_s20 (N : Nat) (v : VV) (x1 : Int32) (x2 : Int32) (x3 : Int32) (x4 : Int32) (x5 : Int32) (x6 : Int32) : Option (((Int32 × VV) ⊕ (Int32 × VV))) :=
  if (20 : Int32) ≤ x6 then inrO (some ((v.1 2) + 20, si v 2 ((v.1 2) + 20))) else if (4 : Int32) ≤ x6 then if (8 : Int32) ≤ x6 then if (12 : Int32) ≤ x6 then if (16 : Int32) ≤ x6 then f_X12_feed_b73 N v x1 x2 x3 x4 x5 x6 x5 else f_X12_feed_b73 N v x1 x2 x3 x4 x5 x6 x4 else f_X12_feed_b73 N v x1 x2 x3 x4 x5 x6 x3 else f_X12_feed_b73 N v x1 x2 x3 x4 x5 x6 x2 else f_X12_feed_b73 N v x1 x2 x3 x4 x5 x6 x1
def f_X12_feed (N : Nat) (v : VV) (a1 : Int32) (a2 : Int32) (a3 : Int32) (a4 : Int32) (a5 : Int32) : Option (Int32 × VV) :=
  if v.1 2 ≤ 680 then itr (fun q : Int32 × VV => f_X12_feed_s20 N q.2 a1 a2 a3 a4 a5 q.1) N (0, si v 0 0) else some ((-1), si v 0 0)
set_option maxHeartbeats 4000000 in
set_option maxRecDepth 100000 in
theorem k_X12_feed (l : Launch) (G : va_G) (cy : Nat → ClassId) (ev : Nat → Nat) (N : Nat) (ad : Nat → Nat) (v : VV) (a1 : Int32) (a2 : Int32) (a3 : Int32) (a4 : Int32) (a5 : Int32) (res : Int32 × VV) (h : f_X12_feed N v a1 a2 a3 a4 a5 = some res) : MetI l yX12_feed cX12_feed 8 (some .int) 0 0 G cy ev [.ref (ad 0), .int a1, .int a2, .int a3, .int a4, .int a5] (cX12 cy ad v) res.1 (cX12 cy ad res.2) := by
  refine MetQ.start (by decide +kernel) (Nat.le_of_ble_eq_true rfl) (fun p e s m args below meth c A ls hx hb hr hml hown hts hlocks hK hP hD hA hl hE => ?_)
  have hS : va_S A s.heap s.heap [] := va_S.rf
  have hown : s.vm.findClass RX12 = some m.cls := hown
  have hl : lv_has ls 8 [(0, .ref (ad 0)), (1, .int a1), (2, .int a2), (3, .int a3), (4, .int a4), (5, .int a5)] := hl
  have L20 : ∀ (x1 : Int32) (x2 : Int32) (x3 : Int32) (x4 : Int32) (x5 : Int32) (n : Nat) (x6 : Int32) (v : VV) (H : Heap) (locs : List Loc) (ls : Array Slot), itr (fun q : Int32 × VV => f_X12_feed_s20 N q.2 x1 x2 x3 x4 x5 q.1) n (x6, v) = some res → va_P G vwCl (cX12 cy ad v) H → va_D A (cX12 cy ad v) → va_S A s.heap H locs → lv_has ls 8 [(0, .ref (ad 0)), (1, .int x1), (2, .int x2), (3, .int x3), (4, .int x4), (5, .int x5), (6, .int x6)] → W p l e (rmX 0 0) s m args below meth c H locs 0 0 (MQ below (mQi (res.1) G cy A (cX12 cy ad res.2)) args s 0 0 A) (F0 m 20 ls []) := by
    intro x1 x2 x3 x4 x5 n
    induction n with
    | zero => intro x6 v H locs ls h; exact (itr_zero h).elim
    | succ n ih1 =>
      intro x6 v H locs ls h hP hD hS hl
      obtain ⟨y1, h, hy1⟩ := itr_inv h
      have h : f_X12_feed_s20 N v x1 x2 x3 x4 x5 x6 = some y1 := h
      have B73 : ∀ (x6 : Int32) (z0 : Int32) (v : VV) (H : Heap) (locs : List Loc) (ls : Array Slot), f_X12_feed_b73 N v x1 x2 x3 x4 x5 x6 z0 = some y1 → va_P G vwCl (cX12 cy ad v) H → va_D A (cX12 cy ad v) → va_S A s.heap H locs → lv_has ls 8 [(0, .ref (ad 0)), (1, .int x1), (2, .int x2), (3, .int x3), (4, .int x4), (5, .int x5), (6, .int x6)] → W p l e (rmX 0 0) s m args below meth c H locs 0 0 (MQ below (mQi (res.1) G cy A (cX12 cy ad res.2)) args s 0 0 A) (F0 m 73 ls [.int z0]) := by
        intro x6 z0 v H locs ls h hP hD hS hl
        delta f_X12_feed_b73 at h
        refine lv_istore (lv' := [(7, .int z0), (0, .ref (ad 0)), (1, .int x1), (2, .int x2), (3, .int x3), (4, .int x4), (5, .int x5), (6, .int x6)]) hx hb dX12_feed_73 hl (by decide) rfl (fun ls hl => ?_)
        refine lv_aload_n hx hb dX12_feed_75 rfl (lv_at hl 1 rfl) ?_
        refine gf_X12_1 hx hb hts hown hK hP dX12_feed_76 ?_
        refine lv_aload_n hx hb dX12_feed_79 rfl (lv_at hl 1 rfl) ?_
        refine gf_X12_2 (x := v.1 2) hx hb hts hown hK hP rfl dX12_feed_80 ?_
        refine lv_iload hx hb dX12_feed_83 (lv_at hl 7 rfl) ?_
        refine lv_iadd hx hb dX12_feed_85 ?_
        refine lv_iload hx hb dX12_feed_86 (lv_at hl 0 rfl) ?_
        refine lv_bipush (v := 24) hx hb dX12_feed_88 (by decide) ?_
        refine lv_bipush (v := 8) hx hb dX12_feed_90 (by decide) ?_
        refine lv_iload hx hb dX12_feed_92 (lv_at hl 7 rfl) ?_
        refine lv_iconst (v := 4) hx hb dX12_feed_94 (by decide) ?_
        refine lv_irem hx hb dX12_feed_95 (by decide) ?_
        refine lv_imul hx hb dX12_feed_96 ?_
        refine lv_isub hx hb dX12_feed_97 ?_
        refine lv_ishr hx hb dX12_feed_98 ?_
        refine lv_sipush (v := 255) hx hb dX12_feed_99 (by decide) ?_
        refine lv_iand hx hb dX12_feed_102 ?_
        replace h := gin_inv h
        obtain ⟨h9, h⟩ := h
        refine st_X12_1 (j := ((v.1 2) + x6).toNatClampNeg) hx hb hK hP hD hS h9 rfl dX12_feed_103 (fun H locs hP hD hS => ?_)
        refine lv_iinc (v := x6 + 1) (lv' := [(6, .int (x6 + 1)), (7, .int z0), (0, .ref (ad 0)), (1, .int x1), (2, .int x2), (3, .int x3), (4, .int x4), (5, .int x5)]) hx hb dX12_feed_104 hl (k := 7) rfl rfl (by decide) rfl (fun ls hl => ?_)
        refine lv_goto (tgt := 20) hx hb dX12_feed_107 (by decide) ?_
        replace h := itr_back h hy1
        exact ih1 (x6 + 1) (sr v 1 (((v.1 2) + x6).toNatClampNeg) ((z0 >>> ((24 - (8 * (x6 - x6 / 4 * 4))) &&& 31)) &&& 255)) _ _ _ h hP hD hS (lv_sub hl [2, 3, 4, 5, 6, 7, 0] rfl)
      delta f_X12_feed_s20 at h
      refine lv_iload hx hb dX12_feed_20 (lv_at hl 6 rfl) ?_
      refine lv_bipush (v := 20) hx hb dX12_feed_22 (by decide) ?_
      refine lv_icmp_ge (tgt := 110) hx hb dX12_feed_24 (by decide) (fun c9 => ?_) (fun c9 => ?_)
      · replace h := (br h).1 c9
        replace h := itr_exit h hy1
        refine lv_aload_n hx hb dX12_feed_110 rfl (lv_at hl 0 rfl) ?_
        refine lv_dup hx hb dX12_feed_111 rfl ?_
        refine gf_X12_2 (x := v.1 2) hx hb hts hown hK hP rfl dX12_feed_112 ?_
        refine lv_bipush (v := 20) hx hb dX12_feed_115 (by decide) ?_
        refine lv_iadd hx hb dX12_feed_117 ?_
        refine pf_X12_2 hx hb hts hown hK hP hD hS dX12_feed_118 (fun H locs hP hD hS => ?_)
        refine lv_aload_n hx hb dX12_feed_121 rfl (lv_at hl 0 rfl) ?_
        refine gf_X12_2 (x := (v.1 2) + 20) hx hb hts hown hK hP rfl dX12_feed_122 ?_
        exact retI (fr := fun q => q.1) (fw := fun q => cX12 cy ad q.2) h hx hb hr hlocks hK hP hD hS dX12_feed_125
      · replace h := (br h).2 c9
        refine lv_iload hx hb dX12_feed_27 (lv_at hl 6 rfl) ?_
        refine lv_iconst (v := 4) hx hb dX12_feed_29 (by decide) ?_
        refine lv_icmp_ge (tgt := 37) hx hb dX12_feed_30 (by decide) (fun c9 => ?_) (fun c9 => ?_)
        · replace h := (br h).1 c9
          refine lv_iload hx hb dX12_feed_37 (lv_at hl 6 rfl) ?_
          refine lv_bipush (v := 8) hx hb dX12_feed_39 (by decide) ?_
          refine lv_icmp_ge (tgt := 48) hx hb dX12_feed_41 (by decide) (fun c9 => ?_) (fun c9 => ?_)
          · replace h := (br h).1 c9
            refine lv_iload hx hb dX12_feed_48 (lv_at hl 6 rfl) ?_
            refine lv_bipush (v := 12) hx hb dX12_feed_50 (by decide) ?_
            refine lv_icmp_ge (tgt := 59) hx hb dX12_feed_52 (by decide) (fun c9 => ?_) (fun c9 => ?_)
            · replace h := (br h).1 c9
              refine lv_iload hx hb dX12_feed_59 (lv_at hl 6 rfl) ?_
              refine lv_bipush (v := 16) hx hb dX12_feed_61 (by decide) ?_
              refine lv_icmp_ge (tgt := 71) hx hb dX12_feed_63 (by decide) (fun c9 => ?_) (fun c9 => ?_)
              · replace h := (br h).1 c9
                refine lv_iload hx hb dX12_feed_71 (lv_at hl 5 rfl) ?_
                exact B73 x6 x5 v _ _ _ h hP hD hS (lv_sub hl [0, 1, 2, 3, 4, 5, 6] rfl)
              · replace h := (br h).2 c9
                refine lv_iload hx hb dX12_feed_66 (lv_at hl 4 rfl) ?_
                refine lv_goto (tgt := 73) hx hb dX12_feed_68 (by decide) ?_
                exact B73 x6 x4 v _ _ _ h hP hD hS (lv_sub hl [0, 1, 2, 3, 4, 5, 6] rfl)
            · replace h := (br h).2 c9
              refine lv_iload_n hx hb dX12_feed_55 rfl (lv_at hl 3 rfl) ?_
              refine lv_goto (tgt := 73) hx hb dX12_feed_56 (by decide) ?_
              exact B73 x6 x3 v _ _ _ h hP hD hS (lv_sub hl [0, 1, 2, 3, 4, 5, 6] rfl)
          · replace h := (br h).2 c9
            refine lv_iload_n hx hb dX12_feed_44 rfl (lv_at hl 2 rfl) ?_
            refine lv_goto (tgt := 73) hx hb dX12_feed_45 (by decide) ?_
            exact B73 x6 x2 v _ _ _ h hP hD hS (lv_sub hl [0, 1, 2, 3, 4, 5, 6] rfl)
        · replace h := (br h).2 c9
          refine lv_iload_n hx hb dX12_feed_33 rfl (lv_at hl 1 rfl) ?_
          refine lv_goto (tgt := 73) hx hb dX12_feed_34 (by decide) ?_
          exact B73 x6 x1 v _ _ _ h hP hD hS (lv_sub hl [0, 1, 2, 3, 4, 5, 6] rfl)
  delta f_X12_feed at h
  refine lv_aload_n hx hb dX12_feed_0 rfl (lv_at hl 0 rfl) ?_
  refine lv_iconst (v := 0) hx hb dX12_feed_1 (by decide) ?_
  refine pf_X12_0 hx hb hts hown hK hP hD hS dX12_feed_2 (fun H locs hP hD hS => ?_)
  refine lv_aload_n hx hb dX12_feed_5 rfl (lv_at hl 0 rfl) ?_
  refine gf_X12_2 (x := v.1 2) hx hb hts hown hK hP rfl dX12_feed_6 ?_
  refine lv_sipush (v := 680) hx hb dX12_feed_9 (by decide) ?_
  refine lv_icmp_le (tgt := 17) hx hb dX12_feed_12 (by decide) (fun c9 => ?_) (fun c9 => ?_)
  · replace h := (br h).1 c9
    refine lv_iconst (v := 0) hx hb dX12_feed_17 (by decide) ?_
    refine lv_istore (lv' := [(6, .int 0), (0, .ref (ad 0)), (1, .int a1), (2, .int a2), (3, .int a3), (4, .int a4), (5, .int a5)]) hx hb dX12_feed_18 hl (by decide) rfl (fun ls hl => ?_)
    exact L20 a1 a2 a3 a4 a5 N 0 (si v 0 0) _ _ _ h hP hD hS (lv_sub hl [1, 2, 3, 4, 5, 6, 0] rfl)
  · replace h := (br h).2 c9
    refine lv_iconst (v := (-1)) hx hb dX12_feed_15 (by decide) ?_
    exact retI (fr := fun q => q.1) (fw := fun q => cX12 cy ad q.2) h hx hb hr hlocks hK hP hD hS dX12_feed_16
theorem hd_X12_name : yX12_name.cls = RX12 ∧ yX12_name.cls ≠ "java/lang/invoke/MethodHandle" ∧ yX12_name.cls ≠ "java/lang/invoke/VarHandle" ∧ (parseMethodDescriptor yX12_name.desc).map (fun d => d.parameters.length) = some 0 := ⟨rfl, by decide +kernel, by decide +kernel, by decide +kernel⟩
def f_X12_name_b53 (N : Nat) (v : VV) (x1 : Int32) (z0 : Int32) (z1 : Int32) : Option (((Int32 × VV) ⊕ (VV))) :=
  some (.inl (x1 + 1, si v 22 (z1 ||| z0)))
def f_X12_name_s7 (N : Nat) (v : VV) (x1 : Int32) : Option (((Int32 × VV) ⊕ (VV))) :=
  if (6 : Int32) ≤ x1 then inrO (some v) else if v.1 19 ≤ (v.1 20) + x1 then f_X12_name_b53 N v x1 0 ((v.1 22) <<< (5 &&& 31)) else gin ((v.1 20) + x1) 700 (f_X12_name_b53 N v x1 (((v.2.1 1 (((v.1 20) + x1).toNatClampNeg)) - 97) + 1) ((v.1 22) <<< (5 &&& 31)))
def f_X12_name (N : Nat) (v : VV) : Option (VV) :=
  itr (fun q : Int32 × VV => f_X12_name_s7 N q.2 q.1) N (0, si v 22 0)
set_option maxHeartbeats 4000000 in
set_option maxRecDepth 100000 in
theorem k_X12_name (l : Launch) (G : va_G) (cy : Nat → ClassId) (ev : Nat → Nat) (N : Nat) (ad : Nat → Nat) (v : VV)  (res : VV) (h : f_X12_name N v = some res) : MetV l yX12_name cX12_name 2 none 0 0 G cy ev [.ref (ad 0)] (cX12 cy ad v) (cX12 cy ad res) := by
  refine MetQ.start (by decide +kernel) (Nat.le_of_ble_eq_true rfl) (fun p e s m args below meth c A ls hx hb hr hml hown hts hlocks hK hP hD hA hl hE => ?_)
  have hS : va_S A s.heap s.heap [] := va_S.rf
  have hown : s.vm.findClass RX12 = some m.cls := hown
  have hl : lv_has ls 2 [(0, .ref (ad 0))] := hl
  have L7 : ∀ (n : Nat) (x1 : Int32) (v : VV) (H : Heap) (locs : List Loc) (ls : Array Slot), itr (fun q : Int32 × VV => f_X12_name_s7 N q.2 q.1) n (x1, v) = some res → va_P G vwCl (cX12 cy ad v) H → va_D A (cX12 cy ad v) → va_S A s.heap H locs → lv_has ls 2 [(0, .ref (ad 0)), (1, .int x1)] → W p l e (rmX 0 0) s m args below meth c H locs 0 0 (MQ below (mQv G cy A (cX12 cy ad res)) args s 0 0 A) (F0 m 7 ls []) := by
    intro n
    induction n with
    | zero => intro x1 v H locs ls h; exact (itr_zero h).elim
    | succ n ih1 =>
      intro x1 v H locs ls h hP hD hS hl
      obtain ⟨y1, h, hy1⟩ := itr_inv h
      have h : f_X12_name_s7 N v x1 = some y1 := h
      have B53 : ∀ (x1 : Int32) (z0 : Int32) (z1 : Int32) (v : VV) (H : Heap) (locs : List Loc) (ls : Array Slot), f_X12_name_b53 N v x1 z0 z1 = some y1 → va_P G vwCl (cX12 cy ad v) H → va_D A (cX12 cy ad v) → va_S A s.heap H locs → lv_has ls 2 [(0, .ref (ad 0)), (1, .int x1)] → W p l e (rmX 0 0) s m args below meth c H locs 0 0 (MQ below (mQv G cy A (cX12 cy ad res)) args s 0 0 A) (F0 m 53 ls [.int z0, .int z1, .ref (ad 0)]) := by
        intro x1 z0 z1 v H locs ls h hP hD hS hl
        delta f_X12_name_b53 at h
        refine lv_ior hx hb dX12_name_53 ?_
        refine pf_X12_22 hx hb hts hown hK hP hD hS dX12_name_54 (fun H locs hP hD hS => ?_)
        refine lv_iinc (v := x1 + 1) (lv' := [(1, .int (x1 + 1)), (0, .ref (ad 0))]) hx hb dX12_name_57 hl (k := 1) rfl rfl (by decide) rfl (fun ls hl => ?_)
        refine lv_goto (tgt := 7) hx hb dX12_name_60 (by decide) ?_
        replace h := itr_back h hy1
        exact ih1 (x1 + 1) (si v 22 (z1 ||| z0)) _ _ _ h hP hD hS (lv_sub hl [1, 0] rfl)
      delta f_X12_name_s7 at h
      refine lv_iload_n hx hb dX12_name_7 rfl (lv_at hl 1 rfl) ?_
      refine lv_bipush (v := 6) hx hb dX12_name_8 (by decide) ?_
      refine lv_icmp_ge (tgt := 63) hx hb dX12_name_10 (by decide) (fun c9 => ?_) (fun c9 => ?_)
      · replace h := (br h).1 c9
        replace h := itr_exit h hy1
        exact retV (fw := fun q => cX12 cy ad q) h hx hb hr hlocks hK hP hD hS dX12_name_63
      · replace h := (br h).2 c9
        refine lv_aload_n hx hb dX12_name_13 rfl (lv_at hl 0 rfl) ?_
        refine lv_aload_n hx hb dX12_name_14 rfl (lv_at hl 0 rfl) ?_
        refine gf_X12_22 (x := v.1 22) hx hb hts hown hK hP rfl dX12_name_15 ?_
        refine lv_iconst (v := 5) hx hb dX12_name_18 (by decide) ?_
        refine lv_ishl hx hb dX12_name_19 ?_
        refine lv_aload_n hx hb dX12_name_20 rfl (lv_at hl 0 rfl) ?_
        refine gf_X12_20 (x := v.1 20) hx hb hts hown hK hP rfl dX12_name_21 ?_
        refine lv_iload_n hx hb dX12_name_24 rfl (lv_at hl 1 rfl) ?_
        refine lv_iadd hx hb dX12_name_25 ?_
        refine lv_aload_n hx hb dX12_name_26 rfl (lv_at hl 0 rfl) ?_
        refine gf_X12_19 (x := v.1 19) hx hb hts hown hK hP rfl dX12_name_27 ?_
        refine lv_icmp_ge (tgt := 52) hx hb dX12_name_30 (by decide) (fun c9 => ?_) (fun c9 => ?_)
        · replace h := (br h).1 c9
          refine lv_iconst (v := 0) hx hb dX12_name_52 (by decide) ?_
          exact B53 x1 0 ((v.1 22) <<< (5 &&& 31)) v _ _ _ h hP hD hS (lv_sub hl [0, 1] rfl)
        · replace h := (br h).2 c9
          refine lv_aload_n hx hb dX12_name_33 rfl (lv_at hl 0 rfl) ?_
          refine gf_X12_1 hx hb hts hown hK hP dX12_name_34 ?_
          refine lv_aload_n hx hb dX12_name_37 rfl (lv_at hl 0 rfl) ?_
          refine gf_X12_20 (x := v.1 20) hx hb hts hown hK hP rfl dX12_name_38 ?_
          refine lv_iload_n hx hb dX12_name_41 rfl (lv_at hl 1 rfl) ?_
          refine lv_iadd hx hb dX12_name_42 ?_
          replace h := gin_inv h
          obtain ⟨h9, h⟩ := h
          refine ld_X12_1 (f := v.2.1 1) (j := ((v.1 20) + x1).toNatClampNeg) hx hb hK hP rfl h9 rfl dX12_name_43 ?_
          refine lv_bipush (v := 97) hx hb dX12_name_44 (by decide) ?_
          refine lv_isub hx hb dX12_name_46 ?_
          refine lv_iconst (v := 1) hx hb dX12_name_47 (by decide) ?_
          refine lv_iadd hx hb dX12_name_48 ?_
          refine lv_goto (tgt := 53) hx hb dX12_name_49 (by decide) ?_
          exact B53 x1 (((v.2.1 1 (((v.1 20) + x1).toNatClampNeg)) - 97) + 1) ((v.1 22) <<< (5 &&& 31)) v _ _ _ h hP hD hS (lv_sub hl [0, 1] rfl)
  delta f_X12_name at h
  refine lv_aload_n hx hb dX12_name_0 rfl (lv_at hl 0 rfl) ?_
  refine lv_iconst (v := 0) hx hb dX12_name_1 (by decide) ?_
  refine pf_X12_22 hx hb hts hown hK hP hD hS dX12_name_2 (fun H locs hP hD hS => ?_)
  refine lv_iconst (v := 0) hx hb dX12_name_5 (by decide) ?_
  refine lv_istore_n (lv' := [(1, .int 0), (0, .ref (ad 0))]) hx hb dX12_name_6 rfl hl (by decide) rfl (fun ls hl => ?_)
  exact L7  N 0 (si v 22 0) _ _ _ h hP hD hS (lv_sub hl [1, 0] rfl)
theorem hd_X12_sign : yX12_sign.cls = RX12 ∧ yX12_sign.cls ≠ "java/lang/invoke/MethodHandle" ∧ yX12_sign.cls ≠ "java/lang/invoke/VarHandle" ∧ (parseMethodDescriptor yX12_sign.desc).map (fun d => d.parameters.length) = some 1 := ⟨rfl, by decide +kernel, by decide +kernel, by decide +kernel⟩
def f_X12_sign_b150 (v : VV)  : Option (VV) :=
  if v.1 22 < 256 then some v else some (si v 19 ((v.1 19) + 1))
def f_X12_sign_b128 (v : VV) (x1 : Int32) : Option (VV) :=
  if x1 = 62 then bnd (f_X12_here v) (fun q12801 => if q12801 = 61 then f_X12_sign_b150 (si v 22 258) else f_X12_sign_b150 v) else f_X12_sign_b150 v
def f_X12_sign_b106 (v : VV) (x1 : Int32) : Option (VV) :=
  if x1 = 60 then bnd (f_X12_here v) (fun q10601 => if q10601 = 62 then f_X12_sign_b128 (si v 22 257) x1 else f_X12_sign_b128 v x1) else f_X12_sign_b128 v x1
def f_X12_sign_b76 (v : VV) (x1 : Int32) (z0 : Int32) : Option (VV) :=
  if x1 = 60 then bnd (f_X12_here (si (si v 21 z0) 22 x1)) (fun q7601 => if q7601 = 61 then f_X12_sign_b106 (si (si (si v 21 z0) 22 x1) 22 256) x1 else f_X12_sign_b106 (si (si v 21 z0) 22 x1) x1) else f_X12_sign_b106 (si (si v 21 z0) 22 x1) x1
def f_X12_sign_b71 (v : VV) (x1 : Int32) : Option (VV) :=
  f_X12_sign_b76 v x1 3
def f_X12_sign (v : VV) (a1 : Int32) : Option (VV) :=
  if a1 = 59 then f_X12_sign_b71 (si v 19 ((v.1 19) + 1)) a1 else if a1 = 40 then f_X12_sign_b71 (si v 19 ((v.1 19) + 1)) a1 else if a1 = 41 then f_X12_sign_b71 (si v 19 ((v.1 19) + 1)) a1 else if a1 = 43 then f_X12_sign_b71 (si v 19 ((v.1 19) + 1)) a1 else if a1 = 45 then f_X12_sign_b71 (si v 19 ((v.1 19) + 1)) a1 else if a1 = 42 then f_X12_sign_b71 (si v 19 ((v.1 19) + 1)) a1 else if a1 = 47 then f_X12_sign_b71 (si v 19 ((v.1 19) + 1)) a1 else if a1 = 60 then f_X12_sign_b71 (si v 19 ((v.1 19) + 1)) a1 else if a1 = 61 then f_X12_sign_b71 (si v 19 ((v.1 19) + 1)) a1 else if a1 = 62 then f_X12_sign_b71 (si v 19 ((v.1 19) + 1)) a1 else f_X12_sign_b76 (si v 19 ((v.1 19) + 1)) a1 5
set_option maxHeartbeats 4000000 in
set_option maxRecDepth 100000 in
theorem k_X12_sign (l : Launch) (G : va_G) (cy : Nat → ClassId) (ev : Nat → Nat) (ad : Nat → Nat) (v : VV) (a1 : Int32) (res : VV) (h : f_X12_sign v a1 = some res) : MetV l yX12_sign cX12_sign 2 none 1 20 G cy ev [.ref (ad 0), .int a1] (cX12 cy ad v) (cX12 cy ad res) := by
  refine MetQ.start (by decide +kernel) (Nat.le_of_ble_eq_true rfl) (fun p e s m args below meth c A ls hx hb hr hml hown hts hlocks hK hP hD hA hl hE => ?_)
  have hS : va_S A s.heap s.heap [] := va_S.rf
  have hown : s.vm.findClass RX12 = some m.cls := hown
  have hl : lv_has ls 2 [(0, .ref (ad 0)), (1, .int a1)] := hl
  have B150 : ∀ (v : VV) (H : Heap) (locs : List Loc) (ls : Array Slot), f_X12_sign_b150 v = some res → va_P G vwCl (cX12 cy ad v) H → va_D A (cX12 cy ad v) → va_S A s.heap H locs → lv_has ls 2 [(0, .ref (ad 0))] → W p l e (rmX 1 20) s m args below meth c H locs 0 0 (MQ below (mQv G cy A (cX12 cy ad res)) args s 0 0 A) (F0 m 150 ls []) := by
    intro v H locs ls h hP hD hS hl
    delta f_X12_sign_b150 at h
    refine lv_aload_n hx hb dX12_sign_150 rfl (lv_at hl 0 rfl) ?_
    refine gf_X12_22 (x := v.1 22) hx hb hts hown hK hP rfl dX12_sign_151 ?_
    refine lv_sipush (v := 256) hx hb dX12_sign_154 (by decide) ?_
    refine lv_icmp_lt (tgt := 170) hx hb dX12_sign_157 (by decide) (fun c9 => ?_) (fun c9 => ?_)
    · replace h := (br h).1 c9
      exact retV (fw := fun q => cX12 cy ad q) h hx hb hr hlocks hK hP hD hS dX12_sign_170
    · replace h := (br h).2 c9
      refine lv_aload_n hx hb dX12_sign_160 rfl (lv_at hl 0 rfl) ?_
      refine lv_dup hx hb dX12_sign_161 rfl ?_
      refine gf_X12_19 (x := v.1 19) hx hb hts hown hK hP rfl dX12_sign_162 ?_
      refine lv_iconst (v := 1) hx hb dX12_sign_165 (by decide) ?_
      refine lv_iadd hx hb dX12_sign_166 ?_
      refine pf_X12_19 hx hb hts hown hK hP hD hS dX12_sign_167 (fun H locs hP hD hS => ?_)
      exact retV (fw := fun q => cX12 cy ad q) h hx hb hr hlocks hK hP hD hS dX12_sign_170
  have B128 : ∀ (x1 : Int32) (v : VV) (H : Heap) (locs : List Loc) (ls : Array Slot), f_X12_sign_b128 v x1 = some res → va_P G vwCl (cX12 cy ad v) H → va_D A (cX12 cy ad v) → va_S A s.heap H locs → lv_has ls 2 [(0, .ref (ad 0)), (1, .int x1)] → W p l e (rmX 1 20) s m args below meth c H locs 0 0 (MQ below (mQv G cy A (cX12 cy ad res)) args s 0 0 A) (F0 m 128 ls []) := by
    intro x1 v H locs ls h hP hD hS hl
    delta f_X12_sign_b128 at h
    refine lv_iload_n hx hb dX12_sign_128 rfl (lv_at hl 1 rfl) ?_
    refine lv_bipush (v := 62) hx hb dX12_sign_129 (by decide) ?_
    refine lv_icmp_ne (tgt := 150) hx hb dX12_sign_131 (by decide) (fun c9 => ?_) (fun c9 => ?_)
    · replace h := (br h).2 c9
      exact B150 v _ _ _ h hP hD hS (lv_sub hl [0] rfl)
    · replace h := (br h).1 c9
      refine lv_aload_n hx hb dX12_sign_134 rfl (lv_at hl 0 rfl) ?_
      replace h := bd h
      obtain ⟨q12801, h12802, h⟩ := h
      refine callVi0 (As := []) (rest := []) hx hb hml hown hts (k_X12_here l G cy ev ad v q12801 h12802) wm_20_22 wm_20_23 wm_21_0 wm_1_5 wm_21_1 hd_X12_here ⟨by decide, by decide⟩ hK hP hD hS hA hE (va_recv hK hP (ci := 12) (q0 := 0) rfl rfl) rfl rfl hl.1 (Nat.le_of_ble_eq_true rfl) dX12_sign_135 (fun H locs hP hD hS => ?_)
      refine lv_bipush (v := 61) hx hb dX12_sign_138 (by decide) ?_
      refine lv_icmp_ne (tgt := 150) hx hb dX12_sign_140 (by decide) (fun c9 => ?_) (fun c9 => ?_)
      · replace h := (br h).2 c9
        exact B150 v _ _ _ h hP hD hS (lv_sub hl [0] rfl)
      · replace h := (br h).1 c9
        refine lv_aload_n hx hb dX12_sign_143 rfl (lv_at hl 0 rfl) ?_
        refine lv_sipush (v := 258) hx hb dX12_sign_144 (by decide) ?_
        refine pf_X12_22 hx hb hts hown hK hP hD hS dX12_sign_147 (fun H locs hP hD hS => ?_)
        exact B150 (si v 22 258) _ _ _ h hP hD hS (lv_sub hl [0] rfl)
  have B106 : ∀ (x1 : Int32) (v : VV) (H : Heap) (locs : List Loc) (ls : Array Slot), f_X12_sign_b106 v x1 = some res → va_P G vwCl (cX12 cy ad v) H → va_D A (cX12 cy ad v) → va_S A s.heap H locs → lv_has ls 2 [(0, .ref (ad 0)), (1, .int x1)] → W p l e (rmX 1 20) s m args below meth c H locs 0 0 (MQ below (mQv G cy A (cX12 cy ad res)) args s 0 0 A) (F0 m 106 ls []) := by
    intro x1 v H locs ls h hP hD hS hl
    delta f_X12_sign_b106 at h
    refine lv_iload_n hx hb dX12_sign_106 rfl (lv_at hl 1 rfl) ?_
    refine lv_bipush (v := 60) hx hb dX12_sign_107 (by decide) ?_
    refine lv_icmp_ne (tgt := 128) hx hb dX12_sign_109 (by decide) (fun c9 => ?_) (fun c9 => ?_)
    · replace h := (br h).2 c9
      exact B128 x1 v _ _ _ h hP hD hS (lv_sub hl [0, 1] rfl)
    · replace h := (br h).1 c9
      refine lv_aload_n hx hb dX12_sign_112 rfl (lv_at hl 0 rfl) ?_
      replace h := bd h
      obtain ⟨q10601, h10602, h⟩ := h
      refine callVi0 (As := []) (rest := []) hx hb hml hown hts (k_X12_here l G cy ev ad v q10601 h10602) wm_20_22 wm_20_23 wm_21_0 wm_1_5 wm_21_1 hd_X12_here ⟨by decide, by decide⟩ hK hP hD hS hA hE (va_recv hK hP (ci := 12) (q0 := 0) rfl rfl) rfl rfl hl.1 (Nat.le_of_ble_eq_true rfl) dX12_sign_113 (fun H locs hP hD hS => ?_)
      refine lv_bipush (v := 62) hx hb dX12_sign_116 (by decide) ?_
      refine lv_icmp_ne (tgt := 128) hx hb dX12_sign_118 (by decide) (fun c9 => ?_) (fun c9 => ?_)
      · replace h := (br h).2 c9
        exact B128 x1 v _ _ _ h hP hD hS (lv_sub hl [0, 1] rfl)
      · replace h := (br h).1 c9
        refine lv_aload_n hx hb dX12_sign_121 rfl (lv_at hl 0 rfl) ?_
        refine lv_sipush (v := 257) hx hb dX12_sign_122 (by decide) ?_
        refine pf_X12_22 hx hb hts hown hK hP hD hS dX12_sign_125 (fun H locs hP hD hS => ?_)
        exact B128 x1 (si v 22 257) _ _ _ h hP hD hS (lv_sub hl [0, 1] rfl)
  have B76 : ∀ (x1 : Int32) (z0 : Int32) (v : VV) (H : Heap) (locs : List Loc) (ls : Array Slot), f_X12_sign_b76 v x1 z0 = some res → va_P G vwCl (cX12 cy ad v) H → va_D A (cX12 cy ad v) → va_S A s.heap H locs → lv_has ls 2 [(0, .ref (ad 0)), (1, .int x1)] → W p l e (rmX 1 20) s m args below meth c H locs 0 0 (MQ below (mQv G cy A (cX12 cy ad res)) args s 0 0 A) (F0 m 76 ls [.int z0, .ref (ad 0)]) := by
    intro x1 z0 v H locs ls h hP hD hS hl
    delta f_X12_sign_b76 at h
    refine pf_X12_21 hx hb hts hown hK hP hD hS dX12_sign_76 (fun H locs hP hD hS => ?_)
    refine lv_aload_n hx hb dX12_sign_79 rfl (lv_at hl 0 rfl) ?_
    refine lv_iload_n hx hb dX12_sign_80 rfl (lv_at hl 1 rfl) ?_
    refine pf_X12_22 hx hb hts hown hK hP hD hS dX12_sign_81 (fun H locs hP hD hS => ?_)
    refine lv_iload_n hx hb dX12_sign_84 rfl (lv_at hl 1 rfl) ?_
    refine lv_bipush (v := 60) hx hb dX12_sign_85 (by decide) ?_
    refine lv_icmp_ne (tgt := 106) hx hb dX12_sign_87 (by decide) (fun c9 => ?_) (fun c9 => ?_)
    · replace h := (br h).2 c9
      exact B106 x1 (si (si v 21 z0) 22 x1) _ _ _ h hP hD hS (lv_sub hl [0, 1] rfl)
    · replace h := (br h).1 c9
      refine lv_aload_n hx hb dX12_sign_90 rfl (lv_at hl 0 rfl) ?_
      replace h := bd h
      obtain ⟨q7601, h7602, h⟩ := h
      refine callVi0 (As := []) (rest := []) hx hb hml hown hts (k_X12_here l G cy ev ad (si (si v 21 z0) 22 x1) q7601 h7602) wm_20_22 wm_20_23 wm_21_0 wm_1_5 wm_21_1 hd_X12_here ⟨by decide, by decide⟩ hK hP hD hS hA hE (va_recv hK hP (ci := 12) (q0 := 0) rfl rfl) rfl rfl hl.1 (Nat.le_of_ble_eq_true rfl) dX12_sign_91 (fun H locs hP hD hS => ?_)
      refine lv_bipush (v := 61) hx hb dX12_sign_94 (by decide) ?_
      refine lv_icmp_ne (tgt := 106) hx hb dX12_sign_96 (by decide) (fun c9 => ?_) (fun c9 => ?_)
      · replace h := (br h).2 c9
        exact B106 x1 (si (si v 21 z0) 22 x1) _ _ _ h hP hD hS (lv_sub hl [0, 1] rfl)
      · replace h := (br h).1 c9
        refine lv_aload_n hx hb dX12_sign_99 rfl (lv_at hl 0 rfl) ?_
        refine lv_sipush (v := 256) hx hb dX12_sign_100 (by decide) ?_
        refine pf_X12_22 hx hb hts hown hK hP hD hS dX12_sign_103 (fun H locs hP hD hS => ?_)
        exact B106 x1 (si (si (si v 21 z0) 22 x1) 22 256) _ _ _ h hP hD hS (lv_sub hl [0, 1] rfl)
  have B71 : ∀ (x1 : Int32) (v : VV) (H : Heap) (locs : List Loc) (ls : Array Slot), f_X12_sign_b71 v x1 = some res → va_P G vwCl (cX12 cy ad v) H → va_D A (cX12 cy ad v) → va_S A s.heap H locs → lv_has ls 2 [(0, .ref (ad 0)), (1, .int x1)] → W p l e (rmX 1 20) s m args below meth c H locs 0 0 (MQ below (mQv G cy A (cX12 cy ad res)) args s 0 0 A) (F0 m 71 ls [.ref (ad 0)]) := by
    intro x1 v H locs ls h hP hD hS hl
    delta f_X12_sign_b71 at h
    refine lv_iconst (v := 3) hx hb dX12_sign_71 (by decide) ?_
    refine lv_goto (tgt := 76) hx hb dX12_sign_72 (by decide) ?_
    exact B76 x1 3 v _ _ _ h hP hD hS (lv_sub hl [0, 1] rfl)
  delta f_X12_sign at h
  refine lv_aload_n hx hb dX12_sign_0 rfl (lv_at hl 0 rfl) ?_
  refine lv_dup hx hb dX12_sign_1 rfl ?_
  refine gf_X12_19 (x := v.1 19) hx hb hts hown hK hP rfl dX12_sign_2 ?_
  refine lv_iconst (v := 1) hx hb dX12_sign_5 (by decide) ?_
  refine lv_iadd hx hb dX12_sign_6 ?_
  refine pf_X12_19 hx hb hts hown hK hP hD hS dX12_sign_7 (fun H locs hP hD hS => ?_)
  refine lv_aload_n hx hb dX12_sign_10 rfl (lv_at hl 0 rfl) ?_
  refine lv_iload_n hx hb dX12_sign_11 rfl (lv_at hl 1 rfl) ?_
  refine lv_bipush (v := 59) hx hb dX12_sign_12 (by decide) ?_
  refine lv_icmp_eq (tgt := 71) hx hb dX12_sign_14 (by decide) (fun c9 => ?_) (fun c9 => ?_)
  · replace h := (br h).1 c9
    exact B71 a1 (si v 19 ((v.1 19) + 1)) _ _ _ h hP hD hS (lv_sub hl [0, 1] rfl)
  · replace h := (br h).2 c9
    refine lv_iload_n hx hb dX12_sign_17 rfl (lv_at hl 1 rfl) ?_
    refine lv_bipush (v := 40) hx hb dX12_sign_18 (by decide) ?_
    refine lv_icmp_eq (tgt := 71) hx hb dX12_sign_20 (by decide) (fun c9 => ?_) (fun c9 => ?_)
    · replace h := (br h).1 c9
      exact B71 a1 (si v 19 ((v.1 19) + 1)) _ _ _ h hP hD hS (lv_sub hl [0, 1] rfl)
    · replace h := (br h).2 c9
      refine lv_iload_n hx hb dX12_sign_23 rfl (lv_at hl 1 rfl) ?_
      refine lv_bipush (v := 41) hx hb dX12_sign_24 (by decide) ?_
      refine lv_icmp_eq (tgt := 71) hx hb dX12_sign_26 (by decide) (fun c9 => ?_) (fun c9 => ?_)
      · replace h := (br h).1 c9
        exact B71 a1 (si v 19 ((v.1 19) + 1)) _ _ _ h hP hD hS (lv_sub hl [0, 1] rfl)
      · replace h := (br h).2 c9
        refine lv_iload_n hx hb dX12_sign_29 rfl (lv_at hl 1 rfl) ?_
        refine lv_bipush (v := 43) hx hb dX12_sign_30 (by decide) ?_
        refine lv_icmp_eq (tgt := 71) hx hb dX12_sign_32 (by decide) (fun c9 => ?_) (fun c9 => ?_)
        · replace h := (br h).1 c9
          exact B71 a1 (si v 19 ((v.1 19) + 1)) _ _ _ h hP hD hS (lv_sub hl [0, 1] rfl)
        · replace h := (br h).2 c9
          refine lv_iload_n hx hb dX12_sign_35 rfl (lv_at hl 1 rfl) ?_
          refine lv_bipush (v := 45) hx hb dX12_sign_36 (by decide) ?_
          refine lv_icmp_eq (tgt := 71) hx hb dX12_sign_38 (by decide) (fun c9 => ?_) (fun c9 => ?_)
          · replace h := (br h).1 c9
            exact B71 a1 (si v 19 ((v.1 19) + 1)) _ _ _ h hP hD hS (lv_sub hl [0, 1] rfl)
          · replace h := (br h).2 c9
            refine lv_iload_n hx hb dX12_sign_41 rfl (lv_at hl 1 rfl) ?_
            refine lv_bipush (v := 42) hx hb dX12_sign_42 (by decide) ?_
            refine lv_icmp_eq (tgt := 71) hx hb dX12_sign_44 (by decide) (fun c9 => ?_) (fun c9 => ?_)
            · replace h := (br h).1 c9
              exact B71 a1 (si v 19 ((v.1 19) + 1)) _ _ _ h hP hD hS (lv_sub hl [0, 1] rfl)
            · replace h := (br h).2 c9
              refine lv_iload_n hx hb dX12_sign_47 rfl (lv_at hl 1 rfl) ?_
              refine lv_bipush (v := 47) hx hb dX12_sign_48 (by decide) ?_
              refine lv_icmp_eq (tgt := 71) hx hb dX12_sign_50 (by decide) (fun c9 => ?_) (fun c9 => ?_)
              · replace h := (br h).1 c9
                exact B71 a1 (si v 19 ((v.1 19) + 1)) _ _ _ h hP hD hS (lv_sub hl [0, 1] rfl)
              · replace h := (br h).2 c9
                refine lv_iload_n hx hb dX12_sign_53 rfl (lv_at hl 1 rfl) ?_
                refine lv_bipush (v := 60) hx hb dX12_sign_54 (by decide) ?_
                refine lv_icmp_eq (tgt := 71) hx hb dX12_sign_56 (by decide) (fun c9 => ?_) (fun c9 => ?_)
                · replace h := (br h).1 c9
                  exact B71 a1 (si v 19 ((v.1 19) + 1)) _ _ _ h hP hD hS (lv_sub hl [0, 1] rfl)
                · replace h := (br h).2 c9
                  refine lv_iload_n hx hb dX12_sign_59 rfl (lv_at hl 1 rfl) ?_
                  refine lv_bipush (v := 61) hx hb dX12_sign_60 (by decide) ?_
                  refine lv_icmp_eq (tgt := 71) hx hb dX12_sign_62 (by decide) (fun c9 => ?_) (fun c9 => ?_)
                  · replace h := (br h).1 c9
                    exact B71 a1 (si v 19 ((v.1 19) + 1)) _ _ _ h hP hD hS (lv_sub hl [0, 1] rfl)
                  · replace h := (br h).2 c9
                    refine lv_iload_n hx hb dX12_sign_65 rfl (lv_at hl 1 rfl) ?_
                    refine lv_bipush (v := 62) hx hb dX12_sign_66 (by decide) ?_
                    refine lv_icmp_ne (tgt := 75) hx hb dX12_sign_68 (by decide) (fun c9 => ?_) (fun c9 => ?_)
                    · replace h := (br h).2 c9
                      refine lv_iconst (v := 5) hx hb dX12_sign_75 (by decide) ?_
                      exact B76 a1 5 (si v 19 ((v.1 19) + 1)) _ _ _ h hP hD hS (lv_sub hl [0, 1] rfl)
                    · replace h := (br h).1 c9
                      exact B71 a1 (si v 19 ((v.1 19) + 1)) _ _ _ h hP hD hS (lv_sub hl [0, 1] rfl)
theorem hd_X12_begins : yX12_begins.cls = RX12 ∧ yX12_begins.cls ≠ "java/lang/invoke/MethodHandle" ∧ yX12_begins.cls ≠ "java/lang/invoke/VarHandle" ∧ (parseMethodDescriptor yX12_begins.desc).map (fun d => d.parameters.length) = some 0 := ⟨rfl, by decide +kernel, by decide +kernel, by decide +kernel⟩
def f_X12_begins_b129 (N : Nat) (v : VV) (x1 : Int32) (z0 : Int32) (z1 : Int32) : Option (((Int32 × VV) ⊕ (VV))) :=
  gin z1 69 (gin x1 69 (gin x1 69 (gin x1 69 (gin x1 69 (some (.inl (x1 + 1, sr (sr (sr (sr (sr v 43 z1.toNatClampNeg z0) 44 x1.toNatClampNeg ((-1))) 45 x1.toNatClampNeg ((-1))) 46 x1.toNatClampNeg ((-1))) 47 x1.toNatClampNeg ((-1)))))))))
def f_X12_begins_s92 (N : Nat) (v : VV) (x1 : Int32) : Option (((Int32 × VV) ⊕ (VV))) :=
  if (3 : Int32) ≤ x1 then inrO (some v) else gin x1 69 (if v.2.1 3 2 ≤ x1 then f_X12_begins_b129 N (sr v 42 x1.toNatClampNeg 0) x1 0 x1 else gin x1 6 (f_X12_begins_b129 N (sr v 42 x1.toNatClampNeg 0) x1 (v.2.1 11 x1.toNatClampNeg) x1))
def f_X12_begins_s43 (N : Nat) (v : VV) (x1 : Int32) : Option (((Int32 × VV) ⊕ (VV))) :=
  if (8 : Int32) ≤ x1 then inrO (itr (fun q : Int32 × VV => f_X12_begins_s92 N q.2 q.1) N (0, v)) else gin x1 184 (gin x1 184 (gin x1 184 (gin x1 184 (gin x1 184 (some (.inl (x1 + 1, sr (sr (sr (sr (sr v 37 x1.toNatClampNeg ((-1))) 38 x1.toNatClampNeg 0) 39 x1.toNatClampNeg 0) 40 x1.toNatClampNeg 0) 41 x1.toNatClampNeg 0)))))))
def f_X12_begins (N : Nat) (v : VV) : Option (VV) :=
  itr (fun q : Int32 × VV => f_X12_begins_s43 N q.2 q.1) N (0, sr (sr (sr (sr (sr v 32 0 0) 33 0 0) 34 0 0) 35 0 0) 36 0 (v.2.1 3 7))
set_option maxHeartbeats 4000000 in
set_option maxRecDepth 100000 in
theorem k_X12_begins (l : Launch) (G : va_G) (cy : Nat → ClassId) (ev : Nat → Nat) (N : Nat) (ad : Nat → Nat) (v : VV)  (res : VV) (h : f_X12_begins N v = some res) : MetV l yX12_begins cX12_begins 2 none 0 0 G cy ev [.ref (ad 0)] (cX12 cy ad v) (cX12 cy ad res) := by
  refine MetQ.start (by decide +kernel) (Nat.le_of_ble_eq_true rfl) (fun p e s m args below meth c A ls hx hb hr hml hown hts hlocks hK hP hD hA hl hE => ?_)
  have hS : va_S A s.heap s.heap [] := va_S.rf
  have hown : s.vm.findClass RX12 = some m.cls := hown
  have hl : lv_has ls 2 [(0, .ref (ad 0))] := hl
  have L92 : ∀ (n : Nat) (x1 : Int32) (v : VV) (H : Heap) (locs : List Loc) (ls : Array Slot), itr (fun q : Int32 × VV => f_X12_begins_s92 N q.2 q.1) n (x1, v) = some res → va_P G vwCl (cX12 cy ad v) H → va_D A (cX12 cy ad v) → va_S A s.heap H locs → lv_has ls 2 [(0, .ref (ad 0)), (1, .int x1)] → W p l e (rmX 0 0) s m args below meth c H locs 0 0 (MQ below (mQv G cy A (cX12 cy ad res)) args s 0 0 A) (F0 m 92 ls []) := by
    intro n
    induction n with
    | zero => intro x1 v H locs ls h; exact (itr_zero h).elim
    | succ n ih1 =>
      intro x1 v H locs ls h hP hD hS hl
      obtain ⟨y1, h, hy1⟩ := itr_inv h
      have h : f_X12_begins_s92 N v x1 = some y1 := h
      have B129 : ∀ (x1 : Int32) (z0 : Int32) (z1 : Int32) (v : VV) (H : Heap) (locs : List Loc) (ls : Array Slot), f_X12_begins_b129 N v x1 z0 z1 = some y1 → va_P G vwCl (cX12 cy ad v) H → va_D A (cX12 cy ad v) → va_S A s.heap H locs → lv_has ls 2 [(0, .ref (ad 0)), (1, .int x1)] → W p l e (rmX 0 0) s m args below meth c H locs 0 0 (MQ below (mQv G cy A (cX12 cy ad res)) args s 0 0 A) (F0 m 129 ls [.int z0, .int z1, .ref (ad 44)]) := by
        intro x1 z0 z1 v H locs ls h hP hD hS hl
        delta f_X12_begins_b129 at h
        replace h := gin_inv h
        obtain ⟨h9, h⟩ := h
        refine st_X12_43 (j := z1.toNatClampNeg) hx hb hK hP hD hS h9 rfl dX12_begins_129 (fun H locs hP hD hS => ?_)
        refine lv_aload_n hx hb dX12_begins_130 rfl (lv_at hl 0 rfl) ?_
        refine gf_X12_44 hx hb hts hown hK hP dX12_begins_131 ?_
        refine lv_iload_n hx hb dX12_begins_134 rfl (lv_at hl 1 rfl) ?_
        refine lv_iconst (v := (-1)) hx hb dX12_begins_135 (by decide) ?_
        replace h := gin_inv h
        obtain ⟨h9, h⟩ := h
        refine st_X12_44 (j := x1.toNatClampNeg) hx hb hK hP hD hS h9 rfl dX12_begins_136 (fun H locs hP hD hS => ?_)
        refine lv_aload_n hx hb dX12_begins_137 rfl (lv_at hl 0 rfl) ?_
        refine gf_X12_45 hx hb hts hown hK hP dX12_begins_138 ?_
        refine lv_iload_n hx hb dX12_begins_141 rfl (lv_at hl 1 rfl) ?_
        refine lv_iconst (v := (-1)) hx hb dX12_begins_142 (by decide) ?_
        replace h := gin_inv h
        obtain ⟨h9, h⟩ := h
        refine st_X12_45 (j := x1.toNatClampNeg) hx hb hK hP hD hS h9 rfl dX12_begins_143 (fun H locs hP hD hS => ?_)
        refine lv_aload_n hx hb dX12_begins_144 rfl (lv_at hl 0 rfl) ?_
        refine gf_X12_46 hx hb hts hown hK hP dX12_begins_145 ?_
        refine lv_iload_n hx hb dX12_begins_148 rfl (lv_at hl 1 rfl) ?_
        refine lv_iconst (v := (-1)) hx hb dX12_begins_149 (by decide) ?_
        replace h := gin_inv h
        obtain ⟨h9, h⟩ := h
        refine st_X12_46 (j := x1.toNatClampNeg) hx hb hK hP hD hS h9 rfl dX12_begins_150 (fun H locs hP hD hS => ?_)
        refine lv_aload_n hx hb dX12_begins_151 rfl (lv_at hl 0 rfl) ?_
        refine gf_X12_47 hx hb hts hown hK hP dX12_begins_152 ?_
        refine lv_iload_n hx hb dX12_begins_155 rfl (lv_at hl 1 rfl) ?_
        refine lv_iconst (v := (-1)) hx hb dX12_begins_156 (by decide) ?_
        replace h := gin_inv h
        obtain ⟨h9, h⟩ := h
        refine st_X12_47 (j := x1.toNatClampNeg) hx hb hK hP hD hS h9 rfl dX12_begins_157 (fun H locs hP hD hS => ?_)
        refine lv_iinc (v := x1 + 1) (lv' := [(1, .int (x1 + 1)), (0, .ref (ad 0))]) hx hb dX12_begins_158 hl (k := 1) rfl rfl (by decide) rfl (fun ls hl => ?_)
        refine lv_goto (tgt := 92) hx hb dX12_begins_161 (by decide) ?_
        replace h := itr_back h hy1
        exact ih1 (x1 + 1) (sr (sr (sr (sr (sr v 43 z1.toNatClampNeg z0) 44 x1.toNatClampNeg ((-1))) 45 x1.toNatClampNeg ((-1))) 46 x1.toNatClampNeg ((-1))) 47 x1.toNatClampNeg ((-1))) _ _ _ h hP hD hS (lv_sub hl [1, 0] rfl)
      delta f_X12_begins_s92 at h
      refine lv_iload_n hx hb dX12_begins_92 rfl (lv_at hl 1 rfl) ?_
      refine lv_iconst (v := 3) hx hb dX12_begins_93 (by decide) ?_
      refine lv_icmp_ge (tgt := 164) hx hb dX12_begins_94 (by decide) (fun c9 => ?_) (fun c9 => ?_)
      · replace h := (br h).1 c9
        replace h := itr_exit h hy1
        exact retV (fw := fun q => cX12 cy ad q) h hx hb hr hlocks hK hP hD hS dX12_begins_164
      · replace h := (br h).2 c9
        refine lv_aload_n hx hb dX12_begins_97 rfl (lv_at hl 0 rfl) ?_
        refine gf_X12_42 hx hb hts hown hK hP dX12_begins_98 ?_
        refine lv_iload_n hx hb dX12_begins_101 rfl (lv_at hl 1 rfl) ?_
        refine lv_iconst (v := 0) hx hb dX12_begins_102 (by decide) ?_
        replace h := gin_inv h
        obtain ⟨h9, h⟩ := h
        refine st_X12_42 (j := x1.toNatClampNeg) hx hb hK hP hD hS h9 rfl dX12_begins_103 (fun H locs hP hD hS => ?_)
        refine lv_aload_n hx hb dX12_begins_104 rfl (lv_at hl 0 rfl) ?_
        refine gf_X12_43 hx hb hts hown hK hP dX12_begins_105 ?_
        refine lv_iload_n hx hb dX12_begins_108 rfl (lv_at hl 1 rfl) ?_
        refine lv_iload_n hx hb dX12_begins_109 rfl (lv_at hl 1 rfl) ?_
        refine lv_aload_n hx hb dX12_begins_110 rfl (lv_at hl 0 rfl) ?_
        refine gf_X12_3 hx hb hts hown hK hP dX12_begins_111 ?_
        refine lv_iconst (v := 2) hx hb dX12_begins_114 (by decide) ?_
        refine ld_X12_3 (f := v.2.1 3) (j := 2) hx hb hK hP rfl (vin_dec (by decide)) (by decide) dX12_begins_115 ?_
        refine lv_icmp_ge (tgt := 128) hx hb dX12_begins_116 (by decide) (fun c9 => ?_) (fun c9 => ?_)
        · replace h := (br h).1 c9
          refine lv_iconst (v := 0) hx hb dX12_begins_128 (by decide) ?_
          exact B129 x1 0 x1 (sr v 42 x1.toNatClampNeg 0) _ _ _ h hP hD hS (lv_sub hl [0, 1] rfl)
        · replace h := (br h).2 c9
          refine lv_aload_n hx hb dX12_begins_119 rfl (lv_at hl 0 rfl) ?_
          refine gf_X12_11 hx hb hts hown hK hP dX12_begins_120 ?_
          refine lv_iload_n hx hb dX12_begins_123 rfl (lv_at hl 1 rfl) ?_
          replace h := gin_inv h
          obtain ⟨h9, h⟩ := h
          refine ld_X12_11 (f := v.2.1 11) (j := x1.toNatClampNeg) hx hb hK hP rfl h9 rfl dX12_begins_124 ?_
          refine lv_goto (tgt := 129) hx hb dX12_begins_125 (by decide) ?_
          exact B129 x1 (v.2.1 11 x1.toNatClampNeg) x1 (sr v 42 x1.toNatClampNeg 0) _ _ _ h hP hD hS (lv_sub hl [0, 1] rfl)
  have L43 : ∀ (n : Nat) (x1 : Int32) (v : VV) (H : Heap) (locs : List Loc) (ls : Array Slot), itr (fun q : Int32 × VV => f_X12_begins_s43 N q.2 q.1) n (x1, v) = some res → va_P G vwCl (cX12 cy ad v) H → va_D A (cX12 cy ad v) → va_S A s.heap H locs → lv_has ls 2 [(0, .ref (ad 0)), (1, .int x1)] → W p l e (rmX 0 0) s m args below meth c H locs 0 0 (MQ below (mQv G cy A (cX12 cy ad res)) args s 0 0 A) (F0 m 43 ls []) := by
    intro n
    induction n with
    | zero => intro x1 v H locs ls h; exact (itr_zero h).elim
    | succ n ih1 =>
      intro x1 v H locs ls h hP hD hS hl
      obtain ⟨y1, h, hy1⟩ := itr_inv h
      have h : f_X12_begins_s43 N v x1 = some y1 := h
      delta f_X12_begins_s43 at h
      refine lv_iload_n hx hb dX12_begins_43 rfl (lv_at hl 1 rfl) ?_
      refine lv_bipush (v := 8) hx hb dX12_begins_44 (by decide) ?_
      refine lv_icmp_ge (tgt := 90) hx hb dX12_begins_46 (by decide) (fun c9 => ?_) (fun c9 => ?_)
      · replace h := (br h).1 c9
        replace h := itr_exit h hy1
        refine lv_iconst (v := 0) hx hb dX12_begins_90 (by decide) ?_
        refine lv_istore_n (lv' := [(1, .int 0), (0, .ref (ad 0))]) hx hb dX12_begins_91 rfl hl (by decide) rfl (fun ls hl => ?_)
        exact L92  N 0 v _ _ _ h hP hD hS (lv_sub hl [1, 0] rfl)
      · replace h := (br h).2 c9
        refine lv_aload_n hx hb dX12_begins_49 rfl (lv_at hl 0 rfl) ?_
        refine gf_X12_37 hx hb hts hown hK hP dX12_begins_50 ?_
        refine lv_iload_n hx hb dX12_begins_53 rfl (lv_at hl 1 rfl) ?_
        refine lv_iconst (v := (-1)) hx hb dX12_begins_54 (by decide) ?_
        replace h := gin_inv h
        obtain ⟨h9, h⟩ := h
        refine st_X12_37 (j := x1.toNatClampNeg) hx hb hK hP hD hS h9 rfl dX12_begins_55 (fun H locs hP hD hS => ?_)
        refine lv_aload_n hx hb dX12_begins_56 rfl (lv_at hl 0 rfl) ?_
        refine gf_X12_38 hx hb hts hown hK hP dX12_begins_57 ?_
        refine lv_iload_n hx hb dX12_begins_60 rfl (lv_at hl 1 rfl) ?_
        refine lv_iconst (v := 0) hx hb dX12_begins_61 (by decide) ?_
        replace h := gin_inv h
        obtain ⟨h9, h⟩ := h
        refine st_X12_38 (j := x1.toNatClampNeg) hx hb hK hP hD hS h9 rfl dX12_begins_62 (fun H locs hP hD hS => ?_)
        refine lv_aload_n hx hb dX12_begins_63 rfl (lv_at hl 0 rfl) ?_
        refine gf_X12_39 hx hb hts hown hK hP dX12_begins_64 ?_
        refine lv_iload_n hx hb dX12_begins_67 rfl (lv_at hl 1 rfl) ?_
        refine lv_iconst (v := 0) hx hb dX12_begins_68 (by decide) ?_
        replace h := gin_inv h
        obtain ⟨h9, h⟩ := h
        refine st_X12_39 (j := x1.toNatClampNeg) hx hb hK hP hD hS h9 rfl dX12_begins_69 (fun H locs hP hD hS => ?_)
        refine lv_aload_n hx hb dX12_begins_70 rfl (lv_at hl 0 rfl) ?_
        refine gf_X12_40 hx hb hts hown hK hP dX12_begins_71 ?_
        refine lv_iload_n hx hb dX12_begins_74 rfl (lv_at hl 1 rfl) ?_
        refine lv_iconst (v := 0) hx hb dX12_begins_75 (by decide) ?_
        replace h := gin_inv h
        obtain ⟨h9, h⟩ := h
        refine st_X12_40 (j := x1.toNatClampNeg) hx hb hK hP hD hS h9 rfl dX12_begins_76 (fun H locs hP hD hS => ?_)
        refine lv_aload_n hx hb dX12_begins_77 rfl (lv_at hl 0 rfl) ?_
        refine gf_X12_41 hx hb hts hown hK hP dX12_begins_78 ?_
        refine lv_iload_n hx hb dX12_begins_81 rfl (lv_at hl 1 rfl) ?_
        refine lv_iconst (v := 0) hx hb dX12_begins_82 (by decide) ?_
        replace h := gin_inv h
        obtain ⟨h9, h⟩ := h
        refine st_X12_41 (j := x1.toNatClampNeg) hx hb hK hP hD hS h9 rfl dX12_begins_83 (fun H locs hP hD hS => ?_)
        refine lv_iinc (v := x1 + 1) (lv' := [(1, .int (x1 + 1)), (0, .ref (ad 0))]) hx hb dX12_begins_84 hl (k := 1) rfl rfl (by decide) rfl (fun ls hl => ?_)
        refine lv_goto (tgt := 43) hx hb dX12_begins_87 (by decide) ?_
        replace h := itr_back h hy1
        exact ih1 (x1 + 1) (sr (sr (sr (sr (sr v 37 x1.toNatClampNeg ((-1))) 38 x1.toNatClampNeg 0) 39 x1.toNatClampNeg 0) 40 x1.toNatClampNeg 0) 41 x1.toNatClampNeg 0) _ _ _ h hP hD hS (lv_sub hl [1, 0] rfl)
  delta f_X12_begins at h
  refine lv_aload_n hx hb dX12_begins_0 rfl (lv_at hl 0 rfl) ?_
  refine gf_X12_32 hx hb hts hown hK hP dX12_begins_1 ?_
  refine lv_iconst (v := 0) hx hb dX12_begins_4 (by decide) ?_
  refine lv_iconst (v := 0) hx hb dX12_begins_5 (by decide) ?_
  refine st_X12_32 (j := 0) hx hb hK hP hD hS (vin_dec (by decide)) (by decide) dX12_begins_6 (fun H locs hP hD hS => ?_)
  refine lv_aload_n hx hb dX12_begins_7 rfl (lv_at hl 0 rfl) ?_
  refine gf_X12_33 hx hb hts hown hK hP dX12_begins_8 ?_
  refine lv_iconst (v := 0) hx hb dX12_begins_11 (by decide) ?_
  refine lv_iconst (v := 0) hx hb dX12_begins_12 (by decide) ?_
  refine st_X12_33 (j := 0) hx hb hK hP hD hS (vin_dec (by decide)) (by decide) dX12_begins_13 (fun H locs hP hD hS => ?_)
  refine lv_aload_n hx hb dX12_begins_14 rfl (lv_at hl 0 rfl) ?_
  refine gf_X12_34 hx hb hts hown hK hP dX12_begins_15 ?_
  refine lv_iconst (v := 0) hx hb dX12_begins_18 (by decide) ?_
  refine lv_iconst (v := 0) hx hb dX12_begins_19 (by decide) ?_
  refine st_X12_34 (j := 0) hx hb hK hP hD hS (vin_dec (by decide)) (by decide) dX12_begins_20 (fun H locs hP hD hS => ?_)
  refine lv_aload_n hx hb dX12_begins_21 rfl (lv_at hl 0 rfl) ?_
  refine gf_X12_35 hx hb hts hown hK hP dX12_begins_22 ?_
  refine lv_iconst (v := 0) hx hb dX12_begins_25 (by decide) ?_
  refine lv_iconst (v := 0) hx hb dX12_begins_26 (by decide) ?_
  refine st_X12_35 (j := 0) hx hb hK hP hD hS (vin_dec (by decide)) (by decide) dX12_begins_27 (fun H locs hP hD hS => ?_)
  refine lv_aload_n hx hb dX12_begins_28 rfl (lv_at hl 0 rfl) ?_
  refine gf_X12_36 hx hb hts hown hK hP dX12_begins_29 ?_
  refine lv_iconst (v := 0) hx hb dX12_begins_32 (by decide) ?_
  refine lv_aload_n hx hb dX12_begins_33 rfl (lv_at hl 0 rfl) ?_
  refine gf_X12_3 hx hb hts hown hK hP dX12_begins_34 ?_
  refine lv_bipush (v := 7) hx hb dX12_begins_37 (by decide) ?_
  refine ld_X12_3 (f := v.2.1 3) (j := 7) hx hb hK hP rfl (vin_dec (by decide)) (by decide) dX12_begins_39 ?_
  refine st_X12_36 (j := 0) hx hb hK hP hD hS (vin_dec (by decide)) (by decide) dX12_begins_40 (fun H locs hP hD hS => ?_)
  refine lv_iconst (v := 0) hx hb dX12_begins_41 (by decide) ?_
  refine lv_istore_n (lv' := [(1, .int 0), (0, .ref (ad 0))]) hx hb dX12_begins_42 rfl hl (by decide) rfl (fun ls hl => ?_)
  exact L43  N 0 (sr (sr (sr (sr (sr v 32 0 0) 33 0 0) 34 0 0) 35 0 0) 36 0 (v.2.1 3 7)) _ _ _ h hP hD hS (lv_sub hl [1, 0] rfl)
theorem hd_X12_copies : yX12_copies.cls = RX12 ∧ yX12_copies.cls ≠ "java/lang/invoke/MethodHandle" ∧ yX12_copies.cls ≠ "java/lang/invoke/VarHandle" ∧ (parseMethodDescriptor yX12_copies.desc).map (fun d => d.parameters.length) = some 2 := ⟨rfl, by decide +kernel, by decide +kernel, by decide +kernel⟩
def f_X12_copies_s162 (N : Nat) (v : VV) (x1 : Int32) (x2 : Int32) (x3 : Int32) : Option (((Int32 × VV) ⊕ (VV))) :=
  if (3 : Int32) ≤ x3 then inrO (some v) else gin ((3 * x2) + x3) 69 (gin ((3 * x1) + x3) 69 (gin ((3 * x2) + x3) 69 (gin ((3 * x1) + x3) 69 (gin ((3 * x2) + x3) 69 (gin ((3 * x1) + x3) 69 (gin ((3 * x2) + x3) 69 (gin ((3 * x1) + x3) 69 (gin ((3 * x2) + x3) 69 (gin ((3 * x1) + x3) 69 (gin ((3 * x2) + x3) 69 (gin ((3 * x1) + x3) 69 (some (.inl (x3 + 1, sr (sr (sr (sr (sr (sr v 42 (((3 * x1) + x3).toNatClampNeg) (v.2.1 42 (((3 * x2) + x3).toNatClampNeg))) 43 (((3 * x1) + x3).toNatClampNeg) (v.2.1 43 (((3 * x2) + x3).toNatClampNeg))) 44 (((3 * x1) + x3).toNatClampNeg) (v.2.1 44 (((3 * x2) + x3).toNatClampNeg))) 45 (((3 * x1) + x3).toNatClampNeg) (v.2.1 45 (((3 * x2) + x3).toNatClampNeg))) 46 (((3 * x1) + x3).toNatClampNeg) (v.2.1 46 (((3 * x2) + x3).toNatClampNeg))) 47 (((3 * x1) + x3).toNatClampNeg) (v.2.1 47 (((3 * x2) + x3).toNatClampNeg))))))))))))))))
def f_X12_copies_s62 (N : Nat) (v : VV) (x1 : Int32) (x2 : Int32) (x3 : Int32) : Option (((Int32 × VV) ⊕ (VV))) :=
  if (8 : Int32) ≤ x3 then inrO (itr (fun q : Int32 × VV => f_X12_copies_s162 N q.2 x1 x2 q.1) N (0, v)) else gin ((8 * x2) + x3) 184 (gin ((8 * x1) + x3) 184 (gin ((8 * x2) + x3) 184 (gin ((8 * x1) + x3) 184 (gin ((8 * x2) + x3) 184 (gin ((8 * x1) + x3) 184 (gin ((8 * x2) + x3) 184 (gin ((8 * x1) + x3) 184 (gin ((8 * x2) + x3) 184 (gin ((8 * x1) + x3) 184 (some (.inl (x3 + 1, sr (sr (sr (sr (sr v 37 (((8 * x1) + x3).toNatClampNeg) (v.2.1 37 (((8 * x2) + x3).toNatClampNeg))) 38 (((8 * x1) + x3).toNatClampNeg) (v.2.1 38 (((8 * x2) + x3).toNatClampNeg))) 39 (((8 * x1) + x3).toNatClampNeg) (v.2.1 39 (((8 * x2) + x3).toNatClampNeg))) 40 (((8 * x1) + x3).toNatClampNeg) (v.2.1 40 (((8 * x2) + x3).toNatClampNeg))) 41 (((8 * x1) + x3).toNatClampNeg) (v.2.1 41 (((8 * x2) + x3).toNatClampNeg))))))))))))))
def f_X12_copies (N : Nat) (v : VV) (a1 : Int32) (a2 : Int32) : Option (VV) :=
  gin a2 23 (gin a1 23 (gin a2 23 (gin a1 23 (gin a2 23 (gin a1 23 (gin a2 23 (gin a1 23 (gin a2 23 (gin a1 23 (itr (fun q : Int32 × VV => f_X12_copies_s62 N q.2 a1 a2 q.1) N (0, sr (sr (sr (sr (sr v 32 a1.toNatClampNeg (v.2.1 32 a2.toNatClampNeg)) 33 a1.toNatClampNeg (v.2.1 33 a2.toNatClampNeg)) 34 a1.toNatClampNeg (v.2.1 34 a2.toNatClampNeg)) 35 a1.toNatClampNeg (v.2.1 35 a2.toNatClampNeg)) 36 a1.toNatClampNeg (v.2.1 36 a2.toNatClampNeg))))))))))))
set_option maxHeartbeats 4000000 in
set_option maxRecDepth 100000 in
theorem k_X12_copies (l : Launch) (G : va_G) (cy : Nat → ClassId) (ev : Nat → Nat) (N : Nat) (ad : Nat → Nat) (v : VV) (a1 : Int32) (a2 : Int32) (res : VV) (h : f_X12_copies N v a1 a2 = some res) : MetV l yX12_copies cX12_copies 6 none 0 0 G cy ev [.ref (ad 0), .int a1, .int a2] (cX12 cy ad v) (cX12 cy ad res) := by
  refine MetQ.start (by decide +kernel) (Nat.le_of_ble_eq_true rfl) (fun p e s m args below meth c A ls hx hb hr hml hown hts hlocks hK hP hD hA hl hE => ?_)
  have hS : va_S A s.heap s.heap [] := va_S.rf
  have hown : s.vm.findClass RX12 = some m.cls := hown
  have hl : lv_has ls 6 [(0, .ref (ad 0)), (1, .int a1), (2, .int a2)] := hl
  have L162 : ∀ (x1 : Int32) (x2 : Int32) (n : Nat) (x3 : Int32) (v : VV) (H : Heap) (locs : List Loc) (ls : Array Slot), itr (fun q : Int32 × VV => f_X12_copies_s162 N q.2 x1 x2 q.1) n (x3, v) = some res → va_P G vwCl (cX12 cy ad v) H → va_D A (cX12 cy ad v) → va_S A s.heap H locs → lv_has ls 6 [(0, .ref (ad 0)), (1, .int x1), (2, .int x2), (3, .int x3)] → W p l e (rmX 0 0) s m args below meth c H locs 0 0 (MQ below (mQv G cy A (cX12 cy ad res)) args s 0 0 A) (F0 m 162 ls []) := by
    intro x1 x2 n
    induction n with
    | zero => intro x3 v H locs ls h; exact (itr_zero h).elim
    | succ n ih1 =>
      intro x3 v H locs ls h hP hD hS hl
      obtain ⟨y1, h, hy1⟩ := itr_inv h
      have h : f_X12_copies_s162 N v x1 x2 x3 = some y1 := h
      delta f_X12_copies_s162 at h
      refine lv_iload_n hx hb dX12_copies_162 rfl (lv_at hl 3 rfl) ?_
      refine lv_iconst (v := 3) hx hb dX12_copies_163 (by decide) ?_
      refine lv_icmp_ge (tgt := 271) hx hb dX12_copies_164 (by decide) (fun c9 => ?_) (fun c9 => ?_)
      · replace h := (br h).1 c9
        replace h := itr_exit h hy1
        exact retV (fw := fun q => cX12 cy ad q) h hx hb hr hlocks hK hP hD hS dX12_copies_271
      · replace h := (br h).2 c9
        refine lv_iconst (v := 3) hx hb dX12_copies_167 (by decide) ?_
        refine lv_iload_n hx hb dX12_copies_168 rfl (lv_at hl 1 rfl) ?_
        refine lv_imul hx hb dX12_copies_169 ?_
        refine lv_iload_n hx hb dX12_copies_170 rfl (lv_at hl 3 rfl) ?_
        refine lv_iadd hx hb dX12_copies_171 ?_
        refine lv_istore (lv' := [(4, .int ((3 * x1) + x3)), (0, .ref (ad 0)), (1, .int x1), (2, .int x2), (3, .int x3)]) hx hb dX12_copies_172 hl (by decide) rfl (fun ls hl => ?_)
        refine lv_iconst (v := 3) hx hb dX12_copies_174 (by decide) ?_
        refine lv_iload_n hx hb dX12_copies_175 rfl (lv_at hl 3 rfl) ?_
        refine lv_imul hx hb dX12_copies_176 ?_
        refine lv_iload_n hx hb dX12_copies_177 rfl (lv_at hl 4 rfl) ?_
        refine lv_iadd hx hb dX12_copies_178 ?_
        refine lv_istore (lv' := [(5, .int ((3 * x2) + x3)), (4, .int ((3 * x1) + x3)), (0, .ref (ad 0)), (1, .int x1), (2, .int x2), (3, .int x3)]) hx hb dX12_copies_179 hl (by decide) rfl (fun ls hl => ?_)
        refine lv_aload_n hx hb dX12_copies_181 rfl (lv_at hl 2 rfl) ?_
        refine gf_X12_42 hx hb hts hown hK hP dX12_copies_182 ?_
        refine lv_iload hx hb dX12_copies_185 (lv_at hl 1 rfl) ?_
        refine lv_aload_n hx hb dX12_copies_187 rfl (lv_at hl 2 rfl) ?_
        refine gf_X12_42 hx hb hts hown hK hP dX12_copies_188 ?_
        refine lv_iload hx hb dX12_copies_191 (lv_at hl 0 rfl) ?_
        replace h := gin_inv h
        obtain ⟨h9, h⟩ := h
        refine ld_X12_42 (f := v.2.1 42) (j := ((3 * x2) + x3).toNatClampNeg) hx hb hK hP rfl h9 rfl dX12_copies_193 ?_
        replace h := gin_inv h
        obtain ⟨h9, h⟩ := h
        refine st_X12_42 (j := ((3 * x1) + x3).toNatClampNeg) hx hb hK hP hD hS h9 rfl dX12_copies_194 (fun H locs hP hD hS => ?_)
        refine lv_aload_n hx hb dX12_copies_195 rfl (lv_at hl 2 rfl) ?_
        refine gf_X12_43 hx hb hts hown hK hP dX12_copies_196 ?_
        refine lv_iload hx hb dX12_copies_199 (lv_at hl 1 rfl) ?_
        refine lv_aload_n hx hb dX12_copies_201 rfl (lv_at hl 2 rfl) ?_
        refine gf_X12_43 hx hb hts hown hK hP dX12_copies_202 ?_
        refine lv_iload hx hb dX12_copies_205 (lv_at hl 0 rfl) ?_
        replace h := gin_inv h
        obtain ⟨h9, h⟩ := h
        refine ld_X12_43 (f := v.2.1 43) (j := ((3 * x2) + x3).toNatClampNeg) hx hb hK hP rfl h9 rfl dX12_copies_207 ?_
        replace h := gin_inv h
        obtain ⟨h9, h⟩ := h
        refine st_X12_43 (j := ((3 * x1) + x3).toNatClampNeg) hx hb hK hP hD hS h9 rfl dX12_copies_208 (fun H locs hP hD hS => ?_)
        refine lv_aload_n hx hb dX12_copies_209 rfl (lv_at hl 2 rfl) ?_
        refine gf_X12_44 hx hb hts hown hK hP dX12_copies_210 ?_
        refine lv_iload hx hb dX12_copies_213 (lv_at hl 1 rfl) ?_
        refine lv_aload_n hx hb dX12_copies_215 rfl (lv_at hl 2 rfl) ?_
        refine gf_X12_44 hx hb hts hown hK hP dX12_copies_216 ?_
        refine lv_iload hx hb dX12_copies_219 (lv_at hl 0 rfl) ?_
        replace h := gin_inv h
        obtain ⟨h9, h⟩ := h
        refine ld_X12_44 (f := v.2.1 44) (j := ((3 * x2) + x3).toNatClampNeg) hx hb hK hP rfl h9 rfl dX12_copies_221 ?_
        replace h := gin_inv h
        obtain ⟨h9, h⟩ := h
        refine st_X12_44 (j := ((3 * x1) + x3).toNatClampNeg) hx hb hK hP hD hS h9 rfl dX12_copies_222 (fun H locs hP hD hS => ?_)
        refine lv_aload_n hx hb dX12_copies_223 rfl (lv_at hl 2 rfl) ?_
        refine gf_X12_45 hx hb hts hown hK hP dX12_copies_224 ?_
        refine lv_iload hx hb dX12_copies_227 (lv_at hl 1 rfl) ?_
        refine lv_aload_n hx hb dX12_copies_229 rfl (lv_at hl 2 rfl) ?_
        refine gf_X12_45 hx hb hts hown hK hP dX12_copies_230 ?_
        refine lv_iload hx hb dX12_copies_233 (lv_at hl 0 rfl) ?_
        replace h := gin_inv h
        obtain ⟨h9, h⟩ := h
        refine ld_X12_45 (f := v.2.1 45) (j := ((3 * x2) + x3).toNatClampNeg) hx hb hK hP rfl h9 rfl dX12_copies_235 ?_
        replace h := gin_inv h
        obtain ⟨h9, h⟩ := h
        refine st_X12_45 (j := ((3 * x1) + x3).toNatClampNeg) hx hb hK hP hD hS h9 rfl dX12_copies_236 (fun H locs hP hD hS => ?_)
        refine lv_aload_n hx hb dX12_copies_237 rfl (lv_at hl 2 rfl) ?_
        refine gf_X12_46 hx hb hts hown hK hP dX12_copies_238 ?_
        refine lv_iload hx hb dX12_copies_241 (lv_at hl 1 rfl) ?_
        refine lv_aload_n hx hb dX12_copies_243 rfl (lv_at hl 2 rfl) ?_
        refine gf_X12_46 hx hb hts hown hK hP dX12_copies_244 ?_
        refine lv_iload hx hb dX12_copies_247 (lv_at hl 0 rfl) ?_
        replace h := gin_inv h
        obtain ⟨h9, h⟩ := h
        refine ld_X12_46 (f := v.2.1 46) (j := ((3 * x2) + x3).toNatClampNeg) hx hb hK hP rfl h9 rfl dX12_copies_249 ?_
        replace h := gin_inv h
        obtain ⟨h9, h⟩ := h
        refine st_X12_46 (j := ((3 * x1) + x3).toNatClampNeg) hx hb hK hP hD hS h9 rfl dX12_copies_250 (fun H locs hP hD hS => ?_)
        refine lv_aload_n hx hb dX12_copies_251 rfl (lv_at hl 2 rfl) ?_
        refine gf_X12_47 hx hb hts hown hK hP dX12_copies_252 ?_
        refine lv_iload hx hb dX12_copies_255 (lv_at hl 1 rfl) ?_
        refine lv_aload_n hx hb dX12_copies_257 rfl (lv_at hl 2 rfl) ?_
        refine gf_X12_47 hx hb hts hown hK hP dX12_copies_258 ?_
        refine lv_iload hx hb dX12_copies_261 (lv_at hl 0 rfl) ?_
        replace h := gin_inv h
        obtain ⟨h9, h⟩ := h
        refine ld_X12_47 (f := v.2.1 47) (j := ((3 * x2) + x3).toNatClampNeg) hx hb hK hP rfl h9 rfl dX12_copies_263 ?_
        replace h := gin_inv h
        obtain ⟨h9, h⟩ := h
        refine st_X12_47 (j := ((3 * x1) + x3).toNatClampNeg) hx hb hK hP hD hS h9 rfl dX12_copies_264 (fun H locs hP hD hS => ?_)
        refine lv_iinc (v := x3 + 1) (lv' := [(3, .int (x3 + 1)), (5, .int ((3 * x2) + x3)), (4, .int ((3 * x1) + x3)), (0, .ref (ad 0)), (1, .int x1), (2, .int x2)]) hx hb dX12_copies_265 hl (k := 5) rfl rfl (by decide) rfl (fun ls hl => ?_)
        refine lv_goto (tgt := 162) hx hb dX12_copies_268 (by decide) ?_
        replace h := itr_back h hy1
        exact ih1 (x3 + 1) (sr (sr (sr (sr (sr (sr v 42 (((3 * x1) + x3).toNatClampNeg) (v.2.1 42 (((3 * x2) + x3).toNatClampNeg))) 43 (((3 * x1) + x3).toNatClampNeg) (v.2.1 43 (((3 * x2) + x3).toNatClampNeg))) 44 (((3 * x1) + x3).toNatClampNeg) (v.2.1 44 (((3 * x2) + x3).toNatClampNeg))) 45 (((3 * x1) + x3).toNatClampNeg) (v.2.1 45 (((3 * x2) + x3).toNatClampNeg))) 46 (((3 * x1) + x3).toNatClampNeg) (v.2.1 46 (((3 * x2) + x3).toNatClampNeg))) 47 (((3 * x1) + x3).toNatClampNeg) (v.2.1 47 (((3 * x2) + x3).toNatClampNeg))) _ _ _ h hP hD hS (lv_sub hl [3, 4, 5, 0] rfl)
  have L62 : ∀ (x1 : Int32) (x2 : Int32) (n : Nat) (x3 : Int32) (v : VV) (H : Heap) (locs : List Loc) (ls : Array Slot), itr (fun q : Int32 × VV => f_X12_copies_s62 N q.2 x1 x2 q.1) n (x3, v) = some res → va_P G vwCl (cX12 cy ad v) H → va_D A (cX12 cy ad v) → va_S A s.heap H locs → lv_has ls 6 [(0, .ref (ad 0)), (1, .int x1), (2, .int x2), (3, .int x3)] → W p l e (rmX 0 0) s m args below meth c H locs 0 0 (MQ below (mQv G cy A (cX12 cy ad res)) args s 0 0 A) (F0 m 62 ls []) := by
    intro x1 x2 n
    induction n with
    | zero => intro x3 v H locs ls h; exact (itr_zero h).elim
    | succ n ih1 =>
      intro x3 v H locs ls h hP hD hS hl
      obtain ⟨y1, h, hy1⟩ := itr_inv h
      have h : f_X12_copies_s62 N v x1 x2 x3 = some y1 := h
      delta f_X12_copies_s62 at h
      refine lv_iload_n hx hb dX12_copies_62 rfl (lv_at hl 3 rfl) ?_
      refine lv_bipush (v := 8) hx hb dX12_copies_63 (by decide) ?_
      refine lv_icmp_ge (tgt := 160) hx hb dX12_copies_65 (by decide) (fun c9 => ?_) (fun c9 => ?_)
      · replace h := (br h).1 c9
        replace h := itr_exit h hy1
        refine lv_iconst (v := 0) hx hb dX12_copies_160 (by decide) ?_
        refine lv_istore_n (lv' := [(3, .int 0), (0, .ref (ad 0)), (1, .int x1), (2, .int x2)]) hx hb dX12_copies_161 rfl hl (by decide) rfl (fun ls hl => ?_)
        exact L162 x1 x2 N 0 v _ _ _ h hP hD hS (lv_sub hl [1, 2, 3, 0] rfl)
      · replace h := (br h).2 c9
        refine lv_bipush (v := 8) hx hb dX12_copies_68 (by decide) ?_
        refine lv_iload_n hx hb dX12_copies_70 rfl (lv_at hl 1 rfl) ?_
        refine lv_imul hx hb dX12_copies_71 ?_
        refine lv_iload_n hx hb dX12_copies_72 rfl (lv_at hl 3 rfl) ?_
        refine lv_iadd hx hb dX12_copies_73 ?_
        refine lv_istore (lv' := [(4, .int ((8 * x1) + x3)), (0, .ref (ad 0)), (1, .int x1), (2, .int x2), (3, .int x3)]) hx hb dX12_copies_74 hl (by decide) rfl (fun ls hl => ?_)
        refine lv_bipush (v := 8) hx hb dX12_copies_76 (by decide) ?_
        refine lv_iload_n hx hb dX12_copies_78 rfl (lv_at hl 3 rfl) ?_
        refine lv_imul hx hb dX12_copies_79 ?_
        refine lv_iload_n hx hb dX12_copies_80 rfl (lv_at hl 4 rfl) ?_
        refine lv_iadd hx hb dX12_copies_81 ?_
        refine lv_istore (lv' := [(5, .int ((8 * x2) + x3)), (4, .int ((8 * x1) + x3)), (0, .ref (ad 0)), (1, .int x1), (2, .int x2), (3, .int x3)]) hx hb dX12_copies_82 hl (by decide) rfl (fun ls hl => ?_)
        refine lv_aload_n hx hb dX12_copies_84 rfl (lv_at hl 2 rfl) ?_
        refine gf_X12_37 hx hb hts hown hK hP dX12_copies_85 ?_
        refine lv_iload hx hb dX12_copies_88 (lv_at hl 1 rfl) ?_
        refine lv_aload_n hx hb dX12_copies_90 rfl (lv_at hl 2 rfl) ?_
        refine gf_X12_37 hx hb hts hown hK hP dX12_copies_91 ?_
        refine lv_iload hx hb dX12_copies_94 (lv_at hl 0 rfl) ?_
        replace h := gin_inv h
        obtain ⟨h9, h⟩ := h
        refine ld_X12_37 (f := v.2.1 37) (j := ((8 * x2) + x3).toNatClampNeg) hx hb hK hP rfl h9 rfl dX12_copies_96 ?_
        replace h := gin_inv h
        obtain ⟨h9, h⟩ := h
        refine st_X12_37 (j := ((8 * x1) + x3).toNatClampNeg) hx hb hK hP hD hS h9 rfl dX12_copies_97 (fun H locs hP hD hS => ?_)
        refine lv_aload_n hx hb dX12_copies_98 rfl (lv_at hl 2 rfl) ?_
        refine gf_X12_38 hx hb hts hown hK hP dX12_copies_99 ?_
        refine lv_iload hx hb dX12_copies_102 (lv_at hl 1 rfl) ?_
        refine lv_aload_n hx hb dX12_copies_104 rfl (lv_at hl 2 rfl) ?_
        refine gf_X12_38 hx hb hts hown hK hP dX12_copies_105 ?_
        refine lv_iload hx hb dX12_copies_108 (lv_at hl 0 rfl) ?_
        replace h := gin_inv h
        obtain ⟨h9, h⟩ := h
        refine ld_X12_38 (f := v.2.1 38) (j := ((8 * x2) + x3).toNatClampNeg) hx hb hK hP rfl h9 rfl dX12_copies_110 ?_
        replace h := gin_inv h
        obtain ⟨h9, h⟩ := h
        refine st_X12_38 (j := ((8 * x1) + x3).toNatClampNeg) hx hb hK hP hD hS h9 rfl dX12_copies_111 (fun H locs hP hD hS => ?_)
        refine lv_aload_n hx hb dX12_copies_112 rfl (lv_at hl 2 rfl) ?_
        refine gf_X12_39 hx hb hts hown hK hP dX12_copies_113 ?_
        refine lv_iload hx hb dX12_copies_116 (lv_at hl 1 rfl) ?_
        refine lv_aload_n hx hb dX12_copies_118 rfl (lv_at hl 2 rfl) ?_
        refine gf_X12_39 hx hb hts hown hK hP dX12_copies_119 ?_
        refine lv_iload hx hb dX12_copies_122 (lv_at hl 0 rfl) ?_
        replace h := gin_inv h
        obtain ⟨h9, h⟩ := h
        refine ld_X12_39 (f := v.2.1 39) (j := ((8 * x2) + x3).toNatClampNeg) hx hb hK hP rfl h9 rfl dX12_copies_124 ?_
        replace h := gin_inv h
        obtain ⟨h9, h⟩ := h
        refine st_X12_39 (j := ((8 * x1) + x3).toNatClampNeg) hx hb hK hP hD hS h9 rfl dX12_copies_125 (fun H locs hP hD hS => ?_)
        refine lv_aload_n hx hb dX12_copies_126 rfl (lv_at hl 2 rfl) ?_
        refine gf_X12_40 hx hb hts hown hK hP dX12_copies_127 ?_
        refine lv_iload hx hb dX12_copies_130 (lv_at hl 1 rfl) ?_
        refine lv_aload_n hx hb dX12_copies_132 rfl (lv_at hl 2 rfl) ?_
        refine gf_X12_40 hx hb hts hown hK hP dX12_copies_133 ?_
        refine lv_iload hx hb dX12_copies_136 (lv_at hl 0 rfl) ?_
        replace h := gin_inv h
        obtain ⟨h9, h⟩ := h
        refine ld_X12_40 (f := v.2.1 40) (j := ((8 * x2) + x3).toNatClampNeg) hx hb hK hP rfl h9 rfl dX12_copies_138 ?_
        replace h := gin_inv h
        obtain ⟨h9, h⟩ := h
        refine st_X12_40 (j := ((8 * x1) + x3).toNatClampNeg) hx hb hK hP hD hS h9 rfl dX12_copies_139 (fun H locs hP hD hS => ?_)
        refine lv_aload_n hx hb dX12_copies_140 rfl (lv_at hl 2 rfl) ?_
        refine gf_X12_41 hx hb hts hown hK hP dX12_copies_141 ?_
        refine lv_iload hx hb dX12_copies_144 (lv_at hl 1 rfl) ?_
        refine lv_aload_n hx hb dX12_copies_146 rfl (lv_at hl 2 rfl) ?_
        refine gf_X12_41 hx hb hts hown hK hP dX12_copies_147 ?_
        refine lv_iload hx hb dX12_copies_150 (lv_at hl 0 rfl) ?_
        replace h := gin_inv h
        obtain ⟨h9, h⟩ := h
        refine ld_X12_41 (f := v.2.1 41) (j := ((8 * x2) + x3).toNatClampNeg) hx hb hK hP rfl h9 rfl dX12_copies_152 ?_
        replace h := gin_inv h
        obtain ⟨h9, h⟩ := h
        refine st_X12_41 (j := ((8 * x1) + x3).toNatClampNeg) hx hb hK hP hD hS h9 rfl dX12_copies_153 (fun H locs hP hD hS => ?_)
        refine lv_iinc (v := x3 + 1) (lv' := [(3, .int (x3 + 1)), (5, .int ((8 * x2) + x3)), (4, .int ((8 * x1) + x3)), (0, .ref (ad 0)), (1, .int x1), (2, .int x2)]) hx hb dX12_copies_154 hl (k := 5) rfl rfl (by decide) rfl (fun ls hl => ?_)
        refine lv_goto (tgt := 62) hx hb dX12_copies_157 (by decide) ?_
        replace h := itr_back h hy1
        exact ih1 (x3 + 1) (sr (sr (sr (sr (sr v 37 (((8 * x1) + x3).toNatClampNeg) (v.2.1 37 (((8 * x2) + x3).toNatClampNeg))) 38 (((8 * x1) + x3).toNatClampNeg) (v.2.1 38 (((8 * x2) + x3).toNatClampNeg))) 39 (((8 * x1) + x3).toNatClampNeg) (v.2.1 39 (((8 * x2) + x3).toNatClampNeg))) 40 (((8 * x1) + x3).toNatClampNeg) (v.2.1 40 (((8 * x2) + x3).toNatClampNeg))) 41 (((8 * x1) + x3).toNatClampNeg) (v.2.1 41 (((8 * x2) + x3).toNatClampNeg))) _ _ _ h hP hD hS (lv_sub hl [3, 4, 5, 0] rfl)
  delta f_X12_copies at h
  refine lv_aload_n hx hb dX12_copies_0 rfl (lv_at hl 0 rfl) ?_
  refine gf_X12_32 hx hb hts hown hK hP dX12_copies_1 ?_
  refine lv_iload_n hx hb dX12_copies_4 rfl (lv_at hl 1 rfl) ?_
  refine lv_aload_n hx hb dX12_copies_5 rfl (lv_at hl 0 rfl) ?_
  refine gf_X12_32 hx hb hts hown hK hP dX12_copies_6 ?_
  refine lv_iload_n hx hb dX12_copies_9 rfl (lv_at hl 2 rfl) ?_
  replace h := gin_inv h
  obtain ⟨h9, h⟩ := h
  refine ld_X12_32 (f := v.2.1 32) (j := a2.toNatClampNeg) hx hb hK hP rfl h9 rfl dX12_copies_10 ?_
  replace h := gin_inv h
  obtain ⟨h9, h⟩ := h
  refine st_X12_32 (j := a1.toNatClampNeg) hx hb hK hP hD hS h9 rfl dX12_copies_11 (fun H locs hP hD hS => ?_)
  refine lv_aload_n hx hb dX12_copies_12 rfl (lv_at hl 0 rfl) ?_
  refine gf_X12_33 hx hb hts hown hK hP dX12_copies_13 ?_
  refine lv_iload_n hx hb dX12_copies_16 rfl (lv_at hl 1 rfl) ?_
  refine lv_aload_n hx hb dX12_copies_17 rfl (lv_at hl 0 rfl) ?_
  refine gf_X12_33 hx hb hts hown hK hP dX12_copies_18 ?_
  refine lv_iload_n hx hb dX12_copies_21 rfl (lv_at hl 2 rfl) ?_
  replace h := gin_inv h
  obtain ⟨h9, h⟩ := h
  refine ld_X12_33 (f := v.2.1 33) (j := a2.toNatClampNeg) hx hb hK hP rfl h9 rfl dX12_copies_22 ?_
  replace h := gin_inv h
  obtain ⟨h9, h⟩ := h
  refine st_X12_33 (j := a1.toNatClampNeg) hx hb hK hP hD hS h9 rfl dX12_copies_23 (fun H locs hP hD hS => ?_)
  refine lv_aload_n hx hb dX12_copies_24 rfl (lv_at hl 0 rfl) ?_
  refine gf_X12_34 hx hb hts hown hK hP dX12_copies_25 ?_
  refine lv_iload_n hx hb dX12_copies_28 rfl (lv_at hl 1 rfl) ?_
  refine lv_aload_n hx hb dX12_copies_29 rfl (lv_at hl 0 rfl) ?_
  refine gf_X12_34 hx hb hts hown hK hP dX12_copies_30 ?_
  refine lv_iload_n hx hb dX12_copies_33 rfl (lv_at hl 2 rfl) ?_
  replace h := gin_inv h
  obtain ⟨h9, h⟩ := h
  refine ld_X12_34 (f := v.2.1 34) (j := a2.toNatClampNeg) hx hb hK hP rfl h9 rfl dX12_copies_34 ?_
  replace h := gin_inv h
  obtain ⟨h9, h⟩ := h
  refine st_X12_34 (j := a1.toNatClampNeg) hx hb hK hP hD hS h9 rfl dX12_copies_35 (fun H locs hP hD hS => ?_)
  refine lv_aload_n hx hb dX12_copies_36 rfl (lv_at hl 0 rfl) ?_
  refine gf_X12_35 hx hb hts hown hK hP dX12_copies_37 ?_
  refine lv_iload_n hx hb dX12_copies_40 rfl (lv_at hl 1 rfl) ?_
  refine lv_aload_n hx hb dX12_copies_41 rfl (lv_at hl 0 rfl) ?_
  refine gf_X12_35 hx hb hts hown hK hP dX12_copies_42 ?_
  refine lv_iload_n hx hb dX12_copies_45 rfl (lv_at hl 2 rfl) ?_
  replace h := gin_inv h
  obtain ⟨h9, h⟩ := h
  refine ld_X12_35 (f := v.2.1 35) (j := a2.toNatClampNeg) hx hb hK hP rfl h9 rfl dX12_copies_46 ?_
  replace h := gin_inv h
  obtain ⟨h9, h⟩ := h
  refine st_X12_35 (j := a1.toNatClampNeg) hx hb hK hP hD hS h9 rfl dX12_copies_47 (fun H locs hP hD hS => ?_)
  refine lv_aload_n hx hb dX12_copies_48 rfl (lv_at hl 0 rfl) ?_
  refine gf_X12_36 hx hb hts hown hK hP dX12_copies_49 ?_
  refine lv_iload_n hx hb dX12_copies_52 rfl (lv_at hl 1 rfl) ?_
  refine lv_aload_n hx hb dX12_copies_53 rfl (lv_at hl 0 rfl) ?_
  refine gf_X12_36 hx hb hts hown hK hP dX12_copies_54 ?_
  refine lv_iload_n hx hb dX12_copies_57 rfl (lv_at hl 2 rfl) ?_
  replace h := gin_inv h
  obtain ⟨h9, h⟩ := h
  refine ld_X12_36 (f := v.2.1 36) (j := a2.toNatClampNeg) hx hb hK hP rfl h9 rfl dX12_copies_58 ?_
  replace h := gin_inv h
  obtain ⟨h9, h⟩ := h
  refine st_X12_36 (j := a1.toNatClampNeg) hx hb hK hP hD hS h9 rfl dX12_copies_59 (fun H locs hP hD hS => ?_)
  refine lv_iconst (v := 0) hx hb dX12_copies_60 (by decide) ?_
  refine lv_istore_n (lv' := [(3, .int 0), (0, .ref (ad 0)), (1, .int a1), (2, .int a2)]) hx hb dX12_copies_61 rfl hl (by decide) rfl (fun ls hl => ?_)
  exact L62 a1 a2 N 0 (sr (sr (sr (sr (sr v 32 a1.toNatClampNeg (v.2.1 32 a2.toNatClampNeg)) 33 a1.toNatClampNeg (v.2.1 33 a2.toNatClampNeg)) 34 a1.toNatClampNeg (v.2.1 34 a2.toNatClampNeg)) 35 a1.toNatClampNeg (v.2.1 35 a2.toNatClampNeg)) 36 a1.toNatClampNeg (v.2.1 36 a2.toNatClampNeg)) _ _ _ h hP hD hS (lv_sub hl [1, 2, 3, 0] rfl)
theorem hd_X12_withTicket : yX12_withTicket.cls = RX12 ∧ yX12_withTicket.cls ≠ "java/lang/invoke/MethodHandle" ∧ yX12_withTicket.cls ≠ "java/lang/invoke/VarHandle" ∧ (parseMethodDescriptor yX12_withTicket.desc).map (fun d => d.parameters.length) = some 1 := ⟨rfl, by decide +kernel, by decide +kernel, by decide +kernel⟩
def f_X12_withTicket_b35 (N : Nat) (v : VV) (x1 : Int32) (x3 : Int32) (z0 : Int32) (z1 : Int32) : Option (((Int32 × Int32) ⊕ (Int32))) :=
  some (.inl (z1 + z0, x3 + 1))
def f_X12_withTicket_s4 (N : Nat) (v : VV) (x1 : Int32) (x2 : Int32) (x3 : Int32) : Option (((Int32 × Int32) ⊕ (Int32))) :=
  if v.2.1 3 0 ≤ x3 then inrO (some x2) else gin x3 184 (if v.2.1 37 x3.toNatClampNeg = x1 then gin x3 16 (f_X12_withTicket_b35 N v x1 x3 (v.2.1 5 x3.toNatClampNeg) x2) else f_X12_withTicket_b35 N v x1 x3 0 x2)
def f_X12_withTicket (N : Nat) (v : VV) (a1 : Int32) : Option (Int32) :=
  itr (fun q : Int32 × Int32 => f_X12_withTicket_s4 N v a1 q.1 q.2) N (0, 0)
set_option maxHeartbeats 4000000 in
set_option maxRecDepth 100000 in
theorem k_X12_withTicket (l : Launch) (G : va_G) (cy : Nat → ClassId) (ev : Nat → Nat) (N : Nat) (ad : Nat → Nat) (v : VV) (a1 : Int32) (res : Int32) (h : f_X12_withTicket N v a1 = some res) : MetI l yX12_withTicket cX12_withTicket 4 (some .int) 0 0 G cy ev [.ref (ad 0), .int a1] (cX12 cy ad v) res (cX12 cy ad v) := by
  refine MetQ.start (by decide +kernel) (Nat.le_of_ble_eq_true rfl) (fun p e s m args below meth c A ls hx hb hr hml hown hts hlocks hK hP hD hA hl hE => ?_)
  have hS : va_S A s.heap s.heap [] := va_S.rf
  have hown : s.vm.findClass RX12 = some m.cls := hown
  have hl : lv_has ls 4 [(0, .ref (ad 0)), (1, .int a1)] := hl
  have L4 : ∀ (x1 : Int32) (n : Nat) (x2 : Int32) (x3 : Int32) (H : Heap) (locs : List Loc) (ls : Array Slot), itr (fun q : Int32 × Int32 => f_X12_withTicket_s4 N v x1 q.1 q.2) n (x2, x3) = some res → va_P G vwCl (cX12 cy ad v) H → va_D A (cX12 cy ad v) → va_S A s.heap H locs → lv_has ls 4 [(0, .ref (ad 0)), (1, .int x1), (2, .int x2), (3, .int x3)] → W p l e (rmX 0 0) s m args below meth c H locs 0 0 (MQ below (mQi (res) G cy A (cX12 cy ad v)) args s 0 0 A) (F0 m 4 ls []) := by
    intro x1 n
    induction n with
    | zero => intro x2 x3 H locs ls h; exact (itr_zero h).elim
    | succ n ih1 =>
      intro x2 x3 H locs ls h hP hD hS hl
      obtain ⟨y1, h, hy1⟩ := itr_inv h
      have h : f_X12_withTicket_s4 N v x1 x2 x3 = some y1 := h
      have B35 : ∀ (x3 : Int32) (z0 : Int32) (z1 : Int32) (H : Heap) (locs : List Loc) (ls : Array Slot), f_X12_withTicket_b35 N v x1 x3 z0 z1 = some y1 → va_P G vwCl (cX12 cy ad v) H → va_D A (cX12 cy ad v) → va_S A s.heap H locs → lv_has ls 4 [(0, .ref (ad 0)), (1, .int x1), (3, .int x3)] → W p l e (rmX 0 0) s m args below meth c H locs 0 0 (MQ below (mQi (res) G cy A (cX12 cy ad v)) args s 0 0 A) (F0 m 35 ls [.int z0, .int z1]) := by
        intro x3 z0 z1 H locs ls h hP hD hS hl
        delta f_X12_withTicket_b35 at h
        refine lv_iadd hx hb dX12_withTicket_35 ?_
        refine lv_istore_n (lv' := [(2, .int (z1 + z0)), (0, .ref (ad 0)), (1, .int x1), (3, .int x3)]) hx hb dX12_withTicket_36 rfl hl (by decide) rfl (fun ls hl => ?_)
        refine lv_iinc (v := x3 + 1) (lv' := [(3, .int (x3 + 1)), (2, .int (z1 + z0)), (0, .ref (ad 0)), (1, .int x1)]) hx hb dX12_withTicket_37 hl (k := 3) rfl rfl (by decide) rfl (fun ls hl => ?_)
        refine lv_goto (tgt := 4) hx hb dX12_withTicket_40 (by decide) ?_
        replace h := itr_back h hy1
        exact ih1 (z1 + z0) (x3 + 1) _ _ _ h hP hD hS (lv_sub hl [2, 3, 1, 0] rfl)
      delta f_X12_withTicket_s4 at h
      refine lv_iload_n hx hb dX12_withTicket_4 rfl (lv_at hl 3 rfl) ?_
      refine lv_aload_n hx hb dX12_withTicket_5 rfl (lv_at hl 0 rfl) ?_
      refine gf_X12_3 hx hb hts hown hK hP dX12_withTicket_6 ?_
      refine lv_iconst (v := 0) hx hb dX12_withTicket_9 (by decide) ?_
      refine ld_X12_3 (f := v.2.1 3) (j := 0) hx hb hK hP rfl (vin_dec (by decide)) (by decide) dX12_withTicket_10 ?_
      refine lv_icmp_ge (tgt := 43) hx hb dX12_withTicket_11 (by decide) (fun c9 => ?_) (fun c9 => ?_)
      · replace h := (br h).1 c9
        replace h := itr_exit h hy1
        refine lv_iload_n hx hb dX12_withTicket_43 rfl (lv_at hl 2 rfl) ?_
        exact retI (fr := fun q => q) (fw := fun _ => cX12 cy ad v) h hx hb hr hlocks hK hP hD hS dX12_withTicket_44
      · replace h := (br h).2 c9
        refine lv_iload_n hx hb dX12_withTicket_14 rfl (lv_at hl 2 rfl) ?_
        refine lv_aload_n hx hb dX12_withTicket_15 rfl (lv_at hl 0 rfl) ?_
        refine gf_X12_37 hx hb hts hown hK hP dX12_withTicket_16 ?_
        refine lv_iload_n hx hb dX12_withTicket_19 rfl (lv_at hl 3 rfl) ?_
        replace h := gin_inv h
        obtain ⟨h9, h⟩ := h
        refine ld_X12_37 (f := v.2.1 37) (j := x3.toNatClampNeg) hx hb hK hP rfl h9 rfl dX12_withTicket_20 ?_
        refine lv_iload_n hx hb dX12_withTicket_21 rfl (lv_at hl 1 rfl) ?_
        refine lv_icmp_ne (tgt := 34) hx hb dX12_withTicket_22 (by decide) (fun c9 => ?_) (fun c9 => ?_)
        · replace h := (br h).2 c9
          refine lv_iconst (v := 0) hx hb dX12_withTicket_34 (by decide) ?_
          exact B35 x3 0 x2 _ _ _ h hP hD hS (lv_sub hl [0, 1, 3] rfl)
        · replace h := (br h).1 c9
          refine lv_aload_n hx hb dX12_withTicket_25 rfl (lv_at hl 0 rfl) ?_
          refine gf_X12_5 hx hb hts hown hK hP dX12_withTicket_26 ?_
          refine lv_iload_n hx hb dX12_withTicket_29 rfl (lv_at hl 3 rfl) ?_
          replace h := gin_inv h
          obtain ⟨h9, h⟩ := h
          refine ld_X12_5 (f := v.2.1 5) (j := x3.toNatClampNeg) hx hb hK hP rfl h9 rfl dX12_withTicket_30 ?_
          refine lv_goto (tgt := 35) hx hb dX12_withTicket_31 (by decide) ?_
          exact B35 x3 (v.2.1 5 x3.toNatClampNeg) x2 _ _ _ h hP hD hS (lv_sub hl [0, 1, 3] rfl)
  delta f_X12_withTicket at h
  refine lv_iconst (v := 0) hx hb dX12_withTicket_0 (by decide) ?_
  refine lv_istore_n (lv' := [(2, .int 0), (0, .ref (ad 0)), (1, .int a1)]) hx hb dX12_withTicket_1 rfl hl (by decide) rfl (fun ls hl => ?_)
  refine lv_iconst (v := 0) hx hb dX12_withTicket_2 (by decide) ?_
  refine lv_istore_n (lv' := [(3, .int 0), (2, .int 0), (0, .ref (ad 0)), (1, .int a1)]) hx hb dX12_withTicket_3 rfl hl (by decide) rfl (fun ls hl => ?_)
  exact L4 a1 N 0 0 _ _ _ h hP hD hS (lv_sub hl [2, 3, 1, 0] rfl)
theorem hd_X12_party : yX12_party.cls = RX12 ∧ yX12_party.cls ≠ "java/lang/invoke/MethodHandle" ∧ yX12_party.cls ≠ "java/lang/invoke/VarHandle" ∧ (parseMethodDescriptor yX12_party.desc).map (fun d => d.parameters.length) = some 2 := ⟨rfl, by decide +kernel, by decide +kernel, by decide +kernel⟩
def f_X12_party_b28 (v : VV) (x1 : Int32) (x2 : Int32) (z0 : Int32) : Option (Int32 × VV) :=
  if z0 = 0 then if x2 = 0 then gin x1 16 (some (v.2.1 5 x1.toNatClampNeg, si v 0 z0)) else if x2 = 1 then gin x1 16 (some (v.2.1 7 x1.toNatClampNeg, si v 0 z0)) else if x2 = 2 then gin x1 16 (some (v.2.1 8 x1.toNatClampNeg, si v 0 z0)) else if x2 = 3 then gin x1 16 (some (v.2.1 9 x1.toNatClampNeg, si v 0 z0)) else if x2 = 4 then gin x1 184 (some (v.2.1 37 x1.toNatClampNeg, si v 0 z0)) else if x2 = 5 then gin x1 184 (some (v.2.1 38 x1.toNatClampNeg, si v 0 z0)) else if x2 = 6 then gin x1 184 (some (v.2.1 39 x1.toNatClampNeg, si v 0 z0)) else if x2 = 7 then gin x1 184 (some (v.2.1 40 x1.toNatClampNeg, si v 0 z0)) else gin x1 184 (some (v.2.1 41 x1.toNatClampNeg, si v 0 z0)) else some (0, si v 0 z0)
def f_X12_party_b23 (v : VV) (x1 : Int32) (x2 : Int32) : Option (Int32 × VV) :=
  f_X12_party_b28 v x1 x2 2
def f_X12_party (v : VV) (a1 : Int32) (a2 : Int32) : Option (Int32 × VV) :=
  bnd (f_X12_isParty v a1) (fun q1 => if q1 = 0 then f_X12_party_b28 v a1 a2 1 else if a2 < 0 then f_X12_party_b23 v a1 a2 else if a2 ≤ 8 then f_X12_party_b28 v a1 a2 0 else f_X12_party_b23 v a1 a2)
set_option maxHeartbeats 4000000 in
set_option maxRecDepth 100000 in
theorem k_X12_party (l : Launch) (G : va_G) (cy : Nat → ClassId) (ev : Nat → Nat) (ad : Nat → Nat) (v : VV) (a1 : Int32) (a2 : Int32) (res : Int32 × VV) (h : f_X12_party v a1 a2 = some res) : MetI l yX12_party cX12_party 3 (some .int) 1 21 G cy ev [.ref (ad 0), .int a1, .int a2] (cX12 cy ad v) res.1 (cX12 cy ad res.2) := by
  refine MetQ.start (by decide +kernel) (Nat.le_of_ble_eq_true rfl) (fun p e s m args below meth c A ls hx hb hr hml hown hts hlocks hK hP hD hA hl hE => ?_)
  have hS : va_S A s.heap s.heap [] := va_S.rf
  have hown : s.vm.findClass RX12 = some m.cls := hown
  have hl : lv_has ls 3 [(0, .ref (ad 0)), (1, .int a1), (2, .int a2)] := hl
  have B28 : ∀ (x1 : Int32) (x2 : Int32) (z0 : Int32) (v : VV) (H : Heap) (locs : List Loc) (ls : Array Slot), f_X12_party_b28 v x1 x2 z0 = some res → va_P G vwCl (cX12 cy ad v) H → va_D A (cX12 cy ad v) → va_S A s.heap H locs → lv_has ls 3 [(0, .ref (ad 0)), (1, .int x1), (2, .int x2)] → W p l e (rmX 1 21) s m args below meth c H locs 0 0 (MQ below (mQi (res.1) G cy A (cX12 cy ad res.2)) args s 0 0 A) (F0 m 28 ls [.int z0, .ref (ad 0)]) := by
    intro x1 x2 z0 v H locs ls h hP hD hS hl
    delta f_X12_party_b28 at h
    refine pf_X12_0 hx hb hts hown hK hP hD hS dX12_party_28 (fun H locs hP hD hS => ?_)
    refine lv_aload_n hx hb dX12_party_31 rfl (lv_at hl 0 rfl) ?_
    refine gf_X12_0 (x := z0) hx hb hts hown hK hP rfl dX12_party_32 ?_
    refine lv_if_eq (tgt := 40) hx hb dX12_party_35 (by decide) (fun c9 => ?_) (fun c9 => ?_)
    · replace h := (br h).1 c9
      refine lv_iload_n hx hb dX12_party_40 rfl (lv_at hl 2 rfl) ?_
      refine lv_topi (fun w2801 ew2801 => ?_)
      by_cases nw2801_0 : x2 = 0
      · replace h := (br h).1 nw2801_0
        rw [ew2801, nw2801_0]
        refine lv_tableIn (off := 47) (tgt := 88) hx hb dX12_party_41 (by decide) (by decide) rfl (by decide) ?_
        refine lv_aload_n hx hb dX12_party_88 rfl (lv_at hl 0 rfl) ?_
        refine gf_X12_5 hx hb hts hown hK hP dX12_party_89 ?_
        refine lv_iload_n hx hb dX12_party_92 rfl (lv_at hl 1 rfl) ?_
        replace h := gin_inv h
        obtain ⟨h9, h⟩ := h
        refine ld_X12_5 (f := v.2.1 5) (j := x1.toNatClampNeg) hx hb hK hP rfl h9 rfl dX12_party_93 ?_
        exact retI (fr := fun q => q.1) (fw := fun q => cX12 cy ad q.2) h hx hb hr hlocks hK hP hD hS dX12_party_94
      · replace h := (br h).2 nw2801_0
        by_cases nw2801_1 : x2 = 1
        · replace h := (br h).1 nw2801_1
          rw [ew2801, nw2801_1]
          refine lv_tableIn (off := 54) (tgt := 95) hx hb dX12_party_41 (by decide) (by decide) rfl (by decide) ?_
          refine lv_aload_n hx hb dX12_party_95 rfl (lv_at hl 0 rfl) ?_
          refine gf_X12_7 hx hb hts hown hK hP dX12_party_96 ?_
          refine lv_iload_n hx hb dX12_party_99 rfl (lv_at hl 1 rfl) ?_
          replace h := gin_inv h
          obtain ⟨h9, h⟩ := h
          refine ld_X12_7 (f := v.2.1 7) (j := x1.toNatClampNeg) hx hb hK hP rfl h9 rfl dX12_party_100 ?_
          exact retI (fr := fun q => q.1) (fw := fun q => cX12 cy ad q.2) h hx hb hr hlocks hK hP hD hS dX12_party_101
        · replace h := (br h).2 nw2801_1
          by_cases nw2801_2 : x2 = 2
          · replace h := (br h).1 nw2801_2
            rw [ew2801, nw2801_2]
            refine lv_tableIn (off := 61) (tgt := 102) hx hb dX12_party_41 (by decide) (by decide) rfl (by decide) ?_
            refine lv_aload_n hx hb dX12_party_102 rfl (lv_at hl 0 rfl) ?_
            refine gf_X12_8 hx hb hts hown hK hP dX12_party_103 ?_
            refine lv_iload_n hx hb dX12_party_106 rfl (lv_at hl 1 rfl) ?_
            replace h := gin_inv h
            obtain ⟨h9, h⟩ := h
            refine ld_X12_8 (f := v.2.1 8) (j := x1.toNatClampNeg) hx hb hK hP rfl h9 rfl dX12_party_107 ?_
            exact retI (fr := fun q => q.1) (fw := fun q => cX12 cy ad q.2) h hx hb hr hlocks hK hP hD hS dX12_party_108
          · replace h := (br h).2 nw2801_2
            by_cases nw2801_3 : x2 = 3
            · replace h := (br h).1 nw2801_3
              rw [ew2801, nw2801_3]
              refine lv_tableIn (off := 68) (tgt := 109) hx hb dX12_party_41 (by decide) (by decide) rfl (by decide) ?_
              refine lv_aload_n hx hb dX12_party_109 rfl (lv_at hl 0 rfl) ?_
              refine gf_X12_9 hx hb hts hown hK hP dX12_party_110 ?_
              refine lv_iload_n hx hb dX12_party_113 rfl (lv_at hl 1 rfl) ?_
              replace h := gin_inv h
              obtain ⟨h9, h⟩ := h
              refine ld_X12_9 (f := v.2.1 9) (j := x1.toNatClampNeg) hx hb hK hP rfl h9 rfl dX12_party_114 ?_
              exact retI (fr := fun q => q.1) (fw := fun q => cX12 cy ad q.2) h hx hb hr hlocks hK hP hD hS dX12_party_115
            · replace h := (br h).2 nw2801_3
              by_cases nw2801_4 : x2 = 4
              · replace h := (br h).1 nw2801_4
                rw [ew2801, nw2801_4]
                refine lv_tableIn (off := 75) (tgt := 116) hx hb dX12_party_41 (by decide) (by decide) rfl (by decide) ?_
                refine lv_aload_n hx hb dX12_party_116 rfl (lv_at hl 0 rfl) ?_
                refine gf_X12_37 hx hb hts hown hK hP dX12_party_117 ?_
                refine lv_iload_n hx hb dX12_party_120 rfl (lv_at hl 1 rfl) ?_
                replace h := gin_inv h
                obtain ⟨h9, h⟩ := h
                refine ld_X12_37 (f := v.2.1 37) (j := x1.toNatClampNeg) hx hb hK hP rfl h9 rfl dX12_party_121 ?_
                exact retI (fr := fun q => q.1) (fw := fun q => cX12 cy ad q.2) h hx hb hr hlocks hK hP hD hS dX12_party_122
              · replace h := (br h).2 nw2801_4
                by_cases nw2801_5 : x2 = 5
                · replace h := (br h).1 nw2801_5
                  rw [ew2801, nw2801_5]
                  refine lv_tableIn (off := 82) (tgt := 123) hx hb dX12_party_41 (by decide) (by decide) rfl (by decide) ?_
                  refine lv_aload_n hx hb dX12_party_123 rfl (lv_at hl 0 rfl) ?_
                  refine gf_X12_38 hx hb hts hown hK hP dX12_party_124 ?_
                  refine lv_iload_n hx hb dX12_party_127 rfl (lv_at hl 1 rfl) ?_
                  replace h := gin_inv h
                  obtain ⟨h9, h⟩ := h
                  refine ld_X12_38 (f := v.2.1 38) (j := x1.toNatClampNeg) hx hb hK hP rfl h9 rfl dX12_party_128 ?_
                  exact retI (fr := fun q => q.1) (fw := fun q => cX12 cy ad q.2) h hx hb hr hlocks hK hP hD hS dX12_party_129
                · replace h := (br h).2 nw2801_5
                  by_cases nw2801_6 : x2 = 6
                  · replace h := (br h).1 nw2801_6
                    rw [ew2801, nw2801_6]
                    refine lv_tableIn (off := 89) (tgt := 130) hx hb dX12_party_41 (by decide) (by decide) rfl (by decide) ?_
                    refine lv_aload_n hx hb dX12_party_130 rfl (lv_at hl 0 rfl) ?_
                    refine gf_X12_39 hx hb hts hown hK hP dX12_party_131 ?_
                    refine lv_iload_n hx hb dX12_party_134 rfl (lv_at hl 1 rfl) ?_
                    replace h := gin_inv h
                    obtain ⟨h9, h⟩ := h
                    refine ld_X12_39 (f := v.2.1 39) (j := x1.toNatClampNeg) hx hb hK hP rfl h9 rfl dX12_party_135 ?_
                    exact retI (fr := fun q => q.1) (fw := fun q => cX12 cy ad q.2) h hx hb hr hlocks hK hP hD hS dX12_party_136
                  · replace h := (br h).2 nw2801_6
                    by_cases nw2801_7 : x2 = 7
                    · replace h := (br h).1 nw2801_7
                      rw [ew2801, nw2801_7]
                      refine lv_tableIn (off := 96) (tgt := 137) hx hb dX12_party_41 (by decide) (by decide) rfl (by decide) ?_
                      refine lv_aload_n hx hb dX12_party_137 rfl (lv_at hl 0 rfl) ?_
                      refine gf_X12_40 hx hb hts hown hK hP dX12_party_138 ?_
                      refine lv_iload_n hx hb dX12_party_141 rfl (lv_at hl 1 rfl) ?_
                      replace h := gin_inv h
                      obtain ⟨h9, h⟩ := h
                      refine ld_X12_40 (f := v.2.1 40) (j := x1.toNatClampNeg) hx hb hK hP rfl h9 rfl dX12_party_142 ?_
                      exact retI (fr := fun q => q.1) (fw := fun q => cX12 cy ad q.2) h hx hb hr hlocks hK hP hD hS dX12_party_143
                    · replace h := (br h).2 nw2801_7
                      rw [ew2801]
                      refine lv_tableOut (tgt := 144) hx hb dX12_party_41 (by have := ne_toInt (k := 0) 0 (by decide) nw2801_0; have := ne_toInt (k := 1) 1 (by decide) nw2801_1; have := ne_toInt (k := 2) 2 (by decide) nw2801_2; have := ne_toInt (k := 3) 3 (by decide) nw2801_3; have := ne_toInt (k := 4) 4 (by decide) nw2801_4; have := ne_toInt (k := 5) 5 (by decide) nw2801_5; have := ne_toInt (k := 6) 6 (by decide) nw2801_6; have := ne_toInt (k := 7) 7 (by decide) nw2801_7; omega) (by decide) ?_
                      refine lv_aload_n hx hb dX12_party_144 rfl (lv_at hl 0 rfl) ?_
                      refine gf_X12_41 hx hb hts hown hK hP dX12_party_145 ?_
                      refine lv_iload_n hx hb dX12_party_148 rfl (lv_at hl 1 rfl) ?_
                      replace h := gin_inv h
                      obtain ⟨h9, h⟩ := h
                      refine ld_X12_41 (f := v.2.1 41) (j := x1.toNatClampNeg) hx hb hK hP rfl h9 rfl dX12_party_149 ?_
                      exact retI (fr := fun q => q.1) (fw := fun q => cX12 cy ad q.2) h hx hb hr hlocks hK hP hD hS dX12_party_150
    · replace h := (br h).2 c9
      refine lv_iconst (v := 0) hx hb dX12_party_38 (by decide) ?_
      exact retI (fr := fun q => q.1) (fw := fun q => cX12 cy ad q.2) h hx hb hr hlocks hK hP hD hS dX12_party_39
  have B23 : ∀ (x1 : Int32) (x2 : Int32) (v : VV) (H : Heap) (locs : List Loc) (ls : Array Slot), f_X12_party_b23 v x1 x2 = some res → va_P G vwCl (cX12 cy ad v) H → va_D A (cX12 cy ad v) → va_S A s.heap H locs → lv_has ls 3 [(0, .ref (ad 0)), (1, .int x1), (2, .int x2)] → W p l e (rmX 1 21) s m args below meth c H locs 0 0 (MQ below (mQi (res.1) G cy A (cX12 cy ad res.2)) args s 0 0 A) (F0 m 23 ls [.ref (ad 0)]) := by
    intro x1 x2 v H locs ls h hP hD hS hl
    delta f_X12_party_b23 at h
    refine lv_iconst (v := 2) hx hb dX12_party_23 (by decide) ?_
    refine lv_goto (tgt := 28) hx hb dX12_party_24 (by decide) ?_
    exact B28 x1 x2 2 v _ _ _ h hP hD hS (lv_sub hl [0, 1, 2] rfl)
  delta f_X12_party at h
  refine lv_aload_n hx hb dX12_party_0 rfl (lv_at hl 0 rfl) ?_
  refine lv_aload_n hx hb dX12_party_1 rfl (lv_at hl 0 rfl) ?_
  refine lv_iload_n hx hb dX12_party_2 rfl (lv_at hl 1 rfl) ?_
  replace h := bd h
  obtain ⟨q1, h2, h⟩ := h
  refine callVi0 (As := [.int a1]) (rest := [.ref (ad 0)]) hx hb hml hown hts (k_X12_isParty l G cy ev ad v a1 q1 h2) wm_26_23 wm_27_0 wm_27_1 wm_1_5 wm_27_2 hd_X12_isParty ⟨by decide, by decide⟩ hK hP hD hS hA hE (va_recv hK hP (ci := 12) (q0 := 0) rfl rfl) rfl rfl hl.1 (Nat.le_of_ble_eq_true rfl) dX12_party_3 (fun H locs hP hD hS => ?_)
  refine lv_if_ne (tgt := 13) hx hb dX12_party_6 (by decide) (fun c9 => ?_) (fun c9 => ?_)
  · replace h := (br h).2 c9
    refine lv_iload_n hx hb dX12_party_13 rfl (lv_at hl 2 rfl) ?_
    refine lv_if_lt (tgt := 23) hx hb dX12_party_14 (by decide) (fun c9 => ?_) (fun c9 => ?_)
    · replace h := (br h).1 c9
      exact B23 a1 a2 v _ _ _ h hP hD hS (lv_sub hl [0, 1, 2] rfl)
    · replace h := (br h).2 c9
      refine lv_iload_n hx hb dX12_party_17 rfl (lv_at hl 2 rfl) ?_
      refine lv_bipush (v := 8) hx hb dX12_party_18 (by decide) ?_
      refine lv_icmp_le (tgt := 27) hx hb dX12_party_20 (by decide) (fun c9 => ?_) (fun c9 => ?_)
      · replace h := (br h).1 c9
        refine lv_iconst (v := 0) hx hb dX12_party_27 (by decide) ?_
        exact B28 a1 a2 0 v _ _ _ h hP hD hS (lv_sub hl [0, 1, 2] rfl)
      · replace h := (br h).2 c9
        exact B23 a1 a2 v _ _ _ h hP hD hS (lv_sub hl [0, 1, 2] rfl)
  · replace h := (br h).1 c9
    refine lv_iconst (v := 1) hx hb dX12_party_9 (by decide) ?_
    refine lv_goto (tgt := 28) hx hb dX12_party_10 (by decide) ?_
    exact B28 a1 a2 1 v _ _ _ h hP hD hS (lv_sub hl [0, 1, 2] rfl)
theorem hd_X12_wish : yX12_wish.cls = RX12 ∧ yX12_wish.cls ≠ "java/lang/invoke/MethodHandle" ∧ yX12_wish.cls ≠ "java/lang/invoke/VarHandle" ∧ (parseMethodDescriptor yX12_wish.desc).map (fun d => d.parameters.length) = some 2 := ⟨rfl, by decide +kernel, by decide +kernel, by decide +kernel⟩
def f_X12_wish (v : VV) (a1 : Int32) (a2 : Int32) : Option (Int32 × VV) :=
  bnd (f_X12_isParty (si v 0 0) a1) (fun q1 => if q1 = 0 then some ((-1), si v 0 0) else if a2 < 0 then some ((-1), si v 0 0) else if (3 : Int32) ≤ a2 then some ((-1), si v 0 0) else gin ((3 * a1) + a2) 48 (some (v.2.1 6 (((3 * a1) + a2).toNatClampNeg), si v 0 0)))
set_option maxHeartbeats 4000000 in
set_option maxRecDepth 100000 in
theorem k_X12_wish (l : Launch) (G : va_G) (cy : Nat → ClassId) (ev : Nat → Nat) (ad : Nat → Nat) (v : VV) (a1 : Int32) (a2 : Int32) (res : Int32 × VV) (h : f_X12_wish v a1 a2 = some res) : MetI l yX12_wish cX12_wish 3 (some .int) 1 21 G cy ev [.ref (ad 0), .int a1, .int a2] (cX12 cy ad v) res.1 (cX12 cy ad res.2) := by
  refine MetQ.start (by decide +kernel) (Nat.le_of_ble_eq_true rfl) (fun p e s m args below meth c A ls hx hb hr hml hown hts hlocks hK hP hD hA hl hE => ?_)
  have hS : va_S A s.heap s.heap [] := va_S.rf
  have hown : s.vm.findClass RX12 = some m.cls := hown
  have hl : lv_has ls 3 [(0, .ref (ad 0)), (1, .int a1), (2, .int a2)] := hl
  delta f_X12_wish at h
  refine lv_aload_n hx hb dX12_wish_0 rfl (lv_at hl 0 rfl) ?_
  refine lv_iconst (v := 0) hx hb dX12_wish_1 (by decide) ?_
  refine pf_X12_0 hx hb hts hown hK hP hD hS dX12_wish_2 (fun H locs hP hD hS => ?_)
  refine lv_aload_n hx hb dX12_wish_5 rfl (lv_at hl 0 rfl) ?_
  refine lv_iload_n hx hb dX12_wish_6 rfl (lv_at hl 1 rfl) ?_
  replace h := bd h
  obtain ⟨q1, h2, h⟩ := h
  refine callVi0 (As := [.int a1]) (rest := []) hx hb hml hown hts (k_X12_isParty l G cy ev ad (si v 0 0) a1 q1 h2) wm_26_23 wm_27_0 wm_27_1 wm_1_5 wm_27_2 hd_X12_isParty ⟨by decide, by decide⟩ hK hP hD hS hA hE (va_recv hK hP (ci := 12) (q0 := 0) rfl rfl) rfl rfl hl.1 (Nat.le_of_ble_eq_true rfl) dX12_wish_7 (fun H locs hP hD hS => ?_)
  refine lv_if_eq (tgt := 35) hx hb dX12_wish_10 (by decide) (fun c9 => ?_) (fun c9 => ?_)
  · replace h := (br h).1 c9
    refine lv_iconst (v := (-1)) hx hb dX12_wish_35 (by decide) ?_
    exact retI (fr := fun q => q.1) (fw := fun q => cX12 cy ad q.2) h hx hb hr hlocks hK hP hD hS dX12_wish_36
  · replace h := (br h).2 c9
    refine lv_iload_n hx hb dX12_wish_13 rfl (lv_at hl 2 rfl) ?_
    refine lv_if_lt (tgt := 35) hx hb dX12_wish_14 (by decide) (fun c9 => ?_) (fun c9 => ?_)
    · replace h := (br h).1 c9
      refine lv_iconst (v := (-1)) hx hb dX12_wish_35 (by decide) ?_
      exact retI (fr := fun q => q.1) (fw := fun q => cX12 cy ad q.2) h hx hb hr hlocks hK hP hD hS dX12_wish_36
    · replace h := (br h).2 c9
      refine lv_iload_n hx hb dX12_wish_17 rfl (lv_at hl 2 rfl) ?_
      refine lv_iconst (v := 3) hx hb dX12_wish_18 (by decide) ?_
      refine lv_icmp_ge (tgt := 35) hx hb dX12_wish_19 (by decide) (fun c9 => ?_) (fun c9 => ?_)
      · replace h := (br h).1 c9
        refine lv_iconst (v := (-1)) hx hb dX12_wish_35 (by decide) ?_
        exact retI (fr := fun q => q.1) (fw := fun q => cX12 cy ad q.2) h hx hb hr hlocks hK hP hD hS dX12_wish_36
      · replace h := (br h).2 c9
        refine lv_aload_n hx hb dX12_wish_22 rfl (lv_at hl 0 rfl) ?_
        refine gf_X12_6 hx hb hts hown hK hP dX12_wish_23 ?_
        refine lv_iconst (v := 3) hx hb dX12_wish_26 (by decide) ?_
        refine lv_iload_n hx hb dX12_wish_27 rfl (lv_at hl 1 rfl) ?_
        refine lv_imul hx hb dX12_wish_28 ?_
        refine lv_iload_n hx hb dX12_wish_29 rfl (lv_at hl 2 rfl) ?_
        refine lv_iadd hx hb dX12_wish_30 ?_
        replace h := gin_inv h
        obtain ⟨h9, h⟩ := h
        refine ld_X12_6 (f := v.2.1 6) (j := ((3 * a1) + a2).toNatClampNeg) hx hb hK hP rfl h9 rfl dX12_wish_31 ?_
        refine lv_goto (tgt := 36) hx hb dX12_wish_32 (by decide) ?_
        exact retI (fr := fun q => q.1) (fw := fun q => cX12 cy ad q.2) h hx hb hr hlocks hK hP hD hS dX12_wish_36
theorem hd_X12_sitting : yX12_sitting.cls = RX12 ∧ yX12_sitting.cls ≠ "java/lang/invoke/MethodHandle" ∧ yX12_sitting.cls ≠ "java/lang/invoke/VarHandle" ∧ (parseMethodDescriptor yX12_sitting.desc).map (fun d => d.parameters.length) = some 2 := ⟨rfl, by decide +kernel, by decide +kernel, by decide +kernel⟩
def f_X12_sitting (N : Nat) (v : VV) (a1 : Int32) (a2 : Int32) : Option (Int32 × VV) :=
  bnd (f_X12_isSitting (si v 0 0) a1) (fun q1 => if q1 = 0 then some ((-1), si v 0 0) else if a2 = 0 then gin a1 6 (some (v.2.1 10 a1.toNatClampNeg, si v 0 0)) else if a2 = 1 then gin a1 69 (some (v.2.1 43 a1.toNatClampNeg, si v 0 0)) else if a2 = 2 then gin a1 69 (some (v.2.1 42 a1.toNatClampNeg, si v 0 0)) else if a2 = 3 then bnd (f_X12_withTicket N (si v 0 0) a1) (fun q4 => some (q4, si v 0 0)) else if a2 = 4 then gin a1 69 (some (v.2.1 44 a1.toNatClampNeg, si v 0 0)) else if a2 = 5 then gin a1 69 (if v.2.1 44 a1.toNatClampNeg = (-1) then some ((-1), si v 0 0) else gin a1 69 (gin a1 6 (some ((v.2.1 44 a1.toNatClampNeg) - (v.2.1 10 a1.toNatClampNeg), si v 0 0)))) else if a2 = 6 then gin a1 69 (some (v.2.1 45 a1.toNatClampNeg, si v 0 0)) else if a2 = 7 then gin a1 69 (some (v.2.1 46 a1.toNatClampNeg, si v 0 0)) else if a2 = 8 then gin a1 69 (some (v.2.1 47 a1.toNatClampNeg, si v 0 0)) else some ((-1), si v 0 0))
set_option maxHeartbeats 4000000 in
set_option maxRecDepth 100000 in
theorem k_X12_sitting (l : Launch) (G : va_G) (cy : Nat → ClassId) (ev : Nat → Nat) (N : Nat) (ad : Nat → Nat) (v : VV) (a1 : Int32) (a2 : Int32) (res : Int32 × VV) (h : f_X12_sitting N v a1 a2 = some res) : MetI l yX12_sitting cX12_sitting 3 (some .int) 1 23 G cy ev [.ref (ad 0), .int a1, .int a2] (cX12 cy ad v) res.1 (cX12 cy ad res.2) := by
  refine MetQ.start (by decide +kernel) (Nat.le_of_ble_eq_true rfl) (fun p e s m args below meth c A ls hx hb hr hml hown hts hlocks hK hP hD hA hl hE => ?_)
  have hS : va_S A s.heap s.heap [] := va_S.rf
  have hown : s.vm.findClass RX12 = some m.cls := hown
  have hl : lv_has ls 3 [(0, .ref (ad 0)), (1, .int a1), (2, .int a2)] := hl
  delta f_X12_sitting at h
  refine lv_aload_n hx hb dX12_sitting_0 rfl (lv_at hl 0 rfl) ?_
  refine lv_iconst (v := 0) hx hb dX12_sitting_1 (by decide) ?_
  refine pf_X12_0 hx hb hts hown hK hP hD hS dX12_sitting_2 (fun H locs hP hD hS => ?_)
  refine lv_aload_n hx hb dX12_sitting_5 rfl (lv_at hl 0 rfl) ?_
  refine lv_iload_n hx hb dX12_sitting_6 rfl (lv_at hl 1 rfl) ?_
  replace h := bd h
  obtain ⟨q1, h2, h⟩ := h
  refine callVi0 (As := [.int a1]) (rest := []) hx hb hml hown hts (k_X12_isSitting l G cy ev ad (si v 0 0) a1 q1 h2) wm_28_12 wm_28_13 wm_28_14 wm_1_5 wm_28_15 hd_X12_isSitting ⟨by decide, by decide⟩ hK hP hD hS hA hE (va_recv hK hP (ci := 12) (q0 := 0) rfl rfl) rfl rfl hl.1 (Nat.le_of_ble_eq_true rfl) dX12_sitting_7 (fun H locs hP hD hS => ?_)
  refine lv_if_ne (tgt := 15) hx hb dX12_sitting_10 (by decide) (fun c9 => ?_) (fun c9 => ?_)
  · replace h := (br h).2 c9
    refine lv_iload_n hx hb dX12_sitting_15 rfl (lv_at hl 2 rfl) ?_
    refine lv_topi (fun w3 ew3 => ?_)
    by_cases nw3_0 : a2 = 0
    · replace h := (br h).1 nw3_0
      rw [ew3, nw3_0]
      refine lv_tableIn (off := 52) (tgt := 68) hx hb dX12_sitting_16 (by decide) (by decide) rfl (by decide) ?_
      refine lv_aload_n hx hb dX12_sitting_68 rfl (lv_at hl 0 rfl) ?_
      refine gf_X12_10 hx hb hts hown hK hP dX12_sitting_69 ?_
      refine lv_iload_n hx hb dX12_sitting_72 rfl (lv_at hl 1 rfl) ?_
      replace h := gin_inv h
      obtain ⟨h9, h⟩ := h
      refine ld_X12_10 (f := v.2.1 10) (j := a1.toNatClampNeg) hx hb hK hP rfl h9 rfl dX12_sitting_73 ?_
      exact retI (fr := fun q => q.1) (fw := fun q => cX12 cy ad q.2) h hx hb hr hlocks hK hP hD hS dX12_sitting_74
    · replace h := (br h).2 nw3_0
      by_cases nw3_1 : a2 = 1
      · replace h := (br h).1 nw3_1
        rw [ew3, nw3_1]
        refine lv_tableIn (off := 59) (tgt := 75) hx hb dX12_sitting_16 (by decide) (by decide) rfl (by decide) ?_
        refine lv_aload_n hx hb dX12_sitting_75 rfl (lv_at hl 0 rfl) ?_
        refine gf_X12_43 hx hb hts hown hK hP dX12_sitting_76 ?_
        refine lv_iload_n hx hb dX12_sitting_79 rfl (lv_at hl 1 rfl) ?_
        replace h := gin_inv h
        obtain ⟨h9, h⟩ := h
        refine ld_X12_43 (f := v.2.1 43) (j := a1.toNatClampNeg) hx hb hK hP rfl h9 rfl dX12_sitting_80 ?_
        exact retI (fr := fun q => q.1) (fw := fun q => cX12 cy ad q.2) h hx hb hr hlocks hK hP hD hS dX12_sitting_81
      · replace h := (br h).2 nw3_1
        by_cases nw3_2 : a2 = 2
        · replace h := (br h).1 nw3_2
          rw [ew3, nw3_2]
          refine lv_tableIn (off := 66) (tgt := 82) hx hb dX12_sitting_16 (by decide) (by decide) rfl (by decide) ?_
          refine lv_aload_n hx hb dX12_sitting_82 rfl (lv_at hl 0 rfl) ?_
          refine gf_X12_42 hx hb hts hown hK hP dX12_sitting_83 ?_
          refine lv_iload_n hx hb dX12_sitting_86 rfl (lv_at hl 1 rfl) ?_
          replace h := gin_inv h
          obtain ⟨h9, h⟩ := h
          refine ld_X12_42 (f := v.2.1 42) (j := a1.toNatClampNeg) hx hb hK hP rfl h9 rfl dX12_sitting_87 ?_
          exact retI (fr := fun q => q.1) (fw := fun q => cX12 cy ad q.2) h hx hb hr hlocks hK hP hD hS dX12_sitting_88
        · replace h := (br h).2 nw3_2
          by_cases nw3_3 : a2 = 3
          · replace h := (br h).1 nw3_3
            rw [ew3, nw3_3]
            refine lv_tableIn (off := 73) (tgt := 89) hx hb dX12_sitting_16 (by decide) (by decide) rfl (by decide) ?_
            refine lv_aload_n hx hb dX12_sitting_89 rfl (lv_at hl 0 rfl) ?_
            refine lv_iload_n hx hb dX12_sitting_90 rfl (lv_at hl 1 rfl) ?_
            replace h := bd h
            obtain ⟨q4, h5, h⟩ := h
            refine callVi0 (As := [.int a1]) (rest := []) hx hb hml hown hts (k_X12_withTicket l G cy ev N ad (si v 0 0) a1 q4 h5) wm_28_16 wm_28_17 wm_28_18 wm_1_5 wm_28_19 hd_X12_withTicket ⟨by decide, by decide⟩ hK hP hD hS hA hE (va_recv hK hP (ci := 12) (q0 := 0) rfl rfl) rfl rfl hl.1 (Nat.le_of_ble_eq_true rfl) dX12_sitting_91 (fun H locs hP hD hS => ?_)
            exact retI (fr := fun q => q.1) (fw := fun q => cX12 cy ad q.2) h hx hb hr hlocks hK hP hD hS dX12_sitting_94
          · replace h := (br h).2 nw3_3
            by_cases nw3_4 : a2 = 4
            · replace h := (br h).1 nw3_4
              rw [ew3, nw3_4]
              refine lv_tableIn (off := 79) (tgt := 95) hx hb dX12_sitting_16 (by decide) (by decide) rfl (by decide) ?_
              refine lv_aload_n hx hb dX12_sitting_95 rfl (lv_at hl 0 rfl) ?_
              refine gf_X12_44 hx hb hts hown hK hP dX12_sitting_96 ?_
              refine lv_iload_n hx hb dX12_sitting_99 rfl (lv_at hl 1 rfl) ?_
              replace h := gin_inv h
              obtain ⟨h9, h⟩ := h
              refine ld_X12_44 (f := v.2.1 44) (j := a1.toNatClampNeg) hx hb hK hP rfl h9 rfl dX12_sitting_100 ?_
              exact retI (fr := fun q => q.1) (fw := fun q => cX12 cy ad q.2) h hx hb hr hlocks hK hP hD hS dX12_sitting_101
            · replace h := (br h).2 nw3_4
              by_cases nw3_5 : a2 = 5
              · replace h := (br h).1 nw3_5
                rw [ew3, nw3_5]
                refine lv_tableIn (off := 86) (tgt := 102) hx hb dX12_sitting_16 (by decide) (by decide) rfl (by decide) ?_
                refine lv_aload_n hx hb dX12_sitting_102 rfl (lv_at hl 0 rfl) ?_
                refine gf_X12_44 hx hb hts hown hK hP dX12_sitting_103 ?_
                refine lv_iload_n hx hb dX12_sitting_106 rfl (lv_at hl 1 rfl) ?_
                replace h := gin_inv h
                obtain ⟨h9, h⟩ := h
                refine ld_X12_44 (f := v.2.1 44) (j := a1.toNatClampNeg) hx hb hK hP rfl h9 rfl dX12_sitting_107 ?_
                refine lv_iconst (v := (-1)) hx hb dX12_sitting_108 (by decide) ?_
                refine lv_icmp_ne (tgt := 116) hx hb dX12_sitting_109 (by decide) (fun c9 => ?_) (fun c9 => ?_)
                · replace h := (br h).2 c9
                  refine lv_aload_n hx hb dX12_sitting_116 rfl (lv_at hl 0 rfl) ?_
                  refine gf_X12_44 hx hb hts hown hK hP dX12_sitting_117 ?_
                  refine lv_iload_n hx hb dX12_sitting_120 rfl (lv_at hl 1 rfl) ?_
                  replace h := gin_inv h
                  obtain ⟨h9, h⟩ := h
                  refine ld_X12_44 (f := v.2.1 44) (j := a1.toNatClampNeg) hx hb hK hP rfl h9 rfl dX12_sitting_121 ?_
                  refine lv_aload_n hx hb dX12_sitting_122 rfl (lv_at hl 0 rfl) ?_
                  refine gf_X12_10 hx hb hts hown hK hP dX12_sitting_123 ?_
                  refine lv_iload_n hx hb dX12_sitting_126 rfl (lv_at hl 1 rfl) ?_
                  replace h := gin_inv h
                  obtain ⟨h9, h⟩ := h
                  refine ld_X12_10 (f := v.2.1 10) (j := a1.toNatClampNeg) hx hb hK hP rfl h9 rfl dX12_sitting_127 ?_
                  refine lv_isub hx hb dX12_sitting_128 ?_
                  exact retI (fr := fun q => q.1) (fw := fun q => cX12 cy ad q.2) h hx hb hr hlocks hK hP hD hS dX12_sitting_129
                · replace h := (br h).1 c9
                  refine lv_iconst (v := (-1)) hx hb dX12_sitting_112 (by decide) ?_
                  refine lv_goto (tgt := 129) hx hb dX12_sitting_113 (by decide) ?_
                  exact retI (fr := fun q => q.1) (fw := fun q => cX12 cy ad q.2) h hx hb hr hlocks hK hP hD hS dX12_sitting_129
              · replace h := (br h).2 nw3_5
                by_cases nw3_6 : a2 = 6
                · replace h := (br h).1 nw3_6
                  rw [ew3, nw3_6]
                  refine lv_tableIn (off := 114) (tgt := 130) hx hb dX12_sitting_16 (by decide) (by decide) rfl (by decide) ?_
                  refine lv_aload_n hx hb dX12_sitting_130 rfl (lv_at hl 0 rfl) ?_
                  refine gf_X12_45 hx hb hts hown hK hP dX12_sitting_131 ?_
                  refine lv_iload_n hx hb dX12_sitting_134 rfl (lv_at hl 1 rfl) ?_
                  replace h := gin_inv h
                  obtain ⟨h9, h⟩ := h
                  refine ld_X12_45 (f := v.2.1 45) (j := a1.toNatClampNeg) hx hb hK hP rfl h9 rfl dX12_sitting_135 ?_
                  exact retI (fr := fun q => q.1) (fw := fun q => cX12 cy ad q.2) h hx hb hr hlocks hK hP hD hS dX12_sitting_136
                · replace h := (br h).2 nw3_6
                  by_cases nw3_7 : a2 = 7
                  · replace h := (br h).1 nw3_7
                    rw [ew3, nw3_7]
                    refine lv_tableIn (off := 121) (tgt := 137) hx hb dX12_sitting_16 (by decide) (by decide) rfl (by decide) ?_
                    refine lv_aload_n hx hb dX12_sitting_137 rfl (lv_at hl 0 rfl) ?_
                    refine gf_X12_46 hx hb hts hown hK hP dX12_sitting_138 ?_
                    refine lv_iload_n hx hb dX12_sitting_141 rfl (lv_at hl 1 rfl) ?_
                    replace h := gin_inv h
                    obtain ⟨h9, h⟩ := h
                    refine ld_X12_46 (f := v.2.1 46) (j := a1.toNatClampNeg) hx hb hK hP rfl h9 rfl dX12_sitting_142 ?_
                    exact retI (fr := fun q => q.1) (fw := fun q => cX12 cy ad q.2) h hx hb hr hlocks hK hP hD hS dX12_sitting_143
                  · replace h := (br h).2 nw3_7
                    by_cases nw3_8 : a2 = 8
                    · replace h := (br h).1 nw3_8
                      rw [ew3, nw3_8]
                      refine lv_tableIn (off := 128) (tgt := 144) hx hb dX12_sitting_16 (by decide) (by decide) rfl (by decide) ?_
                      refine lv_aload_n hx hb dX12_sitting_144 rfl (lv_at hl 0 rfl) ?_
                      refine gf_X12_47 hx hb hts hown hK hP dX12_sitting_145 ?_
                      refine lv_iload_n hx hb dX12_sitting_148 rfl (lv_at hl 1 rfl) ?_
                      replace h := gin_inv h
                      obtain ⟨h9, h⟩ := h
                      refine ld_X12_47 (f := v.2.1 47) (j := a1.toNatClampNeg) hx hb hK hP rfl h9 rfl dX12_sitting_149 ?_
                      exact retI (fr := fun q => q.1) (fw := fun q => cX12 cy ad q.2) h hx hb hr hlocks hK hP hD hS dX12_sitting_150
                    · replace h := (br h).2 nw3_8
                      rw [ew3]
                      refine lv_tableOut (tgt := 151) hx hb dX12_sitting_16 (by have := ne_toInt (k := 0) 0 (by decide) nw3_0; have := ne_toInt (k := 1) 1 (by decide) nw3_1; have := ne_toInt (k := 2) 2 (by decide) nw3_2; have := ne_toInt (k := 3) 3 (by decide) nw3_3; have := ne_toInt (k := 4) 4 (by decide) nw3_4; have := ne_toInt (k := 5) 5 (by decide) nw3_5; have := ne_toInt (k := 6) 6 (by decide) nw3_6; have := ne_toInt (k := 7) 7 (by decide) nw3_7; have := ne_toInt (k := 8) 8 (by decide) nw3_8; omega) (by decide) ?_
                      refine lv_iconst (v := (-1)) hx hb dX12_sitting_151 (by decide) ?_
                      exact retI (fr := fun q => q.1) (fw := fun q => cX12 cy ad q.2) h hx hb hr hlocks hK hP hD hS dX12_sitting_152
  · replace h := (br h).1 c9
    refine lv_iconst (v := (-1)) hx hb dX12_sitting_13 (by decide) ?_
    exact retI (fr := fun q => q.1) (fw := fun q => cX12 cy ad q.2) h hx hb hr hlocks hK hP hD hS dX12_sitting_14
theorem hd_X12_half : yX12_half.cls = RX12 ∧ yX12_half.cls ≠ "java/lang/invoke/MethodHandle" ∧ yX12_half.cls ≠ "java/lang/invoke/VarHandle" ∧ (parseMethodDescriptor yX12_half.desc).map (fun d => d.parameters.length) = some 1 := ⟨rfl, by decide +kernel, by decide +kernel, by decide +kernel⟩
def f_X12_half_s7 (N : Nat) (fn : Nat) (f : Nat → Int32) (x1 : Int32) (x2 : Int32) : Option (((Int32 × (Nat → Int32)) ⊕ ((Nat → Int32)))) :=
  if x1 ≤ x2 then inrO (some f) else gin (x1 + x2) fn (gin x2 fn (some (.inl (x2 + 1, upd f x2.toNatClampNeg (f (x1 + x2).toNatClampNeg)))))
def f_X12_half (N : Nat) (fn : Nat) (f : Nat → Int32) : Option ((Nat → Int32)) :=
  itr (fun q : Int32 × (Nat → Int32) => f_X12_half_s7 N fn q.2 ((Int32.ofNat fn) / 2) q.1) N (0, f)
set_option maxHeartbeats 4000000 in
set_option maxRecDepth 100000 in
theorem k_X12_half (l : Launch) (G : va_G) (cy : Nat → ClassId) (ev : Nat → Nat) (N : Nat) (a : Nat) (fn : Nat) (f : Nat → Int32)  (res : (Nat → Int32)) (h : f_X12_half N fn f = some res) : MetV l yX12_half cX12_half 3 none 0 0 G cy ev [.ref a] ([(a, .inl (cy 1, fn, .inl f))]) ([(a, .inl (cy 1, fn, .inl res))]) := by
  refine MetQ.start (by decide +kernel) (Nat.le_of_ble_eq_true rfl) (fun p e s m args below meth c A ls hx hb hr hml hown hts hlocks hK hP hD hA hl hE => ?_)
  have hS : va_S A s.heap s.heap [] := va_S.rf
  have hown : s.vm.findClass RX12 = some m.cls := hown
  have hl : lv_has ls 3 [(0, .ref a)] := hl
  have L7 : ∀ (x1 : Int32) (n : Nat) (x2 : Int32) (f : Nat → Int32) (H : Heap) (locs : List Loc) (ls : Array Slot), itr (fun q : Int32 × (Nat → Int32) => f_X12_half_s7 N fn q.2 x1 q.1) n (x2, f) = some res → va_P G vwCl ([(a, .inl (cy 1, fn, .inl f))]) H → va_D A ([(a, .inl (cy 1, fn, .inl f))]) → va_S A s.heap H locs → lv_has ls 3 [(0, .ref a), (1, .int x1), (2, .int x2)] → W p l e (rmX 0 0) s m args below meth c H locs 0 0 (MQ below (mQv G cy A ([(a, .inl (cy 1, fn, .inl res))])) args s 0 0 A) (F0 m 7 ls []) := by
    intro x1 n
    induction n with
    | zero => intro x2 f H locs ls h; exact (itr_zero h).elim
    | succ n ih1 =>
      intro x2 f H locs ls h hP hD hS hl
      obtain ⟨y1, h, hy1⟩ := itr_inv h
      have h : f_X12_half_s7 N fn f x1 x2 = some y1 := h
      delta f_X12_half_s7 at h
      refine lv_iload_n hx hb dX12_half_7 rfl (lv_at hl 2 rfl) ?_
      refine lv_iload_n hx hb dX12_half_8 rfl (lv_at hl 1 rfl) ?_
      refine lv_icmp_ge (tgt := 26) hx hb dX12_half_9 (by decide) (fun c9 => ?_) (fun c9 => ?_)
      · replace h := (br h).1 c9
        replace h := itr_exit h hy1
        exact retV (fw := fun q => [(a, .inl (cy 1, fn, .inl q))]) h hx hb hr hlocks hK hP hD hS dX12_half_26
      · replace h := (br h).2 c9
        refine lv_aload_n hx hb dX12_half_12 rfl (lv_at hl 0 rfl) ?_
        refine lv_iload_n hx hb dX12_half_13 rfl (lv_at hl 2 rfl) ?_
        refine lv_aload_n hx hb dX12_half_14 rfl (lv_at hl 0 rfl) ?_
        refine lv_iload_n hx hb dX12_half_15 rfl (lv_at hl 1 rfl) ?_
        refine lv_iload_n hx hb dX12_half_16 rfl (lv_at hl 2 rfl) ?_
        refine lv_iadd hx hb dX12_half_17 ?_
        replace h := gin_inv h
        obtain ⟨h9, h⟩ := h
        refine va_iald hx hb hK hP 0 1 rfl rfl h9 dX12_half_18 ?_
        replace h := gin_inv h
        obtain ⟨h9, h⟩ := h
        refine va_iast hx hb hK hP hD hS 0 1 rfl rfl h9 dX12_half_19 (fun H locs hP hD hS => ?_)
        have hP : va_P G vwCl ([(a, .inl (cy 1, fn, .inl (upd f x2.toNatClampNeg (f (x1 + x2).toNatClampNeg))))]) H := hP
        have hD : va_D A ([(a, .inl (cy 1, fn, .inl (upd f x2.toNatClampNeg (f (x1 + x2).toNatClampNeg))))]) := hD
        refine lv_iinc (v := x2 + 1) (lv' := [(2, .int (x2 + 1)), (0, .ref a), (1, .int x1)]) hx hb dX12_half_20 hl (k := 2) rfl rfl (by decide) rfl (fun ls hl => ?_)
        refine lv_goto (tgt := 7) hx hb dX12_half_23 (by decide) ?_
        replace h := itr_back h hy1
        exact ih1 (x2 + 1) (upd f x2.toNatClampNeg (f (x1 + x2).toNatClampNeg)) _ _ _ h hP hD hS (lv_sub hl [1, 2, 0] rfl)
  delta f_X12_half at h
  refine lv_aload_n hx hb dX12_half_0 rfl (lv_at hl 0 rfl) ?_
  refine va_alen (v := Int32.ofNat fn) hx hb hK hP 0 1 rfl rfl rfl dX12_half_1 ?_
  refine lv_iconst (v := 2) hx hb dX12_half_2 (by decide) ?_
  refine lv_idiv hx hb dX12_half_3 (by decide) ?_
  refine lv_istore_n (lv' := [(1, .int ((Int32.ofNat fn) / 2)), (0, .ref a)]) hx hb dX12_half_4 rfl hl (by decide) rfl (fun ls hl => ?_)
  refine lv_iconst (v := 0) hx hb dX12_half_5 (by decide) ?_
  refine lv_istore_n (lv' := [(2, .int 0), (1, .int ((Int32.ofNat fn) / 2)), (0, .ref a)]) hx hb dX12_half_6 rfl hl (by decide) rfl (fun ls hl => ?_)
  exact L7 ((Int32.ofNat fn) / 2) N 0 f _ _ _ h hP hD hS (lv_sub hl [2, 1, 0] rfl)
