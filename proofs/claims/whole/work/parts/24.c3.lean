theorem hds_X7_kind : yX7_kind.cls ≠ "java/lang/invoke/MethodHandle" ∧ yX7_kind.cls ≠ "java/lang/invoke/VarHandle" ∧ (parseMethodDescriptor yX7_kind.desc).map (fun d => d.parameters.length) = some 0 := ⟨by decide +kernel, by decide +kernel, by decide +kernel⟩
theorem hd_X7_kind : yX7_kind.cls = RX7 ∧ yX7_kind.cls ≠ "java/lang/invoke/MethodHandle" ∧ yX7_kind.cls ≠ "java/lang/invoke/VarHandle" ∧ (parseMethodDescriptor yX7_kind.desc).map (fun d => d.parameters.length) = some 0 := ⟨rfl, hds_X7_kind⟩
def f_X7_kind (R : VV) (K : VV) : Option (Int32) :=
  if R.1 2 < 0 then some 0 else if K.1 3 ≤ R.1 2 then some 0 else gin (R.1 2) 701 (some (K.2.1 0 ((R.1 2).toNatClampNeg)))
set_option maxHeartbeats 4000000 in
set_option maxRecDepth 100000 in
theorem k_X7_kind (l : Launch) (G : va_G) (cy : Nat → ClassId) (ev : Nat → Nat) (adR : Nat → Nat) (rP : Nat) (R : VV) (adK : Nat → Nat) (K : VV)  (res : Int32) (h : f_X7_kind R K = some res) : MetI l yX7_kind cX7_kind 1 (some .int) 0 0 G cy ev [.ref (adR 0)] (wj [cX7 cy adR (adK 0) rP R, cX9 cy adK K]) res (wj [cX7 cy adR (adK 0) rP R, cX9 cy adK K]) := by
  refine MetQ.start (by decide +kernel) (Nat.le_of_ble_eq_true rfl) (fun p e s m args below meth c A ls hx hb hr hml hown hts hlocks hK hP hD hA hl hE => ?_)
  have hS : va_S A s.heap s.heap [] := va_S.rf
  have hown : s.vm.findClass RX7 = some m.cls := hown
  have hl : lv_has ls 1 [(0, .ref (adR 0))] := hl
  delta f_X7_kind at h
  refine lv_aload_n hx hb dX7_kind_0 rfl (lv_at hl 0 rfl) ?_
  refine go_7_25 (ci := 0) (x := R.1 2) hx hb hts hown hK hE hP rfl rfl dX7_kind_1 ?_
  refine lv_if_lt (tgt := 36) hx hb dX7_kind_4 (by decide) (fun c9 => ?_) (fun c9 => ?_)
  · replace h := (br h).1 c9
    refine lv_iconst (v := 0) hx hb dX7_kind_36 (by decide) ?_
    exact retI (fr := fun q => q) (fw := fun _ => wj [cX7 cy adR (adK 0) rP R, cX9 cy adK K]) h hx hb hr hlocks hK hP hD hS dX7_kind_37
  · replace h := (br h).2 c9
    refine lv_aload_n hx hb dX7_kind_7 rfl (lv_at hl 0 rfl) ?_
    refine go_7_25 (ci := 0) (x := R.1 2) hx hb hts hown hK hE hP rfl rfl dX7_kind_8 ?_
    refine lv_aload_n hx hb dX7_kind_11 rfl (lv_at hl 0 rfl) ?_
    refine go_7_12 (ci := 0) hx hb hts hown hK hE hP rfl dX7_kind_12 ?_
    refine go_7_48 (ci := 1) (x := K.1 3) hx hb hts hown hK hE hP rfl rfl dX7_kind_15 ?_
    refine lv_icmp_ge (tgt := 36) hx hb dX7_kind_18 (by decide) (fun c9 => ?_) (fun c9 => ?_)
    · replace h := (br h).1 c9
      refine lv_iconst (v := 0) hx hb dX7_kind_36 (by decide) ?_
      exact retI (fr := fun q => q) (fw := fun _ => wj [cX7 cy adR (adK 0) rP R, cX9 cy adK K]) h hx hb hr hlocks hK hP hD hS dX7_kind_37
    · replace h := (br h).2 c9
      refine lv_aload_n hx hb dX7_kind_21 rfl (lv_at hl 0 rfl) ?_
      refine go_7_12 (ci := 0) hx hb hts hown hK hE hP rfl dX7_kind_22 ?_
      refine go_7_59 (ci := 1) hx hb hts hown hK hE hP rfl dX7_kind_25 ?_
      refine lv_aload_n hx hb dX7_kind_28 rfl (lv_at hl 0 rfl) ?_
      refine go_7_25 (ci := 0) (x := R.1 2) hx hb hts hown hK hE hP rfl rfl dX7_kind_29 ?_
      replace h := gin_inv h
      obtain ⟨h9, h⟩ := h
      refine ldWI (ci := 1) (k0 := 1) (g := K.2.1 0) (j := (R.1 2).toNatClampNeg) hx hb hK hP rfl cX9_a0 rfl h9 rfl dX7_kind_32 ?_
      refine lv_goto (tgt := 37) hx hb dX7_kind_33 (by decide) ?_
      exact retI (fr := fun q => q) (fw := fun _ => wj [cX7 cy adR (adK 0) rP R, cX9 cy adK K]) h hx hb hr hlocks hK hP hD hS dX7_kind_37
theorem hds_X7_value : yX7_value.cls ≠ "java/lang/invoke/MethodHandle" ∧ yX7_value.cls ≠ "java/lang/invoke/VarHandle" ∧ (parseMethodDescriptor yX7_value.desc).map (fun d => d.parameters.length) = some 0 := ⟨by decide +kernel, by decide +kernel, by decide +kernel⟩
theorem hd_X7_value : yX7_value.cls = RX7 ∧ yX7_value.cls ≠ "java/lang/invoke/MethodHandle" ∧ yX7_value.cls ≠ "java/lang/invoke/VarHandle" ∧ (parseMethodDescriptor yX7_value.desc).map (fun d => d.parameters.length) = some 0 := ⟨rfl, hds_X7_value⟩
def f_X7_value (R : VV) (K : VV) : Option (Int32) :=
  if R.1 2 < 0 then some 0 else if K.1 3 ≤ R.1 2 then some 0 else gin (R.1 2) 701 (some (K.2.1 2 ((R.1 2).toNatClampNeg)))
set_option maxHeartbeats 4000000 in
set_option maxRecDepth 100000 in
theorem k_X7_value (l : Launch) (G : va_G) (cy : Nat → ClassId) (ev : Nat → Nat) (adR : Nat → Nat) (rP : Nat) (R : VV) (adK : Nat → Nat) (K : VV)  (res : Int32) (h : f_X7_value R K = some res) : MetI l yX7_value cX7_value 1 (some .int) 0 0 G cy ev [.ref (adR 0)] (wj [cX7 cy adR (adK 0) rP R, cX9 cy adK K]) res (wj [cX7 cy adR (adK 0) rP R, cX9 cy adK K]) := by
  refine MetQ.start (by decide +kernel) (Nat.le_of_ble_eq_true rfl) (fun p e s m args below meth c A ls hx hb hr hml hown hts hlocks hK hP hD hA hl hE => ?_)
  have hS : va_S A s.heap s.heap [] := va_S.rf
  have hown : s.vm.findClass RX7 = some m.cls := hown
  have hl : lv_has ls 1 [(0, .ref (adR 0))] := hl
  delta f_X7_value at h
  refine lv_aload_n hx hb dX7_value_0 rfl (lv_at hl 0 rfl) ?_
  refine go_7_25 (ci := 0) (x := R.1 2) hx hb hts hown hK hE hP rfl rfl dX7_value_1 ?_
  refine lv_if_lt (tgt := 36) hx hb dX7_value_4 (by decide) (fun c9 => ?_) (fun c9 => ?_)
  · replace h := (br h).1 c9
    refine lv_iconst (v := 0) hx hb dX7_value_36 (by decide) ?_
    exact retI (fr := fun q => q) (fw := fun _ => wj [cX7 cy adR (adK 0) rP R, cX9 cy adK K]) h hx hb hr hlocks hK hP hD hS dX7_value_37
  · replace h := (br h).2 c9
    refine lv_aload_n hx hb dX7_value_7 rfl (lv_at hl 0 rfl) ?_
    refine go_7_25 (ci := 0) (x := R.1 2) hx hb hts hown hK hE hP rfl rfl dX7_value_8 ?_
    refine lv_aload_n hx hb dX7_value_11 rfl (lv_at hl 0 rfl) ?_
    refine go_7_12 (ci := 0) hx hb hts hown hK hE hP rfl dX7_value_12 ?_
    refine go_7_48 (ci := 1) (x := K.1 3) hx hb hts hown hK hE hP rfl rfl dX7_value_15 ?_
    refine lv_icmp_ge (tgt := 36) hx hb dX7_value_18 (by decide) (fun c9 => ?_) (fun c9 => ?_)
    · replace h := (br h).1 c9
      refine lv_iconst (v := 0) hx hb dX7_value_36 (by decide) ?_
      exact retI (fr := fun q => q) (fw := fun _ => wj [cX7 cy adR (adK 0) rP R, cX9 cy adK K]) h hx hb hr hlocks hK hP hD hS dX7_value_37
    · replace h := (br h).2 c9
      refine lv_aload_n hx hb dX7_value_21 rfl (lv_at hl 0 rfl) ?_
      refine go_7_12 (ci := 0) hx hb hts hown hK hE hP rfl dX7_value_22 ?_
      refine go_7_62 (ci := 1) hx hb hts hown hK hE hP rfl dX7_value_25 ?_
      refine lv_aload_n hx hb dX7_value_28 rfl (lv_at hl 0 rfl) ?_
      refine go_7_25 (ci := 0) (x := R.1 2) hx hb hts hown hK hE hP rfl rfl dX7_value_29 ?_
      replace h := gin_inv h
      obtain ⟨h9, h⟩ := h
      refine ldWI (ci := 1) (k0 := 3) (g := K.2.1 2) (j := (R.1 2).toNatClampNeg) hx hb hK hP rfl cX9_a2 rfl h9 rfl dX7_value_32 ?_
      refine lv_goto (tgt := 37) hx hb dX7_value_33 (by decide) ?_
      exact retI (fr := fun q => q) (fw := fun _ => wj [cX7 cy adR (adK 0) rP R, cX9 cy adK K]) h hx hb hr hlocks hK hP hD hS dX7_value_37
theorem hds_X7_refuse : yX7_refuse.cls ≠ "java/lang/invoke/MethodHandle" ∧ yX7_refuse.cls ≠ "java/lang/invoke/VarHandle" ∧ (parseMethodDescriptor yX7_refuse.desc).map (fun d => d.parameters.length) = some 1 := ⟨by decide +kernel, by decide +kernel, by decide +kernel⟩
theorem hd_X7_refuse : yX7_refuse.cls = RX7 ∧ yX7_refuse.cls ≠ "java/lang/invoke/MethodHandle" ∧ yX7_refuse.cls ≠ "java/lang/invoke/VarHandle" ∧ (parseMethodDescriptor yX7_refuse.desc).map (fun d => d.parameters.length) = some 1 := ⟨rfl, hds_X7_refuse⟩
def f_X7_refuse_b43 (R : VV) (K : VV) (z0 : Int32) : Option (Int32 × VV) :=
  some (0, si R 6 z0)
def f_X7_refuse_b42 (R : VV) (K : VV)  : Option (Int32 × VV) :=
  f_X7_refuse_b43 R K ((-1))
def f_X7_refuse (R : VV) (K : VV) (a1 : Int32) : Option (Int32 × VV) :=
  if R.1 2 < 0 then f_X7_refuse_b42 (si R 5 a1) K else if K.1 3 ≤ R.1 2 then f_X7_refuse_b42 (si R 5 a1) K else gin (R.1 2) 701 (f_X7_refuse_b43 (si R 5 a1) K (K.2.1 1 ((R.1 2).toNatClampNeg)))
set_option maxHeartbeats 4000000 in
set_option maxRecDepth 100000 in
theorem k_X7_refuse (l : Launch) (G : va_G) (cy : Nat → ClassId) (ev : Nat → Nat) (adR : Nat → Nat) (rP : Nat) (R : VV) (adK : Nat → Nat) (K : VV) (a1 : Int32) (res : Int32 × VV) (h : f_X7_refuse R K a1 = some res) : MetI l yX7_refuse cX7_refuse 2 (some .boolean) 0 0 G cy ev [.ref (adR 0), .int a1] (wj [cX7 cy adR (adK 0) rP R, cX9 cy adK K]) res.1 (wj [cX7 cy adR (adK 0) rP res.2, cX9 cy adK K]) := by
  refine MetQ.start (by decide +kernel) (Nat.le_of_ble_eq_true rfl) (fun p e s m args below meth c A ls hx hb hr hml hown hts hlocks hK hP hD hA hl hE => ?_)
  have hS : va_S A s.heap s.heap [] := va_S.rf
  have hown : s.vm.findClass RX7 = some m.cls := hown
  have hl : lv_has ls 2 [(0, .ref (adR 0)), (1, .int a1)] := hl
  have B43 : ∀ (z0 : Int32) (R : VV) (H : Heap) (locs : List Loc) (ls : Array Slot), f_X7_refuse_b43 R K z0 = some res → va_P G vwCl (wj [cX7 cy adR (adK 0) rP R, cX9 cy adK K]) H → va_D A (wj [cX7 cy adR (adK 0) rP R, cX9 cy adK K]) → va_S A s.heap H locs → lv_has ls 2 [] → W p l e (rmX 0 0) s m args below meth c H locs 0 0 (MQ below (mQi (res.1) G cy A (wj [cX7 cy adR (adK 0) rP res.2, cX9 cy adK K])) args s 0 0 A) (F0 m 43 ls [.int z0, .ref (adR 0)]) := by
    intro z0 R H locs ls h hP hD hS hl
    delta f_X7_refuse_b43 at h
    refine po_7_38 (ci := 0) (cs' := [cX7 cy adR (adK 0) rP (si R 6 z0), cX9 cy adK K]) hx hb hts hown hK hE hP hD hS rfl rfl dX7_refuse_43 (fun H locs hP hD hS => ?_)
    refine lv_iconst (v := 0) hx hb dX7_refuse_46 (by decide) ?_
    exact retZ (fr := fun q => q.1) (fw := fun q => wj [cX7 cy adR (adK 0) rP q.2, cX9 cy adK K]) h hx hb hr narZ0 hlocks hK hP hD hS dX7_refuse_47
  have B42 : ∀ (R : VV) (H : Heap) (locs : List Loc) (ls : Array Slot), f_X7_refuse_b42 R K = some res → va_P G vwCl (wj [cX7 cy adR (adK 0) rP R, cX9 cy adK K]) H → va_D A (wj [cX7 cy adR (adK 0) rP R, cX9 cy adK K]) → va_S A s.heap H locs → lv_has ls 2 [] → W p l e (rmX 0 0) s m args below meth c H locs 0 0 (MQ below (mQi (res.1) G cy A (wj [cX7 cy adR (adK 0) rP res.2, cX9 cy adK K])) args s 0 0 A) (F0 m 42 ls [.ref (adR 0)]) := by
    intro R H locs ls h hP hD hS hl
    delta f_X7_refuse_b42 at h
    refine lv_iconst (v := (-1)) hx hb dX7_refuse_42 (by decide) ?_
    exact B43 ((-1)) R _ _ _ h hP hD hS (lv_sub hl [] rfl)
  delta f_X7_refuse at h
  refine lv_aload_n hx hb dX7_refuse_0 rfl (lv_at hl 0 rfl) ?_
  refine lv_iload_n hx hb dX7_refuse_1 rfl (lv_at hl 1 rfl) ?_
  refine po_7_35 (ci := 0) (cs' := [cX7 cy adR (adK 0) rP (si R 5 a1), cX9 cy adK K]) hx hb hts hown hK hE hP hD hS rfl rfl dX7_refuse_2 (fun H locs hP hD hS => ?_)
  refine lv_aload_n hx hb dX7_refuse_5 rfl (lv_at hl 0 rfl) ?_
  refine lv_aload_n hx hb dX7_refuse_6 rfl (lv_at hl 0 rfl) ?_
  refine go_7_25 (ci := 0) (x := R.1 2) hx hb hts hown hK hE hP rfl rfl dX7_refuse_7 ?_
  refine lv_if_lt (tgt := 42) hx hb dX7_refuse_10 (by decide) (fun c9 => ?_) (fun c9 => ?_)
  · replace h := (br h).1 c9
    exact B42 (si R 5 a1) _ _ _ h hP hD hS (lv_sub hl [] rfl)
  · replace h := (br h).2 c9
    refine lv_aload_n hx hb dX7_refuse_13 rfl (lv_at hl 0 rfl) ?_
    refine go_7_25 (ci := 0) (x := R.1 2) hx hb hts hown hK hE hP rfl rfl dX7_refuse_14 ?_
    refine lv_aload_n hx hb dX7_refuse_17 rfl (lv_at hl 0 rfl) ?_
    refine go_7_12 (ci := 0) hx hb hts hown hK hE hP rfl dX7_refuse_18 ?_
    refine go_7_48 (ci := 1) (x := K.1 3) hx hb hts hown hK hE hP rfl rfl dX7_refuse_21 ?_
    refine lv_icmp_ge (tgt := 42) hx hb dX7_refuse_24 (by decide) (fun c9 => ?_) (fun c9 => ?_)
    · replace h := (br h).1 c9
      exact B42 (si R 5 a1) _ _ _ h hP hD hS (lv_sub hl [] rfl)
    · replace h := (br h).2 c9
      refine lv_aload_n hx hb dX7_refuse_27 rfl (lv_at hl 0 rfl) ?_
      refine go_7_12 (ci := 0) hx hb hts hown hK hE hP rfl dX7_refuse_28 ?_
      refine go_7_65 (ci := 1) hx hb hts hown hK hE hP rfl dX7_refuse_31 ?_
      refine lv_aload_n hx hb dX7_refuse_34 rfl (lv_at hl 0 rfl) ?_
      refine go_7_25 (ci := 0) (x := R.1 2) hx hb hts hown hK hE hP rfl rfl dX7_refuse_35 ?_
      replace h := gin_inv h
      obtain ⟨h9, h⟩ := h
      refine ldWI (ci := 1) (k0 := 2) (g := K.2.1 1) (j := (R.1 2).toNatClampNeg) hx hb hK hP rfl cX9_a1 rfl h9 rfl dX7_refuse_38 ?_
      refine lv_goto (tgt := 43) hx hb dX7_refuse_39 (by decide) ?_
      exact B43 (K.2.1 1 ((R.1 2).toNatClampNeg)) (si R 5 a1) _ _ _ h hP hD hS (lv_sub hl [] rfl)
theorem hds_X7_expect : yX7_expect.cls ≠ "java/lang/invoke/MethodHandle" ∧ yX7_expect.cls ≠ "java/lang/invoke/VarHandle" ∧ (parseMethodDescriptor yX7_expect.desc).map (fun d => d.parameters.length) = some 1 := ⟨by decide +kernel, by decide +kernel, by decide +kernel⟩
theorem hd_X7_expect : yX7_expect.cls = RX7 ∧ yX7_expect.cls ≠ "java/lang/invoke/MethodHandle" ∧ yX7_expect.cls ≠ "java/lang/invoke/VarHandle" ∧ (parseMethodDescriptor yX7_expect.desc).map (fun d => d.parameters.length) = some 1 := ⟨rfl, hds_X7_expect⟩
def f_X7_expect (R : VV) (K : VV) (a1 : Int32) : Option (Int32 × VV) :=
  bnd (f_X7_kind R K) (fun q1 => if q1 = a1 then some (1, si R 2 ((R.1 2) + 1)) else bnd (f_X7_refuse R K 1) (fun q3 => gbz q3.1 (some (q3.1, q3.2))))
set_option maxHeartbeats 4000000 in
set_option maxRecDepth 100000 in
theorem k_X7_expect (l : Launch) (G : va_G) (cy : Nat → ClassId) (ev : Nat → Nat) (adR : Nat → Nat) (rP : Nat) (R : VV) (adK : Nat → Nat) (K : VV) (a1 : Int32) (res : Int32 × VV) (h : f_X7_expect R K a1 = some res) : MetI l yX7_expect cX7_expect 2 (some .boolean) 1 21 G cy ev [.ref (adR 0), .int a1] (wj [cX7 cy adR (adK 0) rP R, cX9 cy adK K]) res.1 (wj [cX7 cy adR (adK 0) rP res.2, cX9 cy adK K]) := by
  refine MetQ.start (by decide +kernel) (Nat.le_of_ble_eq_true rfl) (fun p e s m args below meth c A ls hx hb hr hml hown hts hlocks hK hP hD hA hl hE => ?_)
  have hS : va_S A s.heap s.heap [] := va_S.rf
  have hown : s.vm.findClass RX7 = some m.cls := hown
  have hl : lv_has ls 2 [(0, .ref (adR 0)), (1, .int a1)] := hl
  delta f_X7_expect at h
  refine lv_aload_n hx hb dX7_expect_0 rfl (lv_at hl 0 rfl) ?_
  replace h := bd h
  obtain ⟨q1, h2, h⟩ := h
  refine callWVi (As := []) (rest := []) (cs' := [cX7 cy adR (adK 0) rP R, cX9 cy adK K]) (isC := [0, 1]) (isR := []) hx hb hml hown hts (k_X7_kind l G cy ev adR rP R adK K q1 h2) wm_16_15 wm_16_16 wm_16_17 wm_1_18 wm_16_18 hd_X7_kind ⟨by decide, by decide⟩ hK hP hD hS hA hE rfl rfl rfl (cov_of (n := 2) rfl (by decide)) (by decide) rfl (recvW (ci := 0) hK hP rfl cX7_o rfl) rfl rfl hl.1 (Nat.le_of_ble_eq_true rfl) dX7_expect_1 (fun H locs hP hD hS => ?_)
  refine lv_iload_n hx hb dX7_expect_4 rfl (lv_at hl 1 rfl) ?_
  refine lv_icmp_eq (tgt := 14) hx hb dX7_expect_5 (by decide) (fun c9 => ?_) (fun c9 => ?_)
  · replace h := (br h).1 c9
    refine lv_aload_n hx hb dX7_expect_14 rfl (lv_at hl 0 rfl) ?_
    refine lv_dup hx hb dX7_expect_15 rfl ?_
    refine go_7_25 (ci := 0) (x := R.1 2) hx hb hts hown hK hE hP rfl rfl dX7_expect_16 ?_
    refine lv_iconst (v := 1) hx hb dX7_expect_19 (by decide) ?_
    refine lv_iadd hx hb dX7_expect_20 ?_
    refine po_7_25 (ci := 0) (cs' := [cX7 cy adR (adK 0) rP (si R 2 ((R.1 2) + 1)), cX9 cy adK K]) hx hb hts hown hK hE hP hD hS rfl rfl dX7_expect_21 (fun H locs hP hD hS => ?_)
    refine lv_iconst (v := 1) hx hb dX7_expect_24 (by decide) ?_
    exact retZ (fr := fun q => q.1) (fw := fun q => wj [cX7 cy adR (adK 0) rP q.2, cX9 cy adK K]) h hx hb hr narZ1 hlocks hK hP hD hS dX7_expect_25
  · replace h := (br h).2 c9
    refine lv_aload_n hx hb dX7_expect_8 rfl (lv_at hl 0 rfl) ?_
    refine lv_iconst (v := 1) hx hb dX7_expect_9 (by decide) ?_
    replace h := bd h
    obtain ⟨q3, h4, h⟩ := h
    refine callWVi (As := [.int 1]) (rest := []) (cs' := [cX7 cy adR (adK 0) rP q3.2, cX9 cy adK K]) (isC := [0, 1]) (isR := []) hx hb hml hown hts (k_X7_refuse l G cy ev adR rP R adK K 1 q3 h4) wm_17_3 wm_17_4 wm_17_5 wm_1_18 wm_17_6 hd_X7_refuse ⟨by decide, by decide⟩ hK hP hD hS hA hE rfl rfl rfl (cov_of (n := 2) rfl (by decide)) (by decide) rfl (recvW (ci := 0) hK hP rfl cX7_o rfl) rfl rfl hl.1 (Nat.le_of_ble_eq_true rfl) dX7_expect_10 (fun H locs hP hD hS => ?_)
    replace h := gbz_inv h
    obtain ⟨h9, h⟩ := h
    exact retZ (fr := fun q => q.1) (fw := fun q => wj [cX7 cy adR (adK 0) rP q.2, cX9 cy adK K]) h hx hb hr (narZ h9).1 hlocks hK hP hD hS dX7_expect_13
theorem hds_X7_readNumber : yX7_readNumber.cls ≠ "java/lang/invoke/MethodHandle" ∧ yX7_readNumber.cls ≠ "java/lang/invoke/VarHandle" ∧ (parseMethodDescriptor yX7_readNumber.desc).map (fun d => d.parameters.length) = some 2 := ⟨by decide +kernel, by decide +kernel, by decide +kernel⟩
theorem hd_X7_readNumber : yX7_readNumber.cls = RX7 ∧ yX7_readNumber.cls ≠ "java/lang/invoke/MethodHandle" ∧ yX7_readNumber.cls ≠ "java/lang/invoke/VarHandle" ∧ (parseMethodDescriptor yX7_readNumber.desc).map (fun d => d.parameters.length) = some 2 := ⟨rfl, hds_X7_readNumber⟩
def f_X7_readNumber_b38 (R : VV) (K : VV)  : Option (Int32 × VV) :=
  bnd (f_X7_refuse R K 2) (fun q3801 => gbz q3801.1 (some (q3801.1, q3801.2)))
def f_X7_readNumber (R : VV) (K : VV) (a1 : Int32) (a2 : Int32) : Option (Int32 × VV) :=
  bnd (f_X7_kind R K) (fun q1 => if q1 = 2 then bnd (f_X7_value R K) (fun q3 => if q3 < a1 then f_X7_readNumber_b38 (si R 3 q3) K else if q3 ≤ a2 then some (1, si (si R 3 q3) 2 ((R.1 2) + 1)) else f_X7_readNumber_b38 (si R 3 q3) K) else bnd (f_X7_refuse R K 1) (fun q5 => gbz q5.1 (some (q5.1, q5.2))))
set_option maxHeartbeats 4000000 in
set_option maxRecDepth 100000 in
theorem k_X7_readNumber (l : Launch) (G : va_G) (cy : Nat → ClassId) (ev : Nat → Nat) (adR : Nat → Nat) (rP : Nat) (R : VV) (adK : Nat → Nat) (K : VV) (a1 : Int32) (a2 : Int32) (res : Int32 × VV) (h : f_X7_readNumber R K a1 a2 = some res) : MetI l yX7_readNumber cX7_readNumber 3 (some .boolean) 1 21 G cy ev [.ref (adR 0), .int a1, .int a2] (wj [cX7 cy adR (adK 0) rP R, cX9 cy adK K]) res.1 (wj [cX7 cy adR (adK 0) rP res.2, cX9 cy adK K]) := by
  refine MetQ.start (by decide +kernel) (Nat.le_of_ble_eq_true rfl) (fun p e s m args below meth c A ls hx hb hr hml hown hts hlocks hK hP hD hA hl hE => ?_)
  have hS : va_S A s.heap s.heap [] := va_S.rf
  have hown : s.vm.findClass RX7 = some m.cls := hown
  have hl : lv_has ls 3 [(0, .ref (adR 0)), (1, .int a1), (2, .int a2)] := hl
  have B38 : ∀ (R : VV) (H : Heap) (locs : List Loc) (ls : Array Slot), f_X7_readNumber_b38 R K = some res → va_P G vwCl (wj [cX7 cy adR (adK 0) rP R, cX9 cy adK K]) H → va_D A (wj [cX7 cy adR (adK 0) rP R, cX9 cy adK K]) → va_S A s.heap H locs → lv_has ls 3 [(0, .ref (adR 0))] → W p l e (rmX 1 21) s m args below meth c H locs 0 0 (MQ below (mQi (res.1) G cy A (wj [cX7 cy adR (adK 0) rP res.2, cX9 cy adK K])) args s 0 0 A) (F0 m 38 ls []) := by
    intro R H locs ls h hP hD hS hl
    delta f_X7_readNumber_b38 at h
    refine lv_aload_n hx hb dX7_readNumber_38 rfl (lv_at hl 0 rfl) ?_
    refine lv_iconst (v := 2) hx hb dX7_readNumber_39 (by decide) ?_
    replace h := bd h
    obtain ⟨q3801, h3802, h⟩ := h
    refine callWVi (As := [.int 2]) (rest := []) (cs' := [cX7 cy adR (adK 0) rP q3801.2, cX9 cy adK K]) (isC := [0, 1]) (isR := []) hx hb hml hown hts (k_X7_refuse l G cy ev adR rP R adK K 2 q3801 h3802) wm_17_3 wm_17_4 wm_17_5 wm_1_18 wm_17_6 hd_X7_refuse ⟨by decide, by decide⟩ hK hP hD hS hA hE rfl rfl rfl (cov_of (n := 2) rfl (by decide)) (by decide) rfl (recvW (ci := 0) hK hP rfl cX7_o rfl) rfl rfl hl.1 (Nat.le_of_ble_eq_true rfl) dX7_readNumber_40 (fun H locs hP hD hS => ?_)
    replace h := gbz_inv h
    obtain ⟨h9, h⟩ := h
    exact retZ (fr := fun q => q.1) (fw := fun q => wj [cX7 cy adR (adK 0) rP q.2, cX9 cy adK K]) h hx hb hr (narZ h9).1 hlocks hK hP hD hS dX7_readNumber_43
  delta f_X7_readNumber at h
  refine lv_aload_n hx hb dX7_readNumber_0 rfl (lv_at hl 0 rfl) ?_
  replace h := bd h
  obtain ⟨q1, h2, h⟩ := h
  refine callWVi (As := []) (rest := []) (cs' := [cX7 cy adR (adK 0) rP R, cX9 cy adK K]) (isC := [0, 1]) (isR := []) hx hb hml hown hts (k_X7_kind l G cy ev adR rP R adK K q1 h2) wm_16_15 wm_16_16 wm_16_17 wm_1_18 wm_16_18 hd_X7_kind ⟨by decide, by decide⟩ hK hP hD hS hA hE rfl rfl rfl (cov_of (n := 2) rfl (by decide)) (by decide) rfl (recvW (ci := 0) hK hP rfl cX7_o rfl) rfl rfl hl.1 (Nat.le_of_ble_eq_true rfl) dX7_readNumber_1 (fun H locs hP hD hS => ?_)
  refine lv_iconst (v := 2) hx hb dX7_readNumber_4 (by decide) ?_
  refine lv_icmp_eq (tgt := 14) hx hb dX7_readNumber_5 (by decide) (fun c9 => ?_) (fun c9 => ?_)
  · replace h := (br h).1 c9
    refine lv_aload_n hx hb dX7_readNumber_14 rfl (lv_at hl 0 rfl) ?_
    refine lv_aload_n hx hb dX7_readNumber_15 rfl (lv_at hl 0 rfl) ?_
    replace h := bd h
    obtain ⟨q3, h4, h⟩ := h
    refine callWVi (As := []) (rest := [.ref (adR 0)]) (cs' := [cX7 cy adR (adK 0) rP R, cX9 cy adK K]) (isC := [0, 1]) (isR := []) hx hb hml hown hts (k_X7_value l G cy ev adR rP R adK K q3 h4) wm_17_7 wm_17_8 wm_17_9 wm_1_18 wm_17_10 hd_X7_value ⟨by decide, by decide⟩ hK hP hD hS hA hE rfl rfl rfl (cov_of (n := 2) rfl (by decide)) (by decide) rfl (recvW (ci := 0) hK hP rfl cX7_o rfl) rfl rfl hl.1 (Nat.le_of_ble_eq_true rfl) dX7_readNumber_16 (fun H locs hP hD hS => ?_)
    refine po_7_29 (ci := 0) (cs' := [cX7 cy adR (adK 0) rP (si R 3 q3), cX9 cy adK K]) hx hb hts hown hK hE hP hD hS rfl rfl dX7_readNumber_19 (fun H locs hP hD hS => ?_)
    refine lv_aload_n hx hb dX7_readNumber_22 rfl (lv_at hl 0 rfl) ?_
    refine go_7_29 (ci := 0) (x := q3) hx hb hts hown hK hE hP rfl rfl dX7_readNumber_23 ?_
    refine lv_iload_n hx hb dX7_readNumber_26 rfl (lv_at hl 1 rfl) ?_
    refine lv_icmp_lt (tgt := 38) hx hb dX7_readNumber_27 (by decide) (fun c9 => ?_) (fun c9 => ?_)
    · replace h := (br h).1 c9
      exact B38 (si R 3 q3) _ _ _ h hP hD hS (lv_sub hl [0] rfl)
    · replace h := (br h).2 c9
      refine lv_aload_n hx hb dX7_readNumber_30 rfl (lv_at hl 0 rfl) ?_
      refine go_7_29 (ci := 0) (x := q3) hx hb hts hown hK hE hP rfl rfl dX7_readNumber_31 ?_
      refine lv_iload_n hx hb dX7_readNumber_34 rfl (lv_at hl 2 rfl) ?_
      refine lv_icmp_le (tgt := 44) hx hb dX7_readNumber_35 (by decide) (fun c9 => ?_) (fun c9 => ?_)
      · replace h := (br h).1 c9
        refine lv_aload_n hx hb dX7_readNumber_44 rfl (lv_at hl 0 rfl) ?_
        refine lv_dup hx hb dX7_readNumber_45 rfl ?_
        refine go_7_25 (ci := 0) (x := R.1 2) hx hb hts hown hK hE hP rfl rfl dX7_readNumber_46 ?_
        refine lv_iconst (v := 1) hx hb dX7_readNumber_49 (by decide) ?_
        refine lv_iadd hx hb dX7_readNumber_50 ?_
        refine po_7_25 (ci := 0) (cs' := [cX7 cy adR (adK 0) rP (si (si R 3 q3) 2 ((R.1 2) + 1)), cX9 cy adK K]) hx hb hts hown hK hE hP hD hS rfl rfl dX7_readNumber_51 (fun H locs hP hD hS => ?_)
        refine lv_iconst (v := 1) hx hb dX7_readNumber_54 (by decide) ?_
        exact retZ (fr := fun q => q.1) (fw := fun q => wj [cX7 cy adR (adK 0) rP q.2, cX9 cy adK K]) h hx hb hr narZ1 hlocks hK hP hD hS dX7_readNumber_55
      · replace h := (br h).2 c9
        exact B38 (si R 3 q3) _ _ _ h hP hD hS (lv_sub hl [0] rfl)
  · replace h := (br h).2 c9
    refine lv_aload_n hx hb dX7_readNumber_8 rfl (lv_at hl 0 rfl) ?_
    refine lv_iconst (v := 1) hx hb dX7_readNumber_9 (by decide) ?_
    replace h := bd h
    obtain ⟨q5, h6, h⟩ := h
    refine callWVi (As := [.int 1]) (rest := []) (cs' := [cX7 cy adR (adK 0) rP q5.2, cX9 cy adK K]) (isC := [0, 1]) (isR := []) hx hb hml hown hts (k_X7_refuse l G cy ev adR rP R adK K 1 q5 h6) wm_17_3 wm_17_4 wm_17_5 wm_1_18 wm_17_6 hd_X7_refuse ⟨by decide, by decide⟩ hK hP hD hS hA hE rfl rfl rfl (cov_of (n := 2) rfl (by decide)) (by decide) rfl (recvW (ci := 0) hK hP rfl cX7_o rfl) rfl rfl hl.1 (Nat.le_of_ble_eq_true rfl) dX7_readNumber_10 (fun H locs hP hD hS => ?_)
    replace h := gbz_inv h
    obtain ⟨h9, h⟩ := h
    exact retZ (fr := fun q => q.1) (fw := fun q => wj [cX7 cy adR (adK 0) rP q.2, cX9 cy adK K]) h hx hb hr (narZ h9).1 hlocks hK hP hD hS dX7_readNumber_13
theorem hds_X7_takeKnot : yX7_takeKnot.cls ≠ "java/lang/invoke/MethodHandle" ∧ yX7_takeKnot.cls ≠ "java/lang/invoke/VarHandle" ∧ (parseMethodDescriptor yX7_takeKnot.desc).map (fun d => d.parameters.length) = some 0 := ⟨by decide +kernel, by decide +kernel, by decide +kernel⟩
theorem hd_X7_takeKnot : yX7_takeKnot.cls = RX7 ∧ yX7_takeKnot.cls ≠ "java/lang/invoke/MethodHandle" ∧ yX7_takeKnot.cls ≠ "java/lang/invoke/VarHandle" ∧ (parseMethodDescriptor yX7_takeKnot.desc).map (fun d => d.parameters.length) = some 0 := ⟨rfl, hds_X7_takeKnot⟩
def f_X7_takeKnot (R : VV) (K : VV) (P : VV) (L : VV) : Option (Int32 × VV × VV) :=
  if L.1 3 < 64 then some (1, si R 2 ((R.1 2) + 1), si L 3 ((L.1 3) + 1)) else bnd (f_X7_refuse R K 2) (fun q1 => gbz q1.1 (some (q1.1, q1.2, L)))
set_option maxHeartbeats 4000000 in
set_option maxRecDepth 100000 in
theorem k_X7_takeKnot (l : Launch) (G : va_G) (cy : Nat → ClassId) (ev : Nat → Nat) (adR : Nat → Nat) (R : VV) (adK : Nat → Nat) (K : VV) (adP : Nat → Nat) (P : VV) (adL : Nat → Nat) (L : VV)  (res : Int32 × VV × VV) (h : f_X7_takeKnot R K P L = some res) : MetI l yX7_takeKnot cX7_takeKnot 1 (some .boolean) 1 21 G cy ev [.ref (adR 0)] (wj [cX7 cy adR (adK 0) (adP 0) R, cX9 cy adK K, cX6 cy adP (adL 0) P, cX3 cy adL L]) res.1 (wj [cX7 cy adR (adK 0) (adP 0) res.2.1, cX9 cy adK K, cX6 cy adP (adL 0) P, cX3 cy adL res.2.2]) := by
  refine MetQ.start (by decide +kernel) (Nat.le_of_ble_eq_true rfl) (fun p e s m args below meth c A ls hx hb hr hml hown hts hlocks hK hP hD hA hl hE => ?_)
  have hS : va_S A s.heap s.heap [] := va_S.rf
  have hown : s.vm.findClass RX7 = some m.cls := hown
  have hl : lv_has ls 1 [(0, .ref (adR 0))] := hl
  delta f_X7_takeKnot at h
  refine lv_aload_n hx hb dX7_takeKnot_0 rfl (lv_at hl 0 rfl) ?_
  refine go_7_21 (ci := 0) hx hb hts hown hK hE hP rfl dX7_takeKnot_1 ?_
  refine go_7_135 (ci := 2) hx hb hts hown hK hE hP rfl dX7_takeKnot_4 ?_
  refine go_7_165 (ci := 3) (x := L.1 3) hx hb hts hown hK hE hP rfl rfl dX7_takeKnot_7 ?_
  refine lv_bipush (v := 64) hx hb dX7_takeKnot_10 (by decide) ?_
  refine lv_icmp_lt (tgt := 21) hx hb dX7_takeKnot_12 (by decide) (fun c9 => ?_) (fun c9 => ?_)
  · replace h := (br h).1 c9
    refine lv_aload_n hx hb dX7_takeKnot_21 rfl (lv_at hl 0 rfl) ?_
    refine go_7_21 (ci := 0) hx hb hts hown hK hE hP rfl dX7_takeKnot_22 ?_
    refine go_7_135 (ci := 2) hx hb hts hown hK hE hP rfl dX7_takeKnot_25 ?_
    refine lv_dup hx hb dX7_takeKnot_28 rfl ?_
    refine go_7_165 (ci := 3) (x := L.1 3) hx hb hts hown hK hE hP rfl rfl dX7_takeKnot_29 ?_
    refine lv_iconst (v := 1) hx hb dX7_takeKnot_32 (by decide) ?_
    refine lv_iadd hx hb dX7_takeKnot_33 ?_
    refine po_7_165 (ci := 3) (cs' := [cX7 cy adR (adK 0) (adP 0) R, cX9 cy adK K, cX6 cy adP (adL 0) P, cX3 cy adL (si L 3 ((L.1 3) + 1))]) hx hb hts hown hK hE hP hD hS rfl rfl dX7_takeKnot_34 (fun H locs hP hD hS => ?_)
    refine lv_aload_n hx hb dX7_takeKnot_37 rfl (lv_at hl 0 rfl) ?_
    refine lv_dup hx hb dX7_takeKnot_38 rfl ?_
    refine go_7_25 (ci := 0) (x := R.1 2) hx hb hts hown hK hE hP rfl rfl dX7_takeKnot_39 ?_
    refine lv_iconst (v := 1) hx hb dX7_takeKnot_42 (by decide) ?_
    refine lv_iadd hx hb dX7_takeKnot_43 ?_
    refine po_7_25 (ci := 0) (cs' := [cX7 cy adR (adK 0) (adP 0) (si R 2 ((R.1 2) + 1)), cX9 cy adK K, cX6 cy adP (adL 0) P, cX3 cy adL (si L 3 ((L.1 3) + 1))]) hx hb hts hown hK hE hP hD hS rfl rfl dX7_takeKnot_44 (fun H locs hP hD hS => ?_)
    refine lv_iconst (v := 1) hx hb dX7_takeKnot_47 (by decide) ?_
    exact retZ (fr := fun q => q.1) (fw := fun q => wj [cX7 cy adR (adK 0) (adP 0) q.2.1, cX9 cy adK K, cX6 cy adP (adL 0) P, cX3 cy adL q.2.2]) h hx hb hr narZ1 hlocks hK hP hD hS dX7_takeKnot_48
  · replace h := (br h).2 c9
    refine lv_aload_n hx hb dX7_takeKnot_15 rfl (lv_at hl 0 rfl) ?_
    refine lv_iconst (v := 2) hx hb dX7_takeKnot_16 (by decide) ?_
    replace h := bd h
    obtain ⟨q1, h2, h⟩ := h
    refine callWVi (As := [.int 2]) (rest := []) (cs' := [cX7 cy adR (adK 0) (adP 0) q1.2, cX9 cy adK K, cX6 cy adP (adL 0) P, cX3 cy adL L]) (isC := [0, 1]) (isR := [2, 3]) hx hb hml hown hts (k_X7_refuse l G cy ev adR (adP 0) R adK K 2 q1 h2) wm_17_3 wm_17_4 wm_17_5 wm_1_18 wm_17_6 hd_X7_refuse ⟨by decide, by decide⟩ hK hP hD hS hA hE rfl rfl rfl (cov_of (n := 4) rfl (by decide)) (by decide) rfl (recvW (ci := 0) hK hP rfl cX7_o rfl) rfl rfl hl.1 (Nat.le_of_ble_eq_true rfl) dX7_takeKnot_17 (fun H locs hP hD hS => ?_)
    replace h := gbz_inv h
    obtain ⟨h9, h⟩ := h
    exact retZ (fr := fun q => q.1) (fw := fun q => wj [cX7 cy adR (adK 0) (adP 0) q.2.1, cX9 cy adK K, cX6 cy adP (adL 0) P, cX3 cy adL q.2.2]) h hx hb hr (narZ h9).1 hlocks hK hP hD hS dX7_takeKnot_20
theorem hds_X7_rankOf : yX7_rankOf.cls ≠ "java/lang/invoke/MethodHandle" ∧ yX7_rankOf.cls ≠ "java/lang/invoke/VarHandle" ∧ (parseMethodDescriptor yX7_rankOf.desc).map (fun d => d.parameters.length) = some 1 := ⟨by decide +kernel, by decide +kernel, by decide +kernel⟩
theorem hd_X7_rankOf : yX7_rankOf.cls = RX7 ∧ yX7_rankOf.cls ≠ "java/lang/invoke/MethodHandle" ∧ yX7_rankOf.cls ≠ "java/lang/invoke/VarHandle" ∧ (parseMethodDescriptor yX7_rankOf.desc).map (fun d => d.parameters.length) = some 1 := ⟨rfl, hds_X7_rankOf⟩
def f_X7_rankOf_b14 (x0 : Int32) : Option (Int32) :=
  if x0 = 7 then some 4 else if x0 = 8 then some 4 else if x0 = 9 then some 5 else if x0 = 10 then some 5 else if x0 = 44 then some 1 else if x0 = 45 then some 2 else some 0
def f_X7_rankOf (a1 : Int32) : Option (Int32) :=
  if a1 < 11 then f_X7_rankOf_b14 a1 else if (16 : Int32) < a1 then f_X7_rankOf_b14 a1 else some 3
set_option maxHeartbeats 4000000 in
set_option maxRecDepth 100000 in
theorem k_X7_rankOf (l : Launch) (G : va_G) (cy : Nat → ClassId) (ev : Nat → Nat) (w : va_W)  (a1 : Int32) (res : Int32) (h : f_X7_rankOf a1 = some res) : MetI l yX7_rankOf cX7_rankOf 1 (some .int) 0 0 G cy ev [.int a1] (w) res (w) := by
  refine MetQ.start (by decide +kernel) (Nat.le_of_ble_eq_true rfl) (fun p e s m args below meth c A ls hx hb hr hml hown hts hlocks hK hP hD hA hl hE => ?_)
  have hS : va_S A s.heap s.heap [] := va_S.rf
  have hown : s.vm.findClass RX7 = some m.cls := hown
  have hl : lv_has ls 1 [(0, .int a1)] := hl
  have B14 : ∀ (x0 : Int32) (H : Heap) (locs : List Loc) (ls : Array Slot), f_X7_rankOf_b14 x0 = some res → va_P G vwCl (w) H → va_D A (w) → va_S A s.heap H locs → lv_has ls 1 [(0, .int x0)] → W p l e (rmX 0 0) s m args below meth c H locs 0 0 (MQ below (mQi (res) G cy A (w)) args s 0 0 A) (F0 m 14 ls []) := by
    intro x0 H locs ls h hP hD hS hl
    delta f_X7_rankOf_b14 at h
    refine lv_iload_n hx hb dX7_rankOf_14 rfl (lv_at hl 0 rfl) ?_
    refine lv_topi (fun w1401 ew1401 => ?_)
    by_cases nw1401_0 : x0 = 7
    · replace h := (br h).1 nw1401_0
      rw [ew1401, nw1401_0]
      refine lv_lookup (off := 61) (tgt := 76) hx hb dX7_rankOf_15 (by decide) (by decide) (by decide) ?_
      refine lv_iconst (v := 4) hx hb dX7_rankOf_76 (by decide) ?_
      exact retI (fr := fun q => q) (fw := fun _ => w) h hx hb hr hlocks hK hP hD hS dX7_rankOf_77
    · replace h := (br h).2 nw1401_0
      by_cases nw1401_1 : x0 = 8
      · replace h := (br h).1 nw1401_1
        rw [ew1401, nw1401_1]
        refine lv_lookup (off := 61) (tgt := 76) hx hb dX7_rankOf_15 (by decide) (by decide) (by decide) ?_
        refine lv_iconst (v := 4) hx hb dX7_rankOf_76 (by decide) ?_
        exact retI (fr := fun q => q) (fw := fun _ => w) h hx hb hr hlocks hK hP hD hS dX7_rankOf_77
      · replace h := (br h).2 nw1401_1
        by_cases nw1401_2 : x0 = 9
        · replace h := (br h).1 nw1401_2
          rw [ew1401, nw1401_2]
          refine lv_lookup (off := 63) (tgt := 78) hx hb dX7_rankOf_15 (by decide) (by decide) (by decide) ?_
          refine lv_iconst (v := 5) hx hb dX7_rankOf_78 (by decide) ?_
          exact retI (fr := fun q => q) (fw := fun _ => w) h hx hb hr hlocks hK hP hD hS dX7_rankOf_79
        · replace h := (br h).2 nw1401_2
          by_cases nw1401_3 : x0 = 10
          · replace h := (br h).1 nw1401_3
            rw [ew1401, nw1401_3]
            refine lv_lookup (off := 63) (tgt := 78) hx hb dX7_rankOf_15 (by decide) (by decide) (by decide) ?_
            refine lv_iconst (v := 5) hx hb dX7_rankOf_78 (by decide) ?_
            exact retI (fr := fun q => q) (fw := fun _ => w) h hx hb hr hlocks hK hP hD hS dX7_rankOf_79
          · replace h := (br h).2 nw1401_3
            by_cases nw1401_4 : x0 = 44
            · replace h := (br h).1 nw1401_4
              rw [ew1401, nw1401_4]
              refine lv_lookup (off := 57) (tgt := 72) hx hb dX7_rankOf_15 (by decide) (by decide) (by decide) ?_
              refine lv_iconst (v := 1) hx hb dX7_rankOf_72 (by decide) ?_
              exact retI (fr := fun q => q) (fw := fun _ => w) h hx hb hr hlocks hK hP hD hS dX7_rankOf_73
            · replace h := (br h).2 nw1401_4
              by_cases nw1401_5 : x0 = 45
              · replace h := (br h).1 nw1401_5
                rw [ew1401, nw1401_5]
                refine lv_lookup (off := 59) (tgt := 74) hx hb dX7_rankOf_15 (by decide) (by decide) (by decide) ?_
                refine lv_iconst (v := 2) hx hb dX7_rankOf_74 (by decide) ?_
                exact retI (fr := fun q => q) (fw := fun _ => w) h hx hb hr hlocks hK hP hD hS dX7_rankOf_75
              · replace h := (br h).2 nw1401_5
                rw [ew1401]
                refine lv_lookup (off := 65) (tgt := 80) hx hb dX7_rankOf_15 (by decide) (by simp [Op.lookupswitch.offset, ne_toIntR (k := 7) 7 (by decide) nw1401_0, ne_toIntR (k := 8) 8 (by decide) nw1401_1, ne_toIntR (k := 9) 9 (by decide) nw1401_2, ne_toIntR (k := 10) 10 (by decide) nw1401_3, ne_toIntR (k := 44) 44 (by decide) nw1401_4, ne_toIntR (k := 45) 45 (by decide) nw1401_5]) (by decide) ?_
                refine lv_iconst (v := 0) hx hb dX7_rankOf_80 (by decide) ?_
                exact retI (fr := fun q => q) (fw := fun _ => w) h hx hb hr hlocks hK hP hD hS dX7_rankOf_81
  delta f_X7_rankOf at h
  refine lv_iload_n hx hb dX7_rankOf_0 rfl (lv_at hl 0 rfl) ?_
  refine lv_bipush (v := 11) hx hb dX7_rankOf_1 (by decide) ?_
  refine lv_icmp_lt (tgt := 14) hx hb dX7_rankOf_3 (by decide) (fun c9 => ?_) (fun c9 => ?_)
  · replace h := (br h).1 c9
    exact B14 a1 _ _ _ h hP hD hS (lv_sub hl [0] rfl)
  · replace h := (br h).2 c9
    refine lv_iload_n hx hb dX7_rankOf_6 rfl (lv_at hl 0 rfl) ?_
    refine lv_bipush (v := 16) hx hb dX7_rankOf_7 (by decide) ?_
    refine lv_icmp_gt (tgt := 14) hx hb dX7_rankOf_9 (by decide) (fun c9 => ?_) (fun c9 => ?_)
    · replace h := (br h).1 c9
      exact B14 a1 _ _ _ h hP hD hS (lv_sub hl [0] rfl)
    · replace h := (br h).2 c9
      refine lv_iconst (v := 3) hx hb dX7_rankOf_12 (by decide) ?_
      exact retI (fr := fun q => q) (fw := fun _ => w) h hx hb hr hlocks hK hP hD hS dX7_rankOf_13
theorem hds_X7_readRank : yX7_readRank.cls ≠ "java/lang/invoke/MethodHandle" ∧ yX7_readRank.cls ≠ "java/lang/invoke/VarHandle" ∧ (parseMethodDescriptor yX7_readRank.desc).map (fun d => d.parameters.length) = some 2 := ⟨by decide +kernel, by decide +kernel, by decide +kernel⟩
theorem hd_X7_readRank : yX7_readRank.cls = RX7 ∧ yX7_readRank.cls ≠ "java/lang/invoke/MethodHandle" ∧ yX7_readRank.cls ≠ "java/lang/invoke/VarHandle" ∧ (parseMethodDescriptor yX7_readRank.desc).map (fun d => d.parameters.length) = some 2 := ⟨rfl, hds_X7_readRank⟩
theorem hds_X7_readPart : yX7_readPart.cls ≠ "java/lang/invoke/MethodHandle" ∧ yX7_readPart.cls ≠ "java/lang/invoke/VarHandle" ∧ (parseMethodDescriptor yX7_readPart.desc).map (fun d => d.parameters.length) = some 1 := ⟨by decide +kernel, by decide +kernel, by decide +kernel⟩
theorem hd_X7_readPart : yX7_readPart.cls = RX7 ∧ yX7_readPart.cls ≠ "java/lang/invoke/MethodHandle" ∧ yX7_readPart.cls ≠ "java/lang/invoke/VarHandle" ∧ (parseMethodDescriptor yX7_readPart.desc).map (fun d => d.parameters.length) = some 1 := ⟨rfl, hds_X7_readPart⟩
def f_X7_readPart_b104 (N : Nat) (ex : VV → VV → VV → VV → Int32 → Int32 → Option (Int32 × VV × VV)) (R : VV) (K : VV) (P : VV) (L : VV) (x2 : Int32) (x3 : Int32) : Option (Int32 × VV × VV) :=
  bnd (f_X7_takeKnot R K P L) (fun q10401 => if q10401.1 = 0 then some (0, q10401.2.1, q10401.2.2) else bnd (f_X3_put q10401.2.2 x2 x3) (fun q10403 => some (1, q10401.2.1, q10403)))
def f_X7_readPart_b81 (N : Nat) (ex : VV → VV → VV → VV → Int32 → Int32 → Option (Int32 × VV × VV)) (R : VV) (K : VV) (P : VV) (L : VV) (x2 : Int32) : Option (Int32 × VV × VV) :=
  bnd (f_X7_value R K) (fun q8101 => if x2 = 2 then if q8101 ≤ 9999 then f_X7_readPart_b104 N ex R K P L x2 q8101 else bnd (f_X7_refuse R K 2) (fun q8103 => gbz q8103.1 (some (q8103.1, q8103.2, L))) else f_X7_readPart_b104 N ex R K P L x2 q8101)
def f_X7_readPart_b75 (N : Nat) (ex : VV → VV → VV → VV → Int32 → Int32 → Option (Int32 × VV × VV)) (R : VV) (K : VV) (P : VV) (L : VV)  : Option (Int32 × VV × VV) :=
  bnd (f_X7_refuse R K 1) (fun q7501 => gbz q7501.1 (some (q7501.1, q7501.2, L)))
def f_X7_readPart (N : Nat) (ex : VV → VV → VV → VV → Int32 → Int32 → Option (Int32 × VV × VV)) (R : VV) (K : VV) (P : VV) (L : VV) (a1 : Int32) : Option (Int32 × VV × VV) :=
  bnd (f_X7_kind R K) (fun q1 => if q1 = 5 then if a1 < 8 then bnd (ex (si R 2 ((R.1 2) + 1)) K P L 1 (a1 + 1)) (fun q3 => if q3.1 = 0 then some (0, q3.2.1, q3.2.2) else bnd (f_X7_expect q3.2.1 K 6) (fun q5 => if q5.1 = 0 then some (0, q5.2, q3.2.2) else some (1, q5.2, q3.2.2))) else bnd (f_X7_refuse R K 2) (fun q7 => gbz q7.1 (some (q7.1, q7.2, L))) else if q1 = 2 then f_X7_readPart_b81 N ex R K P L q1 else if q1 < 47 then f_X7_readPart_b75 N ex R K P L else if q1 < 54 then f_X7_readPart_b81 N ex R K P L q1 else f_X7_readPart_b75 N ex R K P L)
set_option maxHeartbeats 4000000 in
set_option maxRecDepth 100000 in
theorem k_X7_readPart (l : Launch) (G : va_G) (cy : Nat → ClassId) (ev : Nat → Nat) (N : Nat) (fe le : Nat) (ex : VV → VV → VV → VV → Int32 → Int32 → Option (Int32 × VV × VV)) (hex : ∀ (adR : Nat → Nat) (R : VV) (adK : Nat → Nat) (K : VV) (adP : Nat → Nat) (P : VV) (adL : Nat → Nat) (L : VV) (a1 : Int32) (a2 : Int32) (res : Int32 × VV × VV), ex R K P L a1 a2 = some res → MetI l yX7_readRank cX7_readRank 7 (some .boolean) fe le G cy ev [.ref (adR 0), .int a1, .int a2] (wj [cX7 cy adR (adK 0) (adP 0) R, cX9 cy adK K, cX6 cy adP (adL 0) P, cX3 cy adL L]) res.1 (wj [cX7 cy adR (adK 0) (adP 0) res.2.1, cX9 cy adK K, cX6 cy adP (adL 0) P, cX3 cy adL res.2.2])) (adR : Nat → Nat) (R : VV) (adK : Nat → Nat) (K : VV) (adP : Nat → Nat) (P : VV) (adL : Nat → Nat) (L : VV) (a1 : Int32) (res : Int32 × VV × VV) (h : f_X7_readPart N ex R K P L a1 = some res) : MetI l yX7_readPart cX7_readPart 4 (some .boolean) (fe + 2) (le + 42) G cy ev [.ref (adR 0), .int a1] (wj [cX7 cy adR (adK 0) (adP 0) R, cX9 cy adK K, cX6 cy adP (adL 0) P, cX3 cy adL L]) res.1 (wj [cX7 cy adR (adK 0) (adP 0) res.2.1, cX9 cy adK K, cX6 cy adP (adL 0) P, cX3 cy adL res.2.2]) := by
  refine MetQ.start (by decide +kernel) (Nat.le_of_ble_eq_true rfl) (fun p e s m args below meth c A ls hx hb hr hml hown hts hlocks hK hP hD hA hl hE => ?_)
  have hS : va_S A s.heap s.heap [] := va_S.rf
  have hown : s.vm.findClass RX7 = some m.cls := hown
  have hl : lv_has ls 4 [(0, .ref (adR 0)), (1, .int a1)] := hl
  have B104 : ∀ (x2 : Int32) (x3 : Int32) (R : VV) (L : VV) (H : Heap) (locs : List Loc) (ls : Array Slot), f_X7_readPart_b104 N ex R K P L x2 x3 = some res → va_P G vwCl (wj [cX7 cy adR (adK 0) (adP 0) R, cX9 cy adK K, cX6 cy adP (adL 0) P, cX3 cy adL L]) H → va_D A (wj [cX7 cy adR (adK 0) (adP 0) R, cX9 cy adK K, cX6 cy adP (adL 0) P, cX3 cy adL L]) → va_S A s.heap H locs → lv_has ls 4 [(0, .ref (adR 0)), (2, .int x2), (3, .int x3)] → W p l e (rmX (fe + 2) (le + 42)) s m args below meth c H locs 0 0 (MQ below (mQi (res.1) G cy A (wj [cX7 cy adR (adK 0) (adP 0) res.2.1, cX9 cy adK K, cX6 cy adP (adL 0) P, cX3 cy adL res.2.2])) args s 0 0 A) (F0 m 104 ls []) := by
    intro x2 x3 R L H locs ls h hP hD hS hl
    delta f_X7_readPart_b104 at h
    refine lv_aload_n hx hb dX7_readPart_104 rfl (lv_at hl 0 rfl) ?_
    replace h := bd h
    obtain ⟨q10401, h10402, h⟩ := h
    refine callWVi (As := []) (rest := []) (cs' := [cX7 cy adR (adK 0) (adP 0) q10401.2.1, cX9 cy adK K, cX6 cy adP (adL 0) P, cX3 cy adL q10401.2.2]) (isC := [0, 1, 2, 3]) (isR := []) hx hb hml hown hts (k_X7_takeKnot l G cy ev adR R adK K adP P adL L q10401 h10402) wm_18_14 wm_18_15 wm_18_16 wm_1_18 wm_18_17 hd_X7_takeKnot ⟨by simp only [rmX]; omega, by simp only [rmX]; omega⟩ hK hP hD hS hA hE rfl rfl rfl (cov_of (n := 4) rfl (by decide)) (by decide) rfl (recvW (ci := 0) hK hP rfl cX7_o rfl) rfl rfl hl.1 (Nat.le_of_ble_eq_true rfl) dX7_readPart_105 (fun H locs hP hD hS => ?_)
    refine lv_if_ne (tgt := 113) hx hb dX7_readPart_108 (by decide) (fun c9 => ?_) (fun c9 => ?_)
    · replace h := (br h).2 c9
      refine lv_aload_n hx hb dX7_readPart_113 rfl (lv_at hl 0 rfl) ?_
      refine go_7_21 (ci := 0) hx hb hts hown hK hE hP rfl dX7_readPart_114 ?_
      refine go_7_135 (ci := 2) hx hb hts hown hK hE hP rfl dX7_readPart_117 ?_
      refine lv_iload_n hx hb dX7_readPart_120 rfl (lv_at hl 1 rfl) ?_
      refine lv_iload_n hx hb dX7_readPart_121 rfl (lv_at hl 2 rfl) ?_
      replace h := bd h
      obtain ⟨q10403, h10404, h⟩ := h
      refine callWVv (As := [.int x2, .int x3]) (rest := []) (cs' := [cX7 cy adR (adK 0) (adP 0) q10401.2.1, cX9 cy adK K, cX6 cy adP (adL 0) P, cX3 cy adL q10403]) (isC := [3]) (isR := [0, 1, 2]) hx hb hml hown hts (k_X3_put l G cy ev adL q10401.2.2 x2 x3 q10403 h10404) wm_18_21 wm_18_22 wm_18_23 wm_5_0 wm_19_0 hd_X3_put ⟨by simp only [rmX]; omega, by simp only [rmX]; omega⟩ hK hP hD hS hA hE rfl rfl rfl (cov_of (n := 4) rfl (by decide)) (by decide) rfl (recvW (ci := 3) hK hP rfl cX3_o rfl) rfl rfl hl.1 (Nat.le_of_ble_eq_true rfl) dX7_readPart_122 (fun H locs hP hD hS => ?_)
      refine lv_iconst (v := 1) hx hb dX7_readPart_125 (by decide) ?_
      exact retZ (fr := fun q => q.1) (fw := fun q => wj [cX7 cy adR (adK 0) (adP 0) q.2.1, cX9 cy adK K, cX6 cy adP (adL 0) P, cX3 cy adL q.2.2]) h hx hb hr narZ1 hlocks hK hP hD hS dX7_readPart_126
    · replace h := (br h).1 c9
      refine lv_iconst (v := 0) hx hb dX7_readPart_111 (by decide) ?_
      exact retZ (fr := fun q => q.1) (fw := fun q => wj [cX7 cy adR (adK 0) (adP 0) q.2.1, cX9 cy adK K, cX6 cy adP (adL 0) P, cX3 cy adL q.2.2]) h hx hb hr narZ0 hlocks hK hP hD hS dX7_readPart_112
  have B81 : ∀ (x2 : Int32) (R : VV) (L : VV) (H : Heap) (locs : List Loc) (ls : Array Slot), f_X7_readPart_b81 N ex R K P L x2 = some res → va_P G vwCl (wj [cX7 cy adR (adK 0) (adP 0) R, cX9 cy adK K, cX6 cy adP (adL 0) P, cX3 cy adL L]) H → va_D A (wj [cX7 cy adR (adK 0) (adP 0) R, cX9 cy adK K, cX6 cy adP (adL 0) P, cX3 cy adL L]) → va_S A s.heap H locs → lv_has ls 4 [(0, .ref (adR 0)), (2, .int x2)] → W p l e (rmX (fe + 2) (le + 42)) s m args below meth c H locs 0 0 (MQ below (mQi (res.1) G cy A (wj [cX7 cy adR (adK 0) (adP 0) res.2.1, cX9 cy adK K, cX6 cy adP (adL 0) P, cX3 cy adL res.2.2])) args s 0 0 A) (F0 m 81 ls []) := by
    intro x2 R L H locs ls h hP hD hS hl
    delta f_X7_readPart_b81 at h
    refine lv_aload_n hx hb dX7_readPart_81 rfl (lv_at hl 0 rfl) ?_
    replace h := bd h
    obtain ⟨q8101, h8102, h⟩ := h
    refine callWVi (As := []) (rest := []) (cs' := [cX7 cy adR (adK 0) (adP 0) R, cX9 cy adK K, cX6 cy adP (adL 0) P, cX3 cy adL L]) (isC := [0, 1]) (isR := [2, 3]) hx hb hml hown hts (k_X7_value l G cy ev adR (adP 0) R adK K q8101 h8102) wm_17_7 wm_17_8 wm_17_9 wm_1_18 wm_17_10 hd_X7_value ⟨by simp only [rmX]; omega, by simp only [rmX]; omega⟩ hK hP hD hS hA hE rfl rfl rfl (cov_of (n := 4) rfl (by decide)) (by decide) rfl (recvW (ci := 0) hK hP rfl cX7_o rfl) rfl rfl hl.1 (Nat.le_of_ble_eq_true rfl) dX7_readPart_82 (fun H locs hP hD hS => ?_)
    refine lv_istore_n (lv' := [(3, .int q8101), (0, .ref (adR 0)), (2, .int x2)]) hx hb dX7_readPart_85 rfl hl (by decide) rfl (fun ls hl => ?_)
    refine lv_iload_n hx hb dX7_readPart_86 rfl (lv_at hl 2 rfl) ?_
    refine lv_iconst (v := 2) hx hb dX7_readPart_87 (by decide) ?_
    refine lv_icmp_ne (tgt := 104) hx hb dX7_readPart_88 (by decide) (fun c9 => ?_) (fun c9 => ?_)
    · replace h := (br h).2 c9
      exact B104 x2 q8101 R L _ _ _ h hP hD hS (lv_sub hl [1, 2, 0] rfl)
    · replace h := (br h).1 c9
      refine lv_iload_n hx hb dX7_readPart_91 rfl (lv_at hl 0 rfl) ?_
      refine lv_sipush (v := 9999) hx hb dX7_readPart_92 (by decide) ?_
      refine lv_icmp_le (tgt := 104) hx hb dX7_readPart_95 (by decide) (fun c9 => ?_) (fun c9 => ?_)
      · replace h := (br h).1 c9
        exact B104 x2 q8101 R L _ _ _ h hP hD hS (lv_sub hl [1, 2, 0] rfl)
      · replace h := (br h).2 c9
        refine lv_aload_n hx hb dX7_readPart_98 rfl (lv_at hl 1 rfl) ?_
        refine lv_iconst (v := 2) hx hb dX7_readPart_99 (by decide) ?_
        replace h := bd h
        obtain ⟨q8103, h8104, h⟩ := h
        refine callWVi (As := [.int 2]) (rest := []) (cs' := [cX7 cy adR (adK 0) (adP 0) q8103.2, cX9 cy adK K, cX6 cy adP (adL 0) P, cX3 cy adL L]) (isC := [0, 1]) (isR := [2, 3]) hx hb hml hown hts (k_X7_refuse l G cy ev adR (adP 0) R adK K 2 q8103 h8104) wm_17_3 wm_17_4 wm_17_5 wm_1_18 wm_17_6 hd_X7_refuse ⟨by simp only [rmX]; omega, by simp only [rmX]; omega⟩ hK hP hD hS hA hE rfl rfl rfl (cov_of (n := 4) rfl (by decide)) (by decide) rfl (recvW (ci := 0) hK hP rfl cX7_o rfl) rfl rfl hl.1 (Nat.le_of_ble_eq_true rfl) dX7_readPart_100 (fun H locs hP hD hS => ?_)
        replace h := gbz_inv h
        obtain ⟨h9, h⟩ := h
        exact retZ (fr := fun q => q.1) (fw := fun q => wj [cX7 cy adR (adK 0) (adP 0) q.2.1, cX9 cy adK K, cX6 cy adP (adL 0) P, cX3 cy adL q.2.2]) h hx hb hr (narZ h9).1 hlocks hK hP hD hS dX7_readPart_103
  have B75 : ∀ (R : VV) (L : VV) (H : Heap) (locs : List Loc) (ls : Array Slot), f_X7_readPart_b75 N ex R K P L = some res → va_P G vwCl (wj [cX7 cy adR (adK 0) (adP 0) R, cX9 cy adK K, cX6 cy adP (adL 0) P, cX3 cy adL L]) H → va_D A (wj [cX7 cy adR (adK 0) (adP 0) R, cX9 cy adK K, cX6 cy adP (adL 0) P, cX3 cy adL L]) → va_S A s.heap H locs → lv_has ls 4 [(0, .ref (adR 0))] → W p l e (rmX (fe + 2) (le + 42)) s m args below meth c H locs 0 0 (MQ below (mQi (res.1) G cy A (wj [cX7 cy adR (adK 0) (adP 0) res.2.1, cX9 cy adK K, cX6 cy adP (adL 0) P, cX3 cy adL res.2.2])) args s 0 0 A) (F0 m 75 ls []) := by
    intro R L H locs ls h hP hD hS hl
    delta f_X7_readPart_b75 at h
    refine lv_aload_n hx hb dX7_readPart_75 rfl (lv_at hl 0 rfl) ?_
    refine lv_iconst (v := 1) hx hb dX7_readPart_76 (by decide) ?_
    replace h := bd h
    obtain ⟨q7501, h7502, h⟩ := h
    refine callWVi (As := [.int 1]) (rest := []) (cs' := [cX7 cy adR (adK 0) (adP 0) q7501.2, cX9 cy adK K, cX6 cy adP (adL 0) P, cX3 cy adL L]) (isC := [0, 1]) (isR := [2, 3]) hx hb hml hown hts (k_X7_refuse l G cy ev adR (adP 0) R adK K 1 q7501 h7502) wm_17_3 wm_17_4 wm_17_5 wm_1_18 wm_17_6 hd_X7_refuse ⟨by simp only [rmX]; omega, by simp only [rmX]; omega⟩ hK hP hD hS hA hE rfl rfl rfl (cov_of (n := 4) rfl (by decide)) (by decide) rfl (recvW (ci := 0) hK hP rfl cX7_o rfl) rfl rfl hl.1 (Nat.le_of_ble_eq_true rfl) dX7_readPart_77 (fun H locs hP hD hS => ?_)
    replace h := gbz_inv h
    obtain ⟨h9, h⟩ := h
    exact retZ (fr := fun q => q.1) (fw := fun q => wj [cX7 cy adR (adK 0) (adP 0) q.2.1, cX9 cy adK K, cX6 cy adP (adL 0) P, cX3 cy adL q.2.2]) h hx hb hr (narZ h9).1 hlocks hK hP hD hS dX7_readPart_80
  delta f_X7_readPart at h
  refine lv_aload_n hx hb dX7_readPart_0 rfl (lv_at hl 0 rfl) ?_
  replace h := bd h
  obtain ⟨q1, h2, h⟩ := h
  refine callWVi (As := []) (rest := []) (cs' := [cX7 cy adR (adK 0) (adP 0) R, cX9 cy adK K, cX6 cy adP (adL 0) P, cX3 cy adL L]) (isC := [0, 1]) (isR := [2, 3]) hx hb hml hown hts (k_X7_kind l G cy ev adR (adP 0) R adK K q1 h2) wm_16_15 wm_16_16 wm_16_17 wm_1_18 wm_16_18 hd_X7_kind ⟨by simp only [rmX]; omega, by simp only [rmX]; omega⟩ hK hP hD hS hA hE rfl rfl rfl (cov_of (n := 4) rfl (by decide)) (by decide) rfl (recvW (ci := 0) hK hP rfl cX7_o rfl) rfl rfl hl.1 (Nat.le_of_ble_eq_true rfl) dX7_readPart_1 (fun H locs hP hD hS => ?_)
  refine lv_istore_n (lv' := [(2, .int q1), (0, .ref (adR 0)), (1, .int a1)]) hx hb dX7_readPart_4 rfl hl (by decide) rfl (fun ls hl => ?_)
  refine lv_iload_n hx hb dX7_readPart_5 rfl (lv_at hl 0 rfl) ?_
  refine lv_iconst (v := 5) hx hb dX7_readPart_6 (by decide) ?_
  refine lv_icmp_ne (tgt := 58) hx hb dX7_readPart_7 (by decide) (fun c9 => ?_) (fun c9 => ?_)
  · replace h := (br h).2 c9
    refine lv_iload_n hx hb dX7_readPart_58 rfl (lv_at hl 0 rfl) ?_
    refine lv_iconst (v := 2) hx hb dX7_readPart_59 (by decide) ?_
    refine lv_icmp_eq (tgt := 81) hx hb dX7_readPart_60 (by decide) (fun c9 => ?_) (fun c9 => ?_)
    · replace h := (br h).1 c9
      exact B81 q1 R L _ _ _ h hP hD hS (lv_sub hl [1, 0] rfl)
    · replace h := (br h).2 c9
      refine lv_iload_n hx hb dX7_readPart_63 rfl (lv_at hl 0 rfl) ?_
      refine lv_bipush (v := 47) hx hb dX7_readPart_64 (by decide) ?_
      refine lv_icmp_lt (tgt := 75) hx hb dX7_readPart_66 (by decide) (fun c9 => ?_) (fun c9 => ?_)
      · replace h := (br h).1 c9
        exact B75 R L _ _ _ h hP hD hS (lv_sub hl [1] rfl)
      · replace h := (br h).2 c9
        refine lv_iload_n hx hb dX7_readPart_69 rfl (lv_at hl 0 rfl) ?_
        refine lv_bipush (v := 54) hx hb dX7_readPart_70 (by decide) ?_
        refine lv_icmp_lt (tgt := 81) hx hb dX7_readPart_72 (by decide) (fun c9 => ?_) (fun c9 => ?_)
        · replace h := (br h).1 c9
          exact B81 q1 R L _ _ _ h hP hD hS (lv_sub hl [1, 0] rfl)
        · replace h := (br h).2 c9
          exact B75 R L _ _ _ h hP hD hS (lv_sub hl [1] rfl)
  · replace h := (br h).1 c9
    refine lv_iload_n hx hb dX7_readPart_10 rfl (lv_at hl 2 rfl) ?_
    refine lv_bipush (v := 8) hx hb dX7_readPart_11 (by decide) ?_
    refine lv_icmp_lt (tgt := 22) hx hb dX7_readPart_13 (by decide) (fun c9 => ?_) (fun c9 => ?_)
    · replace h := (br h).1 c9
      refine lv_aload_n hx hb dX7_readPart_22 rfl (lv_at hl 1 rfl) ?_
      refine lv_dup hx hb dX7_readPart_23 rfl ?_
      refine go_7_25 (ci := 0) (x := R.1 2) hx hb hts hown hK hE hP rfl rfl dX7_readPart_24 ?_
      refine lv_iconst (v := 1) hx hb dX7_readPart_27 (by decide) ?_
      refine lv_iadd hx hb dX7_readPart_28 ?_
      refine po_7_25 (ci := 0) (cs' := [cX7 cy adR (adK 0) (adP 0) (si R 2 ((R.1 2) + 1)), cX9 cy adK K, cX6 cy adP (adL 0) P, cX3 cy adL L]) hx hb hts hown hK hE hP hD hS rfl rfl dX7_readPart_29 (fun H locs hP hD hS => ?_)
      refine lv_aload_n hx hb dX7_readPart_32 rfl (lv_at hl 1 rfl) ?_
      refine lv_iconst (v := 1) hx hb dX7_readPart_33 (by decide) ?_
      refine lv_iload_n hx hb dX7_readPart_34 rfl (lv_at hl 2 rfl) ?_
      refine lv_iconst (v := 1) hx hb dX7_readPart_35 (by decide) ?_
      refine lv_iadd hx hb dX7_readPart_36 ?_
      replace h := bd h
      obtain ⟨q3, h4, h⟩ := h
      refine callWVi (As := [.int 1, .int (a1 + 1)]) (rest := []) (cs' := [cX7 cy adR (adK 0) (adP 0) q3.2.1, cX9 cy adK K, cX6 cy adP (adL 0) P, cX3 cy adL q3.2.2]) (isC := [0, 1, 2, 3]) (isR := []) hx hb hml hown hts (hex adR (si R 2 ((R.1 2) + 1)) adK K adP P adL L 1 (a1 + 1) q3 h4) wm_18_7 wm_18_8 wm_18_9 wm_1_18 wm_18_10 hd_X7_readRank ⟨by simp only [rmX]; omega, by simp only [rmX]; omega⟩ hK hP hD hS hA hE rfl rfl rfl (cov_of (n := 4) rfl (by decide)) (by decide) rfl (recvW (ci := 0) hK hP rfl cX7_o rfl) rfl rfl hl.1 (Nat.le_of_ble_eq_true rfl) dX7_readPart_37 (fun H locs hP hD hS => ?_)
      refine lv_if_eq (tgt := 56) hx hb dX7_readPart_40 (by decide) (fun c9 => ?_) (fun c9 => ?_)
      · replace h := (br h).1 c9
        refine lv_iconst (v := 0) hx hb dX7_readPart_56 (by decide) ?_
        exact retZ (fr := fun q => q.1) (fw := fun q => wj [cX7 cy adR (adK 0) (adP 0) q.2.1, cX9 cy adK K, cX6 cy adP (adL 0) P, cX3 cy adL q.2.2]) h hx hb hr narZ0 hlocks hK hP hD hS dX7_readPart_57
      · replace h := (br h).2 c9
        refine lv_aload_n hx hb dX7_readPart_43 rfl (lv_at hl 1 rfl) ?_
        refine lv_bipush (v := 6) hx hb dX7_readPart_44 (by decide) ?_
        replace h := bd h
        obtain ⟨q5, h6, h⟩ := h
        refine callWVi (As := [.int 6]) (rest := []) (cs' := [cX7 cy adR (adK 0) (adP 0) q5.2, cX9 cy adK K, cX6 cy adP (adL 0) P, cX3 cy adL q3.2.2]) (isC := [0, 1]) (isR := [2, 3]) hx hb hml hown hts (k_X7_expect l G cy ev adR (adP 0) q3.2.1 adK K 6 q5 h6) wm_19_2 wm_19_3 wm_19_4 wm_1_18 wm_19_5 hd_X7_expect ⟨by simp only [rmX]; omega, by simp only [rmX]; omega⟩ hK hP hD hS hA hE rfl rfl rfl (cov_of (n := 4) rfl (by decide)) (by decide) rfl (recvW (ci := 0) hK hP rfl cX7_o rfl) rfl rfl hl.1 (Nat.le_of_ble_eq_true rfl) dX7_readPart_46 (fun H locs hP hD hS => ?_)
        refine lv_if_eq (tgt := 56) hx hb dX7_readPart_49 (by decide) (fun c9 => ?_) (fun c9 => ?_)
        · replace h := (br h).1 c9
          refine lv_iconst (v := 0) hx hb dX7_readPart_56 (by decide) ?_
          exact retZ (fr := fun q => q.1) (fw := fun q => wj [cX7 cy adR (adK 0) (adP 0) q.2.1, cX9 cy adK K, cX6 cy adP (adL 0) P, cX3 cy adL q.2.2]) h hx hb hr narZ0 hlocks hK hP hD hS dX7_readPart_57
        · replace h := (br h).2 c9
          refine lv_iconst (v := 1) hx hb dX7_readPart_52 (by decide) ?_
          refine lv_goto (tgt := 57) hx hb dX7_readPart_53 (by decide) ?_
          exact retZ (fr := fun q => q.1) (fw := fun q => wj [cX7 cy adR (adK 0) (adP 0) q.2.1, cX9 cy adK K, cX6 cy adP (adL 0) P, cX3 cy adL q.2.2]) h hx hb hr narZ1 hlocks hK hP hD hS dX7_readPart_57
    · replace h := (br h).2 c9
      refine lv_aload_n hx hb dX7_readPart_16 rfl (lv_at hl 1 rfl) ?_
      refine lv_iconst (v := 2) hx hb dX7_readPart_17 (by decide) ?_
      replace h := bd h
      obtain ⟨q7, h8, h⟩ := h
      refine callWVi (As := [.int 2]) (rest := []) (cs' := [cX7 cy adR (adK 0) (adP 0) q7.2, cX9 cy adK K, cX6 cy adP (adL 0) P, cX3 cy adL L]) (isC := [0, 1]) (isR := [2, 3]) hx hb hml hown hts (k_X7_refuse l G cy ev adR (adP 0) R adK K 2 q7 h8) wm_17_3 wm_17_4 wm_17_5 wm_1_18 wm_17_6 hd_X7_refuse ⟨by simp only [rmX]; omega, by simp only [rmX]; omega⟩ hK hP hD hS hA hE rfl rfl rfl (cov_of (n := 4) rfl (by decide)) (by decide) rfl (recvW (ci := 0) hK hP rfl cX7_o rfl) rfl rfl hl.1 (Nat.le_of_ble_eq_true rfl) dX7_readPart_18 (fun H locs hP hD hS => ?_)
      replace h := gbz_inv h
      obtain ⟨h9, h⟩ := h
      exact retZ (fr := fun q => q.1) (fw := fun q => wj [cX7 cy adR (adK 0) (adP 0) q.2.1, cX9 cy adK K, cX6 cy adP (adL 0) P, cX3 cy adL q.2.2]) h hx hb hr (narZ h9).1 hlocks hK hP hD hS dX7_readPart_21
def f_X7_readRank_s144 (N : Nat) (rc : VV → VV → VV → VV → Int32 → Int32 → Option (Int32 × VV × VV)) (R : VV) (K : VV) (P : VV) (L : VV) (x3 : Int32) (x5 : Int32) : Option (((Int32 × VV × VV) ⊕ (Int32 × VV × VV))) :=
  if x3 ≤ x5 then inrO (some (1, R, L)) else bnd (f_X3_put L 46 0) (fun q14401 => some (.inl (x5 + 1, R, q14401)))
def f_X7_readRank_b141 (N : Nat) (rc : VV → VV → VV → VV → Int32 → Int32 → Option (Int32 × VV × VV)) (R : VV) (K : VV) (P : VV) (L : VV) (x3 : Int32) : Option (Int32 × VV × VV) :=
  itr (fun q : Int32 × VV × VV => f_X7_readRank_s144 N rc q.2.1 K P q.2.2 x3 q.1) N (0, R, L)
def f_X7_readRank_s78 (N : Nat) (rc : VV → VV → VV → VV → Int32 → Int32 → Option (Int32 × VV × VV)) (R : VV) (K : VV) (P : VV) (L : VV) (x1 : Int32) (x2 : Int32) (x3 : Int32) (x4 : Int32) (x5 : Int32) : Option (((Int32 × VV × VV) ⊕ (Int32 × VV × VV))) :=
  if x4 ≤ x5 then inrO (f_X7_readRank_b141 N rc R K P L x3) else bnd (f_X7_kind R K) (fun q7801 => bnd (f_X7_rankOf q7801) (fun q7803 => if q7803 = x1 then bnd (f_X7_kind R K) (fun q7805 => bnd (f_X7_takeKnot R K P L) (fun q7807 => if q7807.1 = 0 then inrO (some (0, q7807.2.1, q7807.2.2)) else bnd (rc q7807.2.1 K P q7807.2.2 (x1 + 1) x2) (fun q7809 => if q7809.1 = 0 then inrO (some (0, q7809.2.1, q7809.2.2)) else bnd (f_X3_put q7809.2.2 q7805 0) (fun q7811 => some (.inl (x5 + 1, q7809.2.1, q7811)))))) else inrO (f_X7_readRank_b141 N rc R K P L x3)))
def f_X7_readRank_b73 (N : Nat) (rc : VV → VV → VV → VV → Int32 → Int32 → Option (Int32 × VV × VV)) (R : VV) (K : VV) (P : VV) (L : VV) (x1 : Int32) (x2 : Int32) (x3 : Int32) (z0 : Int32) : Option (Int32 × VV × VV) :=
  itr (fun q : Int32 × VV × VV => f_X7_readRank_s78 N rc q.2.1 K P q.2.2 x1 x2 x3 z0 q.1) N (0, R, L)
def f_X7_readRank_b49 (N : Nat) (rc : VV → VV → VV → VV → Int32 → Int32 → Option (Int32 × VV × VV)) (R : VV) (K : VV) (P : VV) (L : VV) (x1 : Int32) (x2 : Int32) (x3 : Int32) : Option (Int32 × VV × VV) :=
  bnd (rc R K P L (x1 + 1) x2) (fun q4901 => if q4901.1 = 0 then some (0, q4901.2.1, q4901.2.2) else if x1 = 3 then f_X7_readRank_b73 N rc q4901.2.1 K P q4901.2.2 x1 x2 x3 1 else f_X7_readRank_b73 N rc q4901.2.1 K P q4901.2.2 x1 x2 x3 64)
def f_X7_readRank_s14 (N : Nat) (rc : VV → VV → VV → VV → Int32 → Int32 → Option (Int32 × VV × VV)) (R : VV) (K : VV) (P : VV) (L : VV) (x1 : Int32) (x2 : Int32) (x3 : Int32) : Option (((Int32 × VV × VV) ⊕ (Int32 × VV × VV))) :=
  if (64 : Int32) < x3 then inrO (f_X7_readRank_b49 N rc R K P L x1 x2 x3) else if x1 = 3 then bnd (f_X7_kind R K) (fun q1401 => if q1401 = 46 then bnd (f_X7_takeKnot R K P L) (fun q1403 => if q1403.1 = 0 then inrO (some (0, q1403.2.1, q1403.2.2)) else some (.inl (x3 + 1, q1403.2.1, q1403.2.2))) else inrO (f_X7_readRank_b49 N rc R K P L x1 x2 x3)) else inrO (f_X7_readRank_b49 N rc R K P L x1 x2 x3)
def f_X7_readRank_body (N : Nat) (rc : VV → VV → VV → VV → Int32 → Int32 → Option (Int32 × VV × VV)) (R : VV) (K : VV) (P : VV) (L : VV) (a1 : Int32) (a2 : Int32) : Option (Int32 × VV × VV) :=
  if a1 < 6 then itr (fun q : Int32 × VV × VV => f_X7_readRank_s14 N rc q.2.1 K P q.2.2 a1 a2 q.1) N (0, R, L) else bnd (f_X7_readPart N rc R K P L a2) (fun q1 => gbz q1.1 (some (q1.1, q1.2.1, q1.2.2)))
def f_X7_readRank (N : Nat) : Nat → VV → VV → VV → VV → Int32 → Int32 → Option (Int32 × VV × VV)
  | 0, _, _, _, _, _, _ => none
  | d + 1, R, K, P, L, a1, a2 => f_X7_readRank_body N (f_X7_readRank N d) R K P L a1 a2
set_option maxHeartbeats 4000000 in
set_option maxRecDepth 100000 in
theorem k_X7_readRank (l : Launch) (G : va_G) (cy : Nat → ClassId) (ev : Nat → Nat) (N : Nat) : ∀ (d : Nat) (adR : Nat → Nat) (R : VV) (adK : Nat → Nat) (K : VV) (adP : Nat → Nat) (P : VV) (adL : Nat → Nat) (L : VV) (a1 : Int32) (a2 : Int32) (res : Int32 × VV × VV), f_X7_readRank N d R K P L a1 a2 = some res → MetI l yX7_readRank cX7_readRank 7 (some .boolean) (2 + 3 * d) (41 + 65 * d) G cy ev [.ref (adR 0), .int a1, .int a2] (wj [cX7 cy adR (adK 0) (adP 0) R, cX9 cy adK K, cX6 cy adP (adL 0) P, cX3 cy adL L]) res.1 (wj [cX7 cy adR (adK 0) (adP 0) res.2.1, cX9 cy adK K, cX6 cy adP (adL 0) P, cX3 cy adL res.2.2]) := by
  intro d
  induction d with
  | zero => intro adR R adK K adP P adL L a1 a2 res h; exact nomatch h
  | succ d ihd =>
    intro adR R adK K adP P adL L a1 a2 res h
    have h : f_X7_readRank_body N (f_X7_readRank N d) R K P L a1 a2 = some res := h
    refine MetQ.start (by decide +kernel) (Nat.le_of_ble_eq_true rfl) (fun p e s m args below meth c A ls hx hb hr hml hown hts hlocks hK hP hD hA hl hE => ?_)
    have hS : va_S A s.heap s.heap [] := va_S.rf
    have hown : s.vm.findClass RX7 = some m.cls := hown
    have hl : lv_has ls 7 [(0, .ref (adR 0)), (1, .int a1), (2, .int a2)] := hl
    have L144 : ∀ (x3 : Int32) (n : Nat) (x5 : Int32) (R : VV) (L : VV) (H : Heap) (locs : List Loc) (ls : Array Slot), itr (fun q : Int32 × VV × VV => f_X7_readRank_s144 N (f_X7_readRank N d) q.2.1 K P q.2.2 x3 q.1) n (x5, R, L) = some res → va_P G vwCl (wj [cX7 cy adR (adK 0) (adP 0) R, cX9 cy adK K, cX6 cy adP (adL 0) P, cX3 cy adL L]) H → va_D A (wj [cX7 cy adR (adK 0) (adP 0) R, cX9 cy adK K, cX6 cy adP (adL 0) P, cX3 cy adL L]) → va_S A s.heap H locs → lv_has ls 7 [(0, .ref (adR 0)), (3, .int x3), (5, .int x5)] → W p l e (rmX (2 + 3 * (d + 1)) (41 + 65 * (d + 1))) s m args below meth c H locs 0 0 (MQ below (mQi (res.1) G cy A (wj [cX7 cy adR (adK 0) (adP 0) res.2.1, cX9 cy adK K, cX6 cy adP (adL 0) P, cX3 cy adL res.2.2])) args s 0 0 A) (F0 m 144 ls []) := by
      intro x3 n
      induction n with
      | zero => intro x5 R L H locs ls h; exact (itr_zero h).elim
      | succ n ih1 =>
        intro x5 R L H locs ls h hP hD hS hl
        obtain ⟨y1, h, hy1⟩ := itr_inv h
        have h : f_X7_readRank_s144 N (f_X7_readRank N d) R K P L x3 x5 = some y1 := h
        delta f_X7_readRank_s144 at h
        refine lv_iload hx hb dX7_readRank_144 (lv_at hl 2 rfl) ?_
        refine lv_iload_n hx hb dX7_readRank_146 rfl (lv_at hl 1 rfl) ?_
        refine lv_icmp_ge (tgt := 169) hx hb dX7_readRank_147 (by decide) (fun c9 => ?_) (fun c9 => ?_)
        · replace h := (br h).1 c9
          replace h := itr_exit h hy1
          refine lv_iconst (v := 1) hx hb dX7_readRank_169 (by decide) ?_
          exact retZ (fr := fun q => q.1) (fw := fun q => wj [cX7 cy adR (adK 0) (adP 0) q.2.1, cX9 cy adK K, cX6 cy adP (adL 0) P, cX3 cy adL q.2.2]) h hx hb hr narZ1 hlocks hK hP hD hS dX7_readRank_170
        · replace h := (br h).2 c9
          refine lv_aload_n hx hb dX7_readRank_150 rfl (lv_at hl 0 rfl) ?_
          refine go_7_21 (ci := 0) hx hb hts hown hK hE hP rfl dX7_readRank_151 ?_
          refine go_7_135 (ci := 2) hx hb hts hown hK hE hP rfl dX7_readRank_154 ?_
          refine lv_bipush (v := 46) hx hb dX7_readRank_157 (by decide) ?_
          refine lv_iconst (v := 0) hx hb dX7_readRank_159 (by decide) ?_
          replace h := bd h
          obtain ⟨q14401, h14402, h⟩ := h
          refine callWVv (As := [.int 46, .int 0]) (rest := []) (cs' := [cX7 cy adR (adK 0) (adP 0) R, cX9 cy adK K, cX6 cy adP (adL 0) P, cX3 cy adL q14401]) (isC := [3]) (isR := [0, 1, 2]) hx hb hml hown hts (k_X3_put l G cy ev adL L 46 0 q14401 h14402) wm_18_21 wm_18_22 wm_18_23 wm_5_0 wm_19_0 hd_X3_put ⟨by simp only [rmX]; omega, by simp only [rmX]; omega⟩ hK hP hD hS hA hE rfl rfl rfl (cov_of (n := 4) rfl (by decide)) (by decide) rfl (recvW (ci := 3) hK hP rfl cX3_o rfl) rfl rfl hl.1 (Nat.le_of_ble_eq_true rfl) dX7_readRank_160 (fun H locs hP hD hS => ?_)
          refine lv_iinc (v := x5 + 1) (lv' := [(5, .int (x5 + 1)), (0, .ref (adR 0)), (3, .int x3)]) hx hb dX7_readRank_163 hl (k := 2) rfl rfl (by decide) rfl (fun ls hl => ?_)
          refine lv_goto (tgt := 144) hx hb dX7_readRank_166 (by decide) ?_
          replace h := itr_back h hy1
          exact ih1 (x5 + 1) R q14401 _ _ _ h hP hD hS (lv_sub hl [1, 2, 0] rfl)
    have B141 : ∀ (x3 : Int32) (R : VV) (L : VV) (H : Heap) (locs : List Loc) (ls : Array Slot), f_X7_readRank_b141 N (f_X7_readRank N d) R K P L x3 = some res → va_P G vwCl (wj [cX7 cy adR (adK 0) (adP 0) R, cX9 cy adK K, cX6 cy adP (adL 0) P, cX3 cy adL L]) H → va_D A (wj [cX7 cy adR (adK 0) (adP 0) R, cX9 cy adK K, cX6 cy adP (adL 0) P, cX3 cy adL L]) → va_S A s.heap H locs → lv_has ls 7 [(0, .ref (adR 0)), (3, .int x3)] → W p l e (rmX (2 + 3 * (d + 1)) (41 + 65 * (d + 1))) s m args below meth c H locs 0 0 (MQ below (mQi (res.1) G cy A (wj [cX7 cy adR (adK 0) (adP 0) res.2.1, cX9 cy adK K, cX6 cy adP (adL 0) P, cX3 cy adL res.2.2])) args s 0 0 A) (F0 m 141 ls []) := by
      intro x3 R L H locs ls h hP hD hS hl
      delta f_X7_readRank_b141 at h
      refine lv_iconst (v := 0) hx hb dX7_readRank_141 (by decide) ?_
      refine lv_istore (lv' := [(5, .int 0), (0, .ref (adR 0)), (3, .int x3)]) hx hb dX7_readRank_142 hl (by decide) rfl (fun ls hl => ?_)
      exact L144 x3 N 0 R L _ _ _ h hP hD hS (lv_sub hl [1, 2, 0] rfl)
    have L78 : ∀ (x1 : Int32) (x2 : Int32) (x3 : Int32) (x4 : Int32) (n : Nat) (x5 : Int32) (R : VV) (L : VV) (H : Heap) (locs : List Loc) (ls : Array Slot), itr (fun q : Int32 × VV × VV => f_X7_readRank_s78 N (f_X7_readRank N d) q.2.1 K P q.2.2 x1 x2 x3 x4 q.1) n (x5, R, L) = some res → va_P G vwCl (wj [cX7 cy adR (adK 0) (adP 0) R, cX9 cy adK K, cX6 cy adP (adL 0) P, cX3 cy adL L]) H → va_D A (wj [cX7 cy adR (adK 0) (adP 0) R, cX9 cy adK K, cX6 cy adP (adL 0) P, cX3 cy adL L]) → va_S A s.heap H locs → lv_has ls 7 [(0, .ref (adR 0)), (1, .int x1), (2, .int x2), (3, .int x3), (4, .int x4), (5, .int x5)] → W p l e (rmX (2 + 3 * (d + 1)) (41 + 65 * (d + 1))) s m args below meth c H locs 0 0 (MQ below (mQi (res.1) G cy A (wj [cX7 cy adR (adK 0) (adP 0) res.2.1, cX9 cy adK K, cX6 cy adP (adL 0) P, cX3 cy adL res.2.2])) args s 0 0 A) (F0 m 78 ls []) := by
      intro x1 x2 x3 x4 n
      induction n with
      | zero => intro x5 R L H locs ls h; exact (itr_zero h).elim
      | succ n ih1 =>
        intro x5 R L H locs ls h hP hD hS hl
        obtain ⟨y1, h, hy1⟩ := itr_inv h
        have h : f_X7_readRank_s78 N (f_X7_readRank N d) R K P L x1 x2 x3 x4 x5 = some y1 := h
        delta f_X7_readRank_s78 at h
        refine lv_iload hx hb dX7_readRank_78 (lv_at hl 5 rfl) ?_
        refine lv_iload hx hb dX7_readRank_80 (lv_at hl 4 rfl) ?_
        refine lv_icmp_ge (tgt := 141) hx hb dX7_readRank_82 (by decide) (fun c9 => ?_) (fun c9 => ?_)
        · replace h := (br h).1 c9
          replace h := itr_exit h hy1
          exact B141 x3 R L _ _ _ h hP hD hS (lv_sub hl [0, 3] rfl)
        · replace h := (br h).2 c9
          refine lv_aload_n hx hb dX7_readRank_85 rfl (lv_at hl 0 rfl) ?_
          replace h := bd h
          obtain ⟨q7801, h7802, h⟩ := h
          refine callWVi (As := []) (rest := []) (cs' := [cX7 cy adR (adK 0) (adP 0) R, cX9 cy adK K, cX6 cy adP (adL 0) P, cX3 cy adL L]) (isC := [0, 1]) (isR := [2, 3]) hx hb hml hown hts (k_X7_kind l G cy ev adR (adP 0) R adK K q7801 h7802) wm_16_15 wm_16_16 wm_16_17 wm_1_18 wm_16_18 hd_X7_kind ⟨by simp only [rmX]; omega, by simp only [rmX]; omega⟩ hK hP hD hS hA hE rfl rfl rfl (cov_of (n := 4) rfl (by decide)) (by decide) rfl (recvW (ci := 0) hK hP rfl cX7_o rfl) rfl rfl hl.1 (Nat.le_of_ble_eq_true rfl) dX7_readRank_86 (fun H locs hP hD hS => ?_)
          replace h := bd h
          obtain ⟨q7803, h7804, h⟩ := h
          refine callSi0 (As := [.int q7801]) (rest := []) hx hb hml hown hts (k_X7_rankOf l G cy ev (wj [cX7 cy adR (adK 0) (adP 0) R, cX9 cy adK K, cX6 cy adP (adL 0) P, cX3 cy adL L]) q7801 q7803 h7804) wm_18_18 wm_18_19 wm_1_18 wm_18_20 hd_X7_rankOf ⟨by simp only [rmX]; omega, by simp only [rmX]; omega⟩ hK hP hD hS hA hE rfl rfl hl.1 (Nat.le_of_ble_eq_true rfl) dX7_readRank_89 (fun H locs hP hD hS => ?_)
          refine lv_iload_n hx hb dX7_readRank_92 rfl (lv_at hl 1 rfl) ?_
          refine lv_icmp_ne (tgt := 141) hx hb dX7_readRank_93 (by decide) (fun c9 => ?_) (fun c9 => ?_)
          · replace h := (br h).2 c9
            replace h := itr_exit h hy1
            exact B141 x3 R L _ _ _ h hP hD hS (lv_sub hl [0, 3] rfl)
          · replace h := (br h).1 c9
            refine lv_aload_n hx hb dX7_readRank_96 rfl (lv_at hl 0 rfl) ?_
            replace h := bd h
            obtain ⟨q7805, h7806, h⟩ := h
            refine callWVi (As := []) (rest := []) (cs' := [cX7 cy adR (adK 0) (adP 0) R, cX9 cy adK K, cX6 cy adP (adL 0) P, cX3 cy adL L]) (isC := [0, 1]) (isR := [2, 3]) hx hb hml hown hts (k_X7_kind l G cy ev adR (adP 0) R adK K q7805 h7806) wm_16_15 wm_16_16 wm_16_17 wm_1_18 wm_16_18 hd_X7_kind ⟨by simp only [rmX]; omega, by simp only [rmX]; omega⟩ hK hP hD hS hA hE rfl rfl rfl (cov_of (n := 4) rfl (by decide)) (by decide) rfl (recvW (ci := 0) hK hP rfl cX7_o rfl) rfl rfl hl.1 (Nat.le_of_ble_eq_true rfl) dX7_readRank_97 (fun H locs hP hD hS => ?_)
            refine lv_istore (lv' := [(6, .int q7805), (0, .ref (adR 0)), (1, .int x1), (2, .int x2), (3, .int x3), (4, .int x4), (5, .int x5)]) hx hb dX7_readRank_100 hl (by decide) rfl (fun ls hl => ?_)
            refine lv_aload_n hx hb dX7_readRank_102 rfl (lv_at hl 1 rfl) ?_
            replace h := bd h
            obtain ⟨q7807, h7808, h⟩ := h
            refine callWVi (As := []) (rest := []) (cs' := [cX7 cy adR (adK 0) (adP 0) q7807.2.1, cX9 cy adK K, cX6 cy adP (adL 0) P, cX3 cy adL q7807.2.2]) (isC := [0, 1, 2, 3]) (isR := []) hx hb hml hown hts (k_X7_takeKnot l G cy ev adR R adK K adP P adL L q7807 h7808) wm_18_14 wm_18_15 wm_18_16 wm_1_18 wm_18_17 hd_X7_takeKnot ⟨by simp only [rmX]; omega, by simp only [rmX]; omega⟩ hK hP hD hS hA hE rfl rfl rfl (cov_of (n := 4) rfl (by decide)) (by decide) rfl (recvW (ci := 0) hK hP rfl cX7_o rfl) rfl rfl hl.1 (Nat.le_of_ble_eq_true rfl) dX7_readRank_103 (fun H locs hP hD hS => ?_)
            refine lv_if_eq (tgt := 120) hx hb dX7_readRank_106 (by decide) (fun c9 => ?_) (fun c9 => ?_)
            · replace h := (br h).1 c9
              replace h := itr_exit h hy1
              refine lv_iconst (v := 0) hx hb dX7_readRank_120 (by decide) ?_
              exact retZ (fr := fun q => q.1) (fw := fun q => wj [cX7 cy adR (adK 0) (adP 0) q.2.1, cX9 cy adK K, cX6 cy adP (adL 0) P, cX3 cy adL q.2.2]) h hx hb hr narZ0 hlocks hK hP hD hS dX7_readRank_121
            · replace h := (br h).2 c9
              refine lv_aload_n hx hb dX7_readRank_109 rfl (lv_at hl 1 rfl) ?_
              refine lv_iload_n hx hb dX7_readRank_110 rfl (lv_at hl 2 rfl) ?_
              refine lv_iconst (v := 1) hx hb dX7_readRank_111 (by decide) ?_
              refine lv_iadd hx hb dX7_readRank_112 ?_
              refine lv_iload_n hx hb dX7_readRank_113 rfl (lv_at hl 3 rfl) ?_
              replace h := bd h
              obtain ⟨q7809, h7810, h⟩ := h
              refine callWVi (As := [.int (x1 + 1), .int x2]) (rest := []) (cs' := [cX7 cy adR (adK 0) (adP 0) q7809.2.1, cX9 cy adK K, cX6 cy adP (adL 0) P, cX3 cy adL q7809.2.2]) (isC := [0, 1, 2, 3]) (isR := []) hx hb hml hown hts (ihd adR q7807.2.1 adK K adP P adL q7807.2.2 (x1 + 1) x2 q7809 h7810) wm_18_7 wm_18_8 wm_18_9 wm_1_18 wm_18_10 hd_X7_readRank ⟨by simp only [rmX]; omega, by simp only [rmX]; omega⟩ hK hP hD hS hA hE rfl rfl rfl (cov_of (n := 4) rfl (by decide)) (by decide) rfl (recvW (ci := 0) hK hP rfl cX7_o rfl) rfl rfl hl.1 (Nat.le_of_ble_eq_true rfl) dX7_readRank_114 (fun H locs hP hD hS => ?_)
              refine lv_if_ne (tgt := 122) hx hb dX7_readRank_117 (by decide) (fun c9 => ?_) (fun c9 => ?_)
              · replace h := (br h).2 c9
                refine lv_aload_n hx hb dX7_readRank_122 rfl (lv_at hl 1 rfl) ?_
                refine go_7_21 (ci := 0) hx hb hts hown hK hE hP rfl dX7_readRank_123 ?_
                refine go_7_135 (ci := 2) hx hb hts hown hK hE hP rfl dX7_readRank_126 ?_
                refine lv_iload hx hb dX7_readRank_129 (lv_at hl 0 rfl) ?_
                refine lv_iconst (v := 0) hx hb dX7_readRank_131 (by decide) ?_
                replace h := bd h
                obtain ⟨q7811, h7812, h⟩ := h
                refine callWVv (As := [.int q7805, .int 0]) (rest := []) (cs' := [cX7 cy adR (adK 0) (adP 0) q7809.2.1, cX9 cy adK K, cX6 cy adP (adL 0) P, cX3 cy adL q7811]) (isC := [3]) (isR := [0, 1, 2]) hx hb hml hown hts (k_X3_put l G cy ev adL q7809.2.2 q7805 0 q7811 h7812) wm_18_21 wm_18_22 wm_18_23 wm_5_0 wm_19_0 hd_X3_put ⟨by simp only [rmX]; omega, by simp only [rmX]; omega⟩ hK hP hD hS hA hE rfl rfl rfl (cov_of (n := 4) rfl (by decide)) (by decide) rfl (recvW (ci := 3) hK hP rfl cX3_o rfl) rfl rfl hl.1 (Nat.le_of_ble_eq_true rfl) dX7_readRank_132 (fun H locs hP hD hS => ?_)
                refine lv_iinc (v := x5 + 1) (lv' := [(5, .int (x5 + 1)), (6, .int q7805), (0, .ref (adR 0)), (1, .int x1), (2, .int x2), (3, .int x3), (4, .int x4)]) hx hb dX7_readRank_135 hl (k := 6) rfl rfl (by decide) rfl (fun ls hl => ?_)
                refine lv_goto (tgt := 78) hx hb dX7_readRank_138 (by decide) ?_
                replace h := itr_back h hy1
                exact ih1 (x5 + 1) q7809.2.1 q7811 _ _ _ h hP hD hS (lv_sub hl [2, 3, 4, 5, 6, 0] rfl)
              · replace h := (br h).1 c9
                replace h := itr_exit h hy1
                refine lv_iconst (v := 0) hx hb dX7_readRank_120 (by decide) ?_
                exact retZ (fr := fun q => q.1) (fw := fun q => wj [cX7 cy adR (adK 0) (adP 0) q.2.1, cX9 cy adK K, cX6 cy adP (adL 0) P, cX3 cy adL q.2.2]) h hx hb hr narZ0 hlocks hK hP hD hS dX7_readRank_121
    have B73 : ∀ (x1 : Int32) (x2 : Int32) (x3 : Int32) (z0 : Int32) (R : VV) (L : VV) (H : Heap) (locs : List Loc) (ls : Array Slot), f_X7_readRank_b73 N (f_X7_readRank N d) R K P L x1 x2 x3 z0 = some res → va_P G vwCl (wj [cX7 cy adR (adK 0) (adP 0) R, cX9 cy adK K, cX6 cy adP (adL 0) P, cX3 cy adL L]) H → va_D A (wj [cX7 cy adR (adK 0) (adP 0) R, cX9 cy adK K, cX6 cy adP (adL 0) P, cX3 cy adL L]) → va_S A s.heap H locs → lv_has ls 7 [(0, .ref (adR 0)), (1, .int x1), (2, .int x2), (3, .int x3)] → W p l e (rmX (2 + 3 * (d + 1)) (41 + 65 * (d + 1))) s m args below meth c H locs 0 0 (MQ below (mQi (res.1) G cy A (wj [cX7 cy adR (adK 0) (adP 0) res.2.1, cX9 cy adK K, cX6 cy adP (adL 0) P, cX3 cy adL res.2.2])) args s 0 0 A) (F0 m 73 ls [.int z0]) := by
      intro x1 x2 x3 z0 R L H locs ls h hP hD hS hl
      delta f_X7_readRank_b73 at h
      refine lv_istore (lv' := [(4, .int z0), (0, .ref (adR 0)), (1, .int x1), (2, .int x2), (3, .int x3)]) hx hb dX7_readRank_73 hl (by decide) rfl (fun ls hl => ?_)
      refine lv_iconst (v := 0) hx hb dX7_readRank_75 (by decide) ?_
      refine lv_istore (lv' := [(5, .int 0), (4, .int z0), (0, .ref (adR 0)), (1, .int x1), (2, .int x2), (3, .int x3)]) hx hb dX7_readRank_76 hl (by decide) rfl (fun ls hl => ?_)
      exact L78 x1 x2 x3 z0 N 0 R L _ _ _ h hP hD hS (lv_sub hl [2, 3, 4, 5, 1, 0] rfl)
    have B49 : ∀ (x1 : Int32) (x2 : Int32) (x3 : Int32) (R : VV) (L : VV) (H : Heap) (locs : List Loc) (ls : Array Slot), f_X7_readRank_b49 N (f_X7_readRank N d) R K P L x1 x2 x3 = some res → va_P G vwCl (wj [cX7 cy adR (adK 0) (adP 0) R, cX9 cy adK K, cX6 cy adP (adL 0) P, cX3 cy adL L]) H → va_D A (wj [cX7 cy adR (adK 0) (adP 0) R, cX9 cy adK K, cX6 cy adP (adL 0) P, cX3 cy adL L]) → va_S A s.heap H locs → lv_has ls 7 [(0, .ref (adR 0)), (1, .int x1), (2, .int x2), (3, .int x3)] → W p l e (rmX (2 + 3 * (d + 1)) (41 + 65 * (d + 1))) s m args below meth c H locs 0 0 (MQ below (mQi (res.1) G cy A (wj [cX7 cy adR (adK 0) (adP 0) res.2.1, cX9 cy adK K, cX6 cy adP (adL 0) P, cX3 cy adL res.2.2])) args s 0 0 A) (F0 m 49 ls []) := by
      intro x1 x2 x3 R L H locs ls h hP hD hS hl
      delta f_X7_readRank_b49 at h
      refine lv_aload_n hx hb dX7_readRank_49 rfl (lv_at hl 0 rfl) ?_
      refine lv_iload_n hx hb dX7_readRank_50 rfl (lv_at hl 1 rfl) ?_
      refine lv_iconst (v := 1) hx hb dX7_readRank_51 (by decide) ?_
      refine lv_iadd hx hb dX7_readRank_52 ?_
      refine lv_iload_n hx hb dX7_readRank_53 rfl (lv_at hl 2 rfl) ?_
      replace h := bd h
      obtain ⟨q4901, h4902, h⟩ := h
      refine callWVi (As := [.int (x1 + 1), .int x2]) (rest := []) (cs' := [cX7 cy adR (adK 0) (adP 0) q4901.2.1, cX9 cy adK K, cX6 cy adP (adL 0) P, cX3 cy adL q4901.2.2]) (isC := [0, 1, 2, 3]) (isR := []) hx hb hml hown hts (ihd adR R adK K adP P adL L (x1 + 1) x2 q4901 h4902) wm_18_7 wm_18_8 wm_18_9 wm_1_18 wm_18_10 hd_X7_readRank ⟨by simp only [rmX]; omega, by simp only [rmX]; omega⟩ hK hP hD hS hA hE rfl rfl rfl (cov_of (n := 4) rfl (by decide)) (by decide) rfl (recvW (ci := 0) hK hP rfl cX7_o rfl) rfl rfl hl.1 (Nat.le_of_ble_eq_true rfl) dX7_readRank_54 (fun H locs hP hD hS => ?_)
      refine lv_if_ne (tgt := 62) hx hb dX7_readRank_57 (by decide) (fun c9 => ?_) (fun c9 => ?_)
      · replace h := (br h).2 c9
        refine lv_iload_n hx hb dX7_readRank_62 rfl (lv_at hl 1 rfl) ?_
        refine lv_iconst (v := 3) hx hb dX7_readRank_63 (by decide) ?_
        refine lv_icmp_ne (tgt := 71) hx hb dX7_readRank_64 (by decide) (fun c9 => ?_) (fun c9 => ?_)
        · replace h := (br h).2 c9
          refine lv_bipush (v := 64) hx hb dX7_readRank_71 (by decide) ?_
          exact B73 x1 x2 x3 64 q4901.2.1 q4901.2.2 _ _ _ h hP hD hS (lv_sub hl [0, 1, 2, 3] rfl)
        · replace h := (br h).1 c9
          refine lv_iconst (v := 1) hx hb dX7_readRank_67 (by decide) ?_
          refine lv_goto (tgt := 73) hx hb dX7_readRank_68 (by decide) ?_
          exact B73 x1 x2 x3 1 q4901.2.1 q4901.2.2 _ _ _ h hP hD hS (lv_sub hl [0, 1, 2, 3] rfl)
      · replace h := (br h).1 c9
        refine lv_iconst (v := 0) hx hb dX7_readRank_60 (by decide) ?_
        exact retZ (fr := fun q => q.1) (fw := fun q => wj [cX7 cy adR (adK 0) (adP 0) q.2.1, cX9 cy adK K, cX6 cy adP (adL 0) P, cX3 cy adL q.2.2]) h hx hb hr narZ0 hlocks hK hP hD hS dX7_readRank_61
    have L14 : ∀ (x1 : Int32) (x2 : Int32) (n : Nat) (x3 : Int32) (R : VV) (L : VV) (H : Heap) (locs : List Loc) (ls : Array Slot), itr (fun q : Int32 × VV × VV => f_X7_readRank_s14 N (f_X7_readRank N d) q.2.1 K P q.2.2 x1 x2 q.1) n (x3, R, L) = some res → va_P G vwCl (wj [cX7 cy adR (adK 0) (adP 0) R, cX9 cy adK K, cX6 cy adP (adL 0) P, cX3 cy adL L]) H → va_D A (wj [cX7 cy adR (adK 0) (adP 0) R, cX9 cy adK K, cX6 cy adP (adL 0) P, cX3 cy adL L]) → va_S A s.heap H locs → lv_has ls 7 [(0, .ref (adR 0)), (1, .int x1), (2, .int x2), (3, .int x3)] → W p l e (rmX (2 + 3 * (d + 1)) (41 + 65 * (d + 1))) s m args below meth c H locs 0 0 (MQ below (mQi (res.1) G cy A (wj [cX7 cy adR (adK 0) (adP 0) res.2.1, cX9 cy adK K, cX6 cy adP (adL 0) P, cX3 cy adL res.2.2])) args s 0 0 A) (F0 m 14 ls []) := by
      intro x1 x2 n
      induction n with
      | zero => intro x3 R L H locs ls h; exact (itr_zero h).elim
      | succ n ih1 =>
        intro x3 R L H locs ls h hP hD hS hl
        obtain ⟨y1, h, hy1⟩ := itr_inv h
        have h : f_X7_readRank_s14 N (f_X7_readRank N d) R K P L x1 x2 x3 = some y1 := h
        delta f_X7_readRank_s14 at h
        refine lv_iload_n hx hb dX7_readRank_14 rfl (lv_at hl 3 rfl) ?_
        refine lv_bipush (v := 64) hx hb dX7_readRank_15 (by decide) ?_
        refine lv_icmp_gt (tgt := 49) hx hb dX7_readRank_17 (by decide) (fun c9 => ?_) (fun c9 => ?_)
        · replace h := (br h).1 c9
          replace h := itr_exit h hy1
          exact B49 x1 x2 x3 R L _ _ _ h hP hD hS (lv_sub hl [0, 1, 2, 3] rfl)
        · replace h := (br h).2 c9
          refine lv_iload_n hx hb dX7_readRank_20 rfl (lv_at hl 1 rfl) ?_
          refine lv_iconst (v := 3) hx hb dX7_readRank_21 (by decide) ?_
          refine lv_icmp_ne (tgt := 49) hx hb dX7_readRank_22 (by decide) (fun c9 => ?_) (fun c9 => ?_)
          · replace h := (br h).2 c9
            replace h := itr_exit h hy1
            exact B49 x1 x2 x3 R L _ _ _ h hP hD hS (lv_sub hl [0, 1, 2, 3] rfl)
          · replace h := (br h).1 c9
            refine lv_aload_n hx hb dX7_readRank_25 rfl (lv_at hl 0 rfl) ?_
            replace h := bd h
            obtain ⟨q1401, h1402, h⟩ := h
            refine callWVi (As := []) (rest := []) (cs' := [cX7 cy adR (adK 0) (adP 0) R, cX9 cy adK K, cX6 cy adP (adL 0) P, cX3 cy adL L]) (isC := [0, 1]) (isR := [2, 3]) hx hb hml hown hts (k_X7_kind l G cy ev adR (adP 0) R adK K q1401 h1402) wm_16_15 wm_16_16 wm_16_17 wm_1_18 wm_16_18 hd_X7_kind ⟨by simp only [rmX]; omega, by simp only [rmX]; omega⟩ hK hP hD hS hA hE rfl rfl rfl (cov_of (n := 4) rfl (by decide)) (by decide) rfl (recvW (ci := 0) hK hP rfl cX7_o rfl) rfl rfl hl.1 (Nat.le_of_ble_eq_true rfl) dX7_readRank_26 (fun H locs hP hD hS => ?_)
            refine lv_bipush (v := 46) hx hb dX7_readRank_29 (by decide) ?_
            refine lv_icmp_ne (tgt := 49) hx hb dX7_readRank_31 (by decide) (fun c9 => ?_) (fun c9 => ?_)
            · replace h := (br h).2 c9
              replace h := itr_exit h hy1
              exact B49 x1 x2 x3 R L _ _ _ h hP hD hS (lv_sub hl [0, 1, 2, 3] rfl)
            · replace h := (br h).1 c9
              refine lv_aload_n hx hb dX7_readRank_34 rfl (lv_at hl 0 rfl) ?_
              replace h := bd h
              obtain ⟨q1403, h1404, h⟩ := h
              refine callWVi (As := []) (rest := []) (cs' := [cX7 cy adR (adK 0) (adP 0) q1403.2.1, cX9 cy adK K, cX6 cy adP (adL 0) P, cX3 cy adL q1403.2.2]) (isC := [0, 1, 2, 3]) (isR := []) hx hb hml hown hts (k_X7_takeKnot l G cy ev adR R adK K adP P adL L q1403 h1404) wm_18_14 wm_18_15 wm_18_16 wm_1_18 wm_18_17 hd_X7_takeKnot ⟨by simp only [rmX]; omega, by simp only [rmX]; omega⟩ hK hP hD hS hA hE rfl rfl rfl (cov_of (n := 4) rfl (by decide)) (by decide) rfl (recvW (ci := 0) hK hP rfl cX7_o rfl) rfl rfl hl.1 (Nat.le_of_ble_eq_true rfl) dX7_readRank_35 (fun H locs hP hD hS => ?_)
              refine lv_if_ne (tgt := 43) hx hb dX7_readRank_38 (by decide) (fun c9 => ?_) (fun c9 => ?_)
              · replace h := (br h).2 c9
                refine lv_iinc (v := x3 + 1) (lv' := [(3, .int (x3 + 1)), (0, .ref (adR 0)), (1, .int x1), (2, .int x2)]) hx hb dX7_readRank_43 hl (k := 3) rfl rfl (by decide) rfl (fun ls hl => ?_)
                refine lv_goto (tgt := 14) hx hb dX7_readRank_46 (by decide) ?_
                replace h := itr_back h hy1
                exact ih1 (x3 + 1) q1403.2.1 q1403.2.2 _ _ _ h hP hD hS (lv_sub hl [1, 2, 3, 0] rfl)
              · replace h := (br h).1 c9
                replace h := itr_exit h hy1
                refine lv_iconst (v := 0) hx hb dX7_readRank_41 (by decide) ?_
                exact retZ (fr := fun q => q.1) (fw := fun q => wj [cX7 cy adR (adK 0) (adP 0) q.2.1, cX9 cy adK K, cX6 cy adP (adL 0) P, cX3 cy adL q.2.2]) h hx hb hr narZ0 hlocks hK hP hD hS dX7_readRank_42
    delta f_X7_readRank_body at h
    refine lv_iload_n hx hb dX7_readRank_0 rfl (lv_at hl 1 rfl) ?_
    refine lv_bipush (v := 6) hx hb dX7_readRank_1 (by decide) ?_
    refine lv_icmp_lt (tgt := 12) hx hb dX7_readRank_3 (by decide) (fun c9 => ?_) (fun c9 => ?_)
    · replace h := (br h).1 c9
      refine lv_iconst (v := 0) hx hb dX7_readRank_12 (by decide) ?_
      refine lv_istore_n (lv' := [(3, .int 0), (0, .ref (adR 0)), (1, .int a1), (2, .int a2)]) hx hb dX7_readRank_13 rfl hl (by decide) rfl (fun ls hl => ?_)
      exact L14 a1 a2 N 0 R L _ _ _ h hP hD hS (lv_sub hl [1, 2, 3, 0] rfl)
    · replace h := (br h).2 c9
      refine lv_aload_n hx hb dX7_readRank_6 rfl (lv_at hl 0 rfl) ?_
      refine lv_iload_n hx hb dX7_readRank_7 rfl (lv_at hl 2 rfl) ?_
      replace h := bd h
      obtain ⟨q1, h2, h⟩ := h
      refine callWVi (As := [.int a2]) (rest := []) (cs' := [cX7 cy adR (adK 0) (adP 0) q1.2.1, cX9 cy adK K, cX6 cy adP (adL 0) P, cX3 cy adL q1.2.2]) (isC := [0, 1, 2, 3]) (isR := []) hx hb hml hown hts (k_X7_readPart l G cy ev N (2 + 3 * d) (41 + 65 * d) (f_X7_readRank N d) ihd adR R adK K adP P adL L a2 q1 h2) wm_18_11 wm_18_12 wm_18_13 wm_1_18 wm_19_1 hd_X7_readPart ⟨by simp only [rmX]; omega, by simp only [rmX]; omega⟩ hK hP hD hS hA hE rfl rfl rfl (cov_of (n := 4) rfl (by decide)) (by decide) rfl (recvW (ci := 0) hK hP rfl cX7_o rfl) rfl rfl hl.1 (Nat.le_of_ble_eq_true rfl) dX7_readRank_8 (fun H locs hP hD hS => ?_)
      replace h := gbz_inv h
      obtain ⟨h9, h⟩ := h
      exact retZ (fr := fun q => q.1) (fw := fun q => wj [cX7 cy adR (adK 0) (adP 0) q.2.1, cX9 cy adK K, cX6 cy adP (adL 0) P, cX3 cy adL q.2.2]) h hx hb hr (narZ h9).1 hlocks hK hP hD hS dX7_readRank_11
theorem hds_X7_readLaw : yX7_readLaw.cls ≠ "java/lang/invoke/MethodHandle" ∧ yX7_readLaw.cls ≠ "java/lang/invoke/VarHandle" ∧ (parseMethodDescriptor yX7_readLaw.desc).map (fun d => d.parameters.length) = some 0 := ⟨by decide +kernel, by decide +kernel, by decide +kernel⟩
theorem hd_X7_readLaw : yX7_readLaw.cls = RX7 ∧ yX7_readLaw.cls ≠ "java/lang/invoke/MethodHandle" ∧ yX7_readLaw.cls ≠ "java/lang/invoke/VarHandle" ∧ (parseMethodDescriptor yX7_readLaw.desc).map (fun d => d.parameters.length) = some 0 := ⟨rfl, hds_X7_readLaw⟩
def f_X7_readLaw_b27 (N : Nat) (R : VV) (K : VV) (P : VV) (L : VV)  : Option (Int32 × VV × VV) :=
  bnd (f_X7_refuse R K 1) (fun q2701 => gbz q2701.1 (some (q2701.1, q2701.2, L)))
def f_X7_readLaw (N : Nat) (R : VV) (K : VV) (P : VV) (L : VV) : Option (Int32 × VV × VV) :=
  bnd (f_X7_kind (si R 2 ((R.1 2) + 1)) K) (fun q1 => if q1 - 41 < 0 then f_X7_readLaw_b27 N (si R 2 ((R.1 2) + 1)) K P L else if q1 - 41 < 3 then bnd (f_X3_isTold L (q1 - 41)) (fun q3 => if q3 = 0 then bnd (f_X7_readRank N 70 (si (si R 2 ((R.1 2) + 1)) 2 (((R.1 2) + 1) + 1)) K P L 1 0) (fun q5 => if q5.1 = 0 then some (0, q5.2.1, q5.2.2) else bnd (f_X3_tell q5.2.2 (q1 - 41) (L.1 2)) (fun q7 => some (1, q5.2.1, q7))) else bnd (f_X7_refuse (si R 2 ((R.1 2) + 1)) K 3) (fun q9 => gbz q9.1 (some (q9.1, q9.2, L)))) else f_X7_readLaw_b27 N (si R 2 ((R.1 2) + 1)) K P L)
set_option maxHeartbeats 4000000 in
set_option maxRecDepth 100000 in
theorem k_X7_readLaw (l : Launch) (G : va_G) (cy : Nat → ClassId) (ev : Nat → Nat) (N : Nat) (adR : Nat → Nat) (R : VV) (adK : Nat → Nat) (K : VV) (adP : Nat → Nat) (P : VV) (adL : Nat → Nat) (L : VV)  (res : Int32 × VV × VV) (h : f_X7_readLaw N R K P L = some res) : MetI l yX7_readLaw cX7_readLaw 3 (some .boolean) 213 4617 G cy ev [.ref (adR 0)] (wj [cX7 cy adR (adK 0) (adP 0) R, cX9 cy adK K, cX6 cy adP (adL 0) P, cX3 cy adL L]) res.1 (wj [cX7 cy adR (adK 0) (adP 0) res.2.1, cX9 cy adK K, cX6 cy adP (adL 0) P, cX3 cy adL res.2.2]) := by
  refine MetQ.start (by decide +kernel) (Nat.le_of_ble_eq_true rfl) (fun p e s m args below meth c A ls hx hb hr hml hown hts hlocks hK hP hD hA hl hE => ?_)
  have hS : va_S A s.heap s.heap [] := va_S.rf
  have hown : s.vm.findClass RX7 = some m.cls := hown
  have hl : lv_has ls 3 [(0, .ref (adR 0))] := hl
  have B27 : ∀ (R : VV) (L : VV) (H : Heap) (locs : List Loc) (ls : Array Slot), f_X7_readLaw_b27 N R K P L = some res → va_P G vwCl (wj [cX7 cy adR (adK 0) (adP 0) R, cX9 cy adK K, cX6 cy adP (adL 0) P, cX3 cy adL L]) H → va_D A (wj [cX7 cy adR (adK 0) (adP 0) R, cX9 cy adK K, cX6 cy adP (adL 0) P, cX3 cy adL L]) → va_S A s.heap H locs → lv_has ls 3 [(0, .ref (adR 0))] → W p l e (rmX 213 4617) s m args below meth c H locs 0 0 (MQ below (mQi (res.1) G cy A (wj [cX7 cy adR (adK 0) (adP 0) res.2.1, cX9 cy adK K, cX6 cy adP (adL 0) P, cX3 cy adL res.2.2])) args s 0 0 A) (F0 m 27 ls []) := by
    intro R L H locs ls h hP hD hS hl
    delta f_X7_readLaw_b27 at h
    refine lv_aload_n hx hb dX7_readLaw_27 rfl (lv_at hl 0 rfl) ?_
    refine lv_iconst (v := 1) hx hb dX7_readLaw_28 (by decide) ?_
    replace h := bd h
    obtain ⟨q2701, h2702, h⟩ := h
    refine callWVi (As := [.int 1]) (rest := []) (cs' := [cX7 cy adR (adK 0) (adP 0) q2701.2, cX9 cy adK K, cX6 cy adP (adL 0) P, cX3 cy adL L]) (isC := [0, 1]) (isR := [2, 3]) hx hb hml hown hts (k_X7_refuse l G cy ev adR (adP 0) R adK K 1 q2701 h2702) wm_17_3 wm_17_4 wm_17_5 wm_1_18 wm_17_6 hd_X7_refuse ⟨by decide, by decide⟩ hK hP hD hS hA hE rfl rfl rfl (cov_of (n := 4) rfl (by decide)) (by decide) rfl (recvW (ci := 0) hK hP rfl cX7_o rfl) rfl rfl hl.1 (Nat.le_of_ble_eq_true rfl) dX7_readLaw_29 (fun H locs hP hD hS => ?_)
    replace h := gbz_inv h
    obtain ⟨h9, h⟩ := h
    exact retZ (fr := fun q => q.1) (fw := fun q => wj [cX7 cy adR (adK 0) (adP 0) q.2.1, cX9 cy adK K, cX6 cy adP (adL 0) P, cX3 cy adL q.2.2]) h hx hb hr (narZ h9).1 hlocks hK hP hD hS dX7_readLaw_32
  delta f_X7_readLaw at h
  refine lv_aload_n hx hb dX7_readLaw_0 rfl (lv_at hl 0 rfl) ?_
  refine lv_dup hx hb dX7_readLaw_1 rfl ?_
  refine go_7_25 (ci := 0) (x := R.1 2) hx hb hts hown hK hE hP rfl rfl dX7_readLaw_2 ?_
  refine lv_iconst (v := 1) hx hb dX7_readLaw_5 (by decide) ?_
  refine lv_iadd hx hb dX7_readLaw_6 ?_
  refine po_7_25 (ci := 0) (cs' := [cX7 cy adR (adK 0) (adP 0) (si R 2 ((R.1 2) + 1)), cX9 cy adK K, cX6 cy adP (adL 0) P, cX3 cy adL L]) hx hb hts hown hK hE hP hD hS rfl rfl dX7_readLaw_7 (fun H locs hP hD hS => ?_)
  refine lv_aload_n hx hb dX7_readLaw_10 rfl (lv_at hl 0 rfl) ?_
  replace h := bd h
  obtain ⟨q1, h2, h⟩ := h
  refine callWVi (As := []) (rest := []) (cs' := [cX7 cy adR (adK 0) (adP 0) (si R 2 ((R.1 2) + 1)), cX9 cy adK K, cX6 cy adP (adL 0) P, cX3 cy adL L]) (isC := [0, 1]) (isR := [2, 3]) hx hb hml hown hts (k_X7_kind l G cy ev adR (adP 0) (si R 2 ((R.1 2) + 1)) adK K q1 h2) wm_16_15 wm_16_16 wm_16_17 wm_1_18 wm_16_18 hd_X7_kind ⟨by decide, by decide⟩ hK hP hD hS hA hE rfl rfl rfl (cov_of (n := 4) rfl (by decide)) (by decide) rfl (recvW (ci := 0) hK hP rfl cX7_o rfl) rfl rfl hl.1 (Nat.le_of_ble_eq_true rfl) dX7_readLaw_11 (fun H locs hP hD hS => ?_)
  refine lv_bipush (v := 41) hx hb dX7_readLaw_14 (by decide) ?_
  refine lv_isub hx hb dX7_readLaw_16 ?_
  refine lv_istore_n (lv' := [(1, .int (q1 - 41)), (0, .ref (adR 0))]) hx hb dX7_readLaw_17 rfl hl (by decide) rfl (fun ls hl => ?_)
  refine lv_iload_n hx hb dX7_readLaw_18 rfl (lv_at hl 0 rfl) ?_
  refine lv_if_lt (tgt := 27) hx hb dX7_readLaw_19 (by decide) (fun c9 => ?_) (fun c9 => ?_)
  · replace h := (br h).1 c9
    exact B27 (si R 2 ((R.1 2) + 1)) L _ _ _ h hP hD hS (lv_sub hl [1] rfl)
  · replace h := (br h).2 c9
    refine lv_iload_n hx hb dX7_readLaw_22 rfl (lv_at hl 0 rfl) ?_
    refine lv_iconst (v := 3) hx hb dX7_readLaw_23 (by decide) ?_
    refine lv_icmp_lt (tgt := 33) hx hb dX7_readLaw_24 (by decide) (fun c9 => ?_) (fun c9 => ?_)
    · replace h := (br h).1 c9
      refine lv_aload_n hx hb dX7_readLaw_33 rfl (lv_at hl 1 rfl) ?_
      refine go_7_21 (ci := 0) hx hb hts hown hK hE hP rfl dX7_readLaw_34 ?_
      refine go_7_135 (ci := 2) hx hb hts hown hK hE hP rfl dX7_readLaw_37 ?_
      refine lv_iload_n hx hb dX7_readLaw_40 rfl (lv_at hl 0 rfl) ?_
      replace h := bd h
      obtain ⟨q3, h4, h⟩ := h
      refine callWVi (As := [.int (q1 - 41)]) (rest := []) (cs' := [cX7 cy adR (adK 0) (adP 0) (si R 2 ((R.1 2) + 1)), cX9 cy adK K, cX6 cy adP (adL 0) P, cX3 cy adL L]) (isC := [3]) (isR := [0, 1, 2]) hx hb hml hown hts (k_X3_isTold l G cy ev adL L (q1 - 41) q3 h4) wm_18_3 wm_18_4 wm_18_5 wm_5_0 wm_18_6 hd_X3_isTold ⟨by decide, by decide⟩ hK hP hD hS hA hE rfl rfl rfl (cov_of (n := 4) rfl (by decide)) (by decide) rfl (recvW (ci := 3) hK hP rfl cX3_o rfl) rfl rfl hl.1 (Nat.le_of_ble_eq_true rfl) dX7_readLaw_41 (fun H locs hP hD hS => ?_)
      refine lv_if_eq (tgt := 53) hx hb dX7_readLaw_44 (by decide) (fun c9 => ?_) (fun c9 => ?_)
      · replace h := (br h).1 c9
        refine lv_aload_n hx hb dX7_readLaw_53 rfl (lv_at hl 1 rfl) ?_
        refine lv_dup hx hb dX7_readLaw_54 rfl ?_
        refine go_7_25 (ci := 0) (x := (R.1 2) + 1) hx hb hts hown hK hE hP rfl rfl dX7_readLaw_55 ?_
        refine lv_iconst (v := 1) hx hb dX7_readLaw_58 (by decide) ?_
        refine lv_iadd hx hb dX7_readLaw_59 ?_
        refine po_7_25 (ci := 0) (cs' := [cX7 cy adR (adK 0) (adP 0) (si (si R 2 ((R.1 2) + 1)) 2 (((R.1 2) + 1) + 1)), cX9 cy adK K, cX6 cy adP (adL 0) P, cX3 cy adL L]) hx hb hts hown hK hE hP hD hS rfl rfl dX7_readLaw_60 (fun H locs hP hD hS => ?_)
        refine lv_aload_n hx hb dX7_readLaw_63 rfl (lv_at hl 1 rfl) ?_
        refine go_7_21 (ci := 0) hx hb hts hown hK hE hP rfl dX7_readLaw_64 ?_
        refine go_7_135 (ci := 2) hx hb hts hown hK hE hP rfl dX7_readLaw_67 ?_
        refine go_7_143 (ci := 3) (x := L.1 2) hx hb hts hown hK hE hP rfl rfl dX7_readLaw_70 ?_
        refine lv_istore_n (lv' := [(2, .int (L.1 2)), (1, .int (q1 - 41)), (0, .ref (adR 0))]) hx hb dX7_readLaw_73 rfl hl (by decide) rfl (fun ls hl => ?_)
        refine lv_aload_n hx hb dX7_readLaw_74 rfl (lv_at hl 2 rfl) ?_
        refine lv_iconst (v := 1) hx hb dX7_readLaw_75 (by decide) ?_
        refine lv_iconst (v := 0) hx hb dX7_readLaw_76 (by decide) ?_
        replace h := bd h
        obtain ⟨q5, h6, h⟩ := h
        refine callWVi (As := [.int 1, .int 0]) (rest := []) (cs' := [cX7 cy adR (adK 0) (adP 0) q5.2.1, cX9 cy adK K, cX6 cy adP (adL 0) P, cX3 cy adL q5.2.2]) (isC := [0, 1, 2, 3]) (isR := []) hx hb hml hown hts (k_X7_readRank l G cy ev N 70 adR (si (si R 2 ((R.1 2) + 1)) 2 (((R.1 2) + 1) + 1)) adK K adP P adL L 1 0 q5 h6) wm_18_7 wm_18_8 wm_18_9 wm_1_18 wm_18_10 hd_X7_readRank ⟨by decide, by decide⟩ hK hP hD hS hA hE rfl rfl rfl (cov_of (n := 4) rfl (by decide)) (by decide) rfl (recvW (ci := 0) hK hP rfl cX7_o rfl) rfl rfl hl.1 (Nat.le_of_ble_eq_true rfl) dX7_readLaw_77 (fun H locs hP hD hS => ?_)
        refine lv_if_ne (tgt := 85) hx hb dX7_readLaw_80 (by decide) (fun c9 => ?_) (fun c9 => ?_)
        · replace h := (br h).2 c9
          refine lv_aload_n hx hb dX7_readLaw_85 rfl (lv_at hl 2 rfl) ?_
          refine go_7_21 (ci := 0) hx hb hts hown hK hE hP rfl dX7_readLaw_86 ?_
          refine go_7_135 (ci := 2) hx hb hts hown hK hE hP rfl dX7_readLaw_89 ?_
          refine lv_iload_n hx hb dX7_readLaw_92 rfl (lv_at hl 1 rfl) ?_
          refine lv_iload_n hx hb dX7_readLaw_93 rfl (lv_at hl 0 rfl) ?_
          replace h := bd h
          obtain ⟨q7, h8, h⟩ := h
          refine callWVv (As := [.int (q1 - 41), .int (L.1 2)]) (rest := []) (cs' := [cX7 cy adR (adK 0) (adP 0) q5.2.1, cX9 cy adK K, cX6 cy adP (adL 0) P, cX3 cy adL q7]) (isC := [3]) (isR := [0, 1, 2]) hx hb hml hown hts (k_X3_tell l G cy ev adL q5.2.2 (q1 - 41) (L.1 2) q7 h8) wm_19_6 wm_19_7 wm_19_8 wm_5_0 wm_19_9 hd_X3_tell ⟨by decide, by decide⟩ hK hP hD hS hA hE rfl rfl rfl (cov_of (n := 4) rfl (by decide)) (by decide) rfl (recvW (ci := 3) hK hP rfl cX3_o rfl) rfl rfl hl.1 (Nat.le_of_ble_eq_true rfl) dX7_readLaw_94 (fun H locs hP hD hS => ?_)
          refine lv_iconst (v := 1) hx hb dX7_readLaw_97 (by decide) ?_
          exact retZ (fr := fun q => q.1) (fw := fun q => wj [cX7 cy adR (adK 0) (adP 0) q.2.1, cX9 cy adK K, cX6 cy adP (adL 0) P, cX3 cy adL q.2.2]) h hx hb hr narZ1 hlocks hK hP hD hS dX7_readLaw_98
        · replace h := (br h).1 c9
          refine lv_iconst (v := 0) hx hb dX7_readLaw_83 (by decide) ?_
          exact retZ (fr := fun q => q.1) (fw := fun q => wj [cX7 cy adR (adK 0) (adP 0) q.2.1, cX9 cy adK K, cX6 cy adP (adL 0) P, cX3 cy adL q.2.2]) h hx hb hr narZ0 hlocks hK hP hD hS dX7_readLaw_84
      · replace h := (br h).2 c9
        refine lv_aload_n hx hb dX7_readLaw_47 rfl (lv_at hl 1 rfl) ?_
        refine lv_iconst (v := 3) hx hb dX7_readLaw_48 (by decide) ?_
        replace h := bd h
        obtain ⟨q9, h10, h⟩ := h
        refine callWVi (As := [.int 3]) (rest := []) (cs' := [cX7 cy adR (adK 0) (adP 0) q9.2, cX9 cy adK K, cX6 cy adP (adL 0) P, cX3 cy adL L]) (isC := [0, 1]) (isR := [2, 3]) hx hb hml hown hts (k_X7_refuse l G cy ev adR (adP 0) (si R 2 ((R.1 2) + 1)) adK K 3 q9 h10) wm_17_3 wm_17_4 wm_17_5 wm_1_18 wm_17_6 hd_X7_refuse ⟨by decide, by decide⟩ hK hP hD hS hA hE rfl rfl rfl (cov_of (n := 4) rfl (by decide)) (by decide) rfl (recvW (ci := 0) hK hP rfl cX7_o rfl) rfl rfl hl.1 (Nat.le_of_ble_eq_true rfl) dX7_readLaw_49 (fun H locs hP hD hS => ?_)
        replace h := gbz_inv h
        obtain ⟨h9, h⟩ := h
        exact retZ (fr := fun q => q.1) (fw := fun q => wj [cX7 cy adR (adK 0) (adP 0) q.2.1, cX9 cy adK K, cX6 cy adP (adL 0) P, cX3 cy adL q.2.2]) h hx hb hr (narZ h9).1 hlocks hK hP hD hS dX7_readLaw_52
    · replace h := (br h).2 c9
      exact B27 (si R 2 ((R.1 2) + 1)) L _ _ _ h hP hD hS (lv_sub hl [1] rfl)
theorem hds_X7_readParty : yX7_readParty.cls ≠ "java/lang/invoke/MethodHandle" ∧ yX7_readParty.cls ≠ "java/lang/invoke/VarHandle" ∧ (parseMethodDescriptor yX7_readParty.desc).map (fun d => d.parameters.length) = some 0 := ⟨by decide +kernel, by decide +kernel, by decide +kernel⟩
theorem hd_X7_readParty : yX7_readParty.cls = RX7 ∧ yX7_readParty.cls ≠ "java/lang/invoke/MethodHandle" ∧ yX7_readParty.cls ≠ "java/lang/invoke/VarHandle" ∧ (parseMethodDescriptor yX7_readParty.desc).map (fun d => d.parameters.length) = some 0 := ⟨rfl, hds_X7_readParty⟩
def f_X7_readParty_s85 (N : Nat) (R : VV) (K : VV) (P : VV) (L : VV) (x1 : Int32) (x2 : Int32) (x3 : Int32) : Option (((Int32 × VV × VV) ⊕ (Int32 × VV × VV))) :=
  if (7 : Int32) ≤ x3 then inrO (gin x2 8 (some (1, R, si (sr P 1 x2.toNatClampNeg x1) 0 ((P.1 0) + 1)))) else gin x3 7 (gin x3 7 (bnd (f_X7_readNumber R K ((evC 0).getD x3.toNatClampNeg 0) ((evC 1).getD x3.toNatClampNeg 0)) (fun q8501 => if q8501.1 = 0 then inrO (some (0, q8501.2, P)) else gin x2 8 (gin x3 7 (some (.inl (x3 + 1, q8501.2, sm P x2.toNatClampNeg x3.toNatClampNeg (q8501.2.1 3))))))))
def f_X7_readParty (N : Nat) (R : VV) (K : VV) (P : VV) (L : VV) : Option (Int32 × VV × VV) :=
  if P.1 0 < 8 then bnd (f_X7_kind (si R 2 ((R.1 2) + 1)) K) (fun q1 => if q1 = 3 then bnd (f_X7_value (si R 2 ((R.1 2) + 1)) K) (fun q3 => bnd (f_X6_numberOf N P q3) (fun q5 => if q5 = (-1) then itr (fun q : Int32 × VV × VV => f_X7_readParty_s85 N q.2.1 K q.2.2 L q3 (P.1 0) q.1) N (0, si (si R 2 ((R.1 2) + 1)) 2 (((R.1 2) + 1) + 1), P) else bnd (f_X7_refuse (si R 2 ((R.1 2) + 1)) K 3) (fun q7 => gbz q7.1 (some (q7.1, q7.2, P))))) else bnd (f_X7_refuse (si R 2 ((R.1 2) + 1)) K 1) (fun q9 => gbz q9.1 (some (q9.1, q9.2, P)))) else bnd (f_X7_refuse R K 2) (fun q11 => gbz q11.1 (some (q11.1, q11.2, P)))
set_option maxHeartbeats 4000000 in
set_option maxRecDepth 100000 in
theorem k_X7_readParty (l : Launch) (G : va_G) (cy : Nat → ClassId) (ev : Nat → Nat) (N : Nat) (adR : Nat → Nat) (R : VV) (adK : Nat → Nat) (K : VV) (adP : Nat → Nat) (P : VV) (adL : Nat → Nat) (L : VV)  (res : Int32 × VV × VV) (h : f_X7_readParty N R K P L = some res) : MetI l yX7_readParty cX7_readParty 4 (some .boolean) 2 43 G cy ev [.ref (adR 0)] (wj [cX7 cy adR (adK 0) (adP 0) R, cX9 cy adK K, cX6 cy adP (adL 0) P, cX3 cy adL L]) res.1 (wj [cX7 cy adR (adK 0) (adP 0) res.2.1, cX9 cy adK K, cX6 cy adP (adL 0) res.2.2, cX3 cy adL L]) := by
  refine MetQ.start (by decide +kernel) (Nat.le_of_ble_eq_true rfl) (fun p e s m args below meth c A ls hx hb hr hml hown hts hlocks hK hP hD hA hl hE => ?_)
  have hS : va_S A s.heap s.heap [] := va_S.rf
  have hown : s.vm.findClass RX7 = some m.cls := hown
  have hl : lv_has ls 4 [(0, .ref (adR 0))] := hl
  have L85 : ∀ (x1 : Int32) (x2 : Int32) (n : Nat) (x3 : Int32) (R : VV) (P : VV) (H : Heap) (locs : List Loc) (ls : Array Slot), itr (fun q : Int32 × VV × VV => f_X7_readParty_s85 N q.2.1 K q.2.2 L x1 x2 q.1) n (x3, R, P) = some res → va_P G vwCl (wj [cX7 cy adR (adK 0) (adP 0) R, cX9 cy adK K, cX6 cy adP (adL 0) P, cX3 cy adL L]) H → va_D A (wj [cX7 cy adR (adK 0) (adP 0) R, cX9 cy adK K, cX6 cy adP (adL 0) P, cX3 cy adL L]) → va_S A s.heap H locs → lv_has ls 4 [(0, .ref (adR 0)), (1, .int x1), (2, .int x2), (3, .int x3)] → W p l e (rmX 2 43) s m args below meth c H locs 0 0 (MQ below (mQi (res.1) G cy A (wj [cX7 cy adR (adK 0) (adP 0) res.2.1, cX9 cy adK K, cX6 cy adP (adL 0) res.2.2, cX3 cy adL L])) args s 0 0 A) (F0 m 85 ls []) := by
    intro x1 x2 n
    induction n with
    | zero => intro x3 R P H locs ls h; exact (itr_zero h).elim
    | succ n ih1 =>
      intro x3 R P H locs ls h hP hD hS hl
      obtain ⟨y1, h, hy1⟩ := itr_inv h
      have h : f_X7_readParty_s85 N R K P L x1 x2 x3 = some y1 := h
      delta f_X7_readParty_s85 at h
      refine lv_iload_n hx hb dX7_readParty_85 rfl (lv_at hl 3 rfl) ?_
      refine lv_bipush (v := 7) hx hb dX7_readParty_86 (by decide) ?_
      refine lv_icmp_ge (tgt := 131) hx hb dX7_readParty_88 (by decide) (fun c9 => ?_) (fun c9 => ?_)
      · replace h := (br h).1 c9
        replace h := itr_exit h hy1
        refine lv_aload_n hx hb dX7_readParty_131 rfl (lv_at hl 0 rfl) ?_
        refine go_7_21 (ci := 0) hx hb hts hown hK hE hP rfl dX7_readParty_132 ?_
        refine go_7_110 (ci := 2) hx hb hts hown hK hE hP rfl dX7_readParty_135 ?_
        refine lv_iload_n hx hb dX7_readParty_138 rfl (lv_at hl 2 rfl) ?_
        refine lv_iload_n hx hb dX7_readParty_139 rfl (lv_at hl 1 rfl) ?_
        replace h := gin_inv h
        obtain ⟨h9, h⟩ := h
        refine stWI (ci := 2) (k0 := 1) (j := x2.toNatClampNeg) (cs' := [cX7 cy adR (adK 0) (adP 0) R, cX9 cy adK K, cX6 cy adP (adL 0) (sr P 1 x2.toNatClampNeg x1), cX3 cy adL L]) hx hb hK hP hD hS rfl cX6_a1 h9 rfl cX6_s1 rfl dX7_readParty_140 (fun H locs hP hD hS => ?_)
        refine lv_aload_n hx hb dX7_readParty_141 rfl (lv_at hl 0 rfl) ?_
        refine go_7_21 (ci := 0) hx hb hts hown hK hE hP rfl dX7_readParty_142 ?_
        refine lv_dup hx hb dX7_readParty_145 rfl ?_
        refine go_7_89 (ci := 2) (x := P.1 0) hx hb hts hown hK hE hP rfl rfl dX7_readParty_146 ?_
        refine lv_iconst (v := 1) hx hb dX7_readParty_149 (by decide) ?_
        refine lv_iadd hx hb dX7_readParty_150 ?_
        refine po_7_89 (ci := 2) (cs' := [cX7 cy adR (adK 0) (adP 0) R, cX9 cy adK K, cX6 cy adP (adL 0) (si (sr P 1 x2.toNatClampNeg x1) 0 ((P.1 0) + 1)), cX3 cy adL L]) hx hb hts hown hK hE hP hD hS rfl rfl dX7_readParty_151 (fun H locs hP hD hS => ?_)
        refine lv_iconst (v := 1) hx hb dX7_readParty_154 (by decide) ?_
        exact retZ (fr := fun q => q.1) (fw := fun q => wj [cX7 cy adR (adK 0) (adP 0) q.2.1, cX9 cy adK K, cX6 cy adP (adL 0) q.2.2, cX3 cy adL L]) h hx hb hr narZ1 hlocks hK hP hD hS dX7_readParty_155
      · replace h := (br h).2 c9
        refine lv_aload_n hx hb dX7_readParty_91 rfl (lv_at hl 0 rfl) ?_
        refine va_getsN hx hb (hE.1 0 (by decide)).1 hS hown (ef_7_96 hE) (fun _ h9 => h9) dX7_readParty_92 ?_
        refine lv_iload_n hx hb dX7_readParty_95 rfl (lv_at hl 3 rfl) ?_
        replace h := gin_inv h
        obtain ⟨h9, h⟩ := h
        refine va_ti (v := .int ((evC 0).getD x3.toNatClampNeg 0)) hx hb (hE.1 0 (by decide)).2 hS h9 rfl dX7_readParty_96 ?_
        refine va_getsN hx hb (hE.1 1 (by decide)).1 hS hown (ef_7_99 hE) (fun _ h9 => h9) dX7_readParty_97 ?_
        refine lv_iload_n hx hb dX7_readParty_100 rfl (lv_at hl 3 rfl) ?_
        replace h := gin_inv h
        obtain ⟨h9, h⟩ := h
        refine va_ti (v := .int ((evC 1).getD x3.toNatClampNeg 0)) hx hb (hE.1 1 (by decide)).2 hS h9 rfl dX7_readParty_101 ?_
        replace h := bd h
        obtain ⟨q8501, h8502, h⟩ := h
        refine callWVi (As := [.int ((evC 0).getD x3.toNatClampNeg 0), .int ((evC 1).getD x3.toNatClampNeg 0)]) (rest := []) (cs' := [cX7 cy adR (adK 0) (adP 0) q8501.2, cX9 cy adK K, cX6 cy adP (adL 0) P, cX3 cy adL L]) (isC := [0, 1]) (isR := [2, 3]) hx hb hml hown hts (k_X7_readNumber l G cy ev adR (adP 0) R adK K ((evC 0).getD x3.toNatClampNeg 0) ((evC 1).getD x3.toNatClampNeg 0) q8501 h8502) wm_17_15 wm_17_16 wm_17_17 wm_1_18 wm_17_18 hd_X7_readNumber ⟨by decide, by decide⟩ hK hP hD hS hA hE rfl rfl rfl (cov_of (n := 4) rfl (by decide)) (by decide) rfl (recvW (ci := 0) hK hP rfl cX7_o rfl) rfl rfl hl.1 (Nat.le_of_ble_eq_true rfl) dX7_readParty_102 (fun H locs hP hD hS => ?_)
        refine lv_if_ne (tgt := 110) hx hb dX7_readParty_105 (by decide) (fun c9 => ?_) (fun c9 => ?_)
        · replace h := (br h).2 c9
          refine lv_aload_n hx hb dX7_readParty_110 rfl (lv_at hl 0 rfl) ?_
          refine go_7_21 (ci := 0) hx hb hts hown hK hE hP rfl dX7_readParty_111 ?_
          refine go_7_106 (ci := 2) hx hb hts hown hK hE hP rfl dX7_readParty_114 ?_
          refine lv_iload_n hx hb dX7_readParty_117 rfl (lv_at hl 2 rfl) ?_
          replace h := gin_inv h
          obtain ⟨h9, h⟩ := h
          have hr8503 := vin_nat h9
          refine aldA (ci := 2) (k0 := 2) (j := x2.toNatClampNeg) hx hb hK hP rfl cX6_a2 h9 rfl dX7_readParty_118 ?_
          refine lv_iload_n hx hb dX7_readParty_119 rfl (lv_at hl 3 rfl) ?_
          refine lv_aload_n hx hb dX7_readParty_120 rfl (lv_at hl 0 rfl) ?_
          refine go_7_29 (ci := 0) (x := q8501.2.1 3) hx hb hts hown hK hE hP rfl rfl dX7_readParty_121 ?_
          replace h := gin_inv h
          obtain ⟨h9, h⟩ := h
          refine stWI (ci := 2) (k0 := 7 + x2.toNatClampNeg) (j := x3.toNatClampNeg) (cs' := [cX7 cy adR (adK 0) (adP 0) q8501.2, cX9 cy adK K, cX6 cy adP (adL 0) (sm P x2.toNatClampNeg x3.toNatClampNeg (q8501.2.1 3)), cX3 cy adL L]) hx hb hK hP hD hS rfl (cX6_row hr8503) h9 rfl (cX6_srow hr8503) rfl dX7_readParty_124 (fun H locs hP hD hS => ?_)
          refine lv_iinc (v := x3 + 1) (lv' := [(3, .int (x3 + 1)), (0, .ref (adR 0)), (1, .int x1), (2, .int x2)]) hx hb dX7_readParty_125 hl (k := 3) rfl rfl (by decide) rfl (fun ls hl => ?_)
          refine lv_goto (tgt := 85) hx hb dX7_readParty_128 (by decide) ?_
          replace h := itr_back h hy1
          exact ih1 (x3 + 1) q8501.2 (sm P x2.toNatClampNeg x3.toNatClampNeg (q8501.2.1 3)) _ _ _ h hP hD hS (lv_sub hl [1, 2, 3, 0] rfl)
        · replace h := (br h).1 c9
          replace h := itr_exit h hy1
          refine lv_iconst (v := 0) hx hb dX7_readParty_108 (by decide) ?_
          exact retZ (fr := fun q => q.1) (fw := fun q => wj [cX7 cy adR (adK 0) (adP 0) q.2.1, cX9 cy adK K, cX6 cy adP (adL 0) q.2.2, cX3 cy adL L]) h hx hb hr narZ0 hlocks hK hP hD hS dX7_readParty_109
  delta f_X7_readParty at h
  refine lv_aload_n hx hb dX7_readParty_0 rfl (lv_at hl 0 rfl) ?_
  refine go_7_21 (ci := 0) hx hb hts hown hK hE hP rfl dX7_readParty_1 ?_
  refine go_7_89 (ci := 2) (x := P.1 0) hx hb hts hown hK hE hP rfl rfl dX7_readParty_4 ?_
  refine lv_bipush (v := 8) hx hb dX7_readParty_7 (by decide) ?_
  refine lv_icmp_lt (tgt := 18) hx hb dX7_readParty_9 (by decide) (fun c9 => ?_) (fun c9 => ?_)
  · replace h := (br h).1 c9
    refine lv_aload_n hx hb dX7_readParty_18 rfl (lv_at hl 0 rfl) ?_
    refine lv_dup hx hb dX7_readParty_19 rfl ?_
    refine go_7_25 (ci := 0) (x := R.1 2) hx hb hts hown hK hE hP rfl rfl dX7_readParty_20 ?_
    refine lv_iconst (v := 1) hx hb dX7_readParty_23 (by decide) ?_
    refine lv_iadd hx hb dX7_readParty_24 ?_
    refine po_7_25 (ci := 0) (cs' := [cX7 cy adR (adK 0) (adP 0) (si R 2 ((R.1 2) + 1)), cX9 cy adK K, cX6 cy adP (adL 0) P, cX3 cy adL L]) hx hb hts hown hK hE hP hD hS rfl rfl dX7_readParty_25 (fun H locs hP hD hS => ?_)
    refine lv_aload_n hx hb dX7_readParty_28 rfl (lv_at hl 0 rfl) ?_
    replace h := bd h
    obtain ⟨q1, h2, h⟩ := h
    refine callWVi (As := []) (rest := []) (cs' := [cX7 cy adR (adK 0) (adP 0) (si R 2 ((R.1 2) + 1)), cX9 cy adK K, cX6 cy adP (adL 0) P, cX3 cy adL L]) (isC := [0, 1]) (isR := [2, 3]) hx hb hml hown hts (k_X7_kind l G cy ev adR (adP 0) (si R 2 ((R.1 2) + 1)) adK K q1 h2) wm_16_15 wm_16_16 wm_16_17 wm_1_18 wm_16_18 hd_X7_kind ⟨by decide, by decide⟩ hK hP hD hS hA hE rfl rfl rfl (cov_of (n := 4) rfl (by decide)) (by decide) rfl (recvW (ci := 0) hK hP rfl cX7_o rfl) rfl rfl hl.1 (Nat.le_of_ble_eq_true rfl) dX7_readParty_29 (fun H locs hP hD hS => ?_)
    refine lv_iconst (v := 3) hx hb dX7_readParty_32 (by decide) ?_
    refine lv_icmp_eq (tgt := 42) hx hb dX7_readParty_33 (by decide) (fun c9 => ?_) (fun c9 => ?_)
    · replace h := (br h).1 c9
      refine lv_aload_n hx hb dX7_readParty_42 rfl (lv_at hl 0 rfl) ?_
      replace h := bd h
      obtain ⟨q3, h4, h⟩ := h
      refine callWVi (As := []) (rest := []) (cs' := [cX7 cy adR (adK 0) (adP 0) (si R 2 ((R.1 2) + 1)), cX9 cy adK K, cX6 cy adP (adL 0) P, cX3 cy adL L]) (isC := [0, 1]) (isR := [2, 3]) hx hb hml hown hts (k_X7_value l G cy ev adR (adP 0) (si R 2 ((R.1 2) + 1)) adK K q3 h4) wm_17_7 wm_17_8 wm_17_9 wm_1_18 wm_17_10 hd_X7_value ⟨by decide, by decide⟩ hK hP hD hS hA hE rfl rfl rfl (cov_of (n := 4) rfl (by decide)) (by decide) rfl (recvW (ci := 0) hK hP rfl cX7_o rfl) rfl rfl hl.1 (Nat.le_of_ble_eq_true rfl) dX7_readParty_43 (fun H locs hP hD hS => ?_)
      refine lv_istore_n (lv' := [(1, .int q3), (0, .ref (adR 0))]) hx hb dX7_readParty_46 rfl hl (by decide) rfl (fun ls hl => ?_)
      refine lv_aload_n hx hb dX7_readParty_47 rfl (lv_at hl 1 rfl) ?_
      refine go_7_21 (ci := 0) hx hb hts hown hK hE hP rfl dX7_readParty_48 ?_
      refine lv_iload_n hx hb dX7_readParty_51 rfl (lv_at hl 0 rfl) ?_
      replace h := bd h
      obtain ⟨q5, h6, h⟩ := h
      refine callWVi (As := [.int q3]) (rest := []) (cs' := [cX7 cy adR (adK 0) (adP 0) (si R 2 ((R.1 2) + 1)), cX9 cy adK K, cX6 cy adP (adL 0) P, cX3 cy adL L]) (isC := [2]) (isR := [0, 1, 3]) hx hb hml hown hts (k_X6_numberOf l G cy ev N adP (adL 0) P q3 q5 h6) wm_17_11 wm_17_12 wm_17_13 wm_1_22 wm_17_14 hd_X6_numberOf ⟨by decide, by decide⟩ hK hP hD hS hA hE rfl rfl rfl (cov_of (n := 4) rfl (by decide)) (by decide) rfl (recvW (ci := 2) hK hP rfl cX6_o rfl) rfl rfl hl.1 (Nat.le_of_ble_eq_true rfl) dX7_readParty_52 (fun H locs hP hD hS => ?_)
      refine lv_iconst (v := (-1)) hx hb dX7_readParty_55 (by decide) ?_
      refine lv_icmp_eq (tgt := 65) hx hb dX7_readParty_56 (by decide) (fun c9 => ?_) (fun c9 => ?_)
      · replace h := (br h).1 c9
        refine lv_aload_n hx hb dX7_readParty_65 rfl (lv_at hl 1 rfl) ?_
        refine lv_dup hx hb dX7_readParty_66 rfl ?_
        refine go_7_25 (ci := 0) (x := (R.1 2) + 1) hx hb hts hown hK hE hP rfl rfl dX7_readParty_67 ?_
        refine lv_iconst (v := 1) hx hb dX7_readParty_70 (by decide) ?_
        refine lv_iadd hx hb dX7_readParty_71 ?_
        refine po_7_25 (ci := 0) (cs' := [cX7 cy adR (adK 0) (adP 0) (si (si R 2 ((R.1 2) + 1)) 2 (((R.1 2) + 1) + 1)), cX9 cy adK K, cX6 cy adP (adL 0) P, cX3 cy adL L]) hx hb hts hown hK hE hP hD hS rfl rfl dX7_readParty_72 (fun H locs hP hD hS => ?_)
        refine lv_aload_n hx hb dX7_readParty_75 rfl (lv_at hl 1 rfl) ?_
        refine go_7_21 (ci := 0) hx hb hts hown hK hE hP rfl dX7_readParty_76 ?_
        refine go_7_89 (ci := 2) (x := P.1 0) hx hb hts hown hK hE hP rfl rfl dX7_readParty_79 ?_
        refine lv_istore_n (lv' := [(2, .int (P.1 0)), (1, .int q3), (0, .ref (adR 0))]) hx hb dX7_readParty_82 rfl hl (by decide) rfl (fun ls hl => ?_)
        refine lv_iconst (v := 0) hx hb dX7_readParty_83 (by decide) ?_
        refine lv_istore_n (lv' := [(3, .int 0), (2, .int (P.1 0)), (1, .int q3), (0, .ref (adR 0))]) hx hb dX7_readParty_84 rfl hl (by decide) rfl (fun ls hl => ?_)
        exact L85 q3 (P.1 0) N 0 (si (si R 2 ((R.1 2) + 1)) 2 (((R.1 2) + 1) + 1)) P _ _ _ h hP hD hS (lv_sub hl [3, 2, 1, 0] rfl)
      · replace h := (br h).2 c9
        refine lv_aload_n hx hb dX7_readParty_59 rfl (lv_at hl 1 rfl) ?_
        refine lv_iconst (v := 3) hx hb dX7_readParty_60 (by decide) ?_
        replace h := bd h
        obtain ⟨q7, h8, h⟩ := h
        refine callWVi (As := [.int 3]) (rest := []) (cs' := [cX7 cy adR (adK 0) (adP 0) q7.2, cX9 cy adK K, cX6 cy adP (adL 0) P, cX3 cy adL L]) (isC := [0, 1]) (isR := [2, 3]) hx hb hml hown hts (k_X7_refuse l G cy ev adR (adP 0) (si R 2 ((R.1 2) + 1)) adK K 3 q7 h8) wm_17_3 wm_17_4 wm_17_5 wm_1_18 wm_17_6 hd_X7_refuse ⟨by decide, by decide⟩ hK hP hD hS hA hE rfl rfl rfl (cov_of (n := 4) rfl (by decide)) (by decide) rfl (recvW (ci := 0) hK hP rfl cX7_o rfl) rfl rfl hl.1 (Nat.le_of_ble_eq_true rfl) dX7_readParty_61 (fun H locs hP hD hS => ?_)
        replace h := gbz_inv h
        obtain ⟨h9, h⟩ := h
        exact retZ (fr := fun q => q.1) (fw := fun q => wj [cX7 cy adR (adK 0) (adP 0) q.2.1, cX9 cy adK K, cX6 cy adP (adL 0) q.2.2, cX3 cy adL L]) h hx hb hr (narZ h9).1 hlocks hK hP hD hS dX7_readParty_64
    · replace h := (br h).2 c9
      refine lv_aload_n hx hb dX7_readParty_36 rfl (lv_at hl 0 rfl) ?_
      refine lv_iconst (v := 1) hx hb dX7_readParty_37 (by decide) ?_
      replace h := bd h
      obtain ⟨q9, h10, h⟩ := h
      refine callWVi (As := [.int 1]) (rest := []) (cs' := [cX7 cy adR (adK 0) (adP 0) q9.2, cX9 cy adK K, cX6 cy adP (adL 0) P, cX3 cy adL L]) (isC := [0, 1]) (isR := [2, 3]) hx hb hml hown hts (k_X7_refuse l G cy ev adR (adP 0) (si R 2 ((R.1 2) + 1)) adK K 1 q9 h10) wm_17_3 wm_17_4 wm_17_5 wm_1_18 wm_17_6 hd_X7_refuse ⟨by decide, by decide⟩ hK hP hD hS hA hE rfl rfl rfl (cov_of (n := 4) rfl (by decide)) (by decide) rfl (recvW (ci := 0) hK hP rfl cX7_o rfl) rfl rfl hl.1 (Nat.le_of_ble_eq_true rfl) dX7_readParty_38 (fun H locs hP hD hS => ?_)
      replace h := gbz_inv h
      obtain ⟨h9, h⟩ := h
      exact retZ (fr := fun q => q.1) (fw := fun q => wj [cX7 cy adR (adK 0) (adP 0) q.2.1, cX9 cy adK K, cX6 cy adP (adL 0) q.2.2, cX3 cy adL L]) h hx hb hr (narZ h9).1 hlocks hK hP hD hS dX7_readParty_41
  · replace h := (br h).2 c9
    refine lv_aload_n hx hb dX7_readParty_12 rfl (lv_at hl 0 rfl) ?_
    refine lv_iconst (v := 2) hx hb dX7_readParty_13 (by decide) ?_
    replace h := bd h
    obtain ⟨q11, h12, h⟩ := h
    refine callWVi (As := [.int 2]) (rest := []) (cs' := [cX7 cy adR (adK 0) (adP 0) q11.2, cX9 cy adK K, cX6 cy adP (adL 0) P, cX3 cy adL L]) (isC := [0, 1]) (isR := [2, 3]) hx hb hml hown hts (k_X7_refuse l G cy ev adR (adP 0) R adK K 2 q11 h12) wm_17_3 wm_17_4 wm_17_5 wm_1_18 wm_17_6 hd_X7_refuse ⟨by decide, by decide⟩ hK hP hD hS hA hE rfl rfl rfl (cov_of (n := 4) rfl (by decide)) (by decide) rfl (recvW (ci := 0) hK hP rfl cX7_o rfl) rfl rfl hl.1 (Nat.le_of_ble_eq_true rfl) dX7_readParty_14 (fun H locs hP hD hS => ?_)
    replace h := gbz_inv h
    obtain ⟨h9, h⟩ := h
    exact retZ (fr := fun q => q.1) (fw := fun q => wj [cX7 cy adR (adK 0) (adP 0) q.2.1, cX9 cy adK K, cX6 cy adP (adL 0) q.2.2, cX3 cy adL L]) h hx hb hr (narZ h9).1 hlocks hK hP hD hS dX7_readParty_17
theorem hds_X7_readSitting : yX7_readSitting.cls ≠ "java/lang/invoke/MethodHandle" ∧ yX7_readSitting.cls ≠ "java/lang/invoke/VarHandle" ∧ (parseMethodDescriptor yX7_readSitting.desc).map (fun d => d.parameters.length) = some 0 := ⟨by decide +kernel, by decide +kernel, by decide +kernel⟩
theorem hd_X7_readSitting : yX7_readSitting.cls = RX7 ∧ yX7_readSitting.cls ≠ "java/lang/invoke/MethodHandle" ∧ yX7_readSitting.cls ≠ "java/lang/invoke/VarHandle" ∧ (parseMethodDescriptor yX7_readSitting.desc).map (fun d => d.parameters.length) = some 0 := ⟨rfl, hds_X7_readSitting⟩
def f_X7_readSitting_b50 (R : VV) (K : VV) (P : VV) (L : VV) (x1 : Int32) (z0 : Int32) : Option (Int32 × VV × VV) :=
  bnd (f_X7_readNumber R K z0 999) (fun q5001 => if q5001.1 = 0 then some (0, q5001.2, P) else gin x1 3 (bnd (f_X7_readNumber q5001.2 K 0 99) (fun q5003 => if q5003.1 = 0 then some (0, q5003.2, sr P 4 x1.toNatClampNeg (q5001.2.1 3)) else gin x1 3 (some (1, q5003.2, si (sr (sr P 4 x1.toNatClampNeg (q5001.2.1 3)) 5 x1.toNatClampNeg (q5003.2.1 3)) 3 ((P.1 3) + 1))))))
def f_X7_readSitting (R : VV) (K : VV) (P : VV) (L : VV) : Option (Int32 × VV × VV) :=
  if P.1 3 < 3 then if P.1 3 ≤ 0 then f_X7_readSitting_b50 (si R 2 ((R.1 2) + 1)) K P L (P.1 3) 0 else gin ((P.1 3) - 1) 3 (f_X7_readSitting_b50 (si R 2 ((R.1 2) + 1)) K P L (P.1 3) ((P.2.1 4 (((P.1 3) - 1).toNatClampNeg)) + 1)) else bnd (f_X7_refuse R K 2) (fun q1 => gbz q1.1 (some (q1.1, q1.2, P)))
set_option maxHeartbeats 4000000 in
set_option maxRecDepth 100000 in
theorem k_X7_readSitting (l : Launch) (G : va_G) (cy : Nat → ClassId) (ev : Nat → Nat) (adR : Nat → Nat) (R : VV) (adK : Nat → Nat) (K : VV) (adP : Nat → Nat) (P : VV) (adL : Nat → Nat) (L : VV)  (res : Int32 × VV × VV) (h : f_X7_readSitting R K P L = some res) : MetI l yX7_readSitting cX7_readSitting 3 (some .boolean) 2 43 G cy ev [.ref (adR 0)] (wj [cX7 cy adR (adK 0) (adP 0) R, cX9 cy adK K, cX6 cy adP (adL 0) P, cX3 cy adL L]) res.1 (wj [cX7 cy adR (adK 0) (adP 0) res.2.1, cX9 cy adK K, cX6 cy adP (adL 0) res.2.2, cX3 cy adL L]) := by
  refine MetQ.start (by decide +kernel) (Nat.le_of_ble_eq_true rfl) (fun p e s m args below meth c A ls hx hb hr hml hown hts hlocks hK hP hD hA hl hE => ?_)
  have hS : va_S A s.heap s.heap [] := va_S.rf
  have hown : s.vm.findClass RX7 = some m.cls := hown
  have hl : lv_has ls 3 [(0, .ref (adR 0))] := hl
  have B50 : ∀ (x1 : Int32) (z0 : Int32) (R : VV) (P : VV) (H : Heap) (locs : List Loc) (ls : Array Slot), f_X7_readSitting_b50 R K P L x1 z0 = some res → va_P G vwCl (wj [cX7 cy adR (adK 0) (adP 0) R, cX9 cy adK K, cX6 cy adP (adL 0) P, cX3 cy adL L]) H → va_D A (wj [cX7 cy adR (adK 0) (adP 0) R, cX9 cy adK K, cX6 cy adP (adL 0) P, cX3 cy adL L]) → va_S A s.heap H locs → lv_has ls 3 [(0, .ref (adR 0)), (1, .int x1)] → W p l e (rmX 2 43) s m args below meth c H locs 0 0 (MQ below (mQi (res.1) G cy A (wj [cX7 cy adR (adK 0) (adP 0) res.2.1, cX9 cy adK K, cX6 cy adP (adL 0) res.2.2, cX3 cy adL L])) args s 0 0 A) (F0 m 50 ls [.int z0]) := by
    intro x1 z0 R P H locs ls h hP hD hS hl
    delta f_X7_readSitting_b50 at h
    refine lv_istore_n (lv' := [(2, .int z0), (0, .ref (adR 0)), (1, .int x1)]) hx hb dX7_readSitting_50 rfl hl (by decide) rfl (fun ls hl => ?_)
    refine lv_aload_n hx hb dX7_readSitting_51 rfl (lv_at hl 1 rfl) ?_
    refine lv_iload_n hx hb dX7_readSitting_52 rfl (lv_at hl 0 rfl) ?_
    refine lv_sipush (v := 999) hx hb dX7_readSitting_53 (by decide) ?_
    replace h := bd h
    obtain ⟨q5001, h5002, h⟩ := h
    refine callWVi (As := [.int z0, .int 999]) (rest := []) (cs' := [cX7 cy adR (adK 0) (adP 0) q5001.2, cX9 cy adK K, cX6 cy adP (adL 0) P, cX3 cy adL L]) (isC := [0, 1]) (isR := [2, 3]) hx hb hml hown hts (k_X7_readNumber l G cy ev adR (adP 0) R adK K z0 999 q5001 h5002) wm_17_15 wm_17_16 wm_17_17 wm_1_18 wm_17_18 hd_X7_readNumber ⟨by decide, by decide⟩ hK hP hD hS hA hE rfl rfl rfl (cov_of (n := 4) rfl (by decide)) (by decide) rfl (recvW (ci := 0) hK hP rfl cX7_o rfl) rfl rfl hl.1 (Nat.le_of_ble_eq_true rfl) dX7_readSitting_56 (fun H locs hP hD hS => ?_)
    refine lv_if_ne (tgt := 64) hx hb dX7_readSitting_59 (by decide) (fun c9 => ?_) (fun c9 => ?_)
    · replace h := (br h).2 c9
      refine lv_aload_n hx hb dX7_readSitting_64 rfl (lv_at hl 1 rfl) ?_
      refine go_7_21 (ci := 0) hx hb hts hown hK hE hP rfl dX7_readSitting_65 ?_
      refine go_7_116 (ci := 2) hx hb hts hown hK hE hP rfl dX7_readSitting_68 ?_
      refine lv_iload_n hx hb dX7_readSitting_71 rfl (lv_at hl 2 rfl) ?_
      refine lv_aload_n hx hb dX7_readSitting_72 rfl (lv_at hl 1 rfl) ?_
      refine go_7_29 (ci := 0) (x := q5001.2.1 3) hx hb hts hown hK hE hP rfl rfl dX7_readSitting_73 ?_
      replace h := gin_inv h
      obtain ⟨h9, h⟩ := h
      refine stWI (ci := 2) (k0 := 3) (j := x1.toNatClampNeg) (cs' := [cX7 cy adR (adK 0) (adP 0) q5001.2, cX9 cy adK K, cX6 cy adP (adL 0) (sr P 4 x1.toNatClampNeg (q5001.2.1 3)), cX3 cy adL L]) hx hb hK hP hD hS rfl cX6_a4 h9 rfl cX6_s4 rfl dX7_readSitting_76 (fun H locs hP hD hS => ?_)
      refine lv_aload_n hx hb dX7_readSitting_77 rfl (lv_at hl 1 rfl) ?_
      refine lv_iconst (v := 0) hx hb dX7_readSitting_78 (by decide) ?_
      refine lv_bipush (v := 99) hx hb dX7_readSitting_79 (by decide) ?_
      replace h := bd h
      obtain ⟨q5003, h5004, h⟩ := h
      refine callWVi (As := [.int 0, .int 99]) (rest := []) (cs' := [cX7 cy adR (adK 0) (adP 0) q5003.2, cX9 cy adK K, cX6 cy adP (adL 0) (sr P 4 x1.toNatClampNeg (q5001.2.1 3)), cX3 cy adL L]) (isC := [0, 1]) (isR := [2, 3]) hx hb hml hown hts (k_X7_readNumber l G cy ev adR (adP 0) q5001.2 adK K 0 99 q5003 h5004) wm_17_15 wm_17_16 wm_17_17 wm_1_18 wm_17_18 hd_X7_readNumber ⟨by decide, by decide⟩ hK hP hD hS hA hE rfl rfl rfl (cov_of (n := 4) rfl (by decide)) (by decide) rfl (recvW (ci := 0) hK hP rfl cX7_o rfl) rfl rfl hl.1 (Nat.le_of_ble_eq_true rfl) dX7_readSitting_81 (fun H locs hP hD hS => ?_)
      refine lv_if_ne (tgt := 89) hx hb dX7_readSitting_84 (by decide) (fun c9 => ?_) (fun c9 => ?_)
      · replace h := (br h).2 c9
        refine lv_aload_n hx hb dX7_readSitting_89 rfl (lv_at hl 1 rfl) ?_
        refine go_7_21 (ci := 0) hx hb hts hown hK hE hP rfl dX7_readSitting_90 ?_
        refine go_7_119 (ci := 2) hx hb hts hown hK hE hP rfl dX7_readSitting_93 ?_
        refine lv_iload_n hx hb dX7_readSitting_96 rfl (lv_at hl 2 rfl) ?_
        refine lv_aload_n hx hb dX7_readSitting_97 rfl (lv_at hl 1 rfl) ?_
        refine go_7_29 (ci := 0) (x := q5003.2.1 3) hx hb hts hown hK hE hP rfl rfl dX7_readSitting_98 ?_
        replace h := gin_inv h
        obtain ⟨h9, h⟩ := h
        refine stWI (ci := 2) (k0 := 4) (j := x1.toNatClampNeg) (cs' := [cX7 cy adR (adK 0) (adP 0) q5003.2, cX9 cy adK K, cX6 cy adP (adL 0) (sr (sr P 4 x1.toNatClampNeg (q5001.2.1 3)) 5 x1.toNatClampNeg (q5003.2.1 3)), cX3 cy adL L]) hx hb hK hP hD hS rfl cX6_a5 h9 rfl cX6_s5 rfl dX7_readSitting_101 (fun H locs hP hD hS => ?_)
        refine lv_aload_n hx hb dX7_readSitting_102 rfl (lv_at hl 1 rfl) ?_
        refine go_7_21 (ci := 0) hx hb hts hown hK hE hP rfl dX7_readSitting_103 ?_
        refine lv_dup hx hb dX7_readSitting_106 rfl ?_
        refine go_7_113 (ci := 2) (x := P.1 3) hx hb hts hown hK hE hP rfl rfl dX7_readSitting_107 ?_
        refine lv_iconst (v := 1) hx hb dX7_readSitting_110 (by decide) ?_
        refine lv_iadd hx hb dX7_readSitting_111 ?_
        refine po_7_113 (ci := 2) (cs' := [cX7 cy adR (adK 0) (adP 0) q5003.2, cX9 cy adK K, cX6 cy adP (adL 0) (si (sr (sr P 4 x1.toNatClampNeg (q5001.2.1 3)) 5 x1.toNatClampNeg (q5003.2.1 3)) 3 ((P.1 3) + 1)), cX3 cy adL L]) hx hb hts hown hK hE hP hD hS rfl rfl dX7_readSitting_112 (fun H locs hP hD hS => ?_)
        refine lv_iconst (v := 1) hx hb dX7_readSitting_115 (by decide) ?_
        exact retZ (fr := fun q => q.1) (fw := fun q => wj [cX7 cy adR (adK 0) (adP 0) q.2.1, cX9 cy adK K, cX6 cy adP (adL 0) q.2.2, cX3 cy adL L]) h hx hb hr narZ1 hlocks hK hP hD hS dX7_readSitting_116
      · replace h := (br h).1 c9
        refine lv_iconst (v := 0) hx hb dX7_readSitting_87 (by decide) ?_
        exact retZ (fr := fun q => q.1) (fw := fun q => wj [cX7 cy adR (adK 0) (adP 0) q.2.1, cX9 cy adK K, cX6 cy adP (adL 0) q.2.2, cX3 cy adL L]) h hx hb hr narZ0 hlocks hK hP hD hS dX7_readSitting_88
    · replace h := (br h).1 c9
      refine lv_iconst (v := 0) hx hb dX7_readSitting_62 (by decide) ?_
      exact retZ (fr := fun q => q.1) (fw := fun q => wj [cX7 cy adR (adK 0) (adP 0) q.2.1, cX9 cy adK K, cX6 cy adP (adL 0) q.2.2, cX3 cy adL L]) h hx hb hr narZ0 hlocks hK hP hD hS dX7_readSitting_63
  delta f_X7_readSitting at h
  refine lv_aload_n hx hb dX7_readSitting_0 rfl (lv_at hl 0 rfl) ?_
  refine go_7_21 (ci := 0) hx hb hts hown hK hE hP rfl dX7_readSitting_1 ?_
  refine go_7_113 (ci := 2) (x := P.1 3) hx hb hts hown hK hE hP rfl rfl dX7_readSitting_4 ?_
  refine lv_istore_n (lv' := [(1, .int (P.1 3)), (0, .ref (adR 0))]) hx hb dX7_readSitting_7 rfl hl (by decide) rfl (fun ls hl => ?_)
  refine lv_iload_n hx hb dX7_readSitting_8 rfl (lv_at hl 0 rfl) ?_
  refine lv_iconst (v := 3) hx hb dX7_readSitting_9 (by decide) ?_
  refine lv_icmp_lt (tgt := 19) hx hb dX7_readSitting_10 (by decide) (fun c9 => ?_) (fun c9 => ?_)
  · replace h := (br h).1 c9
    refine lv_aload_n hx hb dX7_readSitting_19 rfl (lv_at hl 1 rfl) ?_
    refine lv_dup hx hb dX7_readSitting_20 rfl ?_
    refine go_7_25 (ci := 0) (x := R.1 2) hx hb hts hown hK hE hP rfl rfl dX7_readSitting_21 ?_
    refine lv_iconst (v := 1) hx hb dX7_readSitting_24 (by decide) ?_
    refine lv_iadd hx hb dX7_readSitting_25 ?_
    refine po_7_25 (ci := 0) (cs' := [cX7 cy adR (adK 0) (adP 0) (si R 2 ((R.1 2) + 1)), cX9 cy adK K, cX6 cy adP (adL 0) P, cX3 cy adL L]) hx hb hts hown hK hE hP hD hS rfl rfl dX7_readSitting_26 (fun H locs hP hD hS => ?_)
    refine lv_iload_n hx hb dX7_readSitting_29 rfl (lv_at hl 0 rfl) ?_
    refine lv_if_le (tgt := 49) hx hb dX7_readSitting_30 (by decide) (fun c9 => ?_) (fun c9 => ?_)
    · replace h := (br h).1 c9
      refine lv_iconst (v := 0) hx hb dX7_readSitting_49 (by decide) ?_
      exact B50 (P.1 3) 0 (si R 2 ((R.1 2) + 1)) P _ _ _ h hP hD hS (lv_sub hl [1, 0] rfl)
    · replace h := (br h).2 c9
      refine lv_aload_n hx hb dX7_readSitting_33 rfl (lv_at hl 1 rfl) ?_
      refine go_7_21 (ci := 0) hx hb hts hown hK hE hP rfl dX7_readSitting_34 ?_
      refine go_7_116 (ci := 2) hx hb hts hown hK hE hP rfl dX7_readSitting_37 ?_
      refine lv_iload_n hx hb dX7_readSitting_40 rfl (lv_at hl 0 rfl) ?_
      refine lv_iconst (v := 1) hx hb dX7_readSitting_41 (by decide) ?_
      refine lv_isub hx hb dX7_readSitting_42 ?_
      replace h := gin_inv h
      obtain ⟨h9, h⟩ := h
      refine ldWI (ci := 2) (k0 := 3) (g := P.2.1 4) (j := ((P.1 3) - 1).toNatClampNeg) hx hb hK hP rfl cX6_a4 rfl h9 rfl dX7_readSitting_43 ?_
      refine lv_iconst (v := 1) hx hb dX7_readSitting_44 (by decide) ?_
      refine lv_iadd hx hb dX7_readSitting_45 ?_
      refine lv_goto (tgt := 50) hx hb dX7_readSitting_46 (by decide) ?_
      exact B50 (P.1 3) ((P.2.1 4 (((P.1 3) - 1).toNatClampNeg)) + 1) (si R 2 ((R.1 2) + 1)) P _ _ _ h hP hD hS (lv_sub hl [1, 0] rfl)
  · replace h := (br h).2 c9
    refine lv_aload_n hx hb dX7_readSitting_13 rfl (lv_at hl 1 rfl) ?_
    refine lv_iconst (v := 2) hx hb dX7_readSitting_14 (by decide) ?_
    replace h := bd h
    obtain ⟨q1, h2, h⟩ := h
    refine callWVi (As := [.int 2]) (rest := []) (cs' := [cX7 cy adR (adK 0) (adP 0) q1.2, cX9 cy adK K, cX6 cy adP (adL 0) P, cX3 cy adL L]) (isC := [0, 1]) (isR := [2, 3]) hx hb hml hown hts (k_X7_refuse l G cy ev adR (adP 0) R adK K 2 q1 h2) wm_17_3 wm_17_4 wm_17_5 wm_1_18 wm_17_6 hd_X7_refuse ⟨by decide, by decide⟩ hK hP hD hS hA hE rfl rfl rfl (cov_of (n := 4) rfl (by decide)) (by decide) rfl (recvW (ci := 0) hK hP rfl cX7_o rfl) rfl rfl hl.1 (Nat.le_of_ble_eq_true rfl) dX7_readSitting_15 (fun H locs hP hD hS => ?_)
    replace h := gbz_inv h
    obtain ⟨h9, h⟩ := h
    exact retZ (fr := fun q => q.1) (fw := fun q => wj [cX7 cy adR (adK 0) (adP 0) q.2.1, cX9 cy adK K, cX6 cy adP (adL 0) q.2.2, cX3 cy adL L]) h hx hb hr (narZ h9).1 hlocks hK hP hD hS dX7_readSitting_18
theorem hds_X7_readSetting : yX7_readSetting.cls ≠ "java/lang/invoke/MethodHandle" ∧ yX7_readSetting.cls ≠ "java/lang/invoke/VarHandle" ∧ (parseMethodDescriptor yX7_readSetting.desc).map (fun d => d.parameters.length) = some 1 := ⟨by decide +kernel, by decide +kernel, by decide +kernel⟩
theorem hd_X7_readSetting : yX7_readSetting.cls = RX7 ∧ yX7_readSetting.cls ≠ "java/lang/invoke/MethodHandle" ∧ yX7_readSetting.cls ≠ "java/lang/invoke/VarHandle" ∧ (parseMethodDescriptor yX7_readSetting.desc).map (fun d => d.parameters.length) = some 1 := ⟨rfl, hds_X7_readSetting⟩
def f_X7_readSetting_b10 (R : VV) (K : VV) (P : VV) (L : VV)  : Option (Int32 × VV × VV) :=
  bnd (f_X7_refuse R K 1) (fun q1001 => gbz q1001.1 (some (q1001.1, q1001.2, P)))
def f_X7_readSetting (R : VV) (K : VV) (P : VV) (L : VV) (a1 : Int32) : Option (Int32 × VV × VV) :=
  if a1 < 0 then f_X7_readSetting_b10 R K P L else if a1 < 6 then gin a1 6 (if P.2.1 7 a1.toNatClampNeg = 0 then gin a1 6 (gin a1 6 (bnd (f_X7_readNumber (si R 2 ((R.1 2) + 1)) K ((evC 2).getD a1.toNatClampNeg 0) ((evC 3).getD a1.toNatClampNeg 0)) (fun q1 => if q1.1 = 0 then some (0, q1.2, P) else gin a1 6 (gin a1 6 (some (1, q1.2, sr (sr P 7 a1.toNatClampNeg 1) 6 a1.toNatClampNeg (q1.2.1 3))))))) else bnd (f_X7_refuse R K 3) (fun q3 => gbz q3.1 (some (q3.1, q3.2, P)))) else f_X7_readSetting_b10 R K P L
set_option maxHeartbeats 4000000 in
set_option maxRecDepth 100000 in
theorem k_X7_readSetting (l : Launch) (G : va_G) (cy : Nat → ClassId) (ev : Nat → Nat) (adR : Nat → Nat) (R : VV) (adK : Nat → Nat) (K : VV) (adP : Nat → Nat) (P : VV) (adL : Nat → Nat) (L : VV) (a1 : Int32) (res : Int32 × VV × VV) (h : f_X7_readSetting R K P L a1 = some res) : MetI l yX7_readSetting cX7_readSetting 2 (some .boolean) 2 43 G cy ev [.ref (adR 0), .int a1] (wj [cX7 cy adR (adK 0) (adP 0) R, cX9 cy adK K, cX6 cy adP (adL 0) P, cX3 cy adL L]) res.1 (wj [cX7 cy adR (adK 0) (adP 0) res.2.1, cX9 cy adK K, cX6 cy adP (adL 0) res.2.2, cX3 cy adL L]) := by
  refine MetQ.start (by decide +kernel) (Nat.le_of_ble_eq_true rfl) (fun p e s m args below meth c A ls hx hb hr hml hown hts hlocks hK hP hD hA hl hE => ?_)
  have hS : va_S A s.heap s.heap [] := va_S.rf
  have hown : s.vm.findClass RX7 = some m.cls := hown
  have hl : lv_has ls 2 [(0, .ref (adR 0)), (1, .int a1)] := hl
  have B10 : ∀ (R : VV) (P : VV) (H : Heap) (locs : List Loc) (ls : Array Slot), f_X7_readSetting_b10 R K P L = some res → va_P G vwCl (wj [cX7 cy adR (adK 0) (adP 0) R, cX9 cy adK K, cX6 cy adP (adL 0) P, cX3 cy adL L]) H → va_D A (wj [cX7 cy adR (adK 0) (adP 0) R, cX9 cy adK K, cX6 cy adP (adL 0) P, cX3 cy adL L]) → va_S A s.heap H locs → lv_has ls 2 [(0, .ref (adR 0))] → W p l e (rmX 2 43) s m args below meth c H locs 0 0 (MQ below (mQi (res.1) G cy A (wj [cX7 cy adR (adK 0) (adP 0) res.2.1, cX9 cy adK K, cX6 cy adP (adL 0) res.2.2, cX3 cy adL L])) args s 0 0 A) (F0 m 10 ls []) := by
    intro R P H locs ls h hP hD hS hl
    delta f_X7_readSetting_b10 at h
    refine lv_aload_n hx hb dX7_readSetting_10 rfl (lv_at hl 0 rfl) ?_
    refine lv_iconst (v := 1) hx hb dX7_readSetting_11 (by decide) ?_
    replace h := bd h
    obtain ⟨q1001, h1002, h⟩ := h
    refine callWVi (As := [.int 1]) (rest := []) (cs' := [cX7 cy adR (adK 0) (adP 0) q1001.2, cX9 cy adK K, cX6 cy adP (adL 0) P, cX3 cy adL L]) (isC := [0, 1]) (isR := [2, 3]) hx hb hml hown hts (k_X7_refuse l G cy ev adR (adP 0) R adK K 1 q1001 h1002) wm_17_3 wm_17_4 wm_17_5 wm_1_18 wm_17_6 hd_X7_refuse ⟨by decide, by decide⟩ hK hP hD hS hA hE rfl rfl rfl (cov_of (n := 4) rfl (by decide)) (by decide) rfl (recvW (ci := 0) hK hP rfl cX7_o rfl) rfl rfl hl.1 (Nat.le_of_ble_eq_true rfl) dX7_readSetting_12 (fun H locs hP hD hS => ?_)
    replace h := gbz_inv h
    obtain ⟨h9, h⟩ := h
    exact retZ (fr := fun q => q.1) (fw := fun q => wj [cX7 cy adR (adK 0) (adP 0) q.2.1, cX9 cy adK K, cX6 cy adP (adL 0) q.2.2, cX3 cy adL L]) h hx hb hr (narZ h9).1 hlocks hK hP hD hS dX7_readSetting_15
  delta f_X7_readSetting at h
  refine lv_iload_n hx hb dX7_readSetting_0 rfl (lv_at hl 1 rfl) ?_
  refine lv_if_lt (tgt := 10) hx hb dX7_readSetting_1 (by decide) (fun c9 => ?_) (fun c9 => ?_)
  · replace h := (br h).1 c9
    exact B10 R P _ _ _ h hP hD hS (lv_sub hl [0] rfl)
  · replace h := (br h).2 c9
    refine lv_iload_n hx hb dX7_readSetting_4 rfl (lv_at hl 1 rfl) ?_
    refine lv_bipush (v := 6) hx hb dX7_readSetting_5 (by decide) ?_
    refine lv_icmp_lt (tgt := 16) hx hb dX7_readSetting_7 (by decide) (fun c9 => ?_) (fun c9 => ?_)
    · replace h := (br h).1 c9
      refine lv_aload_n hx hb dX7_readSetting_16 rfl (lv_at hl 0 rfl) ?_
      refine go_7_21 (ci := 0) hx hb hts hown hK hE hP rfl dX7_readSetting_17 ?_
      refine go_7_122 (ci := 2) hx hb hts hown hK hE hP rfl dX7_readSetting_20 ?_
      refine lv_iload_n hx hb dX7_readSetting_23 rfl (lv_at hl 1 rfl) ?_
      replace h := gin_inv h
      obtain ⟨h9, h⟩ := h
      refine ldWZ (ci := 2) (k0 := 6) (g := P.2.1 7) (j := a1.toNatClampNeg) hx hb hK hP rfl cX6_a7 rfl h9 rfl dX7_readSetting_24 ?_
      refine lv_if_eq (tgt := 34) hx hb dX7_readSetting_25 (by decide) (fun c9 => ?_) (fun c9 => ?_)
      · replace h := (br h).1 c9
        refine lv_aload_n hx hb dX7_readSetting_34 rfl (lv_at hl 0 rfl) ?_
        refine lv_dup hx hb dX7_readSetting_35 rfl ?_
        refine go_7_25 (ci := 0) (x := R.1 2) hx hb hts hown hK hE hP rfl rfl dX7_readSetting_36 ?_
        refine lv_iconst (v := 1) hx hb dX7_readSetting_39 (by decide) ?_
        refine lv_iadd hx hb dX7_readSetting_40 ?_
        refine po_7_25 (ci := 0) (cs' := [cX7 cy adR (adK 0) (adP 0) (si R 2 ((R.1 2) + 1)), cX9 cy adK K, cX6 cy adP (adL 0) P, cX3 cy adL L]) hx hb hts hown hK hE hP hD hS rfl rfl dX7_readSetting_41 (fun H locs hP hD hS => ?_)
        refine lv_aload_n hx hb dX7_readSetting_44 rfl (lv_at hl 0 rfl) ?_
        refine va_getsN hx hb (hE.1 2 (by decide)).1 hS hown (ef_7_126 hE) (fun _ h9 => h9) dX7_readSetting_45 ?_
        refine lv_iload_n hx hb dX7_readSetting_48 rfl (lv_at hl 1 rfl) ?_
        replace h := gin_inv h
        obtain ⟨h9, h⟩ := h
        refine va_ti (v := .int ((evC 2).getD a1.toNatClampNeg 0)) hx hb (hE.1 2 (by decide)).2 hS h9 rfl dX7_readSetting_49 ?_
        refine va_getsN hx hb (hE.1 3 (by decide)).1 hS hown (ef_7_129 hE) (fun _ h9 => h9) dX7_readSetting_50 ?_
        refine lv_iload_n hx hb dX7_readSetting_53 rfl (lv_at hl 1 rfl) ?_
        replace h := gin_inv h
        obtain ⟨h9, h⟩ := h
        refine va_ti (v := .int ((evC 3).getD a1.toNatClampNeg 0)) hx hb (hE.1 3 (by decide)).2 hS h9 rfl dX7_readSetting_54 ?_
        replace h := bd h
        obtain ⟨q1, h2, h⟩ := h
        refine callWVi (As := [.int ((evC 2).getD a1.toNatClampNeg 0), .int ((evC 3).getD a1.toNatClampNeg 0)]) (rest := []) (cs' := [cX7 cy adR (adK 0) (adP 0) q1.2, cX9 cy adK K, cX6 cy adP (adL 0) P, cX3 cy adL L]) (isC := [0, 1]) (isR := [2, 3]) hx hb hml hown hts (k_X7_readNumber l G cy ev adR (adP 0) (si R 2 ((R.1 2) + 1)) adK K ((evC 2).getD a1.toNatClampNeg 0) ((evC 3).getD a1.toNatClampNeg 0) q1 h2) wm_17_15 wm_17_16 wm_17_17 wm_1_18 wm_17_18 hd_X7_readNumber ⟨by decide, by decide⟩ hK hP hD hS hA hE rfl rfl rfl (cov_of (n := 4) rfl (by decide)) (by decide) rfl (recvW (ci := 0) hK hP rfl cX7_o rfl) rfl rfl hl.1 (Nat.le_of_ble_eq_true rfl) dX7_readSetting_55 (fun H locs hP hD hS => ?_)
        refine lv_if_ne (tgt := 63) hx hb dX7_readSetting_58 (by decide) (fun c9 => ?_) (fun c9 => ?_)
        · replace h := (br h).2 c9
          refine lv_aload_n hx hb dX7_readSetting_63 rfl (lv_at hl 0 rfl) ?_
          refine go_7_21 (ci := 0) hx hb hts hown hK hE hP rfl dX7_readSetting_64 ?_
          refine go_7_122 (ci := 2) hx hb hts hown hK hE hP rfl dX7_readSetting_67 ?_
          refine lv_iload_n hx hb dX7_readSetting_70 rfl (lv_at hl 1 rfl) ?_
          refine lv_iconst (v := 1) hx hb dX7_readSetting_71 (by decide) ?_
          replace h := gin_inv h
          obtain ⟨h9, h⟩ := h
          refine stWZ (ci := 2) (k0 := 6) (j := a1.toNatClampNeg) (cs' := [cX7 cy adR (adK 0) (adP 0) q1.2, cX9 cy adK K, cX6 cy adP (adL 0) (sr P 7 a1.toNatClampNeg 1), cX3 cy adL L]) hx hb hK hP hD hS rfl cX6_a7 h9 (by decide) rfl cX6_s7 rfl dX7_readSetting_72 (fun H locs hP hD hS => ?_)
          refine lv_aload_n hx hb dX7_readSetting_73 rfl (lv_at hl 0 rfl) ?_
          refine go_7_21 (ci := 0) hx hb hts hown hK hE hP rfl dX7_readSetting_74 ?_
          refine go_7_132 (ci := 2) hx hb hts hown hK hE hP rfl dX7_readSetting_77 ?_
          refine lv_iload_n hx hb dX7_readSetting_80 rfl (lv_at hl 1 rfl) ?_
          refine lv_aload_n hx hb dX7_readSetting_81 rfl (lv_at hl 0 rfl) ?_
          refine go_7_29 (ci := 0) (x := q1.2.1 3) hx hb hts hown hK hE hP rfl rfl dX7_readSetting_82 ?_
          replace h := gin_inv h
          obtain ⟨h9, h⟩ := h
          refine stWI (ci := 2) (k0 := 5) (j := a1.toNatClampNeg) (cs' := [cX7 cy adR (adK 0) (adP 0) q1.2, cX9 cy adK K, cX6 cy adP (adL 0) (sr (sr P 7 a1.toNatClampNeg 1) 6 a1.toNatClampNeg (q1.2.1 3)), cX3 cy adL L]) hx hb hK hP hD hS rfl cX6_a6 h9 rfl cX6_s6 rfl dX7_readSetting_85 (fun H locs hP hD hS => ?_)
          refine lv_iconst (v := 1) hx hb dX7_readSetting_86 (by decide) ?_
          exact retZ (fr := fun q => q.1) (fw := fun q => wj [cX7 cy adR (adK 0) (adP 0) q.2.1, cX9 cy adK K, cX6 cy adP (adL 0) q.2.2, cX3 cy adL L]) h hx hb hr narZ1 hlocks hK hP hD hS dX7_readSetting_87
        · replace h := (br h).1 c9
          refine lv_iconst (v := 0) hx hb dX7_readSetting_61 (by decide) ?_
          exact retZ (fr := fun q => q.1) (fw := fun q => wj [cX7 cy adR (adK 0) (adP 0) q.2.1, cX9 cy adK K, cX6 cy adP (adL 0) q.2.2, cX3 cy adL L]) h hx hb hr narZ0 hlocks hK hP hD hS dX7_readSetting_62
      · replace h := (br h).2 c9
        refine lv_aload_n hx hb dX7_readSetting_28 rfl (lv_at hl 0 rfl) ?_
        refine lv_iconst (v := 3) hx hb dX7_readSetting_29 (by decide) ?_
        replace h := bd h
        obtain ⟨q3, h4, h⟩ := h
        refine callWVi (As := [.int 3]) (rest := []) (cs' := [cX7 cy adR (adK 0) (adP 0) q3.2, cX9 cy adK K, cX6 cy adP (adL 0) P, cX3 cy adL L]) (isC := [0, 1]) (isR := [2, 3]) hx hb hml hown hts (k_X7_refuse l G cy ev adR (adP 0) R adK K 3 q3 h4) wm_17_3 wm_17_4 wm_17_5 wm_1_18 wm_17_6 hd_X7_refuse ⟨by decide, by decide⟩ hK hP hD hS hA hE rfl rfl rfl (cov_of (n := 4) rfl (by decide)) (by decide) rfl (recvW (ci := 0) hK hP rfl cX7_o rfl) rfl rfl hl.1 (Nat.le_of_ble_eq_true rfl) dX7_readSetting_30 (fun H locs hP hD hS => ?_)
        replace h := gbz_inv h
        obtain ⟨h9, h⟩ := h
        exact retZ (fr := fun q => q.1) (fw := fun q => wj [cX7 cy adR (adK 0) (adP 0) q.2.1, cX9 cy adK K, cX6 cy adP (adL 0) q.2.2, cX3 cy adL L]) h hx hb hr (narZ h9).1 hlocks hK hP hD hS dX7_readSetting_33
    · replace h := (br h).2 c9
      exact B10 R P _ _ _ h hP hD hS (lv_sub hl [0] rfl)
theorem hds_X7_readLine : yX7_readLine.cls ≠ "java/lang/invoke/MethodHandle" ∧ yX7_readLine.cls ≠ "java/lang/invoke/VarHandle" ∧ (parseMethodDescriptor yX7_readLine.desc).map (fun d => d.parameters.length) = some 0 := ⟨by decide +kernel, by decide +kernel, by decide +kernel⟩
theorem hd_X7_readLine : yX7_readLine.cls = RX7 ∧ yX7_readLine.cls ≠ "java/lang/invoke/MethodHandle" ∧ yX7_readLine.cls ≠ "java/lang/invoke/VarHandle" ∧ (parseMethodDescriptor yX7_readLine.desc).map (fun d => d.parameters.length) = some 0 := ⟨rfl, hds_X7_readLine⟩
def f_X7_readLine_b77 (N : Nat) (R : VV) (K : VV) (P : VV) (L : VV) (x1 : Int32) : Option (Int32 × VV × VV × VV) :=
  if x1 = 0 then some (0, R, P, L) else bnd (f_X7_expect R K 4) (fun q7701 => if q7701.1 = 0 then some (0, q7701.2, P, L) else some (1, q7701.2, P, L))
def f_X7_readLine_b71 (N : Nat) (R : VV) (K : VV) (P : VV) (L : VV)  : Option (Int32 × VV × VV × VV) :=
  bnd (f_X7_refuse R K 1) (fun q7101 => f_X7_readLine_b77 N q7101.2 K P L q7101.1)
def f_X7_readLine (N : Nat) (R : VV) (K : VV) (P : VV) (L : VV) : Option (Int32 × VV × VV × VV) :=
  bnd (f_X7_kind R K) (fun q1 => if q1 = 38 then bnd (f_X7_readParty N R K P L) (fun q9 => f_X7_readLine_b77 N q9.2.1 K q9.2.2 L q9.1) else if q1 = 39 then bnd (f_X7_readSitting R K P L) (fun q7 => f_X7_readLine_b77 N q7.2.1 K q7.2.2 L q7.1) else if q1 = 40 then bnd (f_X7_readLaw N R K P L) (fun q5 => f_X7_readLine_b77 N q5.2.1 K P q5.2.2 q5.1) else if q1 < 32 then f_X7_readLine_b71 N R K P L else if (38 : Int32) ≤ q1 then f_X7_readLine_b71 N R K P L else bnd (f_X7_readSetting R K P L (q1 - 32)) (fun q3 => f_X7_readLine_b77 N q3.2.1 K q3.2.2 L q3.1))
set_option maxHeartbeats 4000000 in
set_option maxRecDepth 100000 in
theorem k_X7_readLine (l : Launch) (G : va_G) (cy : Nat → ClassId) (ev : Nat → Nat) (N : Nat) (adR : Nat → Nat) (R : VV) (adK : Nat → Nat) (K : VV) (adP : Nat → Nat) (P : VV) (adL : Nat → Nat) (L : VV)  (res : Int32 × VV × VV × VV) (h : f_X7_readLine N R K P L = some res) : MetI l yX7_readLine cX7_readLine 3 (some .boolean) 214 4639 G cy ev [.ref (adR 0)] (wj [cX7 cy adR (adK 0) (adP 0) R, cX9 cy adK K, cX6 cy adP (adL 0) P, cX3 cy adL L]) res.1 (wj [cX7 cy adR (adK 0) (adP 0) res.2.1, cX9 cy adK K, cX6 cy adP (adL 0) res.2.2.1, cX3 cy adL res.2.2.2]) := by
  refine MetQ.start (by decide +kernel) (Nat.le_of_ble_eq_true rfl) (fun p e s m args below meth c A ls hx hb hr hml hown hts hlocks hK hP hD hA hl hE => ?_)
  have hS : va_S A s.heap s.heap [] := va_S.rf
  have hown : s.vm.findClass RX7 = some m.cls := hown
  have hl : lv_has ls 3 [(0, .ref (adR 0))] := hl
  have B77 : ∀ (x1 : Int32) (R : VV) (P : VV) (L : VV) (H : Heap) (locs : List Loc) (ls : Array Slot), f_X7_readLine_b77 N R K P L x1 = some res → va_P G vwCl (wj [cX7 cy adR (adK 0) (adP 0) R, cX9 cy adK K, cX6 cy adP (adL 0) P, cX3 cy adL L]) H → va_D A (wj [cX7 cy adR (adK 0) (adP 0) R, cX9 cy adK K, cX6 cy adP (adL 0) P, cX3 cy adL L]) → va_S A s.heap H locs → lv_has ls 3 [(0, .ref (adR 0)), (1, .int x1)] → W p l e (rmX 214 4639) s m args below meth c H locs 0 0 (MQ below (mQi (res.1) G cy A (wj [cX7 cy adR (adK 0) (adP 0) res.2.1, cX9 cy adK K, cX6 cy adP (adL 0) res.2.2.1, cX3 cy adL res.2.2.2])) args s 0 0 A) (F0 m 77 ls []) := by
    intro x1 R P L H locs ls h hP hD hS hl
    delta f_X7_readLine_b77 at h
    refine lv_iload_n hx hb dX7_readLine_77 rfl (lv_at hl 1 rfl) ?_
    refine lv_if_eq (tgt := 93) hx hb dX7_readLine_78 (by decide) (fun c9 => ?_) (fun c9 => ?_)
    · replace h := (br h).1 c9
      refine lv_iconst (v := 0) hx hb dX7_readLine_93 (by decide) ?_
      exact retZ (fr := fun q => q.1) (fw := fun q => wj [cX7 cy adR (adK 0) (adP 0) q.2.1, cX9 cy adK K, cX6 cy adP (adL 0) q.2.2.1, cX3 cy adL q.2.2.2]) h hx hb hr narZ0 hlocks hK hP hD hS dX7_readLine_94
    · replace h := (br h).2 c9
      refine lv_aload_n hx hb dX7_readLine_81 rfl (lv_at hl 0 rfl) ?_
      refine lv_iconst (v := 4) hx hb dX7_readLine_82 (by decide) ?_
      replace h := bd h
      obtain ⟨q7701, h7702, h⟩ := h
      refine callWVi (As := [.int 4]) (rest := []) (cs' := [cX7 cy adR (adK 0) (adP 0) q7701.2, cX9 cy adK K, cX6 cy adP (adL 0) P, cX3 cy adL L]) (isC := [0, 1]) (isR := [2, 3]) hx hb hml hown hts (k_X7_expect l G cy ev adR (adP 0) R adK K 4 q7701 h7702) wm_19_2 wm_19_3 wm_19_4 wm_1_18 wm_19_5 hd_X7_expect ⟨by decide, by decide⟩ hK hP hD hS hA hE rfl rfl rfl (cov_of (n := 4) rfl (by decide)) (by decide) rfl (recvW (ci := 0) hK hP rfl cX7_o rfl) rfl rfl hl.1 (Nat.le_of_ble_eq_true rfl) dX7_readLine_83 (fun H locs hP hD hS => ?_)
      refine lv_if_eq (tgt := 93) hx hb dX7_readLine_86 (by decide) (fun c9 => ?_) (fun c9 => ?_)
      · replace h := (br h).1 c9
        refine lv_iconst (v := 0) hx hb dX7_readLine_93 (by decide) ?_
        exact retZ (fr := fun q => q.1) (fw := fun q => wj [cX7 cy adR (adK 0) (adP 0) q.2.1, cX9 cy adK K, cX6 cy adP (adL 0) q.2.2.1, cX3 cy adL q.2.2.2]) h hx hb hr narZ0 hlocks hK hP hD hS dX7_readLine_94
      · replace h := (br h).2 c9
        refine lv_iconst (v := 1) hx hb dX7_readLine_89 (by decide) ?_
        refine lv_goto (tgt := 94) hx hb dX7_readLine_90 (by decide) ?_
        exact retZ (fr := fun q => q.1) (fw := fun q => wj [cX7 cy adR (adK 0) (adP 0) q.2.1, cX9 cy adK K, cX6 cy adP (adL 0) q.2.2.1, cX3 cy adL q.2.2.2]) h hx hb hr narZ1 hlocks hK hP hD hS dX7_readLine_94
  have B71 : ∀ (R : VV) (P : VV) (L : VV) (H : Heap) (locs : List Loc) (ls : Array Slot), f_X7_readLine_b71 N R K P L = some res → va_P G vwCl (wj [cX7 cy adR (adK 0) (adP 0) R, cX9 cy adK K, cX6 cy adP (adL 0) P, cX3 cy adL L]) H → va_D A (wj [cX7 cy adR (adK 0) (adP 0) R, cX9 cy adK K, cX6 cy adP (adL 0) P, cX3 cy adL L]) → va_S A s.heap H locs → lv_has ls 3 [(0, .ref (adR 0))] → W p l e (rmX 214 4639) s m args below meth c H locs 0 0 (MQ below (mQi (res.1) G cy A (wj [cX7 cy adR (adK 0) (adP 0) res.2.1, cX9 cy adK K, cX6 cy adP (adL 0) res.2.2.1, cX3 cy adL res.2.2.2])) args s 0 0 A) (F0 m 71 ls []) := by
    intro R P L H locs ls h hP hD hS hl
    delta f_X7_readLine_b71 at h
    refine lv_aload_n hx hb dX7_readLine_71 rfl (lv_at hl 0 rfl) ?_
    refine lv_iconst (v := 1) hx hb dX7_readLine_72 (by decide) ?_
    replace h := bd h
    obtain ⟨q7101, h7102, h⟩ := h
    refine callWVi (As := [.int 1]) (rest := []) (cs' := [cX7 cy adR (adK 0) (adP 0) q7101.2, cX9 cy adK K, cX6 cy adP (adL 0) P, cX3 cy adL L]) (isC := [0, 1]) (isR := [2, 3]) hx hb hml hown hts (k_X7_refuse l G cy ev adR (adP 0) R adK K 1 q7101 h7102) wm_17_3 wm_17_4 wm_17_5 wm_1_18 wm_17_6 hd_X7_refuse ⟨by decide, by decide⟩ hK hP hD hS hA hE rfl rfl rfl (cov_of (n := 4) rfl (by decide)) (by decide) rfl (recvW (ci := 0) hK hP rfl cX7_o rfl) rfl rfl hl.1 (Nat.le_of_ble_eq_true rfl) dX7_readLine_73 (fun H locs hP hD hS => ?_)
    refine lv_istore_n (lv' := [(1, .int q7101.1), (0, .ref (adR 0))]) hx hb dX7_readLine_76 rfl hl (by decide) rfl (fun ls hl => ?_)
    exact B77 q7101.1 q7101.2 P L _ _ _ h hP hD hS (lv_sub hl [1, 0] rfl)
  delta f_X7_readLine at h
  refine lv_aload_n hx hb dX7_readLine_0 rfl (lv_at hl 0 rfl) ?_
  replace h := bd h
  obtain ⟨q1, h2, h⟩ := h
  refine callWVi (As := []) (rest := []) (cs' := [cX7 cy adR (adK 0) (adP 0) R, cX9 cy adK K, cX6 cy adP (adL 0) P, cX3 cy adL L]) (isC := [0, 1]) (isR := [2, 3]) hx hb hml hown hts (k_X7_kind l G cy ev adR (adP 0) R adK K q1 h2) wm_16_15 wm_16_16 wm_16_17 wm_1_18 wm_16_18 hd_X7_kind ⟨by decide, by decide⟩ hK hP hD hS hA hE rfl rfl rfl (cov_of (n := 4) rfl (by decide)) (by decide) rfl (recvW (ci := 0) hK hP rfl cX7_o rfl) rfl rfl hl.1 (Nat.le_of_ble_eq_true rfl) dX7_readLine_1 (fun H locs hP hD hS => ?_)
  refine lv_istore_n (lv' := [(2, .int q1), (0, .ref (adR 0))]) hx hb dX7_readLine_4 rfl hl (by decide) rfl (fun ls hl => ?_)
  refine lv_iload_n hx hb dX7_readLine_5 rfl (lv_at hl 0 rfl) ?_
  refine lv_bipush (v := 38) hx hb dX7_readLine_6 (by decide) ?_
  refine lv_icmp_ne (tgt := 19) hx hb dX7_readLine_8 (by decide) (fun c9 => ?_) (fun c9 => ?_)
  · replace h := (br h).2 c9
    refine lv_iload_n hx hb dX7_readLine_19 rfl (lv_at hl 0 rfl) ?_
    refine lv_bipush (v := 39) hx hb dX7_readLine_20 (by decide) ?_
    refine lv_icmp_ne (tgt := 33) hx hb dX7_readLine_22 (by decide) (fun c9 => ?_) (fun c9 => ?_)
    · replace h := (br h).2 c9
      refine lv_iload_n hx hb dX7_readLine_33 rfl (lv_at hl 0 rfl) ?_
      refine lv_bipush (v := 40) hx hb dX7_readLine_34 (by decide) ?_
      refine lv_icmp_ne (tgt := 47) hx hb dX7_readLine_36 (by decide) (fun c9 => ?_) (fun c9 => ?_)
      · replace h := (br h).2 c9
        refine lv_iload_n hx hb dX7_readLine_47 rfl (lv_at hl 0 rfl) ?_
        refine lv_bipush (v := 32) hx hb dX7_readLine_48 (by decide) ?_
        refine lv_icmp_lt (tgt := 71) hx hb dX7_readLine_50 (by decide) (fun c9 => ?_) (fun c9 => ?_)
        · replace h := (br h).1 c9
          exact B71 R P L _ _ _ h hP hD hS (lv_sub hl [1] rfl)
        · replace h := (br h).2 c9
          refine lv_iload_n hx hb dX7_readLine_53 rfl (lv_at hl 0 rfl) ?_
          refine lv_bipush (v := 38) hx hb dX7_readLine_54 (by decide) ?_
          refine lv_icmp_ge (tgt := 71) hx hb dX7_readLine_56 (by decide) (fun c9 => ?_) (fun c9 => ?_)
          · replace h := (br h).1 c9
            exact B71 R P L _ _ _ h hP hD hS (lv_sub hl [1] rfl)
          · replace h := (br h).2 c9
            refine lv_aload_n hx hb dX7_readLine_59 rfl (lv_at hl 1 rfl) ?_
            refine lv_iload_n hx hb dX7_readLine_60 rfl (lv_at hl 0 rfl) ?_
            refine lv_bipush (v := 32) hx hb dX7_readLine_61 (by decide) ?_
            refine lv_isub hx hb dX7_readLine_63 ?_
            replace h := bd h
            obtain ⟨q3, h4, h⟩ := h
            refine callWVi (As := [.int (q1 - 32)]) (rest := []) (cs' := [cX7 cy adR (adK 0) (adP 0) q3.2.1, cX9 cy adK K, cX6 cy adP (adL 0) q3.2.2, cX3 cy adL L]) (isC := [0, 1, 2, 3]) (isR := []) hx hb hml hown hts (k_X7_readSetting l G cy ev adR R adK K adP P adL L (q1 - 32) q3 h4) wm_19_10 wm_19_11 wm_19_12 wm_1_18 wm_19_13 hd_X7_readSetting ⟨by decide, by decide⟩ hK hP hD hS hA hE rfl rfl rfl (cov_of (n := 4) rfl (by decide)) (by decide) rfl (recvW (ci := 0) hK hP rfl cX7_o rfl) rfl rfl hl.1 (Nat.le_of_ble_eq_true rfl) dX7_readLine_64 (fun H locs hP hD hS => ?_)
            refine lv_istore_n (lv' := [(1, .int q3.1), (2, .int q1), (0, .ref (adR 0))]) hx hb dX7_readLine_67 rfl hl (by decide) rfl (fun ls hl => ?_)
            refine lv_goto (tgt := 77) hx hb dX7_readLine_68 (by decide) ?_
            exact B77 q3.1 q3.2.1 q3.2.2 L _ _ _ h hP hD hS (lv_sub hl [2, 0] rfl)
      · replace h := (br h).1 c9
        refine lv_aload_n hx hb dX7_readLine_39 rfl (lv_at hl 1 rfl) ?_
        replace h := bd h
        obtain ⟨q5, h6, h⟩ := h
        refine callWVi (As := []) (rest := []) (cs' := [cX7 cy adR (adK 0) (adP 0) q5.2.1, cX9 cy adK K, cX6 cy adP (adL 0) P, cX3 cy adL q5.2.2]) (isC := [0, 1, 2, 3]) (isR := []) hx hb hml hown hts (k_X7_readLaw l G cy ev N adR R adK K adP P adL L q5 h6) wm_17_23 wm_18_0 wm_18_1 wm_1_18 wm_18_2 hd_X7_readLaw ⟨by decide, by decide⟩ hK hP hD hS hA hE rfl rfl rfl (cov_of (n := 4) rfl (by decide)) (by decide) rfl (recvW (ci := 0) hK hP rfl cX7_o rfl) rfl rfl hl.1 (Nat.le_of_ble_eq_true rfl) dX7_readLine_40 (fun H locs hP hD hS => ?_)
        refine lv_istore_n (lv' := [(1, .int q5.1), (2, .int q1), (0, .ref (adR 0))]) hx hb dX7_readLine_43 rfl hl (by decide) rfl (fun ls hl => ?_)
        refine lv_goto (tgt := 77) hx hb dX7_readLine_44 (by decide) ?_
        exact B77 q5.1 q5.2.1 P q5.2.2 _ _ _ h hP hD hS (lv_sub hl [2, 0] rfl)
    · replace h := (br h).1 c9
      refine lv_aload_n hx hb dX7_readLine_25 rfl (lv_at hl 1 rfl) ?_
      replace h := bd h
      obtain ⟨q7, h8, h⟩ := h
      refine callWVi (As := []) (rest := []) (cs' := [cX7 cy adR (adK 0) (adP 0) q7.2.1, cX9 cy adK K, cX6 cy adP (adL 0) q7.2.2, cX3 cy adL L]) (isC := [0, 1, 2, 3]) (isR := []) hx hb hml hown hts (k_X7_readSitting l G cy ev adR R adK K adP P adL L q7 h8) wm_17_19 wm_17_20 wm_17_21 wm_1_18 wm_17_22 hd_X7_readSitting ⟨by decide, by decide⟩ hK hP hD hS hA hE rfl rfl rfl (cov_of (n := 4) rfl (by decide)) (by decide) rfl (recvW (ci := 0) hK hP rfl cX7_o rfl) rfl rfl hl.1 (Nat.le_of_ble_eq_true rfl) dX7_readLine_26 (fun H locs hP hD hS => ?_)
      refine lv_istore_n (lv' := [(1, .int q7.1), (2, .int q1), (0, .ref (adR 0))]) hx hb dX7_readLine_29 rfl hl (by decide) rfl (fun ls hl => ?_)
      refine lv_goto (tgt := 77) hx hb dX7_readLine_30 (by decide) ?_
      exact B77 q7.1 q7.2.1 q7.2.2 L _ _ _ h hP hD hS (lv_sub hl [2, 0] rfl)
  · replace h := (br h).1 c9
    refine lv_aload_n hx hb dX7_readLine_11 rfl (lv_at hl 1 rfl) ?_
    replace h := bd h
    obtain ⟨q9, h10, h⟩ := h
    refine callWVi (As := []) (rest := []) (cs' := [cX7 cy adR (adK 0) (adP 0) q9.2.1, cX9 cy adK K, cX6 cy adP (adL 0) q9.2.2, cX3 cy adL L]) (isC := [0, 1, 2, 3]) (isR := []) hx hb hml hown hts (k_X7_readParty l G cy ev N adR R adK K adP P adL L q9 h10) wm_16_23 wm_17_0 wm_17_1 wm_1_18 wm_17_2 hd_X7_readParty ⟨by decide, by decide⟩ hK hP hD hS hA hE rfl rfl rfl (cov_of (n := 4) rfl (by decide)) (by decide) rfl (recvW (ci := 0) hK hP rfl cX7_o rfl) rfl rfl hl.1 (Nat.le_of_ble_eq_true rfl) dX7_readLine_12 (fun H locs hP hD hS => ?_)
    refine lv_istore_n (lv' := [(1, .int q9.1), (2, .int q1), (0, .ref (adR 0))]) hx hb dX7_readLine_15 rfl hl (by decide) rfl (fun ls hl => ?_)
    refine lv_goto (tgt := 77) hx hb dX7_readLine_16 (by decide) ?_
    exact B77 q9.1 q9.2.1 q9.2.2 L _ _ _ h hP hD hS (lv_sub hl [2, 0] rfl)
theorem hds_X7_read : yX7_read.cls ≠ "java/lang/invoke/MethodHandle" ∧ yX7_read.cls ≠ "java/lang/invoke/VarHandle" ∧ (parseMethodDescriptor yX7_read.desc).map (fun d => d.parameters.length) = some 2 := ⟨by decide +kernel, by decide +kernel, by decide +kernel⟩
theorem hd_X7_read : yX7_read.cls = RX7 ∧ yX7_read.cls ≠ "java/lang/invoke/MethodHandle" ∧ yX7_read.cls ≠ "java/lang/invoke/VarHandle" ∧ (parseMethodDescriptor yX7_read.desc).map (fun d => d.parameters.length) = some 2 := ⟨rfl, hds_X7_read⟩
def f_X7_read_s38 (N : Nat) (R : VV) (K : VV) (P : VV) (L : VV) (T : Nat → Int32) (x3 : Int32) : Option (((Int32 × VV × VV × VV × VV) ⊕ (Int32 × VV × VV × VV × VV))) :=
  if K.1 3 ≤ x3 then inrO (some (1, R, K, P, L)) else bnd (f_X7_kind R K) (fun q3801 => if q3801 = 0 then inrO (some (1, R, K, P, L)) else bnd (f_X7_readLine N R K P L) (fun q3803 => if q3803.1 = 0 then inrO (some (0, q3803.2.1, K, q3803.2.2.1, q3803.2.2.2)) else some (.inl (x3 + 1, si q3803.2.1 4 ((q3803.2.1.1 4) + 1), K, q3803.2.2.1, q3803.2.2.2))))
def f_X7_read (N : Nat) (R : VV) (K : VV) (P : VV) (L : VV) (T : Nat → Int32) (a2 : Int32) : Option (Int32 × VV × VV × VV × VV) :=
  bnd (f_X9_split N K T a2) (fun q1 => bnd (f_X6_clear N P L) (fun q3 => itr (fun q : Int32 × VV × VV × VV × VV => f_X7_read_s38 N q.2.1 q.2.2.1 q.2.2.2.1 q.2.2.2.2 T q.1) N (0, si (si (si (si R 2 0) 5 0) 6 ((-1))) 4 0, q1, q3.1, q3.2)))
set_option maxHeartbeats 4000000 in
set_option maxRecDepth 100000 in
theorem k_X7_read (l : Launch) (G : va_G) (cy : Nat → ClassId) (ev : Nat → Nat) (N : Nat) (adR : Nat → Nat) (R : VV) (adK : Nat → Nat) (K : VV) (adP : Nat → Nat) (P : VV) (adL : Nat → Nat) (L : VV) (adT : Nat) (T : Nat → Int32) (a2 : Int32) (res : Int32 × VV × VV × VV × VV) (h : f_X7_read N R K P L T a2 = some res) : MetI l yX7_read cX7_read 4 (some .boolean) 215 4661 G cy ev [.ref (adR 0), .ref adT, .int a2] (wj [cX7 cy adR (adK 0) (adP 0) R, cX9 cy adK K, cX6 cy adP (adL 0) P, cX3 cy adL L, [(adT, .inl (cy 0, 700, .inl T))]]) res.1 (wj [cX7 cy adR (adK 0) (adP 0) res.2.1, cX9 cy adK res.2.2.1, cX6 cy adP (adL 0) res.2.2.2.1, cX3 cy adL res.2.2.2.2, [(adT, .inl (cy 0, 700, .inl T))]]) := by
  refine MetQ.start (by decide +kernel) (Nat.le_of_ble_eq_true rfl) (fun p e s m args below meth c A ls hx hb hr hml hown hts hlocks hK hP hD hA hl hE => ?_)
  have hS : va_S A s.heap s.heap [] := va_S.rf
  have hown : s.vm.findClass RX7 = some m.cls := hown
  have hl : lv_has ls 4 [(0, .ref (adR 0)), (1, .ref adT), (2, .int a2)] := hl
  have L38 : ∀ (n : Nat) (x3 : Int32) (R : VV) (K : VV) (P : VV) (L : VV) (H : Heap) (locs : List Loc) (ls : Array Slot), itr (fun q : Int32 × VV × VV × VV × VV => f_X7_read_s38 N q.2.1 q.2.2.1 q.2.2.2.1 q.2.2.2.2 T q.1) n (x3, R, K, P, L) = some res → va_P G vwCl (wj [cX7 cy adR (adK 0) (adP 0) R, cX9 cy adK K, cX6 cy adP (adL 0) P, cX3 cy adL L, [(adT, .inl (cy 0, 700, .inl T))]]) H → va_D A (wj [cX7 cy adR (adK 0) (adP 0) R, cX9 cy adK K, cX6 cy adP (adL 0) P, cX3 cy adL L, [(adT, .inl (cy 0, 700, .inl T))]]) → va_S A s.heap H locs → lv_has ls 4 [(0, .ref (adR 0)), (3, .int x3)] → W p l e (rmX 215 4661) s m args below meth c H locs 0 0 (MQ below (mQi (res.1) G cy A (wj [cX7 cy adR (adK 0) (adP 0) res.2.1, cX9 cy adK res.2.2.1, cX6 cy adP (adL 0) res.2.2.2.1, cX3 cy adL res.2.2.2.2, [(adT, .inl (cy 0, 700, .inl T))]])) args s 0 0 A) (F0 m 38 ls []) := by
    intro n
    induction n with
    | zero => intro x3 R K P L H locs ls h; exact (itr_zero h).elim
    | succ n ih1 =>
      intro x3 R K P L H locs ls h hP hD hS hl
      obtain ⟨y1, h, hy1⟩ := itr_inv h
      have h : f_X7_read_s38 N R K P L T x3 = some y1 := h
      delta f_X7_read_s38 at h
      refine lv_iload_n hx hb dX7_read_38 rfl (lv_at hl 1 rfl) ?_
      refine lv_aload_n hx hb dX7_read_39 rfl (lv_at hl 0 rfl) ?_
      refine go_7_12 (ci := 0) hx hb hts hown hK hE hP rfl dX7_read_40 ?_
      refine go_7_48 (ci := 1) (x := K.1 3) hx hb hts hown hK hE hP rfl rfl dX7_read_43 ?_
      refine lv_icmp_ge (tgt := 81) hx hb dX7_read_46 (by decide) (fun c9 => ?_) (fun c9 => ?_)
      · replace h := (br h).1 c9
        replace h := itr_exit h hy1
        refine lv_iconst (v := 1) hx hb dX7_read_81 (by decide) ?_
        exact retZ (fr := fun q => q.1) (fw := fun q => wj [cX7 cy adR (adK 0) (adP 0) q.2.1, cX9 cy adK q.2.2.1, cX6 cy adP (adL 0) q.2.2.2.1, cX3 cy adL q.2.2.2.2, [(adT, .inl (cy 0, 700, .inl T))]]) h hx hb hr narZ1 hlocks hK hP hD hS dX7_read_82
      · replace h := (br h).2 c9
        refine lv_aload_n hx hb dX7_read_49 rfl (lv_at hl 0 rfl) ?_
        replace h := bd h
        obtain ⟨q3801, h3802, h⟩ := h
        refine callWVi (As := []) (rest := []) (cs' := [cX7 cy adR (adK 0) (adP 0) R, cX9 cy adK K, cX6 cy adP (adL 0) P, cX3 cy adL L, [(adT, .inl (cy 0, 700, .inl T))]]) (isC := [0, 1]) (isR := [2, 3, 4]) hx hb hml hown hts (k_X7_kind l G cy ev adR (adP 0) R adK K q3801 h3802) wm_16_15 wm_16_16 wm_16_17 wm_1_18 wm_16_18 hd_X7_kind ⟨by decide, by decide⟩ hK hP hD hS hA hE rfl rfl rfl (cov_of (n := 5) rfl (by decide)) (by decide) rfl (recvW (ci := 0) hK hP rfl cX7_o rfl) rfl rfl hl.1 (Nat.le_of_ble_eq_true rfl) dX7_read_50 (fun H locs hP hD hS => ?_)
        refine lv_if_eq (tgt := 81) hx hb dX7_read_53 (by decide) (fun c9 => ?_) (fun c9 => ?_)
        · replace h := (br h).1 c9
          replace h := itr_exit h hy1
          refine lv_iconst (v := 1) hx hb dX7_read_81 (by decide) ?_
          exact retZ (fr := fun q => q.1) (fw := fun q => wj [cX7 cy adR (adK 0) (adP 0) q.2.1, cX9 cy adK q.2.2.1, cX6 cy adP (adL 0) q.2.2.2.1, cX3 cy adL q.2.2.2.2, [(adT, .inl (cy 0, 700, .inl T))]]) h hx hb hr narZ1 hlocks hK hP hD hS dX7_read_82
        · replace h := (br h).2 c9
          refine lv_aload_n hx hb dX7_read_56 rfl (lv_at hl 0 rfl) ?_
          replace h := bd h
          obtain ⟨q3803, h3804, h⟩ := h
          refine callWVi (As := []) (rest := []) (cs' := [cX7 cy adR (adK 0) (adP 0) q3803.2.1, cX9 cy adK K, cX6 cy adP (adL 0) q3803.2.2.1, cX3 cy adL q3803.2.2.2, [(adT, .inl (cy 0, 700, .inl T))]]) (isC := [0, 1, 2, 3]) (isR := [4]) hx hb hml hown hts (k_X7_readLine l G cy ev N adR R adK K adP P adL L q3803 h3804) wm_16_19 wm_16_20 wm_16_21 wm_1_18 wm_16_22 hd_X7_readLine ⟨by decide, by decide⟩ hK hP hD hS hA hE rfl rfl rfl (cov_of (n := 5) rfl (by decide)) (by decide) rfl (recvW (ci := 0) hK hP rfl cX7_o rfl) rfl rfl hl.1 (Nat.le_of_ble_eq_true rfl) dX7_read_57 (fun H locs hP hD hS => ?_)
          refine lv_if_ne (tgt := 65) hx hb dX7_read_60 (by decide) (fun c9 => ?_) (fun c9 => ?_)
          · replace h := (br h).2 c9
            refine lv_aload_n hx hb dX7_read_65 rfl (lv_at hl 0 rfl) ?_
            refine lv_dup hx hb dX7_read_66 rfl ?_
            refine go_7_32 (ci := 0) (x := q3803.2.1.1 4) hx hb hts hown hK hE hP rfl rfl dX7_read_67 ?_
            refine lv_iconst (v := 1) hx hb dX7_read_70 (by decide) ?_
            refine lv_iadd hx hb dX7_read_71 ?_
            refine po_7_32 (ci := 0) (cs' := [cX7 cy adR (adK 0) (adP 0) (si q3803.2.1 4 ((q3803.2.1.1 4) + 1)), cX9 cy adK K, cX6 cy adP (adL 0) q3803.2.2.1, cX3 cy adL q3803.2.2.2, [(adT, .inl (cy 0, 700, .inl T))]]) hx hb hts hown hK hE hP hD hS rfl rfl dX7_read_72 (fun H locs hP hD hS => ?_)
            refine lv_iinc (v := x3 + 1) (lv' := [(3, .int (x3 + 1)), (0, .ref (adR 0))]) hx hb dX7_read_75 hl (k := 1) rfl rfl (by decide) rfl (fun ls hl => ?_)
            refine lv_goto (tgt := 38) hx hb dX7_read_78 (by decide) ?_
            replace h := itr_back h hy1
            exact ih1 (x3 + 1) (si q3803.2.1 4 ((q3803.2.1.1 4) + 1)) K q3803.2.2.1 q3803.2.2.2 _ _ _ h hP hD hS (lv_sub hl [1, 0] rfl)
          · replace h := (br h).1 c9
            replace h := itr_exit h hy1
            refine lv_iconst (v := 0) hx hb dX7_read_63 (by decide) ?_
            exact retZ (fr := fun q => q.1) (fw := fun q => wj [cX7 cy adR (adK 0) (adP 0) q.2.1, cX9 cy adK q.2.2.1, cX6 cy adP (adL 0) q.2.2.2.1, cX3 cy adL q.2.2.2.2, [(adT, .inl (cy 0, 700, .inl T))]]) h hx hb hr narZ0 hlocks hK hP hD hS dX7_read_64
  delta f_X7_read at h
  refine lv_aload_n hx hb dX7_read_0 rfl (lv_at hl 0 rfl) ?_
  refine go_7_12 (ci := 0) hx hb hts hown hK hE hP rfl dX7_read_1 ?_
  refine lv_aload_n hx hb dX7_read_4 rfl (lv_at hl 1 rfl) ?_
  refine lv_iload_n hx hb dX7_read_5 rfl (lv_at hl 2 rfl) ?_
  replace h := bd h
  obtain ⟨q1, h2, h⟩ := h
  refine callWVv (As := [.ref adT, .int a2]) (rest := []) (cs' := [cX7 cy adR (adK 0) (adP 0) R, cX9 cy adK q1, cX6 cy adP (adL 0) P, cX3 cy adL L, [(adT, .inl (cy 0, 700, .inl T))]]) (isC := [1, 4]) (isR := [0, 2, 3]) hx hb hml hown hts (k_X9_split l G cy ev N adK K adT T a2 q1 h2) wm_12_5 wm_12_6 wm_12_7 wm_3_15 wm_12_8 hd_X9_split ⟨by decide, by decide⟩ hK hP hD hS hA hE rfl rfl rfl (cov_of (n := 5) rfl (by decide)) (by decide) rfl (recvW (ci := 1) hK hP rfl cX9_o rfl) rfl rfl hl.1 (Nat.le_of_ble_eq_true rfl) dX7_read_6 (fun H locs hP hD hS => ?_)
  refine lv_aload_n hx hb dX7_read_9 rfl (lv_at hl 0 rfl) ?_
  refine go_7_21 (ci := 0) hx hb hts hown hK hE hP rfl dX7_read_10 ?_
  replace h := bd h
  obtain ⟨q3, h4, h⟩ := h
  refine callWVv (As := []) (rest := []) (cs' := [cX7 cy adR (adK 0) (adP 0) R, cX9 cy adK q1, cX6 cy adP (adL 0) q3.1, cX3 cy adL q3.2, [(adT, .inl (cy 0, 700, .inl T))]]) (isC := [2, 3]) (isR := [0, 1, 4]) hx hb hml hown hts (k_X6_clear l G cy ev N adP P adL L q3 h4) wm_16_7 wm_16_8 wm_16_9 wm_1_22 wm_16_10 hd_X6_clear ⟨by decide, by decide⟩ hK hP hD hS hA hE rfl rfl rfl (cov_of (n := 5) rfl (by decide)) (by decide) rfl (recvW (ci := 2) hK hP rfl cX6_o rfl) rfl rfl hl.1 (Nat.le_of_ble_eq_true rfl) dX7_read_13 (fun H locs hP hD hS => ?_)
  refine lv_aload_n hx hb dX7_read_16 rfl (lv_at hl 0 rfl) ?_
  refine lv_iconst (v := 0) hx hb dX7_read_17 (by decide) ?_
  refine po_7_25 (ci := 0) (cs' := [cX7 cy adR (adK 0) (adP 0) (si R 2 0), cX9 cy adK q1, cX6 cy adP (adL 0) q3.1, cX3 cy adL q3.2, [(adT, .inl (cy 0, 700, .inl T))]]) hx hb hts hown hK hE hP hD hS rfl rfl dX7_read_18 (fun H locs hP hD hS => ?_)
  refine lv_aload_n hx hb dX7_read_21 rfl (lv_at hl 0 rfl) ?_
  refine lv_iconst (v := 0) hx hb dX7_read_22 (by decide) ?_
  refine po_7_35 (ci := 0) (cs' := [cX7 cy adR (adK 0) (adP 0) (si (si R 2 0) 5 0), cX9 cy adK q1, cX6 cy adP (adL 0) q3.1, cX3 cy adL q3.2, [(adT, .inl (cy 0, 700, .inl T))]]) hx hb hts hown hK hE hP hD hS rfl rfl dX7_read_23 (fun H locs hP hD hS => ?_)
  refine lv_aload_n hx hb dX7_read_26 rfl (lv_at hl 0 rfl) ?_
  refine lv_iconst (v := (-1)) hx hb dX7_read_27 (by decide) ?_
  refine po_7_38 (ci := 0) (cs' := [cX7 cy adR (adK 0) (adP 0) (si (si (si R 2 0) 5 0) 6 ((-1))), cX9 cy adK q1, cX6 cy adP (adL 0) q3.1, cX3 cy adL q3.2, [(adT, .inl (cy 0, 700, .inl T))]]) hx hb hts hown hK hE hP hD hS rfl rfl dX7_read_28 (fun H locs hP hD hS => ?_)
  refine lv_aload_n hx hb dX7_read_31 rfl (lv_at hl 0 rfl) ?_
  refine lv_iconst (v := 0) hx hb dX7_read_32 (by decide) ?_
  refine po_7_32 (ci := 0) (cs' := [cX7 cy adR (adK 0) (adP 0) (si (si (si (si R 2 0) 5 0) 6 ((-1))) 4 0), cX9 cy adK q1, cX6 cy adP (adL 0) q3.1, cX3 cy adL q3.2, [(adT, .inl (cy 0, 700, .inl T))]]) hx hb hts hown hK hE hP hD hS rfl rfl dX7_read_33 (fun H locs hP hD hS => ?_)
  refine lv_iconst (v := 0) hx hb dX7_read_36 (by decide) ?_
  refine lv_istore_n (lv' := [(3, .int 0), (0, .ref (adR 0)), (1, .ref adT), (2, .int a2)]) hx hb dX7_read_37 rfl hl (by decide) rfl (fun ls hl => ?_)
  exact L38  N 0 (si (si (si (si R 2 0) 5 0) 6 ((-1))) 4 0) q1 q3.1 q3.2 _ _ _ h hP hD hS (lv_sub hl [1, 0] rfl)
