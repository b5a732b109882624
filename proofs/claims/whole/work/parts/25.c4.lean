theorem hds_X11_areSuch : yX11_areSuch.cls ≠ "java/lang/invoke/MethodHandle" ∧ yX11_areSuch.cls ≠ "java/lang/invoke/VarHandle" ∧ (parseMethodDescriptor yX11_areSuch.desc).map (fun d => d.parameters.length) = some 2 := ⟨by decide +kernel, by decide +kernel, by decide +kernel⟩
theorem hd_X11_areSuch : yX11_areSuch.cls = RX11 ∧ yX11_areSuch.cls ≠ "java/lang/invoke/MethodHandle" ∧ yX11_areSuch.cls ≠ "java/lang/invoke/VarHandle" ∧ (parseMethodDescriptor yX11_areSuch.desc).map (fun d => d.parameters.length) = some 2 := ⟨rfl, hds_X11_areSuch⟩
def f_X11_areSuch (X : VV) (P : VV) (a1 : Int32) (a2 : Int32) : Option (Int32) :=
  bnd (f_X6_hasParty P a1) (fun q1 => if q1 = 0 then some 0 else bnd (f_X6_hasSitting P a2) (fun q3 => if q3 = 0 then some 0 else some 1))
set_option maxHeartbeats 4000000 in
set_option maxRecDepth 100000 in
theorem k_X11_areSuch (l : Launch) (G : va_G) (cy : Nat → ClassId) (ev : Nat → Nat) (adX : Nat → Nat) (xT : Nat) (xR : Nat) (xS : Nat) (xIm : Nat) (xTr : Nat) (xC : Nat) (xWa : Nat) (xWb : Nat) (xWo : Nat) (xZ : Nat) (xU : Nat) (xD : Nat) (xE : Nat) (xB : Nat) (X : VV) (adP : Nat → Nat) (xL : Nat) (P : VV) (a1 : Int32) (a2 : Int32) (res : Int32) (h : f_X11_areSuch X P a1 a2 = some res) : MetI l yX11_areSuch cX11_areSuch 3 (some .boolean) 1 21 G cy ev [.ref (adX 0), .int a1, .int a2] (wj [cX11 cy adX xT xR (adP 0) xS xIm xTr xC xWa xWb xWo xZ xU xD xE xB X, cX6 cy adP xL P]) res (wj [cX11 cy adX xT xR (adP 0) xS xIm xTr xC xWa xWb xWo xZ xU xD xE xB X, cX6 cy adP xL P]) := by
  refine MetQ.start (by decide +kernel) (Nat.le_of_ble_eq_true rfl) (fun p e s m args below meth c A ls hx hb hr hml hown hts hlocks hK hP hD hA hl hE => ?_)
  have hS : va_S A s.heap s.heap [] := va_S.rf
  have hown : s.vm.findClass RX11 = some m.cls := hown
  have hl : lv_has ls 3 [(0, .ref (adX 0)), (1, .int a1), (2, .int a2)] := hl
  delta f_X11_areSuch at h
  refine lv_aload_n hx hb dX11_areSuch_0 rfl (lv_at hl 0 rfl) ?_
  refine go_11_29 (ci := 0) hx hb hts hown hK hE hP rfl dX11_areSuch_1 ?_
  refine lv_iload_n hx hb dX11_areSuch_4 rfl (lv_at hl 1 rfl) ?_
  replace h := bd h
  obtain ⟨q1, h2, h⟩ := h
  refine callWVi (As := [.int a1]) (rest := []) (cs' := [cX11 cy adX xT xR (adP 0) xS xIm xTr xC xWa xWb xWo xZ xU xD xE xB X, cX6 cy adP xL P]) (isC := [1]) (isR := [0]) hx hb hml hown hts (k_X6_hasParty l G cy ev adP xL P a1 q1 h2) wm_26_11 wm_26_12 wm_26_13 wm_1_22 wm_26_14 hd_X6_hasParty ⟨by decide, by decide⟩ hK hP hD hS hA hE rfl rfl rfl (cov_of (n := 2) rfl (by decide)) (by decide) rfl (recvW (ci := 1) hK hP rfl cX6_o rfl) rfl rfl hl.1 (Nat.le_of_ble_eq_true rfl) dX11_areSuch_5 (fun H locs hP hD hS => ?_)
  refine lv_if_eq (tgt := 26) hx hb dX11_areSuch_8 (by decide) (fun c9 => ?_) (fun c9 => ?_)
  · replace h := (br h).1 c9
    refine lv_iconst (v := 0) hx hb dX11_areSuch_26 (by decide) ?_
    exact retZ (fr := fun q => q) (fw := fun _ => wj [cX11 cy adX xT xR (adP 0) xS xIm xTr xC xWa xWb xWo xZ xU xD xE xB X, cX6 cy adP xL P]) h hx hb hr narZ0 hlocks hK hP hD hS dX11_areSuch_27
  · replace h := (br h).2 c9
    refine lv_aload_n hx hb dX11_areSuch_11 rfl (lv_at hl 0 rfl) ?_
    refine go_11_29 (ci := 0) hx hb hts hown hK hE hP rfl dX11_areSuch_12 ?_
    refine lv_iload_n hx hb dX11_areSuch_15 rfl (lv_at hl 2 rfl) ?_
    replace h := bd h
    obtain ⟨q3, h4, h⟩ := h
    refine callWVi (As := [.int a2]) (rest := []) (cs' := [cX11 cy adX xT xR (adP 0) xS xIm xTr xC xWa xWb xWo xZ xU xD xE xB X, cX6 cy adP xL P]) (isC := [1]) (isR := [0]) hx hb hml hown hts (k_X6_hasSitting l G cy ev adP xL P a2 q3 h4) wm_27_19 wm_27_20 wm_27_21 wm_1_22 wm_27_22 hd_X6_hasSitting ⟨by decide, by decide⟩ hK hP hD hS hA hE rfl rfl rfl (cov_of (n := 2) rfl (by decide)) (by decide) rfl (recvW (ci := 1) hK hP rfl cX6_o rfl) rfl rfl hl.1 (Nat.le_of_ble_eq_true rfl) dX11_areSuch_16 (fun H locs hP hD hS => ?_)
    refine lv_if_eq (tgt := 26) hx hb dX11_areSuch_19 (by decide) (fun c9 => ?_) (fun c9 => ?_)
    · replace h := (br h).1 c9
      refine lv_iconst (v := 0) hx hb dX11_areSuch_26 (by decide) ?_
      exact retZ (fr := fun q => q) (fw := fun _ => wj [cX11 cy adX xT xR (adP 0) xS xIm xTr xC xWa xWb xWo xZ xU xD xE xB X, cX6 cy adP xL P]) h hx hb hr narZ0 hlocks hK hP hD hS dX11_areSuch_27
    · replace h := (br h).2 c9
      refine lv_iconst (v := 1) hx hb dX11_areSuch_22 (by decide) ?_
      refine lv_goto (tgt := 27) hx hb dX11_areSuch_23 (by decide) ?_
      exact retZ (fr := fun q => q) (fw := fun _ => wj [cX11 cy adX xT xR (adP 0) xS xIm xTr xC xWa xWb xWo xZ xU xD xE xB X, cX6 cy adP xL P]) h hx hb hr narZ1 hlocks hK hP hD hS dX11_areSuch_27
theorem hds_X11_likeNow : yX11_likeNow.cls ≠ "java/lang/invoke/MethodHandle" ∧ yX11_likeNow.cls ≠ "java/lang/invoke/VarHandle" ∧ (parseMethodDescriptor yX11_likeNow.desc).map (fun d => d.parameters.length) = some 2 := ⟨by decide +kernel, by decide +kernel, by decide +kernel⟩
theorem hd_X11_likeNow : yX11_likeNow.cls = RX11 ∧ yX11_likeNow.cls ≠ "java/lang/invoke/MethodHandle" ∧ yX11_likeNow.cls ≠ "java/lang/invoke/VarHandle" ∧ (parseMethodDescriptor yX11_likeNow.desc).map (fun d => d.parameters.length) = some 2 := ⟨rfl, hds_X11_likeNow⟩
def f_X11_likeNow (N : Nat) (X : VV) (P : VV) (L : VV) (S : VV) (Wa : VV) (a1 : Int32) (a2 : Int32) : Option (Int32 × VV) :=
  bnd (f_X0_manner N P L S Wa 0 a1 a2 0) (fun q1 => some (q1.1, q1.2))
set_option maxHeartbeats 4000000 in
set_option maxRecDepth 100000 in
theorem k_X11_likeNow (l : Launch) (G : va_G) (cy : Nat → ClassId) (ev : Nat → Nat) (N : Nat) (adX : Nat → Nat) (xT : Nat) (xR : Nat) (xIm : Nat) (xTr : Nat) (xC : Nat) (xWb : Nat) (xWo : Nat) (xZ : Nat) (xU : Nat) (xD : Nat) (xE : Nat) (xB : Nat) (X : VV) (adP : Nat → Nat) (P : VV) (adL : Nat → Nat) (L : VV) (adS : Nat → Nat) (S : VV) (adWa : Nat → Nat) (Wa : VV) (a1 : Int32) (a2 : Int32) (res : Int32 × VV) (h : f_X11_likeNow N X P L S Wa a1 a2 = some res) : MetI l yX11_likeNow cX11_likeNow 3 (some .int) 3 84 G cy ev [.ref (adX 0), .int a1, .int a2] (wj [cX11 cy adX xT xR (adP 0) (adS 0) xIm xTr xC (adWa 0) xWb xWo xZ xU xD xE xB X, cX6 cy adP (adL 0) P, cX3 cy adL L, cX8 cy adS S, cX10 cy adWa Wa]) res.1 (wj [cX11 cy adX xT xR (adP 0) (adS 0) xIm xTr xC (adWa 0) xWb xWo xZ xU xD xE xB X, cX6 cy adP (adL 0) P, cX3 cy adL res.2, cX8 cy adS S, cX10 cy adWa Wa]) := by
  refine MetQ.start (by decide +kernel) (Nat.le_of_ble_eq_true rfl) (fun p e s m args below meth c A ls hx hb hr hml hown hts hlocks hK hP hD hA hl hE => ?_)
  have hS : va_S A s.heap s.heap [] := va_S.rf
  have hown : s.vm.findClass RX11 = some m.cls := hown
  have hl : lv_has ls 3 [(0, .ref (adX 0)), (1, .int a1), (2, .int a2)] := hl
  delta f_X11_likeNow at h
  refine lv_iconst (v := 0) hx hb dX11_likeNow_0 (by decide) ?_
  refine lv_aload_n hx hb dX11_likeNow_1 rfl (lv_at hl 0 rfl) ?_
  refine go_11_29 (ci := 0) hx hb hts hown hK hE hP rfl dX11_likeNow_2 ?_
  refine lv_aload_n hx hb dX11_likeNow_5 rfl (lv_at hl 0 rfl) ?_
  refine go_11_36 (ci := 0) hx hb hts hown hK hE hP rfl dX11_likeNow_6 ?_
  refine lv_aload_n hx hb dX11_likeNow_9 rfl (lv_at hl 0 rfl) ?_
  refine go_11_60 (ci := 0) hx hb hts hown hK hE hP rfl dX11_likeNow_10 ?_
  refine lv_iload_n hx hb dX11_likeNow_13 rfl (lv_at hl 1 rfl) ?_
  refine lv_iload_n hx hb dX11_likeNow_14 rfl (lv_at hl 2 rfl) ?_
  refine lv_iconst (v := 0) hx hb dX11_likeNow_15 (by decide) ?_
  replace h := bd h
  obtain ⟨q1, h2, h⟩ := h
  refine callWSXi (As := [.int 0, .ref (adP 0), .ref (adS 0), .ref (adWa 0), .int a1, .int a2, .int 0]) (rest := []) (cs' := [cX11 cy adX xT xR (adP 0) (adS 0) xIm xTr xC (adWa 0) xWb xWo xZ xU xD xE xB X, cX6 cy adP (adL 0) P, cX3 cy adL q1.2, cX8 cy adS S, cX10 cy adWa Wa]) (isC := [1, 2, 3, 4]) (isR := [0]) hx hb hml hown hts (k_X0_manner l G cy ev N adP P adL L adS S adWa Wa 0 a1 a2 0 q1 h2) wm_38_2 wm_34_4 wm_2_9 wm_34_5 hds_X0_manner ⟨by decide, by decide⟩ hK hP hD hS hA hE rfl rfl rfl (cov_of (n := 5) rfl (by decide)) (by decide) rfl rfl rfl hl.1 (Nat.le_of_ble_eq_true rfl) dX11_likeNow_16 (fun H locs hP hD hS => ?_)
  exact retI (fr := fun q => q.1) (fw := fun q => wj [cX11 cy adX xT xR (adP 0) (adS 0) xIm xTr xC (adWa 0) xWb xWo xZ xU xD xE xB X, cX6 cy adP (adL 0) P, cX3 cy adL q.2, cX8 cy adS S, cX10 cy adWa Wa]) h hx hb hr hlocks hK hP hD hS dX11_likeNow_19
theorem hds_X11_ofLatestDay : yX11_ofLatestDay.cls ≠ "java/lang/invoke/MethodHandle" ∧ yX11_ofLatestDay.cls ≠ "java/lang/invoke/VarHandle" ∧ (parseMethodDescriptor yX11_ofLatestDay.desc).map (fun d => d.parameters.length) = some 2 := ⟨by decide +kernel, by decide +kernel, by decide +kernel⟩
theorem hd_X11_ofLatestDay : yX11_ofLatestDay.cls = RX11 ∧ yX11_ofLatestDay.cls ≠ "java/lang/invoke/MethodHandle" ∧ yX11_ofLatestDay.cls ≠ "java/lang/invoke/VarHandle" ∧ (parseMethodDescriptor yX11_ofLatestDay.desc).map (fun d => d.parameters.length) = some 2 := ⟨rfl, hds_X11_ofLatestDay⟩
def f_X11_ofLatestDay (X : VV) (P : VV) (S : VV) (a1 : Int32) (a2 : Int32) : Option (Int32) :=
  bnd (f_X6_hasSitting P a1) (fun q1 => if q1 = 0 then some ((-1)) else if a2 = 4 then gin a1 3 (some (S.2.1 13 a1.toNatClampNeg)) else if a2 = 5 then gin a1 3 (some (S.2.1 14 a1.toNatClampNeg)) else if a2 = 6 then gin a1 3 (some (S.2.1 15 a1.toNatClampNeg)) else if a2 = 7 then gin a1 3 (some (S.2.1 16 a1.toNatClampNeg)) else if a2 = 8 then gin a1 3 (some (S.2.1 17 a1.toNatClampNeg)) else some ((-1)))
set_option maxHeartbeats 4000000 in
set_option maxRecDepth 100000 in
theorem k_X11_ofLatestDay (l : Launch) (G : va_G) (cy : Nat → ClassId) (ev : Nat → Nat) (adX : Nat → Nat) (xT : Nat) (xR : Nat) (xIm : Nat) (xTr : Nat) (xC : Nat) (xWa : Nat) (xWb : Nat) (xWo : Nat) (xZ : Nat) (xU : Nat) (xD : Nat) (xE : Nat) (xB : Nat) (X : VV) (adP : Nat → Nat) (xL : Nat) (P : VV) (adS : Nat → Nat) (S : VV) (a1 : Int32) (a2 : Int32) (res : Int32) (h : f_X11_ofLatestDay X P S a1 a2 = some res) : MetI l yX11_ofLatestDay cX11_ofLatestDay 3 (some .int) 1 21 G cy ev [.ref (adX 0), .int a1, .int a2] (wj [cX11 cy adX xT xR (adP 0) (adS 0) xIm xTr xC xWa xWb xWo xZ xU xD xE xB X, cX6 cy adP xL P, cX8 cy adS S]) res (wj [cX11 cy adX xT xR (adP 0) (adS 0) xIm xTr xC xWa xWb xWo xZ xU xD xE xB X, cX6 cy adP xL P, cX8 cy adS S]) := by
  refine MetQ.start (by decide +kernel) (Nat.le_of_ble_eq_true rfl) (fun p e s m args below meth c A ls hx hb hr hml hown hts hlocks hK hP hD hA hl hE => ?_)
  have hS : va_S A s.heap s.heap [] := va_S.rf
  have hown : s.vm.findClass RX11 = some m.cls := hown
  have hl : lv_has ls 3 [(0, .ref (adX 0)), (1, .int a1), (2, .int a2)] := hl
  delta f_X11_ofLatestDay at h
  refine lv_aload_n hx hb dX11_ofLatestDay_0 rfl (lv_at hl 0 rfl) ?_
  refine go_11_29 (ci := 0) hx hb hts hown hK hE hP rfl dX11_ofLatestDay_1 ?_
  refine lv_iload_n hx hb dX11_ofLatestDay_4 rfl (lv_at hl 1 rfl) ?_
  replace h := bd h
  obtain ⟨q1, h2, h⟩ := h
  refine callWVi (As := [.int a1]) (rest := []) (cs' := [cX11 cy adX xT xR (adP 0) (adS 0) xIm xTr xC xWa xWb xWo xZ xU xD xE xB X, cX6 cy adP xL P, cX8 cy adS S]) (isC := [1]) (isR := [0, 2]) hx hb hml hown hts (k_X6_hasSitting l G cy ev adP xL P a1 q1 h2) wm_27_19 wm_27_20 wm_27_21 wm_1_22 wm_27_22 hd_X6_hasSitting ⟨by decide, by decide⟩ hK hP hD hS hA hE rfl rfl rfl (cov_of (n := 3) rfl (by decide)) (by decide) rfl (recvW (ci := 1) hK hP rfl cX6_o rfl) rfl rfl hl.1 (Nat.le_of_ble_eq_true rfl) dX11_ofLatestDay_5 (fun H locs hP hD hS => ?_)
  refine lv_if_ne (tgt := 13) hx hb dX11_ofLatestDay_8 (by decide) (fun c9 => ?_) (fun c9 => ?_)
  · replace h := (br h).2 c9
    refine lv_iload_n hx hb dX11_ofLatestDay_13 rfl (lv_at hl 2 rfl) ?_
    refine lv_topi (fun w3 ew3 => ?_)
    by_cases nw3_0 : a2 = 4
    · replace h := (br h).1 nw3_0
      rw [ew3, nw3_0]
      refine lv_tableIn (off := 34) (tgt := 48) hx hb dX11_ofLatestDay_14 (by decide) (by decide) rfl (by decide) ?_
      refine lv_aload_n hx hb dX11_ofLatestDay_48 rfl (lv_at hl 0 rfl) ?_
      refine go_11_36 (ci := 0) hx hb hts hown hK hE hP rfl dX11_ofLatestDay_49 ?_
      refine go_11_199 (ci := 2) hx hb hts hown hK hE hP rfl dX11_ofLatestDay_52 ?_
      refine lv_iload_n hx hb dX11_ofLatestDay_55 rfl (lv_at hl 1 rfl) ?_
      replace h := gin_inv h
      obtain ⟨h9, h⟩ := h
      refine ldWI (ci := 2) (k0 := 8) (g := S.2.1 13) (j := a1.toNatClampNeg) hx hb hK hP rfl cX8_a13 rfl h9 rfl dX11_ofLatestDay_56 ?_
      exact retI (fr := fun q => q) (fw := fun _ => wj [cX11 cy adX xT xR (adP 0) (adS 0) xIm xTr xC xWa xWb xWo xZ xU xD xE xB X, cX6 cy adP xL P, cX8 cy adS S]) h hx hb hr hlocks hK hP hD hS dX11_ofLatestDay_57
    · replace h := (br h).2 nw3_0
      by_cases nw3_1 : a2 = 5
      · replace h := (br h).1 nw3_1
        rw [ew3, nw3_1]
        refine lv_tableIn (off := 44) (tgt := 58) hx hb dX11_ofLatestDay_14 (by decide) (by decide) rfl (by decide) ?_
        refine lv_aload_n hx hb dX11_ofLatestDay_58 rfl (lv_at hl 0 rfl) ?_
        refine go_11_36 (ci := 0) hx hb hts hown hK hE hP rfl dX11_ofLatestDay_59 ?_
        refine go_11_202 (ci := 2) hx hb hts hown hK hE hP rfl dX11_ofLatestDay_62 ?_
        refine lv_iload_n hx hb dX11_ofLatestDay_65 rfl (lv_at hl 1 rfl) ?_
        replace h := gin_inv h
        obtain ⟨h9, h⟩ := h
        refine ldWI (ci := 2) (k0 := 9) (g := S.2.1 14) (j := a1.toNatClampNeg) hx hb hK hP rfl cX8_a14 rfl h9 rfl dX11_ofLatestDay_66 ?_
        exact retI (fr := fun q => q) (fw := fun _ => wj [cX11 cy adX xT xR (adP 0) (adS 0) xIm xTr xC xWa xWb xWo xZ xU xD xE xB X, cX6 cy adP xL P, cX8 cy adS S]) h hx hb hr hlocks hK hP hD hS dX11_ofLatestDay_67
      · replace h := (br h).2 nw3_1
        by_cases nw3_2 : a2 = 6
        · replace h := (br h).1 nw3_2
          rw [ew3, nw3_2]
          refine lv_tableIn (off := 54) (tgt := 68) hx hb dX11_ofLatestDay_14 (by decide) (by decide) rfl (by decide) ?_
          refine lv_aload_n hx hb dX11_ofLatestDay_68 rfl (lv_at hl 0 rfl) ?_
          refine go_11_36 (ci := 0) hx hb hts hown hK hE hP rfl dX11_ofLatestDay_69 ?_
          refine go_11_205 (ci := 2) hx hb hts hown hK hE hP rfl dX11_ofLatestDay_72 ?_
          refine lv_iload_n hx hb dX11_ofLatestDay_75 rfl (lv_at hl 1 rfl) ?_
          replace h := gin_inv h
          obtain ⟨h9, h⟩ := h
          refine ldWI (ci := 2) (k0 := 10) (g := S.2.1 15) (j := a1.toNatClampNeg) hx hb hK hP rfl cX8_a15 rfl h9 rfl dX11_ofLatestDay_76 ?_
          exact retI (fr := fun q => q) (fw := fun _ => wj [cX11 cy adX xT xR (adP 0) (adS 0) xIm xTr xC xWa xWb xWo xZ xU xD xE xB X, cX6 cy adP xL P, cX8 cy adS S]) h hx hb hr hlocks hK hP hD hS dX11_ofLatestDay_77
        · replace h := (br h).2 nw3_2
          by_cases nw3_3 : a2 = 7
          · replace h := (br h).1 nw3_3
            rw [ew3, nw3_3]
            refine lv_tableIn (off := 64) (tgt := 78) hx hb dX11_ofLatestDay_14 (by decide) (by decide) rfl (by decide) ?_
            refine lv_aload_n hx hb dX11_ofLatestDay_78 rfl (lv_at hl 0 rfl) ?_
            refine go_11_36 (ci := 0) hx hb hts hown hK hE hP rfl dX11_ofLatestDay_79 ?_
            refine go_11_208 (ci := 2) hx hb hts hown hK hE hP rfl dX11_ofLatestDay_82 ?_
            refine lv_iload_n hx hb dX11_ofLatestDay_85 rfl (lv_at hl 1 rfl) ?_
            replace h := gin_inv h
            obtain ⟨h9, h⟩ := h
            refine ldWI (ci := 2) (k0 := 11) (g := S.2.1 16) (j := a1.toNatClampNeg) hx hb hK hP rfl cX8_a16 rfl h9 rfl dX11_ofLatestDay_86 ?_
            exact retI (fr := fun q => q) (fw := fun _ => wj [cX11 cy adX xT xR (adP 0) (adS 0) xIm xTr xC xWa xWb xWo xZ xU xD xE xB X, cX6 cy adP xL P, cX8 cy adS S]) h hx hb hr hlocks hK hP hD hS dX11_ofLatestDay_87
          · replace h := (br h).2 nw3_3
            by_cases nw3_4 : a2 = 8
            · replace h := (br h).1 nw3_4
              rw [ew3, nw3_4]
              refine lv_tableIn (off := 74) (tgt := 88) hx hb dX11_ofLatestDay_14 (by decide) (by decide) rfl (by decide) ?_
              refine lv_aload_n hx hb dX11_ofLatestDay_88 rfl (lv_at hl 0 rfl) ?_
              refine go_11_36 (ci := 0) hx hb hts hown hK hE hP rfl dX11_ofLatestDay_89 ?_
              refine go_11_211 (ci := 2) hx hb hts hown hK hE hP rfl dX11_ofLatestDay_92 ?_
              refine lv_iload_n hx hb dX11_ofLatestDay_95 rfl (lv_at hl 1 rfl) ?_
              replace h := gin_inv h
              obtain ⟨h9, h⟩ := h
              refine ldWI (ci := 2) (k0 := 12) (g := S.2.1 17) (j := a1.toNatClampNeg) hx hb hK hP rfl cX8_a17 rfl h9 rfl dX11_ofLatestDay_96 ?_
              exact retI (fr := fun q => q) (fw := fun _ => wj [cX11 cy adX xT xR (adP 0) (adS 0) xIm xTr xC xWa xWb xWo xZ xU xD xE xB X, cX6 cy adP xL P, cX8 cy adS S]) h hx hb hr hlocks hK hP hD hS dX11_ofLatestDay_97
            · replace h := (br h).2 nw3_4
              rw [ew3]
              refine lv_tableOut (tgt := 98) hx hb dX11_ofLatestDay_14 (by have := ne_toInt (k := 4) 4 (by decide) nw3_0; have := ne_toInt (k := 5) 5 (by decide) nw3_1; have := ne_toInt (k := 6) 6 (by decide) nw3_2; have := ne_toInt (k := 7) 7 (by decide) nw3_3; have := ne_toInt (k := 8) 8 (by decide) nw3_4;  omega) (by decide) ?_
              refine lv_iconst (v := (-1)) hx hb dX11_ofLatestDay_98 (by decide) ?_
              exact retI (fr := fun q => q) (fw := fun _ => wj [cX11 cy adX xT xR (adP 0) (adS 0) xIm xTr xC xWa xWb xWo xZ xU xD xE xB X, cX6 cy adP xL P, cX8 cy adS S]) h hx hb hr hlocks hK hP hD hS dX11_ofLatestDay_99
  · replace h := (br h).1 c9
    refine lv_iconst (v := (-1)) hx hb dX11_ofLatestDay_11 (by decide) ?_
    exact retI (fr := fun q => q) (fw := fun _ => wj [cX11 cy adX xT xR (adP 0) (adS 0) xIm xTr xC xWa xWb xWo xZ xU xD xE xB X, cX6 cy adP xL P, cX8 cy adS S]) h hx hb hr hlocks hK hP hD hS dX11_ofLatestDay_12
theorem hds_X11_append : yX11_append.cls ≠ "java/lang/invoke/MethodHandle" ∧ yX11_append.cls ≠ "java/lang/invoke/VarHandle" ∧ (parseMethodDescriptor yX11_append.desc).map (fun d => d.parameters.length) = some 1 := ⟨by decide +kernel, by decide +kernel, by decide +kernel⟩
theorem hd_X11_append : yX11_append.cls = RX11 ∧ yX11_append.cls ≠ "java/lang/invoke/MethodHandle" ∧ yX11_append.cls ≠ "java/lang/invoke/VarHandle" ∧ (parseMethodDescriptor yX11_append.desc).map (fun d => d.parameters.length) = some 1 := ⟨rfl, hds_X11_append⟩
def f_X11_append_b40 (N : Nat) (X : VV) (T : Nat → Int32) (x1 : Int32) (x2 : Int32) : Option (((Int32 × VV × (Nat → Int32)) ⊕ (VV × (Nat → Int32)))) :=
  some (.inl (x2 + (-8), X, T))
def f_X11_append_s3 (N : Nat) (X : VV) (T : Nat → Int32) (x1 : Int32) (x2 : Int32) : Option (((Int32 × VV × (Nat → Int32)) ⊕ (VV × (Nat → Int32)))) :=
  if x2 < 0 then inrO (some (X, T)) else if (700 : Int32) ≤ X.1 1 then f_X11_append_b40 N X T x1 x2 else gin (X.1 1) 700 (f_X11_append_b40 N (si X 1 ((X.1 1) + 1)) (upd T ((X.1 1).toNatClampNeg) ((x1 >>> (x2 &&& 31)).toInt8.toInt32)) x1 x2)
def f_X11_append (N : Nat) (X : VV) (T : Nat → Int32) (a1 : Int32) : Option (VV × (Nat → Int32)) :=
  itr (fun q : Int32 × VV × (Nat → Int32) => f_X11_append_s3 N q.2.1 q.2.2 a1 q.1) N (24, X, T)
set_option maxHeartbeats 4000000 in
set_option maxRecDepth 100000 in
theorem k_X11_append (l : Launch) (G : va_G) (cy : Nat → ClassId) (ev : Nat → Nat) (N : Nat) (adX : Nat → Nat) (xR : Nat) (xP : Nat) (xS : Nat) (xIm : Nat) (xTr : Nat) (xC : Nat) (xWa : Nat) (xWb : Nat) (xWo : Nat) (xZ : Nat) (xU : Nat) (xD : Nat) (xE : Nat) (xB : Nat) (X : VV) (adT : Nat) (T : Nat → Int32) (a1 : Int32) (res : VV × (Nat → Int32)) (h : f_X11_append N X T a1 = some res) : MetV l yX11_append cX11_append 3 none 0 0 G cy ev [.ref (adX 0), .int a1] (wj [cX11 cy adX adT xR xP xS xIm xTr xC xWa xWb xWo xZ xU xD xE xB X, [(adT, .inl (cy 0, 700, .inl T))]]) (wj [cX11 cy adX adT xR xP xS xIm xTr xC xWa xWb xWo xZ xU xD xE xB res.1, [(adT, .inl (cy 0, 700, .inl res.2))]]) := by
  refine MetQ.start (by decide +kernel) (Nat.le_of_ble_eq_true rfl) (fun p e s m args below meth c A ls hx hb hr hml hown hts hlocks hK hP hD hA hl hE => ?_)
  have hS : va_S A s.heap s.heap [] := va_S.rf
  have hown : s.vm.findClass RX11 = some m.cls := hown
  have hl : lv_has ls 3 [(0, .ref (adX 0)), (1, .int a1)] := hl
  have L3 : ∀ (x1 : Int32) (n : Nat) (x2 : Int32) (X : VV) (T : Nat → Int32) (H : Heap) (locs : List Loc) (ls : Array Slot), itr (fun q : Int32 × VV × (Nat → Int32) => f_X11_append_s3 N q.2.1 q.2.2 x1 q.1) n (x2, X, T) = some res → va_P G vwCl (wj [cX11 cy adX adT xR xP xS xIm xTr xC xWa xWb xWo xZ xU xD xE xB X, [(adT, .inl (cy 0, 700, .inl T))]]) H → va_D A (wj [cX11 cy adX adT xR xP xS xIm xTr xC xWa xWb xWo xZ xU xD xE xB X, [(adT, .inl (cy 0, 700, .inl T))]]) → va_S A s.heap H locs → lv_has ls 3 [(0, .ref (adX 0)), (1, .int x1), (2, .int x2)] → W p l e (rmX 0 0) s m args below meth c H locs 0 0 (MQ below (mQv G cy A (wj [cX11 cy adX adT xR xP xS xIm xTr xC xWa xWb xWo xZ xU xD xE xB res.1, [(adT, .inl (cy 0, 700, .inl res.2))]])) args s 0 0 A) (F0 m 3 ls []) := by
    intro x1 n
    induction n with
    | zero => intro x2 X T H locs ls h; exact (itr_zero h).elim
    | succ n ih1 =>
      intro x2 X T H locs ls h hP hD hS hl
      obtain ⟨y1, h, hy1⟩ := itr_inv h
      have h : f_X11_append_s3 N X T x1 x2 = some y1 := h
      have B40 : ∀ (x2 : Int32) (X : VV) (T : Nat → Int32) (H : Heap) (locs : List Loc) (ls : Array Slot), f_X11_append_b40 N X T x1 x2 = some y1 → va_P G vwCl (wj [cX11 cy adX adT xR xP xS xIm xTr xC xWa xWb xWo xZ xU xD xE xB X, [(adT, .inl (cy 0, 700, .inl T))]]) H → va_D A (wj [cX11 cy adX adT xR xP xS xIm xTr xC xWa xWb xWo xZ xU xD xE xB X, [(adT, .inl (cy 0, 700, .inl T))]]) → va_S A s.heap H locs → lv_has ls 3 [(0, .ref (adX 0)), (1, .int x1), (2, .int x2)] → W p l e (rmX 0 0) s m args below meth c H locs 0 0 (MQ below (mQv G cy A (wj [cX11 cy adX adT xR xP xS xIm xTr xC xWa xWb xWo xZ xU xD xE xB res.1, [(adT, .inl (cy 0, 700, .inl res.2))]])) args s 0 0 A) (F0 m 40 ls []) := by
        intro x2 X T H locs ls h hP hD hS hl
        delta f_X11_append_b40 at h
        refine lv_iinc (v := x2 + (-8)) (lv' := [(2, .int (x2 + (-8))), (0, .ref (adX 0)), (1, .int x1)]) hx hb dX11_append_40 hl (k := 2) rfl rfl (by decide) rfl (fun ls hl => ?_)
        refine lv_goto (tgt := 3) hx hb dX11_append_43 (by decide) ?_
        replace h := itr_back h hy1
        exact ih1 (x2 + (-8)) X T _ _ _ h hP hD hS (lv_sub hl [1, 2, 0] rfl)
      delta f_X11_append_s3 at h
      refine lv_iload_n hx hb dX11_append_3 rfl (lv_at hl 2 rfl) ?_
      refine lv_if_lt (tgt := 46) hx hb dX11_append_4 (by decide) (fun c9 => ?_) (fun c9 => ?_)
      · replace h := (br h).1 c9
        replace h := itr_exit h hy1
        exact retV (fw := fun q => wj [cX11 cy adX adT xR xP xS xIm xTr xC xWa xWb xWo xZ xU xD xE xB q.1, [(adT, .inl (cy 0, 700, .inl q.2))]]) h hx hb hr hlocks hK hP hD hS dX11_append_46
      · replace h := (br h).2 c9
        refine lv_aload_n hx hb dX11_append_7 rfl (lv_at hl 0 rfl) ?_
        refine go_11_15 (ci := 0) (x := X.1 1) hx hb hts hown hK hE hP rfl rfl dX11_append_8 ?_
        refine lv_sipush (v := 700) hx hb dX11_append_11 (by decide) ?_
        refine lv_icmp_ge (tgt := 40) hx hb dX11_append_14 (by decide) (fun c9 => ?_) (fun c9 => ?_)
        · replace h := (br h).1 c9
          exact B40 x2 X T _ _ _ h hP hD hS (lv_sub hl [0, 1, 2] rfl)
        · replace h := (br h).2 c9
          refine lv_aload_n hx hb dX11_append_17 rfl (lv_at hl 0 rfl) ?_
          refine go_11_11 (ci := 0) hx hb hts hown hK hE hP rfl dX11_append_18 ?_
          refine lv_aload_n hx hb dX11_append_21 rfl (lv_at hl 0 rfl) ?_
          refine go_11_15 (ci := 0) (x := X.1 1) hx hb hts hown hK hE hP rfl rfl dX11_append_22 ?_
          refine lv_iload_n hx hb dX11_append_25 rfl (lv_at hl 1 rfl) ?_
          refine lv_iload_n hx hb dX11_append_26 rfl (lv_at hl 2 rfl) ?_
          refine lv_ishr hx hb dX11_append_27 ?_
          refine lv_i2b (v := (x1 >>> (x2 &&& 31)).toInt8.toInt32) hx hb dX11_append_28 rfl ?_
          replace h := gin_inv h
          obtain ⟨h9, h⟩ := h
          refine stWB (ci := 1) (k0 := 0) (j := (X.1 1).toNatClampNeg) (cs' := [cX11 cy adX adT xR xP xS xIm xTr xC xWa xWb xWo xZ xU xD xE xB X, [(adT, .inl (cy 0, 700, .inl (upd T ((X.1 1).toNatClampNeg) ((x1 >>> (x2 &&& 31)).toInt8.toInt32))))]]) hx hb hK hP hD hS rfl rfl h9 (pk_vb _) rfl rfl rfl dX11_append_29 (fun H locs hP hD hS => ?_)
          refine lv_aload_n hx hb dX11_append_30 rfl (lv_at hl 0 rfl) ?_
          refine lv_dup hx hb dX11_append_31 rfl ?_
          refine go_11_15 (ci := 0) (x := X.1 1) hx hb hts hown hK hE hP rfl rfl dX11_append_32 ?_
          refine lv_iconst (v := 1) hx hb dX11_append_35 (by decide) ?_
          refine lv_iadd hx hb dX11_append_36 ?_
          refine po_11_15 (ci := 0) (cs' := [cX11 cy adX adT xR xP xS xIm xTr xC xWa xWb xWo xZ xU xD xE xB (si X 1 ((X.1 1) + 1)), [(adT, .inl (cy 0, 700, .inl (upd T ((X.1 1).toNatClampNeg) ((x1 >>> (x2 &&& 31)).toInt8.toInt32))))]]) hx hb hts hown hK hE hP hD hS rfl rfl dX11_append_37 (fun H locs hP hD hS => ?_)
          exact B40 x2 (si X 1 ((X.1 1) + 1)) (upd T ((X.1 1).toNatClampNeg) ((x1 >>> (x2 &&& 31)).toInt8.toInt32)) _ _ _ h hP hD hS (lv_sub hl [0, 1, 2] rfl)
  delta f_X11_append at h
  refine lv_bipush (v := 24) hx hb dX11_append_0 (by decide) ?_
  refine lv_istore_n (lv' := [(2, .int 24), (0, .ref (adX 0)), (1, .int a1)]) hx hb dX11_append_2 rfl hl (by decide) rfl (fun ls hl => ?_)
  exact L3 a1 N 24 X T _ _ _ h hP hD hS (lv_sub hl [1, 2, 0] rfl)
theorem hds_X11_feed : yX11_feed.cls ≠ "java/lang/invoke/MethodHandle" ∧ yX11_feed.cls ≠ "java/lang/invoke/VarHandle" ∧ (parseMethodDescriptor yX11_feed.desc).map (fun d => d.parameters.length) = some 5 := ⟨by decide +kernel, by decide +kernel, by decide +kernel⟩
theorem hd_X11_feed : yX11_feed.cls = RX11 ∧ yX11_feed.cls ≠ "java/lang/invoke/MethodHandle" ∧ yX11_feed.cls ≠ "java/lang/invoke/VarHandle" ∧ (parseMethodDescriptor yX11_feed.desc).map (fun d => d.parameters.length) = some 5 := ⟨rfl, hds_X11_feed⟩
def f_X11_feed (N : Nat) (X : VV) (T : Nat → Int32) (a1 : Int32) (a2 : Int32) (a3 : Int32) (a4 : Int32) (a5 : Int32) : Option (Int32 × VV × (Nat → Int32)) :=
  if (X.1 1) + 20 ≤ 700 then bnd (f_X11_append N X T a1) (fun q1 => bnd (f_X11_append N q1.1 q1.2 a2) (fun q3 => bnd (f_X11_append N q3.1 q3.2 a3) (fun q5 => bnd (f_X11_append N q5.1 q5.2 a4) (fun q7 => bnd (f_X11_append N q7.1 q7.2 a5) (fun q9 => some (q9.1.1 1, q9.1, q9.2)))))) else some ((-1), X, T)
set_option maxHeartbeats 4000000 in
set_option maxRecDepth 100000 in
theorem k_X11_feed (l : Launch) (G : va_G) (cy : Nat → ClassId) (ev : Nat → Nat) (N : Nat) (adX : Nat → Nat) (xR : Nat) (xP : Nat) (xS : Nat) (xIm : Nat) (xTr : Nat) (xC : Nat) (xWa : Nat) (xWb : Nat) (xWo : Nat) (xZ : Nat) (xU : Nat) (xD : Nat) (xE : Nat) (xB : Nat) (X : VV) (adT : Nat) (T : Nat → Int32) (a1 : Int32) (a2 : Int32) (a3 : Int32) (a4 : Int32) (a5 : Int32) (res : Int32 × VV × (Nat → Int32)) (h : f_X11_feed N X T a1 a2 a3 a4 a5 = some res) : MetI l yX11_feed cX11_feed 6 (some .int) 1 22 G cy ev [.ref (adX 0), .int a1, .int a2, .int a3, .int a4, .int a5] (wj [cX11 cy adX adT xR xP xS xIm xTr xC xWa xWb xWo xZ xU xD xE xB X, [(adT, .inl (cy 0, 700, .inl T))]]) res.1 (wj [cX11 cy adX adT xR xP xS xIm xTr xC xWa xWb xWo xZ xU xD xE xB res.2.1, [(adT, .inl (cy 0, 700, .inl res.2.2))]]) := by
  refine MetQ.start (by decide +kernel) (Nat.le_of_ble_eq_true rfl) (fun p e s m args below meth c A ls hx hb hr hml hown hts hlocks hK hP hD hA hl hE => ?_)
  have hS : va_S A s.heap s.heap [] := va_S.rf
  have hown : s.vm.findClass RX11 = some m.cls := hown
  have hl : lv_has ls 6 [(0, .ref (adX 0)), (1, .int a1), (2, .int a2), (3, .int a3), (4, .int a4), (5, .int a5)] := hl
  delta f_X11_feed at h
  refine lv_aload_n hx hb dX11_feed_0 rfl (lv_at hl 0 rfl) ?_
  refine go_11_15 (ci := 0) (x := X.1 1) hx hb hts hown hK hE hP rfl rfl dX11_feed_1 ?_
  refine lv_bipush (v := 20) hx hb dX11_feed_4 (by decide) ?_
  refine lv_iadd hx hb dX11_feed_6 ?_
  refine lv_sipush (v := 700) hx hb dX11_feed_7 (by decide) ?_
  refine lv_icmp_le (tgt := 15) hx hb dX11_feed_10 (by decide) (fun c9 => ?_) (fun c9 => ?_)
  · replace h := (br h).1 c9
    refine lv_aload_n hx hb dX11_feed_15 rfl (lv_at hl 0 rfl) ?_
    refine lv_iload_n hx hb dX11_feed_16 rfl (lv_at hl 1 rfl) ?_
    replace h := bd h
    obtain ⟨q1, h2, h⟩ := h
    refine callWVv (As := [.int a1]) (rest := []) (cs' := [cX11 cy adX adT xR xP xS xIm xTr xC xWa xWb xWo xZ xU xD xE xB q1.1, [(adT, .inl (cy 0, 700, .inl q1.2))]]) (isC := [0, 1]) (isR := []) hx hb hml hown hts (k_X11_append l G cy ev N adX xR xP xS xIm xTr xC xWa xWb xWo xZ xU xD xE xB X adT T a1 q1 h2) wm_11_11 wm_11_12 wm_11_13 wm_1_2 wm_11_14 hd_X11_append ⟨by decide, by decide⟩ hK hP hD hS hA hE rfl rfl rfl (cov_of (n := 2) rfl (by decide)) (by decide) rfl (recvW (ci := 0) hK hP rfl cX11_o rfl) rfl rfl hl.1 (Nat.le_of_ble_eq_true rfl) dX11_feed_17 (fun H locs hP hD hS => ?_)
    refine lv_aload_n hx hb dX11_feed_20 rfl (lv_at hl 0 rfl) ?_
    refine lv_iload_n hx hb dX11_feed_21 rfl (lv_at hl 2 rfl) ?_
    replace h := bd h
    obtain ⟨q3, h4, h⟩ := h
    refine callWVv (As := [.int a2]) (rest := []) (cs' := [cX11 cy adX adT xR xP xS xIm xTr xC xWa xWb xWo xZ xU xD xE xB q3.1, [(adT, .inl (cy 0, 700, .inl q3.2))]]) (isC := [0, 1]) (isR := []) hx hb hml hown hts (k_X11_append l G cy ev N adX xR xP xS xIm xTr xC xWa xWb xWo xZ xU xD xE xB q1.1 adT q1.2 a2 q3 h4) wm_11_11 wm_11_12 wm_11_13 wm_1_2 wm_11_14 hd_X11_append ⟨by decide, by decide⟩ hK hP hD hS hA hE rfl rfl rfl (cov_of (n := 2) rfl (by decide)) (by decide) rfl (recvW (ci := 0) hK hP rfl cX11_o rfl) rfl rfl hl.1 (Nat.le_of_ble_eq_true rfl) dX11_feed_22 (fun H locs hP hD hS => ?_)
    refine lv_aload_n hx hb dX11_feed_25 rfl (lv_at hl 0 rfl) ?_
    refine lv_iload_n hx hb dX11_feed_26 rfl (lv_at hl 3 rfl) ?_
    replace h := bd h
    obtain ⟨q5, h6, h⟩ := h
    refine callWVv (As := [.int a3]) (rest := []) (cs' := [cX11 cy adX adT xR xP xS xIm xTr xC xWa xWb xWo xZ xU xD xE xB q5.1, [(adT, .inl (cy 0, 700, .inl q5.2))]]) (isC := [0, 1]) (isR := []) hx hb hml hown hts (k_X11_append l G cy ev N adX xR xP xS xIm xTr xC xWa xWb xWo xZ xU xD xE xB q3.1 adT q3.2 a3 q5 h6) wm_11_11 wm_11_12 wm_11_13 wm_1_2 wm_11_14 hd_X11_append ⟨by decide, by decide⟩ hK hP hD hS hA hE rfl rfl rfl (cov_of (n := 2) rfl (by decide)) (by decide) rfl (recvW (ci := 0) hK hP rfl cX11_o rfl) rfl rfl hl.1 (Nat.le_of_ble_eq_true rfl) dX11_feed_27 (fun H locs hP hD hS => ?_)
    refine lv_aload_n hx hb dX11_feed_30 rfl (lv_at hl 0 rfl) ?_
    refine lv_iload hx hb dX11_feed_31 (lv_at hl 4 rfl) ?_
    replace h := bd h
    obtain ⟨q7, h8, h⟩ := h
    refine callWVv (As := [.int a4]) (rest := []) (cs' := [cX11 cy adX adT xR xP xS xIm xTr xC xWa xWb xWo xZ xU xD xE xB q7.1, [(adT, .inl (cy 0, 700, .inl q7.2))]]) (isC := [0, 1]) (isR := []) hx hb hml hown hts (k_X11_append l G cy ev N adX xR xP xS xIm xTr xC xWa xWb xWo xZ xU xD xE xB q5.1 adT q5.2 a4 q7 h8) wm_11_11 wm_11_12 wm_11_13 wm_1_2 wm_11_14 hd_X11_append ⟨by decide, by decide⟩ hK hP hD hS hA hE rfl rfl rfl (cov_of (n := 2) rfl (by decide)) (by decide) rfl (recvW (ci := 0) hK hP rfl cX11_o rfl) rfl rfl hl.1 (Nat.le_of_ble_eq_true rfl) dX11_feed_33 (fun H locs hP hD hS => ?_)
    refine lv_aload_n hx hb dX11_feed_36 rfl (lv_at hl 0 rfl) ?_
    refine lv_iload hx hb dX11_feed_37 (lv_at hl 5 rfl) ?_
    replace h := bd h
    obtain ⟨q9, h10, h⟩ := h
    refine callWVv (As := [.int a5]) (rest := []) (cs' := [cX11 cy adX adT xR xP xS xIm xTr xC xWa xWb xWo xZ xU xD xE xB q9.1, [(adT, .inl (cy 0, 700, .inl q9.2))]]) (isC := [0, 1]) (isR := []) hx hb hml hown hts (k_X11_append l G cy ev N adX xR xP xS xIm xTr xC xWa xWb xWo xZ xU xD xE xB q7.1 adT q7.2 a5 q9 h10) wm_11_11 wm_11_12 wm_11_13 wm_1_2 wm_11_14 hd_X11_append ⟨by decide, by decide⟩ hK hP hD hS hA hE rfl rfl rfl (cov_of (n := 2) rfl (by decide)) (by decide) rfl (recvW (ci := 0) hK hP rfl cX11_o rfl) rfl rfl hl.1 (Nat.le_of_ble_eq_true rfl) dX11_feed_39 (fun H locs hP hD hS => ?_)
    refine lv_aload_n hx hb dX11_feed_42 rfl (lv_at hl 0 rfl) ?_
    refine go_11_15 (ci := 0) (x := q9.1.1 1) hx hb hts hown hK hE hP rfl rfl dX11_feed_43 ?_
    exact retI (fr := fun q => q.1) (fw := fun q => wj [cX11 cy adX adT xR xP xS xIm xTr xC xWa xWb xWo xZ xU xD xE xB q.2.1, [(adT, .inl (cy 0, 700, .inl q.2.2))]]) h hx hb hr hlocks hK hP hD hS dX11_feed_46
  · replace h := (br h).2 c9
    refine lv_iconst (v := (-1)) hx hb dX11_feed_13 (by decide) ?_
    exact retI (fr := fun q => q.1) (fw := fun q => wj [cX11 cy adX adT xR xP xS xIm xTr xC xWa xWb xWo xZ xU xD xE xB q.2.1, [(adT, .inl (cy 0, 700, .inl q.2.2))]]) h hx hb hr hlocks hK hP hD hS dX11_feed_14
theorem hds_X11_fault : yX11_fault.cls ≠ "java/lang/invoke/MethodHandle" ∧ yX11_fault.cls ≠ "java/lang/invoke/VarHandle" ∧ (parseMethodDescriptor yX11_fault.desc).map (fun d => d.parameters.length) = some 1 := ⟨by decide +kernel, by decide +kernel, by decide +kernel⟩
theorem hd_X11_fault : yX11_fault.cls = RX11 ∧ yX11_fault.cls ≠ "java/lang/invoke/MethodHandle" ∧ yX11_fault.cls ≠ "java/lang/invoke/VarHandle" ∧ (parseMethodDescriptor yX11_fault.desc).map (fun d => d.parameters.length) = some 1 := ⟨rfl, hds_X11_fault⟩
def f_X11_fault (X : VV) (R : VV) (a1 : Int32) : Option (Int32) :=
  if a1 = 0 then some (R.1 5) else if a1 = 1 then some (R.1 6) else some ((-1))
set_option maxHeartbeats 4000000 in
set_option maxRecDepth 100000 in
theorem k_X11_fault (l : Launch) (G : va_G) (cy : Nat → ClassId) (ev : Nat → Nat) (adX : Nat → Nat) (xT : Nat) (xP : Nat) (xS : Nat) (xIm : Nat) (xTr : Nat) (xC : Nat) (xWa : Nat) (xWb : Nat) (xWo : Nat) (xZ : Nat) (xU : Nat) (xD : Nat) (xE : Nat) (xB : Nat) (X : VV) (adR : Nat → Nat) (xK : Nat) (xQ : Nat) (R : VV) (a1 : Int32) (res : Int32) (h : f_X11_fault X R a1 = some res) : MetI l yX11_fault cX11_fault 2 (some .int) 0 0 G cy ev [.ref (adX 0), .int a1] (wj [cX11 cy adX xT (adR 0) xP xS xIm xTr xC xWa xWb xWo xZ xU xD xE xB X, cX7 cy adR xK xQ R]) res (wj [cX11 cy adX xT (adR 0) xP xS xIm xTr xC xWa xWb xWo xZ xU xD xE xB X, cX7 cy adR xK xQ R]) := by
  refine MetQ.start (by decide +kernel) (Nat.le_of_ble_eq_true rfl) (fun p e s m args below meth c A ls hx hb hr hml hown hts hlocks hK hP hD hA hl hE => ?_)
  have hS : va_S A s.heap s.heap [] := va_S.rf
  have hown : s.vm.findClass RX11 = some m.cls := hown
  have hl : lv_has ls 2 [(0, .ref (adX 0)), (1, .int a1)] := hl
  delta f_X11_fault at h
  refine lv_iload_n hx hb dX11_fault_0 rfl (lv_at hl 1 rfl) ?_
  refine lv_if_ne (tgt := 12) hx hb dX11_fault_1 (by decide) (fun c9 => ?_) (fun c9 => ?_)
  · replace h := (br h).2 c9
    refine lv_iload_n hx hb dX11_fault_12 rfl (lv_at hl 1 rfl) ?_
    refine lv_iconst (v := 1) hx hb dX11_fault_13 (by decide) ?_
    refine lv_icmp_ne (tgt := 27) hx hb dX11_fault_14 (by decide) (fun c9 => ?_) (fun c9 => ?_)
    · replace h := (br h).2 c9
      refine lv_iconst (v := (-1)) hx hb dX11_fault_27 (by decide) ?_
      exact retI (fr := fun q => q) (fw := fun _ => wj [cX11 cy adX xT (adR 0) xP xS xIm xTr xC xWa xWb xWo xZ xU xD xE xB X, cX7 cy adR xK xQ R]) h hx hb hr hlocks hK hP hD hS dX11_fault_28
    · replace h := (br h).1 c9
      refine lv_aload_n hx hb dX11_fault_17 rfl (lv_at hl 0 rfl) ?_
      refine go_11_22 (ci := 0) hx hb hts hown hK hE hP rfl dX11_fault_18 ?_
      refine go_11_134 (ci := 1) (x := R.1 6) hx hb hts hown hK hE hP rfl rfl dX11_fault_21 ?_
      refine lv_goto (tgt := 28) hx hb dX11_fault_24 (by decide) ?_
      exact retI (fr := fun q => q) (fw := fun _ => wj [cX11 cy adX xT (adR 0) xP xS xIm xTr xC xWa xWb xWo xZ xU xD xE xB X, cX7 cy adR xK xQ R]) h hx hb hr hlocks hK hP hD hS dX11_fault_28
  · replace h := (br h).1 c9
    refine lv_aload_n hx hb dX11_fault_4 rfl (lv_at hl 0 rfl) ?_
    refine go_11_22 (ci := 0) hx hb hts hown hK hE hP rfl dX11_fault_5 ?_
    refine go_11_131 (ci := 1) (x := R.1 5) hx hb hts hown hK hE hP rfl rfl dX11_fault_8 ?_
    exact retI (fr := fun q => q) (fw := fun _ => wj [cX11 cy adX xT (adR 0) xP xS xIm xTr xC xWa xWb xWo xZ xU xD xE xB X, cX7 cy adR xK xQ R]) h hx hb hr hlocks hK hP hD hS dX11_fault_11
theorem hds_X11_named : yX11_named.cls ≠ "java/lang/invoke/MethodHandle" ∧ yX11_named.cls ≠ "java/lang/invoke/VarHandle" ∧ (parseMethodDescriptor yX11_named.desc).map (fun d => d.parameters.length) = some 1 := ⟨by decide +kernel, by decide +kernel, by decide +kernel⟩
theorem hd_X11_named : yX11_named.cls = RX11 ∧ yX11_named.cls ≠ "java/lang/invoke/MethodHandle" ∧ yX11_named.cls ≠ "java/lang/invoke/VarHandle" ∧ (parseMethodDescriptor yX11_named.desc).map (fun d => d.parameters.length) = some 1 := ⟨rfl, hds_X11_named⟩
def f_X11_named (N : Nat) (X : VV) (P : VV) (a1 : Int32) : Option (Int32) :=
  bnd (f_X6_numberOf N P a1) (fun q1 => some q1)
set_option maxHeartbeats 4000000 in
set_option maxRecDepth 100000 in
theorem k_X11_named (l : Launch) (G : va_G) (cy : Nat → ClassId) (ev : Nat → Nat) (N : Nat) (adX : Nat → Nat) (xT : Nat) (xR : Nat) (xS : Nat) (xIm : Nat) (xTr : Nat) (xC : Nat) (xWa : Nat) (xWb : Nat) (xWo : Nat) (xZ : Nat) (xU : Nat) (xD : Nat) (xE : Nat) (xB : Nat) (X : VV) (adP : Nat → Nat) (xL : Nat) (P : VV) (a1 : Int32) (res : Int32) (h : f_X11_named N X P a1 = some res) : MetI l yX11_named cX11_named 2 (some .int) 1 22 G cy ev [.ref (adX 0), .int a1] (wj [cX11 cy adX xT xR (adP 0) xS xIm xTr xC xWa xWb xWo xZ xU xD xE xB X, cX6 cy adP xL P]) res (wj [cX11 cy adX xT xR (adP 0) xS xIm xTr xC xWa xWb xWo xZ xU xD xE xB X, cX6 cy adP xL P]) := by
  refine MetQ.start (by decide +kernel) (Nat.le_of_ble_eq_true rfl) (fun p e s m args below meth c A ls hx hb hr hml hown hts hlocks hK hP hD hA hl hE => ?_)
  have hS : va_S A s.heap s.heap [] := va_S.rf
  have hown : s.vm.findClass RX11 = some m.cls := hown
  have hl : lv_has ls 2 [(0, .ref (adX 0)), (1, .int a1)] := hl
  delta f_X11_named at h
  refine lv_aload_n hx hb dX11_named_0 rfl (lv_at hl 0 rfl) ?_
  refine go_11_29 (ci := 0) hx hb hts hown hK hE hP rfl dX11_named_1 ?_
  refine lv_iload_n hx hb dX11_named_4 rfl (lv_at hl 1 rfl) ?_
  replace h := bd h
  obtain ⟨q1, h2, h⟩ := h
  refine callWVi (As := [.int a1]) (rest := []) (cs' := [cX11 cy adX xT xR (adP 0) xS xIm xTr xC xWa xWb xWo xZ xU xD xE xB X, cX6 cy adP xL P]) (isC := [1]) (isR := [0]) hx hb hml hown hts (k_X6_numberOf l G cy ev N adP xL P a1 q1 h2) wm_25_16 wm_17_12 wm_17_13 wm_1_22 wm_17_14 hd_X6_numberOf ⟨by decide, by decide⟩ hK hP hD hS hA hE rfl rfl rfl (cov_of (n := 2) rfl (by decide)) (by decide) rfl (recvW (ci := 1) hK hP rfl cX6_o rfl) rfl rfl hl.1 (Nat.le_of_ble_eq_true rfl) dX11_named_5 (fun H locs hP hD hS => ?_)
  exact retI (fr := fun q => q) (fw := fun _ => wj [cX11 cy adX xT xR (adP 0) xS xIm xTr xC xWa xWb xWo xZ xU xD xE xB X, cX6 cy adP xL P]) h hx hb hr hlocks hK hP hD hS dX11_named_8
theorem hds_X11_wish : yX11_wish.cls ≠ "java/lang/invoke/MethodHandle" ∧ yX11_wish.cls ≠ "java/lang/invoke/VarHandle" ∧ (parseMethodDescriptor yX11_wish.desc).map (fun d => d.parameters.length) = some 2 := ⟨by decide +kernel, by decide +kernel, by decide +kernel⟩
theorem hd_X11_wish : yX11_wish.cls = RX11 ∧ yX11_wish.cls ≠ "java/lang/invoke/MethodHandle" ∧ yX11_wish.cls ≠ "java/lang/invoke/VarHandle" ∧ (parseMethodDescriptor yX11_wish.desc).map (fun d => d.parameters.length) = some 2 := ⟨rfl, hds_X11_wish⟩
def f_X11_wish (X : VV) (P : VV) (a1 : Int32) (a2 : Int32) : Option (Int32) :=
  bnd (f_X6_hasParty P a1) (fun q1 => if q1 = 0 then some ((-1)) else if a2 < 0 then some ((-1)) else if a2 < 3 then bnd (f_X6_trait P a1 (1 + a2)) (fun q3 => some q3) else some ((-1)))
set_option maxHeartbeats 4000000 in
set_option maxRecDepth 100000 in
theorem k_X11_wish (l : Launch) (G : va_G) (cy : Nat → ClassId) (ev : Nat → Nat) (adX : Nat → Nat) (xT : Nat) (xR : Nat) (xS : Nat) (xIm : Nat) (xTr : Nat) (xC : Nat) (xWa : Nat) (xWb : Nat) (xWo : Nat) (xZ : Nat) (xU : Nat) (xD : Nat) (xE : Nat) (xB : Nat) (X : VV) (adP : Nat → Nat) (xL : Nat) (P : VV) (a1 : Int32) (a2 : Int32) (res : Int32) (h : f_X11_wish X P a1 a2 = some res) : MetI l yX11_wish cX11_wish 3 (some .int) 1 22 G cy ev [.ref (adX 0), .int a1, .int a2] (wj [cX11 cy adX xT xR (adP 0) xS xIm xTr xC xWa xWb xWo xZ xU xD xE xB X, cX6 cy adP xL P]) res (wj [cX11 cy adX xT xR (adP 0) xS xIm xTr xC xWa xWb xWo xZ xU xD xE xB X, cX6 cy adP xL P]) := by
  refine MetQ.start (by decide +kernel) (Nat.le_of_ble_eq_true rfl) (fun p e s m args below meth c A ls hx hb hr hml hown hts hlocks hK hP hD hA hl hE => ?_)
  have hS : va_S A s.heap s.heap [] := va_S.rf
  have hown : s.vm.findClass RX11 = some m.cls := hown
  have hl : lv_has ls 3 [(0, .ref (adX 0)), (1, .int a1), (2, .int a2)] := hl
  delta f_X11_wish at h
  refine lv_aload_n hx hb dX11_wish_0 rfl (lv_at hl 0 rfl) ?_
  refine go_11_29 (ci := 0) hx hb hts hown hK hE hP rfl dX11_wish_1 ?_
  refine lv_iload_n hx hb dX11_wish_4 rfl (lv_at hl 1 rfl) ?_
  replace h := bd h
  obtain ⟨q1, h2, h⟩ := h
  refine callWVi (As := [.int a1]) (rest := []) (cs' := [cX11 cy adX xT xR (adP 0) xS xIm xTr xC xWa xWb xWo xZ xU xD xE xB X, cX6 cy adP xL P]) (isC := [1]) (isR := [0]) hx hb hml hown hts (k_X6_hasParty l G cy ev adP xL P a1 q1 h2) wm_26_11 wm_26_12 wm_26_13 wm_1_22 wm_26_14 hd_X6_hasParty ⟨by decide, by decide⟩ hK hP hD hS hA hE rfl rfl rfl (cov_of (n := 2) rfl (by decide)) (by decide) rfl (recvW (ci := 1) hK hP rfl cX6_o rfl) rfl rfl hl.1 (Nat.le_of_ble_eq_true rfl) dX11_wish_5 (fun H locs hP hD hS => ?_)
  refine lv_if_eq (tgt := 20) hx hb dX11_wish_8 (by decide) (fun c9 => ?_) (fun c9 => ?_)
  · replace h := (br h).1 c9
    refine lv_iconst (v := (-1)) hx hb dX11_wish_20 (by decide) ?_
    exact retI (fr := fun q => q) (fw := fun _ => wj [cX11 cy adX xT xR (adP 0) xS xIm xTr xC xWa xWb xWo xZ xU xD xE xB X, cX6 cy adP xL P]) h hx hb hr hlocks hK hP hD hS dX11_wish_21
  · replace h := (br h).2 c9
    refine lv_iload_n hx hb dX11_wish_11 rfl (lv_at hl 2 rfl) ?_
    refine lv_if_lt (tgt := 20) hx hb dX11_wish_12 (by decide) (fun c9 => ?_) (fun c9 => ?_)
    · replace h := (br h).1 c9
      refine lv_iconst (v := (-1)) hx hb dX11_wish_20 (by decide) ?_
      exact retI (fr := fun q => q) (fw := fun _ => wj [cX11 cy adX xT xR (adP 0) xS xIm xTr xC xWa xWb xWo xZ xU xD xE xB X, cX6 cy adP xL P]) h hx hb hr hlocks hK hP hD hS dX11_wish_21
    · replace h := (br h).2 c9
      refine lv_iload_n hx hb dX11_wish_15 rfl (lv_at hl 2 rfl) ?_
      refine lv_iconst (v := 3) hx hb dX11_wish_16 (by decide) ?_
      refine lv_icmp_lt (tgt := 22) hx hb dX11_wish_17 (by decide) (fun c9 => ?_) (fun c9 => ?_)
      · replace h := (br h).1 c9
        refine lv_aload_n hx hb dX11_wish_22 rfl (lv_at hl 0 rfl) ?_
        refine go_11_29 (ci := 0) hx hb hts hown hK hE hP rfl dX11_wish_23 ?_
        refine lv_iload_n hx hb dX11_wish_26 rfl (lv_at hl 1 rfl) ?_
        refine lv_iconst (v := 1) hx hb dX11_wish_27 (by decide) ?_
        refine lv_iload_n hx hb dX11_wish_28 rfl (lv_at hl 2 rfl) ?_
        refine lv_iadd hx hb dX11_wish_29 ?_
        replace h := bd h
        obtain ⟨q3, h4, h⟩ := h
        refine callWVi (As := [.int a1, .int (1 + a2)]) (rest := []) (cs' := [cX11 cy adX xT xR (adP 0) xS xIm xTr xC xWa xWb xWo xZ xU xD xE xB X, cX6 cy adP xL P]) (isC := [1]) (isR := [0]) hx hb hml hown hts (k_X6_trait l G cy ev adP xL P a1 (1 + a2) q3 h4) wm_26_15 wm_26_16 wm_26_17 wm_1_22 wm_26_18 hd_X6_trait ⟨by decide, by decide⟩ hK hP hD hS hA hE rfl rfl rfl (cov_of (n := 2) rfl (by decide)) (by decide) rfl (recvW (ci := 1) hK hP rfl cX6_o rfl) rfl rfl hl.1 (Nat.le_of_ble_eq_true rfl) dX11_wish_30 (fun H locs hP hD hS => ?_)
        exact retI (fr := fun q => q) (fw := fun _ => wj [cX11 cy adX xT xR (adP 0) xS xIm xTr xC xWa xWb xWo xZ xU xD xE xB X, cX6 cy adP xL P]) h hx hb hr hlocks hK hP hD hS dX11_wish_33
      · replace h := (br h).2 c9
        refine lv_iconst (v := (-1)) hx hb dX11_wish_20 (by decide) ?_
        exact retI (fr := fun q => q) (fw := fun _ => wj [cX11 cy adX xT xR (adP 0) xS xIm xTr xC xWa xWb xWo xZ xU xD xE xB X, cX6 cy adP xL P]) h hx hb hr hlocks hK hP hD hS dX11_wish_21
theorem hds_X11_sitting : yX11_sitting.cls ≠ "java/lang/invoke/MethodHandle" ∧ yX11_sitting.cls ≠ "java/lang/invoke/VarHandle" ∧ (parseMethodDescriptor yX11_sitting.desc).map (fun d => d.parameters.length) = some 2 := ⟨by decide +kernel, by decide +kernel, by decide +kernel⟩
theorem hd_X11_sitting : yX11_sitting.cls = RX11 ∧ yX11_sitting.cls ≠ "java/lang/invoke/MethodHandle" ∧ yX11_sitting.cls ≠ "java/lang/invoke/VarHandle" ∧ (parseMethodDescriptor yX11_sitting.desc).map (fun d => d.parameters.length) = some 2 := ⟨rfl, hds_X11_sitting⟩
def f_X11_sitting (N : Nat) (X : VV) (P : VV) (S : VV) (a1 : Int32) (a2 : Int32) : Option (Int32) :=
  bnd (f_X6_hasSitting P a1) (fun q1 => if q1 = 0 then some ((-1)) else if a2 = 0 then gin a1 3 (some (P.2.1 4 a1.toNatClampNeg)) else if a2 = 1 then gin a1 3 (some (S.2.1 4 a1.toNatClampNeg)) else if a2 = 2 then gin a1 3 (some (S.2.1 3 a1.toNatClampNeg)) else if a2 = 3 then bnd (f_X8_personsFor N S P a1) (fun q4 => some q4) else if S.1 12 = 0 then some ((-1)) else bnd (f_X11_ofLatestDay X P S a1 a2) (fun q6 => some q6))
set_option maxHeartbeats 4000000 in
set_option maxRecDepth 100000 in
theorem k_X11_sitting (l : Launch) (G : va_G) (cy : Nat → ClassId) (ev : Nat → Nat) (N : Nat) (adX : Nat → Nat) (xT : Nat) (xR : Nat) (xIm : Nat) (xTr : Nat) (xC : Nat) (xWa : Nat) (xWb : Nat) (xWo : Nat) (xZ : Nat) (xU : Nat) (xD : Nat) (xE : Nat) (xB : Nat) (X : VV) (adP : Nat → Nat) (xL : Nat) (P : VV) (adS : Nat → Nat) (S : VV) (a1 : Int32) (a2 : Int32) (res : Int32) (h : f_X11_sitting N X P S a1 a2 = some res) : MetI l yX11_sitting cX11_sitting 3 (some .int) 2 46 G cy ev [.ref (adX 0), .int a1, .int a2] (wj [cX11 cy adX xT xR (adP 0) (adS 0) xIm xTr xC xWa xWb xWo xZ xU xD xE xB X, cX6 cy adP xL P, cX8 cy adS S]) res (wj [cX11 cy adX xT xR (adP 0) (adS 0) xIm xTr xC xWa xWb xWo xZ xU xD xE xB X, cX6 cy adP xL P, cX8 cy adS S]) := by
  refine MetQ.start (by decide +kernel) (Nat.le_of_ble_eq_true rfl) (fun p e s m args below meth c A ls hx hb hr hml hown hts hlocks hK hP hD hA hl hE => ?_)
  have hS : va_S A s.heap s.heap [] := va_S.rf
  have hown : s.vm.findClass RX11 = some m.cls := hown
  have hl : lv_has ls 3 [(0, .ref (adX 0)), (1, .int a1), (2, .int a2)] := hl
  delta f_X11_sitting at h
  refine lv_aload_n hx hb dX11_sitting_0 rfl (lv_at hl 0 rfl) ?_
  refine go_11_29 (ci := 0) hx hb hts hown hK hE hP rfl dX11_sitting_1 ?_
  refine lv_iload_n hx hb dX11_sitting_4 rfl (lv_at hl 1 rfl) ?_
  replace h := bd h
  obtain ⟨q1, h2, h⟩ := h
  refine callWVi (As := [.int a1]) (rest := []) (cs' := [cX11 cy adX xT xR (adP 0) (adS 0) xIm xTr xC xWa xWb xWo xZ xU xD xE xB X, cX6 cy adP xL P, cX8 cy adS S]) (isC := [1]) (isR := [0, 2]) hx hb hml hown hts (k_X6_hasSitting l G cy ev adP xL P a1 q1 h2) wm_27_19 wm_27_20 wm_27_21 wm_1_22 wm_27_22 hd_X6_hasSitting ⟨by decide, by decide⟩ hK hP hD hS hA hE rfl rfl rfl (cov_of (n := 3) rfl (by decide)) (by decide) rfl (recvW (ci := 1) hK hP rfl cX6_o rfl) rfl rfl hl.1 (Nat.le_of_ble_eq_true rfl) dX11_sitting_5 (fun H locs hP hD hS => ?_)
  refine lv_if_ne (tgt := 13) hx hb dX11_sitting_8 (by decide) (fun c9 => ?_) (fun c9 => ?_)
  · replace h := (br h).2 c9
    refine lv_iload_n hx hb dX11_sitting_13 rfl (lv_at hl 2 rfl) ?_
    refine lv_topi (fun w3 ew3 => ?_)
    by_cases nw3_0 : a2 = 0
    · replace h := (br h).1 nw3_0
      rw [ew3, nw3_0]
      refine lv_tableIn (off := 30) (tgt := 44) hx hb dX11_sitting_14 (by decide) (by decide) rfl (by decide) ?_
      refine lv_aload_n hx hb dX11_sitting_44 rfl (lv_at hl 0 rfl) ?_
      refine go_11_29 (ci := 0) hx hb hts hown hK hE hP rfl dX11_sitting_45 ?_
      refine go_11_180 (ci := 1) hx hb hts hown hK hE hP rfl dX11_sitting_48 ?_
      refine lv_iload_n hx hb dX11_sitting_51 rfl (lv_at hl 1 rfl) ?_
      replace h := gin_inv h
      obtain ⟨h9, h⟩ := h
      refine ldWI (ci := 1) (k0 := 3) (g := P.2.1 4) (j := a1.toNatClampNeg) hx hb hK hP rfl cX6_a4 rfl h9 rfl dX11_sitting_52 ?_
      exact retI (fr := fun q => q) (fw := fun _ => wj [cX11 cy adX xT xR (adP 0) (adS 0) xIm xTr xC xWa xWb xWo xZ xU xD xE xB X, cX6 cy adP xL P, cX8 cy adS S]) h hx hb hr hlocks hK hP hD hS dX11_sitting_53
    · replace h := (br h).2 nw3_0
      by_cases nw3_1 : a2 = 1
      · replace h := (br h).1 nw3_1
        rw [ew3, nw3_1]
        refine lv_tableIn (off := 40) (tgt := 54) hx hb dX11_sitting_14 (by decide) (by decide) rfl (by decide) ?_
        refine lv_aload_n hx hb dX11_sitting_54 rfl (lv_at hl 0 rfl) ?_
        refine go_11_36 (ci := 0) hx hb hts hown hK hE hP rfl dX11_sitting_55 ?_
        refine go_11_183 (ci := 2) hx hb hts hown hK hE hP rfl dX11_sitting_58 ?_
        refine lv_iload_n hx hb dX11_sitting_61 rfl (lv_at hl 1 rfl) ?_
        replace h := gin_inv h
        obtain ⟨h9, h⟩ := h
        refine ldWI (ci := 2) (k0 := 3) (g := S.2.1 4) (j := a1.toNatClampNeg) hx hb hK hP rfl cX8_a4 rfl h9 rfl dX11_sitting_62 ?_
        exact retI (fr := fun q => q) (fw := fun _ => wj [cX11 cy adX xT xR (adP 0) (adS 0) xIm xTr xC xWa xWb xWo xZ xU xD xE xB X, cX6 cy adP xL P, cX8 cy adS S]) h hx hb hr hlocks hK hP hD hS dX11_sitting_63
      · replace h := (br h).2 nw3_1
        by_cases nw3_2 : a2 = 2
        · replace h := (br h).1 nw3_2
          rw [ew3, nw3_2]
          refine lv_tableIn (off := 50) (tgt := 64) hx hb dX11_sitting_14 (by decide) (by decide) rfl (by decide) ?_
          refine lv_aload_n hx hb dX11_sitting_64 rfl (lv_at hl 0 rfl) ?_
          refine go_11_36 (ci := 0) hx hb hts hown hK hE hP rfl dX11_sitting_65 ?_
          refine go_11_186 (ci := 2) hx hb hts hown hK hE hP rfl dX11_sitting_68 ?_
          refine lv_iload_n hx hb dX11_sitting_71 rfl (lv_at hl 1 rfl) ?_
          replace h := gin_inv h
          obtain ⟨h9, h⟩ := h
          refine ldWI (ci := 2) (k0 := 2) (g := S.2.1 3) (j := a1.toNatClampNeg) hx hb hK hP rfl cX8_a3 rfl h9 rfl dX11_sitting_72 ?_
          exact retI (fr := fun q => q) (fw := fun _ => wj [cX11 cy adX xT xR (adP 0) (adS 0) xIm xTr xC xWa xWb xWo xZ xU xD xE xB X, cX6 cy adP xL P, cX8 cy adS S]) h hx hb hr hlocks hK hP hD hS dX11_sitting_73
        · replace h := (br h).2 nw3_2
          by_cases nw3_3 : a2 = 3
          · replace h := (br h).1 nw3_3
            rw [ew3, nw3_3]
            refine lv_tableIn (off := 60) (tgt := 74) hx hb dX11_sitting_14 (by decide) (by decide) rfl (by decide) ?_
            refine lv_aload_n hx hb dX11_sitting_74 rfl (lv_at hl 0 rfl) ?_
            refine go_11_36 (ci := 0) hx hb hts hown hK hE hP rfl dX11_sitting_75 ?_
            refine lv_iload_n hx hb dX11_sitting_78 rfl (lv_at hl 1 rfl) ?_
            refine lv_aload_n hx hb dX11_sitting_79 rfl (lv_at hl 0 rfl) ?_
            refine go_11_29 (ci := 0) hx hb hts hown hK hE hP rfl dX11_sitting_80 ?_
            replace h := bd h
            obtain ⟨q4, h5, h⟩ := h
            refine callWVi (As := [.int a1, .ref (adP 0)]) (rest := []) (cs' := [cX11 cy adX xT xR (adP 0) (adS 0) xIm xTr xC xWa xWb xWo xZ xU xD xE xB X, cX6 cy adP xL P, cX8 cy adS S]) (isC := [2, 1]) (isR := [0]) hx hb hml hown hts (k_X8_personsFor l G cy ev N adS S adP xL P a1 q4 h5) wm_27_23 wm_28_0 wm_28_1 wm_2_2 wm_28_2 hd_X8_personsFor ⟨by decide, by decide⟩ hK hP hD hS hA hE rfl rfl rfl (cov_of (n := 3) rfl (by decide)) (by decide) rfl (recvW (ci := 2) hK hP rfl cX8_o rfl) rfl rfl hl.1 (Nat.le_of_ble_eq_true rfl) dX11_sitting_83 (fun H locs hP hD hS => ?_)
            exact retI (fr := fun q => q) (fw := fun _ => wj [cX11 cy adX xT xR (adP 0) (adS 0) xIm xTr xC xWa xWb xWo xZ xU xD xE xB X, cX6 cy adP xL P, cX8 cy adS S]) h hx hb hr hlocks hK hP hD hS dX11_sitting_86
          · replace h := (br h).2 nw3_3
            rw [ew3]
            refine lv_tableOut (tgt := 87) hx hb dX11_sitting_14 (by have := ne_toInt (k := 0) 0 (by decide) nw3_0; have := ne_toInt (k := 1) 1 (by decide) nw3_1; have := ne_toInt (k := 2) 2 (by decide) nw3_2; have := ne_toInt (k := 3) 3 (by decide) nw3_3;  omega) (by decide) ?_
            refine lv_aload_n hx hb dX11_sitting_87 rfl (lv_at hl 0 rfl) ?_
            refine go_11_36 (ci := 0) hx hb hts hown hK hE hP rfl dX11_sitting_88 ?_
            refine go_11_193 (ci := 2) (x := S.1 12) hx hb hts hown hK hE hP rfl rfl dX11_sitting_91 ?_
            refine lv_if_eq (tgt := 106) hx hb dX11_sitting_94 (by decide) (fun c9 => ?_) (fun c9 => ?_)
            · replace h := (br h).1 c9
              refine lv_iconst (v := (-1)) hx hb dX11_sitting_106 (by decide) ?_
              exact retI (fr := fun q => q) (fw := fun _ => wj [cX11 cy adX xT xR (adP 0) (adS 0) xIm xTr xC xWa xWb xWo xZ xU xD xE xB X, cX6 cy adP xL P, cX8 cy adS S]) h hx hb hr hlocks hK hP hD hS dX11_sitting_107
            · replace h := (br h).2 c9
              refine lv_aload_n hx hb dX11_sitting_97 rfl (lv_at hl 0 rfl) ?_
              refine lv_iload_n hx hb dX11_sitting_98 rfl (lv_at hl 1 rfl) ?_
              refine lv_iload_n hx hb dX11_sitting_99 rfl (lv_at hl 2 rfl) ?_
              replace h := bd h
              obtain ⟨q6, h7, h⟩ := h
              refine callWVi (As := [.int a1, .int a2]) (rest := []) (cs' := [cX11 cy adX xT xR (adP 0) (adS 0) xIm xTr xC xWa xWb xWo xZ xU xD xE xB X, cX6 cy adP xL P, cX8 cy adS S]) (isC := [0, 1, 2]) (isR := []) hx hb hml hown hts (k_X11_ofLatestDay l G cy ev adX xT xR xIm xTr xC xWa xWb xWo xZ xU xD xE xB X adP xL P adS S a1 a2 q6 h7) wm_28_4 wm_28_5 wm_28_6 wm_1_2 wm_28_7 hd_X11_ofLatestDay ⟨by decide, by decide⟩ hK hP hD hS hA hE rfl rfl rfl (cov_of (n := 3) rfl (by decide)) (by decide) rfl (recvW (ci := 0) hK hP rfl cX11_o rfl) rfl rfl hl.1 (Nat.le_of_ble_eq_true rfl) dX11_sitting_100 (fun H locs hP hD hS => ?_)
              refine lv_goto (tgt := 107) hx hb dX11_sitting_103 (by decide) ?_
              exact retI (fr := fun q => q) (fw := fun _ => wj [cX11 cy adX xT xR (adP 0) (adS 0) xIm xTr xC xWa xWb xWo xZ xU xD xE xB X, cX6 cy adP xL P, cX8 cy adS S]) h hx hb hr hlocks hK hP hD hS dX11_sitting_107
  · replace h := (br h).1 c9
    refine lv_iconst (v := (-1)) hx hb dX11_sitting_11 (by decide) ?_
    exact retI (fr := fun q => q) (fw := fun _ => wj [cX11 cy adX xT xR (adP 0) (adS 0) xIm xTr xC xWa xWb xWo xZ xU xD xE xB X, cX6 cy adP xL P, cX8 cy adS S]) h hx hb hr hlocks hK hP hD hS dX11_sitting_12
theorem hds_X11_law : yX11_law.cls ≠ "java/lang/invoke/MethodHandle" ∧ yX11_law.cls ≠ "java/lang/invoke/VarHandle" ∧ (parseMethodDescriptor yX11_law.desc).map (fun d => d.parameters.length) = some 4 := ⟨by decide +kernel, by decide +kernel, by decide +kernel⟩
theorem hd_X11_law : yX11_law.cls = RX11 ∧ yX11_law.cls ≠ "java/lang/invoke/MethodHandle" ∧ yX11_law.cls ≠ "java/lang/invoke/VarHandle" ∧ (parseMethodDescriptor yX11_law.desc).map (fun d => d.parameters.length) = some 4 := ⟨rfl, hds_X11_law⟩
def f_X11_law_b31 (N : Nat) (X : VV) (P : VV) (L : VV) (S : VV) (Wa : VV)  : Option (Int64 × VV) :=
  some ((-9223372036854775808), L)
def f_X11_law (N : Nat) (X : VV) (P : VV) (L : VV) (S : VV) (Wa : VV) (a1 : Int32) (a2 : Int32) (a3 : Int32) (a4 : Int32) : Option (Int64 × VV) :=
  if a1 < 0 then f_X11_law_b31 N X P L S Wa else if (3 : Int32) ≤ a1 then f_X11_law_b31 N X P L S Wa else bnd (f_X11_areSuch X P a2 a3) (fun q1 => if q1 = 0 then f_X11_law_b31 N X P L S Wa else if a4 < 0 then f_X11_law_b31 N X P L S Wa else if a4 ≤ 999 then bnd (f_X0_look P L S Wa a2 a3 a4) (fun q3 => bnd (f_X3_work N q3 a1) (fun q5 => some (q5.1, q5.2))) else f_X11_law_b31 N X P L S Wa)
set_option maxHeartbeats 4000000 in
set_option maxRecDepth 100000 in
theorem k_X11_law (l : Launch) (G : va_G) (cy : Nat → ClassId) (ev : Nat → Nat) (N : Nat) (adX : Nat → Nat) (xT : Nat) (xR : Nat) (xIm : Nat) (xTr : Nat) (xC : Nat) (xWb : Nat) (xWo : Nat) (xZ : Nat) (xU : Nat) (xD : Nat) (xE : Nat) (xB : Nat) (X : VV) (adP : Nat → Nat) (P : VV) (adL : Nat → Nat) (L : VV) (adS : Nat → Nat) (S : VV) (adWa : Nat → Nat) (Wa : VV) (a1 : Int32) (a2 : Int32) (a3 : Int32) (a4 : Int32) (res : Int64 × VV) (h : f_X11_law N X P L S Wa a1 a2 a3 a4 = some res) : MetL l yX11_law cX11_law 5 (some .long) 2 55 G cy ev [.ref (adX 0), .int a1, .int a2, .int a3, .int a4] (wj [cX11 cy adX xT xR (adP 0) (adS 0) xIm xTr xC (adWa 0) xWb xWo xZ xU xD xE xB X, cX6 cy adP (adL 0) P, cX3 cy adL L, cX8 cy adS S, cX10 cy adWa Wa]) res.1 (wj [cX11 cy adX xT xR (adP 0) (adS 0) xIm xTr xC (adWa 0) xWb xWo xZ xU xD xE xB X, cX6 cy adP (adL 0) P, cX3 cy adL res.2, cX8 cy adS S, cX10 cy adWa Wa]) := by
  refine MetQ.start (by decide +kernel) (Nat.le_of_ble_eq_true rfl) (fun p e s m args below meth c A ls hx hb hr hml hown hts hlocks hK hP hD hA hl hE => ?_)
  have hS : va_S A s.heap s.heap [] := va_S.rf
  have hown : s.vm.findClass RX11 = some m.cls := hown
  have hl : lv_has ls 5 [(0, .ref (adX 0)), (1, .int a1), (2, .int a2), (3, .int a3), (4, .int a4)] := hl
  have B31 : ∀ (L : VV) (H : Heap) (locs : List Loc) (ls : Array Slot), f_X11_law_b31 N X P L S Wa = some res → va_P G vwCl (wj [cX11 cy adX xT xR (adP 0) (adS 0) xIm xTr xC (adWa 0) xWb xWo xZ xU xD xE xB X, cX6 cy adP (adL 0) P, cX3 cy adL L, cX8 cy adS S, cX10 cy adWa Wa]) H → va_D A (wj [cX11 cy adX xT xR (adP 0) (adS 0) xIm xTr xC (adWa 0) xWb xWo xZ xU xD xE xB X, cX6 cy adP (adL 0) P, cX3 cy adL L, cX8 cy adS S, cX10 cy adWa Wa]) → va_S A s.heap H locs → lv_has ls 5 [] → W p l e (rmX 2 55) s m args below meth c H locs 0 0 (MQ below (mQl (res.1) G cy A (wj [cX11 cy adX xT xR (adP 0) (adS 0) xIm xTr xC (adWa 0) xWb xWo xZ xU xD xE xB X, cX6 cy adP (adL 0) P, cX3 cy adL res.2, cX8 cy adS S, cX10 cy adWa Wa])) args s 0 0 A) (F0 m 31 ls []) := by
    intro L H locs ls h hP hD hS hl
    delta f_X11_law_b31 at h
    refine lv_ldc2 (v := (-9223372036854775808)) hx hb hown (hts _ wm_29_0) dX11_law_31 ?_
    exact retL (fr := fun q => q.1) (fw := fun q => wj [cX11 cy adX xT xR (adP 0) (adS 0) xIm xTr xC (adWa 0) xWb xWo xZ xU xD xE xB X, cX6 cy adP (adL 0) P, cX3 cy adL q.2, cX8 cy adS S, cX10 cy adWa Wa]) h hx hb hr hlocks hK hP hD hS dX11_law_34
  delta f_X11_law at h
  refine lv_iload_n hx hb dX11_law_0 rfl (lv_at hl 1 rfl) ?_
  refine lv_if_lt (tgt := 31) hx hb dX11_law_1 (by decide) (fun c9 => ?_) (fun c9 => ?_)
  · replace h := (br h).1 c9
    exact B31 L _ _ _ h hP hD hS (lv_sub hl [] rfl)
  · replace h := (br h).2 c9
    refine lv_iload_n hx hb dX11_law_4 rfl (lv_at hl 1 rfl) ?_
    refine lv_iconst (v := 3) hx hb dX11_law_5 (by decide) ?_
    refine lv_icmp_ge (tgt := 31) hx hb dX11_law_6 (by decide) (fun c9 => ?_) (fun c9 => ?_)
    · replace h := (br h).1 c9
      exact B31 L _ _ _ h hP hD hS (lv_sub hl [] rfl)
    · replace h := (br h).2 c9
      refine lv_aload_n hx hb dX11_law_9 rfl (lv_at hl 0 rfl) ?_
      refine lv_iload_n hx hb dX11_law_10 rfl (lv_at hl 2 rfl) ?_
      refine lv_iload_n hx hb dX11_law_11 rfl (lv_at hl 3 rfl) ?_
      replace h := bd h
      obtain ⟨q1, h2, h⟩ := h
      refine callWVi (As := [.int a2, .int a3]) (rest := []) (cs' := [cX11 cy adX xT xR (adP 0) (adS 0) xIm xTr xC (adWa 0) xWb xWo xZ xU xD xE xB X, cX6 cy adP (adL 0) P, cX3 cy adL L, cX8 cy adS S, cX10 cy adWa Wa]) (isC := [0, 1]) (isR := [2, 3, 4]) hx hb hml hown hts (k_X11_areSuch l G cy ev adX xT xR (adS 0) xIm xTr xC (adWa 0) xWb xWo xZ xU xD xE xB X adP (adL 0) P a2 a3 q1 h2) wm_29_1 wm_29_2 wm_29_3 wm_1_2 wm_29_4 hd_X11_areSuch ⟨by decide, by decide⟩ hK hP hD hS hA hE rfl rfl rfl (cov_of (n := 5) rfl (by decide)) (by decide) rfl (recvW (ci := 0) hK hP rfl cX11_o rfl) rfl rfl hl.1 (Nat.le_of_ble_eq_true rfl) dX11_law_12 (fun H locs hP hD hS => ?_)
      refine lv_if_eq (tgt := 31) hx hb dX11_law_15 (by decide) (fun c9 => ?_) (fun c9 => ?_)
      · replace h := (br h).1 c9
        exact B31 L _ _ _ h hP hD hS (lv_sub hl [] rfl)
      · replace h := (br h).2 c9
        refine lv_iload hx hb dX11_law_18 (lv_at hl 4 rfl) ?_
        refine lv_if_lt (tgt := 31) hx hb dX11_law_20 (by decide) (fun c9 => ?_) (fun c9 => ?_)
        · replace h := (br h).1 c9
          exact B31 L _ _ _ h hP hD hS (lv_sub hl [] rfl)
        · replace h := (br h).2 c9
          refine lv_iload hx hb dX11_law_23 (lv_at hl 4 rfl) ?_
          refine lv_sipush (v := 999) hx hb dX11_law_25 (by decide) ?_
          refine lv_icmp_le (tgt := 35) hx hb dX11_law_28 (by decide) (fun c9 => ?_) (fun c9 => ?_)
          · replace h := (br h).1 c9
            refine lv_aload_n hx hb dX11_law_35 rfl (lv_at hl 0 rfl) ?_
            refine go_11_29 (ci := 0) hx hb hts hown hK hE hP rfl dX11_law_36 ?_
            refine lv_aload_n hx hb dX11_law_39 rfl (lv_at hl 0 rfl) ?_
            refine go_11_36 (ci := 0) hx hb hts hown hK hE hP rfl dX11_law_40 ?_
            refine lv_aload_n hx hb dX11_law_43 rfl (lv_at hl 0 rfl) ?_
            refine go_11_60 (ci := 0) hx hb hts hown hK hE hP rfl dX11_law_44 ?_
            refine lv_iload_n hx hb dX11_law_47 rfl (lv_at hl 2 rfl) ?_
            refine lv_iload_n hx hb dX11_law_48 rfl (lv_at hl 3 rfl) ?_
            refine lv_iload hx hb dX11_law_49 (lv_at hl 4 rfl) ?_
            replace h := bd h
            obtain ⟨q3, h4, h⟩ := h
            refine callWSXv (As := [.ref (adP 0), .ref (adS 0), .ref (adWa 0), .int a2, .int a3, .int a4]) (rest := []) (cs' := [cX11 cy adX xT xR (adP 0) (adS 0) xIm xTr xC (adWa 0) xWb xWo xZ xU xD xE xB X, cX6 cy adP (adL 0) P, cX3 cy adL q3, cX8 cy adS S, cX10 cy adWa Wa]) (isC := [1, 2, 3, 4]) (isR := [0]) hx hb hml hown hts (k_X0_look l G cy ev adP P adL L adS S adWa Wa a2 a3 a4 q3 h4) wm_29_5 wm_29_6 wm_2_9 wm_29_7 hds_X0_look ⟨by decide, by decide⟩ hK hP hD hS hA hE rfl rfl rfl (cov_of (n := 5) rfl (by decide)) (by decide) rfl rfl rfl hl.1 (Nat.le_of_ble_eq_true rfl) dX11_law_51 (fun H locs hP hD hS => ?_)
            refine lv_aload_n hx hb dX11_law_54 rfl (lv_at hl 0 rfl) ?_
            refine go_11_29 (ci := 0) hx hb hts hown hK hE hP rfl dX11_law_55 ?_
            refine go_11_224 (ci := 1) hx hb hts hown hK hE hP rfl dX11_law_58 ?_
            refine lv_iload_n hx hb dX11_law_61 rfl (lv_at hl 1 rfl) ?_
            replace h := bd h
            obtain ⟨q5, h6, h⟩ := h
            refine callWVl (As := [.int a1]) (rest := []) (cs' := [cX11 cy adX xT xR (adP 0) (adS 0) xIm xTr xC (adWa 0) xWb xWo xZ xU xD xE xB X, cX6 cy adP (adL 0) P, cX3 cy adL q5.2, cX8 cy adS S, cX10 cy adWa Wa]) (isC := [2]) (isR := [0, 1, 3, 4]) hx hb hml hown hts (k_X3_work l G cy ev N adL q3 a1 q5 h6) wm_29_11 wm_29_12 wm_29_13 wm_5_0 wm_29_14 hd_X3_work ⟨by decide, by decide⟩ hK hP hD hS hA hE rfl rfl rfl (cov_of (n := 5) rfl (by decide)) (by decide) rfl (recvW (ci := 2) hK hP rfl cX3_o rfl) rfl rfl hl.1 (Nat.le_of_ble_eq_true rfl) dX11_law_62 (fun H locs hP hD hS => ?_)
            exact retL (fr := fun q => q.1) (fw := fun q => wj [cX11 cy adX xT xR (adP 0) (adS 0) xIm xTr xC (adWa 0) xWb xWo xZ xU xD xE xB X, cX6 cy adP (adL 0) P, cX3 cy adL q.2, cX8 cy adS S, cX10 cy adWa Wa]) h hx hb hr hlocks hK hP hD hS dX11_law_65
          · replace h := (br h).2 c9
            exact B31 L _ _ _ h hP hD hS (lv_sub hl [] rfl)
theorem hds_X11_give : yX11_give.cls ≠ "java/lang/invoke/MethodHandle" ∧ yX11_give.cls ≠ "java/lang/invoke/VarHandle" ∧ (parseMethodDescriptor yX11_give.desc).map (fun d => d.parameters.length) = some 2 := ⟨by decide +kernel, by decide +kernel, by decide +kernel⟩
theorem hd_X11_give : yX11_give.cls = RX11 ∧ yX11_give.cls ≠ "java/lang/invoke/MethodHandle" ∧ yX11_give.cls ≠ "java/lang/invoke/VarHandle" ∧ (parseMethodDescriptor yX11_give.desc).map (fun d => d.parameters.length) = some 2 := ⟨rfl, hds_X11_give⟩
def f_X11_give_b85 (N : Nat) (X : VV) (P : VV) (S : VV) (Z : VV) (x1 : Int32) (x2 : Int32) (x3 : Int32) : Option (Int32 × VV × VV) :=
  bnd (f_X2_add Z 0 x1 x3) (fun q8501 => gin x1 8 (some (1, sr S 2 x1.toNatClampNeg x2, q8501)))
def f_X11_give_b29 (N : Nat) (X : VV) (P : VV) (S : VV) (Z : VV) (x1 : Int32) (x2 : Int32) : Option (Int32 × VV × VV) :=
  gin x1 8 (if S.2.1 2 x1.toNatClampNeg = x2 then some (0, S, Z) else if x2 = (-1) then f_X11_give_b85 N X P S Z x1 x2 (S.2.1 2 x1.toNatClampNeg) else bnd (f_X8_personsFor N S P x2) (fun q2901 => bnd (f_X6_trait P x1 0) (fun q2903 => bnd (f_X6_mostTickets P) (fun q2905 => if q2901 + q2903 ≤ q2905 then f_X11_give_b85 N X P S Z x1 x2 (S.2.1 2 x1.toNatClampNeg) else some (0, S, Z)))))
def f_X11_give (N : Nat) (X : VV) (P : VV) (S : VV) (Z : VV) (a1 : Int32) (a2 : Int32) : Option (Int32 × VV × VV) :=
  bnd (f_X6_hasParty P a1) (fun q1 => if q1 = 0 then some (0, S, Z) else if a2 = (-1) then f_X11_give_b29 N X P S Z a1 a2 else bnd (f_X6_hasSitting P a2) (fun q3 => if q3 = 0 then some (0, S, Z) else f_X11_give_b29 N X P S Z a1 a2))
set_option maxHeartbeats 4000000 in
set_option maxRecDepth 100000 in
theorem k_X11_give (l : Launch) (G : va_G) (cy : Nat → ClassId) (ev : Nat → Nat) (N : Nat) (adX : Nat → Nat) (xT : Nat) (xR : Nat) (xIm : Nat) (xTr : Nat) (xC : Nat) (xWa : Nat) (xWb : Nat) (xWo : Nat) (xU : Nat) (xD : Nat) (xE : Nat) (xB : Nat) (X : VV) (adP : Nat → Nat) (xL : Nat) (P : VV) (adS : Nat → Nat) (S : VV) (adZ : Nat → Nat) (Z : VV) (a1 : Int32) (a2 : Int32) (res : Int32 × VV × VV) (h : f_X11_give N X P S Z a1 a2 = some res) : MetI l yX11_give cX11_give 4 (some .boolean) 2 83 G cy ev [.ref (adX 0), .int a1, .int a2] (wj [cX11 cy adX xT xR (adP 0) (adS 0) xIm xTr xC xWa xWb xWo (adZ 0) xU xD xE xB X, cX6 cy adP xL P, cX8 cy adS S, cX2 cy adZ Z]) res.1 (wj [cX11 cy adX xT xR (adP 0) (adS 0) xIm xTr xC xWa xWb xWo (adZ 0) xU xD xE xB X, cX6 cy adP xL P, cX8 cy adS res.2.1, cX2 cy adZ res.2.2]) := by
  refine MetQ.start (by decide +kernel) (Nat.le_of_ble_eq_true rfl) (fun p e s m args below meth c A ls hx hb hr hml hown hts hlocks hK hP hD hA hl hE => ?_)
  have hS : va_S A s.heap s.heap [] := va_S.rf
  have hown : s.vm.findClass RX11 = some m.cls := hown
  have hl : lv_has ls 4 [(0, .ref (adX 0)), (1, .int a1), (2, .int a2)] := hl
  have B85 : ∀ (x1 : Int32) (x2 : Int32) (x3 : Int32) (S : VV) (Z : VV) (H : Heap) (locs : List Loc) (ls : Array Slot), f_X11_give_b85 N X P S Z x1 x2 x3 = some res → va_P G vwCl (wj [cX11 cy adX xT xR (adP 0) (adS 0) xIm xTr xC xWa xWb xWo (adZ 0) xU xD xE xB X, cX6 cy adP xL P, cX8 cy adS S, cX2 cy adZ Z]) H → va_D A (wj [cX11 cy adX xT xR (adP 0) (adS 0) xIm xTr xC xWa xWb xWo (adZ 0) xU xD xE xB X, cX6 cy adP xL P, cX8 cy adS S, cX2 cy adZ Z]) → va_S A s.heap H locs → lv_has ls 4 [(0, .ref (adX 0)), (1, .int x1), (2, .int x2), (3, .int x3)] → W p l e (rmX 2 83) s m args below meth c H locs 0 0 (MQ below (mQi (res.1) G cy A (wj [cX11 cy adX xT xR (adP 0) (adS 0) xIm xTr xC xWa xWb xWo (adZ 0) xU xD xE xB X, cX6 cy adP xL P, cX8 cy adS res.2.1, cX2 cy adZ res.2.2])) args s 0 0 A) (F0 m 85 ls []) := by
    intro x1 x2 x3 S Z H locs ls h hP hD hS hl
    delta f_X11_give_b85 at h
    refine lv_aload_n hx hb dX11_give_85 rfl (lv_at hl 0 rfl) ?_
    refine go_11_73 (ci := 0) hx hb hts hown hK hE hP rfl dX11_give_86 ?_
    refine lv_iconst (v := 0) hx hb dX11_give_89 (by decide) ?_
    refine lv_iload_n hx hb dX11_give_90 rfl (lv_at hl 1 rfl) ?_
    refine lv_iload_n hx hb dX11_give_91 rfl (lv_at hl 3 rfl) ?_
    replace h := bd h
    obtain ⟨q8501, h8502, h⟩ := h
    refine callWVv (As := [.int 0, .int x1, .int x3]) (rest := []) (cs' := [cX11 cy adX xT xR (adP 0) (adS 0) xIm xTr xC xWa xWb xWo (adZ 0) xU xD xE xB X, cX6 cy adP xL P, cX8 cy adS S, cX2 cy adZ q8501]) (isC := [3]) (isR := [0, 1, 2]) hx hb hml hown hts (k_X2_add l G cy ev adZ Z 0 x1 x3 q8501 h8502) wm_32_1 wm_32_2 wm_32_3 wm_2_19 wm_32_4 hd_X2_add ⟨by decide, by decide⟩ hK hP hD hS hA hE rfl rfl rfl (cov_of (n := 4) rfl (by decide)) (by decide) rfl (recvW (ci := 3) hK hP rfl cX2_o rfl) rfl rfl hl.1 (Nat.le_of_ble_eq_true rfl) dX11_give_92 (fun H locs hP hD hS => ?_)
    refine lv_aload_n hx hb dX11_give_95 rfl (lv_at hl 0 rfl) ?_
    refine go_11_36 (ci := 0) hx hb hts hown hK hE hP rfl dX11_give_96 ?_
    refine go_11_156 (ci := 2) hx hb hts hown hK hE hP rfl dX11_give_99 ?_
    refine lv_iload_n hx hb dX11_give_102 rfl (lv_at hl 1 rfl) ?_
    refine lv_iload_n hx hb dX11_give_103 rfl (lv_at hl 2 rfl) ?_
    replace h := gin_inv h
    obtain ⟨h9, h⟩ := h
    refine stWI (ci := 2) (k0 := 1) (j := x1.toNatClampNeg) (cs' := [cX11 cy adX xT xR (adP 0) (adS 0) xIm xTr xC xWa xWb xWo (adZ 0) xU xD xE xB X, cX6 cy adP xL P, cX8 cy adS (sr S 2 x1.toNatClampNeg x2), cX2 cy adZ q8501]) hx hb hK hP hD hS rfl cX8_a2 h9 rfl cX8_s2 rfl dX11_give_104 (fun H locs hP hD hS => ?_)
    refine lv_iconst (v := 1) hx hb dX11_give_105 (by decide) ?_
    exact retZ (fr := fun q => q.1) (fw := fun q => wj [cX11 cy adX xT xR (adP 0) (adS 0) xIm xTr xC xWa xWb xWo (adZ 0) xU xD xE xB X, cX6 cy adP xL P, cX8 cy adS q.2.1, cX2 cy adZ q.2.2]) h hx hb hr narZ1 hlocks hK hP hD hS dX11_give_106
  have B29 : ∀ (x1 : Int32) (x2 : Int32) (S : VV) (Z : VV) (H : Heap) (locs : List Loc) (ls : Array Slot), f_X11_give_b29 N X P S Z x1 x2 = some res → va_P G vwCl (wj [cX11 cy adX xT xR (adP 0) (adS 0) xIm xTr xC xWa xWb xWo (adZ 0) xU xD xE xB X, cX6 cy adP xL P, cX8 cy adS S, cX2 cy adZ Z]) H → va_D A (wj [cX11 cy adX xT xR (adP 0) (adS 0) xIm xTr xC xWa xWb xWo (adZ 0) xU xD xE xB X, cX6 cy adP xL P, cX8 cy adS S, cX2 cy adZ Z]) → va_S A s.heap H locs → lv_has ls 4 [(0, .ref (adX 0)), (1, .int x1), (2, .int x2)] → W p l e (rmX 2 83) s m args below meth c H locs 0 0 (MQ below (mQi (res.1) G cy A (wj [cX11 cy adX xT xR (adP 0) (adS 0) xIm xTr xC xWa xWb xWo (adZ 0) xU xD xE xB X, cX6 cy adP xL P, cX8 cy adS res.2.1, cX2 cy adZ res.2.2])) args s 0 0 A) (F0 m 29 ls []) := by
    intro x1 x2 S Z H locs ls h hP hD hS hl
    delta f_X11_give_b29 at h
    refine lv_aload_n hx hb dX11_give_29 rfl (lv_at hl 0 rfl) ?_
    refine go_11_36 (ci := 0) hx hb hts hown hK hE hP rfl dX11_give_30 ?_
    refine go_11_156 (ci := 2) hx hb hts hown hK hE hP rfl dX11_give_33 ?_
    refine lv_iload_n hx hb dX11_give_36 rfl (lv_at hl 1 rfl) ?_
    replace h := gin_inv h
    obtain ⟨h9, h⟩ := h
    refine ldWI (ci := 2) (k0 := 1) (g := S.2.1 2) (j := x1.toNatClampNeg) hx hb hK hP rfl cX8_a2 rfl h9 rfl dX11_give_37 ?_
    refine lv_istore_n (lv' := [(3, .int (S.2.1 2 x1.toNatClampNeg)), (0, .ref (adX 0)), (1, .int x1), (2, .int x2)]) hx hb dX11_give_38 rfl hl (by decide) rfl (fun ls hl => ?_)
    refine lv_iload_n hx hb dX11_give_39 rfl (lv_at hl 0 rfl) ?_
    refine lv_iload_n hx hb dX11_give_40 rfl (lv_at hl 3 rfl) ?_
    refine lv_icmp_ne (tgt := 46) hx hb dX11_give_41 (by decide) (fun c9 => ?_) (fun c9 => ?_)
    · replace h := (br h).2 c9
      refine lv_iload_n hx hb dX11_give_46 rfl (lv_at hl 3 rfl) ?_
      refine lv_iconst (v := (-1)) hx hb dX11_give_47 (by decide) ?_
      refine lv_icmp_eq (tgt := 85) hx hb dX11_give_48 (by decide) (fun c9 => ?_) (fun c9 => ?_)
      · replace h := (br h).1 c9
        exact B85 x1 x2 (S.2.1 2 x1.toNatClampNeg) S Z _ _ _ h hP hD hS (lv_sub hl [1, 2, 3, 0] rfl)
      · replace h := (br h).2 c9
        refine lv_aload_n hx hb dX11_give_51 rfl (lv_at hl 1 rfl) ?_
        refine go_11_36 (ci := 0) hx hb hts hown hK hE hP rfl dX11_give_52 ?_
        refine lv_iload_n hx hb dX11_give_55 rfl (lv_at hl 3 rfl) ?_
        refine lv_aload_n hx hb dX11_give_56 rfl (lv_at hl 1 rfl) ?_
        refine go_11_29 (ci := 0) hx hb hts hown hK hE hP rfl dX11_give_57 ?_
        replace h := bd h
        obtain ⟨q2901, h2902, h⟩ := h
        refine callWVi (As := [.int x2, .ref (adP 0)]) (rest := []) (cs' := [cX11 cy adX xT xR (adP 0) (adS 0) xIm xTr xC xWa xWb xWo (adZ 0) xU xD xE xB X, cX6 cy adP xL P, cX8 cy adS S, cX2 cy adZ Z]) (isC := [2, 1]) (isR := [0, 3]) hx hb hml hown hts (k_X8_personsFor l G cy ev N adS S adP xL P x2 q2901 h2902) wm_27_23 wm_28_0 wm_28_1 wm_2_2 wm_28_2 hd_X8_personsFor ⟨by decide, by decide⟩ hK hP hD hS hA hE rfl rfl rfl (cov_of (n := 4) rfl (by decide)) (by decide) rfl (recvW (ci := 2) hK hP rfl cX8_o rfl) rfl rfl hl.1 (Nat.le_of_ble_eq_true rfl) dX11_give_60 (fun H locs hP hD hS => ?_)
        refine lv_aload_n hx hb dX11_give_63 rfl (lv_at hl 1 rfl) ?_
        refine go_11_29 (ci := 0) hx hb hts hown hK hE hP rfl dX11_give_64 ?_
        refine lv_iload_n hx hb dX11_give_67 rfl (lv_at hl 2 rfl) ?_
        refine lv_iconst (v := 0) hx hb dX11_give_68 (by decide) ?_
        replace h := bd h
        obtain ⟨q2903, h2904, h⟩ := h
        refine callWVi (As := [.int x1, .int 0]) (rest := [.int q2901]) (cs' := [cX11 cy adX xT xR (adP 0) (adS 0) xIm xTr xC xWa xWb xWo (adZ 0) xU xD xE xB X, cX6 cy adP xL P, cX8 cy adS S, cX2 cy adZ Z]) (isC := [1]) (isR := [0, 2, 3]) hx hb hml hown hts (k_X6_trait l G cy ev adP xL P x1 0 q2903 h2904) wm_26_15 wm_26_16 wm_26_17 wm_1_22 wm_26_18 hd_X6_trait ⟨by decide, by decide⟩ hK hP hD hS hA hE rfl rfl rfl (cov_of (n := 4) rfl (by decide)) (by decide) rfl (recvW (ci := 1) hK hP rfl cX6_o rfl) rfl rfl hl.1 (Nat.le_of_ble_eq_true rfl) dX11_give_69 (fun H locs hP hD hS => ?_)
        refine lv_iadd hx hb dX11_give_72 ?_
        refine lv_aload_n hx hb dX11_give_73 rfl (lv_at hl 1 rfl) ?_
        refine go_11_29 (ci := 0) hx hb hts hown hK hE hP rfl dX11_give_74 ?_
        replace h := bd h
        obtain ⟨q2905, h2906, h⟩ := h
        refine callWVi (As := []) (rest := [.int (q2901 + q2903)]) (cs' := [cX11 cy adX xT xR (adP 0) (adS 0) xIm xTr xC xWa xWb xWo (adZ 0) xU xD xE xB X, cX6 cy adP xL P, cX8 cy adS S, cX2 cy adZ Z]) (isC := [1]) (isR := [0, 2, 3]) hx hb hml hown hts (k_X6_mostTickets l G cy ev adP xL P q2905 h2906) wm_31_21 wm_31_22 wm_31_23 wm_1_22 wm_32_0 hd_X6_mostTickets ⟨by decide, by decide⟩ hK hP hD hS hA hE rfl rfl rfl (cov_of (n := 4) rfl (by decide)) (by decide) rfl (recvW (ci := 1) hK hP rfl cX6_o rfl) rfl rfl hl.1 (Nat.le_of_ble_eq_true rfl) dX11_give_77 (fun H locs hP hD hS => ?_)
        refine lv_icmp_le (tgt := 85) hx hb dX11_give_80 (by decide) (fun c9 => ?_) (fun c9 => ?_)
        · replace h := (br h).1 c9
          exact B85 x1 x2 (S.2.1 2 x1.toNatClampNeg) S Z _ _ _ h hP hD hS (lv_sub hl [1, 2, 3, 0] rfl)
        · replace h := (br h).2 c9
          refine lv_iconst (v := 0) hx hb dX11_give_83 (by decide) ?_
          exact retZ (fr := fun q => q.1) (fw := fun q => wj [cX11 cy adX xT xR (adP 0) (adS 0) xIm xTr xC xWa xWb xWo (adZ 0) xU xD xE xB X, cX6 cy adP xL P, cX8 cy adS q.2.1, cX2 cy adZ q.2.2]) h hx hb hr narZ0 hlocks hK hP hD hS dX11_give_84
    · replace h := (br h).1 c9
      refine lv_iconst (v := 0) hx hb dX11_give_44 (by decide) ?_
      exact retZ (fr := fun q => q.1) (fw := fun q => wj [cX11 cy adX xT xR (adP 0) (adS 0) xIm xTr xC xWa xWb xWo (adZ 0) xU xD xE xB X, cX6 cy adP xL P, cX8 cy adS q.2.1, cX2 cy adZ q.2.2]) h hx hb hr narZ0 hlocks hK hP hD hS dX11_give_45
  delta f_X11_give at h
  refine lv_aload_n hx hb dX11_give_0 rfl (lv_at hl 0 rfl) ?_
  refine go_11_29 (ci := 0) hx hb hts hown hK hE hP rfl dX11_give_1 ?_
  refine lv_iload_n hx hb dX11_give_4 rfl (lv_at hl 1 rfl) ?_
  replace h := bd h
  obtain ⟨q1, h2, h⟩ := h
  refine callWVi (As := [.int a1]) (rest := []) (cs' := [cX11 cy adX xT xR (adP 0) (adS 0) xIm xTr xC xWa xWb xWo (adZ 0) xU xD xE xB X, cX6 cy adP xL P, cX8 cy adS S, cX2 cy adZ Z]) (isC := [1]) (isR := [0, 2, 3]) hx hb hml hown hts (k_X6_hasParty l G cy ev adP xL P a1 q1 h2) wm_26_11 wm_26_12 wm_26_13 wm_1_22 wm_26_14 hd_X6_hasParty ⟨by decide, by decide⟩ hK hP hD hS hA hE rfl rfl rfl (cov_of (n := 4) rfl (by decide)) (by decide) rfl (recvW (ci := 1) hK hP rfl cX6_o rfl) rfl rfl hl.1 (Nat.le_of_ble_eq_true rfl) dX11_give_5 (fun H locs hP hD hS => ?_)
  refine lv_if_eq (tgt := 27) hx hb dX11_give_8 (by decide) (fun c9 => ?_) (fun c9 => ?_)
  · replace h := (br h).1 c9
    refine lv_iconst (v := 0) hx hb dX11_give_27 (by decide) ?_
    exact retZ (fr := fun q => q.1) (fw := fun q => wj [cX11 cy adX xT xR (adP 0) (adS 0) xIm xTr xC xWa xWb xWo (adZ 0) xU xD xE xB X, cX6 cy adP xL P, cX8 cy adS q.2.1, cX2 cy adZ q.2.2]) h hx hb hr narZ0 hlocks hK hP hD hS dX11_give_28
  · replace h := (br h).2 c9
    refine lv_iload_n hx hb dX11_give_11 rfl (lv_at hl 2 rfl) ?_
    refine lv_iconst (v := (-1)) hx hb dX11_give_12 (by decide) ?_
    refine lv_icmp_eq (tgt := 29) hx hb dX11_give_13 (by decide) (fun c9 => ?_) (fun c9 => ?_)
    · replace h := (br h).1 c9
      exact B29 a1 a2 S Z _ _ _ h hP hD hS (lv_sub hl [0, 1, 2] rfl)
    · replace h := (br h).2 c9
      refine lv_aload_n hx hb dX11_give_16 rfl (lv_at hl 0 rfl) ?_
      refine go_11_29 (ci := 0) hx hb hts hown hK hE hP rfl dX11_give_17 ?_
      refine lv_iload_n hx hb dX11_give_20 rfl (lv_at hl 2 rfl) ?_
      replace h := bd h
      obtain ⟨q3, h4, h⟩ := h
      refine callWVi (As := [.int a2]) (rest := []) (cs' := [cX11 cy adX xT xR (adP 0) (adS 0) xIm xTr xC xWa xWb xWo (adZ 0) xU xD xE xB X, cX6 cy adP xL P, cX8 cy adS S, cX2 cy adZ Z]) (isC := [1]) (isR := [0, 2, 3]) hx hb hml hown hts (k_X6_hasSitting l G cy ev adP xL P a2 q3 h4) wm_27_19 wm_27_20 wm_27_21 wm_1_22 wm_27_22 hd_X6_hasSitting ⟨by decide, by decide⟩ hK hP hD hS hA hE rfl rfl rfl (cov_of (n := 4) rfl (by decide)) (by decide) rfl (recvW (ci := 1) hK hP rfl cX6_o rfl) rfl rfl hl.1 (Nat.le_of_ble_eq_true rfl) dX11_give_21 (fun H locs hP hD hS => ?_)
      refine lv_if_ne (tgt := 29) hx hb dX11_give_24 (by decide) (fun c9 => ?_) (fun c9 => ?_)
      · replace h := (br h).2 c9
        exact B29 a1 a2 S Z _ _ _ h hP hD hS (lv_sub hl [0, 1, 2] rfl)
      · replace h := (br h).1 c9
        refine lv_iconst (v := 0) hx hb dX11_give_27 (by decide) ?_
        exact retZ (fr := fun q => q.1) (fw := fun q => wj [cX11 cy adX xT xR (adP 0) (adS 0) xIm xTr xC xWa xWb xWo (adZ 0) xU xD xE xB X, cX6 cy adP xL P, cX8 cy adS q.2.1, cX2 cy adZ q.2.2]) h hx hb hr narZ0 hlocks hK hP hD hS dX11_give_28
theorem hds_X11_sign : yX11_sign.cls ≠ "java/lang/invoke/MethodHandle" ∧ yX11_sign.cls ≠ "java/lang/invoke/VarHandle" ∧ (parseMethodDescriptor yX11_sign.desc).map (fun d => d.parameters.length) = some 2 := ⟨by decide +kernel, by decide +kernel, by decide +kernel⟩
theorem hd_X11_sign : yX11_sign.cls = RX11 ∧ yX11_sign.cls ≠ "java/lang/invoke/MethodHandle" ∧ yX11_sign.cls ≠ "java/lang/invoke/VarHandle" ∧ (parseMethodDescriptor yX11_sign.desc).map (fun d => d.parameters.length) = some 2 := ⟨rfl, hds_X11_sign⟩
def f_X11_sign (X : VV) (P : VV) (S : VV) (Z : VV) (a1 : Int32) (a2 : Int32) : Option (Int32 × VV × VV) :=
  bnd (f_X6_hasSitting P a1) (fun q1 => if q1 = 0 then some (0, S, Z) else if a2 < 0 then some (0, S, Z) else if (3 : Int32) < a2 then some (0, S, Z) else gin a1 3 (if S.2.1 3 a1.toNatClampNeg = a2 then some (0, S, Z) else gin a1 3 (bnd (f_X2_add Z 1 a1 (S.2.1 3 a1.toNatClampNeg)) (fun q3 => gin a1 3 (some (1, sr S 3 a1.toNatClampNeg a2, q3))))))
set_option maxHeartbeats 4000000 in
set_option maxRecDepth 100000 in
theorem k_X11_sign (l : Launch) (G : va_G) (cy : Nat → ClassId) (ev : Nat → Nat) (adX : Nat → Nat) (xT : Nat) (xR : Nat) (xIm : Nat) (xTr : Nat) (xC : Nat) (xWa : Nat) (xWb : Nat) (xWo : Nat) (xU : Nat) (xD : Nat) (xE : Nat) (xB : Nat) (X : VV) (adP : Nat → Nat) (xL : Nat) (P : VV) (adS : Nat → Nat) (S : VV) (adZ : Nat → Nat) (Z : VV) (a1 : Int32) (a2 : Int32) (res : Int32 × VV × VV) (h : f_X11_sign X P S Z a1 a2 = some res) : MetI l yX11_sign cX11_sign 3 (some .boolean) 2 83 G cy ev [.ref (adX 0), .int a1, .int a2] (wj [cX11 cy adX xT xR (adP 0) (adS 0) xIm xTr xC xWa xWb xWo (adZ 0) xU xD xE xB X, cX6 cy adP xL P, cX8 cy adS S, cX2 cy adZ Z]) res.1 (wj [cX11 cy adX xT xR (adP 0) (adS 0) xIm xTr xC xWa xWb xWo (adZ 0) xU xD xE xB X, cX6 cy adP xL P, cX8 cy adS res.2.1, cX2 cy adZ res.2.2]) := by
  refine MetQ.start (by decide +kernel) (Nat.le_of_ble_eq_true rfl) (fun p e s m args below meth c A ls hx hb hr hml hown hts hlocks hK hP hD hA hl hE => ?_)
  have hS : va_S A s.heap s.heap [] := va_S.rf
  have hown : s.vm.findClass RX11 = some m.cls := hown
  have hl : lv_has ls 3 [(0, .ref (adX 0)), (1, .int a1), (2, .int a2)] := hl
  delta f_X11_sign at h
  refine lv_aload_n hx hb dX11_sign_0 rfl (lv_at hl 0 rfl) ?_
  refine go_11_29 (ci := 0) hx hb hts hown hK hE hP rfl dX11_sign_1 ?_
  refine lv_iload_n hx hb dX11_sign_4 rfl (lv_at hl 1 rfl) ?_
  replace h := bd h
  obtain ⟨q1, h2, h⟩ := h
  refine callWVi (As := [.int a1]) (rest := []) (cs' := [cX11 cy adX xT xR (adP 0) (adS 0) xIm xTr xC xWa xWb xWo (adZ 0) xU xD xE xB X, cX6 cy adP xL P, cX8 cy adS S, cX2 cy adZ Z]) (isC := [1]) (isR := [0, 2, 3]) hx hb hml hown hts (k_X6_hasSitting l G cy ev adP xL P a1 q1 h2) wm_27_19 wm_27_20 wm_27_21 wm_1_22 wm_27_22 hd_X6_hasSitting ⟨by decide, by decide⟩ hK hP hD hS hA hE rfl rfl rfl (cov_of (n := 4) rfl (by decide)) (by decide) rfl (recvW (ci := 1) hK hP rfl cX6_o rfl) rfl rfl hl.1 (Nat.le_of_ble_eq_true rfl) dX11_sign_5 (fun H locs hP hD hS => ?_)
  refine lv_if_eq (tgt := 33) hx hb dX11_sign_8 (by decide) (fun c9 => ?_) (fun c9 => ?_)
  · replace h := (br h).1 c9
    refine lv_iconst (v := 0) hx hb dX11_sign_33 (by decide) ?_
    exact retZ (fr := fun q => q.1) (fw := fun q => wj [cX11 cy adX xT xR (adP 0) (adS 0) xIm xTr xC xWa xWb xWo (adZ 0) xU xD xE xB X, cX6 cy adP xL P, cX8 cy adS q.2.1, cX2 cy adZ q.2.2]) h hx hb hr narZ0 hlocks hK hP hD hS dX11_sign_34
  · replace h := (br h).2 c9
    refine lv_iload_n hx hb dX11_sign_11 rfl (lv_at hl 2 rfl) ?_
    refine lv_if_lt (tgt := 33) hx hb dX11_sign_12 (by decide) (fun c9 => ?_) (fun c9 => ?_)
    · replace h := (br h).1 c9
      refine lv_iconst (v := 0) hx hb dX11_sign_33 (by decide) ?_
      exact retZ (fr := fun q => q.1) (fw := fun q => wj [cX11 cy adX xT xR (adP 0) (adS 0) xIm xTr xC xWa xWb xWo (adZ 0) xU xD xE xB X, cX6 cy adP xL P, cX8 cy adS q.2.1, cX2 cy adZ q.2.2]) h hx hb hr narZ0 hlocks hK hP hD hS dX11_sign_34
    · replace h := (br h).2 c9
      refine lv_iload_n hx hb dX11_sign_15 rfl (lv_at hl 2 rfl) ?_
      refine lv_iconst (v := 3) hx hb dX11_sign_16 (by decide) ?_
      refine lv_icmp_gt (tgt := 33) hx hb dX11_sign_17 (by decide) (fun c9 => ?_) (fun c9 => ?_)
      · replace h := (br h).1 c9
        refine lv_iconst (v := 0) hx hb dX11_sign_33 (by decide) ?_
        exact retZ (fr := fun q => q.1) (fw := fun q => wj [cX11 cy adX xT xR (adP 0) (adS 0) xIm xTr xC xWa xWb xWo (adZ 0) xU xD xE xB X, cX6 cy adP xL P, cX8 cy adS q.2.1, cX2 cy adZ q.2.2]) h hx hb hr narZ0 hlocks hK hP hD hS dX11_sign_34
      · replace h := (br h).2 c9
        refine lv_aload_n hx hb dX11_sign_20 rfl (lv_at hl 0 rfl) ?_
        refine go_11_36 (ci := 0) hx hb hts hown hK hE hP rfl dX11_sign_21 ?_
        refine go_11_186 (ci := 2) hx hb hts hown hK hE hP rfl dX11_sign_24 ?_
        refine lv_iload_n hx hb dX11_sign_27 rfl (lv_at hl 1 rfl) ?_
        replace h := gin_inv h
        obtain ⟨h9, h⟩ := h
        refine ldWI (ci := 2) (k0 := 2) (g := S.2.1 3) (j := a1.toNatClampNeg) hx hb hK hP rfl cX8_a3 rfl h9 rfl dX11_sign_28 ?_
        refine lv_iload_n hx hb dX11_sign_29 rfl (lv_at hl 2 rfl) ?_
        refine lv_icmp_ne (tgt := 35) hx hb dX11_sign_30 (by decide) (fun c9 => ?_) (fun c9 => ?_)
        · replace h := (br h).2 c9
          refine lv_aload_n hx hb dX11_sign_35 rfl (lv_at hl 0 rfl) ?_
          refine go_11_73 (ci := 0) hx hb hts hown hK hE hP rfl dX11_sign_36 ?_
          refine lv_iconst (v := 1) hx hb dX11_sign_39 (by decide) ?_
          refine lv_iload_n hx hb dX11_sign_40 rfl (lv_at hl 1 rfl) ?_
          refine lv_aload_n hx hb dX11_sign_41 rfl (lv_at hl 0 rfl) ?_
          refine go_11_36 (ci := 0) hx hb hts hown hK hE hP rfl dX11_sign_42 ?_
          refine go_11_186 (ci := 2) hx hb hts hown hK hE hP rfl dX11_sign_45 ?_
          refine lv_iload_n hx hb dX11_sign_48 rfl (lv_at hl 1 rfl) ?_
          replace h := gin_inv h
          obtain ⟨h9, h⟩ := h
          refine ldWI (ci := 2) (k0 := 2) (g := S.2.1 3) (j := a1.toNatClampNeg) hx hb hK hP rfl cX8_a3 rfl h9 rfl dX11_sign_49 ?_
          replace h := bd h
          obtain ⟨q3, h4, h⟩ := h
          refine callWVv (As := [.int 1, .int a1, .int (S.2.1 3 a1.toNatClampNeg)]) (rest := []) (cs' := [cX11 cy adX xT xR (adP 0) (adS 0) xIm xTr xC xWa xWb xWo (adZ 0) xU xD xE xB X, cX6 cy adP xL P, cX8 cy adS S, cX2 cy adZ q3]) (isC := [3]) (isR := [0, 1, 2]) hx hb hml hown hts (k_X2_add l G cy ev adZ Z 1 a1 (S.2.1 3 a1.toNatClampNeg) q3 h4) wm_32_1 wm_32_2 wm_32_3 wm_2_19 wm_32_4 hd_X2_add ⟨by decide, by decide⟩ hK hP hD hS hA hE rfl rfl rfl (cov_of (n := 4) rfl (by decide)) (by decide) rfl (recvW (ci := 3) hK hP rfl cX2_o rfl) rfl rfl hl.1 (Nat.le_of_ble_eq_true rfl) dX11_sign_50 (fun H locs hP hD hS => ?_)
          refine lv_aload_n hx hb dX11_sign_53 rfl (lv_at hl 0 rfl) ?_
          refine go_11_36 (ci := 0) hx hb hts hown hK hE hP rfl dX11_sign_54 ?_
          refine go_11_186 (ci := 2) hx hb hts hown hK hE hP rfl dX11_sign_57 ?_
          refine lv_iload_n hx hb dX11_sign_60 rfl (lv_at hl 1 rfl) ?_
          refine lv_iload_n hx hb dX11_sign_61 rfl (lv_at hl 2 rfl) ?_
          replace h := gin_inv h
          obtain ⟨h9, h⟩ := h
          refine stWI (ci := 2) (k0 := 2) (j := a1.toNatClampNeg) (cs' := [cX11 cy adX xT xR (adP 0) (adS 0) xIm xTr xC xWa xWb xWo (adZ 0) xU xD xE xB X, cX6 cy adP xL P, cX8 cy adS (sr S 3 a1.toNatClampNeg a2), cX2 cy adZ q3]) hx hb hK hP hD hS rfl cX8_a3 h9 rfl cX8_s3 rfl dX11_sign_62 (fun H locs hP hD hS => ?_)
          refine lv_iconst (v := 1) hx hb dX11_sign_63 (by decide) ?_
          exact retZ (fr := fun q => q.1) (fw := fun q => wj [cX11 cy adX xT xR (adP 0) (adS 0) xIm xTr xC xWa xWb xWo (adZ 0) xU xD xE xB X, cX6 cy adP xL P, cX8 cy adS q.2.1, cX2 cy adZ q.2.2]) h hx hb hr narZ1 hlocks hK hP hD hS dX11_sign_64
        · replace h := (br h).1 c9
          refine lv_iconst (v := 0) hx hb dX11_sign_33 (by decide) ?_
          exact retZ (fr := fun q => q.1) (fw := fun q => wj [cX11 cy adX xT xR (adP 0) (adS 0) xIm xTr xC xWa xWb xWo (adZ 0) xU xD xE xB X, cX6 cy adP xL P, cX8 cy adS q.2.1, cX2 cy adZ q.2.2]) h hx hb hr narZ0 hlocks hK hP hD hS dX11_sign_34
theorem hds_X11_price : yX11_price.cls ≠ "java/lang/invoke/MethodHandle" ∧ yX11_price.cls ≠ "java/lang/invoke/VarHandle" ∧ (parseMethodDescriptor yX11_price.desc).map (fun d => d.parameters.length) = some 2 := ⟨by decide +kernel, by decide +kernel, by decide +kernel⟩
theorem hd_X11_price : yX11_price.cls = RX11 ∧ yX11_price.cls ≠ "java/lang/invoke/MethodHandle" ∧ yX11_price.cls ≠ "java/lang/invoke/VarHandle" ∧ (parseMethodDescriptor yX11_price.desc).map (fun d => d.parameters.length) = some 2 := ⟨rfl, hds_X11_price⟩
def f_X11_price (X : VV) (P : VV) (S : VV) (Z : VV) (a1 : Int32) (a2 : Int32) : Option (Int32 × VV × VV) :=
  bnd (f_X6_hasSitting P a1) (fun q1 => if q1 = 0 then some (0, S, Z) else if a2 < 0 then some (0, S, Z) else if (99 : Int32) < a2 then some (0, S, Z) else gin a1 3 (if S.2.1 4 a1.toNatClampNeg = a2 then some (0, S, Z) else gin a1 3 (bnd (f_X2_add Z 2 a1 (S.2.1 4 a1.toNatClampNeg)) (fun q3 => gin a1 3 (some (1, sr S 4 a1.toNatClampNeg a2, q3))))))
set_option maxHeartbeats 4000000 in
set_option maxRecDepth 100000 in
theorem k_X11_price (l : Launch) (G : va_G) (cy : Nat → ClassId) (ev : Nat → Nat) (adX : Nat → Nat) (xT : Nat) (xR : Nat) (xIm : Nat) (xTr : Nat) (xC : Nat) (xWa : Nat) (xWb : Nat) (xWo : Nat) (xU : Nat) (xD : Nat) (xE : Nat) (xB : Nat) (X : VV) (adP : Nat → Nat) (xL : Nat) (P : VV) (adS : Nat → Nat) (S : VV) (adZ : Nat → Nat) (Z : VV) (a1 : Int32) (a2 : Int32) (res : Int32 × VV × VV) (h : f_X11_price X P S Z a1 a2 = some res) : MetI l yX11_price cX11_price 3 (some .boolean) 2 83 G cy ev [.ref (adX 0), .int a1, .int a2] (wj [cX11 cy adX xT xR (adP 0) (adS 0) xIm xTr xC xWa xWb xWo (adZ 0) xU xD xE xB X, cX6 cy adP xL P, cX8 cy adS S, cX2 cy adZ Z]) res.1 (wj [cX11 cy adX xT xR (adP 0) (adS 0) xIm xTr xC xWa xWb xWo (adZ 0) xU xD xE xB X, cX6 cy adP xL P, cX8 cy adS res.2.1, cX2 cy adZ res.2.2]) := by
  refine MetQ.start (by decide +kernel) (Nat.le_of_ble_eq_true rfl) (fun p e s m args below meth c A ls hx hb hr hml hown hts hlocks hK hP hD hA hl hE => ?_)
  have hS : va_S A s.heap s.heap [] := va_S.rf
  have hown : s.vm.findClass RX11 = some m.cls := hown
  have hl : lv_has ls 3 [(0, .ref (adX 0)), (1, .int a1), (2, .int a2)] := hl
  delta f_X11_price at h
  refine lv_aload_n hx hb dX11_price_0 rfl (lv_at hl 0 rfl) ?_
  refine go_11_29 (ci := 0) hx hb hts hown hK hE hP rfl dX11_price_1 ?_
  refine lv_iload_n hx hb dX11_price_4 rfl (lv_at hl 1 rfl) ?_
  replace h := bd h
  obtain ⟨q1, h2, h⟩ := h
  refine callWVi (As := [.int a1]) (rest := []) (cs' := [cX11 cy adX xT xR (adP 0) (adS 0) xIm xTr xC xWa xWb xWo (adZ 0) xU xD xE xB X, cX6 cy adP xL P, cX8 cy adS S, cX2 cy adZ Z]) (isC := [1]) (isR := [0, 2, 3]) hx hb hml hown hts (k_X6_hasSitting l G cy ev adP xL P a1 q1 h2) wm_27_19 wm_27_20 wm_27_21 wm_1_22 wm_27_22 hd_X6_hasSitting ⟨by decide, by decide⟩ hK hP hD hS hA hE rfl rfl rfl (cov_of (n := 4) rfl (by decide)) (by decide) rfl (recvW (ci := 1) hK hP rfl cX6_o rfl) rfl rfl hl.1 (Nat.le_of_ble_eq_true rfl) dX11_price_5 (fun H locs hP hD hS => ?_)
  refine lv_if_eq (tgt := 34) hx hb dX11_price_8 (by decide) (fun c9 => ?_) (fun c9 => ?_)
  · replace h := (br h).1 c9
    refine lv_iconst (v := 0) hx hb dX11_price_34 (by decide) ?_
    exact retZ (fr := fun q => q.1) (fw := fun q => wj [cX11 cy adX xT xR (adP 0) (adS 0) xIm xTr xC xWa xWb xWo (adZ 0) xU xD xE xB X, cX6 cy adP xL P, cX8 cy adS q.2.1, cX2 cy adZ q.2.2]) h hx hb hr narZ0 hlocks hK hP hD hS dX11_price_35
  · replace h := (br h).2 c9
    refine lv_iload_n hx hb dX11_price_11 rfl (lv_at hl 2 rfl) ?_
    refine lv_if_lt (tgt := 34) hx hb dX11_price_12 (by decide) (fun c9 => ?_) (fun c9 => ?_)
    · replace h := (br h).1 c9
      refine lv_iconst (v := 0) hx hb dX11_price_34 (by decide) ?_
      exact retZ (fr := fun q => q.1) (fw := fun q => wj [cX11 cy adX xT xR (adP 0) (adS 0) xIm xTr xC xWa xWb xWo (adZ 0) xU xD xE xB X, cX6 cy adP xL P, cX8 cy adS q.2.1, cX2 cy adZ q.2.2]) h hx hb hr narZ0 hlocks hK hP hD hS dX11_price_35
    · replace h := (br h).2 c9
      refine lv_iload_n hx hb dX11_price_15 rfl (lv_at hl 2 rfl) ?_
      refine lv_bipush (v := 99) hx hb dX11_price_16 (by decide) ?_
      refine lv_icmp_gt (tgt := 34) hx hb dX11_price_18 (by decide) (fun c9 => ?_) (fun c9 => ?_)
      · replace h := (br h).1 c9
        refine lv_iconst (v := 0) hx hb dX11_price_34 (by decide) ?_
        exact retZ (fr := fun q => q.1) (fw := fun q => wj [cX11 cy adX xT xR (adP 0) (adS 0) xIm xTr xC xWa xWb xWo (adZ 0) xU xD xE xB X, cX6 cy adP xL P, cX8 cy adS q.2.1, cX2 cy adZ q.2.2]) h hx hb hr narZ0 hlocks hK hP hD hS dX11_price_35
      · replace h := (br h).2 c9
        refine lv_aload_n hx hb dX11_price_21 rfl (lv_at hl 0 rfl) ?_
        refine go_11_36 (ci := 0) hx hb hts hown hK hE hP rfl dX11_price_22 ?_
        refine go_11_183 (ci := 2) hx hb hts hown hK hE hP rfl dX11_price_25 ?_
        refine lv_iload_n hx hb dX11_price_28 rfl (lv_at hl 1 rfl) ?_
        replace h := gin_inv h
        obtain ⟨h9, h⟩ := h
        refine ldWI (ci := 2) (k0 := 3) (g := S.2.1 4) (j := a1.toNatClampNeg) hx hb hK hP rfl cX8_a4 rfl h9 rfl dX11_price_29 ?_
        refine lv_iload_n hx hb dX11_price_30 rfl (lv_at hl 2 rfl) ?_
        refine lv_icmp_ne (tgt := 36) hx hb dX11_price_31 (by decide) (fun c9 => ?_) (fun c9 => ?_)
        · replace h := (br h).2 c9
          refine lv_aload_n hx hb dX11_price_36 rfl (lv_at hl 0 rfl) ?_
          refine go_11_73 (ci := 0) hx hb hts hown hK hE hP rfl dX11_price_37 ?_
          refine lv_iconst (v := 2) hx hb dX11_price_40 (by decide) ?_
          refine lv_iload_n hx hb dX11_price_41 rfl (lv_at hl 1 rfl) ?_
          refine lv_aload_n hx hb dX11_price_42 rfl (lv_at hl 0 rfl) ?_
          refine go_11_36 (ci := 0) hx hb hts hown hK hE hP rfl dX11_price_43 ?_
          refine go_11_183 (ci := 2) hx hb hts hown hK hE hP rfl dX11_price_46 ?_
          refine lv_iload_n hx hb dX11_price_49 rfl (lv_at hl 1 rfl) ?_
          replace h := gin_inv h
          obtain ⟨h9, h⟩ := h
          refine ldWI (ci := 2) (k0 := 3) (g := S.2.1 4) (j := a1.toNatClampNeg) hx hb hK hP rfl cX8_a4 rfl h9 rfl dX11_price_50 ?_
          replace h := bd h
          obtain ⟨q3, h4, h⟩ := h
          refine callWVv (As := [.int 2, .int a1, .int (S.2.1 4 a1.toNatClampNeg)]) (rest := []) (cs' := [cX11 cy adX xT xR (adP 0) (adS 0) xIm xTr xC xWa xWb xWo (adZ 0) xU xD xE xB X, cX6 cy adP xL P, cX8 cy adS S, cX2 cy adZ q3]) (isC := [3]) (isR := [0, 1, 2]) hx hb hml hown hts (k_X2_add l G cy ev adZ Z 2 a1 (S.2.1 4 a1.toNatClampNeg) q3 h4) wm_32_1 wm_32_2 wm_32_3 wm_2_19 wm_32_4 hd_X2_add ⟨by decide, by decide⟩ hK hP hD hS hA hE rfl rfl rfl (cov_of (n := 4) rfl (by decide)) (by decide) rfl (recvW (ci := 3) hK hP rfl cX2_o rfl) rfl rfl hl.1 (Nat.le_of_ble_eq_true rfl) dX11_price_51 (fun H locs hP hD hS => ?_)
          refine lv_aload_n hx hb dX11_price_54 rfl (lv_at hl 0 rfl) ?_
          refine go_11_36 (ci := 0) hx hb hts hown hK hE hP rfl dX11_price_55 ?_
          refine go_11_183 (ci := 2) hx hb hts hown hK hE hP rfl dX11_price_58 ?_
          refine lv_iload_n hx hb dX11_price_61 rfl (lv_at hl 1 rfl) ?_
          refine lv_iload_n hx hb dX11_price_62 rfl (lv_at hl 2 rfl) ?_
          replace h := gin_inv h
          obtain ⟨h9, h⟩ := h
          refine stWI (ci := 2) (k0 := 3) (j := a1.toNatClampNeg) (cs' := [cX11 cy adX xT xR (adP 0) (adS 0) xIm xTr xC xWa xWb xWo (adZ 0) xU xD xE xB X, cX6 cy adP xL P, cX8 cy adS (sr S 4 a1.toNatClampNeg a2), cX2 cy adZ q3]) hx hb hK hP hD hS rfl cX8_a4 h9 rfl cX8_s4 rfl dX11_price_63 (fun H locs hP hD hS => ?_)
          refine lv_iconst (v := 1) hx hb dX11_price_64 (by decide) ?_
          exact retZ (fr := fun q => q.1) (fw := fun q => wj [cX11 cy adX xT xR (adP 0) (adS 0) xIm xTr xC xWa xWb xWo (adZ 0) xU xD xE xB X, cX6 cy adP xL P, cX8 cy adS q.2.1, cX2 cy adZ q.2.2]) h hx hb hr narZ1 hlocks hK hP hD hS dX11_price_65
        · replace h := (br h).1 c9
          refine lv_iconst (v := 0) hx hb dX11_price_34 (by decide) ?_
          exact retZ (fr := fun q => q.1) (fw := fun q => wj [cX11 cy adX xT xR (adP 0) (adS 0) xIm xTr xC xWa xWb xWo (adZ 0) xU xD xE xB X, cX6 cy adP xL P, cX8 cy adS q.2.1, cX2 cy adZ q.2.2]) h hx hb hr narZ0 hlocks hK hP hD hS dX11_price_35
theorem hds_X11_days : yX11_days.cls ≠ "java/lang/invoke/MethodHandle" ∧ yX11_days.cls ≠ "java/lang/invoke/VarHandle" ∧ (parseMethodDescriptor yX11_days.desc).map (fun d => d.parameters.length) = some 1 := ⟨by decide +kernel, by decide +kernel, by decide +kernel⟩
theorem hd_X11_days : yX11_days.cls = RX11 ∧ yX11_days.cls ≠ "java/lang/invoke/MethodHandle" ∧ yX11_days.cls ≠ "java/lang/invoke/VarHandle" ∧ (parseMethodDescriptor yX11_days.desc).map (fun d => d.parameters.length) = some 1 := ⟨rfl, hds_X11_days⟩
def f_X11_days_s29 (N : Nat) (X : VV) (P : VV) (L : VV) (S : VV) (C : VV) (Wb : VV) (Z : VV) (x1 : Int32) (x2 : Int32) : Option (((Int32 × VV × VV × VV × VV) ⊕ (Int32 × VV × VV × VV × VV))) :=
  if x1 ≤ x2 then inrO (some (S.1 0, L, S, C, Z)) else bnd (f_X0_goThrough N C P L S Wb) (fun q2901 => some (.inl (x2 + 1, q2901.2.1, q2901.2.2, q2901.1, si Z 3 0)))
def f_X11_days (N : Nat) (X : VV) (P : VV) (L : VV) (S : VV) (C : VV) (Wb : VV) (Z : VV) (a1 : Int32) : Option (Int32 × VV × VV × VV × VV) :=
  if a1 < 0 then some ((-1), L, S, C, Z) else if (99 : Int32) < a1 then some ((-1), L, S, C, Z) else if (S.1 0) + a1 ≤ 9999 then itr (fun q : Int32 × VV × VV × VV × VV => f_X11_days_s29 N X P q.2.1 q.2.2.1 q.2.2.2.1 Wb q.2.2.2.2 a1 q.1) N (0, L, S, C, Z) else some ((-1), L, S, C, Z)
set_option maxHeartbeats 4000000 in
set_option maxRecDepth 100000 in
theorem k_X11_days (l : Launch) (G : va_G) (cy : Nat → ClassId) (ev : Nat → Nat) (N : Nat) (adX : Nat → Nat) (xT : Nat) (xR : Nat) (xIm : Nat) (xTr : Nat) (xWa : Nat) (xWo : Nat) (xU : Nat) (xD : Nat) (xE : Nat) (xB : Nat) (X : VV) (adP : Nat → Nat) (P : VV) (adL : Nat → Nat) (L : VV) (adS : Nat → Nat) (S : VV) (adC : Nat → Nat) (C : VV) (adWb : Nat → Nat) (Wb : VV) (adZ : Nat → Nat) (Z : VV) (a1 : Int32) (res : Int32 × VV × VV × VV × VV) (h : f_X11_days N X P L S C Wb Z a1 = some res) : MetI l yX11_days cX11_days 3 (some .int) 6 166 G cy ev [.ref (adX 0), .int a1] (wj [cX11 cy adX xT xR (adP 0) (adS 0) xIm xTr (adC 0) xWa (adWb 0) xWo (adZ 0) xU xD xE xB X, cX6 cy adP (adL 0) P, cX3 cy adL L, cX8 cy adS S, cX0 cy adC C, cX10 cy adWb Wb, cX2 cy adZ Z]) res.1 (wj [cX11 cy adX xT xR (adP 0) (adS 0) xIm xTr (adC 0) xWa (adWb 0) xWo (adZ 0) xU xD xE xB X, cX6 cy adP (adL 0) P, cX3 cy adL res.2.1, cX8 cy adS res.2.2.1, cX0 cy adC res.2.2.2.1, cX10 cy adWb Wb, cX2 cy adZ res.2.2.2.2]) := by
  refine MetQ.start (by decide +kernel) (Nat.le_of_ble_eq_true rfl) (fun p e s m args below meth c A ls hx hb hr hml hown hts hlocks hK hP hD hA hl hE => ?_)
  have hS : va_S A s.heap s.heap [] := va_S.rf
  have hown : s.vm.findClass RX11 = some m.cls := hown
  have hl : lv_has ls 3 [(0, .ref (adX 0)), (1, .int a1)] := hl
  have L29 : ∀ (x1 : Int32) (n : Nat) (x2 : Int32) (L : VV) (S : VV) (C : VV) (Z : VV) (H : Heap) (locs : List Loc) (ls : Array Slot), itr (fun q : Int32 × VV × VV × VV × VV => f_X11_days_s29 N X P q.2.1 q.2.2.1 q.2.2.2.1 Wb q.2.2.2.2 x1 q.1) n (x2, L, S, C, Z) = some res → va_P G vwCl (wj [cX11 cy adX xT xR (adP 0) (adS 0) xIm xTr (adC 0) xWa (adWb 0) xWo (adZ 0) xU xD xE xB X, cX6 cy adP (adL 0) P, cX3 cy adL L, cX8 cy adS S, cX0 cy adC C, cX10 cy adWb Wb, cX2 cy adZ Z]) H → va_D A (wj [cX11 cy adX xT xR (adP 0) (adS 0) xIm xTr (adC 0) xWa (adWb 0) xWo (adZ 0) xU xD xE xB X, cX6 cy adP (adL 0) P, cX3 cy adL L, cX8 cy adS S, cX0 cy adC C, cX10 cy adWb Wb, cX2 cy adZ Z]) → va_S A s.heap H locs → lv_has ls 3 [(0, .ref (adX 0)), (1, .int x1), (2, .int x2)] → W p l e (rmX 6 166) s m args below meth c H locs 0 0 (MQ below (mQi (res.1) G cy A (wj [cX11 cy adX xT xR (adP 0) (adS 0) xIm xTr (adC 0) xWa (adWb 0) xWo (adZ 0) xU xD xE xB X, cX6 cy adP (adL 0) P, cX3 cy adL res.2.1, cX8 cy adS res.2.2.1, cX0 cy adC res.2.2.2.1, cX10 cy adWb Wb, cX2 cy adZ res.2.2.2.2])) args s 0 0 A) (F0 m 29 ls []) := by
    intro x1 n
    induction n with
    | zero => intro x2 L S C Z H locs ls h; exact (itr_zero h).elim
    | succ n ih1 =>
      intro x2 L S C Z H locs ls h hP hD hS hl
      obtain ⟨y1, h, hy1⟩ := itr_inv h
      have h : f_X11_days_s29 N X P L S C Wb Z x1 x2 = some y1 := h
      delta f_X11_days_s29 at h
      refine lv_iload_n hx hb dX11_days_29 rfl (lv_at hl 2 rfl) ?_
      refine lv_iload_n hx hb dX11_days_30 rfl (lv_at hl 1 rfl) ?_
      refine lv_icmp_ge (tgt := 67) hx hb dX11_days_31 (by decide) (fun c9 => ?_) (fun c9 => ?_)
      · replace h := (br h).1 c9
        replace h := itr_exit h hy1
        refine lv_aload_n hx hb dX11_days_67 rfl (lv_at hl 0 rfl) ?_
        refine go_11_36 (ci := 0) hx hb hts hown hK hE hP rfl dX11_days_68 ?_
        refine go_11_242 (ci := 3) (x := S.1 0) hx hb hts hown hK hE hP rfl rfl dX11_days_71 ?_
        exact retI (fr := fun q => q.1) (fw := fun q => wj [cX11 cy adX xT xR (adP 0) (adS 0) xIm xTr (adC 0) xWa (adWb 0) xWo (adZ 0) xU xD xE xB X, cX6 cy adP (adL 0) P, cX3 cy adL q.2.1, cX8 cy adS q.2.2.1, cX0 cy adC q.2.2.2.1, cX10 cy adWb Wb, cX2 cy adZ q.2.2.2.2]) h hx hb hr hlocks hK hP hD hS dX11_days_74
      · replace h := (br h).2 c9
        refine lv_aload_n hx hb dX11_days_34 rfl (lv_at hl 0 rfl) ?_
        refine go_11_53 (ci := 0) hx hb hts hown hK hE hP rfl dX11_days_35 ?_
        refine lv_aload_n hx hb dX11_days_38 rfl (lv_at hl 0 rfl) ?_
        refine go_11_29 (ci := 0) hx hb hts hown hK hE hP rfl dX11_days_39 ?_
        refine lv_aload_n hx hb dX11_days_42 rfl (lv_at hl 0 rfl) ?_
        refine go_11_36 (ci := 0) hx hb hts hown hK hE hP rfl dX11_days_43 ?_
        refine lv_aload_n hx hb dX11_days_46 rfl (lv_at hl 0 rfl) ?_
        refine go_11_64 (ci := 0) hx hb hts hown hK hE hP rfl dX11_days_47 ?_
        replace h := bd h
        obtain ⟨q2901, h2902, h⟩ := h
        refine callWVv (As := [.ref (adP 0), .ref (adS 0), .ref (adWb 0)]) (rest := []) (cs' := [cX11 cy adX xT xR (adP 0) (adS 0) xIm xTr (adC 0) xWa (adWb 0) xWo (adZ 0) xU xD xE xB X, cX6 cy adP (adL 0) P, cX3 cy adL q2901.2.1, cX8 cy adS q2901.2.2, cX0 cy adC q2901.1, cX10 cy adWb Wb, cX2 cy adZ Z]) (isC := [4, 1, 2, 3, 5]) (isR := [0, 6]) hx hb hml hown hts (k_X0_goThrough l G cy ev N adC C adP P adL L adS S adWb Wb q2901 h2902) wm_33_14 wm_33_15 wm_33_16 wm_2_9 wm_33_17 hd_X0_goThrough ⟨by decide, by decide⟩ hK hP hD hS hA hE rfl rfl rfl (cov_of (n := 7) rfl (by decide)) (by decide) rfl (recvW (ci := 4) hK hP rfl cX0_o rfl) rfl rfl hl.1 (Nat.le_of_ble_eq_true rfl) dX11_days_50 (fun H locs hP hD hS => ?_)
        refine lv_aload_n hx hb dX11_days_53 rfl (lv_at hl 0 rfl) ?_
        refine go_11_73 (ci := 0) hx hb hts hown hK hE hP rfl dX11_days_54 ?_
        refine lv_iconst (v := 0) hx hb dX11_days_57 (by decide) ?_
        refine po_11_118 (ci := 6) (cs' := [cX11 cy adX xT xR (adP 0) (adS 0) xIm xTr (adC 0) xWa (adWb 0) xWo (adZ 0) xU xD xE xB X, cX6 cy adP (adL 0) P, cX3 cy adL q2901.2.1, cX8 cy adS q2901.2.2, cX0 cy adC q2901.1, cX10 cy adWb Wb, cX2 cy adZ (si Z 3 0)]) hx hb hts hown hK hE hP hD hS rfl rfl dX11_days_58 (fun H locs hP hD hS => ?_)
        refine lv_iinc (v := x2 + 1) (lv' := [(2, .int (x2 + 1)), (0, .ref (adX 0)), (1, .int x1)]) hx hb dX11_days_61 hl (k := 2) rfl rfl (by decide) rfl (fun ls hl => ?_)
        refine lv_goto (tgt := 29) hx hb dX11_days_64 (by decide) ?_
        replace h := itr_back h hy1
        exact ih1 (x2 + 1) q2901.2.1 q2901.2.2 q2901.1 (si Z 3 0) _ _ _ h hP hD hS (lv_sub hl [1, 2, 0] rfl)
  delta f_X11_days at h
  refine lv_iload_n hx hb dX11_days_0 rfl (lv_at hl 1 rfl) ?_
  refine lv_if_lt (tgt := 25) hx hb dX11_days_1 (by decide) (fun c9 => ?_) (fun c9 => ?_)
  · replace h := (br h).1 c9
    refine lv_iconst (v := (-1)) hx hb dX11_days_25 (by decide) ?_
    exact retI (fr := fun q => q.1) (fw := fun q => wj [cX11 cy adX xT xR (adP 0) (adS 0) xIm xTr (adC 0) xWa (adWb 0) xWo (adZ 0) xU xD xE xB X, cX6 cy adP (adL 0) P, cX3 cy adL q.2.1, cX8 cy adS q.2.2.1, cX0 cy adC q.2.2.2.1, cX10 cy adWb Wb, cX2 cy adZ q.2.2.2.2]) h hx hb hr hlocks hK hP hD hS dX11_days_26
  · replace h := (br h).2 c9
    refine lv_iload_n hx hb dX11_days_4 rfl (lv_at hl 1 rfl) ?_
    refine lv_bipush (v := 99) hx hb dX11_days_5 (by decide) ?_
    refine lv_icmp_gt (tgt := 25) hx hb dX11_days_7 (by decide) (fun c9 => ?_) (fun c9 => ?_)
    · replace h := (br h).1 c9
      refine lv_iconst (v := (-1)) hx hb dX11_days_25 (by decide) ?_
      exact retI (fr := fun q => q.1) (fw := fun q => wj [cX11 cy adX xT xR (adP 0) (adS 0) xIm xTr (adC 0) xWa (adWb 0) xWo (adZ 0) xU xD xE xB X, cX6 cy adP (adL 0) P, cX3 cy adL q.2.1, cX8 cy adS q.2.2.1, cX0 cy adC q.2.2.2.1, cX10 cy adWb Wb, cX2 cy adZ q.2.2.2.2]) h hx hb hr hlocks hK hP hD hS dX11_days_26
    · replace h := (br h).2 c9
      refine lv_aload_n hx hb dX11_days_10 rfl (lv_at hl 0 rfl) ?_
      refine go_11_36 (ci := 0) hx hb hts hown hK hE hP rfl dX11_days_11 ?_
      refine go_11_242 (ci := 3) (x := S.1 0) hx hb hts hown hK hE hP rfl rfl dX11_days_14 ?_
      refine lv_iload_n hx hb dX11_days_17 rfl (lv_at hl 1 rfl) ?_
      refine lv_iadd hx hb dX11_days_18 ?_
      refine lv_sipush (v := 9999) hx hb dX11_days_19 (by decide) ?_
      refine lv_icmp_le (tgt := 27) hx hb dX11_days_22 (by decide) (fun c9 => ?_) (fun c9 => ?_)
      · replace h := (br h).1 c9
        refine lv_iconst (v := 0) hx hb dX11_days_27 (by decide) ?_
        refine lv_istore_n (lv' := [(2, .int 0), (0, .ref (adX 0)), (1, .int a1)]) hx hb dX11_days_28 rfl hl (by decide) rfl (fun ls hl => ?_)
        exact L29 a1 N 0 L S C Z _ _ _ h hP hD hS (lv_sub hl [1, 2, 0] rfl)
      · replace h := (br h).2 c9
        refine lv_iconst (v := (-1)) hx hb dX11_days_25 (by decide) ?_
        exact retI (fr := fun q => q.1) (fw := fun q => wj [cX11 cy adX xT xR (adP 0) (adS 0) xIm xTr (adC 0) xWa (adWb 0) xWo (adZ 0) xU xD xE xB X, cX6 cy adP (adL 0) P, cX3 cy adL q.2.1, cX8 cy adS q.2.2.1, cX0 cy adC q.2.2.2.1, cX10 cy adWb Wb, cX2 cy adZ q.2.2.2.2]) h hx hb hr hlocks hK hP hD hS dX11_days_26
theorem hds_X11_findBest : yX11_findBest.cls ≠ "java/lang/invoke/MethodHandle" ∧ yX11_findBest.cls ≠ "java/lang/invoke/VarHandle" ∧ (parseMethodDescriptor yX11_findBest.desc).map (fun d => d.parameters.length) = some 0 := ⟨by decide +kernel, by decide +kernel, by decide +kernel⟩
theorem hd_X11_findBest : yX11_findBest.cls = RX11 ∧ yX11_findBest.cls ≠ "java/lang/invoke/MethodHandle" ∧ yX11_findBest.cls ≠ "java/lang/invoke/VarHandle" ∧ (parseMethodDescriptor yX11_findBest.desc).map (fun d => d.parameters.length) = some 0 := ⟨rfl, hds_X11_findBest⟩
def f_X11_findBest_b87 (N : Nat) (X : VV) (P : VV) (L : VV) (S : VV) (Wa : VV) (D : VV) (x1 : Int32) (x2 : Int32) (z0 : Int32) : Option (((Int32 × VV × VV) ⊕ (((Int32 × VV × VV) ⊕ (VV × VV))))) :=
  bnd (f_X1_tell D x1 x2 z0) (fun q8701 => some (.inl (x2 + 1, L, q8701)))
def f_X11_findBest_b62 (N : Nat) (X : VV) (P : VV) (L : VV) (S : VV) (Wa : VV) (D : VV) (x1 : Int32) (x2 : Int32) (z0 : Int32) : Option (((Int32 × VV × VV) ⊕ (((Int32 × VV × VV) ⊕ (VV × VV))))) :=
  if z0 = 0 then f_X11_findBest_b87 N X P L S Wa D x1 x2 ((-1)) else bnd (f_X11_likeNow N X P L S Wa x1 x2) (fun q6201 => bnd (f_X6_trait P x1 0) (fun q6203 => f_X11_findBest_b87 N X P q6201.2 S Wa D x1 x2 (q6201.1 * q6203)))
def f_X11_findBest_s15 (N : Nat) (X : VV) (P : VV) (L : VV) (S : VV) (Wa : VV) (D : VV) (x1 : Int32) (x2 : Int32) : Option (((Int32 × VV × VV) ⊕ (((Int32 × VV × VV) ⊕ (VV × VV))))) :=
  if P.1 3 ≤ x2 then inrO (some (.inl (x1 + 1, L, D))) else gin x2 3 (bnd (f_X6_trait P x1 4) (fun q1501 => if q1501 < (P.2.1 4 x2.toNatClampNeg) + (P.2.1 6 1) then f_X11_findBest_b62 N X P L S Wa D x1 x2 0 else f_X11_findBest_b62 N X P L S Wa D x1 x2 1))
def f_X11_findBest_s2 (N : Nat) (X : VV) (P : VV) (L : VV) (S : VV) (Wa : VV) (D : VV) (x1 : Int32) : Option (((Int32 × VV × VV) ⊕ (VV × VV))) :=
  if P.1 0 ≤ x1 then inrO (bnd (f_X1_find N D P) (fun q201 => some (L, q201))) else itr (fun q : Int32 × VV × VV => f_X11_findBest_s15 N X P q.2.1 S Wa q.2.2 x1 q.1) N (0, L, D)
def f_X11_findBest (N : Nat) (X : VV) (P : VV) (L : VV) (S : VV) (Wa : VV) (D : VV) : Option (VV × VV) :=
  itr (fun q : Int32 × VV × VV => f_X11_findBest_s2 N X P q.2.1 S Wa q.2.2 q.1) N (0, L, D)
set_option maxHeartbeats 4000000 in
set_option maxRecDepth 100000 in
theorem k_X11_findBest (l : Launch) (G : va_G) (cy : Nat → ClassId) (ev : Nat → Nat) (N : Nat) (adX : Nat → Nat) (xT : Nat) (xR : Nat) (xIm : Nat) (xTr : Nat) (xC : Nat) (xWb : Nat) (xWo : Nat) (xZ : Nat) (xU : Nat) (xE : Nat) (xB : Nat) (X : VV) (adP : Nat → Nat) (P : VV) (adL : Nat → Nat) (L : VV) (adS : Nat → Nat) (S : VV) (adWa : Nat → Nat) (Wa : VV) (adD : Nat → Nat) (D : VV)  (res : VV × VV) (h : f_X11_findBest N X P L S Wa D = some res) : MetV l yX11_findBest cX11_findBest 5 none 13 359 G cy ev [.ref (adX 0)] (wj [cX11 cy adX xT xR (adP 0) (adS 0) xIm xTr xC (adWa 0) xWb xWo xZ xU (adD 0) xE xB X, cX6 cy adP (adL 0) P, cX3 cy adL L, cX8 cy adS S, cX10 cy adWa Wa, cX1 cy adD D]) (wj [cX11 cy adX xT xR (adP 0) (adS 0) xIm xTr xC (adWa 0) xWb xWo xZ xU (adD 0) xE xB X, cX6 cy adP (adL 0) P, cX3 cy adL res.1, cX8 cy adS S, cX10 cy adWa Wa, cX1 cy adD res.2]) := by
  refine MetQ.start (by decide +kernel) (Nat.le_of_ble_eq_true rfl) (fun p e s m args below meth c A ls hx hb hr hml hown hts hlocks hK hP hD hA hl hE => ?_)
  have hS : va_S A s.heap s.heap [] := va_S.rf
  have hown : s.vm.findClass RX11 = some m.cls := hown
  have hl : lv_has ls 5 [(0, .ref (adX 0))] := hl
  have L2 : ∀ (n : Nat) (x1 : Int32) (L : VV) (D : VV) (H : Heap) (locs : List Loc) (ls : Array Slot), itr (fun q : Int32 × VV × VV => f_X11_findBest_s2 N X P q.2.1 S Wa q.2.2 q.1) n (x1, L, D) = some res → va_P G vwCl (wj [cX11 cy adX xT xR (adP 0) (adS 0) xIm xTr xC (adWa 0) xWb xWo xZ xU (adD 0) xE xB X, cX6 cy adP (adL 0) P, cX3 cy adL L, cX8 cy adS S, cX10 cy adWa Wa, cX1 cy adD D]) H → va_D A (wj [cX11 cy adX xT xR (adP 0) (adS 0) xIm xTr xC (adWa 0) xWb xWo xZ xU (adD 0) xE xB X, cX6 cy adP (adL 0) P, cX3 cy adL L, cX8 cy adS S, cX10 cy adWa Wa, cX1 cy adD D]) → va_S A s.heap H locs → lv_has ls 5 [(0, .ref (adX 0)), (1, .int x1)] → W p l e (rmX 13 359) s m args below meth c H locs 0 0 (MQ below (mQv G cy A (wj [cX11 cy adX xT xR (adP 0) (adS 0) xIm xTr xC (adWa 0) xWb xWo xZ xU (adD 0) xE xB X, cX6 cy adP (adL 0) P, cX3 cy adL res.1, cX8 cy adS S, cX10 cy adWa Wa, cX1 cy adD res.2])) args s 0 0 A) (F0 m 2 ls []) := by
    intro n
    induction n with
    | zero => intro x1 L D H locs ls h; exact (itr_zero h).elim
    | succ n ih1 =>
      intro x1 L D H locs ls h hP hD hS hl
      obtain ⟨y1, h, hy1⟩ := itr_inv h
      have h : f_X11_findBest_s2 N X P L S Wa D x1 = some y1 := h
      have L15 : ∀ (x1 : Int32) (n : Nat) (x2 : Int32) (L : VV) (D : VV) (H : Heap) (locs : List Loc) (ls : Array Slot), itr (fun q : Int32 × VV × VV => f_X11_findBest_s15 N X P q.2.1 S Wa q.2.2 x1 q.1) n (x2, L, D) = some y1 → va_P G vwCl (wj [cX11 cy adX xT xR (adP 0) (adS 0) xIm xTr xC (adWa 0) xWb xWo xZ xU (adD 0) xE xB X, cX6 cy adP (adL 0) P, cX3 cy adL L, cX8 cy adS S, cX10 cy adWa Wa, cX1 cy adD D]) H → va_D A (wj [cX11 cy adX xT xR (adP 0) (adS 0) xIm xTr xC (adWa 0) xWb xWo xZ xU (adD 0) xE xB X, cX6 cy adP (adL 0) P, cX3 cy adL L, cX8 cy adS S, cX10 cy adWa Wa, cX1 cy adD D]) → va_S A s.heap H locs → lv_has ls 5 [(0, .ref (adX 0)), (1, .int x1), (2, .int x2)] → W p l e (rmX 13 359) s m args below meth c H locs 0 0 (MQ below (mQv G cy A (wj [cX11 cy adX xT xR (adP 0) (adS 0) xIm xTr xC (adWa 0) xWb xWo xZ xU (adD 0) xE xB X, cX6 cy adP (adL 0) P, cX3 cy adL res.1, cX8 cy adS S, cX10 cy adWa Wa, cX1 cy adD res.2])) args s 0 0 A) (F0 m 15 ls []) := by
        intro x1 n
        induction n with
        | zero => intro x2 L D H locs ls h; exact (itr_zero h).elim
        | succ n ih2 =>
          intro x2 L D H locs ls h hP hD hS hl
          obtain ⟨y2, h, hy2⟩ := itr_inv h
          have h : f_X11_findBest_s15 N X P L S Wa D x1 x2 = some y2 := h
          have B87 : ∀ (x2 : Int32) (z0 : Int32) (L : VV) (D : VV) (H : Heap) (locs : List Loc) (ls : Array Slot), f_X11_findBest_b87 N X P L S Wa D x1 x2 z0 = some y2 → va_P G vwCl (wj [cX11 cy adX xT xR (adP 0) (adS 0) xIm xTr xC (adWa 0) xWb xWo xZ xU (adD 0) xE xB X, cX6 cy adP (adL 0) P, cX3 cy adL L, cX8 cy adS S, cX10 cy adWa Wa, cX1 cy adD D]) H → va_D A (wj [cX11 cy adX xT xR (adP 0) (adS 0) xIm xTr xC (adWa 0) xWb xWo xZ xU (adD 0) xE xB X, cX6 cy adP (adL 0) P, cX3 cy adL L, cX8 cy adS S, cX10 cy adWa Wa, cX1 cy adD D]) → va_S A s.heap H locs → lv_has ls 5 [(0, .ref (adX 0)), (1, .int x1), (2, .int x2)] → W p l e (rmX 13 359) s m args below meth c H locs 0 0 (MQ below (mQv G cy A (wj [cX11 cy adX xT xR (adP 0) (adS 0) xIm xTr xC (adWa 0) xWb xWo xZ xU (adD 0) xE xB X, cX6 cy adP (adL 0) P, cX3 cy adL res.1, cX8 cy adS S, cX10 cy adWa Wa, cX1 cy adD res.2])) args s 0 0 A) (F0 m 87 ls [.int z0]) := by
            intro x2 z0 L D H locs ls h hP hD hS hl
            delta f_X11_findBest_b87 at h
            refine lv_istore (lv' := [(4, .int z0), (0, .ref (adX 0)), (1, .int x1), (2, .int x2)]) hx hb dX11_findBest_87 hl (by decide) rfl (fun ls hl => ?_)
            refine lv_aload_n hx hb dX11_findBest_89 rfl (lv_at hl 1 rfl) ?_
            refine go_11_87 (ci := 0) hx hb hts hown hK hE hP rfl dX11_findBest_90 ?_
            refine lv_iload_n hx hb dX11_findBest_93 rfl (lv_at hl 2 rfl) ?_
            refine lv_iload_n hx hb dX11_findBest_94 rfl (lv_at hl 3 rfl) ?_
            refine lv_iload hx hb dX11_findBest_95 (lv_at hl 0 rfl) ?_
            replace h := bd h
            obtain ⟨q8701, h8702, h⟩ := h
            refine callWVv (As := [.int x1, .int x2, .int z0]) (rest := []) (cs' := [cX11 cy adX xT xR (adP 0) (adS 0) xIm xTr xC (adWa 0) xWb xWo xZ xU (adD 0) xE xB X, cX6 cy adP (adL 0) P, cX3 cy adL L, cX8 cy adS S, cX10 cy adWa Wa, cX1 cy adD q8701]) (isC := [5]) (isR := [0, 1, 2, 3, 4]) hx hb hml hown hts (k_X1_tell l G cy ev adD D x1 x2 z0 q8701 h8702) wm_38_3 wm_38_4 wm_38_5 wm_3_3 wm_38_6 hd_X1_tell ⟨by decide, by decide⟩ hK hP hD hS hA hE rfl rfl rfl (cov_of (n := 6) rfl (by decide)) (by decide) rfl (recvW (ci := 5) hK hP rfl cX1_o rfl) rfl rfl hl.1 (Nat.le_of_ble_eq_true rfl) dX11_findBest_97 (fun H locs hP hD hS => ?_)
            refine lv_iinc (v := x2 + 1) (lv' := [(2, .int (x2 + 1)), (4, .int z0), (0, .ref (adX 0)), (1, .int x1)]) hx hb dX11_findBest_100 hl (k := 3) rfl rfl (by decide) rfl (fun ls hl => ?_)
            refine lv_goto (tgt := 15) hx hb dX11_findBest_103 (by decide) ?_
            replace h := itr_back h hy2
            exact ih2 (x2 + 1) L q8701 _ _ _ h hP hD hS (lv_sub hl [2, 3, 0] rfl)
          have B62 : ∀ (x2 : Int32) (z0 : Int32) (L : VV) (D : VV) (H : Heap) (locs : List Loc) (ls : Array Slot), f_X11_findBest_b62 N X P L S Wa D x1 x2 z0 = some y2 → va_P G vwCl (wj [cX11 cy adX xT xR (adP 0) (adS 0) xIm xTr xC (adWa 0) xWb xWo xZ xU (adD 0) xE xB X, cX6 cy adP (adL 0) P, cX3 cy adL L, cX8 cy adS S, cX10 cy adWa Wa, cX1 cy adD D]) H → va_D A (wj [cX11 cy adX xT xR (adP 0) (adS 0) xIm xTr xC (adWa 0) xWb xWo xZ xU (adD 0) xE xB X, cX6 cy adP (adL 0) P, cX3 cy adL L, cX8 cy adS S, cX10 cy adWa Wa, cX1 cy adD D]) → va_S A s.heap H locs → lv_has ls 5 [(0, .ref (adX 0)), (1, .int x1), (2, .int x2)] → W p l e (rmX 13 359) s m args below meth c H locs 0 0 (MQ below (mQv G cy A (wj [cX11 cy adX xT xR (adP 0) (adS 0) xIm xTr xC (adWa 0) xWb xWo xZ xU (adD 0) xE xB X, cX6 cy adP (adL 0) P, cX3 cy adL res.1, cX8 cy adS S, cX10 cy adWa Wa, cX1 cy adD res.2])) args s 0 0 A) (F0 m 62 ls [.int z0]) := by
            intro x2 z0 L D H locs ls h hP hD hS hl
            delta f_X11_findBest_b62 at h
            refine lv_istore_n (lv' := [(3, .int z0), (0, .ref (adX 0)), (1, .int x1), (2, .int x2)]) hx hb dX11_findBest_62 rfl hl (by decide) rfl (fun ls hl => ?_)
            refine lv_iload_n hx hb dX11_findBest_63 rfl (lv_at hl 0 rfl) ?_
            refine lv_if_eq (tgt := 86) hx hb dX11_findBest_64 (by decide) (fun c9 => ?_) (fun c9 => ?_)
            · replace h := (br h).1 c9
              refine lv_iconst (v := (-1)) hx hb dX11_findBest_86 (by decide) ?_
              exact B87 x2 ((-1)) L D _ _ _ h hP hD hS (lv_sub hl [1, 2, 3] rfl)
            · replace h := (br h).2 c9
              refine lv_aload_n hx hb dX11_findBest_67 rfl (lv_at hl 1 rfl) ?_
              refine lv_iload_n hx hb dX11_findBest_68 rfl (lv_at hl 2 rfl) ?_
              refine lv_iload_n hx hb dX11_findBest_69 rfl (lv_at hl 3 rfl) ?_
              replace h := bd h
              obtain ⟨q6201, h6202, h⟩ := h
              refine callWVi (As := [.int x1, .int x2]) (rest := []) (cs' := [cX11 cy adX xT xR (adP 0) (adS 0) xIm xTr xC (adWa 0) xWb xWo xZ xU (adD 0) xE xB X, cX6 cy adP (adL 0) P, cX3 cy adL q6201.2, cX8 cy adS S, cX10 cy adWa Wa, cX1 cy adD D]) (isC := [0, 1, 2, 3, 4]) (isR := [5]) hx hb hml hown hts (k_X11_likeNow l G cy ev N adX xT xR xIm xTr xC xWb xWo xZ xU (adD 0) xE xB X adP P adL L adS S adWa Wa x1 x2 q6201 h6202) wm_37_22 wm_37_23 wm_38_0 wm_1_2 wm_38_1 hd_X11_likeNow ⟨by decide, by decide⟩ hK hP hD hS hA hE rfl rfl rfl (cov_of (n := 6) rfl (by decide)) (by decide) rfl (recvW (ci := 0) hK hP rfl cX11_o rfl) rfl rfl hl.1 (Nat.le_of_ble_eq_true rfl) dX11_findBest_70 (fun H locs hP hD hS => ?_)
              refine lv_aload_n hx hb dX11_findBest_73 rfl (lv_at hl 1 rfl) ?_
              refine go_11_29 (ci := 0) hx hb hts hown hK hE hP rfl dX11_findBest_74 ?_
              refine lv_iload_n hx hb dX11_findBest_77 rfl (lv_at hl 2 rfl) ?_
              refine lv_iconst (v := 0) hx hb dX11_findBest_78 (by decide) ?_
              replace h := bd h
              obtain ⟨q6203, h6204, h⟩ := h
              refine callWVi (As := [.int x1, .int 0]) (rest := [.int q6201.1]) (cs' := [cX11 cy adX xT xR (adP 0) (adS 0) xIm xTr xC (adWa 0) xWb xWo xZ xU (adD 0) xE xB X, cX6 cy adP (adL 0) P, cX3 cy adL q6201.2, cX8 cy adS S, cX10 cy adWa Wa, cX1 cy adD D]) (isC := [1]) (isR := [0, 2, 3, 4, 5]) hx hb hml hown hts (k_X6_trait l G cy ev adP (adL 0) P x1 0 q6203 h6204) wm_26_15 wm_26_16 wm_26_17 wm_1_22 wm_26_18 hd_X6_trait ⟨by decide, by decide⟩ hK hP hD hS hA hE rfl rfl rfl (cov_of (n := 6) rfl (by decide)) (by decide) rfl (recvW (ci := 1) hK hP rfl cX6_o rfl) rfl rfl hl.1 (Nat.le_of_ble_eq_true rfl) dX11_findBest_79 (fun H locs hP hD hS => ?_)
              refine lv_imul hx hb dX11_findBest_82 ?_
              refine lv_goto (tgt := 87) hx hb dX11_findBest_83 (by decide) ?_
              exact B87 x2 (q6201.1 * q6203) q6201.2 D _ _ _ h hP hD hS (lv_sub hl [1, 2, 3] rfl)
          delta f_X11_findBest_s15 at h
          refine lv_iload_n hx hb dX11_findBest_15 rfl (lv_at hl 2 rfl) ?_
          refine lv_aload_n hx hb dX11_findBest_16 rfl (lv_at hl 0 rfl) ?_
          refine go_11_29 (ci := 0) hx hb hts hown hK hE hP rfl dX11_findBest_17 ?_
          refine go_11_261 (ci := 1) (x := P.1 3) hx hb hts hown hK hE hP rfl rfl dX11_findBest_20 ?_
          refine lv_icmp_ge (tgt := 106) hx hb dX11_findBest_23 (by decide) (fun c9 => ?_) (fun c9 => ?_)
          · replace h := (br h).1 c9
            replace h := itr_exit h hy2
            refine lv_iinc (v := x1 + 1) (lv' := [(1, .int (x1 + 1)), (0, .ref (adX 0)), (2, .int x2)]) hx hb dX11_findBest_106 hl (k := 1) rfl rfl (by decide) rfl (fun ls hl => ?_)
            refine lv_goto (tgt := 2) hx hb dX11_findBest_109 (by decide) ?_
            replace h := itr_back h hy1
            exact ih1 (x1 + 1) L D _ _ _ h hP hD hS (lv_sub hl [1, 0] rfl)
          · replace h := (br h).2 c9
            refine lv_aload_n hx hb dX11_findBest_26 rfl (lv_at hl 0 rfl) ?_
            refine go_11_29 (ci := 0) hx hb hts hown hK hE hP rfl dX11_findBest_27 ?_
            refine go_11_180 (ci := 1) hx hb hts hown hK hE hP rfl dX11_findBest_30 ?_
            refine lv_iload_n hx hb dX11_findBest_33 rfl (lv_at hl 2 rfl) ?_
            replace h := gin_inv h
            obtain ⟨h9, h⟩ := h
            refine ldWI (ci := 1) (k0 := 3) (g := P.2.1 4) (j := x2.toNatClampNeg) hx hb hK hP rfl cX6_a4 rfl h9 rfl dX11_findBest_34 ?_
            refine lv_aload_n hx hb dX11_findBest_35 rfl (lv_at hl 0 rfl) ?_
            refine go_11_29 (ci := 0) hx hb hts hown hK hE hP rfl dX11_findBest_36 ?_
            refine go_11_264 (ci := 1) hx hb hts hown hK hE hP rfl dX11_findBest_39 ?_
            refine lv_iconst (v := 1) hx hb dX11_findBest_42 (by decide) ?_
            refine ldWI (ci := 1) (k0 := 5) (g := P.2.1 6) (j := 1) hx hb hK hP rfl cX6_a6 rfl (vin_dec (by decide)) (by decide) dX11_findBest_43 ?_
            refine lv_iadd hx hb dX11_findBest_44 ?_
            refine lv_aload_n hx hb dX11_findBest_45 rfl (lv_at hl 0 rfl) ?_
            refine go_11_29 (ci := 0) hx hb hts hown hK hE hP rfl dX11_findBest_46 ?_
            refine lv_iload_n hx hb dX11_findBest_49 rfl (lv_at hl 1 rfl) ?_
            refine lv_iconst (v := 4) hx hb dX11_findBest_50 (by decide) ?_
            replace h := bd h
            obtain ⟨q1501, h1502, h⟩ := h
            refine callWVi (As := [.int x1, .int 4]) (rest := [.int ((P.2.1 4 x2.toNatClampNeg) + (P.2.1 6 1))]) (cs' := [cX11 cy adX xT xR (adP 0) (adS 0) xIm xTr xC (adWa 0) xWb xWo xZ xU (adD 0) xE xB X, cX6 cy adP (adL 0) P, cX3 cy adL L, cX8 cy adS S, cX10 cy adWa Wa, cX1 cy adD D]) (isC := [1]) (isR := [0, 2, 3, 4, 5]) hx hb hml hown hts (k_X6_trait l G cy ev adP (adL 0) P x1 4 q1501 h1502) wm_26_15 wm_26_16 wm_26_17 wm_1_22 wm_26_18 hd_X6_trait ⟨by decide, by decide⟩ hK hP hD hS hA hE rfl rfl rfl (cov_of (n := 6) rfl (by decide)) (by decide) rfl (recvW (ci := 1) hK hP rfl cX6_o rfl) rfl rfl hl.1 (Nat.le_of_ble_eq_true rfl) dX11_findBest_51 (fun H locs hP hD hS => ?_)
            refine lv_icmp_gt (tgt := 61) hx hb dX11_findBest_54 (by decide) (fun c9 => ?_) (fun c9 => ?_)
            · replace h := (br h).1 c9
              refine lv_iconst (v := 0) hx hb dX11_findBest_61 (by decide) ?_
              exact B62 x2 0 L D _ _ _ h hP hD hS (lv_sub hl [0, 1, 2] rfl)
            · replace h := (br h).2 c9
              refine lv_iconst (v := 1) hx hb dX11_findBest_57 (by decide) ?_
              refine lv_goto (tgt := 62) hx hb dX11_findBest_58 (by decide) ?_
              exact B62 x2 1 L D _ _ _ h hP hD hS (lv_sub hl [0, 1, 2] rfl)
      delta f_X11_findBest_s2 at h
      refine lv_iload_n hx hb dX11_findBest_2 rfl (lv_at hl 1 rfl) ?_
      refine lv_aload_n hx hb dX11_findBest_3 rfl (lv_at hl 0 rfl) ?_
      refine go_11_29 (ci := 0) hx hb hts hown hK hE hP rfl dX11_findBest_4 ?_
      refine go_11_258 (ci := 1) (x := P.1 0) hx hb hts hown hK hE hP rfl rfl dX11_findBest_7 ?_
      refine lv_icmp_ge (tgt := 112) hx hb dX11_findBest_10 (by decide) (fun c9 => ?_) (fun c9 => ?_)
      · replace h := (br h).1 c9
        replace h := itr_exit h hy1
        refine lv_aload_n hx hb dX11_findBest_112 rfl (lv_at hl 0 rfl) ?_
        refine go_11_87 (ci := 0) hx hb hts hown hK hE hP rfl dX11_findBest_113 ?_
        refine lv_aload_n hx hb dX11_findBest_116 rfl (lv_at hl 0 rfl) ?_
        refine go_11_29 (ci := 0) hx hb hts hown hK hE hP rfl dX11_findBest_117 ?_
        replace h := bd h
        obtain ⟨q201, h202, h⟩ := h
        refine callWVv (As := [.ref (adP 0)]) (rest := []) (cs' := [cX11 cy adX xT xR (adP 0) (adS 0) xIm xTr xC (adWa 0) xWb xWo xZ xU (adD 0) xE xB X, cX6 cy adP (adL 0) P, cX3 cy adL L, cX8 cy adS S, cX10 cy adWa Wa, cX1 cy adD q201]) (isC := [5, 1]) (isR := [0, 2, 3, 4]) hx hb hml hown hts (k_X1_find l G cy ev N adD D adP (adL 0) P q201 h202) wm_38_7 wm_38_8 wm_38_9 wm_3_3 wm_38_10 hd_X1_find ⟨by decide, by decide⟩ hK hP hD hS hA hE rfl rfl rfl (cov_of (n := 6) rfl (by decide)) (by decide) rfl (recvW (ci := 5) hK hP rfl cX1_o rfl) rfl rfl hl.1 (Nat.le_of_ble_eq_true rfl) dX11_findBest_120 (fun H locs hP hD hS => ?_)
        exact retV (fw := fun q => wj [cX11 cy adX xT xR (adP 0) (adS 0) xIm xTr xC (adWa 0) xWb xWo xZ xU (adD 0) xE xB X, cX6 cy adP (adL 0) P, cX3 cy adL q.1, cX8 cy adS S, cX10 cy adWa Wa, cX1 cy adD q.2]) h hx hb hr hlocks hK hP hD hS dX11_findBest_123
      · replace h := (br h).2 c9
        refine lv_iconst (v := 0) hx hb dX11_findBest_13 (by decide) ?_
        refine lv_istore_n (lv' := [(2, .int 0), (0, .ref (adX 0)), (1, .int x1)]) hx hb dX11_findBest_14 rfl hl (by decide) rfl (fun ls hl => ?_)
        exact L15 x1 N 0 L D _ _ _ h hP hD hS (lv_sub hl [1, 2, 0] rfl)
  delta f_X11_findBest at h
  refine lv_iconst (v := 0) hx hb dX11_findBest_0 (by decide) ?_
  refine lv_istore_n (lv' := [(1, .int 0), (0, .ref (adX 0))]) hx hb dX11_findBest_1 rfl hl (by decide) rfl (fun ls hl => ?_)
  exact L2  N 0 L D _ _ _ h hP hD hS (lv_sub hl [1, 0] rfl)
theorem hds_X11_best : yX11_best.cls ≠ "java/lang/invoke/MethodHandle" ∧ yX11_best.cls ≠ "java/lang/invoke/VarHandle" ∧ (parseMethodDescriptor yX11_best.desc).map (fun d => d.parameters.length) = some 1 := ⟨by decide +kernel, by decide +kernel, by decide +kernel⟩
theorem hd_X11_best : yX11_best.cls = RX11 ∧ yX11_best.cls ≠ "java/lang/invoke/MethodHandle" ∧ yX11_best.cls ≠ "java/lang/invoke/VarHandle" ∧ (parseMethodDescriptor yX11_best.desc).map (fun d => d.parameters.length) = some 1 := ⟨rfl, hds_X11_best⟩
def f_X11_best (N : Nat) (X : VV) (P : VV) (L : VV) (S : VV) (Wa : VV) (D : VV) (a1 : Int32) : Option (Int32 × VV × VV) :=
  bnd (f_X6_hasParty P a1) (fun q1 => if q1 = 0 then some ((-1), L, D) else bnd (f_X11_findBest N X P L S Wa D) (fun q3 => gin a1 8 (if q3.2.2.1 3 a1.toNatClampNeg = (-1) then some ((-2), q3.1, q3.2) else some (q3.2.2.1 3 a1.toNatClampNeg, q3.1, q3.2))))
set_option maxHeartbeats 4000000 in
set_option maxRecDepth 100000 in
theorem k_X11_best (l : Launch) (G : va_G) (cy : Nat → ClassId) (ev : Nat → Nat) (N : Nat) (adX : Nat → Nat) (xT : Nat) (xR : Nat) (xIm : Nat) (xTr : Nat) (xC : Nat) (xWb : Nat) (xWo : Nat) (xZ : Nat) (xU : Nat) (xE : Nat) (xB : Nat) (X : VV) (adP : Nat → Nat) (P : VV) (adL : Nat → Nat) (L : VV) (adS : Nat → Nat) (S : VV) (adWa : Nat → Nat) (Wa : VV) (adD : Nat → Nat) (D : VV) (a1 : Int32) (res : Int32 × VV × VV) (h : f_X11_best N X P L S Wa D a1 = some res) : MetI l yX11_best cX11_best 3 (some .int) 14 383 G cy ev [.ref (adX 0), .int a1] (wj [cX11 cy adX xT xR (adP 0) (adS 0) xIm xTr xC (adWa 0) xWb xWo xZ xU (adD 0) xE xB X, cX6 cy adP (adL 0) P, cX3 cy adL L, cX8 cy adS S, cX10 cy adWa Wa, cX1 cy adD D]) res.1 (wj [cX11 cy adX xT xR (adP 0) (adS 0) xIm xTr xC (adWa 0) xWb xWo xZ xU (adD 0) xE xB X, cX6 cy adP (adL 0) P, cX3 cy adL res.2.1, cX8 cy adS S, cX10 cy adWa Wa, cX1 cy adD res.2.2]) := by
  refine MetQ.start (by decide +kernel) (Nat.le_of_ble_eq_true rfl) (fun p e s m args below meth c A ls hx hb hr hml hown hts hlocks hK hP hD hA hl hE => ?_)
  have hS : va_S A s.heap s.heap [] := va_S.rf
  have hown : s.vm.findClass RX11 = some m.cls := hown
  have hl : lv_has ls 3 [(0, .ref (adX 0)), (1, .int a1)] := hl
  delta f_X11_best at h
  refine lv_aload_n hx hb dX11_best_0 rfl (lv_at hl 0 rfl) ?_
  refine go_11_29 (ci := 0) hx hb hts hown hK hE hP rfl dX11_best_1 ?_
  refine lv_iload_n hx hb dX11_best_4 rfl (lv_at hl 1 rfl) ?_
  replace h := bd h
  obtain ⟨q1, h2, h⟩ := h
  refine callWVi (As := [.int a1]) (rest := []) (cs' := [cX11 cy adX xT xR (adP 0) (adS 0) xIm xTr xC (adWa 0) xWb xWo xZ xU (adD 0) xE xB X, cX6 cy adP (adL 0) P, cX3 cy adL L, cX8 cy adS S, cX10 cy adWa Wa, cX1 cy adD D]) (isC := [1]) (isR := [0, 2, 3, 4, 5]) hx hb hml hown hts (k_X6_hasParty l G cy ev adP (adL 0) P a1 q1 h2) wm_26_11 wm_26_12 wm_26_13 wm_1_22 wm_26_14 hd_X6_hasParty ⟨by decide, by decide⟩ hK hP hD hS hA hE rfl rfl rfl (cov_of (n := 6) rfl (by decide)) (by decide) rfl (recvW (ci := 1) hK hP rfl cX6_o rfl) rfl rfl hl.1 (Nat.le_of_ble_eq_true rfl) dX11_best_5 (fun H locs hP hD hS => ?_)
  refine lv_if_ne (tgt := 13) hx hb dX11_best_8 (by decide) (fun c9 => ?_) (fun c9 => ?_)
  · replace h := (br h).2 c9
    refine lv_aload_n hx hb dX11_best_13 rfl (lv_at hl 0 rfl) ?_
    replace h := bd h
    obtain ⟨q3, h4, h⟩ := h
    refine callWVv (As := []) (rest := []) (cs' := [cX11 cy adX xT xR (adP 0) (adS 0) xIm xTr xC (adWa 0) xWb xWo xZ xU (adD 0) xE xB X, cX6 cy adP (adL 0) P, cX3 cy adL q3.1, cX8 cy adS S, cX10 cy adWa Wa, cX1 cy adD q3.2]) (isC := [0, 1, 2, 3, 4, 5]) (isR := []) hx hb hml hown hts (k_X11_findBest l G cy ev N adX xT xR xIm xTr xC xWb xWo xZ xU xE xB X adP P adL L adS S adWa Wa adD D q3 h4) wm_37_18 wm_37_19 wm_37_20 wm_1_2 wm_37_21 hd_X11_findBest ⟨by decide, by decide⟩ hK hP hD hS hA hE rfl rfl rfl (cov_of (n := 6) rfl (by decide)) (by decide) rfl (recvW (ci := 0) hK hP rfl cX11_o rfl) rfl rfl hl.1 (Nat.le_of_ble_eq_true rfl) dX11_best_14 (fun H locs hP hD hS => ?_)
    refine lv_aload_n hx hb dX11_best_17 rfl (lv_at hl 0 rfl) ?_
    refine go_11_87 (ci := 0) hx hb hts hown hK hE hP rfl dX11_best_18 ?_
    refine go_11_252 (ci := 5) hx hb hts hown hK hE hP rfl dX11_best_21 ?_
    refine lv_iload_n hx hb dX11_best_24 rfl (lv_at hl 1 rfl) ?_
    replace h := gin_inv h
    obtain ⟨h9, h⟩ := h
    refine ldWI (ci := 5) (k0 := 4) (g := q3.2.2.1 3) (j := a1.toNatClampNeg) hx hb hK hP rfl cX1_a3 rfl h9 rfl dX11_best_25 ?_
    refine lv_istore_n (lv' := [(2, .int (q3.2.2.1 3 a1.toNatClampNeg)), (0, .ref (adX 0)), (1, .int a1)]) hx hb dX11_best_26 rfl hl (by decide) rfl (fun ls hl => ?_)
    refine lv_iload_n hx hb dX11_best_27 rfl (lv_at hl 0 rfl) ?_
    refine lv_iconst (v := (-1)) hx hb dX11_best_28 (by decide) ?_
    refine lv_icmp_ne (tgt := 37) hx hb dX11_best_29 (by decide) (fun c9 => ?_) (fun c9 => ?_)
    · replace h := (br h).2 c9
      refine lv_iload_n hx hb dX11_best_37 rfl (lv_at hl 0 rfl) ?_
      exact retI (fr := fun q => q.1) (fw := fun q => wj [cX11 cy adX xT xR (adP 0) (adS 0) xIm xTr xC (adWa 0) xWb xWo xZ xU (adD 0) xE xB X, cX6 cy adP (adL 0) P, cX3 cy adL q.2.1, cX8 cy adS S, cX10 cy adWa Wa, cX1 cy adD q.2.2]) h hx hb hr hlocks hK hP hD hS dX11_best_38
    · replace h := (br h).1 c9
      refine lv_bipush (v := (-2)) hx hb dX11_best_32 (by decide) ?_
      refine lv_goto (tgt := 38) hx hb dX11_best_34 (by decide) ?_
      exact retI (fr := fun q => q.1) (fw := fun q => wj [cX11 cy adX xT xR (adP 0) (adS 0) xIm xTr xC (adWa 0) xWb xWo xZ xU (adD 0) xE xB X, cX6 cy adP (adL 0) P, cX3 cy adL q.2.1, cX8 cy adS S, cX10 cy adWa Wa, cX1 cy adD q.2.2]) h hx hb hr hlocks hK hP hD hS dX11_best_38
  · replace h := (br h).1 c9
    refine lv_iconst (v := (-1)) hx hb dX11_best_11 (by decide) ?_
    exact retI (fr := fun q => q.1) (fw := fun q => wj [cX11 cy adX xT xR (adP 0) (adS 0) xIm xTr xC (adWa 0) xWb xWo xZ xU (adD 0) xE xB X, cX6 cy adP (adL 0) P, cX3 cy adL q.2.1, cX8 cy adS S, cX10 cy adWa Wa, cX1 cy adD q.2.2]) h hx hb hr hlocks hK hP hD hS dX11_best_12
theorem hds_X11_bestSum : yX11_bestSum.cls ≠ "java/lang/invoke/MethodHandle" ∧ yX11_bestSum.cls ≠ "java/lang/invoke/VarHandle" ∧ (parseMethodDescriptor yX11_bestSum.desc).map (fun d => d.parameters.length) = some 0 := ⟨by decide +kernel, by decide +kernel, by decide +kernel⟩
theorem hd_X11_bestSum : yX11_bestSum.cls = RX11 ∧ yX11_bestSum.cls ≠ "java/lang/invoke/MethodHandle" ∧ yX11_bestSum.cls ≠ "java/lang/invoke/VarHandle" ∧ (parseMethodDescriptor yX11_bestSum.desc).map (fun d => d.parameters.length) = some 0 := ⟨rfl, hds_X11_bestSum⟩
def f_X11_bestSum (N : Nat) (X : VV) (P : VV) (L : VV) (S : VV) (Wa : VV) (D : VV) : Option (Int32 × VV × VV) :=
  bnd (f_X11_findBest N X P L S Wa D) (fun q1 => some (q1.2.1 5, q1.1, q1.2))
set_option maxHeartbeats 4000000 in
set_option maxRecDepth 100000 in
theorem k_X11_bestSum (l : Launch) (G : va_G) (cy : Nat → ClassId) (ev : Nat → Nat) (N : Nat) (adX : Nat → Nat) (xT : Nat) (xR : Nat) (xIm : Nat) (xTr : Nat) (xC : Nat) (xWb : Nat) (xWo : Nat) (xZ : Nat) (xU : Nat) (xE : Nat) (xB : Nat) (X : VV) (adP : Nat → Nat) (P : VV) (adL : Nat → Nat) (L : VV) (adS : Nat → Nat) (S : VV) (adWa : Nat → Nat) (Wa : VV) (adD : Nat → Nat) (D : VV)  (res : Int32 × VV × VV) (h : f_X11_bestSum N X P L S Wa D = some res) : MetI l yX11_bestSum cX11_bestSum 1 (some .int) 14 383 G cy ev [.ref (adX 0)] (wj [cX11 cy adX xT xR (adP 0) (adS 0) xIm xTr xC (adWa 0) xWb xWo xZ xU (adD 0) xE xB X, cX6 cy adP (adL 0) P, cX3 cy adL L, cX8 cy adS S, cX10 cy adWa Wa, cX1 cy adD D]) res.1 (wj [cX11 cy adX xT xR (adP 0) (adS 0) xIm xTr xC (adWa 0) xWb xWo xZ xU (adD 0) xE xB X, cX6 cy adP (adL 0) P, cX3 cy adL res.2.1, cX8 cy adS S, cX10 cy adWa Wa, cX1 cy adD res.2.2]) := by
  refine MetQ.start (by decide +kernel) (Nat.le_of_ble_eq_true rfl) (fun p e s m args below meth c A ls hx hb hr hml hown hts hlocks hK hP hD hA hl hE => ?_)
  have hS : va_S A s.heap s.heap [] := va_S.rf
  have hown : s.vm.findClass RX11 = some m.cls := hown
  have hl : lv_has ls 1 [(0, .ref (adX 0))] := hl
  delta f_X11_bestSum at h
  refine lv_aload_n hx hb dX11_bestSum_0 rfl (lv_at hl 0 rfl) ?_
  replace h := bd h
  obtain ⟨q1, h2, h⟩ := h
  refine callWVv (As := []) (rest := []) (cs' := [cX11 cy adX xT xR (adP 0) (adS 0) xIm xTr xC (adWa 0) xWb xWo xZ xU (adD 0) xE xB X, cX6 cy adP (adL 0) P, cX3 cy adL q1.1, cX8 cy adS S, cX10 cy adWa Wa, cX1 cy adD q1.2]) (isC := [0, 1, 2, 3, 4, 5]) (isR := []) hx hb hml hown hts (k_X11_findBest l G cy ev N adX xT xR xIm xTr xC xWb xWo xZ xU xE xB X adP P adL L adS S adWa Wa adD D q1 h2) wm_37_18 wm_37_19 wm_37_20 wm_1_2 wm_37_21 hd_X11_findBest ⟨by decide, by decide⟩ hK hP hD hS hA hE rfl rfl rfl (cov_of (n := 6) rfl (by decide)) (by decide) rfl (recvW (ci := 0) hK hP rfl cX11_o rfl) rfl rfl hl.1 (Nat.le_of_ble_eq_true rfl) dX11_bestSum_1 (fun H locs hP hD hS => ?_)
  refine lv_aload_n hx hb dX11_bestSum_4 rfl (lv_at hl 0 rfl) ?_
  refine go_11_87 (ci := 0) hx hb hts hown hK hE hP rfl dX11_bestSum_5 ?_
  refine go_11_255 (ci := 5) (x := q1.2.1 5) hx hb hts hown hK hE hP rfl rfl dX11_bestSum_8 ?_
  exact retI (fr := fun q => q.1) (fw := fun q => wj [cX11 cy adX xT xR (adP 0) (adS 0) xIm xTr xC (adWa 0) xWb xWo xZ xU (adD 0) xE xB X, cX6 cy adP (adL 0) P, cX3 cy adL q.2.1, cX8 cy adS S, cX10 cy adWa Wa, cX1 cy adD q.2.2]) h hx hb hr hlocks hK hP hD hS dX11_bestSum_11
theorem hds_X11_choice : yX11_choice.cls ≠ "java/lang/invoke/MethodHandle" ∧ yX11_choice.cls ≠ "java/lang/invoke/VarHandle" ∧ (parseMethodDescriptor yX11_choice.desc).map (fun d => d.parameters.length) = some 1 := ⟨by decide +kernel, by decide +kernel, by decide +kernel⟩
theorem hd_X11_choice : yX11_choice.cls = RX11 ∧ yX11_choice.cls ≠ "java/lang/invoke/MethodHandle" ∧ yX11_choice.cls ≠ "java/lang/invoke/VarHandle" ∧ (parseMethodDescriptor yX11_choice.desc).map (fun d => d.parameters.length) = some 1 := ⟨rfl, hds_X11_choice⟩
def f_X11_choice (N : Nat) (X : VV) (P : VV) (S : VV) (a1 : Int32) : Option (Int32) :=
  bnd (f_X6_hasParty P a1) (fun q1 => if q1 = 0 then some ((-1)) else bnd (f_X6_chosen_S N P S a1) (fun q3 => if q3 = (-1) then some ((-2)) else some q3))
set_option maxHeartbeats 4000000 in
set_option maxRecDepth 100000 in
theorem k_X11_choice (l : Launch) (G : va_G) (cy : Nat → ClassId) (ev : Nat → Nat) (N : Nat) (adX : Nat → Nat) (xT : Nat) (xR : Nat) (xIm : Nat) (xTr : Nat) (xC : Nat) (xWa : Nat) (xWb : Nat) (xWo : Nat) (xZ : Nat) (xU : Nat) (xD : Nat) (xE : Nat) (xB : Nat) (X : VV) (adP : Nat → Nat) (xL : Nat) (P : VV) (adS : Nat → Nat) (S : VV) (a1 : Int32) (res : Int32) (h : f_X11_choice N X P S a1 = some res) : MetI l yX11_choice cX11_choice 3 (some .int) 2 48 G cy ev [.ref (adX 0), .int a1] (wj [cX11 cy adX xT xR (adP 0) (adS 0) xIm xTr xC xWa xWb xWo xZ xU xD xE xB X, cX6 cy adP xL P, cX8 cy adS S]) res (wj [cX11 cy adX xT xR (adP 0) (adS 0) xIm xTr xC xWa xWb xWo xZ xU xD xE xB X, cX6 cy adP xL P, cX8 cy adS S]) := by
  refine MetQ.start (by decide +kernel) (Nat.le_of_ble_eq_true rfl) (fun p e s m args below meth c A ls hx hb hr hml hown hts hlocks hK hP hD hA hl hE => ?_)
  have hS : va_S A s.heap s.heap [] := va_S.rf
  have hown : s.vm.findClass RX11 = some m.cls := hown
  have hl : lv_has ls 3 [(0, .ref (adX 0)), (1, .int a1)] := hl
  delta f_X11_choice at h
  refine lv_aload_n hx hb dX11_choice_0 rfl (lv_at hl 0 rfl) ?_
  refine go_11_29 (ci := 0) hx hb hts hown hK hE hP rfl dX11_choice_1 ?_
  refine lv_iload_n hx hb dX11_choice_4 rfl (lv_at hl 1 rfl) ?_
  replace h := bd h
  obtain ⟨q1, h2, h⟩ := h
  refine callWVi (As := [.int a1]) (rest := []) (cs' := [cX11 cy adX xT xR (adP 0) (adS 0) xIm xTr xC xWa xWb xWo xZ xU xD xE xB X, cX6 cy adP xL P, cX8 cy adS S]) (isC := [1]) (isR := [0, 2]) hx hb hml hown hts (k_X6_hasParty l G cy ev adP xL P a1 q1 h2) wm_26_11 wm_26_12 wm_26_13 wm_1_22 wm_26_14 hd_X6_hasParty ⟨by decide, by decide⟩ hK hP hD hS hA hE rfl rfl rfl (cov_of (n := 3) rfl (by decide)) (by decide) rfl (recvW (ci := 1) hK hP rfl cX6_o rfl) rfl rfl hl.1 (Nat.le_of_ble_eq_true rfl) dX11_choice_5 (fun H locs hP hD hS => ?_)
  refine lv_if_ne (tgt := 13) hx hb dX11_choice_8 (by decide) (fun c9 => ?_) (fun c9 => ?_)
  · replace h := (br h).2 c9
    refine lv_aload_n hx hb dX11_choice_13 rfl (lv_at hl 0 rfl) ?_
    refine go_11_29 (ci := 0) hx hb hts hown hK hE hP rfl dX11_choice_14 ?_
    refine lv_iload_n hx hb dX11_choice_17 rfl (lv_at hl 1 rfl) ?_
    refine lv_aload_n hx hb dX11_choice_18 rfl (lv_at hl 0 rfl) ?_
    refine go_11_36 (ci := 0) hx hb hts hown hK hE hP rfl dX11_choice_19 ?_
    refine go_11_183 (ci := 2) hx hb hts hown hK hE hP rfl dX11_choice_22 ?_
    replace h := bd h
    obtain ⟨q3, h4, h⟩ := h
    refine callWVi (As := [.int a1, .ref (adS 5)]) (rest := []) (cs' := [cX11 cy adX xT xR (adP 0) (adS 0) xIm xTr xC xWa xWb xWo xZ xU xD xE xB X, cX6 cy adP xL P, cX8 cy adS S]) (isC := [1, 2]) (isR := [0]) hx hb hml hown hts (k_X6_chosen_S l G cy ev N adP xL P adS S a1 q3 h4) wm_40_0 wm_40_1 wm_40_2 wm_1_22 wm_40_3 hd_X6_chosen ⟨by decide, by decide⟩ hK hP hD hS hA hE rfl rfl rfl (cov_of (n := 3) rfl (by decide)) (by decide) rfl (recvW (ci := 1) hK hP rfl cX6_o rfl) rfl rfl hl.1 (Nat.le_of_ble_eq_true rfl) dX11_choice_25 (fun H locs hP hD hS => ?_)
    refine lv_istore_n (lv' := [(2, .int q3), (0, .ref (adX 0)), (1, .int a1)]) hx hb dX11_choice_28 rfl hl (by decide) rfl (fun ls hl => ?_)
    refine lv_iload_n hx hb dX11_choice_29 rfl (lv_at hl 0 rfl) ?_
    refine lv_iconst (v := (-1)) hx hb dX11_choice_30 (by decide) ?_
    refine lv_icmp_ne (tgt := 39) hx hb dX11_choice_31 (by decide) (fun c9 => ?_) (fun c9 => ?_)
    · replace h := (br h).2 c9
      refine lv_iload_n hx hb dX11_choice_39 rfl (lv_at hl 0 rfl) ?_
      exact retI (fr := fun q => q) (fw := fun _ => wj [cX11 cy adX xT xR (adP 0) (adS 0) xIm xTr xC xWa xWb xWo xZ xU xD xE xB X, cX6 cy adP xL P, cX8 cy adS S]) h hx hb hr hlocks hK hP hD hS dX11_choice_40
    · replace h := (br h).1 c9
      refine lv_bipush (v := (-2)) hx hb dX11_choice_34 (by decide) ?_
      refine lv_goto (tgt := 40) hx hb dX11_choice_36 (by decide) ?_
      exact retI (fr := fun q => q) (fw := fun _ => wj [cX11 cy adX xT xR (adP 0) (adS 0) xIm xTr xC xWa xWb xWo xZ xU xD xE xB X, cX6 cy adP xL P, cX8 cy adS S]) h hx hb hr hlocks hK hP hD hS dX11_choice_40
  · replace h := (br h).1 c9
    refine lv_iconst (v := (-1)) hx hb dX11_choice_11 (by decide) ?_
    exact retI (fr := fun q => q) (fw := fun _ => wj [cX11 cy adX xT xR (adP 0) (adS 0) xIm xTr xC xWa xWb xWo xZ xU xD xE xB X, cX6 cy adP xL P, cX8 cy adS S]) h hx hb hr hlocks hK hP hD hS dX11_choice_12
theorem hds_X11_level : yX11_level.cls ≠ "java/lang/invoke/MethodHandle" ∧ yX11_level.cls ≠ "java/lang/invoke/VarHandle" ∧ (parseMethodDescriptor yX11_level.desc).map (fun d => d.parameters.length) = some 1 := ⟨by decide +kernel, by decide +kernel, by decide +kernel⟩
theorem hd_X11_level : yX11_level.cls = RX11 ∧ yX11_level.cls ≠ "java/lang/invoke/MethodHandle" ∧ yX11_level.cls ≠ "java/lang/invoke/VarHandle" ∧ (parseMethodDescriptor yX11_level.desc).map (fun d => d.parameters.length) = some 1 := ⟨rfl, hds_X11_level⟩
def f_X11_level (N : Nat) (X : VV) (P : VV) (E : VV) (a1 : Int32) : Option (Int32 × VV) :=
  bnd (f_X6_hasSitting P a1) (fun q1 => if q1 = 0 then some ((-1), E) else bnd (f_X4_priceOf N E P a1) (fun q3 => some (q3.1, q3.2)))
set_option maxHeartbeats 4000000 in
set_option maxRecDepth 100000 in
theorem k_X11_level (l : Launch) (G : va_G) (cy : Nat → ClassId) (ev : Nat → Nat) (N : Nat) (adX : Nat → Nat) (xT : Nat) (xR : Nat) (xS : Nat) (xIm : Nat) (xTr : Nat) (xC : Nat) (xWa : Nat) (xWb : Nat) (xWo : Nat) (xZ : Nat) (xU : Nat) (xD : Nat) (xB : Nat) (X : VV) (adP : Nat → Nat) (xL : Nat) (P : VV) (adE : Nat → Nat) (E : VV) (a1 : Int32) (res : Int32 × VV) (h : f_X11_level N X P E a1 = some res) : MetI l yX11_level cX11_level 2 (some .int) 5 116 G cy ev [.ref (adX 0), .int a1] (wj [cX11 cy adX xT xR (adP 0) xS xIm xTr xC xWa xWb xWo xZ xU xD (adE 0) xB X, cX6 cy adP xL P, cX4 cy adE E]) res.1 (wj [cX11 cy adX xT xR (adP 0) xS xIm xTr xC xWa xWb xWo xZ xU xD (adE 0) xB X, cX6 cy adP xL P, cX4 cy adE res.2]) := by
  refine MetQ.start (by decide +kernel) (Nat.le_of_ble_eq_true rfl) (fun p e s m args below meth c A ls hx hb hr hml hown hts hlocks hK hP hD hA hl hE => ?_)
  have hS : va_S A s.heap s.heap [] := va_S.rf
  have hown : s.vm.findClass RX11 = some m.cls := hown
  have hl : lv_has ls 2 [(0, .ref (adX 0)), (1, .int a1)] := hl
  delta f_X11_level at h
  refine lv_aload_n hx hb dX11_level_0 rfl (lv_at hl 0 rfl) ?_
  refine go_11_29 (ci := 0) hx hb hts hown hK hE hP rfl dX11_level_1 ?_
  refine lv_iload_n hx hb dX11_level_4 rfl (lv_at hl 1 rfl) ?_
  replace h := bd h
  obtain ⟨q1, h2, h⟩ := h
  refine callWVi (As := [.int a1]) (rest := []) (cs' := [cX11 cy adX xT xR (adP 0) xS xIm xTr xC xWa xWb xWo xZ xU xD (adE 0) xB X, cX6 cy adP xL P, cX4 cy adE E]) (isC := [1]) (isR := [0, 2]) hx hb hml hown hts (k_X6_hasSitting l G cy ev adP xL P a1 q1 h2) wm_27_19 wm_27_20 wm_27_21 wm_1_22 wm_27_22 hd_X6_hasSitting ⟨by decide, by decide⟩ hK hP hD hS hA hE rfl rfl rfl (cov_of (n := 3) rfl (by decide)) (by decide) rfl (recvW (ci := 1) hK hP rfl cX6_o rfl) rfl rfl hl.1 (Nat.le_of_ble_eq_true rfl) dX11_level_5 (fun H locs hP hD hS => ?_)
  refine lv_if_eq (tgt := 26) hx hb dX11_level_8 (by decide) (fun c9 => ?_) (fun c9 => ?_)
  · replace h := (br h).1 c9
    refine lv_iconst (v := (-1)) hx hb dX11_level_26 (by decide) ?_
    exact retI (fr := fun q => q.1) (fw := fun q => wj [cX11 cy adX xT xR (adP 0) xS xIm xTr xC xWa xWb xWo xZ xU xD (adE 0) xB X, cX6 cy adP xL P, cX4 cy adE q.2]) h hx hb hr hlocks hK hP hD hS dX11_level_27
  · replace h := (br h).2 c9
    refine lv_aload_n hx hb dX11_level_11 rfl (lv_at hl 0 rfl) ?_
    refine go_11_94 (ci := 0) hx hb hts hown hK hE hP rfl dX11_level_12 ?_
    refine lv_iload_n hx hb dX11_level_15 rfl (lv_at hl 1 rfl) ?_
    refine lv_aload_n hx hb dX11_level_16 rfl (lv_at hl 0 rfl) ?_
    refine go_11_29 (ci := 0) hx hb hts hown hK hE hP rfl dX11_level_17 ?_
    replace h := bd h
    obtain ⟨q3, h4, h⟩ := h
    refine callWVi (As := [.int a1, .ref (adP 0)]) (rest := []) (cs' := [cX11 cy adX xT xR (adP 0) xS xIm xTr xC xWa xWb xWo xZ xU xD (adE 0) xB X, cX6 cy adP xL P, cX4 cy adE q3.2]) (isC := [2, 1]) (isR := [0]) hx hb hml hown hts (k_X4_priceOf l G cy ev N adE E adP xL P a1 q3 h4) wm_40_17 wm_40_18 wm_40_19 wm_3_7 wm_40_20 hd_X4_priceOf ⟨by decide, by decide⟩ hK hP hD hS hA hE rfl rfl rfl (cov_of (n := 3) rfl (by decide)) (by decide) rfl (recvW (ci := 2) hK hP rfl cX4_o rfl) rfl rfl hl.1 (Nat.le_of_ble_eq_true rfl) dX11_level_20 (fun H locs hP hD hS => ?_)
    refine lv_goto (tgt := 27) hx hb dX11_level_23 (by decide) ?_
    exact retI (fr := fun q => q.1) (fw := fun q => wj [cX11 cy adX xT xR (adP 0) xS xIm xTr xC xWa xWb xWo xZ xU xD (adE 0) xB X, cX6 cy adP xL P, cX4 cy adE q.2]) h hx hb hr hlocks hK hP hD hS dX11_level_27
theorem hds_X11_mayCome : yX11_mayCome.cls ≠ "java/lang/invoke/MethodHandle" ∧ yX11_mayCome.cls ≠ "java/lang/invoke/VarHandle" ∧ (parseMethodDescriptor yX11_mayCome.desc).map (fun d => d.parameters.length) = some 2 := ⟨by decide +kernel, by decide +kernel, by decide +kernel⟩
theorem hd_X11_mayCome : yX11_mayCome.cls = RX11 ∧ yX11_mayCome.cls ≠ "java/lang/invoke/MethodHandle" ∧ yX11_mayCome.cls ≠ "java/lang/invoke/VarHandle" ∧ (parseMethodDescriptor yX11_mayCome.desc).map (fun d => d.parameters.length) = some 2 := ⟨rfl, hds_X11_mayCome⟩
def f_X11_mayCome_b34 (N : Nat) (X : VV) (B : Nat → Int64) (x1 : Int32) (x2 : Int32) (x3 : Int32) (z0 : Int64) : Option (((Int32 × (Nat → Int64)) ⊕ ((Nat → Int64)))) :=
  gin x3 73 (gin x3 73 (some (.inl (x3 + (-1), vp_updL B x3.toNatClampNeg (((B x3.toNatClampNeg) * x2.toInt64) + z0)))))
def f_X11_mayCome_b33 (N : Nat) (X : VV) (B : Nat → Int64) (x1 : Int32) (x2 : Int32) (x3 : Int32) : Option (((Int32 × (Nat → Int64)) ⊕ ((Nat → Int64)))) :=
  f_X11_mayCome_b34 N X B x1 x2 x3 0
def f_X11_mayCome_s3 (N : Nat) (X : VV) (B : Nat → Int64) (x1 : Int32) (x2 : Int32) (x3 : Int32) : Option (((Int32 × (Nat → Int64)) ⊕ ((Nat → Int64)))) :=
  if x3 < 0 then inrO (some B) else if x1 < 0 then f_X11_mayCome_b33 N X B x1 x2 x3 else if x3 < x1 then f_X11_mayCome_b33 N X B x1 x2 x3 else gin (x3 - x1) 73 (f_X11_mayCome_b34 N X B x1 x2 x3 ((B ((x3 - x1).toNatClampNeg)) * ((100 - x2).toInt64)))
def f_X11_mayCome (N : Nat) (X : VV) (B : Nat → Int64) (a1 : Int32) (a2 : Int32) : Option ((Nat → Int64)) :=
  itr (fun q : Int32 × (Nat → Int64) => f_X11_mayCome_s3 N X q.2 a1 a2 q.1) N (72, B)
set_option maxHeartbeats 4000000 in
set_option maxRecDepth 100000 in
theorem k_X11_mayCome (l : Launch) (G : va_G) (cy : Nat → ClassId) (ev : Nat → Nat) (N : Nat) (adX : Nat → Nat) (xT : Nat) (xR : Nat) (xP : Nat) (xS : Nat) (xIm : Nat) (xTr : Nat) (xC : Nat) (xWa : Nat) (xWb : Nat) (xWo : Nat) (xZ : Nat) (xU : Nat) (xD : Nat) (xE : Nat) (X : VV) (adB : Nat) (B : Nat → Int64) (a1 : Int32) (a2 : Int32) (res : (Nat → Int64)) (h : f_X11_mayCome N X B a1 a2 = some res) : MetV l yX11_mayCome cX11_mayCome 6 none 0 0 G cy ev [.ref (adX 0), .int a1, .int a2] (wj [cX11 cy adX xT xR xP xS xIm xTr xC xWa xWb xWo xZ xU xD xE adB X, [(adB, .inl (cy 2, 73, .inr (.inl B)))]]) (wj [cX11 cy adX xT xR xP xS xIm xTr xC xWa xWb xWo xZ xU xD xE adB X, [(adB, .inl (cy 2, 73, .inr (.inl res)))]]) := by
  refine MetQ.start (by decide +kernel) (Nat.le_of_ble_eq_true rfl) (fun p e s m args below meth c A ls hx hb hr hml hown hts hlocks hK hP hD hA hl hE => ?_)
  have hS : va_S A s.heap s.heap [] := va_S.rf
  have hown : s.vm.findClass RX11 = some m.cls := hown
  have hl : lv_has ls 6 [(0, .ref (adX 0)), (1, .int a1), (2, .int a2)] := hl
  have L3 : ∀ (x1 : Int32) (x2 : Int32) (n : Nat) (x3 : Int32) (B : Nat → Int64) (H : Heap) (locs : List Loc) (ls : Array Slot), itr (fun q : Int32 × (Nat → Int64) => f_X11_mayCome_s3 N X q.2 x1 x2 q.1) n (x3, B) = some res → va_P G vwCl (wj [cX11 cy adX xT xR xP xS xIm xTr xC xWa xWb xWo xZ xU xD xE adB X, [(adB, .inl (cy 2, 73, .inr (.inl B)))]]) H → va_D A (wj [cX11 cy adX xT xR xP xS xIm xTr xC xWa xWb xWo xZ xU xD xE adB X, [(adB, .inl (cy 2, 73, .inr (.inl B)))]]) → va_S A s.heap H locs → lv_has ls 6 [(0, .ref (adX 0)), (1, .int x1), (2, .int x2), (3, .int x3)] → W p l e (rmX 0 0) s m args below meth c H locs 0 0 (MQ below (mQv G cy A (wj [cX11 cy adX xT xR xP xS xIm xTr xC xWa xWb xWo xZ xU xD xE adB X, [(adB, .inl (cy 2, 73, .inr (.inl res)))]])) args s 0 0 A) (F0 m 3 ls []) := by
    intro x1 x2 n
    induction n with
    | zero => intro x3 B H locs ls h; exact (itr_zero h).elim
    | succ n ih1 =>
      intro x3 B H locs ls h hP hD hS hl
      obtain ⟨y1, h, hy1⟩ := itr_inv h
      have h : f_X11_mayCome_s3 N X B x1 x2 x3 = some y1 := h
      have B34 : ∀ (x3 : Int32) (z0 : Int64) (B : Nat → Int64) (H : Heap) (locs : List Loc) (ls : Array Slot), f_X11_mayCome_b34 N X B x1 x2 x3 z0 = some y1 → va_P G vwCl (wj [cX11 cy adX xT xR xP xS xIm xTr xC xWa xWb xWo xZ xU xD xE adB X, [(adB, .inl (cy 2, 73, .inr (.inl B)))]]) H → va_D A (wj [cX11 cy adX xT xR xP xS xIm xTr xC xWa xWb xWo xZ xU xD xE adB X, [(adB, .inl (cy 2, 73, .inr (.inl B)))]]) → va_S A s.heap H locs → lv_has ls 6 [(0, .ref (adX 0)), (1, .int x1), (2, .int x2), (3, .int x3)] → W p l e (rmX 0 0) s m args below meth c H locs 0 0 (MQ below (mQv G cy A (wj [cX11 cy adX xT xR xP xS xIm xTr xC xWa xWb xWo xZ xU xD xE adB X, [(adB, .inl (cy 2, 73, .inr (.inl res)))]])) args s 0 0 A) (F0 m 34 ls [.long z0]) := by
        intro x3 z0 B H locs ls h hP hD hS hl
        delta f_X11_mayCome_b34 at h
        refine lv_lstore (lv' := [(4, .long z0), (0, .ref (adX 0)), (1, .int x1), (2, .int x2), (3, .int x3)]) hx hb dX11_mayCome_34 hl (by decide) rfl (fun ls hl => ?_)
        refine lv_aload_n hx hb dX11_mayCome_36 rfl (lv_at hl 1 rfl) ?_
        refine go_11_98 (ci := 0) hx hb hts hown hK hE hP rfl dX11_mayCome_37 ?_
        refine lv_iload_n hx hb dX11_mayCome_40 rfl (lv_at hl 4 rfl) ?_
        refine lv_aload_n hx hb dX11_mayCome_41 rfl (lv_at hl 1 rfl) ?_
        refine go_11_98 (ci := 0) hx hb hts hown hK hE hP rfl dX11_mayCome_42 ?_
        refine lv_iload_n hx hb dX11_mayCome_45 rfl (lv_at hl 4 rfl) ?_
        replace h := gin_inv h
        obtain ⟨h9, h⟩ := h
        refine ldWJ (ci := 1) (k0 := 0) (g := B) (j := x3.toNatClampNeg) hx hb hK hP rfl rfl rfl h9 rfl dX11_mayCome_46 ?_
        refine lv_iload_n hx hb dX11_mayCome_47 rfl (lv_at hl 3 rfl) ?_
        refine lv_i2l (v := x2.toInt64) hx hb dX11_mayCome_48 rfl ?_
        refine lv_lmul hx hb dX11_mayCome_49 ?_
        refine lv_lload hx hb dX11_mayCome_50 (lv_at hl 0 rfl) ?_
        refine lv_ladd hx hb dX11_mayCome_52 ?_
        replace h := gin_inv h
        obtain ⟨h9, h⟩ := h
        refine stWJ (ci := 1) (k0 := 0) (j := x3.toNatClampNeg) (cs' := [cX11 cy adX xT xR xP xS xIm xTr xC xWa xWb xWo xZ xU xD xE adB X, [(adB, .inl (cy 2, 73, .inr (.inl (vp_updL B x3.toNatClampNeg (((B x3.toNatClampNeg) * x2.toInt64) + z0)))))]]) hx hb hK hP hD hS rfl rfl h9 rfl rfl rfl dX11_mayCome_53 (fun H locs hP hD hS => ?_)
        refine lv_iinc (v := x3 + (-1)) (lv' := [(3, .int (x3 + (-1))), (4, .long z0), (0, .ref (adX 0)), (1, .int x1), (2, .int x2)]) hx hb dX11_mayCome_54 hl (k := 4) rfl rfl (by decide) rfl (fun ls hl => ?_)
        refine lv_goto (tgt := 3) hx hb dX11_mayCome_57 (by decide) ?_
        replace h := itr_back h hy1
        exact ih1 (x3 + (-1)) (vp_updL B x3.toNatClampNeg (((B x3.toNatClampNeg) * x2.toInt64) + z0)) _ _ _ h hP hD hS (lv_sub hl [2, 3, 4, 0] rfl)
      have B33 : ∀ (x3 : Int32) (B : Nat → Int64) (H : Heap) (locs : List Loc) (ls : Array Slot), f_X11_mayCome_b33 N X B x1 x2 x3 = some y1 → va_P G vwCl (wj [cX11 cy adX xT xR xP xS xIm xTr xC xWa xWb xWo xZ xU xD xE adB X, [(adB, .inl (cy 2, 73, .inr (.inl B)))]]) H → va_D A (wj [cX11 cy adX xT xR xP xS xIm xTr xC xWa xWb xWo xZ xU xD xE adB X, [(adB, .inl (cy 2, 73, .inr (.inl B)))]]) → va_S A s.heap H locs → lv_has ls 6 [(0, .ref (adX 0)), (1, .int x1), (2, .int x2), (3, .int x3)] → W p l e (rmX 0 0) s m args below meth c H locs 0 0 (MQ below (mQv G cy A (wj [cX11 cy adX xT xR xP xS xIm xTr xC xWa xWb xWo xZ xU xD xE adB X, [(adB, .inl (cy 2, 73, .inr (.inl res)))]])) args s 0 0 A) (F0 m 33 ls []) := by
        intro x3 B H locs ls h hP hD hS hl
        delta f_X11_mayCome_b33 at h
        refine lv_lconst (v := 0) hx hb dX11_mayCome_33 (by decide) ?_
        exact B34 x3 0 B _ _ _ h hP hD hS (lv_sub hl [0, 1, 2, 3] rfl)
      delta f_X11_mayCome_s3 at h
      refine lv_iload_n hx hb dX11_mayCome_3 rfl (lv_at hl 3 rfl) ?_
      refine lv_if_lt (tgt := 60) hx hb dX11_mayCome_4 (by decide) (fun c9 => ?_) (fun c9 => ?_)
      · replace h := (br h).1 c9
        replace h := itr_exit h hy1
        exact retV (fw := fun q => wj [cX11 cy adX xT xR xP xS xIm xTr xC xWa xWb xWo xZ xU xD xE adB X, [(adB, .inl (cy 2, 73, .inr (.inl q)))]]) h hx hb hr hlocks hK hP hD hS dX11_mayCome_60
      · replace h := (br h).2 c9
        refine lv_iload_n hx hb dX11_mayCome_7 rfl (lv_at hl 1 rfl) ?_
        refine lv_if_lt (tgt := 33) hx hb dX11_mayCome_8 (by decide) (fun c9 => ?_) (fun c9 => ?_)
        · replace h := (br h).1 c9
          exact B33 x3 B _ _ _ h hP hD hS (lv_sub hl [0, 1, 2, 3] rfl)
        · replace h := (br h).2 c9
          refine lv_iload_n hx hb dX11_mayCome_11 rfl (lv_at hl 3 rfl) ?_
          refine lv_iload_n hx hb dX11_mayCome_12 rfl (lv_at hl 1 rfl) ?_
          refine lv_icmp_lt (tgt := 33) hx hb dX11_mayCome_13 (by decide) (fun c9 => ?_) (fun c9 => ?_)
          · replace h := (br h).1 c9
            exact B33 x3 B _ _ _ h hP hD hS (lv_sub hl [0, 1, 2, 3] rfl)
          · replace h := (br h).2 c9
            refine lv_aload_n hx hb dX11_mayCome_16 rfl (lv_at hl 0 rfl) ?_
            refine go_11_98 (ci := 0) hx hb hts hown hK hE hP rfl dX11_mayCome_17 ?_
            refine lv_iload_n hx hb dX11_mayCome_20 rfl (lv_at hl 3 rfl) ?_
            refine lv_iload_n hx hb dX11_mayCome_21 rfl (lv_at hl 1 rfl) ?_
            refine lv_isub hx hb dX11_mayCome_22 ?_
            replace h := gin_inv h
            obtain ⟨h9, h⟩ := h
            refine ldWJ (ci := 1) (k0 := 0) (g := B) (j := (x3 - x1).toNatClampNeg) hx hb hK hP rfl rfl rfl h9 rfl dX11_mayCome_23 ?_
            refine lv_bipush (v := 100) hx hb dX11_mayCome_24 (by decide) ?_
            refine lv_iload_n hx hb dX11_mayCome_26 rfl (lv_at hl 2 rfl) ?_
            refine lv_isub hx hb dX11_mayCome_27 ?_
            refine lv_i2l (v := (100 - x2).toInt64) hx hb dX11_mayCome_28 rfl ?_
            refine lv_lmul hx hb dX11_mayCome_29 ?_
            refine lv_goto (tgt := 34) hx hb dX11_mayCome_30 (by decide) ?_
            exact B34 x3 ((B ((x3 - x1).toNatClampNeg)) * ((100 - x2).toInt64)) B _ _ _ h hP hD hS (lv_sub hl [0, 1, 2, 3] rfl)
  delta f_X11_mayCome at h
  refine lv_bipush (v := 72) hx hb dX11_mayCome_0 (by decide) ?_
  refine lv_istore_n (lv' := [(3, .int 72), (0, .ref (adX 0)), (1, .int a1), (2, .int a2)]) hx hb dX11_mayCome_2 rfl hl (by decide) rfl (fun ls hl => ?_)
  exact L3 a1 a2 N 72 B _ _ _ h hP hD hS (lv_sub hl [1, 2, 3, 0] rfl)
theorem hds_X11_commonDivisor : yX11_commonDivisor.cls ≠ "java/lang/invoke/MethodHandle" ∧ yX11_commonDivisor.cls ≠ "java/lang/invoke/VarHandle" ∧ (parseMethodDescriptor yX11_commonDivisor.desc).map (fun d => d.parameters.length) = some 2 := ⟨by decide +kernel, by decide +kernel, by decide +kernel⟩
theorem hd_X11_commonDivisor : yX11_commonDivisor.cls = RX11 ∧ yX11_commonDivisor.cls ≠ "java/lang/invoke/MethodHandle" ∧ yX11_commonDivisor.cls ≠ "java/lang/invoke/VarHandle" ∧ (parseMethodDescriptor yX11_commonDivisor.desc).map (fun d => d.parameters.length) = some 2 := ⟨rfl, hds_X11_commonDivisor⟩
def f_X11_commonDivisor_s9 (N : Nat) (x4 : Int64) (x6 : Int64) (x8 : Int32) : Option (((Int64 × Int64 × Int32) ⊕ (Int64))) :=
  if (100 : Int32) ≤ x8 then inrO (some x4) else if x6 = 0 then inrO (some x4) else gnzL x6 (some (.inl (x6, x4 - x4 / x6 * x6, x8 + 1)))
def f_X11_commonDivisor (N : Nat) (a1 : Int64) (a2 : Int64) : Option (Int64) :=
  itr (fun q : Int64 × Int64 × Int32 => f_X11_commonDivisor_s9 N q.1 q.2.1 q.2.2) N (a1, a2, 0)
set_option maxHeartbeats 4000000 in
set_option maxRecDepth 100000 in
theorem k_X11_commonDivisor (l : Launch) (G : va_G) (cy : Nat → ClassId) (ev : Nat → Nat) (N : Nat) (w : va_W)  (a1 : Int64) (a2 : Int64) (res : Int64) (h : f_X11_commonDivisor N a1 a2 = some res) : MetL l yX11_commonDivisor cX11_commonDivisor 11 (some .long) 0 0 G cy ev [.long a1, .long a2] (w) res (w) := by
  refine MetQ.start (by decide +kernel) (Nat.le_of_ble_eq_true rfl) (fun p e s m args below meth c A ls hx hb hr hml hown hts hlocks hK hP hD hA hl hE => ?_)
  have hS : va_S A s.heap s.heap [] := va_S.rf
  have hown : s.vm.findClass RX11 = some m.cls := hown
  have hl : lv_has ls 11 [(0, .long a1), (2, .long a2)] := hl
  have L9 : ∀ (n : Nat) (x4 : Int64) (x6 : Int64) (x8 : Int32) (H : Heap) (locs : List Loc) (ls : Array Slot), itr (fun q : Int64 × Int64 × Int32 => f_X11_commonDivisor_s9 N q.1 q.2.1 q.2.2) n (x4, x6, x8) = some res → va_P G vwCl (w) H → va_D A (w) → va_S A s.heap H locs → lv_has ls 11 [(4, .long x4), (6, .long x6), (8, .int x8)] → W p l e (rmX 0 0) s m args below meth c H locs 0 0 (MQ below (mQl (res) G cy A (w)) args s 0 0 A) (F0 m 9 ls []) := by
    intro n
    induction n with
    | zero => intro x4 x6 x8 H locs ls h; exact (itr_zero h).elim
    | succ n ih1 =>
      intro x4 x6 x8 H locs ls h hP hD hS hl
      obtain ⟨y1, h, hy1⟩ := itr_inv h
      have h : f_X11_commonDivisor_s9 N x4 x6 x8 = some y1 := h
      delta f_X11_commonDivisor_s9 at h
      refine lv_iload hx hb dX11_commonDivisor_9 (lv_at hl 2 rfl) ?_
      refine lv_bipush (v := 100) hx hb dX11_commonDivisor_11 (by decide) ?_
      refine lv_icmp_ge (tgt := 44) hx hb dX11_commonDivisor_13 (by decide) (fun c9 => ?_) (fun c9 => ?_)
      · replace h := (br h).1 c9
        replace h := itr_exit h hy1
        refine lv_lload hx hb dX11_commonDivisor_44 (lv_at hl 0 rfl) ?_
        exact retL (fr := fun q => q) (fw := fun _ => w) h hx hb hr hlocks hK hP hD hS dX11_commonDivisor_46
      · replace h := (br h).2 c9
        refine lv_lload hx hb dX11_commonDivisor_16 (lv_at hl 1 rfl) ?_
        refine lv_lconst (v := 0) hx hb dX11_commonDivisor_18 (by decide) ?_
        refine lcmp_eq (tgt := 44) hx hb dX11_commonDivisor_19 dX11_commonDivisor_20 (by decide) (fun c9 => ?_) (fun c9 => ?_)
        · replace h := (br h).1 c9
          replace h := itr_exit h hy1
          refine lv_lload hx hb dX11_commonDivisor_44 (lv_at hl 0 rfl) ?_
          exact retL (fr := fun q => q) (fw := fun _ => w) h hx hb hr hlocks hK hP hD hS dX11_commonDivisor_46
        · replace h := (br h).2 c9
          refine lv_lload hx hb dX11_commonDivisor_23 (lv_at hl 0 rfl) ?_
          refine lv_lload hx hb dX11_commonDivisor_25 (lv_at hl 1 rfl) ?_
          replace h := gnzL_inv h
          obtain ⟨h9, h⟩ := h
          refine lv_lrem hx hb dX11_commonDivisor_27 h9 ?_
          refine lv_lstore (lv' := [(9, .long (x4 - x4 / x6 * x6)), (4, .long x4), (6, .long x6), (8, .int x8)]) hx hb dX11_commonDivisor_28 hl (by decide) rfl (fun ls hl => ?_)
          refine lv_lload hx hb dX11_commonDivisor_30 (lv_at hl 2 rfl) ?_
          refine lv_lstore (lv' := [(4, .long x6), (9, .long (x4 - x4 / x6 * x6)), (6, .long x6), (8, .int x8)]) hx hb dX11_commonDivisor_32 hl (by decide) rfl (fun ls hl => ?_)
          refine lv_lload hx hb dX11_commonDivisor_34 (lv_at hl 1 rfl) ?_
          refine lv_lstore (lv' := [(6, .long (x4 - x4 / x6 * x6)), (4, .long x6), (9, .long (x4 - x4 / x6 * x6)), (8, .int x8)]) hx hb dX11_commonDivisor_36 hl (by decide) rfl (fun ls hl => ?_)
          refine lv_iinc (v := x8 + 1) (lv' := [(8, .int (x8 + 1)), (6, .long (x4 - x4 / x6 * x6)), (4, .long x6), (9, .long (x4 - x4 / x6 * x6))]) hx hb dX11_commonDivisor_38 hl (k := 3) rfl rfl (by decide) rfl (fun ls hl => ?_)
          refine lv_goto (tgt := 9) hx hb dX11_commonDivisor_41 (by decide) ?_
          replace h := itr_back h hy1
          exact ih1 x6 (x4 - x4 / x6 * x6) (x8 + 1) _ _ _ h hP hD hS (lv_sub hl [2, 1, 0] rfl)
  delta f_X11_commonDivisor at h
  refine lv_lload_n hx hb dX11_commonDivisor_0 rfl (lv_at hl 0 rfl) ?_
  refine lv_lstore (lv' := [(4, .long a1), (0, .long a1), (2, .long a2)]) hx hb dX11_commonDivisor_1 hl (by decide) rfl (fun ls hl => ?_)
  refine lv_lload_n hx hb dX11_commonDivisor_3 rfl (lv_at hl 2 rfl) ?_
  refine lv_lstore (lv' := [(6, .long a2), (4, .long a1), (0, .long a1), (2, .long a2)]) hx hb dX11_commonDivisor_4 hl (by decide) rfl (fun ls hl => ?_)
  refine lv_iconst (v := 0) hx hb dX11_commonDivisor_6 (by decide) ?_
  refine lv_istore (lv' := [(8, .int 0), (6, .long a2), (4, .long a1), (0, .long a1), (2, .long a2)]) hx hb dX11_commonDivisor_7 hl (by decide) rfl (fun ls hl => ?_)
  exact L9  N a1 a2 0 _ _ _ h hP hD hS (lv_sub hl [2, 1, 0] rfl)
theorem hds_X11_crowd : yX11_crowd.cls ≠ "java/lang/invoke/MethodHandle" ∧ yX11_crowd.cls ≠ "java/lang/invoke/VarHandle" ∧ (parseMethodDescriptor yX11_crowd.desc).map (fun d => d.parameters.length) = some 2 := ⟨by decide +kernel, by decide +kernel, by decide +kernel⟩
theorem hd_X11_crowd : yX11_crowd.cls = RX11 ∧ yX11_crowd.cls ≠ "java/lang/invoke/MethodHandle" ∧ yX11_crowd.cls ≠ "java/lang/invoke/VarHandle" ∧ (parseMethodDescriptor yX11_crowd.desc).map (fun d => d.parameters.length) = some 2 := ⟨rfl, hds_X11_crowd⟩
def f_X11_crowd_b193 (N : Nat) (X : VV) (P : VV) (L : VV) (S : VV) (Wa : VV) (B : Nat → Int64) (x7 : Int64) (z0 : Int64) : Option (Int64 × VV × (Nat → Int64)) :=
  if x7 ≤ 0 then some (z0, L, B) else gnzL x7 (some (z0 / x7, L, B))
def f_X11_crowd_s150 (N : Nat) (X : VV) (P : VV) (L : VV) (S : VV) (Wa : VV) (B : Nat → Int64) (x2 : Int32) (x3 : Int64) (x5 : Int64) (x7 : Int32) : Option (((Int64 × Int32 × VV × (Nat → Int64)) ⊕ (Int64 × VV × (Nat → Int64)))) :=
  if (72 : Int32) < x7 then inrO (bnd (f_X11_commonDivisor N x3 x5) (fun q15001 => if x2 = 0 then f_X11_crowd_b193 N X P L S Wa B q15001 x5 else f_X11_crowd_b193 N X P L S Wa B q15001 x3)) else gin x7 73 (some (.inl (x5 + (B x7.toNatClampNeg), x7 + 1, L, B)))
def f_X11_crowd_b124 (N : Nat) (X : VV) (P : VV) (L : VV) (S : VV) (Wa : VV) (B : Nat → Int64) (x1 : Int32) (x2 : Int32) (x3 : Int64) (x5 : Int32) : Option (((Int64 × Int32 × VV × (Nat → Int64)) ⊕ (Int64 × VV × (Nat → Int64)))) :=
  some (.inl (x3, x5 + 1, L, B))
def f_X11_crowd_s58 (N : Nat) (X : VV) (P : VV) (L : VV) (S : VV) (Wa : VV) (B : Nat → Int64) (x1 : Int32) (x2 : Int32) (x3 : Int64) (x5 : Int32) : Option (((Int64 × Int32 × VV × (Nat → Int64)) ⊕ (Int64 × VV × (Nat → Int64)))) :=
  if P.1 0 ≤ x5 then inrO (itr (fun q : Int64 × Int32 × VV × (Nat → Int64) => f_X11_crowd_s150 N X P q.2.2.1 S Wa q.2.2.2 x2 x3 q.1 q.2.1) N (0, jmax ((P.2.1 6 0) + 1) 0, L, B)) else gin x5 8 (if S.2.1 2 x5.toNatClampNeg = x1 then bnd (f_X6_trait P x5 0) (fun q5801 => bnd (f_X0_manner N P L S Wa 2 x5 x1 0) (fun q5803 => bnd (f_X11_mayCome N X B q5801 q5803.1) (fun q5805 => f_X11_crowd_b124 N X P q5803.2 S Wa q5805 x1 x2 (x3 * 100) x5))) else f_X11_crowd_b124 N X P L S Wa B x1 x2 x3 x5)
def f_X11_crowd_b46 (N : Nat) (X : VV) (P : VV) (L : VV) (S : VV) (Wa : VV) (B : Nat → Int64) (x1 : Int32) (x2 : Int32) (x3 : Int32) (z0 : Int64) (z1 : Int32) : Option (((Int32 × VV × (Nat → Int64)) ⊕ (Int64 × VV × (Nat → Int64)))) :=
  gin z1 73 (some (.inl (x3 + 1, L, vp_updL B z1.toNatClampNeg z0)))
def f_X11_crowd_s26 (N : Nat) (X : VV) (P : VV) (L : VV) (S : VV) (Wa : VV) (B : Nat → Int64) (x1 : Int32) (x2 : Int32) (x3 : Int32) : Option (((Int32 × VV × (Nat → Int64)) ⊕ (Int64 × VV × (Nat → Int64)))) :=
  if (72 : Int32) < x3 then inrO (itr (fun q : Int64 × Int32 × VV × (Nat → Int64) => f_X11_crowd_s58 N X P q.2.2.1 S Wa q.2.2.2 x1 x2 q.1 q.2.1) N (1, 0, L, B)) else if x3 = 0 then f_X11_crowd_b46 N X P L S Wa B x1 x2 x3 1 x3 else f_X11_crowd_b46 N X P L S Wa B x1 x2 x3 0 x3
def f_X11_crowd_b20 (N : Nat) (X : VV) (P : VV) (L : VV) (S : VV) (Wa : VV) (B : Nat → Int64)  : Option (Int64 × VV × (Nat → Int64)) :=
  some ((-1), L, B)
def f_X11_crowd (N : Nat) (X : VV) (P : VV) (L : VV) (S : VV) (Wa : VV) (B : Nat → Int64) (a1 : Int32) (a2 : Int32) : Option (Int64 × VV × (Nat → Int64)) :=
  bnd (f_X6_hasSitting P a1) (fun q1 => if q1 = 0 then f_X11_crowd_b20 N X P L S Wa B else if a2 < 0 then f_X11_crowd_b20 N X P L S Wa B else if a2 ≤ 1 then itr (fun q : Int32 × VV × (Nat → Int64) => f_X11_crowd_s26 N X P q.2.1 S Wa q.2.2 a1 a2 q.1) N (0, L, B) else f_X11_crowd_b20 N X P L S Wa B)
set_option maxHeartbeats 4000000 in
set_option maxRecDepth 100000 in
theorem k_X11_crowd (l : Launch) (G : va_G) (cy : Nat → ClassId) (ev : Nat → Nat) (N : Nat) (adX : Nat → Nat) (xT : Nat) (xR : Nat) (xIm : Nat) (xTr : Nat) (xC : Nat) (xWb : Nat) (xWo : Nat) (xZ : Nat) (xU : Nat) (xD : Nat) (xE : Nat) (X : VV) (adP : Nat → Nat) (P : VV) (adL : Nat → Nat) (L : VV) (adS : Nat → Nat) (S : VV) (adWa : Nat → Nat) (Wa : VV) (adB : Nat) (B : Nat → Int64) (a1 : Int32) (a2 : Int32) (res : Int64 × VV × (Nat → Int64)) (h : f_X11_crowd N X P L S Wa B a1 a2 = some res) : MetL l yX11_crowd cX11_crowd 11 (some .long) 3 84 G cy ev [.ref (adX 0), .int a1, .int a2] (wj [cX11 cy adX xT xR (adP 0) (adS 0) xIm xTr xC (adWa 0) xWb xWo xZ xU xD xE adB X, cX6 cy adP (adL 0) P, cX3 cy adL L, cX8 cy adS S, cX10 cy adWa Wa, [(adB, .inl (cy 2, 73, .inr (.inl B)))]]) res.1 (wj [cX11 cy adX xT xR (adP 0) (adS 0) xIm xTr xC (adWa 0) xWb xWo xZ xU xD xE adB X, cX6 cy adP (adL 0) P, cX3 cy adL res.2.1, cX8 cy adS S, cX10 cy adWa Wa, [(adB, .inl (cy 2, 73, .inr (.inl res.2.2)))]]) := by
  refine MetQ.start (by decide +kernel) (Nat.le_of_ble_eq_true rfl) (fun p e s m args below meth c A ls hx hb hr hml hown hts hlocks hK hP hD hA hl hE => ?_)
  have hS : va_S A s.heap s.heap [] := va_S.rf
  have hown : s.vm.findClass RX11 = some m.cls := hown
  have hl : lv_has ls 11 [(0, .ref (adX 0)), (1, .int a1), (2, .int a2)] := hl
  have B193 : ∀ (x7 : Int64) (z0 : Int64) (L : VV) (B : Nat → Int64) (H : Heap) (locs : List Loc) (ls : Array Slot), f_X11_crowd_b193 N X P L S Wa B x7 z0 = some res → va_P G vwCl (wj [cX11 cy adX xT xR (adP 0) (adS 0) xIm xTr xC (adWa 0) xWb xWo xZ xU xD xE adB X, cX6 cy adP (adL 0) P, cX3 cy adL L, cX8 cy adS S, cX10 cy adWa Wa, [(adB, .inl (cy 2, 73, .inr (.inl B)))]]) H → va_D A (wj [cX11 cy adX xT xR (adP 0) (adS 0) xIm xTr xC (adWa 0) xWb xWo xZ xU xD xE adB X, cX6 cy adP (adL 0) P, cX3 cy adL L, cX8 cy adS S, cX10 cy adWa Wa, [(adB, .inl (cy 2, 73, .inr (.inl B)))]]) → va_S A s.heap H locs → lv_has ls 11 [(7, .long x7)] → W p l e (rmX 3 84) s m args below meth c H locs 0 0 (MQ below (mQl (res.1) G cy A (wj [cX11 cy adX xT xR (adP 0) (adS 0) xIm xTr xC (adWa 0) xWb xWo xZ xU xD xE adB X, cX6 cy adP (adL 0) P, cX3 cy adL res.2.1, cX8 cy adS S, cX10 cy adWa Wa, [(adB, .inl (cy 2, 73, .inr (.inl res.2.2)))]])) args s 0 0 A) (F0 m 193 ls [.long z0]) := by
    intro x7 z0 L B H locs ls h hP hD hS hl
    delta f_X11_crowd_b193 at h
    refine lv_lstore (lv' := [(9, .long z0), (7, .long x7)]) hx hb dX11_crowd_193 hl (by decide) rfl (fun ls hl => ?_)
    refine lv_lload hx hb dX11_crowd_195 (lv_at hl 1 rfl) ?_
    refine lv_lconst (v := 0) hx hb dX11_crowd_197 (by decide) ?_
    refine lcmp_le (tgt := 210) hx hb dX11_crowd_198 dX11_crowd_199 (by decide) (fun c9 => ?_) (fun c9 => ?_)
    · replace h := (br h).1 c9
      refine lv_lload hx hb dX11_crowd_210 (lv_at hl 0 rfl) ?_
      exact retL (fr := fun q => q.1) (fw := fun q => wj [cX11 cy adX xT xR (adP 0) (adS 0) xIm xTr xC (adWa 0) xWb xWo xZ xU xD xE adB X, cX6 cy adP (adL 0) P, cX3 cy adL q.2.1, cX8 cy adS S, cX10 cy adWa Wa, [(adB, .inl (cy 2, 73, .inr (.inl q.2.2)))]]) h hx hb hr hlocks hK hP hD hS dX11_crowd_212
    · replace h := (br h).2 c9
      refine lv_lload hx hb dX11_crowd_202 (lv_at hl 0 rfl) ?_
      refine lv_lload hx hb dX11_crowd_204 (lv_at hl 1 rfl) ?_
      replace h := gnzL_inv h
      obtain ⟨h9, h⟩ := h
      refine lv_ldiv hx hb dX11_crowd_206 h9 ?_
      refine lv_goto (tgt := 212) hx hb dX11_crowd_207 (by decide) ?_
      exact retL (fr := fun q => q.1) (fw := fun q => wj [cX11 cy adX xT xR (adP 0) (adS 0) xIm xTr xC (adWa 0) xWb xWo xZ xU xD xE adB X, cX6 cy adP (adL 0) P, cX3 cy adL q.2.1, cX8 cy adS S, cX10 cy adWa Wa, [(adB, .inl (cy 2, 73, .inr (.inl q.2.2)))]]) h hx hb hr hlocks hK hP hD hS dX11_crowd_212
  have L150 : ∀ (x2 : Int32) (x3 : Int64) (n : Nat) (x5 : Int64) (x7 : Int32) (L : VV) (B : Nat → Int64) (H : Heap) (locs : List Loc) (ls : Array Slot), itr (fun q : Int64 × Int32 × VV × (Nat → Int64) => f_X11_crowd_s150 N X P q.2.2.1 S Wa q.2.2.2 x2 x3 q.1 q.2.1) n (x5, x7, L, B) = some res → va_P G vwCl (wj [cX11 cy adX xT xR (adP 0) (adS 0) xIm xTr xC (adWa 0) xWb xWo xZ xU xD xE adB X, cX6 cy adP (adL 0) P, cX3 cy adL L, cX8 cy adS S, cX10 cy adWa Wa, [(adB, .inl (cy 2, 73, .inr (.inl B)))]]) H → va_D A (wj [cX11 cy adX xT xR (adP 0) (adS 0) xIm xTr xC (adWa 0) xWb xWo xZ xU xD xE adB X, cX6 cy adP (adL 0) P, cX3 cy adL L, cX8 cy adS S, cX10 cy adWa Wa, [(adB, .inl (cy 2, 73, .inr (.inl B)))]]) → va_S A s.heap H locs → lv_has ls 11 [(0, .ref (adX 0)), (2, .int x2), (3, .long x3), (5, .long x5), (7, .int x7)] → W p l e (rmX 3 84) s m args below meth c H locs 0 0 (MQ below (mQl (res.1) G cy A (wj [cX11 cy adX xT xR (adP 0) (adS 0) xIm xTr xC (adWa 0) xWb xWo xZ xU xD xE adB X, cX6 cy adP (adL 0) P, cX3 cy adL res.2.1, cX8 cy adS S, cX10 cy adWa Wa, [(adB, .inl (cy 2, 73, .inr (.inl res.2.2)))]])) args s 0 0 A) (F0 m 150 ls []) := by
    intro x2 x3 n
    induction n with
    | zero => intro x5 x7 L B H locs ls h; exact (itr_zero h).elim
    | succ n ih1 =>
      intro x5 x7 L B H locs ls h hP hD hS hl
      obtain ⟨y1, h, hy1⟩ := itr_inv h
      have h : f_X11_crowd_s150 N X P L S Wa B x2 x3 x5 x7 = some y1 := h
      delta f_X11_crowd_s150 at h
      refine lv_iload hx hb dX11_crowd_150 (lv_at hl 4 rfl) ?_
      refine lv_bipush (v := 72) hx hb dX11_crowd_152 (by decide) ?_
      refine lv_icmp_gt (tgt := 175) hx hb dX11_crowd_154 (by decide) (fun c9 => ?_) (fun c9 => ?_)
      · replace h := (br h).1 c9
        replace h := itr_exit h hy1
        refine lv_lload_n hx hb dX11_crowd_175 rfl (lv_at hl 2 rfl) ?_
        refine lv_lload hx hb dX11_crowd_176 (lv_at hl 3 rfl) ?_
        replace h := bd h
        obtain ⟨q15001, h15002, h⟩ := h
        refine callSl0 (As := [.long x3, .long x5]) (rest := []) hx hb hml hown hts (k_X11_commonDivisor l G cy ev N (wj [cX11 cy adX xT xR (adP 0) (adS 0) xIm xTr xC (adWa 0) xWb xWo xZ xU xD xE adB X, cX6 cy adP (adL 0) P, cX3 cy adL L, cX8 cy adS S, cX10 cy adWa Wa, [(adB, .inl (cy 2, 73, .inr (.inl B)))]]) x3 x5 q15001 h15002) wm_42_6 wm_42_7 wm_1_2 wm_42_8 hd_X11_commonDivisor ⟨by decide, by decide⟩ hK hP hD hS hA hE rfl rfl hl.1 (Nat.le_of_ble_eq_true rfl) dX11_crowd_178 (fun H locs hP hD hS => ?_)
        refine lv_lstore (lv' := [(7, .long q15001), (0, .ref (adX 0)), (2, .int x2), (3, .long x3), (5, .long x5)]) hx hb dX11_crowd_181 hl (by decide) rfl (fun ls hl => ?_)
        refine lv_iload_n hx hb dX11_crowd_183 rfl (lv_at hl 2 rfl) ?_
        refine lv_if_ne (tgt := 192) hx hb dX11_crowd_184 (by decide) (fun c9 => ?_) (fun c9 => ?_)
        · replace h := (br h).2 c9
          refine lv_lload_n hx hb dX11_crowd_192 rfl (lv_at hl 3 rfl) ?_
          exact B193 q15001 x3 L B _ _ _ h hP hD hS (lv_sub hl [0] rfl)
        · replace h := (br h).1 c9
          refine lv_lload hx hb dX11_crowd_187 (lv_at hl 4 rfl) ?_
          refine lv_goto (tgt := 193) hx hb dX11_crowd_189 (by decide) ?_
          exact B193 q15001 x5 L B _ _ _ h hP hD hS (lv_sub hl [0] rfl)
      · replace h := (br h).2 c9
        refine lv_lload hx hb dX11_crowd_157 (lv_at hl 3 rfl) ?_
        refine lv_aload_n hx hb dX11_crowd_159 rfl (lv_at hl 0 rfl) ?_
        refine go_11_98 (ci := 0) hx hb hts hown hK hE hP rfl dX11_crowd_160 ?_
        refine lv_iload hx hb dX11_crowd_163 (lv_at hl 4 rfl) ?_
        replace h := gin_inv h
        obtain ⟨h9, h⟩ := h
        refine ldWJ (ci := 5) (k0 := 0) (g := B) (j := x7.toNatClampNeg) hx hb hK hP rfl rfl rfl h9 rfl dX11_crowd_165 ?_
        refine lv_ladd hx hb dX11_crowd_166 ?_
        refine lv_lstore (lv' := [(5, .long (x5 + (B x7.toNatClampNeg))), (0, .ref (adX 0)), (2, .int x2), (3, .long x3), (7, .int x7)]) hx hb dX11_crowd_167 hl (by decide) rfl (fun ls hl => ?_)
        refine lv_iinc (v := x7 + 1) (lv' := [(7, .int (x7 + 1)), (5, .long (x5 + (B x7.toNatClampNeg))), (0, .ref (adX 0)), (2, .int x2), (3, .long x3)]) hx hb dX11_crowd_169 hl (k := 4) rfl rfl (by decide) rfl (fun ls hl => ?_)
        refine lv_goto (tgt := 150) hx hb dX11_crowd_172 (by decide) ?_
        replace h := itr_back h hy1
        exact ih1 (x5 + (B x7.toNatClampNeg)) (x7 + 1) L B _ _ _ h hP hD hS (lv_sub hl [2, 3, 4, 1, 0] rfl)
  have L58 : ∀ (x1 : Int32) (x2 : Int32) (n : Nat) (x3 : Int64) (x5 : Int32) (L : VV) (B : Nat → Int64) (H : Heap) (locs : List Loc) (ls : Array Slot), itr (fun q : Int64 × Int32 × VV × (Nat → Int64) => f_X11_crowd_s58 N X P q.2.2.1 S Wa q.2.2.2 x1 x2 q.1 q.2.1) n (x3, x5, L, B) = some res → va_P G vwCl (wj [cX11 cy adX xT xR (adP 0) (adS 0) xIm xTr xC (adWa 0) xWb xWo xZ xU xD xE adB X, cX6 cy adP (adL 0) P, cX3 cy adL L, cX8 cy adS S, cX10 cy adWa Wa, [(adB, .inl (cy 2, 73, .inr (.inl B)))]]) H → va_D A (wj [cX11 cy adX xT xR (adP 0) (adS 0) xIm xTr xC (adWa 0) xWb xWo xZ xU xD xE adB X, cX6 cy adP (adL 0) P, cX3 cy adL L, cX8 cy adS S, cX10 cy adWa Wa, [(adB, .inl (cy 2, 73, .inr (.inl B)))]]) → va_S A s.heap H locs → lv_has ls 11 [(0, .ref (adX 0)), (1, .int x1), (2, .int x2), (3, .long x3), (5, .int x5)] → W p l e (rmX 3 84) s m args below meth c H locs 0 0 (MQ below (mQl (res.1) G cy A (wj [cX11 cy adX xT xR (adP 0) (adS 0) xIm xTr xC (adWa 0) xWb xWo xZ xU xD xE adB X, cX6 cy adP (adL 0) P, cX3 cy adL res.2.1, cX8 cy adS S, cX10 cy adWa Wa, [(adB, .inl (cy 2, 73, .inr (.inl res.2.2)))]])) args s 0 0 A) (F0 m 58 ls []) := by
    intro x1 x2 n
    induction n with
    | zero => intro x3 x5 L B H locs ls h; exact (itr_zero h).elim
    | succ n ih1 =>
      intro x3 x5 L B H locs ls h hP hD hS hl
      obtain ⟨y1, h, hy1⟩ := itr_inv h
      have h : f_X11_crowd_s58 N X P L S Wa B x1 x2 x3 x5 = some y1 := h
      have B124 : ∀ (x3 : Int64) (x5 : Int32) (L : VV) (B : Nat → Int64) (H : Heap) (locs : List Loc) (ls : Array Slot), f_X11_crowd_b124 N X P L S Wa B x1 x2 x3 x5 = some y1 → va_P G vwCl (wj [cX11 cy adX xT xR (adP 0) (adS 0) xIm xTr xC (adWa 0) xWb xWo xZ xU xD xE adB X, cX6 cy adP (adL 0) P, cX3 cy adL L, cX8 cy adS S, cX10 cy adWa Wa, [(adB, .inl (cy 2, 73, .inr (.inl B)))]]) H → va_D A (wj [cX11 cy adX xT xR (adP 0) (adS 0) xIm xTr xC (adWa 0) xWb xWo xZ xU xD xE adB X, cX6 cy adP (adL 0) P, cX3 cy adL L, cX8 cy adS S, cX10 cy adWa Wa, [(adB, .inl (cy 2, 73, .inr (.inl B)))]]) → va_S A s.heap H locs → lv_has ls 11 [(0, .ref (adX 0)), (1, .int x1), (2, .int x2), (3, .long x3), (5, .int x5)] → W p l e (rmX 3 84) s m args below meth c H locs 0 0 (MQ below (mQl (res.1) G cy A (wj [cX11 cy adX xT xR (adP 0) (adS 0) xIm xTr xC (adWa 0) xWb xWo xZ xU xD xE adB X, cX6 cy adP (adL 0) P, cX3 cy adL res.2.1, cX8 cy adS S, cX10 cy adWa Wa, [(adB, .inl (cy 2, 73, .inr (.inl res.2.2)))]])) args s 0 0 A) (F0 m 124 ls []) := by
        intro x3 x5 L B H locs ls h hP hD hS hl
        delta f_X11_crowd_b124 at h
        refine lv_iinc (v := x5 + 1) (lv' := [(5, .int (x5 + 1)), (0, .ref (adX 0)), (1, .int x1), (2, .int x2), (3, .long x3)]) hx hb dX11_crowd_124 hl (k := 4) rfl rfl (by decide) rfl (fun ls hl => ?_)
        refine lv_goto (tgt := 58) hx hb dX11_crowd_127 (by decide) ?_
        replace h := itr_back h hy1
        exact ih1 x3 (x5 + 1) L B _ _ _ h hP hD hS (lv_sub hl [1, 2, 3, 4, 0] rfl)
      delta f_X11_crowd_s58 at h
      refine lv_iload hx hb dX11_crowd_58 (lv_at hl 4 rfl) ?_
      refine lv_aload_n hx hb dX11_crowd_60 rfl (lv_at hl 0 rfl) ?_
      refine go_11_29 (ci := 0) hx hb hts hown hK hE hP rfl dX11_crowd_61 ?_
      refine go_11_258 (ci := 1) (x := P.1 0) hx hb hts hown hK hE hP rfl rfl dX11_crowd_64 ?_
      refine lv_icmp_ge (tgt := 130) hx hb dX11_crowd_67 (by decide) (fun c9 => ?_) (fun c9 => ?_)
      · replace h := (br h).1 c9
        replace h := itr_exit h hy1
        refine lv_lconst (v := 0) hx hb dX11_crowd_130 (by decide) ?_
        refine lv_lstore (lv' := [(5, .long 0), (0, .ref (adX 0)), (1, .int x1), (2, .int x2), (3, .long x3)]) hx hb dX11_crowd_131 hl (by decide) rfl (fun ls hl => ?_)
        refine lv_aload_n hx hb dX11_crowd_133 rfl (lv_at hl 1 rfl) ?_
        refine go_11_29 (ci := 0) hx hb hts hown hK hE hP rfl dX11_crowd_134 ?_
        refine go_11_264 (ci := 1) hx hb hts hown hK hE hP rfl dX11_crowd_137 ?_
        refine lv_iconst (v := 0) hx hb dX11_crowd_140 (by decide) ?_
        refine ldWI (ci := 1) (k0 := 5) (g := P.2.1 6) (j := 0) hx hb hK hP rfl cX6_a6 rfl (vin_dec (by decide)) (by decide) dX11_crowd_141 ?_
        refine lv_iconst (v := 1) hx hb dX11_crowd_142 (by decide) ?_
        refine lv_iadd hx hb dX11_crowd_143 ?_
        refine lv_iconst (v := 0) hx hb dX11_crowd_144 (by decide) ?_
        refine mmax hx hb (by rw [hml]; exact hl.1.symm) hown (hts _ wm_42_1) hts (by decide) (Nat.le_of_ble_eq_true rfl) dX11_crowd_145 ?_
        refine lv_istore (lv' := [(7, .int (jmax ((P.2.1 6 0) + 1) 0)), (5, .long 0), (0, .ref (adX 0)), (1, .int x1), (2, .int x2), (3, .long x3)]) hx hb dX11_crowd_148 hl (by decide) rfl (fun ls hl => ?_)
        exact L150 x2 x3 N 0 (jmax ((P.2.1 6 0) + 1) 0) L B _ _ _ h hP hD hS (lv_sub hl [2, 4, 5, 1, 0] rfl)
      · replace h := (br h).2 c9
        refine lv_aload_n hx hb dX11_crowd_70 rfl (lv_at hl 0 rfl) ?_
        refine go_11_36 (ci := 0) hx hb hts hown hK hE hP rfl dX11_crowd_71 ?_
        refine go_11_156 (ci := 3) hx hb hts hown hK hE hP rfl dX11_crowd_74 ?_
        refine lv_iload hx hb dX11_crowd_77 (lv_at hl 4 rfl) ?_
        replace h := gin_inv h
        obtain ⟨h9, h⟩ := h
        refine ldWI (ci := 3) (k0 := 1) (g := S.2.1 2) (j := x5.toNatClampNeg) hx hb hK hP rfl cX8_a2 rfl h9 rfl dX11_crowd_79 ?_
        refine lv_iload_n hx hb dX11_crowd_80 rfl (lv_at hl 1 rfl) ?_
        refine lv_icmp_ne (tgt := 124) hx hb dX11_crowd_81 (by decide) (fun c9 => ?_) (fun c9 => ?_)
        · replace h := (br h).2 c9
          exact B124 x3 x5 L B _ _ _ h hP hD hS (lv_sub hl [0, 1, 2, 3, 4] rfl)
        · replace h := (br h).1 c9
          refine lv_aload_n hx hb dX11_crowd_84 rfl (lv_at hl 0 rfl) ?_
          refine lv_aload_n hx hb dX11_crowd_85 rfl (lv_at hl 0 rfl) ?_
          refine go_11_29 (ci := 0) hx hb hts hown hK hE hP rfl dX11_crowd_86 ?_
          refine lv_iload hx hb dX11_crowd_89 (lv_at hl 4 rfl) ?_
          refine lv_iconst (v := 0) hx hb dX11_crowd_91 (by decide) ?_
          replace h := bd h
          obtain ⟨q5801, h5802, h⟩ := h
          refine callWVi (As := [.int x5, .int 0]) (rest := [.ref (adX 0)]) (cs' := [cX11 cy adX xT xR (adP 0) (adS 0) xIm xTr xC (adWa 0) xWb xWo xZ xU xD xE adB X, cX6 cy adP (adL 0) P, cX3 cy adL L, cX8 cy adS S, cX10 cy adWa Wa, [(adB, .inl (cy 2, 73, .inr (.inl B)))]]) (isC := [1]) (isR := [0, 2, 3, 4, 5]) hx hb hml hown hts (k_X6_trait l G cy ev adP (adL 0) P x5 0 q5801 h5802) wm_26_15 wm_26_16 wm_26_17 wm_1_22 wm_26_18 hd_X6_trait ⟨by decide, by decide⟩ hK hP hD hS hA hE rfl rfl rfl (cov_of (n := 6) rfl (by decide)) (by decide) rfl (recvW (ci := 1) hK hP rfl cX6_o rfl) rfl rfl hl.1 (Nat.le_of_ble_eq_true rfl) dX11_crowd_92 (fun H locs hP hD hS => ?_)
          refine lv_iconst (v := 2) hx hb dX11_crowd_95 (by decide) ?_
          refine lv_aload_n hx hb dX11_crowd_96 rfl (lv_at hl 0 rfl) ?_
          refine go_11_29 (ci := 0) hx hb hts hown hK hE hP rfl dX11_crowd_97 ?_
          refine lv_aload_n hx hb dX11_crowd_100 rfl (lv_at hl 0 rfl) ?_
          refine go_11_36 (ci := 0) hx hb hts hown hK hE hP rfl dX11_crowd_101 ?_
          refine lv_aload_n hx hb dX11_crowd_104 rfl (lv_at hl 0 rfl) ?_
          refine go_11_60 (ci := 0) hx hb hts hown hK hE hP rfl dX11_crowd_105 ?_
          refine lv_iload hx hb dX11_crowd_108 (lv_at hl 4 rfl) ?_
          refine lv_iload_n hx hb dX11_crowd_110 rfl (lv_at hl 1 rfl) ?_
          refine lv_iconst (v := 0) hx hb dX11_crowd_111 (by decide) ?_
          replace h := bd h
          obtain ⟨q5803, h5804, h⟩ := h
          refine callWSXi (As := [.int 2, .ref (adP 0), .ref (adS 0), .ref (adWa 0), .int x5, .int x1, .int 0]) (rest := [.int q5801, .ref (adX 0)]) (cs' := [cX11 cy adX xT xR (adP 0) (adS 0) xIm xTr xC (adWa 0) xWb xWo xZ xU xD xE adB X, cX6 cy adP (adL 0) P, cX3 cy adL q5803.2, cX8 cy adS S, cX10 cy adWa Wa, [(adB, .inl (cy 2, 73, .inr (.inl B)))]]) (isC := [1, 2, 3, 4]) (isR := [0, 5]) hx hb hml hown hts (k_X0_manner l G cy ev N adP P adL L adS S adWa Wa 2 x5 x1 0 q5803 h5804) wm_38_2 wm_34_4 wm_2_9 wm_34_5 hds_X0_manner ⟨by decide, by decide⟩ hK hP hD hS hA hE rfl rfl rfl (cov_of (n := 6) rfl (by decide)) (by decide) rfl rfl rfl hl.1 (Nat.le_of_ble_eq_true rfl) dX11_crowd_112 (fun H locs hP hD hS => ?_)
          replace h := bd h
          obtain ⟨q5805, h5806, h⟩ := h
          refine callWVv (As := [.int q5801, .int q5803.1]) (rest := []) (cs' := [cX11 cy adX xT xR (adP 0) (adS 0) xIm xTr xC (adWa 0) xWb xWo xZ xU xD xE adB X, cX6 cy adP (adL 0) P, cX3 cy adL q5803.2, cX8 cy adS S, cX10 cy adWa Wa, [(adB, .inl (cy 2, 73, .inr (.inl q5805)))]]) (isC := [0, 5]) (isR := [1, 2, 3, 4]) hx hb hml hown hts (k_X11_mayCome l G cy ev N adX xT xR (adP 0) (adS 0) xIm xTr xC (adWa 0) xWb xWo xZ xU xD xE X adB B q5801 q5803.1 q5805 h5806) wm_42_2 wm_42_3 wm_42_4 wm_1_2 wm_42_5 hd_X11_mayCome ⟨by decide, by decide⟩ hK hP hD hS hA hE rfl rfl rfl (cov_of (n := 6) rfl (by decide)) (by decide) rfl (recvW (ci := 0) hK hP rfl cX11_o rfl) rfl rfl hl.1 (Nat.le_of_ble_eq_true rfl) dX11_crowd_115 (fun H locs hP hD hS => ?_)
          refine lv_lload_n hx hb dX11_crowd_118 rfl (lv_at hl 3 rfl) ?_
          refine lv_ldc2 (v := (100)) hx hb hown (hts _ wm_42_0) dX11_crowd_119 ?_
          refine lv_lmul hx hb dX11_crowd_122 ?_
          refine lv_lstore_n (lv' := [(3, .long (x3 * 100)), (0, .ref (adX 0)), (1, .int x1), (2, .int x2), (5, .int x5)]) hx hb dX11_crowd_123 rfl hl (by decide) rfl (fun ls hl => ?_)
          exact B124 (x3 * 100) x5 q5803.2 q5805 _ _ _ h hP hD hS (lv_sub hl [1, 2, 3, 0, 4] rfl)
  have L26 : ∀ (x1 : Int32) (x2 : Int32) (n : Nat) (x3 : Int32) (L : VV) (B : Nat → Int64) (H : Heap) (locs : List Loc) (ls : Array Slot), itr (fun q : Int32 × VV × (Nat → Int64) => f_X11_crowd_s26 N X P q.2.1 S Wa q.2.2 x1 x2 q.1) n (x3, L, B) = some res → va_P G vwCl (wj [cX11 cy adX xT xR (adP 0) (adS 0) xIm xTr xC (adWa 0) xWb xWo xZ xU xD xE adB X, cX6 cy adP (adL 0) P, cX3 cy adL L, cX8 cy adS S, cX10 cy adWa Wa, [(adB, .inl (cy 2, 73, .inr (.inl B)))]]) H → va_D A (wj [cX11 cy adX xT xR (adP 0) (adS 0) xIm xTr xC (adWa 0) xWb xWo xZ xU xD xE adB X, cX6 cy adP (adL 0) P, cX3 cy adL L, cX8 cy adS S, cX10 cy adWa Wa, [(adB, .inl (cy 2, 73, .inr (.inl B)))]]) → va_S A s.heap H locs → lv_has ls 11 [(0, .ref (adX 0)), (1, .int x1), (2, .int x2), (3, .int x3)] → W p l e (rmX 3 84) s m args below meth c H locs 0 0 (MQ below (mQl (res.1) G cy A (wj [cX11 cy adX xT xR (adP 0) (adS 0) xIm xTr xC (adWa 0) xWb xWo xZ xU xD xE adB X, cX6 cy adP (adL 0) P, cX3 cy adL res.2.1, cX8 cy adS S, cX10 cy adWa Wa, [(adB, .inl (cy 2, 73, .inr (.inl res.2.2)))]])) args s 0 0 A) (F0 m 26 ls []) := by
    intro x1 x2 n
    induction n with
    | zero => intro x3 L B H locs ls h; exact (itr_zero h).elim
    | succ n ih1 =>
      intro x3 L B H locs ls h hP hD hS hl
      obtain ⟨y1, h, hy1⟩ := itr_inv h
      have h : f_X11_crowd_s26 N X P L S Wa B x1 x2 x3 = some y1 := h
      have B46 : ∀ (x3 : Int32) (z0 : Int64) (z1 : Int32) (L : VV) (B : Nat → Int64) (H : Heap) (locs : List Loc) (ls : Array Slot), f_X11_crowd_b46 N X P L S Wa B x1 x2 x3 z0 z1 = some y1 → va_P G vwCl (wj [cX11 cy adX xT xR (adP 0) (adS 0) xIm xTr xC (adWa 0) xWb xWo xZ xU xD xE adB X, cX6 cy adP (adL 0) P, cX3 cy adL L, cX8 cy adS S, cX10 cy adWa Wa, [(adB, .inl (cy 2, 73, .inr (.inl B)))]]) H → va_D A (wj [cX11 cy adX xT xR (adP 0) (adS 0) xIm xTr xC (adWa 0) xWb xWo xZ xU xD xE adB X, cX6 cy adP (adL 0) P, cX3 cy adL L, cX8 cy adS S, cX10 cy adWa Wa, [(adB, .inl (cy 2, 73, .inr (.inl B)))]]) → va_S A s.heap H locs → lv_has ls 11 [(0, .ref (adX 0)), (1, .int x1), (2, .int x2), (3, .int x3)] → W p l e (rmX 3 84) s m args below meth c H locs 0 0 (MQ below (mQl (res.1) G cy A (wj [cX11 cy adX xT xR (adP 0) (adS 0) xIm xTr xC (adWa 0) xWb xWo xZ xU xD xE adB X, cX6 cy adP (adL 0) P, cX3 cy adL res.2.1, cX8 cy adS S, cX10 cy adWa Wa, [(adB, .inl (cy 2, 73, .inr (.inl res.2.2)))]])) args s 0 0 A) (F0 m 46 ls [.long z0, .int z1, .ref adB]) := by
        intro x3 z0 z1 L B H locs ls h hP hD hS hl
        delta f_X11_crowd_b46 at h
        replace h := gin_inv h
        obtain ⟨h9, h⟩ := h
        refine stWJ (ci := 5) (k0 := 0) (j := z1.toNatClampNeg) (cs' := [cX11 cy adX xT xR (adP 0) (adS 0) xIm xTr xC (adWa 0) xWb xWo xZ xU xD xE adB X, cX6 cy adP (adL 0) P, cX3 cy adL L, cX8 cy adS S, cX10 cy adWa Wa, [(adB, .inl (cy 2, 73, .inr (.inl (vp_updL B z1.toNatClampNeg z0))))]]) hx hb hK hP hD hS rfl rfl h9 rfl rfl rfl dX11_crowd_46 (fun H locs hP hD hS => ?_)
        refine lv_iinc (v := x3 + 1) (lv' := [(3, .int (x3 + 1)), (0, .ref (adX 0)), (1, .int x1), (2, .int x2)]) hx hb dX11_crowd_47 hl (k := 3) rfl rfl (by decide) rfl (fun ls hl => ?_)
        refine lv_goto (tgt := 26) hx hb dX11_crowd_50 (by decide) ?_
        replace h := itr_back h hy1
        exact ih1 (x3 + 1) L (vp_updL B z1.toNatClampNeg z0) _ _ _ h hP hD hS (lv_sub hl [1, 2, 3, 0] rfl)
      delta f_X11_crowd_s26 at h
      refine lv_iload_n hx hb dX11_crowd_26 rfl (lv_at hl 3 rfl) ?_
      refine lv_bipush (v := 72) hx hb dX11_crowd_27 (by decide) ?_
      refine lv_icmp_gt (tgt := 53) hx hb dX11_crowd_29 (by decide) (fun c9 => ?_) (fun c9 => ?_)
      · replace h := (br h).1 c9
        replace h := itr_exit h hy1
        refine lv_lconst (v := 1) hx hb dX11_crowd_53 (by decide) ?_
        refine lv_lstore_n (lv' := [(3, .long 1), (0, .ref (adX 0)), (1, .int x1), (2, .int x2)]) hx hb dX11_crowd_54 rfl hl (by decide) rfl (fun ls hl => ?_)
        refine lv_iconst (v := 0) hx hb dX11_crowd_55 (by decide) ?_
        refine lv_istore (lv' := [(5, .int 0), (3, .long 1), (0, .ref (adX 0)), (1, .int x1), (2, .int x2)]) hx hb dX11_crowd_56 hl (by decide) rfl (fun ls hl => ?_)
        exact L58 x1 x2 N 1 0 L B _ _ _ h hP hD hS (lv_sub hl [2, 3, 4, 1, 0] rfl)
      · replace h := (br h).2 c9
        refine lv_aload_n hx hb dX11_crowd_32 rfl (lv_at hl 0 rfl) ?_
        refine go_11_98 (ci := 0) hx hb hts hown hK hE hP rfl dX11_crowd_33 ?_
        refine lv_iload_n hx hb dX11_crowd_36 rfl (lv_at hl 3 rfl) ?_
        refine lv_iload_n hx hb dX11_crowd_37 rfl (lv_at hl 3 rfl) ?_
        refine lv_if_ne (tgt := 45) hx hb dX11_crowd_38 (by decide) (fun c9 => ?_) (fun c9 => ?_)
        · replace h := (br h).2 c9
          refine lv_lconst (v := 0) hx hb dX11_crowd_45 (by decide) ?_
          exact B46 x3 0 x3 L B _ _ _ h hP hD hS (lv_sub hl [0, 1, 2, 3] rfl)
        · replace h := (br h).1 c9
          refine lv_lconst (v := 1) hx hb dX11_crowd_41 (by decide) ?_
          refine lv_goto (tgt := 46) hx hb dX11_crowd_42 (by decide) ?_
          exact B46 x3 1 x3 L B _ _ _ h hP hD hS (lv_sub hl [0, 1, 2, 3] rfl)
  have B20 : ∀ (L : VV) (B : Nat → Int64) (H : Heap) (locs : List Loc) (ls : Array Slot), f_X11_crowd_b20 N X P L S Wa B = some res → va_P G vwCl (wj [cX11 cy adX xT xR (adP 0) (adS 0) xIm xTr xC (adWa 0) xWb xWo xZ xU xD xE adB X, cX6 cy adP (adL 0) P, cX3 cy adL L, cX8 cy adS S, cX10 cy adWa Wa, [(adB, .inl (cy 2, 73, .inr (.inl B)))]]) H → va_D A (wj [cX11 cy adX xT xR (adP 0) (adS 0) xIm xTr xC (adWa 0) xWb xWo xZ xU xD xE adB X, cX6 cy adP (adL 0) P, cX3 cy adL L, cX8 cy adS S, cX10 cy adWa Wa, [(adB, .inl (cy 2, 73, .inr (.inl B)))]]) → va_S A s.heap H locs → lv_has ls 11 [] → W p l e (rmX 3 84) s m args below meth c H locs 0 0 (MQ below (mQl (res.1) G cy A (wj [cX11 cy adX xT xR (adP 0) (adS 0) xIm xTr xC (adWa 0) xWb xWo xZ xU xD xE adB X, cX6 cy adP (adL 0) P, cX3 cy adL res.2.1, cX8 cy adS S, cX10 cy adWa Wa, [(adB, .inl (cy 2, 73, .inr (.inl res.2.2)))]])) args s 0 0 A) (F0 m 20 ls []) := by
    intro L B H locs ls h hP hD hS hl
    delta f_X11_crowd_b20 at h
    refine lv_ldc2 (v := (-1)) hx hb hown (hts _ wm_41_23) dX11_crowd_20 ?_
    exact retL (fr := fun q => q.1) (fw := fun q => wj [cX11 cy adX xT xR (adP 0) (adS 0) xIm xTr xC (adWa 0) xWb xWo xZ xU xD xE adB X, cX6 cy adP (adL 0) P, cX3 cy adL q.2.1, cX8 cy adS S, cX10 cy adWa Wa, [(adB, .inl (cy 2, 73, .inr (.inl q.2.2)))]]) h hx hb hr hlocks hK hP hD hS dX11_crowd_23
  delta f_X11_crowd at h
  refine lv_aload_n hx hb dX11_crowd_0 rfl (lv_at hl 0 rfl) ?_
  refine go_11_29 (ci := 0) hx hb hts hown hK hE hP rfl dX11_crowd_1 ?_
  refine lv_iload_n hx hb dX11_crowd_4 rfl (lv_at hl 1 rfl) ?_
  replace h := bd h
  obtain ⟨q1, h2, h⟩ := h
  refine callWVi (As := [.int a1]) (rest := []) (cs' := [cX11 cy adX xT xR (adP 0) (adS 0) xIm xTr xC (adWa 0) xWb xWo xZ xU xD xE adB X, cX6 cy adP (adL 0) P, cX3 cy adL L, cX8 cy adS S, cX10 cy adWa Wa, [(adB, .inl (cy 2, 73, .inr (.inl B)))]]) (isC := [1]) (isR := [0, 2, 3, 4, 5]) hx hb hml hown hts (k_X6_hasSitting l G cy ev adP (adL 0) P a1 q1 h2) wm_27_19 wm_27_20 wm_27_21 wm_1_22 wm_27_22 hd_X6_hasSitting ⟨by decide, by decide⟩ hK hP hD hS hA hE rfl rfl rfl (cov_of (n := 6) rfl (by decide)) (by decide) rfl (recvW (ci := 1) hK hP rfl cX6_o rfl) rfl rfl hl.1 (Nat.le_of_ble_eq_true rfl) dX11_crowd_5 (fun H locs hP hD hS => ?_)
  refine lv_if_eq (tgt := 20) hx hb dX11_crowd_8 (by decide) (fun c9 => ?_) (fun c9 => ?_)
  · replace h := (br h).1 c9
    exact B20 L B _ _ _ h hP hD hS (lv_sub hl [] rfl)
  · replace h := (br h).2 c9
    refine lv_iload_n hx hb dX11_crowd_11 rfl (lv_at hl 2 rfl) ?_
    refine lv_if_lt (tgt := 20) hx hb dX11_crowd_12 (by decide) (fun c9 => ?_) (fun c9 => ?_)
    · replace h := (br h).1 c9
      exact B20 L B _ _ _ h hP hD hS (lv_sub hl [] rfl)
    · replace h := (br h).2 c9
      refine lv_iload_n hx hb dX11_crowd_15 rfl (lv_at hl 2 rfl) ?_
      refine lv_iconst (v := 1) hx hb dX11_crowd_16 (by decide) ?_
      refine lv_icmp_le (tgt := 24) hx hb dX11_crowd_17 (by decide) (fun c9 => ?_) (fun c9 => ?_)
      · replace h := (br h).1 c9
        refine lv_iconst (v := 0) hx hb dX11_crowd_24 (by decide) ?_
        refine lv_istore_n (lv' := [(3, .int 0), (0, .ref (adX 0)), (1, .int a1), (2, .int a2)]) hx hb dX11_crowd_25 rfl hl (by decide) rfl (fun ls hl => ?_)
        exact L26 a1 a2 N 0 L B _ _ _ h hP hD hS (lv_sub hl [1, 2, 3, 0] rfl)
      · replace h := (br h).2 c9
        exact B20 L B _ _ _ h hP hD hS (lv_sub hl [] rfl)
theorem hds_X11_tryToday : yX11_tryToday.cls ≠ "java/lang/invoke/MethodHandle" ∧ yX11_tryToday.cls ≠ "java/lang/invoke/VarHandle" ∧ (parseMethodDescriptor yX11_tryToday.desc).map (fun d => d.parameters.length) = some 1 := ⟨by decide +kernel, by decide +kernel, by decide +kernel⟩
theorem hd_X11_tryToday : yX11_tryToday.cls = RX11 ∧ yX11_tryToday.cls ≠ "java/lang/invoke/MethodHandle" ∧ yX11_tryToday.cls ≠ "java/lang/invoke/VarHandle" ∧ (parseMethodDescriptor yX11_tryToday.desc).map (fun d => d.parameters.length) = some 1 := ⟨rfl, hds_X11_tryToday⟩
def f_X11_tryToday (N : Nat) (X : VV) (P : VV) (L : VV) (S : VV) (Tr : VV) (C : VV) (Y : VV) : Option (VV × VV × VV) :=
  bnd (f_X8_copy Tr S) (fun q1 => bnd (f_X0_goThrough N C P L q1 Y) (fun q3 => some (q3.2.1, q3.2.2, q3.1)))
set_option maxHeartbeats 4000000 in
set_option maxRecDepth 100000 in
theorem k_X11_tryToday (l : Launch) (G : va_G) (cy : Nat → ClassId) (ev : Nat → Nat) (N : Nat) (adX : Nat → Nat) (xT : Nat) (xR : Nat) (xIm : Nat) (xWa : Nat) (xWb : Nat) (xWo : Nat) (xZ : Nat) (xU : Nat) (xD : Nat) (xE : Nat) (xB : Nat) (X : VV) (adP : Nat → Nat) (P : VV) (adL : Nat → Nat) (L : VV) (adS : Nat → Nat) (S : VV) (adTr : Nat → Nat) (Tr : VV) (adC : Nat → Nat) (C : VV) (adY : Nat → Nat) (Y : VV)  (res : VV × VV × VV) (h : f_X11_tryToday N X P L S Tr C Y = some res) : MetV l yX11_tryToday cX11_tryToday 2 none 6 166 G cy ev [.ref (adX 0), .ref (adY 0)] (wj [cX11 cy adX xT xR (adP 0) (adS 0) xIm (adTr 0) (adC 0) xWa xWb xWo xZ xU xD xE xB X, cX6 cy adP (adL 0) P, cX3 cy adL L, cX8 cy adS S, cX8 cy adTr Tr, cX0 cy adC C, cX10 cy adY Y]) (wj [cX11 cy adX xT xR (adP 0) (adS 0) xIm (adTr 0) (adC 0) xWa xWb xWo xZ xU xD xE xB X, cX6 cy adP (adL 0) P, cX3 cy adL res.1, cX8 cy adS S, cX8 cy adTr res.2.1, cX0 cy adC res.2.2, cX10 cy adY Y]) := by
  refine MetQ.start (by decide +kernel) (Nat.le_of_ble_eq_true rfl) (fun p e s m args below meth c A ls hx hb hr hml hown hts hlocks hK hP hD hA hl hE => ?_)
  have hS : va_S A s.heap s.heap [] := va_S.rf
  have hown : s.vm.findClass RX11 = some m.cls := hown
  have hl : lv_has ls 2 [(0, .ref (adX 0)), (1, .ref (adY 0))] := hl
  delta f_X11_tryToday at h
  refine lv_aload_n hx hb dX11_tryToday_0 rfl (lv_at hl 0 rfl) ?_
  refine go_11_47 (ci := 0) hx hb hts hown hK hE hP rfl dX11_tryToday_1 ?_
  refine lv_aload_n hx hb dX11_tryToday_4 rfl (lv_at hl 0 rfl) ?_
  refine go_11_36 (ci := 0) hx hb hts hown hK hE hP rfl dX11_tryToday_5 ?_
  replace h := bd h
  obtain ⟨q1, h2, h⟩ := h
  refine callWVv (As := [.ref (adS 0)]) (rest := []) (cs' := [cX11 cy adX xT xR (adP 0) (adS 0) xIm (adTr 0) (adC 0) xWa xWb xWo xZ xU xD xE xB X, cX6 cy adP (adL 0) P, cX3 cy adL L, cX8 cy adS S, cX8 cy adTr q1, cX0 cy adC C, cX10 cy adY Y]) (isC := [4, 3]) (isR := [0, 1, 2, 5, 6]) hx hb hml hown hts (k_X8_copy l G cy ev adTr Tr adS S q1 h2) wm_43_2 wm_43_3 wm_43_4 wm_2_2 wm_43_5 hd_X8_copy ⟨by decide, by decide⟩ hK hP hD hS hA hE rfl rfl rfl (cov_of (n := 7) rfl (by decide)) (by decide) rfl (recvW (ci := 4) hK hP rfl cX8_o rfl) rfl rfl hl.1 (Nat.le_of_ble_eq_true rfl) dX11_tryToday_8 (fun H locs hP hD hS => ?_)
  refine lv_aload_n hx hb dX11_tryToday_11 rfl (lv_at hl 0 rfl) ?_
  refine go_11_53 (ci := 0) hx hb hts hown hK hE hP rfl dX11_tryToday_12 ?_
  refine lv_aload_n hx hb dX11_tryToday_15 rfl (lv_at hl 0 rfl) ?_
  refine go_11_29 (ci := 0) hx hb hts hown hK hE hP rfl dX11_tryToday_16 ?_
  refine lv_aload_n hx hb dX11_tryToday_19 rfl (lv_at hl 0 rfl) ?_
  refine go_11_47 (ci := 0) hx hb hts hown hK hE hP rfl dX11_tryToday_20 ?_
  refine lv_aload_n hx hb dX11_tryToday_23 rfl (lv_at hl 1 rfl) ?_
  replace h := bd h
  obtain ⟨q3, h4, h⟩ := h
  refine callWVv (As := [.ref (adP 0), .ref (adTr 0), .ref (adY 0)]) (rest := []) (cs' := [cX11 cy adX xT xR (adP 0) (adS 0) xIm (adTr 0) (adC 0) xWa xWb xWo xZ xU xD xE xB X, cX6 cy adP (adL 0) P, cX3 cy adL q3.2.1, cX8 cy adS S, cX8 cy adTr q3.2.2, cX0 cy adC q3.1, cX10 cy adY Y]) (isC := [5, 1, 2, 4, 6]) (isR := [0, 3]) hx hb hml hown hts (k_X0_goThrough l G cy ev N adC C adP P adL L adTr q1 adY Y q3 h4) wm_33_14 wm_33_15 wm_33_16 wm_2_9 wm_33_17 hd_X0_goThrough ⟨by decide, by decide⟩ hK hP hD hS hA hE rfl rfl rfl (cov_of (n := 7) rfl (by decide)) (by decide) rfl (recvW (ci := 5) hK hP rfl cX0_o rfl) rfl rfl hl.1 (Nat.le_of_ble_eq_true rfl) dX11_tryToday_24 (fun H locs hP hD hS => ?_)
  exact retV (fw := fun q => wj [cX11 cy adX xT xR (adP 0) (adS 0) xIm (adTr 0) (adC 0) xWa xWb xWo xZ xU xD xE xB X, cX6 cy adP (adL 0) P, cX3 cy adL q.1, cX8 cy adS S, cX8 cy adTr q.2.1, cX0 cy adC q.2.2, cX10 cy adY Y]) h hx hb hr hlocks hK hP hD hS dX11_tryToday_27
theorem hds_X11_late : yX11_late.cls ≠ "java/lang/invoke/MethodHandle" ∧ yX11_late.cls ≠ "java/lang/invoke/VarHandle" ∧ (parseMethodDescriptor yX11_late.desc).map (fun d => d.parameters.length) = some 1 := ⟨by decide +kernel, by decide +kernel, by decide +kernel⟩
theorem hd_X11_late : yX11_late.cls = RX11 ∧ yX11_late.cls ≠ "java/lang/invoke/MethodHandle" ∧ yX11_late.cls ≠ "java/lang/invoke/VarHandle" ∧ (parseMethodDescriptor yX11_late.desc).map (fun d => d.parameters.length) = some 1 := ⟨rfl, hds_X11_late⟩
def f_X11_late (N : Nat) (X : VV) (P : VV) (L : VV) (S : VV) (Tr : VV) (C : VV) (Wa : VV) (a1 : Int32) : Option (Int32 × VV × VV × VV) :=
  bnd (f_X6_hasSitting P a1) (fun q1 => if q1 = 0 then some ((-1), L, Tr, C) else bnd (f_X11_tryToday N X P L S Tr C Wa) (fun q3 => gin a1 3 (some (q3.2.1.2.1 14 a1.toNatClampNeg, q3.1, q3.2.1, q3.2.2))))
set_option maxHeartbeats 4000000 in
set_option maxRecDepth 100000 in
theorem k_X11_late (l : Launch) (G : va_G) (cy : Nat → ClassId) (ev : Nat → Nat) (N : Nat) (adX : Nat → Nat) (xT : Nat) (xR : Nat) (xIm : Nat) (xWb : Nat) (xWo : Nat) (xZ : Nat) (xU : Nat) (xD : Nat) (xE : Nat) (xB : Nat) (X : VV) (adP : Nat → Nat) (P : VV) (adL : Nat → Nat) (L : VV) (adS : Nat → Nat) (S : VV) (adTr : Nat → Nat) (Tr : VV) (adC : Nat → Nat) (C : VV) (adWa : Nat → Nat) (Wa : VV) (a1 : Int32) (res : Int32 × VV × VV × VV) (h : f_X11_late N X P L S Tr C Wa a1 = some res) : MetI l yX11_late cX11_late 2 (some .int) 7 187 G cy ev [.ref (adX 0), .int a1] (wj [cX11 cy adX xT xR (adP 0) (adS 0) xIm (adTr 0) (adC 0) (adWa 0) xWb xWo xZ xU xD xE xB X, cX6 cy adP (adL 0) P, cX3 cy adL L, cX8 cy adS S, cX8 cy adTr Tr, cX0 cy adC C, cX10 cy adWa Wa]) res.1 (wj [cX11 cy adX xT xR (adP 0) (adS 0) xIm (adTr 0) (adC 0) (adWa 0) xWb xWo xZ xU xD xE xB X, cX6 cy adP (adL 0) P, cX3 cy adL res.2.1, cX8 cy adS S, cX8 cy adTr res.2.2.1, cX0 cy adC res.2.2.2, cX10 cy adWa Wa]) := by
  refine MetQ.start (by decide +kernel) (Nat.le_of_ble_eq_true rfl) (fun p e s m args below meth c A ls hx hb hr hml hown hts hlocks hK hP hD hA hl hE => ?_)
  have hS : va_S A s.heap s.heap [] := va_S.rf
  have hown : s.vm.findClass RX11 = some m.cls := hown
  have hl : lv_has ls 2 [(0, .ref (adX 0)), (1, .int a1)] := hl
  delta f_X11_late at h
  refine lv_aload_n hx hb dX11_late_0 rfl (lv_at hl 0 rfl) ?_
  refine go_11_29 (ci := 0) hx hb hts hown hK hE hP rfl dX11_late_1 ?_
  refine lv_iload_n hx hb dX11_late_4 rfl (lv_at hl 1 rfl) ?_
  replace h := bd h
  obtain ⟨q1, h2, h⟩ := h
  refine callWVi (As := [.int a1]) (rest := []) (cs' := [cX11 cy adX xT xR (adP 0) (adS 0) xIm (adTr 0) (adC 0) (adWa 0) xWb xWo xZ xU xD xE xB X, cX6 cy adP (adL 0) P, cX3 cy adL L, cX8 cy adS S, cX8 cy adTr Tr, cX0 cy adC C, cX10 cy adWa Wa]) (isC := [1]) (isR := [0, 2, 3, 4, 5, 6]) hx hb hml hown hts (k_X6_hasSitting l G cy ev adP (adL 0) P a1 q1 h2) wm_27_19 wm_27_20 wm_27_21 wm_1_22 wm_27_22 hd_X6_hasSitting ⟨by decide, by decide⟩ hK hP hD hS hA hE rfl rfl rfl (cov_of (n := 7) rfl (by decide)) (by decide) rfl (recvW (ci := 1) hK hP rfl cX6_o rfl) rfl rfl hl.1 (Nat.le_of_ble_eq_true rfl) dX11_late_5 (fun H locs hP hD hS => ?_)
  refine lv_if_ne (tgt := 13) hx hb dX11_late_8 (by decide) (fun c9 => ?_) (fun c9 => ?_)
  · replace h := (br h).2 c9
    refine lv_aload_n hx hb dX11_late_13 rfl (lv_at hl 0 rfl) ?_
    refine lv_aload_n hx hb dX11_late_14 rfl (lv_at hl 0 rfl) ?_
    refine go_11_60 (ci := 0) hx hb hts hown hK hE hP rfl dX11_late_15 ?_
    replace h := bd h
    obtain ⟨q3, h4, h⟩ := h
    refine callWVv (As := [.ref (adWa 0)]) (rest := []) (cs' := [cX11 cy adX xT xR (adP 0) (adS 0) xIm (adTr 0) (adC 0) (adWa 0) xWb xWo xZ xU xD xE xB X, cX6 cy adP (adL 0) P, cX3 cy adL q3.1, cX8 cy adS S, cX8 cy adTr q3.2.1, cX0 cy adC q3.2.2, cX10 cy adWa Wa]) (isC := [0, 1, 2, 3, 4, 5, 6]) (isR := []) hx hb hml hown hts (k_X11_tryToday l G cy ev N adX xT xR xIm (adWa 0) xWb xWo xZ xU xD xE xB X adP P adL L adS S adTr Tr adC C adWa Wa q3 h4) wm_42_22 wm_42_23 wm_43_0 wm_1_2 wm_43_1 hd_X11_tryToday ⟨by decide, by decide⟩ hK hP hD hS hA hE rfl rfl rfl (cov_of (n := 7) rfl (by decide)) (by decide) rfl (recvW (ci := 0) hK hP rfl cX11_o rfl) rfl rfl hl.1 (Nat.le_of_ble_eq_true rfl) dX11_late_18 (fun H locs hP hD hS => ?_)
    refine lv_aload_n hx hb dX11_late_21 rfl (lv_at hl 0 rfl) ?_
    refine go_11_47 (ci := 0) hx hb hts hown hK hE hP rfl dX11_late_22 ?_
    refine go_11_202 (ci := 4) hx hb hts hown hK hE hP rfl dX11_late_25 ?_
    refine lv_iload_n hx hb dX11_late_28 rfl (lv_at hl 1 rfl) ?_
    replace h := gin_inv h
    obtain ⟨h9, h⟩ := h
    refine ldWI (ci := 4) (k0 := 9) (g := q3.2.1.2.1 14) (j := a1.toNatClampNeg) hx hb hK hP rfl cX8_a14 rfl h9 rfl dX11_late_29 ?_
    exact retI (fr := fun q => q.1) (fw := fun q => wj [cX11 cy adX xT xR (adP 0) (adS 0) xIm (adTr 0) (adC 0) (adWa 0) xWb xWo xZ xU xD xE xB X, cX6 cy adP (adL 0) P, cX3 cy adL q.2.1, cX8 cy adS S, cX8 cy adTr q.2.2.1, cX0 cy adC q.2.2.2, cX10 cy adWa Wa]) h hx hb hr hlocks hK hP hD hS dX11_late_30
  · replace h := (br h).1 c9
    refine lv_iconst (v := (-1)) hx hb dX11_late_11 (by decide) ?_
    exact retI (fr := fun q => q.1) (fw := fun q => wj [cX11 cy adX xT xR (adP 0) (adS 0) xIm (adTr 0) (adC 0) (adWa 0) xWb xWo xZ xU xD xE xB X, cX6 cy adP (adL 0) P, cX3 cy adL q.2.1, cX8 cy adS S, cX8 cy adTr q.2.2.1, cX0 cy adC q.2.2.2, cX10 cy adWa Wa]) h hx hb hr hlocks hK hP hD hS dX11_late_12
theorem hds_X11_catchUp : yX11_catchUp.cls ≠ "java/lang/invoke/MethodHandle" ∧ yX11_catchUp.cls ≠ "java/lang/invoke/VarHandle" ∧ (parseMethodDescriptor yX11_catchUp.desc).map (fun d => d.parameters.length) = some 1 := ⟨by decide +kernel, by decide +kernel, by decide +kernel⟩
theorem hd_X11_catchUp : yX11_catchUp.cls = RX11 ∧ yX11_catchUp.cls ≠ "java/lang/invoke/MethodHandle" ∧ yX11_catchUp.cls ≠ "java/lang/invoke/VarHandle" ∧ (parseMethodDescriptor yX11_catchUp.desc).map (fun d => d.parameters.length) = some 1 := ⟨rfl, hds_X11_catchUp⟩
def f_X11_catchUp_s20 (N : Nat) (X : VV) (P : VV) (L : VV) (S : VV) (Tr : VV) (C : VV) (Wa : VV) (x1 : Int32) (x2 : Int32) : Option (((Int32 × VV × VV × VV) ⊕ (Int32 × VV × VV × VV))) :=
  if (3 : Int32) < x2 then inrO (some ((-2), L, Tr, C)) else bnd (f_X8_copy Tr S) (fun q2001 => gin (x1 - 1) 3 (bnd (f_X0_goThrough N C P L (sr q2001 3 ((x1 - 1).toNatClampNeg) x2) Wa) (fun q2003 => gin x1 3 (if q2003.2.2.2.1 14 x1.toNatClampNeg = 0 then inrO (some (x2, q2003.2.1, q2003.2.2, q2003.1)) else some (.inl (x2 + 1, q2003.2.1, q2003.2.2, q2003.1))))))
def f_X11_catchUp (N : Nat) (X : VV) (P : VV) (L : VV) (S : VV) (Tr : VV) (C : VV) (Wa : VV) (a1 : Int32) : Option (Int32 × VV × VV × VV) :=
  if a1 < 1 then some ((-1), L, Tr, C) else bnd (f_X6_hasSitting P a1) (fun q1 => if q1 = 0 then some ((-1), L, Tr, C) else itr (fun q : Int32 × VV × VV × VV => f_X11_catchUp_s20 N X P q.2.1 S q.2.2.1 q.2.2.2 Wa a1 q.1) N (0, L, Tr, C))
set_option maxHeartbeats 4000000 in
set_option maxRecDepth 100000 in
theorem k_X11_catchUp (l : Launch) (G : va_G) (cy : Nat → ClassId) (ev : Nat → Nat) (N : Nat) (adX : Nat → Nat) (xT : Nat) (xR : Nat) (xIm : Nat) (xWb : Nat) (xWo : Nat) (xZ : Nat) (xU : Nat) (xD : Nat) (xE : Nat) (xB : Nat) (X : VV) (adP : Nat → Nat) (P : VV) (adL : Nat → Nat) (L : VV) (adS : Nat → Nat) (S : VV) (adTr : Nat → Nat) (Tr : VV) (adC : Nat → Nat) (C : VV) (adWa : Nat → Nat) (Wa : VV) (a1 : Int32) (res : Int32 × VV × VV × VV) (h : f_X11_catchUp N X P L S Tr C Wa a1 = some res) : MetI l yX11_catchUp cX11_catchUp 3 (some .int) 6 166 G cy ev [.ref (adX 0), .int a1] (wj [cX11 cy adX xT xR (adP 0) (adS 0) xIm (adTr 0) (adC 0) (adWa 0) xWb xWo xZ xU xD xE xB X, cX6 cy adP (adL 0) P, cX3 cy adL L, cX8 cy adS S, cX8 cy adTr Tr, cX0 cy adC C, cX10 cy adWa Wa]) res.1 (wj [cX11 cy adX xT xR (adP 0) (adS 0) xIm (adTr 0) (adC 0) (adWa 0) xWb xWo xZ xU xD xE xB X, cX6 cy adP (adL 0) P, cX3 cy adL res.2.1, cX8 cy adS S, cX8 cy adTr res.2.2.1, cX0 cy adC res.2.2.2, cX10 cy adWa Wa]) := by
  refine MetQ.start (by decide +kernel) (Nat.le_of_ble_eq_true rfl) (fun p e s m args below meth c A ls hx hb hr hml hown hts hlocks hK hP hD hA hl hE => ?_)
  have hS : va_S A s.heap s.heap [] := va_S.rf
  have hown : s.vm.findClass RX11 = some m.cls := hown
  have hl : lv_has ls 3 [(0, .ref (adX 0)), (1, .int a1)] := hl
  have L20 : ∀ (x1 : Int32) (n : Nat) (x2 : Int32) (L : VV) (Tr : VV) (C : VV) (H : Heap) (locs : List Loc) (ls : Array Slot), itr (fun q : Int32 × VV × VV × VV => f_X11_catchUp_s20 N X P q.2.1 S q.2.2.1 q.2.2.2 Wa x1 q.1) n (x2, L, Tr, C) = some res → va_P G vwCl (wj [cX11 cy adX xT xR (adP 0) (adS 0) xIm (adTr 0) (adC 0) (adWa 0) xWb xWo xZ xU xD xE xB X, cX6 cy adP (adL 0) P, cX3 cy adL L, cX8 cy adS S, cX8 cy adTr Tr, cX0 cy adC C, cX10 cy adWa Wa]) H → va_D A (wj [cX11 cy adX xT xR (adP 0) (adS 0) xIm (adTr 0) (adC 0) (adWa 0) xWb xWo xZ xU xD xE xB X, cX6 cy adP (adL 0) P, cX3 cy adL L, cX8 cy adS S, cX8 cy adTr Tr, cX0 cy adC C, cX10 cy adWa Wa]) → va_S A s.heap H locs → lv_has ls 3 [(0, .ref (adX 0)), (1, .int x1), (2, .int x2)] → W p l e (rmX 6 166) s m args below meth c H locs 0 0 (MQ below (mQi (res.1) G cy A (wj [cX11 cy adX xT xR (adP 0) (adS 0) xIm (adTr 0) (adC 0) (adWa 0) xWb xWo xZ xU xD xE xB X, cX6 cy adP (adL 0) P, cX3 cy adL res.2.1, cX8 cy adS S, cX8 cy adTr res.2.2.1, cX0 cy adC res.2.2.2, cX10 cy adWa Wa])) args s 0 0 A) (F0 m 20 ls []) := by
    intro x1 n
    induction n with
    | zero => intro x2 L Tr C H locs ls h; exact (itr_zero h).elim
    | succ n ih1 =>
      intro x2 L Tr C H locs ls h hP hD hS hl
      obtain ⟨y1, h, hy1⟩ := itr_inv h
      have h : f_X11_catchUp_s20 N X P L S Tr C Wa x1 x2 = some y1 := h
      delta f_X11_catchUp_s20 at h
      refine lv_iload_n hx hb dX11_catchUp_20 rfl (lv_at hl 2 rfl) ?_
      refine lv_iconst (v := 3) hx hb dX11_catchUp_21 (by decide) ?_
      refine lv_icmp_gt (tgt := 87) hx hb dX11_catchUp_22 (by decide) (fun c9 => ?_) (fun c9 => ?_)
      · replace h := (br h).1 c9
        replace h := itr_exit h hy1
        refine lv_bipush (v := (-2)) hx hb dX11_catchUp_87 (by decide) ?_
        exact retI (fr := fun q => q.1) (fw := fun q => wj [cX11 cy adX xT xR (adP 0) (adS 0) xIm (adTr 0) (adC 0) (adWa 0) xWb xWo xZ xU xD xE xB X, cX6 cy adP (adL 0) P, cX3 cy adL q.2.1, cX8 cy adS S, cX8 cy adTr q.2.2.1, cX0 cy adC q.2.2.2, cX10 cy adWa Wa]) h hx hb hr hlocks hK hP hD hS dX11_catchUp_89
      · replace h := (br h).2 c9
        refine lv_aload_n hx hb dX11_catchUp_25 rfl (lv_at hl 0 rfl) ?_
        refine go_11_47 (ci := 0) hx hb hts hown hK hE hP rfl dX11_catchUp_26 ?_
        refine lv_aload_n hx hb dX11_catchUp_29 rfl (lv_at hl 0 rfl) ?_
        refine go_11_36 (ci := 0) hx hb hts hown hK hE hP rfl dX11_catchUp_30 ?_
        replace h := bd h
        obtain ⟨q2001, h2002, h⟩ := h
        refine callWVv (As := [.ref (adS 0)]) (rest := []) (cs' := [cX11 cy adX xT xR (adP 0) (adS 0) xIm (adTr 0) (adC 0) (adWa 0) xWb xWo xZ xU xD xE xB X, cX6 cy adP (adL 0) P, cX3 cy adL L, cX8 cy adS S, cX8 cy adTr q2001, cX0 cy adC C, cX10 cy adWa Wa]) (isC := [4, 3]) (isR := [0, 1, 2, 5, 6]) hx hb hml hown hts (k_X8_copy l G cy ev adTr Tr adS S q2001 h2002) wm_43_2 wm_43_3 wm_43_4 wm_2_2 wm_43_5 hd_X8_copy ⟨by decide, by decide⟩ hK hP hD hS hA hE rfl rfl rfl (cov_of (n := 7) rfl (by decide)) (by decide) rfl (recvW (ci := 4) hK hP rfl cX8_o rfl) rfl rfl hl.1 (Nat.le_of_ble_eq_true rfl) dX11_catchUp_33 (fun H locs hP hD hS => ?_)
        refine lv_aload_n hx hb dX11_catchUp_36 rfl (lv_at hl 0 rfl) ?_
        refine go_11_47 (ci := 0) hx hb hts hown hK hE hP rfl dX11_catchUp_37 ?_
        refine go_11_186 (ci := 4) hx hb hts hown hK hE hP rfl dX11_catchUp_40 ?_
        refine lv_iload_n hx hb dX11_catchUp_43 rfl (lv_at hl 1 rfl) ?_
        refine lv_iconst (v := 1) hx hb dX11_catchUp_44 (by decide) ?_
        refine lv_isub hx hb dX11_catchUp_45 ?_
        refine lv_iload_n hx hb dX11_catchUp_46 rfl (lv_at hl 2 rfl) ?_
        replace h := gin_inv h
        obtain ⟨h9, h⟩ := h
        refine stWI (ci := 4) (k0 := 2) (j := (x1 - 1).toNatClampNeg) (cs' := [cX11 cy adX xT xR (adP 0) (adS 0) xIm (adTr 0) (adC 0) (adWa 0) xWb xWo xZ xU xD xE xB X, cX6 cy adP (adL 0) P, cX3 cy adL L, cX8 cy adS S, cX8 cy adTr (sr q2001 3 ((x1 - 1).toNatClampNeg) x2), cX0 cy adC C, cX10 cy adWa Wa]) hx hb hK hP hD hS rfl cX8_a3 h9 rfl cX8_s3 rfl dX11_catchUp_47 (fun H locs hP hD hS => ?_)
        refine lv_aload_n hx hb dX11_catchUp_48 rfl (lv_at hl 0 rfl) ?_
        refine go_11_53 (ci := 0) hx hb hts hown hK hE hP rfl dX11_catchUp_49 ?_
        refine lv_aload_n hx hb dX11_catchUp_52 rfl (lv_at hl 0 rfl) ?_
        refine go_11_29 (ci := 0) hx hb hts hown hK hE hP rfl dX11_catchUp_53 ?_
        refine lv_aload_n hx hb dX11_catchUp_56 rfl (lv_at hl 0 rfl) ?_
        refine go_11_47 (ci := 0) hx hb hts hown hK hE hP rfl dX11_catchUp_57 ?_
        refine lv_aload_n hx hb dX11_catchUp_60 rfl (lv_at hl 0 rfl) ?_
        refine go_11_60 (ci := 0) hx hb hts hown hK hE hP rfl dX11_catchUp_61 ?_
        replace h := bd h
        obtain ⟨q2003, h2004, h⟩ := h
        refine callWVv (As := [.ref (adP 0), .ref (adTr 0), .ref (adWa 0)]) (rest := []) (cs' := [cX11 cy adX xT xR (adP 0) (adS 0) xIm (adTr 0) (adC 0) (adWa 0) xWb xWo xZ xU xD xE xB X, cX6 cy adP (adL 0) P, cX3 cy adL q2003.2.1, cX8 cy adS S, cX8 cy adTr q2003.2.2, cX0 cy adC q2003.1, cX10 cy adWa Wa]) (isC := [5, 1, 2, 4, 6]) (isR := [0, 3]) hx hb hml hown hts (k_X0_goThrough l G cy ev N adC C adP P adL L adTr (sr q2001 3 ((x1 - 1).toNatClampNeg) x2) adWa Wa q2003 h2004) wm_33_14 wm_33_15 wm_33_16 wm_2_9 wm_33_17 hd_X0_goThrough ⟨by decide, by decide⟩ hK hP hD hS hA hE rfl rfl rfl (cov_of (n := 7) rfl (by decide)) (by decide) rfl (recvW (ci := 5) hK hP rfl cX0_o rfl) rfl rfl hl.1 (Nat.le_of_ble_eq_true rfl) dX11_catchUp_64 (fun H locs hP hD hS => ?_)
        refine lv_aload_n hx hb dX11_catchUp_67 rfl (lv_at hl 0 rfl) ?_
        refine go_11_47 (ci := 0) hx hb hts hown hK hE hP rfl dX11_catchUp_68 ?_
        refine go_11_202 (ci := 4) hx hb hts hown hK hE hP rfl dX11_catchUp_71 ?_
        refine lv_iload_n hx hb dX11_catchUp_74 rfl (lv_at hl 1 rfl) ?_
        replace h := gin_inv h
        obtain ⟨h9, h⟩ := h
        refine ldWI (ci := 4) (k0 := 9) (g := q2003.2.2.2.1 14) (j := x1.toNatClampNeg) hx hb hK hP rfl cX8_a14 rfl h9 rfl dX11_catchUp_75 ?_
        refine lv_if_ne (tgt := 81) hx hb dX11_catchUp_76 (by decide) (fun c9 => ?_) (fun c9 => ?_)
        · replace h := (br h).2 c9
          refine lv_iinc (v := x2 + 1) (lv' := [(2, .int (x2 + 1)), (0, .ref (adX 0)), (1, .int x1)]) hx hb dX11_catchUp_81 hl (k := 2) rfl rfl (by decide) rfl (fun ls hl => ?_)
          refine lv_goto (tgt := 20) hx hb dX11_catchUp_84 (by decide) ?_
          replace h := itr_back h hy1
          exact ih1 (x2 + 1) q2003.2.1 q2003.2.2 q2003.1 _ _ _ h hP hD hS (lv_sub hl [1, 2, 0] rfl)
        · replace h := (br h).1 c9
          replace h := itr_exit h hy1
          refine lv_iload_n hx hb dX11_catchUp_79 rfl (lv_at hl 2 rfl) ?_
          exact retI (fr := fun q => q.1) (fw := fun q => wj [cX11 cy adX xT xR (adP 0) (adS 0) xIm (adTr 0) (adC 0) (adWa 0) xWb xWo xZ xU xD xE xB X, cX6 cy adP (adL 0) P, cX3 cy adL q.2.1, cX8 cy adS S, cX8 cy adTr q.2.2.1, cX0 cy adC q.2.2.2, cX10 cy adWa Wa]) h hx hb hr hlocks hK hP hD hS dX11_catchUp_80
  delta f_X11_catchUp at h
  refine lv_iload_n hx hb dX11_catchUp_0 rfl (lv_at hl 1 rfl) ?_
  refine lv_iconst (v := 1) hx hb dX11_catchUp_1 (by decide) ?_
  refine lv_icmp_lt (tgt := 16) hx hb dX11_catchUp_2 (by decide) (fun c9 => ?_) (fun c9 => ?_)
  · replace h := (br h).1 c9
    refine lv_iconst (v := (-1)) hx hb dX11_catchUp_16 (by decide) ?_
    exact retI (fr := fun q => q.1) (fw := fun q => wj [cX11 cy adX xT xR (adP 0) (adS 0) xIm (adTr 0) (adC 0) (adWa 0) xWb xWo xZ xU xD xE xB X, cX6 cy adP (adL 0) P, cX3 cy adL q.2.1, cX8 cy adS S, cX8 cy adTr q.2.2.1, cX0 cy adC q.2.2.2, cX10 cy adWa Wa]) h hx hb hr hlocks hK hP hD hS dX11_catchUp_17
  · replace h := (br h).2 c9
    refine lv_aload_n hx hb dX11_catchUp_5 rfl (lv_at hl 0 rfl) ?_
    refine go_11_29 (ci := 0) hx hb hts hown hK hE hP rfl dX11_catchUp_6 ?_
    refine lv_iload_n hx hb dX11_catchUp_9 rfl (lv_at hl 1 rfl) ?_
    replace h := bd h
    obtain ⟨q1, h2, h⟩ := h
    refine callWVi (As := [.int a1]) (rest := []) (cs' := [cX11 cy adX xT xR (adP 0) (adS 0) xIm (adTr 0) (adC 0) (adWa 0) xWb xWo xZ xU xD xE xB X, cX6 cy adP (adL 0) P, cX3 cy adL L, cX8 cy adS S, cX8 cy adTr Tr, cX0 cy adC C, cX10 cy adWa Wa]) (isC := [1]) (isR := [0, 2, 3, 4, 5, 6]) hx hb hml hown hts (k_X6_hasSitting l G cy ev adP (adL 0) P a1 q1 h2) wm_27_19 wm_27_20 wm_27_21 wm_1_22 wm_27_22 hd_X6_hasSitting ⟨by decide, by decide⟩ hK hP hD hS hA hE rfl rfl rfl (cov_of (n := 7) rfl (by decide)) (by decide) rfl (recvW (ci := 1) hK hP rfl cX6_o rfl) rfl rfl hl.1 (Nat.le_of_ble_eq_true rfl) dX11_catchUp_10 (fun H locs hP hD hS => ?_)
    refine lv_if_ne (tgt := 18) hx hb dX11_catchUp_13 (by decide) (fun c9 => ?_) (fun c9 => ?_)
    · replace h := (br h).2 c9
      refine lv_iconst (v := 0) hx hb dX11_catchUp_18 (by decide) ?_
      refine lv_istore_n (lv' := [(2, .int 0), (0, .ref (adX 0)), (1, .int a1)]) hx hb dX11_catchUp_19 rfl hl (by decide) rfl (fun ls hl => ?_)
      exact L20 a1 N 0 L Tr C _ _ _ h hP hD hS (lv_sub hl [1, 2, 0] rfl)
    · replace h := (br h).1 c9
      refine lv_iconst (v := (-1)) hx hb dX11_catchUp_16 (by decide) ?_
      exact retI (fr := fun q => q.1) (fw := fun q => wj [cX11 cy adX xT xR (adP 0) (adS 0) xIm (adTr 0) (adC 0) (adWa 0) xWb xWo xZ xU xD xE xB X, cX6 cy adP (adL 0) P, cX3 cy adL q.2.1, cX8 cy adS S, cX8 cy adTr q.2.2.1, cX0 cy adC q.2.2.2, cX10 cy adWa Wa]) h hx hb hr hlocks hK hP hD hS dX11_catchUp_17
theorem hds_X11_hands : yX11_hands.cls ≠ "java/lang/invoke/MethodHandle" ∧ yX11_hands.cls ≠ "java/lang/invoke/VarHandle" ∧ (parseMethodDescriptor yX11_hands.desc).map (fun d => d.parameters.length) = some 0 := ⟨by decide +kernel, by decide +kernel, by decide +kernel⟩
theorem hd_X11_hands : yX11_hands.cls = RX11 ∧ yX11_hands.cls ≠ "java/lang/invoke/MethodHandle" ∧ yX11_hands.cls ≠ "java/lang/invoke/VarHandle" ∧ (parseMethodDescriptor yX11_hands.desc).map (fun d => d.parameters.length) = some 0 := ⟨rfl, hds_X11_hands⟩
def f_X11_hands_s2 (N : Nat) (X : VV) (P : VV) (L : VV) (S : VV) (Tr : VV) (C : VV) (Wo : VV) (x1 : Int32) : Option (((Int32 × VV × VV × VV × VV) ⊕ (Int32 × VV × VV × VV × VV))) :=
  if (9 : Int32) < x1 then inrO (some ((-2), L, Tr, C, Wo)) else bnd (f_X10_reset N Wo) (fun q201 => bnd (f_X11_tryToday N X P L S Tr C (si q201 6 x1)) (fun q203 => bnd (f_X8_isAnyLate N q203.2.1 (P.1 3)) (fun q205 => if q205 = 0 then inrO (some (x1, q203.1, q203.2.1, q203.2.2, si q201 6 x1)) else some (.inl (x1 + 1, q203.1, q203.2.1, q203.2.2, si q201 6 x1)))))
def f_X11_hands (N : Nat) (X : VV) (P : VV) (L : VV) (S : VV) (Tr : VV) (C : VV) (Wo : VV) : Option (Int32 × VV × VV × VV × VV) :=
  itr (fun q : Int32 × VV × VV × VV × VV => f_X11_hands_s2 N X P q.2.1 S q.2.2.1 q.2.2.2.1 q.2.2.2.2 q.1) N (1, L, Tr, C, Wo)
set_option maxHeartbeats 4000000 in
set_option maxRecDepth 100000 in
theorem k_X11_hands (l : Launch) (G : va_G) (cy : Nat → ClassId) (ev : Nat → Nat) (N : Nat) (adX : Nat → Nat) (xT : Nat) (xR : Nat) (xIm : Nat) (xWa : Nat) (xWb : Nat) (xZ : Nat) (xU : Nat) (xD : Nat) (xE : Nat) (xB : Nat) (X : VV) (adP : Nat → Nat) (P : VV) (adL : Nat → Nat) (L : VV) (adS : Nat → Nat) (S : VV) (adTr : Nat → Nat) (Tr : VV) (adC : Nat → Nat) (C : VV) (adWo : Nat → Nat) (Wo : VV)  (res : Int32 × VV × VV × VV × VV) (h : f_X11_hands N X P L S Tr C Wo = some res) : MetI l yX11_hands cX11_hands 2 (some .int) 7 187 G cy ev [.ref (adX 0)] (wj [cX11 cy adX xT xR (adP 0) (adS 0) xIm (adTr 0) (adC 0) xWa xWb (adWo 0) xZ xU xD xE xB X, cX6 cy adP (adL 0) P, cX3 cy adL L, cX8 cy adS S, cX8 cy adTr Tr, cX0 cy adC C, cX10 cy adWo Wo]) res.1 (wj [cX11 cy adX xT xR (adP 0) (adS 0) xIm (adTr 0) (adC 0) xWa xWb (adWo 0) xZ xU xD xE xB X, cX6 cy adP (adL 0) P, cX3 cy adL res.2.1, cX8 cy adS S, cX8 cy adTr res.2.2.1, cX0 cy adC res.2.2.2.1, cX10 cy adWo res.2.2.2.2]) := by
  refine MetQ.start (by decide +kernel) (Nat.le_of_ble_eq_true rfl) (fun p e s m args below meth c A ls hx hb hr hml hown hts hlocks hK hP hD hA hl hE => ?_)
  have hS : va_S A s.heap s.heap [] := va_S.rf
  have hown : s.vm.findClass RX11 = some m.cls := hown
  have hl : lv_has ls 2 [(0, .ref (adX 0))] := hl
  have L2 : ∀ (n : Nat) (x1 : Int32) (L : VV) (Tr : VV) (C : VV) (Wo : VV) (H : Heap) (locs : List Loc) (ls : Array Slot), itr (fun q : Int32 × VV × VV × VV × VV => f_X11_hands_s2 N X P q.2.1 S q.2.2.1 q.2.2.2.1 q.2.2.2.2 q.1) n (x1, L, Tr, C, Wo) = some res → va_P G vwCl (wj [cX11 cy adX xT xR (adP 0) (adS 0) xIm (adTr 0) (adC 0) xWa xWb (adWo 0) xZ xU xD xE xB X, cX6 cy adP (adL 0) P, cX3 cy adL L, cX8 cy adS S, cX8 cy adTr Tr, cX0 cy adC C, cX10 cy adWo Wo]) H → va_D A (wj [cX11 cy adX xT xR (adP 0) (adS 0) xIm (adTr 0) (adC 0) xWa xWb (adWo 0) xZ xU xD xE xB X, cX6 cy adP (adL 0) P, cX3 cy adL L, cX8 cy adS S, cX8 cy adTr Tr, cX0 cy adC C, cX10 cy adWo Wo]) → va_S A s.heap H locs → lv_has ls 2 [(0, .ref (adX 0)), (1, .int x1)] → W p l e (rmX 7 187) s m args below meth c H locs 0 0 (MQ below (mQi (res.1) G cy A (wj [cX11 cy adX xT xR (adP 0) (adS 0) xIm (adTr 0) (adC 0) xWa xWb (adWo 0) xZ xU xD xE xB X, cX6 cy adP (adL 0) P, cX3 cy adL res.2.1, cX8 cy adS S, cX8 cy adTr res.2.2.1, cX0 cy adC res.2.2.2.1, cX10 cy adWo res.2.2.2.2])) args s 0 0 A) (F0 m 2 ls []) := by
    intro n
    induction n with
    | zero => intro x1 L Tr C Wo H locs ls h; exact (itr_zero h).elim
    | succ n ih1 =>
      intro x1 L Tr C Wo H locs ls h hP hD hS hl
      obtain ⟨y1, h, hy1⟩ := itr_inv h
      have h : f_X11_hands_s2 N X P L S Tr C Wo x1 = some y1 := h
      delta f_X11_hands_s2 at h
      refine lv_iload_n hx hb dX11_hands_2 rfl (lv_at hl 1 rfl) ?_
      refine lv_bipush (v := 9) hx hb dX11_hands_3 (by decide) ?_
      refine lv_icmp_gt (tgt := 56) hx hb dX11_hands_5 (by decide) (fun c9 => ?_) (fun c9 => ?_)
      · replace h := (br h).1 c9
        replace h := itr_exit h hy1
        refine lv_bipush (v := (-2)) hx hb dX11_hands_56 (by decide) ?_
        exact retI (fr := fun q => q.1) (fw := fun q => wj [cX11 cy adX xT xR (adP 0) (adS 0) xIm (adTr 0) (adC 0) xWa xWb (adWo 0) xZ xU xD xE xB X, cX6 cy adP (adL 0) P, cX3 cy adL q.2.1, cX8 cy adS S, cX8 cy adTr q.2.2.1, cX0 cy adC q.2.2.2.1, cX10 cy adWo q.2.2.2.2]) h hx hb hr hlocks hK hP hD hS dX11_hands_58
      · replace h := (br h).2 c9
        refine lv_aload_n hx hb dX11_hands_8 rfl (lv_at hl 0 rfl) ?_
        refine go_11_67 (ci := 0) hx hb hts hown hK hE hP rfl dX11_hands_9 ?_
        replace h := bd h
        obtain ⟨q201, h202, h⟩ := h
        refine callWVv (As := []) (rest := []) (cs' := [cX11 cy adX xT xR (adP 0) (adS 0) xIm (adTr 0) (adC 0) xWa xWb (adWo 0) xZ xU xD xE xB X, cX6 cy adP (adL 0) P, cX3 cy adL L, cX8 cy adS S, cX8 cy adTr Tr, cX0 cy adC C, cX10 cy adWo q201]) (isC := [6]) (isR := [0, 1, 2, 3, 4, 5]) hx hb hml hown hts (k_X10_reset l G cy ev N adWo Wo q201 h202) wm_44_7 wm_44_8 wm_44_9 wm_2_13 wm_44_10 hd_X10_reset ⟨by decide, by decide⟩ hK hP hD hS hA hE rfl rfl rfl (cov_of (n := 7) rfl (by decide)) (by decide) rfl (recvW (ci := 6) hK hP rfl cX10_o rfl) rfl rfl hl.1 (Nat.le_of_ble_eq_true rfl) dX11_hands_12 (fun H locs hP hD hS => ?_)
        refine lv_aload_n hx hb dX11_hands_15 rfl (lv_at hl 0 rfl) ?_
        refine go_11_67 (ci := 0) hx hb hts hown hK hE hP rfl dX11_hands_16 ?_
        refine lv_iload_n hx hb dX11_hands_19 rfl (lv_at hl 1 rfl) ?_
        refine po_11_315 (ci := 6) (cs' := [cX11 cy adX xT xR (adP 0) (adS 0) xIm (adTr 0) (adC 0) xWa xWb (adWo 0) xZ xU xD xE xB X, cX6 cy adP (adL 0) P, cX3 cy adL L, cX8 cy adS S, cX8 cy adTr Tr, cX0 cy adC C, cX10 cy adWo (si q201 6 x1)]) hx hb hts hown hK hE hP hD hS rfl rfl dX11_hands_20 (fun H locs hP hD hS => ?_)
        refine lv_aload_n hx hb dX11_hands_23 rfl (lv_at hl 0 rfl) ?_
        refine lv_aload_n hx hb dX11_hands_24 rfl (lv_at hl 0 rfl) ?_
        refine go_11_67 (ci := 0) hx hb hts hown hK hE hP rfl dX11_hands_25 ?_
        replace h := bd h
        obtain ⟨q203, h204, h⟩ := h
        refine callWVv (As := [.ref (adWo 0)]) (rest := []) (cs' := [cX11 cy adX xT xR (adP 0) (adS 0) xIm (adTr 0) (adC 0) xWa xWb (adWo 0) xZ xU xD xE xB X, cX6 cy adP (adL 0) P, cX3 cy adL q203.1, cX8 cy adS S, cX8 cy adTr q203.2.1, cX0 cy adC q203.2.2, cX10 cy adWo (si q201 6 x1)]) (isC := [0, 1, 2, 3, 4, 5, 6]) (isR := []) hx hb hml hown hts (k_X11_tryToday l G cy ev N adX xT xR xIm xWa xWb (adWo 0) xZ xU xD xE xB X adP P adL L adS S adTr Tr adC C adWo (si q201 6 x1) q203 h204) wm_42_22 wm_42_23 wm_43_0 wm_1_2 wm_43_1 hd_X11_tryToday ⟨by decide, by decide⟩ hK hP hD hS hA hE rfl rfl rfl (cov_of (n := 7) rfl (by decide)) (by decide) rfl (recvW (ci := 0) hK hP rfl cX11_o rfl) rfl rfl hl.1 (Nat.le_of_ble_eq_true rfl) dX11_hands_28 (fun H locs hP hD hS => ?_)
        refine lv_aload_n hx hb dX11_hands_31 rfl (lv_at hl 0 rfl) ?_
        refine go_11_47 (ci := 0) hx hb hts hown hK hE hP rfl dX11_hands_32 ?_
        refine lv_aload_n hx hb dX11_hands_35 rfl (lv_at hl 0 rfl) ?_
        refine go_11_29 (ci := 0) hx hb hts hown hK hE hP rfl dX11_hands_36 ?_
        refine go_11_261 (ci := 1) (x := P.1 3) hx hb hts hown hK hE hP rfl rfl dX11_hands_39 ?_
        replace h := bd h
        obtain ⟨q205, h206, h⟩ := h
        refine callWVi (As := [.int (P.1 3)]) (rest := []) (cs' := [cX11 cy adX xT xR (adP 0) (adS 0) xIm (adTr 0) (adC 0) xWa xWb (adWo 0) xZ xU xD xE xB X, cX6 cy adP (adL 0) P, cX3 cy adL q203.1, cX8 cy adS S, cX8 cy adTr q203.2.1, cX0 cy adC q203.2.2, cX10 cy adWo (si q201 6 x1)]) (isC := [4]) (isR := [0, 1, 2, 3, 5, 6]) hx hb hml hown hts (k_X8_isAnyLate l G cy ev N adTr q203.2.1 (P.1 3) q205 h206) wm_44_11 wm_44_12 wm_44_13 wm_2_2 wm_44_14 hd_X8_isAnyLate ⟨by decide, by decide⟩ hK hP hD hS hA hE rfl rfl rfl (cov_of (n := 7) rfl (by decide)) (by decide) rfl (recvW (ci := 4) hK hP rfl cX8_o rfl) rfl rfl hl.1 (Nat.le_of_ble_eq_true rfl) dX11_hands_42 (fun H locs hP hD hS => ?_)
        refine lv_if_ne (tgt := 50) hx hb dX11_hands_45 (by decide) (fun c9 => ?_) (fun c9 => ?_)
        · replace h := (br h).2 c9
          refine lv_iinc (v := x1 + 1) (lv' := [(1, .int (x1 + 1)), (0, .ref (adX 0))]) hx hb dX11_hands_50 hl (k := 1) rfl rfl (by decide) rfl (fun ls hl => ?_)
          refine lv_goto (tgt := 2) hx hb dX11_hands_53 (by decide) ?_
          replace h := itr_back h hy1
          exact ih1 (x1 + 1) q203.1 q203.2.1 q203.2.2 (si q201 6 x1) _ _ _ h hP hD hS (lv_sub hl [1, 0] rfl)
        · replace h := (br h).1 c9
          replace h := itr_exit h hy1
          refine lv_iload_n hx hb dX11_hands_48 rfl (lv_at hl 1 rfl) ?_
          exact retI (fr := fun q => q.1) (fw := fun q => wj [cX11 cy adX xT xR (adP 0) (adS 0) xIm (adTr 0) (adC 0) xWa xWb (adWo 0) xZ xU xD xE xB X, cX6 cy adP (adL 0) P, cX3 cy adL q.2.1, cX8 cy adS S, cX8 cy adTr q.2.2.1, cX0 cy adC q.2.2.2.1, cX10 cy adWo q.2.2.2.2]) h hx hb hr hlocks hK hP hD hS dX11_hands_49
  delta f_X11_hands at h
  refine lv_iconst (v := 1) hx hb dX11_hands_0 (by decide) ?_
  refine lv_istore_n (lv' := [(1, .int 1), (0, .ref (adX 0))]) hx hb dX11_hands_1 rfl hl (by decide) rfl (fun ls hl => ?_)
  exact L2  N 1 L Tr C Wo _ _ _ h hP hD hS (lv_sub hl [1, 0] rfl)
theorem hds_X11_empties : yX11_empties.cls ≠ "java/lang/invoke/MethodHandle" ∧ yX11_empties.cls ≠ "java/lang/invoke/VarHandle" ∧ (parseMethodDescriptor yX11_empties.desc).map (fun d => d.parameters.length) = some 1 := ⟨by decide +kernel, by decide +kernel, by decide +kernel⟩
theorem hd_X11_empties : yX11_empties.cls = RX11 ∧ yX11_empties.cls ≠ "java/lang/invoke/MethodHandle" ∧ yX11_empties.cls ≠ "java/lang/invoke/VarHandle" ∧ (parseMethodDescriptor yX11_empties.desc).map (fun d => d.parameters.length) = some 1 := ⟨rfl, hds_X11_empties⟩
def f_X11_empties (N : Nat) (X : VV) (P : VV) (L : VV) (S : VV) (Tr : VV) (C : VV) (Wa : VV) (a1 : Int32) : Option (Int32 × VV × VV × VV) :=
  bnd (f_X6_hasSitting P a1) (fun q1 => if q1 = 0 then some ((-1), L, Tr, C) else bnd (f_X11_tryToday N X P L S Tr C Wa) (fun q3 => gin a1 3 (some ((P.2.1 6 0) - (q3.2.1.2.1 15 a1.toNatClampNeg), q3.1, q3.2.1, q3.2.2))))
set_option maxHeartbeats 4000000 in
set_option maxRecDepth 100000 in
theorem k_X11_empties (l : Launch) (G : va_G) (cy : Nat → ClassId) (ev : Nat → Nat) (N : Nat) (adX : Nat → Nat) (xT : Nat) (xR : Nat) (xIm : Nat) (xWb : Nat) (xWo : Nat) (xZ : Nat) (xU : Nat) (xD : Nat) (xE : Nat) (xB : Nat) (X : VV) (adP : Nat → Nat) (P : VV) (adL : Nat → Nat) (L : VV) (adS : Nat → Nat) (S : VV) (adTr : Nat → Nat) (Tr : VV) (adC : Nat → Nat) (C : VV) (adWa : Nat → Nat) (Wa : VV) (a1 : Int32) (res : Int32 × VV × VV × VV) (h : f_X11_empties N X P L S Tr C Wa a1 = some res) : MetI l yX11_empties cX11_empties 2 (some .int) 7 187 G cy ev [.ref (adX 0), .int a1] (wj [cX11 cy adX xT xR (adP 0) (adS 0) xIm (adTr 0) (adC 0) (adWa 0) xWb xWo xZ xU xD xE xB X, cX6 cy adP (adL 0) P, cX3 cy adL L, cX8 cy adS S, cX8 cy adTr Tr, cX0 cy adC C, cX10 cy adWa Wa]) res.1 (wj [cX11 cy adX xT xR (adP 0) (adS 0) xIm (adTr 0) (adC 0) (adWa 0) xWb xWo xZ xU xD xE xB X, cX6 cy adP (adL 0) P, cX3 cy adL res.2.1, cX8 cy adS S, cX8 cy adTr res.2.2.1, cX0 cy adC res.2.2.2, cX10 cy adWa Wa]) := by
  refine MetQ.start (by decide +kernel) (Nat.le_of_ble_eq_true rfl) (fun p e s m args below meth c A ls hx hb hr hml hown hts hlocks hK hP hD hA hl hE => ?_)
  have hS : va_S A s.heap s.heap [] := va_S.rf
  have hown : s.vm.findClass RX11 = some m.cls := hown
  have hl : lv_has ls 2 [(0, .ref (adX 0)), (1, .int a1)] := hl
  delta f_X11_empties at h
  refine lv_aload_n hx hb dX11_empties_0 rfl (lv_at hl 0 rfl) ?_
  refine go_11_29 (ci := 0) hx hb hts hown hK hE hP rfl dX11_empties_1 ?_
  refine lv_iload_n hx hb dX11_empties_4 rfl (lv_at hl 1 rfl) ?_
  replace h := bd h
  obtain ⟨q1, h2, h⟩ := h
  refine callWVi (As := [.int a1]) (rest := []) (cs' := [cX11 cy adX xT xR (adP 0) (adS 0) xIm (adTr 0) (adC 0) (adWa 0) xWb xWo xZ xU xD xE xB X, cX6 cy adP (adL 0) P, cX3 cy adL L, cX8 cy adS S, cX8 cy adTr Tr, cX0 cy adC C, cX10 cy adWa Wa]) (isC := [1]) (isR := [0, 2, 3, 4, 5, 6]) hx hb hml hown hts (k_X6_hasSitting l G cy ev adP (adL 0) P a1 q1 h2) wm_27_19 wm_27_20 wm_27_21 wm_1_22 wm_27_22 hd_X6_hasSitting ⟨by decide, by decide⟩ hK hP hD hS hA hE rfl rfl rfl (cov_of (n := 7) rfl (by decide)) (by decide) rfl (recvW (ci := 1) hK hP rfl cX6_o rfl) rfl rfl hl.1 (Nat.le_of_ble_eq_true rfl) dX11_empties_5 (fun H locs hP hD hS => ?_)
  refine lv_if_ne (tgt := 13) hx hb dX11_empties_8 (by decide) (fun c9 => ?_) (fun c9 => ?_)
  · replace h := (br h).2 c9
    refine lv_aload_n hx hb dX11_empties_13 rfl (lv_at hl 0 rfl) ?_
    refine lv_aload_n hx hb dX11_empties_14 rfl (lv_at hl 0 rfl) ?_
    refine go_11_60 (ci := 0) hx hb hts hown hK hE hP rfl dX11_empties_15 ?_
    replace h := bd h
    obtain ⟨q3, h4, h⟩ := h
    refine callWVv (As := [.ref (adWa 0)]) (rest := []) (cs' := [cX11 cy adX xT xR (adP 0) (adS 0) xIm (adTr 0) (adC 0) (adWa 0) xWb xWo xZ xU xD xE xB X, cX6 cy adP (adL 0) P, cX3 cy adL q3.1, cX8 cy adS S, cX8 cy adTr q3.2.1, cX0 cy adC q3.2.2, cX10 cy adWa Wa]) (isC := [0, 1, 2, 3, 4, 5, 6]) (isR := []) hx hb hml hown hts (k_X11_tryToday l G cy ev N adX xT xR xIm (adWa 0) xWb xWo xZ xU xD xE xB X adP P adL L adS S adTr Tr adC C adWa Wa q3 h4) wm_42_22 wm_42_23 wm_43_0 wm_1_2 wm_43_1 hd_X11_tryToday ⟨by decide, by decide⟩ hK hP hD hS hA hE rfl rfl rfl (cov_of (n := 7) rfl (by decide)) (by decide) rfl (recvW (ci := 0) hK hP rfl cX11_o rfl) rfl rfl hl.1 (Nat.le_of_ble_eq_true rfl) dX11_empties_18 (fun H locs hP hD hS => ?_)
    refine lv_aload_n hx hb dX11_empties_21 rfl (lv_at hl 0 rfl) ?_
    refine go_11_29 (ci := 0) hx hb hts hown hK hE hP rfl dX11_empties_22 ?_
    refine go_11_264 (ci := 1) hx hb hts hown hK hE hP rfl dX11_empties_25 ?_
    refine lv_iconst (v := 0) hx hb dX11_empties_28 (by decide) ?_
    refine ldWI (ci := 1) (k0 := 5) (g := P.2.1 6) (j := 0) hx hb hK hP rfl cX6_a6 rfl (vin_dec (by decide)) (by decide) dX11_empties_29 ?_
    refine lv_aload_n hx hb dX11_empties_30 rfl (lv_at hl 0 rfl) ?_
    refine go_11_47 (ci := 0) hx hb hts hown hK hE hP rfl dX11_empties_31 ?_
    refine go_11_205 (ci := 4) hx hb hts hown hK hE hP rfl dX11_empties_34 ?_
    refine lv_iload_n hx hb dX11_empties_37 rfl (lv_at hl 1 rfl) ?_
    replace h := gin_inv h
    obtain ⟨h9, h⟩ := h
    refine ldWI (ci := 4) (k0 := 10) (g := q3.2.1.2.1 15) (j := a1.toNatClampNeg) hx hb hK hP rfl cX8_a15 rfl h9 rfl dX11_empties_38 ?_
    refine lv_isub hx hb dX11_empties_39 ?_
    exact retI (fr := fun q => q.1) (fw := fun q => wj [cX11 cy adX xT xR (adP 0) (adS 0) xIm (adTr 0) (adC 0) (adWa 0) xWb xWo xZ xU xD xE xB X, cX6 cy adP (adL 0) P, cX3 cy adL q.2.1, cX8 cy adS S, cX8 cy adTr q.2.2.1, cX0 cy adC q.2.2.2, cX10 cy adWa Wa]) h hx hb hr hlocks hK hP hD hS dX11_empties_40
  · replace h := (br h).1 c9
    refine lv_iconst (v := (-1)) hx hb dX11_empties_11 (by decide) ?_
    exact retI (fr := fun q => q.1) (fw := fun q => wj [cX11 cy adX xT xR (adP 0) (adS 0) xIm (adTr 0) (adC 0) (adWa 0) xWb xWo xZ xU xD xE xB X, cX6 cy adP (adL 0) P, cX3 cy adL q.2.1, cX8 cy adS S, cX8 cy adTr q.2.2.1, cX0 cy adC q.2.2.2, cX10 cy adWa Wa]) h hx hb hr hlocks hK hP hD hS dX11_empties_12
theorem hds_X11_likes : yX11_likes.cls ≠ "java/lang/invoke/MethodHandle" ∧ yX11_likes.cls ≠ "java/lang/invoke/VarHandle" ∧ (parseMethodDescriptor yX11_likes.desc).map (fun d => d.parameters.length) = some 2 := ⟨by decide +kernel, by decide +kernel, by decide +kernel⟩
theorem hd_X11_likes : yX11_likes.cls = RX11 ∧ yX11_likes.cls ≠ "java/lang/invoke/MethodHandle" ∧ yX11_likes.cls ≠ "java/lang/invoke/VarHandle" ∧ (parseMethodDescriptor yX11_likes.desc).map (fun d => d.parameters.length) = some 2 := ⟨rfl, hds_X11_likes⟩
def f_X11_likes (N : Nat) (X : VV) (P : VV) (L : VV) (S : VV) (Wa : VV) (a1 : Int32) (a2 : Int32) : Option (Int32 × VV) :=
  bnd (f_X11_areSuch X P a1 a2) (fun q1 => if q1 = 0 then some ((-1), L) else bnd (f_X11_likeNow N X P L S Wa a1 a2) (fun q3 => some (q3.1, q3.2)))
set_option maxHeartbeats 4000000 in
set_option maxRecDepth 100000 in
theorem k_X11_likes (l : Launch) (G : va_G) (cy : Nat → ClassId) (ev : Nat → Nat) (N : Nat) (adX : Nat → Nat) (xT : Nat) (xR : Nat) (xIm : Nat) (xTr : Nat) (xC : Nat) (xWb : Nat) (xWo : Nat) (xZ : Nat) (xU : Nat) (xD : Nat) (xE : Nat) (xB : Nat) (X : VV) (adP : Nat → Nat) (P : VV) (adL : Nat → Nat) (L : VV) (adS : Nat → Nat) (S : VV) (adWa : Nat → Nat) (Wa : VV) (a1 : Int32) (a2 : Int32) (res : Int32 × VV) (h : f_X11_likes N X P L S Wa a1 a2 = some res) : MetI l yX11_likes cX11_likes 3 (some .int) 4 106 G cy ev [.ref (adX 0), .int a1, .int a2] (wj [cX11 cy adX xT xR (adP 0) (adS 0) xIm xTr xC (adWa 0) xWb xWo xZ xU xD xE xB X, cX6 cy adP (adL 0) P, cX3 cy adL L, cX8 cy adS S, cX10 cy adWa Wa]) res.1 (wj [cX11 cy adX xT xR (adP 0) (adS 0) xIm xTr xC (adWa 0) xWb xWo xZ xU xD xE xB X, cX6 cy adP (adL 0) P, cX3 cy adL res.2, cX8 cy adS S, cX10 cy adWa Wa]) := by
  refine MetQ.start (by decide +kernel) (Nat.le_of_ble_eq_true rfl) (fun p e s m args below meth c A ls hx hb hr hml hown hts hlocks hK hP hD hA hl hE => ?_)
  have hS : va_S A s.heap s.heap [] := va_S.rf
  have hown : s.vm.findClass RX11 = some m.cls := hown
  have hl : lv_has ls 3 [(0, .ref (adX 0)), (1, .int a1), (2, .int a2)] := hl
  delta f_X11_likes at h
  refine lv_aload_n hx hb dX11_likes_0 rfl (lv_at hl 0 rfl) ?_
  refine lv_iload_n hx hb dX11_likes_1 rfl (lv_at hl 1 rfl) ?_
  refine lv_iload_n hx hb dX11_likes_2 rfl (lv_at hl 2 rfl) ?_
  replace h := bd h
  obtain ⟨q1, h2, h⟩ := h
  refine callWVi (As := [.int a1, .int a2]) (rest := []) (cs' := [cX11 cy adX xT xR (adP 0) (adS 0) xIm xTr xC (adWa 0) xWb xWo xZ xU xD xE xB X, cX6 cy adP (adL 0) P, cX3 cy adL L, cX8 cy adS S, cX10 cy adWa Wa]) (isC := [0, 1]) (isR := [2, 3, 4]) hx hb hml hown hts (k_X11_areSuch l G cy ev adX xT xR (adS 0) xIm xTr xC (adWa 0) xWb xWo xZ xU xD xE xB X adP (adL 0) P a1 a2 q1 h2) wm_29_1 wm_29_2 wm_29_3 wm_1_2 wm_29_4 hd_X11_areSuch ⟨by decide, by decide⟩ hK hP hD hS hA hE rfl rfl rfl (cov_of (n := 5) rfl (by decide)) (by decide) rfl (recvW (ci := 0) hK hP rfl cX11_o rfl) rfl rfl hl.1 (Nat.le_of_ble_eq_true rfl) dX11_likes_3 (fun H locs hP hD hS => ?_)
  refine lv_if_eq (tgt := 18) hx hb dX11_likes_6 (by decide) (fun c9 => ?_) (fun c9 => ?_)
  · replace h := (br h).1 c9
    refine lv_iconst (v := (-1)) hx hb dX11_likes_18 (by decide) ?_
    exact retI (fr := fun q => q.1) (fw := fun q => wj [cX11 cy adX xT xR (adP 0) (adS 0) xIm xTr xC (adWa 0) xWb xWo xZ xU xD xE xB X, cX6 cy adP (adL 0) P, cX3 cy adL q.2, cX8 cy adS S, cX10 cy adWa Wa]) h hx hb hr hlocks hK hP hD hS dX11_likes_19
  · replace h := (br h).2 c9
    refine lv_aload_n hx hb dX11_likes_9 rfl (lv_at hl 0 rfl) ?_
    refine lv_iload_n hx hb dX11_likes_10 rfl (lv_at hl 1 rfl) ?_
    refine lv_iload_n hx hb dX11_likes_11 rfl (lv_at hl 2 rfl) ?_
    replace h := bd h
    obtain ⟨q3, h4, h⟩ := h
    refine callWVi (As := [.int a1, .int a2]) (rest := []) (cs' := [cX11 cy adX xT xR (adP 0) (adS 0) xIm xTr xC (adWa 0) xWb xWo xZ xU xD xE xB X, cX6 cy adP (adL 0) P, cX3 cy adL q3.2, cX8 cy adS S, cX10 cy adWa Wa]) (isC := [0, 1, 2, 3, 4]) (isR := []) hx hb hml hown hts (k_X11_likeNow l G cy ev N adX xT xR xIm xTr xC xWb xWo xZ xU xD xE xB X adP P adL L adS S adWa Wa a1 a2 q3 h4) wm_37_22 wm_37_23 wm_38_0 wm_1_2 wm_38_1 hd_X11_likeNow ⟨by decide, by decide⟩ hK hP hD hS hA hE rfl rfl rfl (cov_of (n := 5) rfl (by decide)) (by decide) rfl (recvW (ci := 0) hK hP rfl cX11_o rfl) rfl rfl hl.1 (Nat.le_of_ble_eq_true rfl) dX11_likes_12 (fun H locs hP hD hS => ?_)
    refine lv_goto (tgt := 19) hx hb dX11_likes_15 (by decide) ?_
    exact retI (fr := fun q => q.1) (fw := fun q => wj [cX11 cy adX xT xR (adP 0) (adS 0) xIm xTr xC (adWa 0) xWb xWo xZ xU xD xE xB X, cX6 cy adP (adL 0) P, cX3 cy adL q.2, cX8 cy adS S, cX10 cy adWa Wa]) h hx hb hr hlocks hK hP hD hS dX11_likes_19
theorem hds_X11_stays : yX11_stays.cls ≠ "java/lang/invoke/MethodHandle" ∧ yX11_stays.cls ≠ "java/lang/invoke/VarHandle" ∧ (parseMethodDescriptor yX11_stays.desc).map (fun d => d.parameters.length) = some 2 := ⟨by decide +kernel, by decide +kernel, by decide +kernel⟩
theorem hd_X11_stays : yX11_stays.cls = RX11 ∧ yX11_stays.cls ≠ "java/lang/invoke/MethodHandle" ∧ yX11_stays.cls ≠ "java/lang/invoke/VarHandle" ∧ (parseMethodDescriptor yX11_stays.desc).map (fun d => d.parameters.length) = some 2 := ⟨rfl, hds_X11_stays⟩
def f_X11_stays (N : Nat) (X : VV) (P : VV) (L : VV) (S : VV) (Wa : VV) (a1 : Int32) (a2 : Int32) : Option (Int32 × VV) :=
  bnd (f_X11_areSuch X P a1 a2) (fun q1 => if q1 = 0 then some ((-1), L) else bnd (f_X0_manner N P L S Wa 1 a1 a2 0) (fun q3 => some (q3.1, q3.2)))
set_option maxHeartbeats 4000000 in
set_option maxRecDepth 100000 in
theorem k_X11_stays (l : Launch) (G : va_G) (cy : Nat → ClassId) (ev : Nat → Nat) (N : Nat) (adX : Nat → Nat) (xT : Nat) (xR : Nat) (xIm : Nat) (xTr : Nat) (xC : Nat) (xWb : Nat) (xWo : Nat) (xZ : Nat) (xU : Nat) (xD : Nat) (xE : Nat) (xB : Nat) (X : VV) (adP : Nat → Nat) (P : VV) (adL : Nat → Nat) (L : VV) (adS : Nat → Nat) (S : VV) (adWa : Nat → Nat) (Wa : VV) (a1 : Int32) (a2 : Int32) (res : Int32 × VV) (h : f_X11_stays N X P L S Wa a1 a2 = some res) : MetI l yX11_stays cX11_stays 3 (some .int) 3 84 G cy ev [.ref (adX 0), .int a1, .int a2] (wj [cX11 cy adX xT xR (adP 0) (adS 0) xIm xTr xC (adWa 0) xWb xWo xZ xU xD xE xB X, cX6 cy adP (adL 0) P, cX3 cy adL L, cX8 cy adS S, cX10 cy adWa Wa]) res.1 (wj [cX11 cy adX xT xR (adP 0) (adS 0) xIm xTr xC (adWa 0) xWb xWo xZ xU xD xE xB X, cX6 cy adP (adL 0) P, cX3 cy adL res.2, cX8 cy adS S, cX10 cy adWa Wa]) := by
  refine MetQ.start (by decide +kernel) (Nat.le_of_ble_eq_true rfl) (fun p e s m args below meth c A ls hx hb hr hml hown hts hlocks hK hP hD hA hl hE => ?_)
  have hS : va_S A s.heap s.heap [] := va_S.rf
  have hown : s.vm.findClass RX11 = some m.cls := hown
  have hl : lv_has ls 3 [(0, .ref (adX 0)), (1, .int a1), (2, .int a2)] := hl
  delta f_X11_stays at h
  refine lv_aload_n hx hb dX11_stays_0 rfl (lv_at hl 0 rfl) ?_
  refine lv_iload_n hx hb dX11_stays_1 rfl (lv_at hl 1 rfl) ?_
  refine lv_iload_n hx hb dX11_stays_2 rfl (lv_at hl 2 rfl) ?_
  replace h := bd h
  obtain ⟨q1, h2, h⟩ := h
  refine callWVi (As := [.int a1, .int a2]) (rest := []) (cs' := [cX11 cy adX xT xR (adP 0) (adS 0) xIm xTr xC (adWa 0) xWb xWo xZ xU xD xE xB X, cX6 cy adP (adL 0) P, cX3 cy adL L, cX8 cy adS S, cX10 cy adWa Wa]) (isC := [0, 1]) (isR := [2, 3, 4]) hx hb hml hown hts (k_X11_areSuch l G cy ev adX xT xR (adS 0) xIm xTr xC (adWa 0) xWb xWo xZ xU xD xE xB X adP (adL 0) P a1 a2 q1 h2) wm_29_1 wm_29_2 wm_29_3 wm_1_2 wm_29_4 hd_X11_areSuch ⟨by decide, by decide⟩ hK hP hD hS hA hE rfl rfl rfl (cov_of (n := 5) rfl (by decide)) (by decide) rfl (recvW (ci := 0) hK hP rfl cX11_o rfl) rfl rfl hl.1 (Nat.le_of_ble_eq_true rfl) dX11_stays_3 (fun H locs hP hD hS => ?_)
  refine lv_if_eq (tgt := 31) hx hb dX11_stays_6 (by decide) (fun c9 => ?_) (fun c9 => ?_)
  · replace h := (br h).1 c9
    refine lv_iconst (v := (-1)) hx hb dX11_stays_31 (by decide) ?_
    exact retI (fr := fun q => q.1) (fw := fun q => wj [cX11 cy adX xT xR (adP 0) (adS 0) xIm xTr xC (adWa 0) xWb xWo xZ xU xD xE xB X, cX6 cy adP (adL 0) P, cX3 cy adL q.2, cX8 cy adS S, cX10 cy adWa Wa]) h hx hb hr hlocks hK hP hD hS dX11_stays_32
  · replace h := (br h).2 c9
    refine lv_iconst (v := 1) hx hb dX11_stays_9 (by decide) ?_
    refine lv_aload_n hx hb dX11_stays_10 rfl (lv_at hl 0 rfl) ?_
    refine go_11_29 (ci := 0) hx hb hts hown hK hE hP rfl dX11_stays_11 ?_
    refine lv_aload_n hx hb dX11_stays_14 rfl (lv_at hl 0 rfl) ?_
    refine go_11_36 (ci := 0) hx hb hts hown hK hE hP rfl dX11_stays_15 ?_
    refine lv_aload_n hx hb dX11_stays_18 rfl (lv_at hl 0 rfl) ?_
    refine go_11_60 (ci := 0) hx hb hts hown hK hE hP rfl dX11_stays_19 ?_
    refine lv_iload_n hx hb dX11_stays_22 rfl (lv_at hl 1 rfl) ?_
    refine lv_iload_n hx hb dX11_stays_23 rfl (lv_at hl 2 rfl) ?_
    refine lv_iconst (v := 0) hx hb dX11_stays_24 (by decide) ?_
    replace h := bd h
    obtain ⟨q3, h4, h⟩ := h
    refine callWSXi (As := [.int 1, .ref (adP 0), .ref (adS 0), .ref (adWa 0), .int a1, .int a2, .int 0]) (rest := []) (cs' := [cX11 cy adX xT xR (adP 0) (adS 0) xIm xTr xC (adWa 0) xWb xWo xZ xU xD xE xB X, cX6 cy adP (adL 0) P, cX3 cy adL q3.2, cX8 cy adS S, cX10 cy adWa Wa]) (isC := [1, 2, 3, 4]) (isR := [0]) hx hb hml hown hts (k_X0_manner l G cy ev N adP P adL L adS S adWa Wa 1 a1 a2 0 q3 h4) wm_38_2 wm_34_4 wm_2_9 wm_34_5 hds_X0_manner ⟨by decide, by decide⟩ hK hP hD hS hA hE rfl rfl rfl (cov_of (n := 5) rfl (by decide)) (by decide) rfl rfl rfl hl.1 (Nat.le_of_ble_eq_true rfl) dX11_stays_25 (fun H locs hP hD hS => ?_)
    refine lv_goto (tgt := 32) hx hb dX11_stays_28 (by decide) ?_
    exact retI (fr := fun q => q.1) (fw := fun q => wj [cX11 cy adX xT xR (adP 0) (adS 0) xIm xTr xC (adWa 0) xWb xWo xZ xU xD xE xB X, cX6 cy adP (adL 0) P, cX3 cy adL q.2, cX8 cy adS S, cX10 cy adWa Wa]) h hx hb hr hlocks hK hP hD hS dX11_stays_32
theorem hds_X11_misses : yX11_misses.cls ≠ "java/lang/invoke/MethodHandle" ∧ yX11_misses.cls ≠ "java/lang/invoke/VarHandle" ∧ (parseMethodDescriptor yX11_misses.desc).map (fun d => d.parameters.length) = some 2 := ⟨by decide +kernel, by decide +kernel, by decide +kernel⟩
theorem hd_X11_misses : yX11_misses.cls = RX11 ∧ yX11_misses.cls ≠ "java/lang/invoke/MethodHandle" ∧ yX11_misses.cls ≠ "java/lang/invoke/VarHandle" ∧ (parseMethodDescriptor yX11_misses.desc).map (fun d => d.parameters.length) = some 2 := ⟨rfl, hds_X11_misses⟩
def f_X11_misses (N : Nat) (X : VV) (P : VV) (L : VV) (S : VV) (Wa : VV) (a1 : Int32) (a2 : Int32) : Option (Int32 × VV) :=
  bnd (f_X11_areSuch X P a1 a2) (fun q1 => if q1 = 0 then some ((-1), L) else bnd (f_X0_manner N P L S Wa 2 a1 a2 0) (fun q3 => some (q3.1, q3.2)))
set_option maxHeartbeats 4000000 in
set_option maxRecDepth 100000 in
theorem k_X11_misses (l : Launch) (G : va_G) (cy : Nat → ClassId) (ev : Nat → Nat) (N : Nat) (adX : Nat → Nat) (xT : Nat) (xR : Nat) (xIm : Nat) (xTr : Nat) (xC : Nat) (xWb : Nat) (xWo : Nat) (xZ : Nat) (xU : Nat) (xD : Nat) (xE : Nat) (xB : Nat) (X : VV) (adP : Nat → Nat) (P : VV) (adL : Nat → Nat) (L : VV) (adS : Nat → Nat) (S : VV) (adWa : Nat → Nat) (Wa : VV) (a1 : Int32) (a2 : Int32) (res : Int32 × VV) (h : f_X11_misses N X P L S Wa a1 a2 = some res) : MetI l yX11_misses cX11_misses 3 (some .int) 3 84 G cy ev [.ref (adX 0), .int a1, .int a2] (wj [cX11 cy adX xT xR (adP 0) (adS 0) xIm xTr xC (adWa 0) xWb xWo xZ xU xD xE xB X, cX6 cy adP (adL 0) P, cX3 cy adL L, cX8 cy adS S, cX10 cy adWa Wa]) res.1 (wj [cX11 cy adX xT xR (adP 0) (adS 0) xIm xTr xC (adWa 0) xWb xWo xZ xU xD xE xB X, cX6 cy adP (adL 0) P, cX3 cy adL res.2, cX8 cy adS S, cX10 cy adWa Wa]) := by
  refine MetQ.start (by decide +kernel) (Nat.le_of_ble_eq_true rfl) (fun p e s m args below meth c A ls hx hb hr hml hown hts hlocks hK hP hD hA hl hE => ?_)
  have hS : va_S A s.heap s.heap [] := va_S.rf
  have hown : s.vm.findClass RX11 = some m.cls := hown
  have hl : lv_has ls 3 [(0, .ref (adX 0)), (1, .int a1), (2, .int a2)] := hl
  delta f_X11_misses at h
  refine lv_aload_n hx hb dX11_misses_0 rfl (lv_at hl 0 rfl) ?_
  refine lv_iload_n hx hb dX11_misses_1 rfl (lv_at hl 1 rfl) ?_
  refine lv_iload_n hx hb dX11_misses_2 rfl (lv_at hl 2 rfl) ?_
  replace h := bd h
  obtain ⟨q1, h2, h⟩ := h
  refine callWVi (As := [.int a1, .int a2]) (rest := []) (cs' := [cX11 cy adX xT xR (adP 0) (adS 0) xIm xTr xC (adWa 0) xWb xWo xZ xU xD xE xB X, cX6 cy adP (adL 0) P, cX3 cy adL L, cX8 cy adS S, cX10 cy adWa Wa]) (isC := [0, 1]) (isR := [2, 3, 4]) hx hb hml hown hts (k_X11_areSuch l G cy ev adX xT xR (adS 0) xIm xTr xC (adWa 0) xWb xWo xZ xU xD xE xB X adP (adL 0) P a1 a2 q1 h2) wm_29_1 wm_29_2 wm_29_3 wm_1_2 wm_29_4 hd_X11_areSuch ⟨by decide, by decide⟩ hK hP hD hS hA hE rfl rfl rfl (cov_of (n := 5) rfl (by decide)) (by decide) rfl (recvW (ci := 0) hK hP rfl cX11_o rfl) rfl rfl hl.1 (Nat.le_of_ble_eq_true rfl) dX11_misses_3 (fun H locs hP hD hS => ?_)
  refine lv_if_eq (tgt := 31) hx hb dX11_misses_6 (by decide) (fun c9 => ?_) (fun c9 => ?_)
  · replace h := (br h).1 c9
    refine lv_iconst (v := (-1)) hx hb dX11_misses_31 (by decide) ?_
    exact retI (fr := fun q => q.1) (fw := fun q => wj [cX11 cy adX xT xR (adP 0) (adS 0) xIm xTr xC (adWa 0) xWb xWo xZ xU xD xE xB X, cX6 cy adP (adL 0) P, cX3 cy adL q.2, cX8 cy adS S, cX10 cy adWa Wa]) h hx hb hr hlocks hK hP hD hS dX11_misses_32
  · replace h := (br h).2 c9
    refine lv_iconst (v := 2) hx hb dX11_misses_9 (by decide) ?_
    refine lv_aload_n hx hb dX11_misses_10 rfl (lv_at hl 0 rfl) ?_
    refine go_11_29 (ci := 0) hx hb hts hown hK hE hP rfl dX11_misses_11 ?_
    refine lv_aload_n hx hb dX11_misses_14 rfl (lv_at hl 0 rfl) ?_
    refine go_11_36 (ci := 0) hx hb hts hown hK hE hP rfl dX11_misses_15 ?_
    refine lv_aload_n hx hb dX11_misses_18 rfl (lv_at hl 0 rfl) ?_
    refine go_11_60 (ci := 0) hx hb hts hown hK hE hP rfl dX11_misses_19 ?_
    refine lv_iload_n hx hb dX11_misses_22 rfl (lv_at hl 1 rfl) ?_
    refine lv_iload_n hx hb dX11_misses_23 rfl (lv_at hl 2 rfl) ?_
    refine lv_iconst (v := 0) hx hb dX11_misses_24 (by decide) ?_
    replace h := bd h
    obtain ⟨q3, h4, h⟩ := h
    refine callWSXi (As := [.int 2, .ref (adP 0), .ref (adS 0), .ref (adWa 0), .int a1, .int a2, .int 0]) (rest := []) (cs' := [cX11 cy adX xT xR (adP 0) (adS 0) xIm xTr xC (adWa 0) xWb xWo xZ xU xD xE xB X, cX6 cy adP (adL 0) P, cX3 cy adL q3.2, cX8 cy adS S, cX10 cy adWa Wa]) (isC := [1, 2, 3, 4]) (isR := [0]) hx hb hml hown hts (k_X0_manner l G cy ev N adP P adL L adS S adWa Wa 2 a1 a2 0 q3 h4) wm_38_2 wm_34_4 wm_2_9 wm_34_5 hds_X0_manner ⟨by decide, by decide⟩ hK hP hD hS hA hE rfl rfl rfl (cov_of (n := 5) rfl (by decide)) (by decide) rfl rfl rfl hl.1 (Nat.le_of_ble_eq_true rfl) dX11_misses_25 (fun H locs hP hD hS => ?_)
    refine lv_goto (tgt := 32) hx hb dX11_misses_28 (by decide) ?_
    exact retI (fr := fun q => q.1) (fw := fun q => wj [cX11 cy adX xT xR (adP 0) (adS 0) xIm xTr xC (adWa 0) xWb xWo xZ xU xD xE xB X, cX6 cy adP (adL 0) P, cX3 cy adL q.2, cX8 cy adS S, cX10 cy adWa Wa]) h hx hb hr hlocks hK hP hD hS dX11_misses_32
theorem hds_X11_mostCross : yX11_mostCross.cls ≠ "java/lang/invoke/MethodHandle" ∧ yX11_mostCross.cls ≠ "java/lang/invoke/VarHandle" ∧ (parseMethodDescriptor yX11_mostCross.desc).map (fun d => d.parameters.length) = some 1 := ⟨by decide +kernel, by decide +kernel, by decide +kernel⟩
theorem hd_X11_mostCross : yX11_mostCross.cls = RX11 ∧ yX11_mostCross.cls ≠ "java/lang/invoke/MethodHandle" ∧ yX11_mostCross.cls ≠ "java/lang/invoke/VarHandle" ∧ (parseMethodDescriptor yX11_mostCross.desc).map (fun d => d.parameters.length) = some 1 := ⟨rfl, hds_X11_mostCross⟩
def f_X11_mostCross_b59 (N : Nat) (X : VV) (P : VV) (S : VV) (x1 : Int32) (x2 : Int32) (x3 : Int32) : Option (((Int32 × Int32) ⊕ (Int32))) :=
  some (.inl (x2, x3 + 1))
def f_X11_mostCross_s25 (N : Nat) (X : VV) (P : VV) (S : VV) (x1 : Int32) (x2 : Int32) (x3 : Int32) : Option (((Int32 × Int32) ⊕ (Int32))) :=
  if P.1 0 ≤ x3 then inrO (if x1 = 0 then some x2 else gin x2 8 (some (S.2.1 6 x2.toNatClampNeg))) else gin x3 8 (gin x2 8 (if S.2.1 6 x3.toNatClampNeg ≤ S.2.1 6 x2.toNatClampNeg then f_X11_mostCross_b59 N X P S x1 x2 x3 else f_X11_mostCross_b59 N X P S x1 x3 x3))
def f_X11_mostCross (N : Nat) (X : VV) (P : VV) (S : VV) (a1 : Int32) : Option (Int32) :=
  if a1 < 0 then some ((-1)) else if (1 : Int32) < a1 then some ((-1)) else if P.1 0 = 0 then some ((-1)) else itr (fun q : Int32 × Int32 => f_X11_mostCross_s25 N X P S a1 q.1 q.2) N (0, 1)
set_option maxHeartbeats 4000000 in
set_option maxRecDepth 100000 in
theorem k_X11_mostCross (l : Launch) (G : va_G) (cy : Nat → ClassId) (ev : Nat → Nat) (N : Nat) (adX : Nat → Nat) (xT : Nat) (xR : Nat) (xIm : Nat) (xTr : Nat) (xC : Nat) (xWa : Nat) (xWb : Nat) (xWo : Nat) (xZ : Nat) (xU : Nat) (xD : Nat) (xE : Nat) (xB : Nat) (X : VV) (adP : Nat → Nat) (xL : Nat) (P : VV) (adS : Nat → Nat) (S : VV) (a1 : Int32) (res : Int32) (h : f_X11_mostCross N X P S a1 = some res) : MetI l yX11_mostCross cX11_mostCross 4 (some .int) 0 0 G cy ev [.ref (adX 0), .int a1] (wj [cX11 cy adX xT xR (adP 0) (adS 0) xIm xTr xC xWa xWb xWo xZ xU xD xE xB X, cX6 cy adP xL P, cX8 cy adS S]) res (wj [cX11 cy adX xT xR (adP 0) (adS 0) xIm xTr xC xWa xWb xWo xZ xU xD xE xB X, cX6 cy adP xL P, cX8 cy adS S]) := by
  refine MetQ.start (by decide +kernel) (Nat.le_of_ble_eq_true rfl) (fun p e s m args below meth c A ls hx hb hr hml hown hts hlocks hK hP hD hA hl hE => ?_)
  have hS : va_S A s.heap s.heap [] := va_S.rf
  have hown : s.vm.findClass RX11 = some m.cls := hown
  have hl : lv_has ls 4 [(0, .ref (adX 0)), (1, .int a1)] := hl
  have L25 : ∀ (x1 : Int32) (n : Nat) (x2 : Int32) (x3 : Int32) (H : Heap) (locs : List Loc) (ls : Array Slot), itr (fun q : Int32 × Int32 => f_X11_mostCross_s25 N X P S x1 q.1 q.2) n (x2, x3) = some res → va_P G vwCl (wj [cX11 cy adX xT xR (adP 0) (adS 0) xIm xTr xC xWa xWb xWo xZ xU xD xE xB X, cX6 cy adP xL P, cX8 cy adS S]) H → va_D A (wj [cX11 cy adX xT xR (adP 0) (adS 0) xIm xTr xC xWa xWb xWo xZ xU xD xE xB X, cX6 cy adP xL P, cX8 cy adS S]) → va_S A s.heap H locs → lv_has ls 4 [(0, .ref (adX 0)), (1, .int x1), (2, .int x2), (3, .int x3)] → W p l e (rmX 0 0) s m args below meth c H locs 0 0 (MQ below (mQi (res) G cy A (wj [cX11 cy adX xT xR (adP 0) (adS 0) xIm xTr xC xWa xWb xWo xZ xU xD xE xB X, cX6 cy adP xL P, cX8 cy adS S])) args s 0 0 A) (F0 m 25 ls []) := by
    intro x1 n
    induction n with
    | zero => intro x2 x3 H locs ls h; exact (itr_zero h).elim
    | succ n ih1 =>
      intro x2 x3 H locs ls h hP hD hS hl
      obtain ⟨y1, h, hy1⟩ := itr_inv h
      have h : f_X11_mostCross_s25 N X P S x1 x2 x3 = some y1 := h
      have B59 : ∀ (x2 : Int32) (x3 : Int32) (H : Heap) (locs : List Loc) (ls : Array Slot), f_X11_mostCross_b59 N X P S x1 x2 x3 = some y1 → va_P G vwCl (wj [cX11 cy adX xT xR (adP 0) (adS 0) xIm xTr xC xWa xWb xWo xZ xU xD xE xB X, cX6 cy adP xL P, cX8 cy adS S]) H → va_D A (wj [cX11 cy adX xT xR (adP 0) (adS 0) xIm xTr xC xWa xWb xWo xZ xU xD xE xB X, cX6 cy adP xL P, cX8 cy adS S]) → va_S A s.heap H locs → lv_has ls 4 [(0, .ref (adX 0)), (1, .int x1), (2, .int x2), (3, .int x3)] → W p l e (rmX 0 0) s m args below meth c H locs 0 0 (MQ below (mQi (res) G cy A (wj [cX11 cy adX xT xR (adP 0) (adS 0) xIm xTr xC xWa xWb xWo xZ xU xD xE xB X, cX6 cy adP xL P, cX8 cy adS S])) args s 0 0 A) (F0 m 59 ls []) := by
        intro x2 x3 H locs ls h hP hD hS hl
        delta f_X11_mostCross_b59 at h
        refine lv_iinc (v := x3 + 1) (lv' := [(3, .int (x3 + 1)), (0, .ref (adX 0)), (1, .int x1), (2, .int x2)]) hx hb dX11_mostCross_59 hl (k := 3) rfl rfl (by decide) rfl (fun ls hl => ?_)
        refine lv_goto (tgt := 25) hx hb dX11_mostCross_62 (by decide) ?_
        replace h := itr_back h hy1
        exact ih1 x2 (x3 + 1) _ _ _ h hP hD hS (lv_sub hl [1, 2, 3, 0] rfl)
      delta f_X11_mostCross_s25 at h
      refine lv_iload_n hx hb dX11_mostCross_25 rfl (lv_at hl 3 rfl) ?_
      refine lv_aload_n hx hb dX11_mostCross_26 rfl (lv_at hl 0 rfl) ?_
      refine go_11_29 (ci := 0) hx hb hts hown hK hE hP rfl dX11_mostCross_27 ?_
      refine go_11_258 (ci := 1) (x := P.1 0) hx hb hts hown hK hE hP rfl rfl dX11_mostCross_30 ?_
      refine lv_icmp_ge (tgt := 65) hx hb dX11_mostCross_33 (by decide) (fun c9 => ?_) (fun c9 => ?_)
      · replace h := (br h).1 c9
        replace h := itr_exit h hy1
        refine lv_iload_n hx hb dX11_mostCross_65 rfl (lv_at hl 1 rfl) ?_
        refine lv_if_ne (tgt := 73) hx hb dX11_mostCross_66 (by decide) (fun c9 => ?_) (fun c9 => ?_)
        · replace h := (br h).2 c9
          refine lv_aload_n hx hb dX11_mostCross_73 rfl (lv_at hl 0 rfl) ?_
          refine go_11_36 (ci := 0) hx hb hts hown hK hE hP rfl dX11_mostCross_74 ?_
          refine go_11_163 (ci := 2) hx hb hts hown hK hE hP rfl dX11_mostCross_77 ?_
          refine lv_iload_n hx hb dX11_mostCross_80 rfl (lv_at hl 2 rfl) ?_
          replace h := gin_inv h
          obtain ⟨h9, h⟩ := h
          refine ldWI (ci := 2) (k0 := 5) (g := S.2.1 6) (j := x2.toNatClampNeg) hx hb hK hP rfl cX8_a6 rfl h9 rfl dX11_mostCross_81 ?_
          exact retI (fr := fun q => q) (fw := fun _ => wj [cX11 cy adX xT xR (adP 0) (adS 0) xIm xTr xC xWa xWb xWo xZ xU xD xE xB X, cX6 cy adP xL P, cX8 cy adS S]) h hx hb hr hlocks hK hP hD hS dX11_mostCross_82
        · replace h := (br h).1 c9
          refine lv_iload_n hx hb dX11_mostCross_69 rfl (lv_at hl 2 rfl) ?_
          refine lv_goto (tgt := 82) hx hb dX11_mostCross_70 (by decide) ?_
          exact retI (fr := fun q => q) (fw := fun _ => wj [cX11 cy adX xT xR (adP 0) (adS 0) xIm xTr xC xWa xWb xWo xZ xU xD xE xB X, cX6 cy adP xL P, cX8 cy adS S]) h hx hb hr hlocks hK hP hD hS dX11_mostCross_82
      · replace h := (br h).2 c9
        refine lv_aload_n hx hb dX11_mostCross_36 rfl (lv_at hl 0 rfl) ?_
        refine go_11_36 (ci := 0) hx hb hts hown hK hE hP rfl dX11_mostCross_37 ?_
        refine go_11_163 (ci := 2) hx hb hts hown hK hE hP rfl dX11_mostCross_40 ?_
        refine lv_iload_n hx hb dX11_mostCross_43 rfl (lv_at hl 3 rfl) ?_
        replace h := gin_inv h
        obtain ⟨h9, h⟩ := h
        refine ldWI (ci := 2) (k0 := 5) (g := S.2.1 6) (j := x3.toNatClampNeg) hx hb hK hP rfl cX8_a6 rfl h9 rfl dX11_mostCross_44 ?_
        refine lv_aload_n hx hb dX11_mostCross_45 rfl (lv_at hl 0 rfl) ?_
        refine go_11_36 (ci := 0) hx hb hts hown hK hE hP rfl dX11_mostCross_46 ?_
        refine go_11_163 (ci := 2) hx hb hts hown hK hE hP rfl dX11_mostCross_49 ?_
        refine lv_iload_n hx hb dX11_mostCross_52 rfl (lv_at hl 2 rfl) ?_
        replace h := gin_inv h
        obtain ⟨h9, h⟩ := h
        refine ldWI (ci := 2) (k0 := 5) (g := S.2.1 6) (j := x2.toNatClampNeg) hx hb hK hP rfl cX8_a6 rfl h9 rfl dX11_mostCross_53 ?_
        refine lv_icmp_le (tgt := 59) hx hb dX11_mostCross_54 (by decide) (fun c9 => ?_) (fun c9 => ?_)
        · replace h := (br h).1 c9
          exact B59 x2 x3 _ _ _ h hP hD hS (lv_sub hl [0, 1, 2, 3] rfl)
        · replace h := (br h).2 c9
          refine lv_iload_n hx hb dX11_mostCross_57 rfl (lv_at hl 3 rfl) ?_
          refine lv_istore_n (lv' := [(2, .int x3), (0, .ref (adX 0)), (1, .int x1), (3, .int x3)]) hx hb dX11_mostCross_58 rfl hl (by decide) rfl (fun ls hl => ?_)
          exact B59 x3 x3 _ _ _ h hP hD hS (lv_sub hl [1, 2, 0, 3] rfl)
  delta f_X11_mostCross at h
  refine lv_iload_n hx hb dX11_mostCross_0 rfl (lv_at hl 1 rfl) ?_
  refine lv_if_lt (tgt := 19) hx hb dX11_mostCross_1 (by decide) (fun c9 => ?_) (fun c9 => ?_)
  · replace h := (br h).1 c9
    refine lv_iconst (v := (-1)) hx hb dX11_mostCross_19 (by decide) ?_
    exact retI (fr := fun q => q) (fw := fun _ => wj [cX11 cy adX xT xR (adP 0) (adS 0) xIm xTr xC xWa xWb xWo xZ xU xD xE xB X, cX6 cy adP xL P, cX8 cy adS S]) h hx hb hr hlocks hK hP hD hS dX11_mostCross_20
  · replace h := (br h).2 c9
    refine lv_iload_n hx hb dX11_mostCross_4 rfl (lv_at hl 1 rfl) ?_
    refine lv_iconst (v := 1) hx hb dX11_mostCross_5 (by decide) ?_
    refine lv_icmp_gt (tgt := 19) hx hb dX11_mostCross_6 (by decide) (fun c9 => ?_) (fun c9 => ?_)
    · replace h := (br h).1 c9
      refine lv_iconst (v := (-1)) hx hb dX11_mostCross_19 (by decide) ?_
      exact retI (fr := fun q => q) (fw := fun _ => wj [cX11 cy adX xT xR (adP 0) (adS 0) xIm xTr xC xWa xWb xWo xZ xU xD xE xB X, cX6 cy adP xL P, cX8 cy adS S]) h hx hb hr hlocks hK hP hD hS dX11_mostCross_20
    · replace h := (br h).2 c9
      refine lv_aload_n hx hb dX11_mostCross_9 rfl (lv_at hl 0 rfl) ?_
      refine go_11_29 (ci := 0) hx hb hts hown hK hE hP rfl dX11_mostCross_10 ?_
      refine go_11_258 (ci := 1) (x := P.1 0) hx hb hts hown hK hE hP rfl rfl dX11_mostCross_13 ?_
      refine lv_if_ne (tgt := 21) hx hb dX11_mostCross_16 (by decide) (fun c9 => ?_) (fun c9 => ?_)
      · replace h := (br h).2 c9
        refine lv_iconst (v := 0) hx hb dX11_mostCross_21 (by decide) ?_
        refine lv_istore_n (lv' := [(2, .int 0), (0, .ref (adX 0)), (1, .int a1)]) hx hb dX11_mostCross_22 rfl hl (by decide) rfl (fun ls hl => ?_)
        refine lv_iconst (v := 1) hx hb dX11_mostCross_23 (by decide) ?_
        refine lv_istore_n (lv' := [(3, .int 1), (2, .int 0), (0, .ref (adX 0)), (1, .int a1)]) hx hb dX11_mostCross_24 rfl hl (by decide) rfl (fun ls hl => ?_)
        exact L25 a1 N 0 1 _ _ _ h hP hD hS (lv_sub hl [2, 3, 1, 0] rfl)
      · replace h := (br h).1 c9
        refine lv_iconst (v := (-1)) hx hb dX11_mostCross_19 (by decide) ?_
        exact retI (fr := fun q => q) (fw := fun _ => wj [cX11 cy adX xT xR (adP 0) (adS 0) xIm xTr xC xWa xWb xWo xZ xU xD xE xB X, cX6 cy adP xL P, cX8 cy adS S]) h hx hb hr hlocks hK hP hD hS dX11_mostCross_20
theorem hds_X11_without : yX11_without.cls ≠ "java/lang/invoke/MethodHandle" ∧ yX11_without.cls ≠ "java/lang/invoke/VarHandle" ∧ (parseMethodDescriptor yX11_without.desc).map (fun d => d.parameters.length) = some 0 := ⟨by decide +kernel, by decide +kernel, by decide +kernel⟩
theorem hd_X11_without : yX11_without.cls = RX11 ∧ yX11_without.cls ≠ "java/lang/invoke/MethodHandle" ∧ yX11_without.cls ≠ "java/lang/invoke/VarHandle" ∧ (parseMethodDescriptor yX11_without.desc).map (fun d => d.parameters.length) = some 0 := ⟨rfl, hds_X11_without⟩
def f_X11_without (N : Nat) (X : VV) (P : VV) (S : VV) : Option (Int32) :=
  bnd (f_X8_personsFor N S P ((-1))) (fun q1 => some q1)
set_option maxHeartbeats 4000000 in
set_option maxRecDepth 100000 in
theorem k_X11_without (l : Launch) (G : va_G) (cy : Nat → ClassId) (ev : Nat → Nat) (N : Nat) (adX : Nat → Nat) (xT : Nat) (xR : Nat) (xIm : Nat) (xTr : Nat) (xC : Nat) (xWa : Nat) (xWb : Nat) (xWo : Nat) (xZ : Nat) (xU : Nat) (xD : Nat) (xE : Nat) (xB : Nat) (X : VV) (adP : Nat → Nat) (xL : Nat) (P : VV) (adS : Nat → Nat) (S : VV)  (res : Int32) (h : f_X11_without N X P S = some res) : MetI l yX11_without cX11_without 1 (some .int) 2 46 G cy ev [.ref (adX 0)] (wj [cX11 cy adX xT xR (adP 0) (adS 0) xIm xTr xC xWa xWb xWo xZ xU xD xE xB X, cX6 cy adP xL P, cX8 cy adS S]) res (wj [cX11 cy adX xT xR (adP 0) (adS 0) xIm xTr xC xWa xWb xWo xZ xU xD xE xB X, cX6 cy adP xL P, cX8 cy adS S]) := by
  refine MetQ.start (by decide +kernel) (Nat.le_of_ble_eq_true rfl) (fun p e s m args below meth c A ls hx hb hr hml hown hts hlocks hK hP hD hA hl hE => ?_)
  have hS : va_S A s.heap s.heap [] := va_S.rf
  have hown : s.vm.findClass RX11 = some m.cls := hown
  have hl : lv_has ls 1 [(0, .ref (adX 0))] := hl
  delta f_X11_without at h
  refine lv_aload_n hx hb dX11_without_0 rfl (lv_at hl 0 rfl) ?_
  refine go_11_36 (ci := 0) hx hb hts hown hK hE hP rfl dX11_without_1 ?_
  refine lv_iconst (v := (-1)) hx hb dX11_without_4 (by decide) ?_
  refine lv_aload_n hx hb dX11_without_5 rfl (lv_at hl 0 rfl) ?_
  refine go_11_29 (ci := 0) hx hb hts hown hK hE hP rfl dX11_without_6 ?_
  replace h := bd h
  obtain ⟨q1, h2, h⟩ := h
  refine callWVi (As := [.int ((-1)), .ref (adP 0)]) (rest := []) (cs' := [cX11 cy adX xT xR (adP 0) (adS 0) xIm xTr xC xWa xWb xWo xZ xU xD xE xB X, cX6 cy adP xL P, cX8 cy adS S]) (isC := [2, 1]) (isR := [0]) hx hb hml hown hts (k_X8_personsFor l G cy ev N adS S adP xL P ((-1)) q1 h2) wm_27_23 wm_28_0 wm_28_1 wm_2_2 wm_28_2 hd_X8_personsFor ⟨by decide, by decide⟩ hK hP hD hS hA hE rfl rfl rfl (cov_of (n := 3) rfl (by decide)) (by decide) rfl (recvW (ci := 2) hK hP rfl cX8_o rfl) rfl rfl hl.1 (Nat.le_of_ble_eq_true rfl) dX11_without_9 (fun H locs hP hD hS => ?_)
  exact retI (fr := fun q => q) (fw := fun _ => wj [cX11 cy adX xT xR (adP 0) (adS 0) xIm xTr xC xWa xWb xWo xZ xU xD xE xB X, cX6 cy adP xL P, cX8 cy adS S]) h hx hb hr hlocks hK hP hD hS dX11_without_12
theorem hds_X11_wouldSwap : yX11_wouldSwap.cls ≠ "java/lang/invoke/MethodHandle" ∧ yX11_wouldSwap.cls ≠ "java/lang/invoke/VarHandle" ∧ (parseMethodDescriptor yX11_wouldSwap.desc).map (fun d => d.parameters.length) = some 2 := ⟨by decide +kernel, by decide +kernel, by decide +kernel⟩
theorem hd_X11_wouldSwap : yX11_wouldSwap.cls = RX11 ∧ yX11_wouldSwap.cls ≠ "java/lang/invoke/MethodHandle" ∧ yX11_wouldSwap.cls ≠ "java/lang/invoke/VarHandle" ∧ (parseMethodDescriptor yX11_wouldSwap.desc).map (fun d => d.parameters.length) = some 2 := ⟨rfl, hds_X11_wouldSwap⟩
def f_X11_wouldSwap (N : Nat) (X : VV) (P : VV) (L : VV) (S : VV) (Wa : VV) (a1 : Int32) (a2 : Int32) : Option (Int32 × VV) :=
  bnd (f_X6_hasParty P a1) (fun q1 => if q1 = 0 then some (0, L) else bnd (f_X6_hasParty P a2) (fun q3 => if q3 = 0 then some (0, L) else gin a1 8 (gin a2 8 (if S.2.1 2 a1.toNatClampNeg = (-1) then some (0, L) else if S.2.1 2 a2.toNatClampNeg = (-1) then some (0, L) else if S.2.1 2 a1.toNatClampNeg = S.2.1 2 a2.toNatClampNeg then some (0, L) else bnd (f_X11_likeNow N X P L S Wa a1 (S.2.1 2 a2.toNatClampNeg)) (fun q5 => bnd (f_X11_likeNow N X P q5.2 S Wa a1 (S.2.1 2 a1.toNatClampNeg)) (fun q7 => if q5.1 ≤ q7.1 then some (0, q7.2) else bnd (f_X11_likeNow N X P q7.2 S Wa a2 (S.2.1 2 a1.toNatClampNeg)) (fun q9 => bnd (f_X11_likeNow N X P q9.2 S Wa a2 (S.2.1 2 a2.toNatClampNeg)) (fun q11 => if q11.1 < q9.1 then bnd (f_X6_trait P a2 0) (fun q13 => bnd (f_X6_trait P a1 0) (fun q15 => bnd (f_X8_personsFor N S P (S.2.1 2 a1.toNatClampNeg)) (fun q17 => bnd (f_X6_mostTickets P) (fun q19 => if q19 < q17 + (q13 - q15) then some (0, q11.2) else bnd (f_X8_personsFor N S P (S.2.1 2 a2.toNatClampNeg)) (fun q21 => bnd (f_X6_mostTickets P) (fun q23 => if q23 < q21 - (q13 - q15) then some (0, q11.2) else some (1, q11.2))))))) else some (0, q11.2)))))))))
set_option maxHeartbeats 4000000 in
set_option maxRecDepth 100000 in
theorem k_X11_wouldSwap (l : Launch) (G : va_G) (cy : Nat → ClassId) (ev : Nat → Nat) (N : Nat) (adX : Nat → Nat) (xT : Nat) (xR : Nat) (xIm : Nat) (xTr : Nat) (xC : Nat) (xWb : Nat) (xWo : Nat) (xZ : Nat) (xU : Nat) (xD : Nat) (xE : Nat) (xB : Nat) (X : VV) (adP : Nat → Nat) (P : VV) (adL : Nat → Nat) (L : VV) (adS : Nat → Nat) (S : VV) (adWa : Nat → Nat) (Wa : VV) (a1 : Int32) (a2 : Int32) (res : Int32 × VV) (h : f_X11_wouldSwap N X P L S Wa a1 a2 = some res) : MetI l yX11_wouldSwap cX11_wouldSwap 6 (some .boolean) 4 106 G cy ev [.ref (adX 0), .int a1, .int a2] (wj [cX11 cy adX xT xR (adP 0) (adS 0) xIm xTr xC (adWa 0) xWb xWo xZ xU xD xE xB X, cX6 cy adP (adL 0) P, cX3 cy adL L, cX8 cy adS S, cX10 cy adWa Wa]) res.1 (wj [cX11 cy adX xT xR (adP 0) (adS 0) xIm xTr xC (adWa 0) xWb xWo xZ xU xD xE xB X, cX6 cy adP (adL 0) P, cX3 cy adL res.2, cX8 cy adS S, cX10 cy adWa Wa]) := by
  refine MetQ.start (by decide +kernel) (Nat.le_of_ble_eq_true rfl) (fun p e s m args below meth c A ls hx hb hr hml hown hts hlocks hK hP hD hA hl hE => ?_)
  have hS : va_S A s.heap s.heap [] := va_S.rf
  have hown : s.vm.findClass RX11 = some m.cls := hown
  have hl : lv_has ls 6 [(0, .ref (adX 0)), (1, .int a1), (2, .int a2)] := hl
  delta f_X11_wouldSwap at h
  refine lv_aload_n hx hb dX11_wouldSwap_0 rfl (lv_at hl 0 rfl) ?_
  refine go_11_29 (ci := 0) hx hb hts hown hK hE hP rfl dX11_wouldSwap_1 ?_
  refine lv_iload_n hx hb dX11_wouldSwap_4 rfl (lv_at hl 1 rfl) ?_
  replace h := bd h
  obtain ⟨q1, h2, h⟩ := h
  refine callWVi (As := [.int a1]) (rest := []) (cs' := [cX11 cy adX xT xR (adP 0) (adS 0) xIm xTr xC (adWa 0) xWb xWo xZ xU xD xE xB X, cX6 cy adP (adL 0) P, cX3 cy adL L, cX8 cy adS S, cX10 cy adWa Wa]) (isC := [1]) (isR := [0, 2, 3, 4]) hx hb hml hown hts (k_X6_hasParty l G cy ev adP (adL 0) P a1 q1 h2) wm_26_11 wm_26_12 wm_26_13 wm_1_22 wm_26_14 hd_X6_hasParty ⟨by decide, by decide⟩ hK hP hD hS hA hE rfl rfl rfl (cov_of (n := 5) rfl (by decide)) (by decide) rfl (recvW (ci := 1) hK hP rfl cX6_o rfl) rfl rfl hl.1 (Nat.le_of_ble_eq_true rfl) dX11_wouldSwap_5 (fun H locs hP hD hS => ?_)
  refine lv_if_eq (tgt := 22) hx hb dX11_wouldSwap_8 (by decide) (fun c9 => ?_) (fun c9 => ?_)
  · replace h := (br h).1 c9
    refine lv_iconst (v := 0) hx hb dX11_wouldSwap_22 (by decide) ?_
    exact retZ (fr := fun q => q.1) (fw := fun q => wj [cX11 cy adX xT xR (adP 0) (adS 0) xIm xTr xC (adWa 0) xWb xWo xZ xU xD xE xB X, cX6 cy adP (adL 0) P, cX3 cy adL q.2, cX8 cy adS S, cX10 cy adWa Wa]) h hx hb hr narZ0 hlocks hK hP hD hS dX11_wouldSwap_23
  · replace h := (br h).2 c9
    refine lv_aload_n hx hb dX11_wouldSwap_11 rfl (lv_at hl 0 rfl) ?_
    refine go_11_29 (ci := 0) hx hb hts hown hK hE hP rfl dX11_wouldSwap_12 ?_
    refine lv_iload_n hx hb dX11_wouldSwap_15 rfl (lv_at hl 2 rfl) ?_
    replace h := bd h
    obtain ⟨q3, h4, h⟩ := h
    refine callWVi (As := [.int a2]) (rest := []) (cs' := [cX11 cy adX xT xR (adP 0) (adS 0) xIm xTr xC (adWa 0) xWb xWo xZ xU xD xE xB X, cX6 cy adP (adL 0) P, cX3 cy adL L, cX8 cy adS S, cX10 cy adWa Wa]) (isC := [1]) (isR := [0, 2, 3, 4]) hx hb hml hown hts (k_X6_hasParty l G cy ev adP (adL 0) P a2 q3 h4) wm_26_11 wm_26_12 wm_26_13 wm_1_22 wm_26_14 hd_X6_hasParty ⟨by decide, by decide⟩ hK hP hD hS hA hE rfl rfl rfl (cov_of (n := 5) rfl (by decide)) (by decide) rfl (recvW (ci := 1) hK hP rfl cX6_o rfl) rfl rfl hl.1 (Nat.le_of_ble_eq_true rfl) dX11_wouldSwap_16 (fun H locs hP hD hS => ?_)
    refine lv_if_ne (tgt := 24) hx hb dX11_wouldSwap_19 (by decide) (fun c9 => ?_) (fun c9 => ?_)
    · replace h := (br h).2 c9
      refine lv_aload_n hx hb dX11_wouldSwap_24 rfl (lv_at hl 0 rfl) ?_
      refine go_11_36 (ci := 0) hx hb hts hown hK hE hP rfl dX11_wouldSwap_25 ?_
      refine go_11_156 (ci := 3) hx hb hts hown hK hE hP rfl dX11_wouldSwap_28 ?_
      refine lv_iload_n hx hb dX11_wouldSwap_31 rfl (lv_at hl 1 rfl) ?_
      replace h := gin_inv h
      obtain ⟨h9, h⟩ := h
      refine ldWI (ci := 3) (k0 := 1) (g := S.2.1 2) (j := a1.toNatClampNeg) hx hb hK hP rfl cX8_a2 rfl h9 rfl dX11_wouldSwap_32 ?_
      refine lv_istore_n (lv' := [(3, .int (S.2.1 2 a1.toNatClampNeg)), (0, .ref (adX 0)), (1, .int a1), (2, .int a2)]) hx hb dX11_wouldSwap_33 rfl hl (by decide) rfl (fun ls hl => ?_)
      refine lv_aload_n hx hb dX11_wouldSwap_34 rfl (lv_at hl 1 rfl) ?_
      refine go_11_36 (ci := 0) hx hb hts hown hK hE hP rfl dX11_wouldSwap_35 ?_
      refine go_11_156 (ci := 3) hx hb hts hown hK hE hP rfl dX11_wouldSwap_38 ?_
      refine lv_iload_n hx hb dX11_wouldSwap_41 rfl (lv_at hl 3 rfl) ?_
      replace h := gin_inv h
      obtain ⟨h9, h⟩ := h
      refine ldWI (ci := 3) (k0 := 1) (g := S.2.1 2) (j := a2.toNatClampNeg) hx hb hK hP rfl cX8_a2 rfl h9 rfl dX11_wouldSwap_42 ?_
      refine lv_istore (lv' := [(4, .int (S.2.1 2 a2.toNatClampNeg)), (3, .int (S.2.1 2 a1.toNatClampNeg)), (0, .ref (adX 0)), (1, .int a1), (2, .int a2)]) hx hb dX11_wouldSwap_43 hl (by decide) rfl (fun ls hl => ?_)
      refine lv_iload_n hx hb dX11_wouldSwap_45 rfl (lv_at hl 1 rfl) ?_
      refine lv_iconst (v := (-1)) hx hb dX11_wouldSwap_46 (by decide) ?_
      refine lv_icmp_eq (tgt := 62) hx hb dX11_wouldSwap_47 (by decide) (fun c9 => ?_) (fun c9 => ?_)
      · replace h := (br h).1 c9
        refine lv_iconst (v := 0) hx hb dX11_wouldSwap_62 (by decide) ?_
        exact retZ (fr := fun q => q.1) (fw := fun q => wj [cX11 cy adX xT xR (adP 0) (adS 0) xIm xTr xC (adWa 0) xWb xWo xZ xU xD xE xB X, cX6 cy adP (adL 0) P, cX3 cy adL q.2, cX8 cy adS S, cX10 cy adWa Wa]) h hx hb hr narZ0 hlocks hK hP hD hS dX11_wouldSwap_63
      · replace h := (br h).2 c9
        refine lv_iload hx hb dX11_wouldSwap_50 (lv_at hl 0 rfl) ?_
        refine lv_iconst (v := (-1)) hx hb dX11_wouldSwap_52 (by decide) ?_
        refine lv_icmp_eq (tgt := 62) hx hb dX11_wouldSwap_53 (by decide) (fun c9 => ?_) (fun c9 => ?_)
        · replace h := (br h).1 c9
          refine lv_iconst (v := 0) hx hb dX11_wouldSwap_62 (by decide) ?_
          exact retZ (fr := fun q => q.1) (fw := fun q => wj [cX11 cy adX xT xR (adP 0) (adS 0) xIm xTr xC (adWa 0) xWb xWo xZ xU xD xE xB X, cX6 cy adP (adL 0) P, cX3 cy adL q.2, cX8 cy adS S, cX10 cy adWa Wa]) h hx hb hr narZ0 hlocks hK hP hD hS dX11_wouldSwap_63
        · replace h := (br h).2 c9
          refine lv_iload_n hx hb dX11_wouldSwap_56 rfl (lv_at hl 1 rfl) ?_
          refine lv_iload hx hb dX11_wouldSwap_57 (lv_at hl 0 rfl) ?_
          refine lv_icmp_ne (tgt := 64) hx hb dX11_wouldSwap_59 (by decide) (fun c9 => ?_) (fun c9 => ?_)
          · replace h := (br h).2 c9
            refine lv_aload_n hx hb dX11_wouldSwap_64 rfl (lv_at hl 2 rfl) ?_
            refine lv_iload_n hx hb dX11_wouldSwap_65 rfl (lv_at hl 3 rfl) ?_
            refine lv_iload hx hb dX11_wouldSwap_66 (lv_at hl 0 rfl) ?_
            replace h := bd h
            obtain ⟨q5, h6, h⟩ := h
            refine callWVi (As := [.int a1, .int (S.2.1 2 a2.toNatClampNeg)]) (rest := []) (cs' := [cX11 cy adX xT xR (adP 0) (adS 0) xIm xTr xC (adWa 0) xWb xWo xZ xU xD xE xB X, cX6 cy adP (adL 0) P, cX3 cy adL q5.2, cX8 cy adS S, cX10 cy adWa Wa]) (isC := [0, 1, 2, 3, 4]) (isR := []) hx hb hml hown hts (k_X11_likeNow l G cy ev N adX xT xR xIm xTr xC xWb xWo xZ xU xD xE xB X adP P adL L adS S adWa Wa a1 (S.2.1 2 a2.toNatClampNeg) q5 h6) wm_37_22 wm_37_23 wm_38_0 wm_1_2 wm_38_1 hd_X11_likeNow ⟨by decide, by decide⟩ hK hP hD hS hA hE rfl rfl rfl (cov_of (n := 5) rfl (by decide)) (by decide) rfl (recvW (ci := 0) hK hP rfl cX11_o rfl) rfl rfl hl.1 (Nat.le_of_ble_eq_true rfl) dX11_wouldSwap_68 (fun H locs hP hD hS => ?_)
            refine lv_aload_n hx hb dX11_wouldSwap_71 rfl (lv_at hl 2 rfl) ?_
            refine lv_iload_n hx hb dX11_wouldSwap_72 rfl (lv_at hl 3 rfl) ?_
            refine lv_iload_n hx hb dX11_wouldSwap_73 rfl (lv_at hl 1 rfl) ?_
            replace h := bd h
            obtain ⟨q7, h8, h⟩ := h
            refine callWVi (As := [.int a1, .int (S.2.1 2 a1.toNatClampNeg)]) (rest := [.int q5.1]) (cs' := [cX11 cy adX xT xR (adP 0) (adS 0) xIm xTr xC (adWa 0) xWb xWo xZ xU xD xE xB X, cX6 cy adP (adL 0) P, cX3 cy adL q7.2, cX8 cy adS S, cX10 cy adWa Wa]) (isC := [0, 1, 2, 3, 4]) (isR := []) hx hb hml hown hts (k_X11_likeNow l G cy ev N adX xT xR xIm xTr xC xWb xWo xZ xU xD xE xB X adP P adL q5.2 adS S adWa Wa a1 (S.2.1 2 a1.toNatClampNeg) q7 h8) wm_37_22 wm_37_23 wm_38_0 wm_1_2 wm_38_1 hd_X11_likeNow ⟨by decide, by decide⟩ hK hP hD hS hA hE rfl rfl rfl (cov_of (n := 5) rfl (by decide)) (by decide) rfl (recvW (ci := 0) hK hP rfl cX11_o rfl) rfl rfl hl.1 (Nat.le_of_ble_eq_true rfl) dX11_wouldSwap_74 (fun H locs hP hD hS => ?_)
            refine lv_icmp_le (tgt := 96) hx hb dX11_wouldSwap_77 (by decide) (fun c9 => ?_) (fun c9 => ?_)
            · replace h := (br h).1 c9
              refine lv_iconst (v := 0) hx hb dX11_wouldSwap_96 (by decide) ?_
              exact retZ (fr := fun q => q.1) (fw := fun q => wj [cX11 cy adX xT xR (adP 0) (adS 0) xIm xTr xC (adWa 0) xWb xWo xZ xU xD xE xB X, cX6 cy adP (adL 0) P, cX3 cy adL q.2, cX8 cy adS S, cX10 cy adWa Wa]) h hx hb hr narZ0 hlocks hK hP hD hS dX11_wouldSwap_97
            · replace h := (br h).2 c9
              refine lv_aload_n hx hb dX11_wouldSwap_80 rfl (lv_at hl 2 rfl) ?_
              refine lv_iload_n hx hb dX11_wouldSwap_81 rfl (lv_at hl 4 rfl) ?_
              refine lv_iload_n hx hb dX11_wouldSwap_82 rfl (lv_at hl 1 rfl) ?_
              replace h := bd h
              obtain ⟨q9, h10, h⟩ := h
              refine callWVi (As := [.int a2, .int (S.2.1 2 a1.toNatClampNeg)]) (rest := []) (cs' := [cX11 cy adX xT xR (adP 0) (adS 0) xIm xTr xC (adWa 0) xWb xWo xZ xU xD xE xB X, cX6 cy adP (adL 0) P, cX3 cy adL q9.2, cX8 cy adS S, cX10 cy adWa Wa]) (isC := [0, 1, 2, 3, 4]) (isR := []) hx hb hml hown hts (k_X11_likeNow l G cy ev N adX xT xR xIm xTr xC xWb xWo xZ xU xD xE xB X adP P adL q7.2 adS S adWa Wa a2 (S.2.1 2 a1.toNatClampNeg) q9 h10) wm_37_22 wm_37_23 wm_38_0 wm_1_2 wm_38_1 hd_X11_likeNow ⟨by decide, by decide⟩ hK hP hD hS hA hE rfl rfl rfl (cov_of (n := 5) rfl (by decide)) (by decide) rfl (recvW (ci := 0) hK hP rfl cX11_o rfl) rfl rfl hl.1 (Nat.le_of_ble_eq_true rfl) dX11_wouldSwap_83 (fun H locs hP hD hS => ?_)
              refine lv_aload_n hx hb dX11_wouldSwap_86 rfl (lv_at hl 2 rfl) ?_
              refine lv_iload_n hx hb dX11_wouldSwap_87 rfl (lv_at hl 4 rfl) ?_
              refine lv_iload hx hb dX11_wouldSwap_88 (lv_at hl 0 rfl) ?_
              replace h := bd h
              obtain ⟨q11, h12, h⟩ := h
              refine callWVi (As := [.int a2, .int (S.2.1 2 a2.toNatClampNeg)]) (rest := [.int q9.1]) (cs' := [cX11 cy adX xT xR (adP 0) (adS 0) xIm xTr xC (adWa 0) xWb xWo xZ xU xD xE xB X, cX6 cy adP (adL 0) P, cX3 cy adL q11.2, cX8 cy adS S, cX10 cy adWa Wa]) (isC := [0, 1, 2, 3, 4]) (isR := []) hx hb hml hown hts (k_X11_likeNow l G cy ev N adX xT xR xIm xTr xC xWb xWo xZ xU xD xE xB X adP P adL q9.2 adS S adWa Wa a2 (S.2.1 2 a2.toNatClampNeg) q11 h12) wm_37_22 wm_37_23 wm_38_0 wm_1_2 wm_38_1 hd_X11_likeNow ⟨by decide, by decide⟩ hK hP hD hS hA hE rfl rfl rfl (cov_of (n := 5) rfl (by decide)) (by decide) rfl (recvW (ci := 0) hK hP rfl cX11_o rfl) rfl rfl hl.1 (Nat.le_of_ble_eq_true rfl) dX11_wouldSwap_90 (fun H locs hP hD hS => ?_)
              refine lv_icmp_gt (tgt := 98) hx hb dX11_wouldSwap_93 (by decide) (fun c9 => ?_) (fun c9 => ?_)
              · replace h := (br h).1 c9
                refine lv_aload_n hx hb dX11_wouldSwap_98 rfl (lv_at hl 2 rfl) ?_
                refine go_11_29 (ci := 0) hx hb hts hown hK hE hP rfl dX11_wouldSwap_99 ?_
                refine lv_iload_n hx hb dX11_wouldSwap_102 rfl (lv_at hl 4 rfl) ?_
                refine lv_iconst (v := 0) hx hb dX11_wouldSwap_103 (by decide) ?_
                replace h := bd h
                obtain ⟨q13, h14, h⟩ := h
                refine callWVi (As := [.int a2, .int 0]) (rest := []) (cs' := [cX11 cy adX xT xR (adP 0) (adS 0) xIm xTr xC (adWa 0) xWb xWo xZ xU xD xE xB X, cX6 cy adP (adL 0) P, cX3 cy adL q11.2, cX8 cy adS S, cX10 cy adWa Wa]) (isC := [1]) (isR := [0, 2, 3, 4]) hx hb hml hown hts (k_X6_trait l G cy ev adP (adL 0) P a2 0 q13 h14) wm_26_15 wm_26_16 wm_26_17 wm_1_22 wm_26_18 hd_X6_trait ⟨by decide, by decide⟩ hK hP hD hS hA hE rfl rfl rfl (cov_of (n := 5) rfl (by decide)) (by decide) rfl (recvW (ci := 1) hK hP rfl cX6_o rfl) rfl rfl hl.1 (Nat.le_of_ble_eq_true rfl) dX11_wouldSwap_104 (fun H locs hP hD hS => ?_)
                refine lv_aload_n hx hb dX11_wouldSwap_107 rfl (lv_at hl 2 rfl) ?_
                refine go_11_29 (ci := 0) hx hb hts hown hK hE hP rfl dX11_wouldSwap_108 ?_
                refine lv_iload_n hx hb dX11_wouldSwap_111 rfl (lv_at hl 3 rfl) ?_
                refine lv_iconst (v := 0) hx hb dX11_wouldSwap_112 (by decide) ?_
                replace h := bd h
                obtain ⟨q15, h16, h⟩ := h
                refine callWVi (As := [.int a1, .int 0]) (rest := [.int q13]) (cs' := [cX11 cy adX xT xR (adP 0) (adS 0) xIm xTr xC (adWa 0) xWb xWo xZ xU xD xE xB X, cX6 cy adP (adL 0) P, cX3 cy adL q11.2, cX8 cy adS S, cX10 cy adWa Wa]) (isC := [1]) (isR := [0, 2, 3, 4]) hx hb hml hown hts (k_X6_trait l G cy ev adP (adL 0) P a1 0 q15 h16) wm_26_15 wm_26_16 wm_26_17 wm_1_22 wm_26_18 hd_X6_trait ⟨by decide, by decide⟩ hK hP hD hS hA hE rfl rfl rfl (cov_of (n := 5) rfl (by decide)) (by decide) rfl (recvW (ci := 1) hK hP rfl cX6_o rfl) rfl rfl hl.1 (Nat.le_of_ble_eq_true rfl) dX11_wouldSwap_113 (fun H locs hP hD hS => ?_)
                refine lv_isub hx hb dX11_wouldSwap_116 ?_
                refine lv_istore (lv' := [(5, .int (q13 - q15)), (4, .int (S.2.1 2 a2.toNatClampNeg)), (3, .int (S.2.1 2 a1.toNatClampNeg)), (0, .ref (adX 0)), (1, .int a1), (2, .int a2)]) hx hb dX11_wouldSwap_117 hl (by decide) rfl (fun ls hl => ?_)
                refine lv_aload_n hx hb dX11_wouldSwap_119 rfl (lv_at hl 3 rfl) ?_
                refine go_11_36 (ci := 0) hx hb hts hown hK hE hP rfl dX11_wouldSwap_120 ?_
                refine lv_iload_n hx hb dX11_wouldSwap_123 rfl (lv_at hl 2 rfl) ?_
                refine lv_aload_n hx hb dX11_wouldSwap_124 rfl (lv_at hl 3 rfl) ?_
                refine go_11_29 (ci := 0) hx hb hts hown hK hE hP rfl dX11_wouldSwap_125 ?_
                replace h := bd h
                obtain ⟨q17, h18, h⟩ := h
                refine callWVi (As := [.int (S.2.1 2 a1.toNatClampNeg), .ref (adP 0)]) (rest := []) (cs' := [cX11 cy adX xT xR (adP 0) (adS 0) xIm xTr xC (adWa 0) xWb xWo xZ xU xD xE xB X, cX6 cy adP (adL 0) P, cX3 cy adL q11.2, cX8 cy adS S, cX10 cy adWa Wa]) (isC := [3, 1]) (isR := [0, 2, 4]) hx hb hml hown hts (k_X8_personsFor l G cy ev N adS S adP (adL 0) P (S.2.1 2 a1.toNatClampNeg) q17 h18) wm_27_23 wm_28_0 wm_28_1 wm_2_2 wm_28_2 hd_X8_personsFor ⟨by decide, by decide⟩ hK hP hD hS hA hE rfl rfl rfl (cov_of (n := 5) rfl (by decide)) (by decide) rfl (recvW (ci := 3) hK hP rfl cX8_o rfl) rfl rfl hl.1 (Nat.le_of_ble_eq_true rfl) dX11_wouldSwap_128 (fun H locs hP hD hS => ?_)
                refine lv_iload hx hb dX11_wouldSwap_131 (lv_at hl 0 rfl) ?_
                refine lv_iadd hx hb dX11_wouldSwap_133 ?_
                refine lv_aload_n hx hb dX11_wouldSwap_134 rfl (lv_at hl 3 rfl) ?_
                refine go_11_29 (ci := 0) hx hb hts hown hK hE hP rfl dX11_wouldSwap_135 ?_
                replace h := bd h
                obtain ⟨q19, h20, h⟩ := h
                refine callWVi (As := []) (rest := [.int (q17 + (q13 - q15))]) (cs' := [cX11 cy adX xT xR (adP 0) (adS 0) xIm xTr xC (adWa 0) xWb xWo xZ xU xD xE xB X, cX6 cy adP (adL 0) P, cX3 cy adL q11.2, cX8 cy adS S, cX10 cy adWa Wa]) (isC := [1]) (isR := [0, 2, 3, 4]) hx hb hml hown hts (k_X6_mostTickets l G cy ev adP (adL 0) P q19 h20) wm_31_21 wm_31_22 wm_31_23 wm_1_22 wm_32_0 hd_X6_mostTickets ⟨by decide, by decide⟩ hK hP hD hS hA hE rfl rfl rfl (cov_of (n := 5) rfl (by decide)) (by decide) rfl (recvW (ci := 1) hK hP rfl cX6_o rfl) rfl rfl hl.1 (Nat.le_of_ble_eq_true rfl) dX11_wouldSwap_138 (fun H locs hP hD hS => ?_)
                refine lv_icmp_gt (tgt := 174) hx hb dX11_wouldSwap_141 (by decide) (fun c9 => ?_) (fun c9 => ?_)
                · replace h := (br h).1 c9
                  refine lv_iconst (v := 0) hx hb dX11_wouldSwap_174 (by decide) ?_
                  exact retZ (fr := fun q => q.1) (fw := fun q => wj [cX11 cy adX xT xR (adP 0) (adS 0) xIm xTr xC (adWa 0) xWb xWo xZ xU xD xE xB X, cX6 cy adP (adL 0) P, cX3 cy adL q.2, cX8 cy adS S, cX10 cy adWa Wa]) h hx hb hr narZ0 hlocks hK hP hD hS dX11_wouldSwap_175
                · replace h := (br h).2 c9
                  refine lv_aload_n hx hb dX11_wouldSwap_144 rfl (lv_at hl 3 rfl) ?_
                  refine go_11_36 (ci := 0) hx hb hts hown hK hE hP rfl dX11_wouldSwap_145 ?_
                  refine lv_iload hx hb dX11_wouldSwap_148 (lv_at hl 1 rfl) ?_
                  refine lv_aload_n hx hb dX11_wouldSwap_150 rfl (lv_at hl 3 rfl) ?_
                  refine go_11_29 (ci := 0) hx hb hts hown hK hE hP rfl dX11_wouldSwap_151 ?_
                  replace h := bd h
                  obtain ⟨q21, h22, h⟩ := h
                  refine callWVi (As := [.int (S.2.1 2 a2.toNatClampNeg), .ref (adP 0)]) (rest := []) (cs' := [cX11 cy adX xT xR (adP 0) (adS 0) xIm xTr xC (adWa 0) xWb xWo xZ xU xD xE xB X, cX6 cy adP (adL 0) P, cX3 cy adL q11.2, cX8 cy adS S, cX10 cy adWa Wa]) (isC := [3, 1]) (isR := [0, 2, 4]) hx hb hml hown hts (k_X8_personsFor l G cy ev N adS S adP (adL 0) P (S.2.1 2 a2.toNatClampNeg) q21 h22) wm_27_23 wm_28_0 wm_28_1 wm_2_2 wm_28_2 hd_X8_personsFor ⟨by decide, by decide⟩ hK hP hD hS hA hE rfl rfl rfl (cov_of (n := 5) rfl (by decide)) (by decide) rfl (recvW (ci := 3) hK hP rfl cX8_o rfl) rfl rfl hl.1 (Nat.le_of_ble_eq_true rfl) dX11_wouldSwap_154 (fun H locs hP hD hS => ?_)
                  refine lv_iload hx hb dX11_wouldSwap_157 (lv_at hl 0 rfl) ?_
                  refine lv_isub hx hb dX11_wouldSwap_159 ?_
                  refine lv_aload_n hx hb dX11_wouldSwap_160 rfl (lv_at hl 3 rfl) ?_
                  refine go_11_29 (ci := 0) hx hb hts hown hK hE hP rfl dX11_wouldSwap_161 ?_
                  replace h := bd h
                  obtain ⟨q23, h24, h⟩ := h
                  refine callWVi (As := []) (rest := [.int (q21 - (q13 - q15))]) (cs' := [cX11 cy adX xT xR (adP 0) (adS 0) xIm xTr xC (adWa 0) xWb xWo xZ xU xD xE xB X, cX6 cy adP (adL 0) P, cX3 cy adL q11.2, cX8 cy adS S, cX10 cy adWa Wa]) (isC := [1]) (isR := [0, 2, 3, 4]) hx hb hml hown hts (k_X6_mostTickets l G cy ev adP (adL 0) P q23 h24) wm_31_21 wm_31_22 wm_31_23 wm_1_22 wm_32_0 hd_X6_mostTickets ⟨by decide, by decide⟩ hK hP hD hS hA hE rfl rfl rfl (cov_of (n := 5) rfl (by decide)) (by decide) rfl (recvW (ci := 1) hK hP rfl cX6_o rfl) rfl rfl hl.1 (Nat.le_of_ble_eq_true rfl) dX11_wouldSwap_164 (fun H locs hP hD hS => ?_)
                  refine lv_icmp_gt (tgt := 174) hx hb dX11_wouldSwap_167 (by decide) (fun c9 => ?_) (fun c9 => ?_)
                  · replace h := (br h).1 c9
                    refine lv_iconst (v := 0) hx hb dX11_wouldSwap_174 (by decide) ?_
                    exact retZ (fr := fun q => q.1) (fw := fun q => wj [cX11 cy adX xT xR (adP 0) (adS 0) xIm xTr xC (adWa 0) xWb xWo xZ xU xD xE xB X, cX6 cy adP (adL 0) P, cX3 cy adL q.2, cX8 cy adS S, cX10 cy adWa Wa]) h hx hb hr narZ0 hlocks hK hP hD hS dX11_wouldSwap_175
                  · replace h := (br h).2 c9
                    refine lv_iconst (v := 1) hx hb dX11_wouldSwap_170 (by decide) ?_
                    refine lv_goto (tgt := 175) hx hb dX11_wouldSwap_171 (by decide) ?_
                    exact retZ (fr := fun q => q.1) (fw := fun q => wj [cX11 cy adX xT xR (adP 0) (adS 0) xIm xTr xC (adWa 0) xWb xWo xZ xU xD xE xB X, cX6 cy adP (adL 0) P, cX3 cy adL q.2, cX8 cy adS S, cX10 cy adWa Wa]) h hx hb hr narZ1 hlocks hK hP hD hS dX11_wouldSwap_175
              · replace h := (br h).2 c9
                refine lv_iconst (v := 0) hx hb dX11_wouldSwap_96 (by decide) ?_
                exact retZ (fr := fun q => q.1) (fw := fun q => wj [cX11 cy adX xT xR (adP 0) (adS 0) xIm xTr xC (adWa 0) xWb xWo xZ xU xD xE xB X, cX6 cy adP (adL 0) P, cX3 cy adL q.2, cX8 cy adS S, cX10 cy adWa Wa]) h hx hb hr narZ0 hlocks hK hP hD hS dX11_wouldSwap_97
          · replace h := (br h).1 c9
            refine lv_iconst (v := 0) hx hb dX11_wouldSwap_62 (by decide) ?_
            exact retZ (fr := fun q => q.1) (fw := fun q => wj [cX11 cy adX xT xR (adP 0) (adS 0) xIm xTr xC (adWa 0) xWb xWo xZ xU xD xE xB X, cX6 cy adP (adL 0) P, cX3 cy adL q.2, cX8 cy adS S, cX10 cy adWa Wa]) h hx hb hr narZ0 hlocks hK hP hD hS dX11_wouldSwap_63
    · replace h := (br h).1 c9
      refine lv_iconst (v := 0) hx hb dX11_wouldSwap_22 (by decide) ?_
      exact retZ (fr := fun q => q.1) (fw := fun q => wj [cX11 cy adX xT xR (adP 0) (adS 0) xIm xTr xC (adWa 0) xWb xWo xZ xU xD xE xB X, cX6 cy adP (adL 0) P, cX3 cy adL q.2, cX8 cy adS S, cX10 cy adWa Wa]) h hx hb hr narZ0 hlocks hK hP hD hS dX11_wouldSwap_23
theorem hds_X11_swap : yX11_swap.cls ≠ "java/lang/invoke/MethodHandle" ∧ yX11_swap.cls ≠ "java/lang/invoke/VarHandle" ∧ (parseMethodDescriptor yX11_swap.desc).map (fun d => d.parameters.length) = some 1 := ⟨by decide +kernel, by decide +kernel, by decide +kernel⟩
theorem hd_X11_swap : yX11_swap.cls = RX11 ∧ yX11_swap.cls ≠ "java/lang/invoke/MethodHandle" ∧ yX11_swap.cls ≠ "java/lang/invoke/VarHandle" ∧ (parseMethodDescriptor yX11_swap.desc).map (fun d => d.parameters.length) = some 1 := ⟨rfl, hds_X11_swap⟩
def f_X11_swap_s28 (N : Nat) (X : VV) (P : VV) (L : VV) (S : VV) (Wa : VV) (x1 : Int32) (x2 : Int32) (x3 : Int32) : Option (((Int32 × VV) ⊕ (((Int32 × VV) ⊕ (Int32 × VV))))) :=
  if P.1 0 ≤ x3 then inrO (some (.inl (x2 + 1, L))) else bnd (f_X11_wouldSwap N X P L S Wa x2 x3) (fun q2801 => if q2801.1 = 0 then some (.inl (x3 + 1, q2801.2)) else inrO (inrO (if x1 = 0 then some (x2, q2801.2) else some (x3, q2801.2))))
def f_X11_swap_s13 (N : Nat) (X : VV) (P : VV) (L : VV) (S : VV) (Wa : VV) (x1 : Int32) (x2 : Int32) : Option (((Int32 × VV) ⊕ (Int32 × VV))) :=
  if P.1 0 ≤ x2 then inrO (some ((-2), L)) else itr (fun q : Int32 × VV => f_X11_swap_s28 N X P q.2 S Wa x1 x2 q.1) N (x2 + 1, L)
def f_X11_swap (N : Nat) (X : VV) (P : VV) (L : VV) (S : VV) (Wa : VV) (a1 : Int32) : Option (Int32 × VV) :=
  if a1 < 0 then some ((-1), L) else if a1 ≤ 1 then itr (fun q : Int32 × VV => f_X11_swap_s13 N X P q.2 S Wa a1 q.1) N (0, L) else some ((-1), L)
set_option maxHeartbeats 4000000 in
set_option maxRecDepth 100000 in
theorem k_X11_swap (l : Launch) (G : va_G) (cy : Nat → ClassId) (ev : Nat → Nat) (N : Nat) (adX : Nat → Nat) (xT : Nat) (xR : Nat) (xIm : Nat) (xTr : Nat) (xC : Nat) (xWb : Nat) (xWo : Nat) (xZ : Nat) (xU : Nat) (xD : Nat) (xE : Nat) (xB : Nat) (X : VV) (adP : Nat → Nat) (P : VV) (adL : Nat → Nat) (L : VV) (adS : Nat → Nat) (S : VV) (adWa : Nat → Nat) (Wa : VV) (a1 : Int32) (res : Int32 × VV) (h : f_X11_swap N X P L S Wa a1 = some res) : MetI l yX11_swap cX11_swap 4 (some .int) 5 131 G cy ev [.ref (adX 0), .int a1] (wj [cX11 cy adX xT xR (adP 0) (adS 0) xIm xTr xC (adWa 0) xWb xWo xZ xU xD xE xB X, cX6 cy adP (adL 0) P, cX3 cy adL L, cX8 cy adS S, cX10 cy adWa Wa]) res.1 (wj [cX11 cy adX xT xR (adP 0) (adS 0) xIm xTr xC (adWa 0) xWb xWo xZ xU xD xE xB X, cX6 cy adP (adL 0) P, cX3 cy adL res.2, cX8 cy adS S, cX10 cy adWa Wa]) := by
  refine MetQ.start (by decide +kernel) (Nat.le_of_ble_eq_true rfl) (fun p e s m args below meth c A ls hx hb hr hml hown hts hlocks hK hP hD hA hl hE => ?_)
  have hS : va_S A s.heap s.heap [] := va_S.rf
  have hown : s.vm.findClass RX11 = some m.cls := hown
  have hl : lv_has ls 4 [(0, .ref (adX 0)), (1, .int a1)] := hl
  have L13 : ∀ (x1 : Int32) (n : Nat) (x2 : Int32) (L : VV) (H : Heap) (locs : List Loc) (ls : Array Slot), itr (fun q : Int32 × VV => f_X11_swap_s13 N X P q.2 S Wa x1 q.1) n (x2, L) = some res → va_P G vwCl (wj [cX11 cy adX xT xR (adP 0) (adS 0) xIm xTr xC (adWa 0) xWb xWo xZ xU xD xE xB X, cX6 cy adP (adL 0) P, cX3 cy adL L, cX8 cy adS S, cX10 cy adWa Wa]) H → va_D A (wj [cX11 cy adX xT xR (adP 0) (adS 0) xIm xTr xC (adWa 0) xWb xWo xZ xU xD xE xB X, cX6 cy adP (adL 0) P, cX3 cy adL L, cX8 cy adS S, cX10 cy adWa Wa]) → va_S A s.heap H locs → lv_has ls 4 [(0, .ref (adX 0)), (1, .int x1), (2, .int x2)] → W p l e (rmX 5 131) s m args below meth c H locs 0 0 (MQ below (mQi (res.1) G cy A (wj [cX11 cy adX xT xR (adP 0) (adS 0) xIm xTr xC (adWa 0) xWb xWo xZ xU xD xE xB X, cX6 cy adP (adL 0) P, cX3 cy adL res.2, cX8 cy adS S, cX10 cy adWa Wa])) args s 0 0 A) (F0 m 13 ls []) := by
    intro x1 n
    induction n with
    | zero => intro x2 L H locs ls h; exact (itr_zero h).elim
    | succ n ih1 =>
      intro x2 L H locs ls h hP hD hS hl
      obtain ⟨y1, h, hy1⟩ := itr_inv h
      have h : f_X11_swap_s13 N X P L S Wa x1 x2 = some y1 := h
      have L28 : ∀ (x2 : Int32) (n : Nat) (x3 : Int32) (L : VV) (H : Heap) (locs : List Loc) (ls : Array Slot), itr (fun q : Int32 × VV => f_X11_swap_s28 N X P q.2 S Wa x1 x2 q.1) n (x3, L) = some y1 → va_P G vwCl (wj [cX11 cy adX xT xR (adP 0) (adS 0) xIm xTr xC (adWa 0) xWb xWo xZ xU xD xE xB X, cX6 cy adP (adL 0) P, cX3 cy adL L, cX8 cy adS S, cX10 cy adWa Wa]) H → va_D A (wj [cX11 cy adX xT xR (adP 0) (adS 0) xIm xTr xC (adWa 0) xWb xWo xZ xU xD xE xB X, cX6 cy adP (adL 0) P, cX3 cy adL L, cX8 cy adS S, cX10 cy adWa Wa]) → va_S A s.heap H locs → lv_has ls 4 [(0, .ref (adX 0)), (1, .int x1), (2, .int x2), (3, .int x3)] → W p l e (rmX 5 131) s m args below meth c H locs 0 0 (MQ below (mQi (res.1) G cy A (wj [cX11 cy adX xT xR (adP 0) (adS 0) xIm xTr xC (adWa 0) xWb xWo xZ xU xD xE xB X, cX6 cy adP (adL 0) P, cX3 cy adL res.2, cX8 cy adS S, cX10 cy adWa Wa])) args s 0 0 A) (F0 m 28 ls []) := by
        intro x2 n
        induction n with
        | zero => intro x3 L H locs ls h; exact (itr_zero h).elim
        | succ n ih2 =>
          intro x3 L H locs ls h hP hD hS hl
          obtain ⟨y2, h, hy2⟩ := itr_inv h
          have h : f_X11_swap_s28 N X P L S Wa x1 x2 x3 = some y2 := h
          delta f_X11_swap_s28 at h
          refine lv_iload_n hx hb dX11_swap_28 rfl (lv_at hl 3 rfl) ?_
          refine lv_aload_n hx hb dX11_swap_29 rfl (lv_at hl 0 rfl) ?_
          refine go_11_29 (ci := 0) hx hb hts hown hK hE hP rfl dX11_swap_30 ?_
          refine go_11_258 (ci := 1) (x := P.1 0) hx hb hts hown hK hE hP rfl rfl dX11_swap_33 ?_
          refine lv_icmp_ge (tgt := 64) hx hb dX11_swap_36 (by decide) (fun c9 => ?_) (fun c9 => ?_)
          · replace h := (br h).1 c9
            replace h := itr_exit h hy2
            refine lv_iinc (v := x2 + 1) (lv' := [(2, .int (x2 + 1)), (0, .ref (adX 0)), (1, .int x1), (3, .int x3)]) hx hb dX11_swap_64 hl (k := 2) rfl rfl (by decide) rfl (fun ls hl => ?_)
            refine lv_goto (tgt := 13) hx hb dX11_swap_67 (by decide) ?_
            replace h := itr_back h hy1
            exact ih1 (x2 + 1) L _ _ _ h hP hD hS (lv_sub hl [1, 2, 0] rfl)
          · replace h := (br h).2 c9
            refine lv_aload_n hx hb dX11_swap_39 rfl (lv_at hl 0 rfl) ?_
            refine lv_iload_n hx hb dX11_swap_40 rfl (lv_at hl 2 rfl) ?_
            refine lv_iload_n hx hb dX11_swap_41 rfl (lv_at hl 3 rfl) ?_
            replace h := bd h
            obtain ⟨q2801, h2802, h⟩ := h
            refine callWVi (As := [.int x2, .int x3]) (rest := []) (cs' := [cX11 cy adX xT xR (adP 0) (adS 0) xIm xTr xC (adWa 0) xWb xWo xZ xU xD xE xB X, cX6 cy adP (adL 0) P, cX3 cy adL q2801.2, cX8 cy adS S, cX10 cy adWa Wa]) (isC := [0, 1, 2, 3, 4]) (isR := []) hx hb hml hown hts (k_X11_wouldSwap l G cy ev N adX xT xR xIm xTr xC xWb xWo xZ xU xD xE xB X adP P adL L adS S adWa Wa x2 x3 q2801 h2802) wm_47_3 wm_47_4 wm_47_5 wm_1_2 wm_47_6 hd_X11_wouldSwap ⟨by decide, by decide⟩ hK hP hD hS hA hE rfl rfl rfl (cov_of (n := 5) rfl (by decide)) (by decide) rfl (recvW (ci := 0) hK hP rfl cX11_o rfl) rfl rfl hl.1 (Nat.le_of_ble_eq_true rfl) dX11_swap_42 (fun H locs hP hD hS => ?_)
            refine lv_if_eq (tgt := 58) hx hb dX11_swap_45 (by decide) (fun c9 => ?_) (fun c9 => ?_)
            · replace h := (br h).1 c9
              refine lv_iinc (v := x3 + 1) (lv' := [(3, .int (x3 + 1)), (0, .ref (adX 0)), (1, .int x1), (2, .int x2)]) hx hb dX11_swap_58 hl (k := 3) rfl rfl (by decide) rfl (fun ls hl => ?_)
              refine lv_goto (tgt := 28) hx hb dX11_swap_61 (by decide) ?_
              replace h := itr_back h hy2
              exact ih2 (x3 + 1) q2801.2 _ _ _ h hP hD hS (lv_sub hl [1, 2, 3, 0] rfl)
            · replace h := (br h).2 c9
              replace h := itr_exit h hy2
              replace h := itr_exit h hy1
              refine lv_iload_n hx hb dX11_swap_48 rfl (lv_at hl 1 rfl) ?_
              refine lv_if_ne (tgt := 56) hx hb dX11_swap_49 (by decide) (fun c9 => ?_) (fun c9 => ?_)
              · replace h := (br h).2 c9
                refine lv_iload_n hx hb dX11_swap_56 rfl (lv_at hl 3 rfl) ?_
                exact retI (fr := fun q => q.1) (fw := fun q => wj [cX11 cy adX xT xR (adP 0) (adS 0) xIm xTr xC (adWa 0) xWb xWo xZ xU xD xE xB X, cX6 cy adP (adL 0) P, cX3 cy adL q.2, cX8 cy adS S, cX10 cy adWa Wa]) h hx hb hr hlocks hK hP hD hS dX11_swap_57
              · replace h := (br h).1 c9
                refine lv_iload_n hx hb dX11_swap_52 rfl (lv_at hl 2 rfl) ?_
                refine lv_goto (tgt := 57) hx hb dX11_swap_53 (by decide) ?_
                exact retI (fr := fun q => q.1) (fw := fun q => wj [cX11 cy adX xT xR (adP 0) (adS 0) xIm xTr xC (adWa 0) xWb xWo xZ xU xD xE xB X, cX6 cy adP (adL 0) P, cX3 cy adL q.2, cX8 cy adS S, cX10 cy adWa Wa]) h hx hb hr hlocks hK hP hD hS dX11_swap_57
      delta f_X11_swap_s13 at h
      refine lv_iload_n hx hb dX11_swap_13 rfl (lv_at hl 2 rfl) ?_
      refine lv_aload_n hx hb dX11_swap_14 rfl (lv_at hl 0 rfl) ?_
      refine go_11_29 (ci := 0) hx hb hts hown hK hE hP rfl dX11_swap_15 ?_
      refine go_11_258 (ci := 1) (x := P.1 0) hx hb hts hown hK hE hP rfl rfl dX11_swap_18 ?_
      refine lv_icmp_ge (tgt := 70) hx hb dX11_swap_21 (by decide) (fun c9 => ?_) (fun c9 => ?_)
      · replace h := (br h).1 c9
        replace h := itr_exit h hy1
        refine lv_bipush (v := (-2)) hx hb dX11_swap_70 (by decide) ?_
        exact retI (fr := fun q => q.1) (fw := fun q => wj [cX11 cy adX xT xR (adP 0) (adS 0) xIm xTr xC (adWa 0) xWb xWo xZ xU xD xE xB X, cX6 cy adP (adL 0) P, cX3 cy adL q.2, cX8 cy adS S, cX10 cy adWa Wa]) h hx hb hr hlocks hK hP hD hS dX11_swap_72
      · replace h := (br h).2 c9
        refine lv_iload_n hx hb dX11_swap_24 rfl (lv_at hl 2 rfl) ?_
        refine lv_iconst (v := 1) hx hb dX11_swap_25 (by decide) ?_
        refine lv_iadd hx hb dX11_swap_26 ?_
        refine lv_istore_n (lv' := [(3, .int (x2 + 1)), (0, .ref (adX 0)), (1, .int x1), (2, .int x2)]) hx hb dX11_swap_27 rfl hl (by decide) rfl (fun ls hl => ?_)
        exact L28 x2 N (x2 + 1) L _ _ _ h hP hD hS (lv_sub hl [1, 2, 3, 0] rfl)
  delta f_X11_swap at h
  refine lv_iload_n hx hb dX11_swap_0 rfl (lv_at hl 1 rfl) ?_
  refine lv_if_lt (tgt := 9) hx hb dX11_swap_1 (by decide) (fun c9 => ?_) (fun c9 => ?_)
  · replace h := (br h).1 c9
    refine lv_iconst (v := (-1)) hx hb dX11_swap_9 (by decide) ?_
    exact retI (fr := fun q => q.1) (fw := fun q => wj [cX11 cy adX xT xR (adP 0) (adS 0) xIm xTr xC (adWa 0) xWb xWo xZ xU xD xE xB X, cX6 cy adP (adL 0) P, cX3 cy adL q.2, cX8 cy adS S, cX10 cy adWa Wa]) h hx hb hr hlocks hK hP hD hS dX11_swap_10
  · replace h := (br h).2 c9
    refine lv_iload_n hx hb dX11_swap_4 rfl (lv_at hl 1 rfl) ?_
    refine lv_iconst (v := 1) hx hb dX11_swap_5 (by decide) ?_
    refine lv_icmp_le (tgt := 11) hx hb dX11_swap_6 (by decide) (fun c9 => ?_) (fun c9 => ?_)
    · replace h := (br h).1 c9
      refine lv_iconst (v := 0) hx hb dX11_swap_11 (by decide) ?_
      refine lv_istore_n (lv' := [(2, .int 0), (0, .ref (adX 0)), (1, .int a1)]) hx hb dX11_swap_12 rfl hl (by decide) rfl (fun ls hl => ?_)
      exact L13 a1 N 0 L _ _ _ h hP hD hS (lv_sub hl [1, 2, 0] rfl)
    · replace h := (br h).2 c9
      refine lv_iconst (v := (-1)) hx hb dX11_swap_9 (by decide) ?_
      exact retI (fr := fun q => q.1) (fw := fun q => wj [cX11 cy adX xT xR (adP 0) (adS 0) xIm xTr xC (adWa 0) xWb xWo xZ xU xD xE xB X, cX6 cy adP (adL 0) P, cX3 cy adL q.2, cX8 cy adS S, cX10 cy adWa Wa]) h hx hb hr hlocks hK hP hD hS dX11_swap_10
theorem hds_X11_later : yX11_later.cls ≠ "java/lang/invoke/MethodHandle" ∧ yX11_later.cls ≠ "java/lang/invoke/VarHandle" ∧ (parseMethodDescriptor yX11_later.desc).map (fun d => d.parameters.length) = some 1 := ⟨by decide +kernel, by decide +kernel, by decide +kernel⟩
theorem hd_X11_later : yX11_later.cls = RX11 ∧ yX11_later.cls ≠ "java/lang/invoke/MethodHandle" ∧ yX11_later.cls ≠ "java/lang/invoke/VarHandle" ∧ (parseMethodDescriptor yX11_later.desc).map (fun d => d.parameters.length) = some 1 := ⟨rfl, hds_X11_later⟩
def f_X11_later_s22 (N : Nat) (X : VV) (P : VV) (L : VV) (S : VV) (Tr : VV) (C : VV) (Wo : VV) (x1 : Int32) (x2 : Int32) : Option (((Int32 × VV × VV × VV × VV) ⊕ (Int32 × VV × VV × VV × VV))) :=
  if x1 < x2 then inrO (gin x1 3 (some (Wo.2.1 7 x1.toNatClampNeg, L, Tr, C, Wo))) else bnd (f_X11_tryToday N X P L S Tr C Wo) (fun q2201 => gin x2 3 (gin x2 3 (some (.inl (x2 + 1, q2201.1, q2201.2.1, q2201.2.2, sr Wo 7 x2.toNatClampNeg (q2201.2.1.2.1 14 x2.toNatClampNeg))))))
def f_X11_later (N : Nat) (X : VV) (P : VV) (L : VV) (S : VV) (Tr : VV) (C : VV) (Wo : VV) (a1 : Int32) : Option (Int32 × VV × VV × VV × VV) :=
  bnd (f_X6_hasSitting P a1) (fun q1 => if q1 = 0 then some ((-1), L, Tr, C, Wo) else bnd (f_X10_reset N Wo) (fun q3 => itr (fun q : Int32 × VV × VV × VV × VV => f_X11_later_s22 N X P q.2.1 S q.2.2.1 q.2.2.2.1 q.2.2.2.2 a1 q.1) N (1, L, Tr, C, q3)))
set_option maxHeartbeats 4000000 in
set_option maxRecDepth 100000 in
theorem k_X11_later (l : Launch) (G : va_G) (cy : Nat → ClassId) (ev : Nat → Nat) (N : Nat) (adX : Nat → Nat) (xT : Nat) (xR : Nat) (xIm : Nat) (xWa : Nat) (xWb : Nat) (xZ : Nat) (xU : Nat) (xD : Nat) (xE : Nat) (xB : Nat) (X : VV) (adP : Nat → Nat) (P : VV) (adL : Nat → Nat) (L : VV) (adS : Nat → Nat) (S : VV) (adTr : Nat → Nat) (Tr : VV) (adC : Nat → Nat) (C : VV) (adWo : Nat → Nat) (Wo : VV) (a1 : Int32) (res : Int32 × VV × VV × VV × VV) (h : f_X11_later N X P L S Tr C Wo a1 = some res) : MetI l yX11_later cX11_later 3 (some .int) 7 187 G cy ev [.ref (adX 0), .int a1] (wj [cX11 cy adX xT xR (adP 0) (adS 0) xIm (adTr 0) (adC 0) xWa xWb (adWo 0) xZ xU xD xE xB X, cX6 cy adP (adL 0) P, cX3 cy adL L, cX8 cy adS S, cX8 cy adTr Tr, cX0 cy adC C, cX10 cy adWo Wo]) res.1 (wj [cX11 cy adX xT xR (adP 0) (adS 0) xIm (adTr 0) (adC 0) xWa xWb (adWo 0) xZ xU xD xE xB X, cX6 cy adP (adL 0) P, cX3 cy adL res.2.1, cX8 cy adS S, cX8 cy adTr res.2.2.1, cX0 cy adC res.2.2.2.1, cX10 cy adWo res.2.2.2.2]) := by
  refine MetQ.start (by decide +kernel) (Nat.le_of_ble_eq_true rfl) (fun p e s m args below meth c A ls hx hb hr hml hown hts hlocks hK hP hD hA hl hE => ?_)
  have hS : va_S A s.heap s.heap [] := va_S.rf
  have hown : s.vm.findClass RX11 = some m.cls := hown
  have hl : lv_has ls 3 [(0, .ref (adX 0)), (1, .int a1)] := hl
  have L22 : ∀ (x1 : Int32) (n : Nat) (x2 : Int32) (L : VV) (Tr : VV) (C : VV) (Wo : VV) (H : Heap) (locs : List Loc) (ls : Array Slot), itr (fun q : Int32 × VV × VV × VV × VV => f_X11_later_s22 N X P q.2.1 S q.2.2.1 q.2.2.2.1 q.2.2.2.2 x1 q.1) n (x2, L, Tr, C, Wo) = some res → va_P G vwCl (wj [cX11 cy adX xT xR (adP 0) (adS 0) xIm (adTr 0) (adC 0) xWa xWb (adWo 0) xZ xU xD xE xB X, cX6 cy adP (adL 0) P, cX3 cy adL L, cX8 cy adS S, cX8 cy adTr Tr, cX0 cy adC C, cX10 cy adWo Wo]) H → va_D A (wj [cX11 cy adX xT xR (adP 0) (adS 0) xIm (adTr 0) (adC 0) xWa xWb (adWo 0) xZ xU xD xE xB X, cX6 cy adP (adL 0) P, cX3 cy adL L, cX8 cy adS S, cX8 cy adTr Tr, cX0 cy adC C, cX10 cy adWo Wo]) → va_S A s.heap H locs → lv_has ls 3 [(0, .ref (adX 0)), (1, .int x1), (2, .int x2)] → W p l e (rmX 7 187) s m args below meth c H locs 0 0 (MQ below (mQi (res.1) G cy A (wj [cX11 cy adX xT xR (adP 0) (adS 0) xIm (adTr 0) (adC 0) xWa xWb (adWo 0) xZ xU xD xE xB X, cX6 cy adP (adL 0) P, cX3 cy adL res.2.1, cX8 cy adS S, cX8 cy adTr res.2.2.1, cX0 cy adC res.2.2.2.1, cX10 cy adWo res.2.2.2.2])) args s 0 0 A) (F0 m 22 ls []) := by
    intro x1 n
    induction n with
    | zero => intro x2 L Tr C Wo H locs ls h; exact (itr_zero h).elim
    | succ n ih1 =>
      intro x2 L Tr C Wo H locs ls h hP hD hS hl
      obtain ⟨y1, h, hy1⟩ := itr_inv h
      have h : f_X11_later_s22 N X P L S Tr C Wo x1 x2 = some y1 := h
      delta f_X11_later_s22 at h
      refine lv_iload_n hx hb dX11_later_22 rfl (lv_at hl 2 rfl) ?_
      refine lv_iload_n hx hb dX11_later_23 rfl (lv_at hl 1 rfl) ?_
      refine lv_icmp_gt (tgt := 59) hx hb dX11_later_24 (by decide) (fun c9 => ?_) (fun c9 => ?_)
      · replace h := (br h).1 c9
        replace h := itr_exit h hy1
        refine lv_aload_n hx hb dX11_later_59 rfl (lv_at hl 0 rfl) ?_
        refine go_11_67 (ci := 0) hx hb hts hown hK hE hP rfl dX11_later_60 ?_
        refine go_11_324 (ci := 6) hx hb hts hown hK hE hP rfl dX11_later_63 ?_
        refine lv_iload_n hx hb dX11_later_66 rfl (lv_at hl 1 rfl) ?_
        replace h := gin_inv h
        obtain ⟨h9, h⟩ := h
        refine ldWI (ci := 6) (k0 := 1) (g := Wo.2.1 7) (j := x1.toNatClampNeg) hx hb hK hP rfl cX10_a7 rfl h9 rfl dX11_later_67 ?_
        exact retI (fr := fun q => q.1) (fw := fun q => wj [cX11 cy adX xT xR (adP 0) (adS 0) xIm (adTr 0) (adC 0) xWa xWb (adWo 0) xZ xU xD xE xB X, cX6 cy adP (adL 0) P, cX3 cy adL q.2.1, cX8 cy adS S, cX8 cy adTr q.2.2.1, cX0 cy adC q.2.2.2.1, cX10 cy adWo q.2.2.2.2]) h hx hb hr hlocks hK hP hD hS dX11_later_68
      · replace h := (br h).2 c9
        refine lv_aload_n hx hb dX11_later_27 rfl (lv_at hl 0 rfl) ?_
        refine lv_aload_n hx hb dX11_later_28 rfl (lv_at hl 0 rfl) ?_
        refine go_11_67 (ci := 0) hx hb hts hown hK hE hP rfl dX11_later_29 ?_
        replace h := bd h
        obtain ⟨q2201, h2202, h⟩ := h
        refine callWVv (As := [.ref (adWo 0)]) (rest := []) (cs' := [cX11 cy adX xT xR (adP 0) (adS 0) xIm (adTr 0) (adC 0) xWa xWb (adWo 0) xZ xU xD xE xB X, cX6 cy adP (adL 0) P, cX3 cy adL q2201.1, cX8 cy adS S, cX8 cy adTr q2201.2.1, cX0 cy adC q2201.2.2, cX10 cy adWo Wo]) (isC := [0, 1, 2, 3, 4, 5, 6]) (isR := []) hx hb hml hown hts (k_X11_tryToday l G cy ev N adX xT xR xIm xWa xWb (adWo 0) xZ xU xD xE xB X adP P adL L adS S adTr Tr adC C adWo Wo q2201 h2202) wm_42_22 wm_42_23 wm_43_0 wm_1_2 wm_43_1 hd_X11_tryToday ⟨by decide, by decide⟩ hK hP hD hS hA hE rfl rfl rfl (cov_of (n := 7) rfl (by decide)) (by decide) rfl (recvW (ci := 0) hK hP rfl cX11_o rfl) rfl rfl hl.1 (Nat.le_of_ble_eq_true rfl) dX11_later_32 (fun H locs hP hD hS => ?_)
        refine lv_aload_n hx hb dX11_later_35 rfl (lv_at hl 0 rfl) ?_
        refine go_11_67 (ci := 0) hx hb hts hown hK hE hP rfl dX11_later_36 ?_
        refine go_11_324 (ci := 6) hx hb hts hown hK hE hP rfl dX11_later_39 ?_
        refine lv_iload_n hx hb dX11_later_42 rfl (lv_at hl 2 rfl) ?_
        refine lv_aload_n hx hb dX11_later_43 rfl (lv_at hl 0 rfl) ?_
        refine go_11_47 (ci := 0) hx hb hts hown hK hE hP rfl dX11_later_44 ?_
        refine go_11_202 (ci := 4) hx hb hts hown hK hE hP rfl dX11_later_47 ?_
        refine lv_iload_n hx hb dX11_later_50 rfl (lv_at hl 2 rfl) ?_
        replace h := gin_inv h
        obtain ⟨h9, h⟩ := h
        refine ldWI (ci := 4) (k0 := 9) (g := q2201.2.1.2.1 14) (j := x2.toNatClampNeg) hx hb hK hP rfl cX8_a14 rfl h9 rfl dX11_later_51 ?_
        replace h := gin_inv h
        obtain ⟨h9, h⟩ := h
        refine stWI (ci := 6) (k0 := 1) (j := x2.toNatClampNeg) (cs' := [cX11 cy adX xT xR (adP 0) (adS 0) xIm (adTr 0) (adC 0) xWa xWb (adWo 0) xZ xU xD xE xB X, cX6 cy adP (adL 0) P, cX3 cy adL q2201.1, cX8 cy adS S, cX8 cy adTr q2201.2.1, cX0 cy adC q2201.2.2, cX10 cy adWo (sr Wo 7 x2.toNatClampNeg (q2201.2.1.2.1 14 x2.toNatClampNeg))]) hx hb hK hP hD hS rfl cX10_a7 h9 rfl cX10_s7 rfl dX11_later_52 (fun H locs hP hD hS => ?_)
        refine lv_iinc (v := x2 + 1) (lv' := [(2, .int (x2 + 1)), (0, .ref (adX 0)), (1, .int x1)]) hx hb dX11_later_53 hl (k := 2) rfl rfl (by decide) rfl (fun ls hl => ?_)
        refine lv_goto (tgt := 22) hx hb dX11_later_56 (by decide) ?_
        replace h := itr_back h hy1
        exact ih1 (x2 + 1) q2201.1 q2201.2.1 q2201.2.2 (sr Wo 7 x2.toNatClampNeg (q2201.2.1.2.1 14 x2.toNatClampNeg)) _ _ _ h hP hD hS (lv_sub hl [1, 2, 0] rfl)
  delta f_X11_later at h
  refine lv_aload_n hx hb dX11_later_0 rfl (lv_at hl 0 rfl) ?_
  refine go_11_29 (ci := 0) hx hb hts hown hK hE hP rfl dX11_later_1 ?_
  refine lv_iload_n hx hb dX11_later_4 rfl (lv_at hl 1 rfl) ?_
  replace h := bd h
  obtain ⟨q1, h2, h⟩ := h
  refine callWVi (As := [.int a1]) (rest := []) (cs' := [cX11 cy adX xT xR (adP 0) (adS 0) xIm (adTr 0) (adC 0) xWa xWb (adWo 0) xZ xU xD xE xB X, cX6 cy adP (adL 0) P, cX3 cy adL L, cX8 cy adS S, cX8 cy adTr Tr, cX0 cy adC C, cX10 cy adWo Wo]) (isC := [1]) (isR := [0, 2, 3, 4, 5, 6]) hx hb hml hown hts (k_X6_hasSitting l G cy ev adP (adL 0) P a1 q1 h2) wm_27_19 wm_27_20 wm_27_21 wm_1_22 wm_27_22 hd_X6_hasSitting ⟨by decide, by decide⟩ hK hP hD hS hA hE rfl rfl rfl (cov_of (n := 7) rfl (by decide)) (by decide) rfl (recvW (ci := 1) hK hP rfl cX6_o rfl) rfl rfl hl.1 (Nat.le_of_ble_eq_true rfl) dX11_later_5 (fun H locs hP hD hS => ?_)
  refine lv_if_ne (tgt := 13) hx hb dX11_later_8 (by decide) (fun c9 => ?_) (fun c9 => ?_)
  · replace h := (br h).2 c9
    refine lv_aload_n hx hb dX11_later_13 rfl (lv_at hl 0 rfl) ?_
    refine go_11_67 (ci := 0) hx hb hts hown hK hE hP rfl dX11_later_14 ?_
    replace h := bd h
    obtain ⟨q3, h4, h⟩ := h
    refine callWVv (As := []) (rest := []) (cs' := [cX11 cy adX xT xR (adP 0) (adS 0) xIm (adTr 0) (adC 0) xWa xWb (adWo 0) xZ xU xD xE xB X, cX6 cy adP (adL 0) P, cX3 cy adL L, cX8 cy adS S, cX8 cy adTr Tr, cX0 cy adC C, cX10 cy adWo q3]) (isC := [6]) (isR := [0, 1, 2, 3, 4, 5]) hx hb hml hown hts (k_X10_reset l G cy ev N adWo Wo q3 h4) wm_44_7 wm_44_8 wm_44_9 wm_2_13 wm_44_10 hd_X10_reset ⟨by decide, by decide⟩ hK hP hD hS hA hE rfl rfl rfl (cov_of (n := 7) rfl (by decide)) (by decide) rfl (recvW (ci := 6) hK hP rfl cX10_o rfl) rfl rfl hl.1 (Nat.le_of_ble_eq_true rfl) dX11_later_17 (fun H locs hP hD hS => ?_)
    refine lv_iconst (v := 1) hx hb dX11_later_20 (by decide) ?_
    refine lv_istore_n (lv' := [(2, .int 1), (0, .ref (adX 0)), (1, .int a1)]) hx hb dX11_later_21 rfl hl (by decide) rfl (fun ls hl => ?_)
    exact L22 a1 N 1 L Tr C q3 _ _ _ h hP hD hS (lv_sub hl [1, 2, 0] rfl)
  · replace h := (br h).1 c9
    refine lv_iconst (v := (-1)) hx hb dX11_later_11 (by decide) ?_
    exact retI (fr := fun q => q.1) (fw := fun q => wj [cX11 cy adX xT xR (adP 0) (adS 0) xIm (adTr 0) (adC 0) xWa xWb (adWo 0) xZ xU xD xE xB X, cX6 cy adP (adL 0) P, cX3 cy adL q.2.1, cX8 cy adS S, cX8 cy adTr q.2.2.1, cX0 cy adC q.2.2.2.1, cX10 cy adWo q.2.2.2.2]) h hx hb hr hlocks hK hP hD hS dX11_later_12
theorem hds_X11_gain : yX11_gain.cls ≠ "java/lang/invoke/MethodHandle" ∧ yX11_gain.cls ≠ "java/lang/invoke/VarHandle" ∧ (parseMethodDescriptor yX11_gain.desc).map (fun d => d.parameters.length) = some 4 := ⟨by decide +kernel, by decide +kernel, by decide +kernel⟩
theorem hd_X11_gain : yX11_gain.cls = RX11 ∧ yX11_gain.cls ≠ "java/lang/invoke/MethodHandle" ∧ yX11_gain.cls ≠ "java/lang/invoke/VarHandle" ∧ (parseMethodDescriptor yX11_gain.desc).map (fun d => d.parameters.length) = some 4 := ⟨rfl, hds_X11_gain⟩
def f_X11_gain (a1 : Int32) (a2 : Int32) (a3 : Int32) (a4 : Int32) : Option (Int32) :=
  if a3 = 0 then some 0 else if a4 = 0 then some a1 else some (a1 - (2 * a2))
set_option maxHeartbeats 4000000 in
set_option maxRecDepth 100000 in
theorem k_X11_gain (l : Launch) (G : va_G) (cy : Nat → ClassId) (ev : Nat → Nat) (w : va_W)  (a1 : Int32) (a2 : Int32) (a3 : Int32) (a4 : Int32) (res : Int32) (h : f_X11_gain a1 a2 a3 a4 = some res) : MetI l yX11_gain cX11_gain 4 (some .int) 0 0 G cy ev [.int a1, .int a2, .int a3, .int a4] (w) res (w) := by
  refine MetQ.start (by decide +kernel) (Nat.le_of_ble_eq_true rfl) (fun p e s m args below meth c A ls hx hb hr hml hown hts hlocks hK hP hD hA hl hE => ?_)
  have hS : va_S A s.heap s.heap [] := va_S.rf
  have hown : s.vm.findClass RX11 = some m.cls := hown
  have hl : lv_has ls 4 [(0, .int a1), (1, .int a2), (2, .int a3), (3, .int a4)] := hl
  delta f_X11_gain at h
  refine lv_iload_n hx hb dX11_gain_0 rfl (lv_at hl 2 rfl) ?_
  refine lv_if_ne (tgt := 6) hx hb dX11_gain_1 (by decide) (fun c9 => ?_) (fun c9 => ?_)
  · replace h := (br h).2 c9
    refine lv_iload_n hx hb dX11_gain_6 rfl (lv_at hl 3 rfl) ?_
    refine lv_if_ne (tgt := 14) hx hb dX11_gain_7 (by decide) (fun c9 => ?_) (fun c9 => ?_)
    · replace h := (br h).2 c9
      refine lv_iload_n hx hb dX11_gain_14 rfl (lv_at hl 0 rfl) ?_
      refine lv_iconst (v := 2) hx hb dX11_gain_15 (by decide) ?_
      refine lv_iload_n hx hb dX11_gain_16 rfl (lv_at hl 1 rfl) ?_
      refine lv_imul hx hb dX11_gain_17 ?_
      refine lv_isub hx hb dX11_gain_18 ?_
      exact retI (fr := fun q => q) (fw := fun _ => w) h hx hb hr hlocks hK hP hD hS dX11_gain_19
    · replace h := (br h).1 c9
      refine lv_iload_n hx hb dX11_gain_10 rfl (lv_at hl 0 rfl) ?_
      refine lv_goto (tgt := 19) hx hb dX11_gain_11 (by decide) ?_
      exact retI (fr := fun q => q) (fw := fun _ => w) h hx hb hr hlocks hK hP hD hS dX11_gain_19
  · replace h := (br h).1 c9
    refine lv_iconst (v := 0) hx hb dX11_gain_4 (by decide) ?_
    exact retI (fr := fun q => q) (fw := fun _ => w) h hx hb hr hlocks hK hP hD hS dX11_gain_5
theorem hds_X11_isRest : yX11_isRest.cls ≠ "java/lang/invoke/MethodHandle" ∧ yX11_isRest.cls ≠ "java/lang/invoke/VarHandle" ∧ (parseMethodDescriptor yX11_isRest.desc).map (fun d => d.parameters.length) = some 4 := ⟨by decide +kernel, by decide +kernel, by decide +kernel⟩
theorem hd_X11_isRest : yX11_isRest.cls = RX11 ∧ yX11_isRest.cls ≠ "java/lang/invoke/MethodHandle" ∧ yX11_isRest.cls ≠ "java/lang/invoke/VarHandle" ∧ (parseMethodDescriptor yX11_isRest.desc).map (fun d => d.parameters.length) = some 4 := ⟨rfl, hds_X11_isRest⟩
def f_X11_isRest (a1 : Int32) (a2 : Int32) (a3 : Int32) (a4 : Int32) : Option (Int32) :=
  bnd (f_X11_gain a1 a2 a3 a4) (fun q1 => bnd (f_X11_gain a1 a2 (1 - a3) a4) (fun q3 => if q1 < q3 then some 0 else bnd (f_X11_gain a2 a1 a4 a3) (fun q5 => bnd (f_X11_gain a2 a1 (1 - a4) a3) (fun q7 => if q5 < q7 then some 0 else some 1))))
set_option maxHeartbeats 4000000 in
set_option maxRecDepth 100000 in
theorem k_X11_isRest (l : Launch) (G : va_G) (cy : Nat → ClassId) (ev : Nat → Nat) (w : va_W)  (a1 : Int32) (a2 : Int32) (a3 : Int32) (a4 : Int32) (res : Int32) (h : f_X11_isRest a1 a2 a3 a4 = some res) : MetI l yX11_isRest cX11_isRest 4 (some .boolean) 1 23 G cy ev [.int a1, .int a2, .int a3, .int a4] (w) res (w) := by
  refine MetQ.start (by decide +kernel) (Nat.le_of_ble_eq_true rfl) (fun p e s m args below meth c A ls hx hb hr hml hown hts hlocks hK hP hD hA hl hE => ?_)
  have hS : va_S A s.heap s.heap [] := va_S.rf
  have hown : s.vm.findClass RX11 = some m.cls := hown
  have hl : lv_has ls 4 [(0, .int a1), (1, .int a2), (2, .int a3), (3, .int a4)] := hl
  delta f_X11_isRest at h
  refine lv_iload_n hx hb dX11_isRest_0 rfl (lv_at hl 0 rfl) ?_
  refine lv_iload_n hx hb dX11_isRest_1 rfl (lv_at hl 1 rfl) ?_
  refine lv_iload_n hx hb dX11_isRest_2 rfl (lv_at hl 2 rfl) ?_
  refine lv_iload_n hx hb dX11_isRest_3 rfl (lv_at hl 3 rfl) ?_
  replace h := bd h
  obtain ⟨q1, h2, h⟩ := h
  refine callSi0 (As := [.int a1, .int a2, .int a3, .int a4]) (rest := []) hx hb hml hown hts (k_X11_gain l G cy ev (w) a1 a2 a3 a4 q1 h2) wm_48_14 wm_48_15 wm_1_2 wm_48_16 hd_X11_gain ⟨by decide, by decide⟩ hK hP hD hS hA hE rfl rfl hl.1 (Nat.le_of_ble_eq_true rfl) dX11_isRest_4 (fun H locs hP hD hS => ?_)
  refine lv_iload_n hx hb dX11_isRest_7 rfl (lv_at hl 0 rfl) ?_
  refine lv_iload_n hx hb dX11_isRest_8 rfl (lv_at hl 1 rfl) ?_
  refine lv_iconst (v := 1) hx hb dX11_isRest_9 (by decide) ?_
  refine lv_iload_n hx hb dX11_isRest_10 rfl (lv_at hl 2 rfl) ?_
  refine lv_isub hx hb dX11_isRest_11 ?_
  refine lv_iload_n hx hb dX11_isRest_12 rfl (lv_at hl 3 rfl) ?_
  replace h := bd h
  obtain ⟨q3, h4, h⟩ := h
  refine callSi0 (As := [.int a1, .int a2, .int (1 - a3), .int a4]) (rest := [.int q1]) hx hb hml hown hts (k_X11_gain l G cy ev (w) a1 a2 (1 - a3) a4 q3 h4) wm_48_14 wm_48_15 wm_1_2 wm_48_16 hd_X11_gain ⟨by decide, by decide⟩ hK hP hD hS hA hE rfl rfl hl.1 (Nat.le_of_ble_eq_true rfl) dX11_isRest_13 (fun H locs hP hD hS => ?_)
  refine lv_icmp_lt (tgt := 42) hx hb dX11_isRest_16 (by decide) (fun c9 => ?_) (fun c9 => ?_)
  · replace h := (br h).1 c9
    refine lv_iconst (v := 0) hx hb dX11_isRest_42 (by decide) ?_
    exact retZ (fr := fun q => q) (fw := fun _ => w) h hx hb hr narZ0 hlocks hK hP hD hS dX11_isRest_43
  · replace h := (br h).2 c9
    refine lv_iload_n hx hb dX11_isRest_19 rfl (lv_at hl 1 rfl) ?_
    refine lv_iload_n hx hb dX11_isRest_20 rfl (lv_at hl 0 rfl) ?_
    refine lv_iload_n hx hb dX11_isRest_21 rfl (lv_at hl 3 rfl) ?_
    refine lv_iload_n hx hb dX11_isRest_22 rfl (lv_at hl 2 rfl) ?_
    replace h := bd h
    obtain ⟨q5, h6, h⟩ := h
    refine callSi0 (As := [.int a2, .int a1, .int a4, .int a3]) (rest := []) hx hb hml hown hts (k_X11_gain l G cy ev (w) a2 a1 a4 a3 q5 h6) wm_48_14 wm_48_15 wm_1_2 wm_48_16 hd_X11_gain ⟨by decide, by decide⟩ hK hP hD hS hA hE rfl rfl hl.1 (Nat.le_of_ble_eq_true rfl) dX11_isRest_23 (fun H locs hP hD hS => ?_)
    refine lv_iload_n hx hb dX11_isRest_26 rfl (lv_at hl 1 rfl) ?_
    refine lv_iload_n hx hb dX11_isRest_27 rfl (lv_at hl 0 rfl) ?_
    refine lv_iconst (v := 1) hx hb dX11_isRest_28 (by decide) ?_
    refine lv_iload_n hx hb dX11_isRest_29 rfl (lv_at hl 3 rfl) ?_
    refine lv_isub hx hb dX11_isRest_30 ?_
    refine lv_iload_n hx hb dX11_isRest_31 rfl (lv_at hl 2 rfl) ?_
    replace h := bd h
    obtain ⟨q7, h8, h⟩ := h
    refine callSi0 (As := [.int a2, .int a1, .int (1 - a4), .int a3]) (rest := [.int q5]) hx hb hml hown hts (k_X11_gain l G cy ev (w) a2 a1 (1 - a4) a3 q7 h8) wm_48_14 wm_48_15 wm_1_2 wm_48_16 hd_X11_gain ⟨by decide, by decide⟩ hK hP hD hS hA hE rfl rfl hl.1 (Nat.le_of_ble_eq_true rfl) dX11_isRest_32 (fun H locs hP hD hS => ?_)
    refine lv_icmp_lt (tgt := 42) hx hb dX11_isRest_35 (by decide) (fun c9 => ?_) (fun c9 => ?_)
    · replace h := (br h).1 c9
      refine lv_iconst (v := 0) hx hb dX11_isRest_42 (by decide) ?_
      exact retZ (fr := fun q => q) (fw := fun _ => w) h hx hb hr narZ0 hlocks hK hP hD hS dX11_isRest_43
    · replace h := (br h).2 c9
      refine lv_iconst (v := 1) hx hb dX11_isRest_38 (by decide) ?_
      refine lv_goto (tgt := 43) hx hb dX11_isRest_39 (by decide) ?_
      exact retZ (fr := fun q => q) (fw := fun _ => w) h hx hb hr narZ1 hlocks hK hP hD hS dX11_isRest_43
theorem hds_X11_areTwo : yX11_areTwo.cls ≠ "java/lang/invoke/MethodHandle" ∧ yX11_areTwo.cls ≠ "java/lang/invoke/VarHandle" ∧ (parseMethodDescriptor yX11_areTwo.desc).map (fun d => d.parameters.length) = some 2 := ⟨by decide +kernel, by decide +kernel, by decide +kernel⟩
theorem hd_X11_areTwo : yX11_areTwo.cls = RX11 ∧ yX11_areTwo.cls ≠ "java/lang/invoke/MethodHandle" ∧ yX11_areTwo.cls ≠ "java/lang/invoke/VarHandle" ∧ (parseMethodDescriptor yX11_areTwo.desc).map (fun d => d.parameters.length) = some 2 := ⟨rfl, hds_X11_areTwo⟩
def f_X11_areTwo (X : VV) (P : VV) (a1 : Int32) (a2 : Int32) : Option (Int32) :=
  bnd (f_X6_hasParty P a1) (fun q1 => if q1 = 0 then some 0 else bnd (f_X6_hasParty P a2) (fun q3 => if q3 = 0 then some 0 else if a1 = a2 then some 0 else some 1))
set_option maxHeartbeats 4000000 in
set_option maxRecDepth 100000 in
theorem k_X11_areTwo (l : Launch) (G : va_G) (cy : Nat → ClassId) (ev : Nat → Nat) (adX : Nat → Nat) (xT : Nat) (xR : Nat) (xS : Nat) (xIm : Nat) (xTr : Nat) (xC : Nat) (xWa : Nat) (xWb : Nat) (xWo : Nat) (xZ : Nat) (xU : Nat) (xD : Nat) (xE : Nat) (xB : Nat) (X : VV) (adP : Nat → Nat) (xL : Nat) (P : VV) (a1 : Int32) (a2 : Int32) (res : Int32) (h : f_X11_areTwo X P a1 a2 = some res) : MetI l yX11_areTwo cX11_areTwo 3 (some .boolean) 1 21 G cy ev [.ref (adX 0), .int a1, .int a2] (wj [cX11 cy adX xT xR (adP 0) xS xIm xTr xC xWa xWb xWo xZ xU xD xE xB X, cX6 cy adP xL P]) res (wj [cX11 cy adX xT xR (adP 0) xS xIm xTr xC xWa xWb xWo xZ xU xD xE xB X, cX6 cy adP xL P]) := by
  refine MetQ.start (by decide +kernel) (Nat.le_of_ble_eq_true rfl) (fun p e s m args below meth c A ls hx hb hr hml hown hts hlocks hK hP hD hA hl hE => ?_)
  have hS : va_S A s.heap s.heap [] := va_S.rf
  have hown : s.vm.findClass RX11 = some m.cls := hown
  have hl : lv_has ls 3 [(0, .ref (adX 0)), (1, .int a1), (2, .int a2)] := hl
  delta f_X11_areTwo at h
  refine lv_aload_n hx hb dX11_areTwo_0 rfl (lv_at hl 0 rfl) ?_
  refine go_11_29 (ci := 0) hx hb hts hown hK hE hP rfl dX11_areTwo_1 ?_
  refine lv_iload_n hx hb dX11_areTwo_4 rfl (lv_at hl 1 rfl) ?_
  replace h := bd h
  obtain ⟨q1, h2, h⟩ := h
  refine callWVi (As := [.int a1]) (rest := []) (cs' := [cX11 cy adX xT xR (adP 0) xS xIm xTr xC xWa xWb xWo xZ xU xD xE xB X, cX6 cy adP xL P]) (isC := [1]) (isR := [0]) hx hb hml hown hts (k_X6_hasParty l G cy ev adP xL P a1 q1 h2) wm_26_11 wm_26_12 wm_26_13 wm_1_22 wm_26_14 hd_X6_hasParty ⟨by decide, by decide⟩ hK hP hD hS hA hE rfl rfl rfl (cov_of (n := 2) rfl (by decide)) (by decide) rfl (recvW (ci := 1) hK hP rfl cX6_o rfl) rfl rfl hl.1 (Nat.le_of_ble_eq_true rfl) dX11_areTwo_5 (fun H locs hP hD hS => ?_)
  refine lv_if_eq (tgt := 31) hx hb dX11_areTwo_8 (by decide) (fun c9 => ?_) (fun c9 => ?_)
  · replace h := (br h).1 c9
    refine lv_iconst (v := 0) hx hb dX11_areTwo_31 (by decide) ?_
    exact retZ (fr := fun q => q) (fw := fun _ => wj [cX11 cy adX xT xR (adP 0) xS xIm xTr xC xWa xWb xWo xZ xU xD xE xB X, cX6 cy adP xL P]) h hx hb hr narZ0 hlocks hK hP hD hS dX11_areTwo_32
  · replace h := (br h).2 c9
    refine lv_aload_n hx hb dX11_areTwo_11 rfl (lv_at hl 0 rfl) ?_
    refine go_11_29 (ci := 0) hx hb hts hown hK hE hP rfl dX11_areTwo_12 ?_
    refine lv_iload_n hx hb dX11_areTwo_15 rfl (lv_at hl 2 rfl) ?_
    replace h := bd h
    obtain ⟨q3, h4, h⟩ := h
    refine callWVi (As := [.int a2]) (rest := []) (cs' := [cX11 cy adX xT xR (adP 0) xS xIm xTr xC xWa xWb xWo xZ xU xD xE xB X, cX6 cy adP xL P]) (isC := [1]) (isR := [0]) hx hb hml hown hts (k_X6_hasParty l G cy ev adP xL P a2 q3 h4) wm_26_11 wm_26_12 wm_26_13 wm_1_22 wm_26_14 hd_X6_hasParty ⟨by decide, by decide⟩ hK hP hD hS hA hE rfl rfl rfl (cov_of (n := 2) rfl (by decide)) (by decide) rfl (recvW (ci := 1) hK hP rfl cX6_o rfl) rfl rfl hl.1 (Nat.le_of_ble_eq_true rfl) dX11_areTwo_16 (fun H locs hP hD hS => ?_)
    refine lv_if_eq (tgt := 31) hx hb dX11_areTwo_19 (by decide) (fun c9 => ?_) (fun c9 => ?_)
    · replace h := (br h).1 c9
      refine lv_iconst (v := 0) hx hb dX11_areTwo_31 (by decide) ?_
      exact retZ (fr := fun q => q) (fw := fun _ => wj [cX11 cy adX xT xR (adP 0) xS xIm xTr xC xWa xWb xWo xZ xU xD xE xB X, cX6 cy adP xL P]) h hx hb hr narZ0 hlocks hK hP hD hS dX11_areTwo_32
    · replace h := (br h).2 c9
      refine lv_iload_n hx hb dX11_areTwo_22 rfl (lv_at hl 1 rfl) ?_
      refine lv_iload_n hx hb dX11_areTwo_23 rfl (lv_at hl 2 rfl) ?_
      refine lv_icmp_eq (tgt := 31) hx hb dX11_areTwo_24 (by decide) (fun c9 => ?_) (fun c9 => ?_)
      · replace h := (br h).1 c9
        refine lv_iconst (v := 0) hx hb dX11_areTwo_31 (by decide) ?_
        exact retZ (fr := fun q => q) (fw := fun _ => wj [cX11 cy adX xT xR (adP 0) xS xIm xTr xC xWa xWb xWo xZ xU xD xE xB X, cX6 cy adP xL P]) h hx hb hr narZ0 hlocks hK hP hD hS dX11_areTwo_32
      · replace h := (br h).2 c9
        refine lv_iconst (v := 1) hx hb dX11_areTwo_27 (by decide) ?_
        refine lv_goto (tgt := 32) hx hb dX11_areTwo_28 (by decide) ?_
        exact retZ (fr := fun q => q) (fw := fun _ => wj [cX11 cy adX xT xR (adP 0) xS xIm xTr xC xWa xWb xWo xZ xU xD xE xB X, cX6 cy adP xL P]) h hx hb hr narZ1 hlocks hK hP hD hS dX11_areTwo_32
theorem hds_X11_rests : yX11_rests.cls ≠ "java/lang/invoke/MethodHandle" ∧ yX11_rests.cls ≠ "java/lang/invoke/VarHandle" ∧ (parseMethodDescriptor yX11_rests.desc).map (fun d => d.parameters.length) = some 2 := ⟨by decide +kernel, by decide +kernel, by decide +kernel⟩
theorem hd_X11_rests : yX11_rests.cls = RX11 ∧ yX11_rests.cls ≠ "java/lang/invoke/MethodHandle" ∧ yX11_rests.cls ≠ "java/lang/invoke/VarHandle" ∧ (parseMethodDescriptor yX11_rests.desc).map (fun d => d.parameters.length) = some 2 := ⟨rfl, hds_X11_rests⟩
def f_X11_rests_b57 (N : Nat) (X : VV) (P : VV) (x1 : Int32) (x2 : Int32) (x3 : Int32) (x4 : Int32) : Option (((Int32 × Int32) ⊕ (Int32))) :=
  some (.inl (x3, x4 + 1))
def f_X11_rests_s16 (N : Nat) (X : VV) (P : VV) (x1 : Int32) (x2 : Int32) (x3 : Int32) (x4 : Int32) : Option (((Int32 × Int32) ⊕ (Int32))) :=
  if (4 : Int32) ≤ x4 then inrO (some x3) else bnd (f_X6_trait P x1 5) (fun q1601 => bnd (f_X6_trait P x2 5) (fun q1603 => bnd (f_X11_isRest q1601 q1603 (x4 >>> ((1 : Int32) &&& 31)) (x4 &&& 1)) (fun q1605 => if q1605 = 0 then f_X11_rests_b57 N X P x1 x2 x3 x4 else f_X11_rests_b57 N X P x1 x2 (x3 + 1) x4)))
def f_X11_rests (N : Nat) (X : VV) (P : VV) (a1 : Int32) (a2 : Int32) : Option (Int32) :=
  bnd (f_X11_areTwo X P a1 a2) (fun q1 => if q1 = 0 then some ((-1)) else itr (fun q : Int32 × Int32 => f_X11_rests_s16 N X P a1 a2 q.1 q.2) N (0, 0))
set_option maxHeartbeats 4000000 in
set_option maxRecDepth 100000 in
theorem k_X11_rests (l : Launch) (G : va_G) (cy : Nat → ClassId) (ev : Nat → Nat) (N : Nat) (adX : Nat → Nat) (xT : Nat) (xR : Nat) (xS : Nat) (xIm : Nat) (xTr : Nat) (xC : Nat) (xWa : Nat) (xWb : Nat) (xWo : Nat) (xZ : Nat) (xU : Nat) (xD : Nat) (xE : Nat) (xB : Nat) (X : VV) (adP : Nat → Nat) (xL : Nat) (P : VV) (a1 : Int32) (a2 : Int32) (res : Int32) (h : f_X11_rests N X P a1 a2 = some res) : MetI l yX11_rests cX11_rests 5 (some .int) 2 46 G cy ev [.ref (adX 0), .int a1, .int a2] (wj [cX11 cy adX xT xR (adP 0) xS xIm xTr xC xWa xWb xWo xZ xU xD xE xB X, cX6 cy adP xL P]) res (wj [cX11 cy adX xT xR (adP 0) xS xIm xTr xC xWa xWb xWo xZ xU xD xE xB X, cX6 cy adP xL P]) := by
  refine MetQ.start (by decide +kernel) (Nat.le_of_ble_eq_true rfl) (fun p e s m args below meth c A ls hx hb hr hml hown hts hlocks hK hP hD hA hl hE => ?_)
  have hS : va_S A s.heap s.heap [] := va_S.rf
  have hown : s.vm.findClass RX11 = some m.cls := hown
  have hl : lv_has ls 5 [(0, .ref (adX 0)), (1, .int a1), (2, .int a2)] := hl
  have L16 : ∀ (x1 : Int32) (x2 : Int32) (n : Nat) (x3 : Int32) (x4 : Int32) (H : Heap) (locs : List Loc) (ls : Array Slot), itr (fun q : Int32 × Int32 => f_X11_rests_s16 N X P x1 x2 q.1 q.2) n (x3, x4) = some res → va_P G vwCl (wj [cX11 cy adX xT xR (adP 0) xS xIm xTr xC xWa xWb xWo xZ xU xD xE xB X, cX6 cy adP xL P]) H → va_D A (wj [cX11 cy adX xT xR (adP 0) xS xIm xTr xC xWa xWb xWo xZ xU xD xE xB X, cX6 cy adP xL P]) → va_S A s.heap H locs → lv_has ls 5 [(0, .ref (adX 0)), (1, .int x1), (2, .int x2), (3, .int x3), (4, .int x4)] → W p l e (rmX 2 46) s m args below meth c H locs 0 0 (MQ below (mQi (res) G cy A (wj [cX11 cy adX xT xR (adP 0) xS xIm xTr xC xWa xWb xWo xZ xU xD xE xB X, cX6 cy adP xL P])) args s 0 0 A) (F0 m 16 ls []) := by
    intro x1 x2 n
    induction n with
    | zero => intro x3 x4 H locs ls h; exact (itr_zero h).elim
    | succ n ih1 =>
      intro x3 x4 H locs ls h hP hD hS hl
      obtain ⟨y1, h, hy1⟩ := itr_inv h
      have h : f_X11_rests_s16 N X P x1 x2 x3 x4 = some y1 := h
      have B57 : ∀ (x3 : Int32) (x4 : Int32) (H : Heap) (locs : List Loc) (ls : Array Slot), f_X11_rests_b57 N X P x1 x2 x3 x4 = some y1 → va_P G vwCl (wj [cX11 cy adX xT xR (adP 0) xS xIm xTr xC xWa xWb xWo xZ xU xD xE xB X, cX6 cy adP xL P]) H → va_D A (wj [cX11 cy adX xT xR (adP 0) xS xIm xTr xC xWa xWb xWo xZ xU xD xE xB X, cX6 cy adP xL P]) → va_S A s.heap H locs → lv_has ls 5 [(0, .ref (adX 0)), (1, .int x1), (2, .int x2), (3, .int x3), (4, .int x4)] → W p l e (rmX 2 46) s m args below meth c H locs 0 0 (MQ below (mQi (res) G cy A (wj [cX11 cy adX xT xR (adP 0) xS xIm xTr xC xWa xWb xWo xZ xU xD xE xB X, cX6 cy adP xL P])) args s 0 0 A) (F0 m 57 ls []) := by
        intro x3 x4 H locs ls h hP hD hS hl
        delta f_X11_rests_b57 at h
        refine lv_iinc (v := x4 + 1) (lv' := [(4, .int (x4 + 1)), (0, .ref (adX 0)), (1, .int x1), (2, .int x2), (3, .int x3)]) hx hb dX11_rests_57 hl (k := 4) rfl rfl (by decide) rfl (fun ls hl => ?_)
        refine lv_goto (tgt := 16) hx hb dX11_rests_60 (by decide) ?_
        replace h := itr_back h hy1
        exact ih1 x3 (x4 + 1) _ _ _ h hP hD hS (lv_sub hl [1, 2, 3, 4, 0] rfl)
      delta f_X11_rests_s16 at h
      refine lv_iload hx hb dX11_rests_16 (lv_at hl 4 rfl) ?_
      refine lv_iconst (v := 4) hx hb dX11_rests_18 (by decide) ?_
      refine lv_icmp_ge (tgt := 63) hx hb dX11_rests_19 (by decide) (fun c9 => ?_) (fun c9 => ?_)
      · replace h := (br h).1 c9
        replace h := itr_exit h hy1
        refine lv_iload_n hx hb dX11_rests_63 rfl (lv_at hl 3 rfl) ?_
        exact retI (fr := fun q => q) (fw := fun _ => wj [cX11 cy adX xT xR (adP 0) xS xIm xTr xC xWa xWb xWo xZ xU xD xE xB X, cX6 cy adP xL P]) h hx hb hr hlocks hK hP hD hS dX11_rests_64
      · replace h := (br h).2 c9
        refine lv_aload_n hx hb dX11_rests_22 rfl (lv_at hl 0 rfl) ?_
        refine go_11_29 (ci := 0) hx hb hts hown hK hE hP rfl dX11_rests_23 ?_
        refine lv_iload_n hx hb dX11_rests_26 rfl (lv_at hl 1 rfl) ?_
        refine lv_iconst (v := 5) hx hb dX11_rests_27 (by decide) ?_
        replace h := bd h
        obtain ⟨q1601, h1602, h⟩ := h
        refine callWVi (As := [.int x1, .int 5]) (rest := []) (cs' := [cX11 cy adX xT xR (adP 0) xS xIm xTr xC xWa xWb xWo xZ xU xD xE xB X, cX6 cy adP xL P]) (isC := [1]) (isR := [0]) hx hb hml hown hts (k_X6_trait l G cy ev adP xL P x1 5 q1601 h1602) wm_26_15 wm_26_16 wm_26_17 wm_1_22 wm_26_18 hd_X6_trait ⟨by decide, by decide⟩ hK hP hD hS hA hE rfl rfl rfl (cov_of (n := 2) rfl (by decide)) (by decide) rfl (recvW (ci := 1) hK hP rfl cX6_o rfl) rfl rfl hl.1 (Nat.le_of_ble_eq_true rfl) dX11_rests_28 (fun H locs hP hD hS => ?_)
        refine lv_aload_n hx hb dX11_rests_31 rfl (lv_at hl 0 rfl) ?_
        refine go_11_29 (ci := 0) hx hb hts hown hK hE hP rfl dX11_rests_32 ?_
        refine lv_iload_n hx hb dX11_rests_35 rfl (lv_at hl 2 rfl) ?_
        refine lv_iconst (v := 5) hx hb dX11_rests_36 (by decide) ?_
        replace h := bd h
        obtain ⟨q1603, h1604, h⟩ := h
        refine callWVi (As := [.int x2, .int 5]) (rest := [.int q1601]) (cs' := [cX11 cy adX xT xR (adP 0) xS xIm xTr xC xWa xWb xWo xZ xU xD xE xB X, cX6 cy adP xL P]) (isC := [1]) (isR := [0]) hx hb hml hown hts (k_X6_trait l G cy ev adP xL P x2 5 q1603 h1604) wm_26_15 wm_26_16 wm_26_17 wm_1_22 wm_26_18 hd_X6_trait ⟨by decide, by decide⟩ hK hP hD hS hA hE rfl rfl rfl (cov_of (n := 2) rfl (by decide)) (by decide) rfl (recvW (ci := 1) hK hP rfl cX6_o rfl) rfl rfl hl.1 (Nat.le_of_ble_eq_true rfl) dX11_rests_37 (fun H locs hP hD hS => ?_)
        refine lv_iload hx hb dX11_rests_40 (lv_at hl 4 rfl) ?_
        refine lv_iconst (v := 1) hx hb dX11_rests_42 (by decide) ?_
        refine lv_ishr hx hb dX11_rests_43 ?_
        refine lv_iload hx hb dX11_rests_44 (lv_at hl 4 rfl) ?_
        refine lv_iconst (v := 1) hx hb dX11_rests_46 (by decide) ?_
        refine lv_iand hx hb dX11_rests_47 ?_
        replace h := bd h
        obtain ⟨q1605, h1606, h⟩ := h
        refine callSi0 (As := [.int q1601, .int q1603, .int (x4 >>> ((1 : Int32) &&& 31)), .int (x4 &&& 1)]) (rest := []) hx hb hml hown hts (k_X11_isRest l G cy ev (wj [cX11 cy adX xT xR (adP 0) xS xIm xTr xC xWa xWb xWo xZ xU xD xE xB X, cX6 cy adP xL P]) q1601 q1603 (x4 >>> ((1 : Int32) &&& 31)) (x4 &&& 1) q1605 h1606) wm_48_11 wm_48_12 wm_1_2 wm_48_13 hd_X11_isRest ⟨by decide, by decide⟩ hK hP hD hS hA hE rfl rfl hl.1 (Nat.le_of_ble_eq_true rfl) dX11_rests_48 (fun H locs hP hD hS => ?_)
        refine lv_if_eq (tgt := 57) hx hb dX11_rests_51 (by decide) (fun c9 => ?_) (fun c9 => ?_)
        · replace h := (br h).1 c9
          exact B57 x3 x4 _ _ _ h hP hD hS (lv_sub hl [0, 1, 2, 3, 4] rfl)
        · replace h := (br h).2 c9
          refine lv_iinc (v := x3 + 1) (lv' := [(3, .int (x3 + 1)), (0, .ref (adX 0)), (1, .int x1), (2, .int x2), (4, .int x4)]) hx hb dX11_rests_54 hl (k := 3) rfl rfl (by decide) rfl (fun ls hl => ?_)
          exact B57 (x3 + 1) x4 _ _ _ h hP hD hS (lv_sub hl [1, 2, 3, 0, 4] rfl)
  delta f_X11_rests at h
  refine lv_aload_n hx hb dX11_rests_0 rfl (lv_at hl 0 rfl) ?_
  refine lv_iload_n hx hb dX11_rests_1 rfl (lv_at hl 1 rfl) ?_
  refine lv_iload_n hx hb dX11_rests_2 rfl (lv_at hl 2 rfl) ?_
  replace h := bd h
  obtain ⟨q1, h2, h⟩ := h
  refine callWVi (As := [.int a1, .int a2]) (rest := []) (cs' := [cX11 cy adX xT xR (adP 0) xS xIm xTr xC xWa xWb xWo xZ xU xD xE xB X, cX6 cy adP xL P]) (isC := [0, 1]) (isR := []) hx hb hml hown hts (k_X11_areTwo l G cy ev adX xT xR xS xIm xTr xC xWa xWb xWo xZ xU xD xE xB X adP xL P a1 a2 q1 h2) wm_48_7 wm_48_8 wm_48_9 wm_1_2 wm_48_10 hd_X11_areTwo ⟨by decide, by decide⟩ hK hP hD hS hA hE rfl rfl rfl (cov_of (n := 2) rfl (by decide)) (by decide) rfl (recvW (ci := 0) hK hP rfl cX11_o rfl) rfl rfl hl.1 (Nat.le_of_ble_eq_true rfl) dX11_rests_3 (fun H locs hP hD hS => ?_)
  refine lv_if_ne (tgt := 11) hx hb dX11_rests_6 (by decide) (fun c9 => ?_) (fun c9 => ?_)
  · replace h := (br h).2 c9
    refine lv_iconst (v := 0) hx hb dX11_rests_11 (by decide) ?_
    refine lv_istore_n (lv' := [(3, .int 0), (0, .ref (adX 0)), (1, .int a1), (2, .int a2)]) hx hb dX11_rests_12 rfl hl (by decide) rfl (fun ls hl => ?_)
    refine lv_iconst (v := 0) hx hb dX11_rests_13 (by decide) ?_
    refine lv_istore (lv' := [(4, .int 0), (3, .int 0), (0, .ref (adX 0)), (1, .int a1), (2, .int a2)]) hx hb dX11_rests_14 hl (by decide) rfl (fun ls hl => ?_)
    exact L16 a1 a2 N 0 0 _ _ _ h hP hD hS (lv_sub hl [2, 3, 4, 1, 0] rfl)
  · replace h := (br h).1 c9
    refine lv_iconst (v := (-1)) hx hb dX11_rests_9 (by decide) ?_
    exact retI (fr := fun q => q) (fw := fun _ => wj [cX11 cy adX xT xR (adP 0) xS xIm xTr xC xWa xWb xWo xZ xU xD xE xB X, cX6 cy adP xL P]) h hx hb hr hlocks hK hP hD hS dX11_rests_10
theorem hds_X11_rest : yX11_rest.cls ≠ "java/lang/invoke/MethodHandle" ∧ yX11_rest.cls ≠ "java/lang/invoke/VarHandle" ∧ (parseMethodDescriptor yX11_rest.desc).map (fun d => d.parameters.length) = some 3 := ⟨by decide +kernel, by decide +kernel, by decide +kernel⟩
theorem hd_X11_rest : yX11_rest.cls = RX11 ∧ yX11_rest.cls ≠ "java/lang/invoke/MethodHandle" ∧ yX11_rest.cls ≠ "java/lang/invoke/VarHandle" ∧ (parseMethodDescriptor yX11_rest.desc).map (fun d => d.parameters.length) = some 3 := ⟨rfl, hds_X11_rest⟩
def f_X11_rest_b80 (N : Nat) (X : VV) (P : VV) (x1 : Int32) (x2 : Int32) (x4 : Int32) (x5 : Int32) : Option (((Int32 × Int32) ⊕ (Int32))) :=
  some (.inl (x4, x5 + 1))
def f_X11_rest_s21 (N : Nat) (X : VV) (P : VV) (x1 : Int32) (x2 : Int32) (x4 : Int32) (x5 : Int32) : Option (((Int32 × Int32) ⊕ (Int32))) :=
  if (4 : Int32) ≤ x5 then inrO (some ((-2))) else bnd (f_X6_trait P x1 5) (fun q2101 => bnd (f_X6_trait P x2 5) (fun q2103 => bnd (f_X11_isRest q2101 q2103 (x5 >>> ((1 : Int32) &&& 31)) (x5 &&& 1)) (fun q2105 => if q2105 = 0 then f_X11_rest_b80 N X P x1 x2 x4 x5 else if x4 = 0 then inrO (some ((10 * (x5 >>> ((1 : Int32) &&& 31))) + (x5 &&& 1))) else f_X11_rest_b80 N X P x1 x2 (x4 + (-1)) x5)))
def f_X11_rest (N : Nat) (X : VV) (P : VV) (a1 : Int32) (a2 : Int32) (a3 : Int32) : Option (Int32) :=
  bnd (f_X11_areTwo X P a1 a2) (fun q1 => if q1 = 0 then some ((-1)) else if (0 : Int32) ≤ a3 then itr (fun q : Int32 × Int32 => f_X11_rest_s21 N X P a1 a2 q.1 q.2) N (a3, 0) else some ((-1)))
set_option maxHeartbeats 4000000 in
set_option maxRecDepth 100000 in
theorem k_X11_rest (l : Launch) (G : va_G) (cy : Nat → ClassId) (ev : Nat → Nat) (N : Nat) (adX : Nat → Nat) (xT : Nat) (xR : Nat) (xS : Nat) (xIm : Nat) (xTr : Nat) (xC : Nat) (xWa : Nat) (xWb : Nat) (xWo : Nat) (xZ : Nat) (xU : Nat) (xD : Nat) (xE : Nat) (xB : Nat) (X : VV) (adP : Nat → Nat) (xL : Nat) (P : VV) (a1 : Int32) (a2 : Int32) (a3 : Int32) (res : Int32) (h : f_X11_rest N X P a1 a2 a3 = some res) : MetI l yX11_rest cX11_rest 6 (some .int) 2 46 G cy ev [.ref (adX 0), .int a1, .int a2, .int a3] (wj [cX11 cy adX xT xR (adP 0) xS xIm xTr xC xWa xWb xWo xZ xU xD xE xB X, cX6 cy adP xL P]) res (wj [cX11 cy adX xT xR (adP 0) xS xIm xTr xC xWa xWb xWo xZ xU xD xE xB X, cX6 cy adP xL P]) := by
  refine MetQ.start (by decide +kernel) (Nat.le_of_ble_eq_true rfl) (fun p e s m args below meth c A ls hx hb hr hml hown hts hlocks hK hP hD hA hl hE => ?_)
  have hS : va_S A s.heap s.heap [] := va_S.rf
  have hown : s.vm.findClass RX11 = some m.cls := hown
  have hl : lv_has ls 6 [(0, .ref (adX 0)), (1, .int a1), (2, .int a2), (3, .int a3)] := hl
  have L21 : ∀ (x1 : Int32) (x2 : Int32) (n : Nat) (x4 : Int32) (x5 : Int32) (H : Heap) (locs : List Loc) (ls : Array Slot), itr (fun q : Int32 × Int32 => f_X11_rest_s21 N X P x1 x2 q.1 q.2) n (x4, x5) = some res → va_P G vwCl (wj [cX11 cy adX xT xR (adP 0) xS xIm xTr xC xWa xWb xWo xZ xU xD xE xB X, cX6 cy adP xL P]) H → va_D A (wj [cX11 cy adX xT xR (adP 0) xS xIm xTr xC xWa xWb xWo xZ xU xD xE xB X, cX6 cy adP xL P]) → va_S A s.heap H locs → lv_has ls 6 [(0, .ref (adX 0)), (1, .int x1), (2, .int x2), (4, .int x4), (5, .int x5)] → W p l e (rmX 2 46) s m args below meth c H locs 0 0 (MQ below (mQi (res) G cy A (wj [cX11 cy adX xT xR (adP 0) xS xIm xTr xC xWa xWb xWo xZ xU xD xE xB X, cX6 cy adP xL P])) args s 0 0 A) (F0 m 21 ls []) := by
    intro x1 x2 n
    induction n with
    | zero => intro x4 x5 H locs ls h; exact (itr_zero h).elim
    | succ n ih1 =>
      intro x4 x5 H locs ls h hP hD hS hl
      obtain ⟨y1, h, hy1⟩ := itr_inv h
      have h : f_X11_rest_s21 N X P x1 x2 x4 x5 = some y1 := h
      have B80 : ∀ (x4 : Int32) (x5 : Int32) (H : Heap) (locs : List Loc) (ls : Array Slot), f_X11_rest_b80 N X P x1 x2 x4 x5 = some y1 → va_P G vwCl (wj [cX11 cy adX xT xR (adP 0) xS xIm xTr xC xWa xWb xWo xZ xU xD xE xB X, cX6 cy adP xL P]) H → va_D A (wj [cX11 cy adX xT xR (adP 0) xS xIm xTr xC xWa xWb xWo xZ xU xD xE xB X, cX6 cy adP xL P]) → va_S A s.heap H locs → lv_has ls 6 [(0, .ref (adX 0)), (1, .int x1), (2, .int x2), (4, .int x4), (5, .int x5)] → W p l e (rmX 2 46) s m args below meth c H locs 0 0 (MQ below (mQi (res) G cy A (wj [cX11 cy adX xT xR (adP 0) xS xIm xTr xC xWa xWb xWo xZ xU xD xE xB X, cX6 cy adP xL P])) args s 0 0 A) (F0 m 80 ls []) := by
        intro x4 x5 H locs ls h hP hD hS hl
        delta f_X11_rest_b80 at h
        refine lv_iinc (v := x5 + 1) (lv' := [(5, .int (x5 + 1)), (0, .ref (adX 0)), (1, .int x1), (2, .int x2), (4, .int x4)]) hx hb dX11_rest_80 hl (k := 4) rfl rfl (by decide) rfl (fun ls hl => ?_)
        refine lv_goto (tgt := 21) hx hb dX11_rest_83 (by decide) ?_
        replace h := itr_back h hy1
        exact ih1 x4 (x5 + 1) _ _ _ h hP hD hS (lv_sub hl [1, 2, 3, 4, 0] rfl)
      delta f_X11_rest_s21 at h
      refine lv_iload hx hb dX11_rest_21 (lv_at hl 4 rfl) ?_
      refine lv_iconst (v := 4) hx hb dX11_rest_23 (by decide) ?_
      refine lv_icmp_ge (tgt := 86) hx hb dX11_rest_24 (by decide) (fun c9 => ?_) (fun c9 => ?_)
      · replace h := (br h).1 c9
        replace h := itr_exit h hy1
        refine lv_bipush (v := (-2)) hx hb dX11_rest_86 (by decide) ?_
        exact retI (fr := fun q => q) (fw := fun _ => wj [cX11 cy adX xT xR (adP 0) xS xIm xTr xC xWa xWb xWo xZ xU xD xE xB X, cX6 cy adP xL P]) h hx hb hr hlocks hK hP hD hS dX11_rest_88
      · replace h := (br h).2 c9
        refine lv_aload_n hx hb dX11_rest_27 rfl (lv_at hl 0 rfl) ?_
        refine go_11_29 (ci := 0) hx hb hts hown hK hE hP rfl dX11_rest_28 ?_
        refine lv_iload_n hx hb dX11_rest_31 rfl (lv_at hl 1 rfl) ?_
        refine lv_iconst (v := 5) hx hb dX11_rest_32 (by decide) ?_
        replace h := bd h
        obtain ⟨q2101, h2102, h⟩ := h
        refine callWVi (As := [.int x1, .int 5]) (rest := []) (cs' := [cX11 cy adX xT xR (adP 0) xS xIm xTr xC xWa xWb xWo xZ xU xD xE xB X, cX6 cy adP xL P]) (isC := [1]) (isR := [0]) hx hb hml hown hts (k_X6_trait l G cy ev adP xL P x1 5 q2101 h2102) wm_26_15 wm_26_16 wm_26_17 wm_1_22 wm_26_18 hd_X6_trait ⟨by decide, by decide⟩ hK hP hD hS hA hE rfl rfl rfl (cov_of (n := 2) rfl (by decide)) (by decide) rfl (recvW (ci := 1) hK hP rfl cX6_o rfl) rfl rfl hl.1 (Nat.le_of_ble_eq_true rfl) dX11_rest_33 (fun H locs hP hD hS => ?_)
        refine lv_aload_n hx hb dX11_rest_36 rfl (lv_at hl 0 rfl) ?_
        refine go_11_29 (ci := 0) hx hb hts hown hK hE hP rfl dX11_rest_37 ?_
        refine lv_iload_n hx hb dX11_rest_40 rfl (lv_at hl 2 rfl) ?_
        refine lv_iconst (v := 5) hx hb dX11_rest_41 (by decide) ?_
        replace h := bd h
        obtain ⟨q2103, h2104, h⟩ := h
        refine callWVi (As := [.int x2, .int 5]) (rest := [.int q2101]) (cs' := [cX11 cy adX xT xR (adP 0) xS xIm xTr xC xWa xWb xWo xZ xU xD xE xB X, cX6 cy adP xL P]) (isC := [1]) (isR := [0]) hx hb hml hown hts (k_X6_trait l G cy ev adP xL P x2 5 q2103 h2104) wm_26_15 wm_26_16 wm_26_17 wm_1_22 wm_26_18 hd_X6_trait ⟨by decide, by decide⟩ hK hP hD hS hA hE rfl rfl rfl (cov_of (n := 2) rfl (by decide)) (by decide) rfl (recvW (ci := 1) hK hP rfl cX6_o rfl) rfl rfl hl.1 (Nat.le_of_ble_eq_true rfl) dX11_rest_42 (fun H locs hP hD hS => ?_)
        refine lv_iload hx hb dX11_rest_45 (lv_at hl 4 rfl) ?_
        refine lv_iconst (v := 1) hx hb dX11_rest_47 (by decide) ?_
        refine lv_ishr hx hb dX11_rest_48 ?_
        refine lv_iload hx hb dX11_rest_49 (lv_at hl 4 rfl) ?_
        refine lv_iconst (v := 1) hx hb dX11_rest_51 (by decide) ?_
        refine lv_iand hx hb dX11_rest_52 ?_
        replace h := bd h
        obtain ⟨q2105, h2106, h⟩ := h
        refine callSi0 (As := [.int q2101, .int q2103, .int (x5 >>> ((1 : Int32) &&& 31)), .int (x5 &&& 1)]) (rest := []) hx hb hml hown hts (k_X11_isRest l G cy ev (wj [cX11 cy adX xT xR (adP 0) xS xIm xTr xC xWa xWb xWo xZ xU xD xE xB X, cX6 cy adP xL P]) q2101 q2103 (x5 >>> ((1 : Int32) &&& 31)) (x5 &&& 1) q2105 h2106) wm_48_11 wm_48_12 wm_1_2 wm_48_13 hd_X11_isRest ⟨by decide, by decide⟩ hK hP hD hS hA hE rfl rfl hl.1 (Nat.le_of_ble_eq_true rfl) dX11_rest_53 (fun H locs hP hD hS => ?_)
        refine lv_if_eq (tgt := 80) hx hb dX11_rest_56 (by decide) (fun c9 => ?_) (fun c9 => ?_)
        · replace h := (br h).1 c9
          exact B80 x4 x5 _ _ _ h hP hD hS (lv_sub hl [0, 1, 2, 3, 4] rfl)
        · replace h := (br h).2 c9
          refine lv_iload hx hb dX11_rest_59 (lv_at hl 3 rfl) ?_
          refine lv_if_ne (tgt := 77) hx hb dX11_rest_61 (by decide) (fun c9 => ?_) (fun c9 => ?_)
          · replace h := (br h).2 c9
            refine lv_iinc (v := x4 + (-1)) (lv' := [(4, .int (x4 + (-1))), (0, .ref (adX 0)), (1, .int x1), (2, .int x2), (5, .int x5)]) hx hb dX11_rest_77 hl (k := 3) rfl rfl (by decide) rfl (fun ls hl => ?_)
            exact B80 (x4 + (-1)) x5 _ _ _ h hP hD hS (lv_sub hl [1, 2, 3, 0, 4] rfl)
          · replace h := (br h).1 c9
            replace h := itr_exit h hy1
            refine lv_bipush (v := 10) hx hb dX11_rest_64 (by decide) ?_
            refine lv_iload hx hb dX11_rest_66 (lv_at hl 4 rfl) ?_
            refine lv_iconst (v := 1) hx hb dX11_rest_68 (by decide) ?_
            refine lv_ishr hx hb dX11_rest_69 ?_
            refine lv_imul hx hb dX11_rest_70 ?_
            refine lv_iload hx hb dX11_rest_71 (lv_at hl 4 rfl) ?_
            refine lv_iconst (v := 1) hx hb dX11_rest_73 (by decide) ?_
            refine lv_iand hx hb dX11_rest_74 ?_
            refine lv_iadd hx hb dX11_rest_75 ?_
            exact retI (fr := fun q => q) (fw := fun _ => wj [cX11 cy adX xT xR (adP 0) xS xIm xTr xC xWa xWb xWo xZ xU xD xE xB X, cX6 cy adP xL P]) h hx hb hr hlocks hK hP hD hS dX11_rest_76
  delta f_X11_rest at h
  refine lv_aload_n hx hb dX11_rest_0 rfl (lv_at hl 0 rfl) ?_
  refine lv_iload_n hx hb dX11_rest_1 rfl (lv_at hl 1 rfl) ?_
  refine lv_iload_n hx hb dX11_rest_2 rfl (lv_at hl 2 rfl) ?_
  replace h := bd h
  obtain ⟨q1, h2, h⟩ := h
  refine callWVi (As := [.int a1, .int a2]) (rest := []) (cs' := [cX11 cy adX xT xR (adP 0) xS xIm xTr xC xWa xWb xWo xZ xU xD xE xB X, cX6 cy adP xL P]) (isC := [0, 1]) (isR := []) hx hb hml hown hts (k_X11_areTwo l G cy ev adX xT xR xS xIm xTr xC xWa xWb xWo xZ xU xD xE xB X adP xL P a1 a2 q1 h2) wm_48_7 wm_48_8 wm_48_9 wm_1_2 wm_48_10 hd_X11_areTwo ⟨by decide, by decide⟩ hK hP hD hS hA hE rfl rfl rfl (cov_of (n := 2) rfl (by decide)) (by decide) rfl (recvW (ci := 0) hK hP rfl cX11_o rfl) rfl rfl hl.1 (Nat.le_of_ble_eq_true rfl) dX11_rest_3 (fun H locs hP hD hS => ?_)
  refine lv_if_eq (tgt := 13) hx hb dX11_rest_6 (by decide) (fun c9 => ?_) (fun c9 => ?_)
  · replace h := (br h).1 c9
    refine lv_iconst (v := (-1)) hx hb dX11_rest_13 (by decide) ?_
    exact retI (fr := fun q => q) (fw := fun _ => wj [cX11 cy adX xT xR (adP 0) xS xIm xTr xC xWa xWb xWo xZ xU xD xE xB X, cX6 cy adP xL P]) h hx hb hr hlocks hK hP hD hS dX11_rest_14
  · replace h := (br h).2 c9
    refine lv_iload_n hx hb dX11_rest_9 rfl (lv_at hl 3 rfl) ?_
    refine lv_if_ge (tgt := 15) hx hb dX11_rest_10 (by decide) (fun c9 => ?_) (fun c9 => ?_)
    · replace h := (br h).1 c9
      refine lv_iload_n hx hb dX11_rest_15 rfl (lv_at hl 3 rfl) ?_
      refine lv_istore (lv' := [(4, .int a3), (0, .ref (adX 0)), (1, .int a1), (2, .int a2), (3, .int a3)]) hx hb dX11_rest_16 hl (by decide) rfl (fun ls hl => ?_)
      refine lv_iconst (v := 0) hx hb dX11_rest_18 (by decide) ?_
      refine lv_istore (lv' := [(5, .int 0), (4, .int a3), (0, .ref (adX 0)), (1, .int a1), (2, .int a2), (3, .int a3)]) hx hb dX11_rest_19 hl (by decide) rfl (fun ls hl => ?_)
      exact L21 a1 a2 N a3 0 _ _ _ h hP hD hS (lv_sub hl [2, 3, 4, 1, 0] rfl)
    · replace h := (br h).2 c9
      refine lv_iconst (v := (-1)) hx hb dX11_rest_13 (by decide) ?_
      exact retI (fr := fun q => q) (fw := fun _ => wj [cX11 cy adX xT xR (adP 0) xS xIm xTr xC xWa xWb xWo xZ xU xD xE xB X, cX6 cy adP xL P]) h hx hb hr hlocks hK hP hD hS dX11_rest_14
theorem hds_X11_note : yX11_note.cls ≠ "java/lang/invoke/MethodHandle" ∧ yX11_note.cls ≠ "java/lang/invoke/VarHandle" ∧ (parseMethodDescriptor yX11_note.desc).map (fun d => d.parameters.length) = some 3 := ⟨by decide +kernel, by decide +kernel, by decide +kernel⟩
theorem hd_X11_note : yX11_note.cls = RX11 ∧ yX11_note.cls ≠ "java/lang/invoke/MethodHandle" ∧ yX11_note.cls ≠ "java/lang/invoke/VarHandle" ∧ (parseMethodDescriptor yX11_note.desc).map (fun d => d.parameters.length) = some 3 := ⟨rfl, hds_X11_note⟩
def f_X11_note_b37 (X : VV) (P : VV) (U : VV) (x1 : Int32) (x2 : Int32) (z0 : Int32) : Option (Int32 × VV) :=
  bnd (f_X5_add U z0 x1 x2) (fun q3701 => some (q3701.1, q3701.2))
def f_X11_note (X : VV) (P : VV) (U : VV) (a1 : Int32) (a2 : Int32) (a3 : Int32) : Option (Int32 × VV) :=
  bnd (f_X6_hasSitting P a1) (fun q1 => if q1 = 0 then some ((-1), U) else if a2 < 0 then some ((-1), U) else if a2 ≤ 999 then if a3 = 0 then f_X11_note_b37 X P U a1 a2 0 else f_X11_note_b37 X P U a1 a2 1 else some ((-1), U))
set_option maxHeartbeats 4000000 in
set_option maxRecDepth 100000 in
theorem k_X11_note (l : Launch) (G : va_G) (cy : Nat → ClassId) (ev : Nat → Nat) (adX : Nat → Nat) (xT : Nat) (xR : Nat) (xS : Nat) (xIm : Nat) (xTr : Nat) (xC : Nat) (xWa : Nat) (xWb : Nat) (xWo : Nat) (xZ : Nat) (xD : Nat) (xE : Nat) (xB : Nat) (X : VV) (adP : Nat → Nat) (xL : Nat) (P : VV) (adU : Nat → Nat) (U : VV) (a1 : Int32) (a2 : Int32) (a3 : Int32) (res : Int32 × VV) (h : f_X11_note X P U a1 a2 a3 = some res) : MetI l yX11_note cX11_note 4 (some .int) 1 23 G cy ev [.ref (adX 0), .int a1, .int a2, .int a3] (wj [cX11 cy adX xT xR (adP 0) xS xIm xTr xC xWa xWb xWo xZ (adU 0) xD xE xB X, cX6 cy adP xL P, cX5 cy adU U]) res.1 (wj [cX11 cy adX xT xR (adP 0) xS xIm xTr xC xWa xWb xWo xZ (adU 0) xD xE xB X, cX6 cy adP xL P, cX5 cy adU res.2]) := by
  refine MetQ.start (by decide +kernel) (Nat.le_of_ble_eq_true rfl) (fun p e s m args below meth c A ls hx hb hr hml hown hts hlocks hK hP hD hA hl hE => ?_)
  have hS : va_S A s.heap s.heap [] := va_S.rf
  have hown : s.vm.findClass RX11 = some m.cls := hown
  have hl : lv_has ls 4 [(0, .ref (adX 0)), (1, .int a1), (2, .int a2), (3, .int a3)] := hl
  have B37 : ∀ (x1 : Int32) (x2 : Int32) (z0 : Int32) (U : VV) (H : Heap) (locs : List Loc) (ls : Array Slot), f_X11_note_b37 X P U x1 x2 z0 = some res → va_P G vwCl (wj [cX11 cy adX xT xR (adP 0) xS xIm xTr xC xWa xWb xWo xZ (adU 0) xD xE xB X, cX6 cy adP xL P, cX5 cy adU U]) H → va_D A (wj [cX11 cy adX xT xR (adP 0) xS xIm xTr xC xWa xWb xWo xZ (adU 0) xD xE xB X, cX6 cy adP xL P, cX5 cy adU U]) → va_S A s.heap H locs → lv_has ls 4 [(1, .int x1), (2, .int x2)] → W p l e (rmX 1 23) s m args below meth c H locs 0 0 (MQ below (mQi (res.1) G cy A (wj [cX11 cy adX xT xR (adP 0) xS xIm xTr xC xWa xWb xWo xZ (adU 0) xD xE xB X, cX6 cy adP xL P, cX5 cy adU res.2])) args s 0 0 A) (F0 m 37 ls [.int z0, .ref (adU 0)]) := by
    intro x1 x2 z0 U H locs ls h hP hD hS hl
    delta f_X11_note_b37 at h
    refine lv_iload_n hx hb dX11_note_37 rfl (lv_at hl 0 rfl) ?_
    refine lv_iload_n hx hb dX11_note_38 rfl (lv_at hl 1 rfl) ?_
    replace h := bd h
    obtain ⟨q3701, h3702, h⟩ := h
    refine callWVi (As := [.int z0, .int x1, .int x2]) (rest := []) (cs' := [cX11 cy adX xT xR (adP 0) xS xIm xTr xC xWa xWb xWo xZ (adU 0) xD xE xB X, cX6 cy adP xL P, cX5 cy adU q3701.2]) (isC := [2]) (isR := [0, 1]) hx hb hml hown hts (k_X5_add l G cy ev adU U z0 x1 x2 q3701 h3702) wm_50_1 wm_50_2 wm_50_3 wm_2_23 wm_50_4 hd_X5_add ⟨by decide, by decide⟩ hK hP hD hS hA hE rfl rfl rfl (cov_of (n := 3) rfl (by decide)) (by decide) rfl (recvW (ci := 2) hK hP rfl cX5_o rfl) rfl rfl hl.1 (Nat.le_of_ble_eq_true rfl) dX11_note_39 (fun H locs hP hD hS => ?_)
    exact retI (fr := fun q => q.1) (fw := fun q => wj [cX11 cy adX xT xR (adP 0) xS xIm xTr xC xWa xWb xWo xZ (adU 0) xD xE xB X, cX6 cy adP xL P, cX5 cy adU q.2]) h hx hb hr hlocks hK hP hD hS dX11_note_42
  delta f_X11_note at h
  refine lv_aload_n hx hb dX11_note_0 rfl (lv_at hl 0 rfl) ?_
  refine go_11_29 (ci := 0) hx hb hts hown hK hE hP rfl dX11_note_1 ?_
  refine lv_iload_n hx hb dX11_note_4 rfl (lv_at hl 1 rfl) ?_
  replace h := bd h
  obtain ⟨q1, h2, h⟩ := h
  refine callWVi (As := [.int a1]) (rest := []) (cs' := [cX11 cy adX xT xR (adP 0) xS xIm xTr xC xWa xWb xWo xZ (adU 0) xD xE xB X, cX6 cy adP xL P, cX5 cy adU U]) (isC := [1]) (isR := [0, 2]) hx hb hml hown hts (k_X6_hasSitting l G cy ev adP xL P a1 q1 h2) wm_27_19 wm_27_20 wm_27_21 wm_1_22 wm_27_22 hd_X6_hasSitting ⟨by decide, by decide⟩ hK hP hD hS hA hE rfl rfl rfl (cov_of (n := 3) rfl (by decide)) (by decide) rfl (recvW (ci := 1) hK hP rfl cX6_o rfl) rfl rfl hl.1 (Nat.le_of_ble_eq_true rfl) dX11_note_5 (fun H locs hP hD hS => ?_)
  refine lv_if_eq (tgt := 22) hx hb dX11_note_8 (by decide) (fun c9 => ?_) (fun c9 => ?_)
  · replace h := (br h).1 c9
    refine lv_iconst (v := (-1)) hx hb dX11_note_22 (by decide) ?_
    exact retI (fr := fun q => q.1) (fw := fun q => wj [cX11 cy adX xT xR (adP 0) xS xIm xTr xC xWa xWb xWo xZ (adU 0) xD xE xB X, cX6 cy adP xL P, cX5 cy adU q.2]) h hx hb hr hlocks hK hP hD hS dX11_note_23
  · replace h := (br h).2 c9
    refine lv_iload_n hx hb dX11_note_11 rfl (lv_at hl 2 rfl) ?_
    refine lv_if_lt (tgt := 22) hx hb dX11_note_12 (by decide) (fun c9 => ?_) (fun c9 => ?_)
    · replace h := (br h).1 c9
      refine lv_iconst (v := (-1)) hx hb dX11_note_22 (by decide) ?_
      exact retI (fr := fun q => q.1) (fw := fun q => wj [cX11 cy adX xT xR (adP 0) xS xIm xTr xC xWa xWb xWo xZ (adU 0) xD xE xB X, cX6 cy adP xL P, cX5 cy adU q.2]) h hx hb hr hlocks hK hP hD hS dX11_note_23
    · replace h := (br h).2 c9
      refine lv_iload_n hx hb dX11_note_15 rfl (lv_at hl 2 rfl) ?_
      refine lv_sipush (v := 999) hx hb dX11_note_16 (by decide) ?_
      refine lv_icmp_le (tgt := 24) hx hb dX11_note_19 (by decide) (fun c9 => ?_) (fun c9 => ?_)
      · replace h := (br h).1 c9
        refine lv_aload_n hx hb dX11_note_24 rfl (lv_at hl 0 rfl) ?_
        refine go_11_80 (ci := 0) hx hb hts hown hK hE hP rfl dX11_note_25 ?_
        refine lv_iload_n hx hb dX11_note_28 rfl (lv_at hl 3 rfl) ?_
        refine lv_if_eq (tgt := 36) hx hb dX11_note_29 (by decide) (fun c9 => ?_) (fun c9 => ?_)
        · replace h := (br h).1 c9
          refine lv_iconst (v := 0) hx hb dX11_note_36 (by decide) ?_
          exact B37 a1 a2 0 U _ _ _ h hP hD hS (lv_sub hl [1, 2] rfl)
        · replace h := (br h).2 c9
          refine lv_iconst (v := 1) hx hb dX11_note_32 (by decide) ?_
          refine lv_goto (tgt := 37) hx hb dX11_note_33 (by decide) ?_
          exact B37 a1 a2 1 U _ _ _ h hP hD hS (lv_sub hl [1, 2] rfl)
      · replace h := (br h).2 c9
        refine lv_iconst (v := (-1)) hx hb dX11_note_22 (by decide) ?_
        exact retI (fr := fun q => q.1) (fw := fun q => wj [cX11 cy adX xT xR (adP 0) xS xIm xTr xC xWa xWb xWo xZ (adU 0) xD xE xB X, cX6 cy adP xL P, cX5 cy adU q.2]) h hx hb hr hlocks hK hP hD hS dX11_note_23
theorem hds_X11_out : yX11_out.cls ≠ "java/lang/invoke/MethodHandle" ∧ yX11_out.cls ≠ "java/lang/invoke/VarHandle" ∧ (parseMethodDescriptor yX11_out.desc).map (fun d => d.parameters.length) = some 1 := ⟨by decide +kernel, by decide +kernel, by decide +kernel⟩
theorem hd_X11_out : yX11_out.cls = RX11 ∧ yX11_out.cls ≠ "java/lang/invoke/MethodHandle" ∧ yX11_out.cls ≠ "java/lang/invoke/VarHandle" ∧ (parseMethodDescriptor yX11_out.desc).map (fun d => d.parameters.length) = some 1 := ⟨rfl, hds_X11_out⟩
def f_X11_out (X : VV) (U : VV) (a1 : Int32) : Option (Int32 × VV) :=
  bnd (f_X5_has U a1) (fun q1 => if q1 = 0 then some ((-1), U) else bnd (f_X5_add U 2 a1 0) (fun q3 => some (q3.1, q3.2)))
set_option maxHeartbeats 4000000 in
set_option maxRecDepth 100000 in
theorem k_X11_out (l : Launch) (G : va_G) (cy : Nat → ClassId) (ev : Nat → Nat) (adX : Nat → Nat) (xT : Nat) (xR : Nat) (xP : Nat) (xS : Nat) (xIm : Nat) (xTr : Nat) (xC : Nat) (xWa : Nat) (xWb : Nat) (xWo : Nat) (xZ : Nat) (xD : Nat) (xE : Nat) (xB : Nat) (X : VV) (adU : Nat → Nat) (U : VV) (a1 : Int32) (res : Int32 × VV) (h : f_X11_out X U a1 = some res) : MetI l yX11_out cX11_out 2 (some .int) 1 23 G cy ev [.ref (adX 0), .int a1] (wj [cX11 cy adX xT xR xP xS xIm xTr xC xWa xWb xWo xZ (adU 0) xD xE xB X, cX5 cy adU U]) res.1 (wj [cX11 cy adX xT xR xP xS xIm xTr xC xWa xWb xWo xZ (adU 0) xD xE xB X, cX5 cy adU res.2]) := by
  refine MetQ.start (by decide +kernel) (Nat.le_of_ble_eq_true rfl) (fun p e s m args below meth c A ls hx hb hr hml hown hts hlocks hK hP hD hA hl hE => ?_)
  have hS : va_S A s.heap s.heap [] := va_S.rf
  have hown : s.vm.findClass RX11 = some m.cls := hown
  have hl : lv_has ls 2 [(0, .ref (adX 0)), (1, .int a1)] := hl
  delta f_X11_out at h
  refine lv_aload_n hx hb dX11_out_0 rfl (lv_at hl 0 rfl) ?_
  refine go_11_80 (ci := 0) hx hb hts hown hK hE hP rfl dX11_out_1 ?_
  refine lv_iload_n hx hb dX11_out_4 rfl (lv_at hl 1 rfl) ?_
  replace h := bd h
  obtain ⟨q1, h2, h⟩ := h
  refine callWVi (As := [.int a1]) (rest := []) (cs' := [cX11 cy adX xT xR xP xS xIm xTr xC xWa xWb xWo xZ (adU 0) xD xE xB X, cX5 cy adU U]) (isC := [1]) (isR := [0]) hx hb hml hown hts (k_X5_has l G cy ev adU U a1 q1 h2) wm_50_13 wm_50_14 wm_50_15 wm_2_23 wm_50_16 hd_X5_has ⟨by decide, by decide⟩ hK hP hD hS hA hE rfl rfl rfl (cov_of (n := 2) rfl (by decide)) (by decide) rfl (recvW (ci := 1) hK hP rfl cX5_o rfl) rfl rfl hl.1 (Nat.le_of_ble_eq_true rfl) dX11_out_5 (fun H locs hP hD hS => ?_)
  refine lv_if_eq (tgt := 24) hx hb dX11_out_8 (by decide) (fun c9 => ?_) (fun c9 => ?_)
  · replace h := (br h).1 c9
    refine lv_iconst (v := (-1)) hx hb dX11_out_24 (by decide) ?_
    exact retI (fr := fun q => q.1) (fw := fun q => wj [cX11 cy adX xT xR xP xS xIm xTr xC xWa xWb xWo xZ (adU 0) xD xE xB X, cX5 cy adU q.2]) h hx hb hr hlocks hK hP hD hS dX11_out_25
  · replace h := (br h).2 c9
    refine lv_aload_n hx hb dX11_out_11 rfl (lv_at hl 0 rfl) ?_
    refine go_11_80 (ci := 0) hx hb hts hown hK hE hP rfl dX11_out_12 ?_
    refine lv_iconst (v := 2) hx hb dX11_out_15 (by decide) ?_
    refine lv_iload_n hx hb dX11_out_16 rfl (lv_at hl 1 rfl) ?_
    refine lv_iconst (v := 0) hx hb dX11_out_17 (by decide) ?_
    replace h := bd h
    obtain ⟨q3, h4, h⟩ := h
    refine callWVi (As := [.int 2, .int a1, .int 0]) (rest := []) (cs' := [cX11 cy adX xT xR xP xS xIm xTr xC xWa xWb xWo xZ (adU 0) xD xE xB X, cX5 cy adU q3.2]) (isC := [1]) (isR := [0]) hx hb hml hown hts (k_X5_add l G cy ev adU U 2 a1 0 q3 h4) wm_50_1 wm_50_2 wm_50_3 wm_2_23 wm_50_4 hd_X5_add ⟨by decide, by decide⟩ hK hP hD hS hA hE rfl rfl rfl (cov_of (n := 2) rfl (by decide)) (by decide) rfl (recvW (ci := 1) hK hP rfl cX5_o rfl) rfl rfl hl.1 (Nat.le_of_ble_eq_true rfl) dX11_out_18 (fun H locs hP hD hS => ?_)
    refine lv_goto (tgt := 25) hx hb dX11_out_21 (by decide) ?_
    exact retI (fr := fun q => q.1) (fw := fun q => wj [cX11 cy adX xT xR xP xS xIm xTr xC xWa xWb xWo xZ (adU 0) xD xE xB X, cX5 cy adU q.2]) h hx hb hr hlocks hK hP hD hS dX11_out_25
theorem hds_X11_known : yX11_known.cls ≠ "java/lang/invoke/MethodHandle" ∧ yX11_known.cls ≠ "java/lang/invoke/VarHandle" ∧ (parseMethodDescriptor yX11_known.desc).map (fun d => d.parameters.length) = some 1 := ⟨by decide +kernel, by decide +kernel, by decide +kernel⟩
theorem hd_X11_known : yX11_known.cls = RX11 ∧ yX11_known.cls ≠ "java/lang/invoke/MethodHandle" ∧ yX11_known.cls ≠ "java/lang/invoke/VarHandle" ∧ (parseMethodDescriptor yX11_known.desc).map (fun d => d.parameters.length) = some 1 := ⟨rfl, hds_X11_known⟩
def f_X11_known (X : VV) (U : VV) (a1 : Int32) : Option (Int32 × VV) :=
  if a1 < (-1) then some (0, U) else if a1 ≤ U.1 4 then some (1, si U 5 a1) else some (0, U)
set_option maxHeartbeats 4000000 in
set_option maxRecDepth 100000 in
theorem k_X11_known (l : Launch) (G : va_G) (cy : Nat → ClassId) (ev : Nat → Nat) (adX : Nat → Nat) (xT : Nat) (xR : Nat) (xP : Nat) (xS : Nat) (xIm : Nat) (xTr : Nat) (xC : Nat) (xWa : Nat) (xWb : Nat) (xWo : Nat) (xZ : Nat) (xD : Nat) (xE : Nat) (xB : Nat) (X : VV) (adU : Nat → Nat) (U : VV) (a1 : Int32) (res : Int32 × VV) (h : f_X11_known X U a1 = some res) : MetI l yX11_known cX11_known 2 (some .boolean) 0 0 G cy ev [.ref (adX 0), .int a1] (wj [cX11 cy adX xT xR xP xS xIm xTr xC xWa xWb xWo xZ (adU 0) xD xE xB X, cX5 cy adU U]) res.1 (wj [cX11 cy adX xT xR xP xS xIm xTr xC xWa xWb xWo xZ (adU 0) xD xE xB X, cX5 cy adU res.2]) := by
  refine MetQ.start (by decide +kernel) (Nat.le_of_ble_eq_true rfl) (fun p e s m args below meth c A ls hx hb hr hml hown hts hlocks hK hP hD hA hl hE => ?_)
  have hS : va_S A s.heap s.heap [] := va_S.rf
  have hown : s.vm.findClass RX11 = some m.cls := hown
  have hl : lv_has ls 2 [(0, .ref (adX 0)), (1, .int a1)] := hl
  delta f_X11_known at h
  refine lv_iload_n hx hb dX11_known_0 rfl (lv_at hl 1 rfl) ?_
  refine lv_iconst (v := (-1)) hx hb dX11_known_1 (by decide) ?_
  refine lv_icmp_lt (tgt := 16) hx hb dX11_known_2 (by decide) (fun c9 => ?_) (fun c9 => ?_)
  · replace h := (br h).1 c9
    refine lv_iconst (v := 0) hx hb dX11_known_16 (by decide) ?_
    exact retZ (fr := fun q => q.1) (fw := fun q => wj [cX11 cy adX xT xR xP xS xIm xTr xC xWa xWb xWo xZ (adU 0) xD xE xB X, cX5 cy adU q.2]) h hx hb hr narZ0 hlocks hK hP hD hS dX11_known_17
  · replace h := (br h).2 c9
    refine lv_iload_n hx hb dX11_known_5 rfl (lv_at hl 1 rfl) ?_
    refine lv_aload_n hx hb dX11_known_6 rfl (lv_at hl 0 rfl) ?_
    refine go_11_80 (ci := 0) hx hb hts hown hK hE hP rfl dX11_known_7 ?_
    refine go_11_344 (ci := 1) (x := U.1 4) hx hb hts hown hK hE hP rfl rfl dX11_known_10 ?_
    refine lv_icmp_le (tgt := 18) hx hb dX11_known_13 (by decide) (fun c9 => ?_) (fun c9 => ?_)
    · replace h := (br h).1 c9
      refine lv_aload_n hx hb dX11_known_18 rfl (lv_at hl 0 rfl) ?_
      refine go_11_80 (ci := 0) hx hb hts hown hK hE hP rfl dX11_known_19 ?_
      refine lv_iload_n hx hb dX11_known_22 rfl (lv_at hl 1 rfl) ?_
      refine po_11_345 (ci := 1) (cs' := [cX11 cy adX xT xR xP xS xIm xTr xC xWa xWb xWo xZ (adU 0) xD xE xB X, cX5 cy adU (si U 5 a1)]) hx hb hts hown hK hE hP hD hS rfl rfl dX11_known_23 (fun H locs hP hD hS => ?_)
      refine lv_iconst (v := 1) hx hb dX11_known_26 (by decide) ?_
      exact retZ (fr := fun q => q.1) (fw := fun q => wj [cX11 cy adX xT xR xP xS xIm xTr xC xWa xWb xWo xZ (adU 0) xD xE xB X, cX5 cy adU q.2]) h hx hb hr narZ1 hlocks hK hP hD hS dX11_known_27
    · replace h := (br h).2 c9
      refine lv_iconst (v := 0) hx hb dX11_known_16 (by decide) ?_
      exact retZ (fr := fun q => q.1) (fw := fun q => wj [cX11 cy adX xT xR xP xS xIm xTr xC xWa xWb xWo xZ (adU 0) xD xE xB X, cX5 cy adU q.2]) h hx hb hr narZ0 hlocks hK hP hD hS dX11_known_17
theorem hds_X11_lingered : yX11_lingered.cls ≠ "java/lang/invoke/MethodHandle" ∧ yX11_lingered.cls ≠ "java/lang/invoke/VarHandle" ∧ (parseMethodDescriptor yX11_lingered.desc).map (fun d => d.parameters.length) = some 0 := ⟨by decide +kernel, by decide +kernel, by decide +kernel⟩
theorem hd_X11_lingered : yX11_lingered.cls = RX11 ∧ yX11_lingered.cls ≠ "java/lang/invoke/MethodHandle" ∧ yX11_lingered.cls ≠ "java/lang/invoke/VarHandle" ∧ (parseMethodDescriptor yX11_lingered.desc).map (fun d => d.parameters.length) = some 0 := ⟨rfl, hds_X11_lingered⟩
def f_X11_lingered_b98 (N : Nat) (X : VV) (P : VV) (L : VV) (S : VV) (Tr : VV) (C : VV) (Wo : VV) (U : VV) (x1 : Int32) (x2 : Int32) : Option (((Int32 × Int32 × VV × VV × VV × VV × VV) ⊕ (Int32 × VV × VV × VV × VV × VV))) :=
  some (.inl (x1, x2 + 1, L, Tr, C, Wo, U))
def f_X11_lingered_s11 (N : Nat) (X : VV) (P : VV) (L : VV) (S : VV) (Tr : VV) (C : VV) (Wo : VV) (U : VV) (x1 : Int32) (x2 : Int32) : Option (((Int32 × Int32 × VV × VV × VV × VV × VV) ⊕ (Int32 × VV × VV × VV × VV × VV))) :=
  if P.1 0 < x2 then inrO (some (x1, L, Tr, C, Wo, U)) else bnd (f_X10_reset N Wo) (fun q1101 => bnd (f_X8_copy Tr S) (fun q1103 => bnd (f_X0_goThrough N C P L (si q1103 0 0) (si q1101 4 x2)) (fun q1105 => bnd (f_X5_holdFor N U q1105.2.2) (fun q1107 => if q1107 = 0 then f_X11_lingered_b98 N X P q1105.2.1 S q1105.2.2 q1105.1 (si q1101 4 x2) U x1 x2 else f_X11_lingered_b98 N X P q1105.2.1 S q1105.2.2 q1105.1 (si q1101 4 x2) U (x1 ||| (1 <<< (x2 &&& 31))) x2))))
def f_X11_lingered (N : Nat) (X : VV) (P : VV) (L : VV) (S : VV) (Tr : VV) (C : VV) (Wo : VV) (U : VV) : Option (Int32 × VV × VV × VV × VV × VV) :=
  bnd (f_X5_strike N U) (fun q1 => itr (fun q : Int32 × Int32 × VV × VV × VV × VV × VV => f_X11_lingered_s11 N X P q.2.2.1 S q.2.2.2.1 q.2.2.2.2.1 q.2.2.2.2.2.1 q.2.2.2.2.2.2 q.1 q.2.1) N (0, 0, L, Tr, C, Wo, q1))
set_option maxHeartbeats 4000000 in
set_option maxRecDepth 100000 in
theorem k_X11_lingered (l : Launch) (G : va_G) (cy : Nat → ClassId) (ev : Nat → Nat) (N : Nat) (adX : Nat → Nat) (xT : Nat) (xR : Nat) (xIm : Nat) (xWa : Nat) (xWb : Nat) (xZ : Nat) (xD : Nat) (xE : Nat) (xB : Nat) (X : VV) (adP : Nat → Nat) (P : VV) (adL : Nat → Nat) (L : VV) (adS : Nat → Nat) (S : VV) (adTr : Nat → Nat) (Tr : VV) (adC : Nat → Nat) (C : VV) (adWo : Nat → Nat) (Wo : VV) (adU : Nat → Nat) (U : VV)  (res : Int32 × VV × VV × VV × VV × VV) (h : f_X11_lingered N X P L S Tr C Wo U = some res) : MetI l yX11_lingered cX11_lingered 3 (some .int) 6 166 G cy ev [.ref (adX 0)] (wj [cX11 cy adX xT xR (adP 0) (adS 0) xIm (adTr 0) (adC 0) xWa xWb (adWo 0) xZ (adU 0) xD xE xB X, cX6 cy adP (adL 0) P, cX3 cy adL L, cX8 cy adS S, cX8 cy adTr Tr, cX0 cy adC C, cX10 cy adWo Wo, cX5 cy adU U]) res.1 (wj [cX11 cy adX xT xR (adP 0) (adS 0) xIm (adTr 0) (adC 0) xWa xWb (adWo 0) xZ (adU 0) xD xE xB X, cX6 cy adP (adL 0) P, cX3 cy adL res.2.1, cX8 cy adS S, cX8 cy adTr res.2.2.1, cX0 cy adC res.2.2.2.1, cX10 cy adWo res.2.2.2.2.1, cX5 cy adU res.2.2.2.2.2]) := by
  refine MetQ.start (by decide +kernel) (Nat.le_of_ble_eq_true rfl) (fun p e s m args below meth c A ls hx hb hr hml hown hts hlocks hK hP hD hA hl hE => ?_)
  have hS : va_S A s.heap s.heap [] := va_S.rf
  have hown : s.vm.findClass RX11 = some m.cls := hown
  have hl : lv_has ls 3 [(0, .ref (adX 0))] := hl
  have L11 : ∀ (n : Nat) (x1 : Int32) (x2 : Int32) (L : VV) (Tr : VV) (C : VV) (Wo : VV) (U : VV) (H : Heap) (locs : List Loc) (ls : Array Slot), itr (fun q : Int32 × Int32 × VV × VV × VV × VV × VV => f_X11_lingered_s11 N X P q.2.2.1 S q.2.2.2.1 q.2.2.2.2.1 q.2.2.2.2.2.1 q.2.2.2.2.2.2 q.1 q.2.1) n (x1, x2, L, Tr, C, Wo, U) = some res → va_P G vwCl (wj [cX11 cy adX xT xR (adP 0) (adS 0) xIm (adTr 0) (adC 0) xWa xWb (adWo 0) xZ (adU 0) xD xE xB X, cX6 cy adP (adL 0) P, cX3 cy adL L, cX8 cy adS S, cX8 cy adTr Tr, cX0 cy adC C, cX10 cy adWo Wo, cX5 cy adU U]) H → va_D A (wj [cX11 cy adX xT xR (adP 0) (adS 0) xIm (adTr 0) (adC 0) xWa xWb (adWo 0) xZ (adU 0) xD xE xB X, cX6 cy adP (adL 0) P, cX3 cy adL L, cX8 cy adS S, cX8 cy adTr Tr, cX0 cy adC C, cX10 cy adWo Wo, cX5 cy adU U]) → va_S A s.heap H locs → lv_has ls 3 [(0, .ref (adX 0)), (1, .int x1), (2, .int x2)] → W p l e (rmX 6 166) s m args below meth c H locs 0 0 (MQ below (mQi (res.1) G cy A (wj [cX11 cy adX xT xR (adP 0) (adS 0) xIm (adTr 0) (adC 0) xWa xWb (adWo 0) xZ (adU 0) xD xE xB X, cX6 cy adP (adL 0) P, cX3 cy adL res.2.1, cX8 cy adS S, cX8 cy adTr res.2.2.1, cX0 cy adC res.2.2.2.1, cX10 cy adWo res.2.2.2.2.1, cX5 cy adU res.2.2.2.2.2])) args s 0 0 A) (F0 m 11 ls []) := by
    intro n
    induction n with
    | zero => intro x1 x2 L Tr C Wo U H locs ls h; exact (itr_zero h).elim
    | succ n ih1 =>
      intro x1 x2 L Tr C Wo U H locs ls h hP hD hS hl
      obtain ⟨y1, h, hy1⟩ := itr_inv h
      have h : f_X11_lingered_s11 N X P L S Tr C Wo U x1 x2 = some y1 := h
      have B98 : ∀ (x1 : Int32) (x2 : Int32) (L : VV) (Tr : VV) (C : VV) (Wo : VV) (U : VV) (H : Heap) (locs : List Loc) (ls : Array Slot), f_X11_lingered_b98 N X P L S Tr C Wo U x1 x2 = some y1 → va_P G vwCl (wj [cX11 cy adX xT xR (adP 0) (adS 0) xIm (adTr 0) (adC 0) xWa xWb (adWo 0) xZ (adU 0) xD xE xB X, cX6 cy adP (adL 0) P, cX3 cy adL L, cX8 cy adS S, cX8 cy adTr Tr, cX0 cy adC C, cX10 cy adWo Wo, cX5 cy adU U]) H → va_D A (wj [cX11 cy adX xT xR (adP 0) (adS 0) xIm (adTr 0) (adC 0) xWa xWb (adWo 0) xZ (adU 0) xD xE xB X, cX6 cy adP (adL 0) P, cX3 cy adL L, cX8 cy adS S, cX8 cy adTr Tr, cX0 cy adC C, cX10 cy adWo Wo, cX5 cy adU U]) → va_S A s.heap H locs → lv_has ls 3 [(0, .ref (adX 0)), (1, .int x1), (2, .int x2)] → W p l e (rmX 6 166) s m args below meth c H locs 0 0 (MQ below (mQi (res.1) G cy A (wj [cX11 cy adX xT xR (adP 0) (adS 0) xIm (adTr 0) (adC 0) xWa xWb (adWo 0) xZ (adU 0) xD xE xB X, cX6 cy adP (adL 0) P, cX3 cy adL res.2.1, cX8 cy adS S, cX8 cy adTr res.2.2.1, cX0 cy adC res.2.2.2.1, cX10 cy adWo res.2.2.2.2.1, cX5 cy adU res.2.2.2.2.2])) args s 0 0 A) (F0 m 98 ls []) := by
        intro x1 x2 L Tr C Wo U H locs ls h hP hD hS hl
        delta f_X11_lingered_b98 at h
        refine lv_iinc (v := x2 + 1) (lv' := [(2, .int (x2 + 1)), (0, .ref (adX 0)), (1, .int x1)]) hx hb dX11_lingered_98 hl (k := 2) rfl rfl (by decide) rfl (fun ls hl => ?_)
        refine lv_goto (tgt := 11) hx hb dX11_lingered_101 (by decide) ?_
        replace h := itr_back h hy1
        exact ih1 x1 (x2 + 1) L Tr C Wo U _ _ _ h hP hD hS (lv_sub hl [1, 2, 0] rfl)
      delta f_X11_lingered_s11 at h
      refine lv_iload_n hx hb dX11_lingered_11 rfl (lv_at hl 2 rfl) ?_
      refine lv_aload_n hx hb dX11_lingered_12 rfl (lv_at hl 0 rfl) ?_
      refine go_11_29 (ci := 0) hx hb hts hown hK hE hP rfl dX11_lingered_13 ?_
      refine go_11_258 (ci := 1) (x := P.1 0) hx hb hts hown hK hE hP rfl rfl dX11_lingered_16 ?_
      refine lv_icmp_gt (tgt := 104) hx hb dX11_lingered_19 (by decide) (fun c9 => ?_) (fun c9 => ?_)
      · replace h := (br h).1 c9
        replace h := itr_exit h hy1
        refine lv_iload_n hx hb dX11_lingered_104 rfl (lv_at hl 1 rfl) ?_
        exact retI (fr := fun q => q.1) (fw := fun q => wj [cX11 cy adX xT xR (adP 0) (adS 0) xIm (adTr 0) (adC 0) xWa xWb (adWo 0) xZ (adU 0) xD xE xB X, cX6 cy adP (adL 0) P, cX3 cy adL q.2.1, cX8 cy adS S, cX8 cy adTr q.2.2.1, cX0 cy adC q.2.2.2.1, cX10 cy adWo q.2.2.2.2.1, cX5 cy adU q.2.2.2.2.2]) h hx hb hr hlocks hK hP hD hS dX11_lingered_105
      · replace h := (br h).2 c9
        refine lv_aload_n hx hb dX11_lingered_22 rfl (lv_at hl 0 rfl) ?_
        refine go_11_67 (ci := 0) hx hb hts hown hK hE hP rfl dX11_lingered_23 ?_
        replace h := bd h
        obtain ⟨q1101, h1102, h⟩ := h
        refine callWVv (As := []) (rest := []) (cs' := [cX11 cy adX xT xR (adP 0) (adS 0) xIm (adTr 0) (adC 0) xWa xWb (adWo 0) xZ (adU 0) xD xE xB X, cX6 cy adP (adL 0) P, cX3 cy adL L, cX8 cy adS S, cX8 cy adTr Tr, cX0 cy adC C, cX10 cy adWo q1101, cX5 cy adU U]) (isC := [6]) (isR := [0, 1, 2, 3, 4, 5, 7]) hx hb hml hown hts (k_X10_reset l G cy ev N adWo Wo q1101 h1102) wm_44_7 wm_44_8 wm_44_9 wm_2_13 wm_44_10 hd_X10_reset ⟨by decide, by decide⟩ hK hP hD hS hA hE rfl rfl rfl (cov_of (n := 8) rfl (by decide)) (by decide) rfl (recvW (ci := 6) hK hP rfl cX10_o rfl) rfl rfl hl.1 (Nat.le_of_ble_eq_true rfl) dX11_lingered_26 (fun H locs hP hD hS => ?_)
        refine lv_aload_n hx hb dX11_lingered_29 rfl (lv_at hl 0 rfl) ?_
        refine go_11_67 (ci := 0) hx hb hts hown hK hE hP rfl dX11_lingered_30 ?_
        refine lv_iload_n hx hb dX11_lingered_33 rfl (lv_at hl 2 rfl) ?_
        refine po_11_351 (ci := 6) (cs' := [cX11 cy adX xT xR (adP 0) (adS 0) xIm (adTr 0) (adC 0) xWa xWb (adWo 0) xZ (adU 0) xD xE xB X, cX6 cy adP (adL 0) P, cX3 cy adL L, cX8 cy adS S, cX8 cy adTr Tr, cX0 cy adC C, cX10 cy adWo (si q1101 4 x2), cX5 cy adU U]) hx hb hts hown hK hE hP hD hS rfl rfl dX11_lingered_34 (fun H locs hP hD hS => ?_)
        refine lv_aload_n hx hb dX11_lingered_37 rfl (lv_at hl 0 rfl) ?_
        refine go_11_47 (ci := 0) hx hb hts hown hK hE hP rfl dX11_lingered_38 ?_
        refine lv_aload_n hx hb dX11_lingered_41 rfl (lv_at hl 0 rfl) ?_
        refine go_11_36 (ci := 0) hx hb hts hown hK hE hP rfl dX11_lingered_42 ?_
        replace h := bd h
        obtain ⟨q1103, h1104, h⟩ := h
        refine callWVv (As := [.ref (adS 0)]) (rest := []) (cs' := [cX11 cy adX xT xR (adP 0) (adS 0) xIm (adTr 0) (adC 0) xWa xWb (adWo 0) xZ (adU 0) xD xE xB X, cX6 cy adP (adL 0) P, cX3 cy adL L, cX8 cy adS S, cX8 cy adTr q1103, cX0 cy adC C, cX10 cy adWo (si q1101 4 x2), cX5 cy adU U]) (isC := [4, 3]) (isR := [0, 1, 2, 5, 6, 7]) hx hb hml hown hts (k_X8_copy l G cy ev adTr Tr adS S q1103 h1104) wm_43_2 wm_43_3 wm_43_4 wm_2_2 wm_43_5 hd_X8_copy ⟨by decide, by decide⟩ hK hP hD hS hA hE rfl rfl rfl (cov_of (n := 8) rfl (by decide)) (by decide) rfl (recvW (ci := 4) hK hP rfl cX8_o rfl) rfl rfl hl.1 (Nat.le_of_ble_eq_true rfl) dX11_lingered_45 (fun H locs hP hD hS => ?_)
        refine lv_aload_n hx hb dX11_lingered_48 rfl (lv_at hl 0 rfl) ?_
        refine go_11_47 (ci := 0) hx hb hts hown hK hE hP rfl dX11_lingered_49 ?_
        refine lv_iconst (v := 0) hx hb dX11_lingered_52 (by decide) ?_
        refine po_11_242 (ci := 4) (cs' := [cX11 cy adX xT xR (adP 0) (adS 0) xIm (adTr 0) (adC 0) xWa xWb (adWo 0) xZ (adU 0) xD xE xB X, cX6 cy adP (adL 0) P, cX3 cy adL L, cX8 cy adS S, cX8 cy adTr (si q1103 0 0), cX0 cy adC C, cX10 cy adWo (si q1101 4 x2), cX5 cy adU U]) hx hb hts hown hK hE hP hD hS rfl rfl dX11_lingered_53 (fun H locs hP hD hS => ?_)
        refine lv_aload_n hx hb dX11_lingered_56 rfl (lv_at hl 0 rfl) ?_
        refine go_11_53 (ci := 0) hx hb hts hown hK hE hP rfl dX11_lingered_57 ?_
        refine lv_aload_n hx hb dX11_lingered_60 rfl (lv_at hl 0 rfl) ?_
        refine go_11_29 (ci := 0) hx hb hts hown hK hE hP rfl dX11_lingered_61 ?_
        refine lv_aload_n hx hb dX11_lingered_64 rfl (lv_at hl 0 rfl) ?_
        refine go_11_47 (ci := 0) hx hb hts hown hK hE hP rfl dX11_lingered_65 ?_
        refine lv_aload_n hx hb dX11_lingered_68 rfl (lv_at hl 0 rfl) ?_
        refine go_11_67 (ci := 0) hx hb hts hown hK hE hP rfl dX11_lingered_69 ?_
        replace h := bd h
        obtain ⟨q1105, h1106, h⟩ := h
        refine callWVv (As := [.ref (adP 0), .ref (adTr 0), .ref (adWo 0)]) (rest := []) (cs' := [cX11 cy adX xT xR (adP 0) (adS 0) xIm (adTr 0) (adC 0) xWa xWb (adWo 0) xZ (adU 0) xD xE xB X, cX6 cy adP (adL 0) P, cX3 cy adL q1105.2.1, cX8 cy adS S, cX8 cy adTr q1105.2.2, cX0 cy adC q1105.1, cX10 cy adWo (si q1101 4 x2), cX5 cy adU U]) (isC := [5, 1, 2, 4, 6]) (isR := [0, 3, 7]) hx hb hml hown hts (k_X0_goThrough l G cy ev N adC C adP P adL L adTr (si q1103 0 0) adWo (si q1101 4 x2) q1105 h1106) wm_33_14 wm_33_15 wm_33_16 wm_2_9 wm_33_17 hd_X0_goThrough ⟨by decide, by decide⟩ hK hP hD hS hA hE rfl rfl rfl (cov_of (n := 8) rfl (by decide)) (by decide) rfl (recvW (ci := 5) hK hP rfl cX0_o rfl) rfl rfl hl.1 (Nat.le_of_ble_eq_true rfl) dX11_lingered_72 (fun H locs hP hD hS => ?_)
        refine lv_aload_n hx hb dX11_lingered_75 rfl (lv_at hl 0 rfl) ?_
        refine go_11_80 (ci := 0) hx hb hts hown hK hE hP rfl dX11_lingered_76 ?_
        refine lv_aload_n hx hb dX11_lingered_79 rfl (lv_at hl 0 rfl) ?_
        refine go_11_47 (ci := 0) hx hb hts hown hK hE hP rfl dX11_lingered_80 ?_
        refine go_11_202 (ci := 4) hx hb hts hown hK hE hP rfl dX11_lingered_83 ?_
        replace h := bd h
        obtain ⟨q1107, h1108, h⟩ := h
        refine callWVi (As := [.ref (adTr 15)]) (rest := []) (cs' := [cX11 cy adX xT xR (adP 0) (adS 0) xIm (adTr 0) (adC 0) xWa xWb (adWo 0) xZ (adU 0) xD xE xB X, cX6 cy adP (adL 0) P, cX3 cy adL q1105.2.1, cX8 cy adS S, cX8 cy adTr q1105.2.2, cX0 cy adC q1105.1, cX10 cy adWo (si q1101 4 x2), cX5 cy adU U]) (isC := [7, 4]) (isR := [0, 1, 2, 3, 5, 6]) hx hb hml hown hts (k_X5_holdFor l G cy ev N adU U adTr q1105.2.2 q1107 h1108) wm_51_19 wm_51_20 wm_51_21 wm_2_23 wm_51_22 hd_X5_holdFor ⟨by decide, by decide⟩ hK hP hD hS hA hE rfl rfl rfl (cov_of (n := 8) rfl (by decide)) (by decide) rfl (recvW (ci := 7) hK hP rfl cX5_o rfl) rfl rfl hl.1 (Nat.le_of_ble_eq_true rfl) dX11_lingered_86 (fun H locs hP hD hS => ?_)
        refine lv_if_eq (tgt := 98) hx hb dX11_lingered_89 (by decide) (fun c9 => ?_) (fun c9 => ?_)
        · replace h := (br h).1 c9
          exact B98 x1 x2 q1105.2.1 q1105.2.2 q1105.1 (si q1101 4 x2) U _ _ _ h hP hD hS (lv_sub hl [0, 1, 2] rfl)
        · replace h := (br h).2 c9
          refine lv_iload_n hx hb dX11_lingered_92 rfl (lv_at hl 1 rfl) ?_
          refine lv_iconst (v := 1) hx hb dX11_lingered_93 (by decide) ?_
          refine lv_iload_n hx hb dX11_lingered_94 rfl (lv_at hl 2 rfl) ?_
          refine lv_ishl hx hb dX11_lingered_95 ?_
          refine lv_ior hx hb dX11_lingered_96 ?_
          refine lv_istore_n (lv' := [(1, .int (x1 ||| (1 <<< (x2 &&& 31)))), (0, .ref (adX 0)), (2, .int x2)]) hx hb dX11_lingered_97 rfl hl (by decide) rfl (fun ls hl => ?_)
          exact B98 (x1 ||| (1 <<< (x2 &&& 31))) x2 q1105.2.1 q1105.2.2 q1105.1 (si q1101 4 x2) U _ _ _ h hP hD hS (lv_sub hl [1, 0, 2] rfl)
  delta f_X11_lingered at h
  refine lv_aload_n hx hb dX11_lingered_0 rfl (lv_at hl 0 rfl) ?_
  refine go_11_80 (ci := 0) hx hb hts hown hK hE hP rfl dX11_lingered_1 ?_
  replace h := bd h
  obtain ⟨q1, h2, h⟩ := h
  refine callWVv (As := []) (rest := []) (cs' := [cX11 cy adX xT xR (adP 0) (adS 0) xIm (adTr 0) (adC 0) xWa xWb (adWo 0) xZ (adU 0) xD xE xB X, cX6 cy adP (adL 0) P, cX3 cy adL L, cX8 cy adS S, cX8 cy adTr Tr, cX0 cy adC C, cX10 cy adWo Wo, cX5 cy adU q1]) (isC := [7]) (isR := [0, 1, 2, 3, 4, 5, 6]) hx hb hml hown hts (k_X5_strike l G cy ev N adU U q1 h2) wm_51_9 wm_51_10 wm_51_11 wm_2_23 wm_51_12 hd_X5_strike ⟨by decide, by decide⟩ hK hP hD hS hA hE rfl rfl rfl (cov_of (n := 8) rfl (by decide)) (by decide) rfl (recvW (ci := 7) hK hP rfl cX5_o rfl) rfl rfl hl.1 (Nat.le_of_ble_eq_true rfl) dX11_lingered_4 (fun H locs hP hD hS => ?_)
  refine lv_iconst (v := 0) hx hb dX11_lingered_7 (by decide) ?_
  refine lv_istore_n (lv' := [(1, .int 0), (0, .ref (adX 0))]) hx hb dX11_lingered_8 rfl hl (by decide) rfl (fun ls hl => ?_)
  refine lv_iconst (v := 0) hx hb dX11_lingered_9 (by decide) ?_
  refine lv_istore_n (lv' := [(2, .int 0), (1, .int 0), (0, .ref (adX 0))]) hx hb dX11_lingered_10 rfl hl (by decide) rfl (fun ls hl => ?_)
  exact L11  N 0 0 L Tr C Wo q1 _ _ _ h hP hD hS (lv_sub hl [2, 1, 0] rfl)
theorem hds_X11_chance : yX11_chance.cls ≠ "java/lang/invoke/MethodHandle" ∧ yX11_chance.cls ≠ "java/lang/invoke/VarHandle" ∧ (parseMethodDescriptor yX11_chance.desc).map (fun d => d.parameters.length) = some 3 := ⟨by decide +kernel, by decide +kernel, by decide +kernel⟩
theorem hd_X11_chance : yX11_chance.cls = RX11 ∧ yX11_chance.cls ≠ "java/lang/invoke/MethodHandle" ∧ yX11_chance.cls ≠ "java/lang/invoke/VarHandle" ∧ (parseMethodDescriptor yX11_chance.desc).map (fun d => d.parameters.length) = some 3 := ⟨rfl, hds_X11_chance⟩
def f_X11_chance_b129 (N : Nat) (X : VV) (P : VV) (L : VV) (S : VV) (Tr : VV) (C : VV) (Wb : VV) (x2 : Int32) (x3 : Int32) (x4 : Int32) (x5 : Int32) (x6 : Int32) : Option (((Int32 × Int32 × Int32 × VV × VV × VV) ⊕ (Int32 × VV × VV × VV))) :=
  some (.inl (x4, x5, x6 + 1, L, Tr, C))
def f_X11_chance_s67 (N : Nat) (X : VV) (P : VV) (L : VV) (S : VV) (Tr : VV) (C : VV) (Wb : VV) (x2 : Int32) (x3 : Int32) (x5 : Int32) (x6 : Int32) (x7 : Int32) : Option (((Int32 × VV × VV × VV) ⊕ (((Int32 × Int32 × Int32 × VV × VV × VV) ⊕ (Int32 × VV × VV × VV))))) :=
  if x2 ≤ x7 then inrO (if x3 < (Tr.1 10) - (S.1 10) then f_X11_chance_b129 N X P L S Tr C Wb x2 x3 (Tr.1 1) x5 x6 else f_X11_chance_b129 N X P L S Tr C Wb x2 x3 (Tr.1 1) (x5 + 1) x6) else bnd (f_X0_goThrough N C P L Tr Wb) (fun q6701 => some (.inl (x7 + 1, q6701.2.1, q6701.2.2, q6701.1)))
def f_X11_chance_s37 (N : Nat) (X : VV) (P : VV) (L : VV) (S : VV) (Tr : VV) (C : VV) (Wb : VV) (x2 : Int32) (x3 : Int32) (x4 : Int32) (x5 : Int32) (x6 : Int32) : Option (((Int32 × Int32 × Int32 × VV × VV × VV) ⊕ (Int32 × VV × VV × VV))) :=
  if (10 : Int32) ≤ x6 then inrO (some (x5, L, Tr, C)) else bnd (f_X8_copy Tr S) (fun q3701 => itr (fun q : Int32 × VV × VV × VV => f_X11_chance_s67 N X P q.2.1 S q.2.2.1 q.2.2.2 Wb x2 x3 x5 x6 q.1) N (0, L, si q3701 1 x4, C))
def f_X11_chance (N : Nat) (X : VV) (P : VV) (L : VV) (S : VV) (Tr : VV) (C : VV) (Wb : VV) (a1 : Int32) (a2 : Int32) (a3 : Int32) : Option (Int32 × VV × VV × VV) :=
  if a1 < 0 then some ((-1), L, Tr, C) else if a2 < 1 then some ((-1), L, Tr, C) else if (20 : Int32) < a2 then some ((-1), L, Tr, C) else if a3 < 0 then some ((-1), L, Tr, C) else if a3 ≤ 9999 then itr (fun q : Int32 × Int32 × Int32 × VV × VV × VV => f_X11_chance_s37 N X P q.2.2.2.1 S q.2.2.2.2.1 q.2.2.2.2.2 Wb a2 a3 q.1 q.2.1 q.2.2.1) N (a1, 0, 0, L, Tr, C) else some ((-1), L, Tr, C)
set_option maxHeartbeats 4000000 in
set_option maxRecDepth 100000 in
theorem k_X11_chance (l : Launch) (G : va_G) (cy : Nat → ClassId) (ev : Nat → Nat) (N : Nat) (adX : Nat → Nat) (xT : Nat) (xR : Nat) (xIm : Nat) (xWa : Nat) (xWo : Nat) (xZ : Nat) (xU : Nat) (xD : Nat) (xE : Nat) (xB : Nat) (X : VV) (adP : Nat → Nat) (P : VV) (adL : Nat → Nat) (L : VV) (adS : Nat → Nat) (S : VV) (adTr : Nat → Nat) (Tr : VV) (adC : Nat → Nat) (C : VV) (adWb : Nat → Nat) (Wb : VV) (a1 : Int32) (a2 : Int32) (a3 : Int32) (res : Int32 × VV × VV × VV) (h : f_X11_chance N X P L S Tr C Wb a1 a2 a3 = some res) : MetI l yX11_chance cX11_chance 8 (some .int) 6 166 G cy ev [.ref (adX 0), .int a1, .int a2, .int a3] (wj [cX11 cy adX xT xR (adP 0) (adS 0) xIm (adTr 0) (adC 0) xWa (adWb 0) xWo xZ xU xD xE xB X, cX6 cy adP (adL 0) P, cX3 cy adL L, cX8 cy adS S, cX8 cy adTr Tr, cX0 cy adC C, cX10 cy adWb Wb]) res.1 (wj [cX11 cy adX xT xR (adP 0) (adS 0) xIm (adTr 0) (adC 0) xWa (adWb 0) xWo xZ xU xD xE xB X, cX6 cy adP (adL 0) P, cX3 cy adL res.2.1, cX8 cy adS S, cX8 cy adTr res.2.2.1, cX0 cy adC res.2.2.2, cX10 cy adWb Wb]) := by
  refine MetQ.start (by decide +kernel) (Nat.le_of_ble_eq_true rfl) (fun p e s m args below meth c A ls hx hb hr hml hown hts hlocks hK hP hD hA hl hE => ?_)
  have hS : va_S A s.heap s.heap [] := va_S.rf
  have hown : s.vm.findClass RX11 = some m.cls := hown
  have hl : lv_has ls 8 [(0, .ref (adX 0)), (1, .int a1), (2, .int a2), (3, .int a3)] := hl
  have L37 : ∀ (x2 : Int32) (x3 : Int32) (n : Nat) (x4 : Int32) (x5 : Int32) (x6 : Int32) (L : VV) (Tr : VV) (C : VV) (H : Heap) (locs : List Loc) (ls : Array Slot), itr (fun q : Int32 × Int32 × Int32 × VV × VV × VV => f_X11_chance_s37 N X P q.2.2.2.1 S q.2.2.2.2.1 q.2.2.2.2.2 Wb x2 x3 q.1 q.2.1 q.2.2.1) n (x4, x5, x6, L, Tr, C) = some res → va_P G vwCl (wj [cX11 cy adX xT xR (adP 0) (adS 0) xIm (adTr 0) (adC 0) xWa (adWb 0) xWo xZ xU xD xE xB X, cX6 cy adP (adL 0) P, cX3 cy adL L, cX8 cy adS S, cX8 cy adTr Tr, cX0 cy adC C, cX10 cy adWb Wb]) H → va_D A (wj [cX11 cy adX xT xR (adP 0) (adS 0) xIm (adTr 0) (adC 0) xWa (adWb 0) xWo xZ xU xD xE xB X, cX6 cy adP (adL 0) P, cX3 cy adL L, cX8 cy adS S, cX8 cy adTr Tr, cX0 cy adC C, cX10 cy adWb Wb]) → va_S A s.heap H locs → lv_has ls 8 [(0, .ref (adX 0)), (2, .int x2), (3, .int x3), (4, .int x4), (5, .int x5), (6, .int x6)] → W p l e (rmX 6 166) s m args below meth c H locs 0 0 (MQ below (mQi (res.1) G cy A (wj [cX11 cy adX xT xR (adP 0) (adS 0) xIm (adTr 0) (adC 0) xWa (adWb 0) xWo xZ xU xD xE xB X, cX6 cy adP (adL 0) P, cX3 cy adL res.2.1, cX8 cy adS S, cX8 cy adTr res.2.2.1, cX0 cy adC res.2.2.2, cX10 cy adWb Wb])) args s 0 0 A) (F0 m 37 ls []) := by
    intro x2 x3 n
    induction n with
    | zero => intro x4 x5 x6 L Tr C H locs ls h; exact (itr_zero h).elim
    | succ n ih1 =>
      intro x4 x5 x6 L Tr C H locs ls h hP hD hS hl
      obtain ⟨y1, h, hy1⟩ := itr_inv h
      have h : f_X11_chance_s37 N X P L S Tr C Wb x2 x3 x4 x5 x6 = some y1 := h
      have B129 : ∀ (x4 : Int32) (x5 : Int32) (x6 : Int32) (L : VV) (Tr : VV) (C : VV) (H : Heap) (locs : List Loc) (ls : Array Slot), f_X11_chance_b129 N X P L S Tr C Wb x2 x3 x4 x5 x6 = some y1 → va_P G vwCl (wj [cX11 cy adX xT xR (adP 0) (adS 0) xIm (adTr 0) (adC 0) xWa (adWb 0) xWo xZ xU xD xE xB X, cX6 cy adP (adL 0) P, cX3 cy adL L, cX8 cy adS S, cX8 cy adTr Tr, cX0 cy adC C, cX10 cy adWb Wb]) H → va_D A (wj [cX11 cy adX xT xR (adP 0) (adS 0) xIm (adTr 0) (adC 0) xWa (adWb 0) xWo xZ xU xD xE xB X, cX6 cy adP (adL 0) P, cX3 cy adL L, cX8 cy adS S, cX8 cy adTr Tr, cX0 cy adC C, cX10 cy adWb Wb]) → va_S A s.heap H locs → lv_has ls 8 [(0, .ref (adX 0)), (2, .int x2), (3, .int x3), (4, .int x4), (5, .int x5), (6, .int x6)] → W p l e (rmX 6 166) s m args below meth c H locs 0 0 (MQ below (mQi (res.1) G cy A (wj [cX11 cy adX xT xR (adP 0) (adS 0) xIm (adTr 0) (adC 0) xWa (adWb 0) xWo xZ xU xD xE xB X, cX6 cy adP (adL 0) P, cX3 cy adL res.2.1, cX8 cy adS S, cX8 cy adTr res.2.2.1, cX0 cy adC res.2.2.2, cX10 cy adWb Wb])) args s 0 0 A) (F0 m 129 ls []) := by
        intro x4 x5 x6 L Tr C H locs ls h hP hD hS hl
        delta f_X11_chance_b129 at h
        refine lv_iinc (v := x6 + 1) (lv' := [(6, .int (x6 + 1)), (0, .ref (adX 0)), (2, .int x2), (3, .int x3), (4, .int x4), (5, .int x5)]) hx hb dX11_chance_129 hl (k := 5) rfl rfl (by decide) rfl (fun ls hl => ?_)
        refine lv_goto (tgt := 37) hx hb dX11_chance_132 (by decide) ?_
        replace h := itr_back h hy1
        exact ih1 x4 x5 (x6 + 1) L Tr C _ _ _ h hP hD hS (lv_sub hl [1, 2, 3, 4, 5, 0] rfl)
      have L67 : ∀ (x5 : Int32) (x6 : Int32) (n : Nat) (x7 : Int32) (L : VV) (Tr : VV) (C : VV) (H : Heap) (locs : List Loc) (ls : Array Slot), itr (fun q : Int32 × VV × VV × VV => f_X11_chance_s67 N X P q.2.1 S q.2.2.1 q.2.2.2 Wb x2 x3 x5 x6 q.1) n (x7, L, Tr, C) = some y1 → va_P G vwCl (wj [cX11 cy adX xT xR (adP 0) (adS 0) xIm (adTr 0) (adC 0) xWa (adWb 0) xWo xZ xU xD xE xB X, cX6 cy adP (adL 0) P, cX3 cy adL L, cX8 cy adS S, cX8 cy adTr Tr, cX0 cy adC C, cX10 cy adWb Wb]) H → va_D A (wj [cX11 cy adX xT xR (adP 0) (adS 0) xIm (adTr 0) (adC 0) xWa (adWb 0) xWo xZ xU xD xE xB X, cX6 cy adP (adL 0) P, cX3 cy adL L, cX8 cy adS S, cX8 cy adTr Tr, cX0 cy adC C, cX10 cy adWb Wb]) → va_S A s.heap H locs → lv_has ls 8 [(0, .ref (adX 0)), (2, .int x2), (3, .int x3), (5, .int x5), (6, .int x6), (7, .int x7)] → W p l e (rmX 6 166) s m args below meth c H locs 0 0 (MQ below (mQi (res.1) G cy A (wj [cX11 cy adX xT xR (adP 0) (adS 0) xIm (adTr 0) (adC 0) xWa (adWb 0) xWo xZ xU xD xE xB X, cX6 cy adP (adL 0) P, cX3 cy adL res.2.1, cX8 cy adS S, cX8 cy adTr res.2.2.1, cX0 cy adC res.2.2.2, cX10 cy adWb Wb])) args s 0 0 A) (F0 m 67 ls []) := by
        intro x5 x6 n
        induction n with
        | zero => intro x7 L Tr C H locs ls h; exact (itr_zero h).elim
        | succ n ih2 =>
          intro x7 L Tr C H locs ls h hP hD hS hl
          obtain ⟨y2, h, hy2⟩ := itr_inv h
          have h : f_X11_chance_s67 N X P L S Tr C Wb x2 x3 x5 x6 x7 = some y2 := h
          delta f_X11_chance_s67 at h
          refine lv_iload hx hb dX11_chance_67 (lv_at hl 5 rfl) ?_
          refine lv_iload_n hx hb dX11_chance_69 rfl (lv_at hl 1 rfl) ?_
          refine lv_icmp_ge (tgt := 98) hx hb dX11_chance_70 (by decide) (fun c9 => ?_) (fun c9 => ?_)
          · replace h := (br h).1 c9
            replace h := itr_exit h hy2
            refine lv_aload_n hx hb dX11_chance_98 rfl (lv_at hl 0 rfl) ?_
            refine go_11_47 (ci := 0) hx hb hts hown hK hE hP rfl dX11_chance_99 ?_
            refine go_11_358 (ci := 4) (x := Tr.1 1) hx hb hts hown hK hE hP rfl rfl dX11_chance_102 ?_
            refine lv_istore (lv' := [(4, .int (Tr.1 1)), (0, .ref (adX 0)), (2, .int x2), (3, .int x3), (5, .int x5), (6, .int x6), (7, .int x7)]) hx hb dX11_chance_105 hl (by decide) rfl (fun ls hl => ?_)
            refine lv_aload_n hx hb dX11_chance_107 rfl (lv_at hl 1 rfl) ?_
            refine go_11_47 (ci := 0) hx hb hts hown hK hE hP rfl dX11_chance_108 ?_
            refine go_11_361 (ci := 4) (x := Tr.1 10) hx hb hts hown hK hE hP rfl rfl dX11_chance_111 ?_
            refine lv_aload_n hx hb dX11_chance_114 rfl (lv_at hl 1 rfl) ?_
            refine go_11_36 (ci := 0) hx hb hts hown hK hE hP rfl dX11_chance_115 ?_
            refine go_11_361 (ci := 3) (x := S.1 10) hx hb hts hown hK hE hP rfl rfl dX11_chance_118 ?_
            refine lv_isub hx hb dX11_chance_121 ?_
            refine lv_iload_n hx hb dX11_chance_122 rfl (lv_at hl 3 rfl) ?_
            refine lv_icmp_gt (tgt := 129) hx hb dX11_chance_123 (by decide) (fun c9 => ?_) (fun c9 => ?_)
            · replace h := (br h).1 c9
              exact B129 (Tr.1 1) x5 x6 L Tr C _ _ _ h hP hD hS (lv_sub hl [1, 2, 3, 0, 4, 5] rfl)
            · replace h := (br h).2 c9
              refine lv_iinc (v := x5 + 1) (lv' := [(5, .int (x5 + 1)), (4, .int (Tr.1 1)), (0, .ref (adX 0)), (2, .int x2), (3, .int x3), (6, .int x6), (7, .int x7)]) hx hb dX11_chance_126 hl (k := 4) rfl rfl (by decide) rfl (fun ls hl => ?_)
              exact B129 (Tr.1 1) (x5 + 1) x6 L Tr C _ _ _ h hP hD hS (lv_sub hl [2, 3, 4, 1, 0, 5] rfl)
          · replace h := (br h).2 c9
            refine lv_aload_n hx hb dX11_chance_73 rfl (lv_at hl 0 rfl) ?_
            refine go_11_53 (ci := 0) hx hb hts hown hK hE hP rfl dX11_chance_74 ?_
            refine lv_aload_n hx hb dX11_chance_77 rfl (lv_at hl 0 rfl) ?_
            refine go_11_29 (ci := 0) hx hb hts hown hK hE hP rfl dX11_chance_78 ?_
            refine lv_aload_n hx hb dX11_chance_81 rfl (lv_at hl 0 rfl) ?_
            refine go_11_47 (ci := 0) hx hb hts hown hK hE hP rfl dX11_chance_82 ?_
            refine lv_aload_n hx hb dX11_chance_85 rfl (lv_at hl 0 rfl) ?_
            refine go_11_64 (ci := 0) hx hb hts hown hK hE hP rfl dX11_chance_86 ?_
            replace h := bd h
            obtain ⟨q6701, h6702, h⟩ := h
            refine callWVv (As := [.ref (adP 0), .ref (adTr 0), .ref (adWb 0)]) (rest := []) (cs' := [cX11 cy adX xT xR (adP 0) (adS 0) xIm (adTr 0) (adC 0) xWa (adWb 0) xWo xZ xU xD xE xB X, cX6 cy adP (adL 0) P, cX3 cy adL q6701.2.1, cX8 cy adS S, cX8 cy adTr q6701.2.2, cX0 cy adC q6701.1, cX10 cy adWb Wb]) (isC := [5, 1, 2, 4, 6]) (isR := [0, 3]) hx hb hml hown hts (k_X0_goThrough l G cy ev N adC C adP P adL L adTr Tr adWb Wb q6701 h6702) wm_33_14 wm_33_15 wm_33_16 wm_2_9 wm_33_17 hd_X0_goThrough ⟨by decide, by decide⟩ hK hP hD hS hA hE rfl rfl rfl (cov_of (n := 7) rfl (by decide)) (by decide) rfl (recvW (ci := 5) hK hP rfl cX0_o rfl) rfl rfl hl.1 (Nat.le_of_ble_eq_true rfl) dX11_chance_89 (fun H locs hP hD hS => ?_)
            refine lv_iinc (v := x7 + 1) (lv' := [(7, .int (x7 + 1)), (0, .ref (adX 0)), (2, .int x2), (3, .int x3), (5, .int x5), (6, .int x6)]) hx hb dX11_chance_92 hl (k := 5) rfl rfl (by decide) rfl (fun ls hl => ?_)
            refine lv_goto (tgt := 67) hx hb dX11_chance_95 (by decide) ?_
            replace h := itr_back h hy2
            exact ih2 (x7 + 1) q6701.2.1 q6701.2.2 q6701.1 _ _ _ h hP hD hS (lv_sub hl [1, 2, 3, 4, 5, 0] rfl)
      delta f_X11_chance_s37 at h
      refine lv_iload hx hb dX11_chance_37 (lv_at hl 5 rfl) ?_
      refine lv_bipush (v := 10) hx hb dX11_chance_39 (by decide) ?_
      refine lv_icmp_ge (tgt := 135) hx hb dX11_chance_41 (by decide) (fun c9 => ?_) (fun c9 => ?_)
      · replace h := (br h).1 c9
        replace h := itr_exit h hy1
        refine lv_iload hx hb dX11_chance_135 (lv_at hl 4 rfl) ?_
        exact retI (fr := fun q => q.1) (fw := fun q => wj [cX11 cy adX xT xR (adP 0) (adS 0) xIm (adTr 0) (adC 0) xWa (adWb 0) xWo xZ xU xD xE xB X, cX6 cy adP (adL 0) P, cX3 cy adL q.2.1, cX8 cy adS S, cX8 cy adTr q.2.2.1, cX0 cy adC q.2.2.2, cX10 cy adWb Wb]) h hx hb hr hlocks hK hP hD hS dX11_chance_137
      · replace h := (br h).2 c9
        refine lv_aload_n hx hb dX11_chance_44 rfl (lv_at hl 0 rfl) ?_
        refine go_11_47 (ci := 0) hx hb hts hown hK hE hP rfl dX11_chance_45 ?_
        refine lv_aload_n hx hb dX11_chance_48 rfl (lv_at hl 0 rfl) ?_
        refine go_11_36 (ci := 0) hx hb hts hown hK hE hP rfl dX11_chance_49 ?_
        replace h := bd h
        obtain ⟨q3701, h3702, h⟩ := h
        refine callWVv (As := [.ref (adS 0)]) (rest := []) (cs' := [cX11 cy adX xT xR (adP 0) (adS 0) xIm (adTr 0) (adC 0) xWa (adWb 0) xWo xZ xU xD xE xB X, cX6 cy adP (adL 0) P, cX3 cy adL L, cX8 cy adS S, cX8 cy adTr q3701, cX0 cy adC C, cX10 cy adWb Wb]) (isC := [4, 3]) (isR := [0, 1, 2, 5, 6]) hx hb hml hown hts (k_X8_copy l G cy ev adTr Tr adS S q3701 h3702) wm_43_2 wm_43_3 wm_43_4 wm_2_2 wm_43_5 hd_X8_copy ⟨by decide, by decide⟩ hK hP hD hS hA hE rfl rfl rfl (cov_of (n := 7) rfl (by decide)) (by decide) rfl (recvW (ci := 4) hK hP rfl cX8_o rfl) rfl rfl hl.1 (Nat.le_of_ble_eq_true rfl) dX11_chance_52 (fun H locs hP hD hS => ?_)
        refine lv_aload_n hx hb dX11_chance_55 rfl (lv_at hl 0 rfl) ?_
        refine go_11_47 (ci := 0) hx hb hts hown hK hE hP rfl dX11_chance_56 ?_
        refine lv_iload hx hb dX11_chance_59 (lv_at hl 3 rfl) ?_
        refine po_11_358 (ci := 4) (cs' := [cX11 cy adX xT xR (adP 0) (adS 0) xIm (adTr 0) (adC 0) xWa (adWb 0) xWo xZ xU xD xE xB X, cX6 cy adP (adL 0) P, cX3 cy adL L, cX8 cy adS S, cX8 cy adTr (si q3701 1 x4), cX0 cy adC C, cX10 cy adWb Wb]) hx hb hts hown hK hE hP hD hS rfl rfl dX11_chance_61 (fun H locs hP hD hS => ?_)
        refine lv_iconst (v := 0) hx hb dX11_chance_64 (by decide) ?_
        refine lv_istore (lv' := [(7, .int 0), (0, .ref (adX 0)), (2, .int x2), (3, .int x3), (4, .int x4), (5, .int x5), (6, .int x6)]) hx hb dX11_chance_65 hl (by decide) rfl (fun ls hl => ?_)
        exact L67 x5 x6 N 0 L (si q3701 1 x4) C _ _ _ h hP hD hS (lv_sub hl [1, 2, 3, 5, 6, 0] rfl)
  delta f_X11_chance at h
  refine lv_iload_n hx hb dX11_chance_0 rfl (lv_at hl 1 rfl) ?_
  refine lv_if_lt (tgt := 26) hx hb dX11_chance_1 (by decide) (fun c9 => ?_) (fun c9 => ?_)
  · replace h := (br h).1 c9
    refine lv_iconst (v := (-1)) hx hb dX11_chance_26 (by decide) ?_
    exact retI (fr := fun q => q.1) (fw := fun q => wj [cX11 cy adX xT xR (adP 0) (adS 0) xIm (adTr 0) (adC 0) xWa (adWb 0) xWo xZ xU xD xE xB X, cX6 cy adP (adL 0) P, cX3 cy adL q.2.1, cX8 cy adS S, cX8 cy adTr q.2.2.1, cX0 cy adC q.2.2.2, cX10 cy adWb Wb]) h hx hb hr hlocks hK hP hD hS dX11_chance_27
  · replace h := (br h).2 c9
    refine lv_iload_n hx hb dX11_chance_4 rfl (lv_at hl 2 rfl) ?_
    refine lv_iconst (v := 1) hx hb dX11_chance_5 (by decide) ?_
    refine lv_icmp_lt (tgt := 26) hx hb dX11_chance_6 (by decide) (fun c9 => ?_) (fun c9 => ?_)
    · replace h := (br h).1 c9
      refine lv_iconst (v := (-1)) hx hb dX11_chance_26 (by decide) ?_
      exact retI (fr := fun q => q.1) (fw := fun q => wj [cX11 cy adX xT xR (adP 0) (adS 0) xIm (adTr 0) (adC 0) xWa (adWb 0) xWo xZ xU xD xE xB X, cX6 cy adP (adL 0) P, cX3 cy adL q.2.1, cX8 cy adS S, cX8 cy adTr q.2.2.1, cX0 cy adC q.2.2.2, cX10 cy adWb Wb]) h hx hb hr hlocks hK hP hD hS dX11_chance_27
    · replace h := (br h).2 c9
      refine lv_iload_n hx hb dX11_chance_9 rfl (lv_at hl 2 rfl) ?_
      refine lv_bipush (v := 20) hx hb dX11_chance_10 (by decide) ?_
      refine lv_icmp_gt (tgt := 26) hx hb dX11_chance_12 (by decide) (fun c9 => ?_) (fun c9 => ?_)
      · replace h := (br h).1 c9
        refine lv_iconst (v := (-1)) hx hb dX11_chance_26 (by decide) ?_
        exact retI (fr := fun q => q.1) (fw := fun q => wj [cX11 cy adX xT xR (adP 0) (adS 0) xIm (adTr 0) (adC 0) xWa (adWb 0) xWo xZ xU xD xE xB X, cX6 cy adP (adL 0) P, cX3 cy adL q.2.1, cX8 cy adS S, cX8 cy adTr q.2.2.1, cX0 cy adC q.2.2.2, cX10 cy adWb Wb]) h hx hb hr hlocks hK hP hD hS dX11_chance_27
      · replace h := (br h).2 c9
        refine lv_iload_n hx hb dX11_chance_15 rfl (lv_at hl 3 rfl) ?_
        refine lv_if_lt (tgt := 26) hx hb dX11_chance_16 (by decide) (fun c9 => ?_) (fun c9 => ?_)
        · replace h := (br h).1 c9
          refine lv_iconst (v := (-1)) hx hb dX11_chance_26 (by decide) ?_
          exact retI (fr := fun q => q.1) (fw := fun q => wj [cX11 cy adX xT xR (adP 0) (adS 0) xIm (adTr 0) (adC 0) xWa (adWb 0) xWo xZ xU xD xE xB X, cX6 cy adP (adL 0) P, cX3 cy adL q.2.1, cX8 cy adS S, cX8 cy adTr q.2.2.1, cX0 cy adC q.2.2.2, cX10 cy adWb Wb]) h hx hb hr hlocks hK hP hD hS dX11_chance_27
        · replace h := (br h).2 c9
          refine lv_iload_n hx hb dX11_chance_19 rfl (lv_at hl 3 rfl) ?_
          refine lv_sipush (v := 9999) hx hb dX11_chance_20 (by decide) ?_
          refine lv_icmp_le (tgt := 28) hx hb dX11_chance_23 (by decide) (fun c9 => ?_) (fun c9 => ?_)
          · replace h := (br h).1 c9
            refine lv_iload_n hx hb dX11_chance_28 rfl (lv_at hl 1 rfl) ?_
            refine lv_istore (lv' := [(4, .int a1), (0, .ref (adX 0)), (1, .int a1), (2, .int a2), (3, .int a3)]) hx hb dX11_chance_29 hl (by decide) rfl (fun ls hl => ?_)
            refine lv_iconst (v := 0) hx hb dX11_chance_31 (by decide) ?_
            refine lv_istore (lv' := [(5, .int 0), (4, .int a1), (0, .ref (adX 0)), (1, .int a1), (2, .int a2), (3, .int a3)]) hx hb dX11_chance_32 hl (by decide) rfl (fun ls hl => ?_)
            refine lv_iconst (v := 0) hx hb dX11_chance_34 (by decide) ?_
            refine lv_istore (lv' := [(6, .int 0), (5, .int 0), (4, .int a1), (0, .ref (adX 0)), (1, .int a1), (2, .int a2), (3, .int a3)]) hx hb dX11_chance_35 hl (by decide) rfl (fun ls hl => ?_)
            exact L37 a2 a3 N a1 0 0 L Tr C _ _ _ h hP hD hS (lv_sub hl [3, 5, 6, 2, 1, 0] rfl)
          · replace h := (br h).2 c9
            refine lv_iconst (v := (-1)) hx hb dX11_chance_26 (by decide) ?_
            exact retI (fr := fun q => q.1) (fw := fun q => wj [cX11 cy adX xT xR (adP 0) (adS 0) xIm (adTr 0) (adC 0) xWa (adWb 0) xWo xZ xU xD xE xB X, cX6 cy adP (adL 0) P, cX3 cy adL q.2.1, cX8 cy adS S, cX8 cy adTr q.2.2.1, cX0 cy adC q.2.2.2, cX10 cy adWb Wb]) h hx hb hr hlocks hK hP hD hS dX11_chance_27
theorem hds_X11_tried : yX11_tried.cls ≠ "java/lang/invoke/MethodHandle" ∧ yX11_tried.cls ≠ "java/lang/invoke/VarHandle" ∧ (parseMethodDescriptor yX11_tried.desc).map (fun d => d.parameters.length) = some 3 := ⟨by decide +kernel, by decide +kernel, by decide +kernel⟩
theorem hd_X11_tried : yX11_tried.cls = RX11 ∧ yX11_tried.cls ≠ "java/lang/invoke/MethodHandle" ∧ yX11_tried.cls ≠ "java/lang/invoke/VarHandle" ∧ (parseMethodDescriptor yX11_tried.desc).map (fun d => d.parameters.length) = some 3 := ⟨rfl, hds_X11_tried⟩
def f_X11_tried_s83 (N : Nat) (X : VV) (P : VV) (L : VV) (S : VV) (Tr : VV) (C : VV) (Wo : VV) (x3 : Int32) (x5 : Int32) : Option (((Int32 × VV × VV × VV × VV) ⊕ (Int32 × VV × VV × VV × VV))) :=
  if x3 ≤ x5 then inrO (some ((Tr.1 9) - (S.1 9), L, Tr, C, Wo)) else bnd (f_X0_goThrough N C P L Tr Wo) (fun q8301 => some (.inl (x5 + 1, q8301.2.1, q8301.2.2, q8301.1, Wo)))
def f_X11_tried_b34 (N : Nat) (X : VV) (P : VV) (L : VV) (S : VV) (Tr : VV) (C : VV) (Wo : VV) (x1 : Int32) (x2 : Int32) (x3 : Int32) (z0 : Int32) : Option (Int32 × VV × VV × VV × VV) :=
  if z0 = 0 then some ((-1), L, Tr, C, Wo) else if x3 < 0 then some ((-1), L, Tr, C, Wo) else if x3 ≤ 20 then bnd (f_X10_reset N Wo) (fun q3401 => bnd (f_X10_change q3401 x1 x2) (fun q3403 => bnd (f_X8_copy Tr S) (fun q3405 => itr (fun q : Int32 × VV × VV × VV × VV => f_X11_tried_s83 N X P q.2.1 S q.2.2.1 q.2.2.2.1 q.2.2.2.2 x3 q.1) N (0, L, q3405, C, q3403)))) else some ((-1), L, Tr, C, Wo)
def f_X11_tried_b33 (N : Nat) (X : VV) (P : VV) (L : VV) (S : VV) (Tr : VV) (C : VV) (Wo : VV) (x1 : Int32) (x2 : Int32) (x3 : Int32) : Option (Int32 × VV × VV × VV × VV) :=
  f_X11_tried_b34 N X P L S Tr C Wo x1 x2 x3 0
def f_X11_tried (N : Nat) (X : VV) (P : VV) (L : VV) (S : VV) (Tr : VV) (C : VV) (Wo : VV) (a1 : Int32) (a2 : Int32) (a3 : Int32) : Option (Int32 × VV × VV × VV × VV) :=
  if a1 = 2 then bnd (f_X6_hasParty P a2) (fun q1 => f_X11_tried_b34 N X P L S Tr C Wo a1 a2 a3 q1) else if a1 < 0 then f_X11_tried_b33 N X P L S Tr C Wo a1 a2 a3 else if (5 : Int32) < a1 then f_X11_tried_b33 N X P L S Tr C Wo a1 a2 a3 else if a2 = 0 then f_X11_tried_b34 N X P L S Tr C Wo a1 a2 a3 1 else f_X11_tried_b33 N X P L S Tr C Wo a1 a2 a3
set_option maxHeartbeats 4000000 in
set_option maxRecDepth 100000 in
theorem k_X11_tried (l : Launch) (G : va_G) (cy : Nat → ClassId) (ev : Nat → Nat) (N : Nat) (adX : Nat → Nat) (xT : Nat) (xR : Nat) (xIm : Nat) (xWa : Nat) (xWb : Nat) (xZ : Nat) (xU : Nat) (xD : Nat) (xE : Nat) (xB : Nat) (X : VV) (adP : Nat → Nat) (P : VV) (adL : Nat → Nat) (L : VV) (adS : Nat → Nat) (S : VV) (adTr : Nat → Nat) (Tr : VV) (adC : Nat → Nat) (C : VV) (adWo : Nat → Nat) (Wo : VV) (a1 : Int32) (a2 : Int32) (a3 : Int32) (res : Int32 × VV × VV × VV × VV) (h : f_X11_tried N X P L S Tr C Wo a1 a2 a3 = some res) : MetI l yX11_tried cX11_tried 6 (some .int) 6 166 G cy ev [.ref (adX 0), .int a1, .int a2, .int a3] (wj [cX11 cy adX xT xR (adP 0) (adS 0) xIm (adTr 0) (adC 0) xWa xWb (adWo 0) xZ xU xD xE xB X, cX6 cy adP (adL 0) P, cX3 cy adL L, cX8 cy adS S, cX8 cy adTr Tr, cX0 cy adC C, cX10 cy adWo Wo]) res.1 (wj [cX11 cy adX xT xR (adP 0) (adS 0) xIm (adTr 0) (adC 0) xWa xWb (adWo 0) xZ xU xD xE xB X, cX6 cy adP (adL 0) P, cX3 cy adL res.2.1, cX8 cy adS S, cX8 cy adTr res.2.2.1, cX0 cy adC res.2.2.2.1, cX10 cy adWo res.2.2.2.2]) := by
  refine MetQ.start (by decide +kernel) (Nat.le_of_ble_eq_true rfl) (fun p e s m args below meth c A ls hx hb hr hml hown hts hlocks hK hP hD hA hl hE => ?_)
  have hS : va_S A s.heap s.heap [] := va_S.rf
  have hown : s.vm.findClass RX11 = some m.cls := hown
  have hl : lv_has ls 6 [(0, .ref (adX 0)), (1, .int a1), (2, .int a2), (3, .int a3)] := hl
  have L83 : ∀ (x3 : Int32) (n : Nat) (x5 : Int32) (L : VV) (Tr : VV) (C : VV) (Wo : VV) (H : Heap) (locs : List Loc) (ls : Array Slot), itr (fun q : Int32 × VV × VV × VV × VV => f_X11_tried_s83 N X P q.2.1 S q.2.2.1 q.2.2.2.1 q.2.2.2.2 x3 q.1) n (x5, L, Tr, C, Wo) = some res → va_P G vwCl (wj [cX11 cy adX xT xR (adP 0) (adS 0) xIm (adTr 0) (adC 0) xWa xWb (adWo 0) xZ xU xD xE xB X, cX6 cy adP (adL 0) P, cX3 cy adL L, cX8 cy adS S, cX8 cy adTr Tr, cX0 cy adC C, cX10 cy adWo Wo]) H → va_D A (wj [cX11 cy adX xT xR (adP 0) (adS 0) xIm (adTr 0) (adC 0) xWa xWb (adWo 0) xZ xU xD xE xB X, cX6 cy adP (adL 0) P, cX3 cy adL L, cX8 cy adS S, cX8 cy adTr Tr, cX0 cy adC C, cX10 cy adWo Wo]) → va_S A s.heap H locs → lv_has ls 6 [(0, .ref (adX 0)), (3, .int x3), (5, .int x5)] → W p l e (rmX 6 166) s m args below meth c H locs 0 0 (MQ below (mQi (res.1) G cy A (wj [cX11 cy adX xT xR (adP 0) (adS 0) xIm (adTr 0) (adC 0) xWa xWb (adWo 0) xZ xU xD xE xB X, cX6 cy adP (adL 0) P, cX3 cy adL res.2.1, cX8 cy adS S, cX8 cy adTr res.2.2.1, cX0 cy adC res.2.2.2.1, cX10 cy adWo res.2.2.2.2])) args s 0 0 A) (F0 m 83 ls []) := by
    intro x3 n
    induction n with
    | zero => intro x5 L Tr C Wo H locs ls h; exact (itr_zero h).elim
    | succ n ih1 =>
      intro x5 L Tr C Wo H locs ls h hP hD hS hl
      obtain ⟨y1, h, hy1⟩ := itr_inv h
      have h : f_X11_tried_s83 N X P L S Tr C Wo x3 x5 = some y1 := h
      delta f_X11_tried_s83 at h
      refine lv_iload hx hb dX11_tried_83 (lv_at hl 2 rfl) ?_
      refine lv_iload_n hx hb dX11_tried_85 rfl (lv_at hl 1 rfl) ?_
      refine lv_icmp_ge (tgt := 114) hx hb dX11_tried_86 (by decide) (fun c9 => ?_) (fun c9 => ?_)
      · replace h := (br h).1 c9
        replace h := itr_exit h hy1
        refine lv_aload_n hx hb dX11_tried_114 rfl (lv_at hl 0 rfl) ?_
        refine go_11_47 (ci := 0) hx hb hts hown hK hE hP rfl dX11_tried_115 ?_
        refine go_11_367 (ci := 4) (x := Tr.1 9) hx hb hts hown hK hE hP rfl rfl dX11_tried_118 ?_
        refine lv_aload_n hx hb dX11_tried_121 rfl (lv_at hl 0 rfl) ?_
        refine go_11_36 (ci := 0) hx hb hts hown hK hE hP rfl dX11_tried_122 ?_
        refine go_11_367 (ci := 3) (x := S.1 9) hx hb hts hown hK hE hP rfl rfl dX11_tried_125 ?_
        refine lv_isub hx hb dX11_tried_128 ?_
        exact retI (fr := fun q => q.1) (fw := fun q => wj [cX11 cy adX xT xR (adP 0) (adS 0) xIm (adTr 0) (adC 0) xWa xWb (adWo 0) xZ xU xD xE xB X, cX6 cy adP (adL 0) P, cX3 cy adL q.2.1, cX8 cy adS S, cX8 cy adTr q.2.2.1, cX0 cy adC q.2.2.2.1, cX10 cy adWo q.2.2.2.2]) h hx hb hr hlocks hK hP hD hS dX11_tried_129
      · replace h := (br h).2 c9
        refine lv_aload_n hx hb dX11_tried_89 rfl (lv_at hl 0 rfl) ?_
        refine go_11_53 (ci := 0) hx hb hts hown hK hE hP rfl dX11_tried_90 ?_
        refine lv_aload_n hx hb dX11_tried_93 rfl (lv_at hl 0 rfl) ?_
        refine go_11_29 (ci := 0) hx hb hts hown hK hE hP rfl dX11_tried_94 ?_
        refine lv_aload_n hx hb dX11_tried_97 rfl (lv_at hl 0 rfl) ?_
        refine go_11_47 (ci := 0) hx hb hts hown hK hE hP rfl dX11_tried_98 ?_
        refine lv_aload_n hx hb dX11_tried_101 rfl (lv_at hl 0 rfl) ?_
        refine go_11_67 (ci := 0) hx hb hts hown hK hE hP rfl dX11_tried_102 ?_
        replace h := bd h
        obtain ⟨q8301, h8302, h⟩ := h
        refine callWVv (As := [.ref (adP 0), .ref (adTr 0), .ref (adWo 0)]) (rest := []) (cs' := [cX11 cy adX xT xR (adP 0) (adS 0) xIm (adTr 0) (adC 0) xWa xWb (adWo 0) xZ xU xD xE xB X, cX6 cy adP (adL 0) P, cX3 cy adL q8301.2.1, cX8 cy adS S, cX8 cy adTr q8301.2.2, cX0 cy adC q8301.1, cX10 cy adWo Wo]) (isC := [5, 1, 2, 4, 6]) (isR := [0, 3]) hx hb hml hown hts (k_X0_goThrough l G cy ev N adC C adP P adL L adTr Tr adWo Wo q8301 h8302) wm_33_14 wm_33_15 wm_33_16 wm_2_9 wm_33_17 hd_X0_goThrough ⟨by decide, by decide⟩ hK hP hD hS hA hE rfl rfl rfl (cov_of (n := 7) rfl (by decide)) (by decide) rfl (recvW (ci := 5) hK hP rfl cX0_o rfl) rfl rfl hl.1 (Nat.le_of_ble_eq_true rfl) dX11_tried_105 (fun H locs hP hD hS => ?_)
        refine lv_iinc (v := x5 + 1) (lv' := [(5, .int (x5 + 1)), (0, .ref (adX 0)), (3, .int x3)]) hx hb dX11_tried_108 hl (k := 2) rfl rfl (by decide) rfl (fun ls hl => ?_)
        refine lv_goto (tgt := 83) hx hb dX11_tried_111 (by decide) ?_
        replace h := itr_back h hy1
        exact ih1 (x5 + 1) q8301.2.1 q8301.2.2 q8301.1 Wo _ _ _ h hP hD hS (lv_sub hl [1, 2, 0] rfl)
  have B34 : ∀ (x1 : Int32) (x2 : Int32) (x3 : Int32) (z0 : Int32) (L : VV) (Tr : VV) (C : VV) (Wo : VV) (H : Heap) (locs : List Loc) (ls : Array Slot), f_X11_tried_b34 N X P L S Tr C Wo x1 x2 x3 z0 = some res → va_P G vwCl (wj [cX11 cy adX xT xR (adP 0) (adS 0) xIm (adTr 0) (adC 0) xWa xWb (adWo 0) xZ xU xD xE xB X, cX6 cy adP (adL 0) P, cX3 cy adL L, cX8 cy adS S, cX8 cy adTr Tr, cX0 cy adC C, cX10 cy adWo Wo]) H → va_D A (wj [cX11 cy adX xT xR (adP 0) (adS 0) xIm (adTr 0) (adC 0) xWa xWb (adWo 0) xZ xU xD xE xB X, cX6 cy adP (adL 0) P, cX3 cy adL L, cX8 cy adS S, cX8 cy adTr Tr, cX0 cy adC C, cX10 cy adWo Wo]) → va_S A s.heap H locs → lv_has ls 6 [(0, .ref (adX 0)), (1, .int x1), (2, .int x2), (3, .int x3)] → W p l e (rmX 6 166) s m args below meth c H locs 0 0 (MQ below (mQi (res.1) G cy A (wj [cX11 cy adX xT xR (adP 0) (adS 0) xIm (adTr 0) (adC 0) xWa xWb (adWo 0) xZ xU xD xE xB X, cX6 cy adP (adL 0) P, cX3 cy adL res.2.1, cX8 cy adS S, cX8 cy adTr res.2.2.1, cX0 cy adC res.2.2.2.1, cX10 cy adWo res.2.2.2.2])) args s 0 0 A) (F0 m 34 ls [.int z0]) := by
    intro x1 x2 x3 z0 L Tr C Wo H locs ls h hP hD hS hl
    delta f_X11_tried_b34 at h
    refine lv_istore (lv' := [(4, .int z0), (0, .ref (adX 0)), (1, .int x1), (2, .int x2), (3, .int x3)]) hx hb dX11_tried_34 hl (by decide) rfl (fun ls hl => ?_)
    refine lv_iload hx hb dX11_tried_36 (lv_at hl 0 rfl) ?_
    refine lv_if_eq (tgt := 51) hx hb dX11_tried_38 (by decide) (fun c9 => ?_) (fun c9 => ?_)
    · replace h := (br h).1 c9
      refine lv_iconst (v := (-1)) hx hb dX11_tried_51 (by decide) ?_
      exact retI (fr := fun q => q.1) (fw := fun q => wj [cX11 cy adX xT xR (adP 0) (adS 0) xIm (adTr 0) (adC 0) xWa xWb (adWo 0) xZ xU xD xE xB X, cX6 cy adP (adL 0) P, cX3 cy adL q.2.1, cX8 cy adS S, cX8 cy adTr q.2.2.1, cX0 cy adC q.2.2.2.1, cX10 cy adWo q.2.2.2.2]) h hx hb hr hlocks hK hP hD hS dX11_tried_52
    · replace h := (br h).2 c9
      refine lv_iload_n hx hb dX11_tried_41 rfl (lv_at hl 4 rfl) ?_
      refine lv_if_lt (tgt := 51) hx hb dX11_tried_42 (by decide) (fun c9 => ?_) (fun c9 => ?_)
      · replace h := (br h).1 c9
        refine lv_iconst (v := (-1)) hx hb dX11_tried_51 (by decide) ?_
        exact retI (fr := fun q => q.1) (fw := fun q => wj [cX11 cy adX xT xR (adP 0) (adS 0) xIm (adTr 0) (adC 0) xWa xWb (adWo 0) xZ xU xD xE xB X, cX6 cy adP (adL 0) P, cX3 cy adL q.2.1, cX8 cy adS S, cX8 cy adTr q.2.2.1, cX0 cy adC q.2.2.2.1, cX10 cy adWo q.2.2.2.2]) h hx hb hr hlocks hK hP hD hS dX11_tried_52
      · replace h := (br h).2 c9
        refine lv_iload_n hx hb dX11_tried_45 rfl (lv_at hl 4 rfl) ?_
        refine lv_bipush (v := 20) hx hb dX11_tried_46 (by decide) ?_
        refine lv_icmp_le (tgt := 53) hx hb dX11_tried_48 (by decide) (fun c9 => ?_) (fun c9 => ?_)
        · replace h := (br h).1 c9
          refine lv_aload_n hx hb dX11_tried_53 rfl (lv_at hl 1 rfl) ?_
          refine go_11_67 (ci := 0) hx hb hts hown hK hE hP rfl dX11_tried_54 ?_
          replace h := bd h
          obtain ⟨q3401, h3402, h⟩ := h
          refine callWVv (As := []) (rest := []) (cs' := [cX11 cy adX xT xR (adP 0) (adS 0) xIm (adTr 0) (adC 0) xWa xWb (adWo 0) xZ xU xD xE xB X, cX6 cy adP (adL 0) P, cX3 cy adL L, cX8 cy adS S, cX8 cy adTr Tr, cX0 cy adC C, cX10 cy adWo q3401]) (isC := [6]) (isR := [0, 1, 2, 3, 4, 5]) hx hb hml hown hts (k_X10_reset l G cy ev N adWo Wo q3401 h3402) wm_44_7 wm_44_8 wm_44_9 wm_2_13 wm_44_10 hd_X10_reset ⟨by decide, by decide⟩ hK hP hD hS hA hE rfl rfl rfl (cov_of (n := 7) rfl (by decide)) (by decide) rfl (recvW (ci := 6) hK hP rfl cX10_o rfl) rfl rfl hl.1 (Nat.le_of_ble_eq_true rfl) dX11_tried_57 (fun H locs hP hD hS => ?_)
          refine lv_aload_n hx hb dX11_tried_60 rfl (lv_at hl 1 rfl) ?_
          refine go_11_67 (ci := 0) hx hb hts hown hK hE hP rfl dX11_tried_61 ?_
          refine lv_iload_n hx hb dX11_tried_64 rfl (lv_at hl 2 rfl) ?_
          refine lv_iload_n hx hb dX11_tried_65 rfl (lv_at hl 3 rfl) ?_
          replace h := bd h
          obtain ⟨q3403, h3404, h⟩ := h
          refine callWVv (As := [.int x1, .int x2]) (rest := []) (cs' := [cX11 cy adX xT xR (adP 0) (adS 0) xIm (adTr 0) (adC 0) xWa xWb (adWo 0) xZ xU xD xE xB X, cX6 cy adP (adL 0) P, cX3 cy adL L, cX8 cy adS S, cX8 cy adTr Tr, cX0 cy adC C, cX10 cy adWo q3403]) (isC := [6]) (isR := [0, 1, 2, 3, 4, 5]) hx hb hml hown hts (k_X10_change l G cy ev adWo q3401 x1 x2 q3403 h3404) wm_52_23 wm_53_0 wm_53_1 wm_2_13 wm_53_2 hd_X10_change ⟨by decide, by decide⟩ hK hP hD hS hA hE rfl rfl rfl (cov_of (n := 7) rfl (by decide)) (by decide) rfl (recvW (ci := 6) hK hP rfl cX10_o rfl) rfl rfl hl.1 (Nat.le_of_ble_eq_true rfl) dX11_tried_66 (fun H locs hP hD hS => ?_)
          refine lv_aload_n hx hb dX11_tried_69 rfl (lv_at hl 1 rfl) ?_
          refine go_11_47 (ci := 0) hx hb hts hown hK hE hP rfl dX11_tried_70 ?_
          refine lv_aload_n hx hb dX11_tried_73 rfl (lv_at hl 1 rfl) ?_
          refine go_11_36 (ci := 0) hx hb hts hown hK hE hP rfl dX11_tried_74 ?_
          replace h := bd h
          obtain ⟨q3405, h3406, h⟩ := h
          refine callWVv (As := [.ref (adS 0)]) (rest := []) (cs' := [cX11 cy adX xT xR (adP 0) (adS 0) xIm (adTr 0) (adC 0) xWa xWb (adWo 0) xZ xU xD xE xB X, cX6 cy adP (adL 0) P, cX3 cy adL L, cX8 cy adS S, cX8 cy adTr q3405, cX0 cy adC C, cX10 cy adWo q3403]) (isC := [4, 3]) (isR := [0, 1, 2, 5, 6]) hx hb hml hown hts (k_X8_copy l G cy ev adTr Tr adS S q3405 h3406) wm_43_2 wm_43_3 wm_43_4 wm_2_2 wm_43_5 hd_X8_copy ⟨by decide, by decide⟩ hK hP hD hS hA hE rfl rfl rfl (cov_of (n := 7) rfl (by decide)) (by decide) rfl (recvW (ci := 4) hK hP rfl cX8_o rfl) rfl rfl hl.1 (Nat.le_of_ble_eq_true rfl) dX11_tried_77 (fun H locs hP hD hS => ?_)
          refine lv_iconst (v := 0) hx hb dX11_tried_80 (by decide) ?_
          refine lv_istore (lv' := [(5, .int 0), (4, .int z0), (0, .ref (adX 0)), (1, .int x1), (2, .int x2), (3, .int x3)]) hx hb dX11_tried_81 hl (by decide) rfl (fun ls hl => ?_)
          exact L83 x3 N 0 L q3405 C q3403 _ _ _ h hP hD hS (lv_sub hl [2, 5, 0] rfl)
        · replace h := (br h).2 c9
          refine lv_iconst (v := (-1)) hx hb dX11_tried_51 (by decide) ?_
          exact retI (fr := fun q => q.1) (fw := fun q => wj [cX11 cy adX xT xR (adP 0) (adS 0) xIm (adTr 0) (adC 0) xWa xWb (adWo 0) xZ xU xD xE xB X, cX6 cy adP (adL 0) P, cX3 cy adL q.2.1, cX8 cy adS S, cX8 cy adTr q.2.2.1, cX0 cy adC q.2.2.2.1, cX10 cy adWo q.2.2.2.2]) h hx hb hr hlocks hK hP hD hS dX11_tried_52
  have B33 : ∀ (x1 : Int32) (x2 : Int32) (x3 : Int32) (L : VV) (Tr : VV) (C : VV) (Wo : VV) (H : Heap) (locs : List Loc) (ls : Array Slot), f_X11_tried_b33 N X P L S Tr C Wo x1 x2 x3 = some res → va_P G vwCl (wj [cX11 cy adX xT xR (adP 0) (adS 0) xIm (adTr 0) (adC 0) xWa xWb (adWo 0) xZ xU xD xE xB X, cX6 cy adP (adL 0) P, cX3 cy adL L, cX8 cy adS S, cX8 cy adTr Tr, cX0 cy adC C, cX10 cy adWo Wo]) H → va_D A (wj [cX11 cy adX xT xR (adP 0) (adS 0) xIm (adTr 0) (adC 0) xWa xWb (adWo 0) xZ xU xD xE xB X, cX6 cy adP (adL 0) P, cX3 cy adL L, cX8 cy adS S, cX8 cy adTr Tr, cX0 cy adC C, cX10 cy adWo Wo]) → va_S A s.heap H locs → lv_has ls 6 [(0, .ref (adX 0)), (1, .int x1), (2, .int x2), (3, .int x3)] → W p l e (rmX 6 166) s m args below meth c H locs 0 0 (MQ below (mQi (res.1) G cy A (wj [cX11 cy adX xT xR (adP 0) (adS 0) xIm (adTr 0) (adC 0) xWa xWb (adWo 0) xZ xU xD xE xB X, cX6 cy adP (adL 0) P, cX3 cy adL res.2.1, cX8 cy adS S, cX8 cy adTr res.2.2.1, cX0 cy adC res.2.2.2.1, cX10 cy adWo res.2.2.2.2])) args s 0 0 A) (F0 m 33 ls []) := by
    intro x1 x2 x3 L Tr C Wo H locs ls h hP hD hS hl
    delta f_X11_tried_b33 at h
    refine lv_iconst (v := 0) hx hb dX11_tried_33 (by decide) ?_
    exact B34 x1 x2 x3 0 L Tr C Wo _ _ _ h hP hD hS (lv_sub hl [0, 1, 2, 3] rfl)
  delta f_X11_tried at h
  refine lv_iload_n hx hb dX11_tried_0 rfl (lv_at hl 1 rfl) ?_
  refine lv_iconst (v := 2) hx hb dX11_tried_1 (by decide) ?_
  refine lv_icmp_ne (tgt := 16) hx hb dX11_tried_2 (by decide) (fun c9 => ?_) (fun c9 => ?_)
  · replace h := (br h).2 c9
    refine lv_iload_n hx hb dX11_tried_16 rfl (lv_at hl 1 rfl) ?_
    refine lv_if_lt (tgt := 33) hx hb dX11_tried_17 (by decide) (fun c9 => ?_) (fun c9 => ?_)
    · replace h := (br h).1 c9
      exact B33 a1 a2 a3 L Tr C Wo _ _ _ h hP hD hS (lv_sub hl [0, 1, 2, 3] rfl)
    · replace h := (br h).2 c9
      refine lv_iload_n hx hb dX11_tried_20 rfl (lv_at hl 1 rfl) ?_
      refine lv_iconst (v := 5) hx hb dX11_tried_21 (by decide) ?_
      refine lv_icmp_gt (tgt := 33) hx hb dX11_tried_22 (by decide) (fun c9 => ?_) (fun c9 => ?_)
      · replace h := (br h).1 c9
        exact B33 a1 a2 a3 L Tr C Wo _ _ _ h hP hD hS (lv_sub hl [0, 1, 2, 3] rfl)
      · replace h := (br h).2 c9
        refine lv_iload_n hx hb dX11_tried_25 rfl (lv_at hl 2 rfl) ?_
        refine lv_if_ne (tgt := 33) hx hb dX11_tried_26 (by decide) (fun c9 => ?_) (fun c9 => ?_)
        · replace h := (br h).2 c9
          exact B33 a1 a2 a3 L Tr C Wo _ _ _ h hP hD hS (lv_sub hl [0, 1, 2, 3] rfl)
        · replace h := (br h).1 c9
          refine lv_iconst (v := 1) hx hb dX11_tried_29 (by decide) ?_
          refine lv_goto (tgt := 34) hx hb dX11_tried_30 (by decide) ?_
          exact B34 a1 a2 a3 1 L Tr C Wo _ _ _ h hP hD hS (lv_sub hl [0, 1, 2, 3] rfl)
  · replace h := (br h).1 c9
    refine lv_aload_n hx hb dX11_tried_5 rfl (lv_at hl 0 rfl) ?_
    refine go_11_29 (ci := 0) hx hb hts hown hK hE hP rfl dX11_tried_6 ?_
    refine lv_iload_n hx hb dX11_tried_9 rfl (lv_at hl 2 rfl) ?_
    replace h := bd h
    obtain ⟨q1, h2, h⟩ := h
    refine callWVi (As := [.int a2]) (rest := []) (cs' := [cX11 cy adX xT xR (adP 0) (adS 0) xIm (adTr 0) (adC 0) xWa xWb (adWo 0) xZ xU xD xE xB X, cX6 cy adP (adL 0) P, cX3 cy adL L, cX8 cy adS S, cX8 cy adTr Tr, cX0 cy adC C, cX10 cy adWo Wo]) (isC := [1]) (isR := [0, 2, 3, 4, 5, 6]) hx hb hml hown hts (k_X6_hasParty l G cy ev adP (adL 0) P a2 q1 h2) wm_26_11 wm_26_12 wm_26_13 wm_1_22 wm_26_14 hd_X6_hasParty ⟨by decide, by decide⟩ hK hP hD hS hA hE rfl rfl rfl (cov_of (n := 7) rfl (by decide)) (by decide) rfl (recvW (ci := 1) hK hP rfl cX6_o rfl) rfl rfl hl.1 (Nat.le_of_ble_eq_true rfl) dX11_tried_10 (fun H locs hP hD hS => ?_)
    refine lv_goto (tgt := 34) hx hb dX11_tried_13 (by decide) ?_
    exact B34 a1 a2 a3 q1 L Tr C Wo _ _ _ h hP hD hS (lv_sub hl [0, 1, 2, 3] rfl)
theorem hds_X11_undo : yX11_undo.cls ≠ "java/lang/invoke/MethodHandle" ∧ yX11_undo.cls ≠ "java/lang/invoke/VarHandle" ∧ (parseMethodDescriptor yX11_undo.desc).map (fun d => d.parameters.length) = some 0 := ⟨by decide +kernel, by decide +kernel, by decide +kernel⟩
theorem hd_X11_undo : yX11_undo.cls = RX11 ∧ yX11_undo.cls ≠ "java/lang/invoke/MethodHandle" ∧ yX11_undo.cls ≠ "java/lang/invoke/VarHandle" ∧ (parseMethodDescriptor yX11_undo.desc).map (fun d => d.parameters.length) = some 0 := ⟨rfl, hds_X11_undo⟩
def f_X11_undo (X : VV) (S : VV) (Z : VV) : Option (Int32 × VV × VV) :=
  if (1 : Int32) ≤ Z.1 3 then bnd (f_X2_takeBack Z S) (fun q1 => some (q1.1.1 3, q1.2, q1.1)) else some ((-1), S, Z)
set_option maxHeartbeats 4000000 in
set_option maxRecDepth 100000 in
theorem k_X11_undo (l : Launch) (G : va_G) (cy : Nat → ClassId) (ev : Nat → Nat) (adX : Nat → Nat) (xT : Nat) (xR : Nat) (xP : Nat) (xIm : Nat) (xTr : Nat) (xC : Nat) (xWa : Nat) (xWb : Nat) (xWo : Nat) (xU : Nat) (xD : Nat) (xE : Nat) (xB : Nat) (X : VV) (adS : Nat → Nat) (S : VV) (adZ : Nat → Nat) (Z : VV)  (res : Int32 × VV × VV) (h : f_X11_undo X S Z = some res) : MetI l yX11_undo cX11_undo 1 (some .int) 1 22 G cy ev [.ref (adX 0)] (wj [cX11 cy adX xT xR xP (adS 0) xIm xTr xC xWa xWb xWo (adZ 0) xU xD xE xB X, cX8 cy adS S, cX2 cy adZ Z]) res.1 (wj [cX11 cy adX xT xR xP (adS 0) xIm xTr xC xWa xWb xWo (adZ 0) xU xD xE xB X, cX8 cy adS res.2.1, cX2 cy adZ res.2.2]) := by
  refine MetQ.start (by decide +kernel) (Nat.le_of_ble_eq_true rfl) (fun p e s m args below meth c A ls hx hb hr hml hown hts hlocks hK hP hD hA hl hE => ?_)
  have hS : va_S A s.heap s.heap [] := va_S.rf
  have hown : s.vm.findClass RX11 = some m.cls := hown
  have hl : lv_has ls 1 [(0, .ref (adX 0))] := hl
  delta f_X11_undo at h
  refine lv_aload_n hx hb dX11_undo_0 rfl (lv_at hl 0 rfl) ?_
  refine go_11_73 (ci := 0) hx hb hts hown hK hE hP rfl dX11_undo_1 ?_
  refine go_11_118 (ci := 2) (x := Z.1 3) hx hb hts hown hK hE hP rfl rfl dX11_undo_4 ?_
  refine lv_iconst (v := 1) hx hb dX11_undo_7 (by decide) ?_
  refine lv_icmp_ge (tgt := 13) hx hb dX11_undo_8 (by decide) (fun c9 => ?_) (fun c9 => ?_)
  · replace h := (br h).1 c9
    refine lv_aload_n hx hb dX11_undo_13 rfl (lv_at hl 0 rfl) ?_
    refine go_11_73 (ci := 0) hx hb hts hown hK hE hP rfl dX11_undo_14 ?_
    refine lv_aload_n hx hb dX11_undo_17 rfl (lv_at hl 0 rfl) ?_
    refine go_11_36 (ci := 0) hx hb hts hown hK hE hP rfl dX11_undo_18 ?_
    replace h := bd h
    obtain ⟨q1, h2, h⟩ := h
    refine callWVv (As := [.ref (adS 0)]) (rest := []) (cs' := [cX11 cy adX xT xR xP (adS 0) xIm xTr xC xWa xWb xWo (adZ 0) xU xD xE xB X, cX8 cy adS q1.2, cX2 cy adZ q1.1]) (isC := [2, 1]) (isR := [0]) hx hb hml hown hts (k_X2_takeBack l G cy ev adZ Z adS S q1 h2) wm_53_11 wm_53_12 wm_53_13 wm_2_19 wm_53_14 hd_X2_takeBack ⟨by decide, by decide⟩ hK hP hD hS hA hE rfl rfl rfl (cov_of (n := 3) rfl (by decide)) (by decide) rfl (recvW (ci := 2) hK hP rfl cX2_o rfl) rfl rfl hl.1 (Nat.le_of_ble_eq_true rfl) dX11_undo_21 (fun H locs hP hD hS => ?_)
    refine lv_aload_n hx hb dX11_undo_24 rfl (lv_at hl 0 rfl) ?_
    refine go_11_73 (ci := 0) hx hb hts hown hK hE hP rfl dX11_undo_25 ?_
    refine go_11_118 (ci := 2) (x := q1.1.1 3) hx hb hts hown hK hE hP rfl rfl dX11_undo_28 ?_
    exact retI (fr := fun q => q.1) (fw := fun q => wj [cX11 cy adX xT xR xP (adS 0) xIm xTr xC xWa xWb xWo (adZ 0) xU xD xE xB X, cX8 cy adS q.2.1, cX2 cy adZ q.2.2]) h hx hb hr hlocks hK hP hD hS dX11_undo_31
  · replace h := (br h).2 c9
    refine lv_iconst (v := (-1)) hx hb dX11_undo_11 (by decide) ?_
    exact retI (fr := fun q => q.1) (fw := fun q => wj [cX11 cy adX xT xR xP (adS 0) xIm xTr xC xWa xWb xWo (adZ 0) xU xD xE xB X, cX8 cy adS q.2.1, cX2 cy adZ q.2.2]) h hx hb hr hlocks hK hP hD hS dX11_undo_12
theorem hds_X11_keep : yX11_keep.cls ≠ "java/lang/invoke/MethodHandle" ∧ yX11_keep.cls ≠ "java/lang/invoke/VarHandle" ∧ (parseMethodDescriptor yX11_keep.desc).map (fun d => d.parameters.length) = some 0 := ⟨by decide +kernel, by decide +kernel, by decide +kernel⟩
theorem hd_X11_keep : yX11_keep.cls = RX11 ∧ yX11_keep.cls ≠ "java/lang/invoke/MethodHandle" ∧ yX11_keep.cls ≠ "java/lang/invoke/VarHandle" ∧ (parseMethodDescriptor yX11_keep.desc).map (fun d => d.parameters.length) = some 0 := ⟨rfl, hds_X11_keep⟩
def f_X11_keep (X : VV) (S : VV) (Im : VV) : Option (Int32 × VV × VV) :=
  bnd (f_X8_copy Im S) (fun q1 => some (S.1 0, si X 6 1, q1))
set_option maxHeartbeats 4000000 in
set_option maxRecDepth 100000 in
theorem k_X11_keep (l : Launch) (G : va_G) (cy : Nat → ClassId) (ev : Nat → Nat) (adX : Nat → Nat) (xT : Nat) (xR : Nat) (xP : Nat) (xTr : Nat) (xC : Nat) (xWa : Nat) (xWb : Nat) (xWo : Nat) (xZ : Nat) (xU : Nat) (xD : Nat) (xE : Nat) (xB : Nat) (X : VV) (adS : Nat → Nat) (S : VV) (adIm : Nat → Nat) (Im : VV)  (res : Int32 × VV × VV) (h : f_X11_keep X S Im = some res) : MetI l yX11_keep cX11_keep 1 (some .int) 2 81 G cy ev [.ref (adX 0)] (wj [cX11 cy adX xT xR xP (adS 0) (adIm 0) xTr xC xWa xWb xWo xZ xU xD xE xB X, cX8 cy adS S, cX8 cy adIm Im]) res.1 (wj [cX11 cy adX xT xR xP (adS 0) (adIm 0) xTr xC xWa xWb xWo xZ xU xD xE xB res.2.1, cX8 cy adS S, cX8 cy adIm res.2.2]) := by
  refine MetQ.start (by decide +kernel) (Nat.le_of_ble_eq_true rfl) (fun p e s m args below meth c A ls hx hb hr hml hown hts hlocks hK hP hD hA hl hE => ?_)
  have hS : va_S A s.heap s.heap [] := va_S.rf
  have hown : s.vm.findClass RX11 = some m.cls := hown
  have hl : lv_has ls 1 [(0, .ref (adX 0))] := hl
  delta f_X11_keep at h
  refine lv_aload_n hx hb dX11_keep_0 rfl (lv_at hl 0 rfl) ?_
  refine go_11_40 (ci := 0) hx hb hts hown hK hE hP rfl dX11_keep_1 ?_
  refine lv_aload_n hx hb dX11_keep_4 rfl (lv_at hl 0 rfl) ?_
  refine go_11_36 (ci := 0) hx hb hts hown hK hE hP rfl dX11_keep_5 ?_
  replace h := bd h
  obtain ⟨q1, h2, h⟩ := h
  refine callWVv (As := [.ref (adS 0)]) (rest := []) (cs' := [cX11 cy adX xT xR xP (adS 0) (adIm 0) xTr xC xWa xWb xWo xZ xU xD xE xB X, cX8 cy adS S, cX8 cy adIm q1]) (isC := [2, 1]) (isR := [0]) hx hb hml hown hts (k_X8_copy l G cy ev adIm Im adS S q1 h2) wm_43_2 wm_43_3 wm_43_4 wm_2_2 wm_43_5 hd_X8_copy ⟨by decide, by decide⟩ hK hP hD hS hA hE rfl rfl rfl (cov_of (n := 3) rfl (by decide)) (by decide) rfl (recvW (ci := 2) hK hP rfl cX8_o rfl) rfl rfl hl.1 (Nat.le_of_ble_eq_true rfl) dX11_keep_8 (fun H locs hP hD hS => ?_)
  refine lv_aload_n hx hb dX11_keep_11 rfl (lv_at hl 0 rfl) ?_
  refine lv_iconst (v := 1) hx hb dX11_keep_12 (by decide) ?_
  refine po_11_43 (ci := 0) (cs' := [cX11 cy adX xT xR xP (adS 0) (adIm 0) xTr xC xWa xWb xWo xZ xU xD xE xB (si X 6 1), cX8 cy adS S, cX8 cy adIm q1]) hx hb hts hown hK hE hP hD hS rfl rfl (by decide) dX11_keep_13 (fun H locs hP hD hS => ?_)
  refine lv_aload_n hx hb dX11_keep_16 rfl (lv_at hl 0 rfl) ?_
  refine go_11_36 (ci := 0) hx hb hts hown hK hE hP rfl dX11_keep_17 ?_
  refine go_11_242 (ci := 1) (x := S.1 0) hx hb hts hown hK hE hP rfl rfl dX11_keep_20 ?_
  exact retI (fr := fun q => q.1) (fw := fun q => wj [cX11 cy adX xT xR xP (adS 0) (adIm 0) xTr xC xWa xWb xWo xZ xU xD xE xB q.2.1, cX8 cy adS S, cX8 cy adIm q.2.2]) h hx hb hr hlocks hK hP hD hS dX11_keep_23
theorem hds_X11_back : yX11_back.cls ≠ "java/lang/invoke/MethodHandle" ∧ yX11_back.cls ≠ "java/lang/invoke/VarHandle" ∧ (parseMethodDescriptor yX11_back.desc).map (fun d => d.parameters.length) = some 0 := ⟨by decide +kernel, by decide +kernel, by decide +kernel⟩
theorem hd_X11_back : yX11_back.cls = RX11 ∧ yX11_back.cls ≠ "java/lang/invoke/MethodHandle" ∧ yX11_back.cls ≠ "java/lang/invoke/VarHandle" ∧ (parseMethodDescriptor yX11_back.desc).map (fun d => d.parameters.length) = some 0 := ⟨rfl, hds_X11_back⟩
def f_X11_back (X : VV) (S : VV) (Im : VV) (Z : VV) : Option (Int32 × VV × VV) :=
  if X.1 6 = 0 then some ((-1), S, Z) else bnd (f_X8_copy S Im) (fun q1 => some (q1.1 0, q1, si Z 3 0))
set_option maxHeartbeats 4000000 in
set_option maxRecDepth 100000 in
theorem k_X11_back (l : Launch) (G : va_G) (cy : Nat → ClassId) (ev : Nat → Nat) (adX : Nat → Nat) (xT : Nat) (xR : Nat) (xP : Nat) (xTr : Nat) (xC : Nat) (xWa : Nat) (xWb : Nat) (xWo : Nat) (xU : Nat) (xD : Nat) (xE : Nat) (xB : Nat) (X : VV) (adS : Nat → Nat) (S : VV) (adIm : Nat → Nat) (Im : VV) (adZ : Nat → Nat) (Z : VV)  (res : Int32 × VV × VV) (h : f_X11_back X S Im Z = some res) : MetI l yX11_back cX11_back 1 (some .int) 2 81 G cy ev [.ref (adX 0)] (wj [cX11 cy adX xT xR xP (adS 0) (adIm 0) xTr xC xWa xWb xWo (adZ 0) xU xD xE xB X, cX8 cy adS S, cX8 cy adIm Im, cX2 cy adZ Z]) res.1 (wj [cX11 cy adX xT xR xP (adS 0) (adIm 0) xTr xC xWa xWb xWo (adZ 0) xU xD xE xB X, cX8 cy adS res.2.1, cX8 cy adIm Im, cX2 cy adZ res.2.2]) := by
  refine MetQ.start (by decide +kernel) (Nat.le_of_ble_eq_true rfl) (fun p e s m args below meth c A ls hx hb hr hml hown hts hlocks hK hP hD hA hl hE => ?_)
  have hS : va_S A s.heap s.heap [] := va_S.rf
  have hown : s.vm.findClass RX11 = some m.cls := hown
  have hl : lv_has ls 1 [(0, .ref (adX 0))] := hl
  delta f_X11_back at h
  refine lv_aload_n hx hb dX11_back_0 rfl (lv_at hl 0 rfl) ?_
  refine go_11_43 (ci := 0) (x := X.1 6) hx hb hts hown hK hE hP rfl rfl dX11_back_1 ?_
  refine lv_if_ne (tgt := 9) hx hb dX11_back_4 (by decide) (fun c9 => ?_) (fun c9 => ?_)
  · replace h := (br h).2 c9
    refine lv_aload_n hx hb dX11_back_9 rfl (lv_at hl 0 rfl) ?_
    refine go_11_36 (ci := 0) hx hb hts hown hK hE hP rfl dX11_back_10 ?_
    refine lv_aload_n hx hb dX11_back_13 rfl (lv_at hl 0 rfl) ?_
    refine go_11_40 (ci := 0) hx hb hts hown hK hE hP rfl dX11_back_14 ?_
    replace h := bd h
    obtain ⟨q1, h2, h⟩ := h
    refine callWVv (As := [.ref (adIm 0)]) (rest := []) (cs' := [cX11 cy adX xT xR xP (adS 0) (adIm 0) xTr xC xWa xWb xWo (adZ 0) xU xD xE xB X, cX8 cy adS q1, cX8 cy adIm Im, cX2 cy adZ Z]) (isC := [1, 2]) (isR := [0, 3]) hx hb hml hown hts (k_X8_copy l G cy ev adS S adIm Im q1 h2) wm_43_2 wm_43_3 wm_43_4 wm_2_2 wm_43_5 hd_X8_copy ⟨by decide, by decide⟩ hK hP hD hS hA hE rfl rfl rfl (cov_of (n := 4) rfl (by decide)) (by decide) rfl (recvW (ci := 1) hK hP rfl cX8_o rfl) rfl rfl hl.1 (Nat.le_of_ble_eq_true rfl) dX11_back_17 (fun H locs hP hD hS => ?_)
    refine lv_aload_n hx hb dX11_back_20 rfl (lv_at hl 0 rfl) ?_
    refine go_11_73 (ci := 0) hx hb hts hown hK hE hP rfl dX11_back_21 ?_
    refine lv_iconst (v := 0) hx hb dX11_back_24 (by decide) ?_
    refine po_11_118 (ci := 3) (cs' := [cX11 cy adX xT xR xP (adS 0) (adIm 0) xTr xC xWa xWb xWo (adZ 0) xU xD xE xB X, cX8 cy adS q1, cX8 cy adIm Im, cX2 cy adZ (si Z 3 0)]) hx hb hts hown hK hE hP hD hS rfl rfl dX11_back_25 (fun H locs hP hD hS => ?_)
    refine lv_aload_n hx hb dX11_back_28 rfl (lv_at hl 0 rfl) ?_
    refine go_11_36 (ci := 0) hx hb hts hown hK hE hP rfl dX11_back_29 ?_
    refine go_11_242 (ci := 1) (x := q1.1 0) hx hb hts hown hK hE hP rfl rfl dX11_back_32 ?_
    exact retI (fr := fun q => q.1) (fw := fun q => wj [cX11 cy adX xT xR xP (adS 0) (adIm 0) xTr xC xWa xWb xWo (adZ 0) xU xD xE xB X, cX8 cy adS q.2.1, cX8 cy adIm Im, cX2 cy adZ q.2.2]) h hx hb hr hlocks hK hP hD hS dX11_back_35
  · replace h := (br h).1 c9
    refine lv_iconst (v := (-1)) hx hb dX11_back_7 (by decide) ?_
    exact retI (fr := fun q => q.1) (fw := fun q => wj [cX11 cy adX xT xR xP (adS 0) (adIm 0) xTr xC xWa xWb xWo (adZ 0) xU xD xE xB X, cX8 cy adS q.2.1, cX8 cy adIm Im, cX2 cy adZ q.2.2]) h hx hb hr hlocks hK hP hD hS dX11_back_8
theorem hds_X11_count : yX11_count.cls ≠ "java/lang/invoke/MethodHandle" ∧ yX11_count.cls ≠ "java/lang/invoke/VarHandle" ∧ (parseMethodDescriptor yX11_count.desc).map (fun d => d.parameters.length) = some 1 := ⟨by decide +kernel, by decide +kernel, by decide +kernel⟩
theorem hd_X11_count : yX11_count.cls = RX11 ∧ yX11_count.cls ≠ "java/lang/invoke/MethodHandle" ∧ yX11_count.cls ≠ "java/lang/invoke/VarHandle" ∧ (parseMethodDescriptor yX11_count.desc).map (fun d => d.parameters.length) = some 1 := ⟨rfl, hds_X11_count⟩
def f_X11_count (N : Nat) (X : VV) (P : VV) (L : VV) (S : VV) (Z : VV) (U : VV) (a1 : Int32) : Option (Int32) :=
  if a1 = 0 then some (P.1 0) else if a1 = 1 then some (P.1 3) else if a1 = 2 then some (P.2.1 6 0) else if a1 = 3 then bnd (f_X6_persons N P) (fun q2 => some q2) else if a1 = 4 then some (P.2.1 6 4) else if a1 = 5 then some (L.1 3) else if a1 = 6 then some (S.1 0) else if a1 = 7 then some (S.1 9) else if a1 = 8 then bnd (f_X8_crossInAll N S) (fun q4 => some q4) else if a1 = 9 then some (S.1 10) else if a1 = 10 then some (S.1 11) else if a1 = 11 then bnd (f_X6_persons N P) (fun q6 => bnd (f_X8_personsFor N S P ((-1))) (fun q8 => some (q6 - q8))) else if a1 = 12 then some (U.1 4) else if a1 = 13 then bnd (f_X5_knownCount U) (fun q10 => some q10) else if a1 = 14 then some (Z.1 3) else some ((-1))
set_option maxHeartbeats 4000000 in
set_option maxRecDepth 100000 in
theorem k_X11_count (l : Launch) (G : va_G) (cy : Nat → ClassId) (ev : Nat → Nat) (N : Nat) (adX : Nat → Nat) (xT : Nat) (xR : Nat) (xIm : Nat) (xTr : Nat) (xC : Nat) (xWa : Nat) (xWb : Nat) (xWo : Nat) (xD : Nat) (xE : Nat) (xB : Nat) (X : VV) (adP : Nat → Nat) (P : VV) (adL : Nat → Nat) (L : VV) (adS : Nat → Nat) (S : VV) (adZ : Nat → Nat) (Z : VV) (adU : Nat → Nat) (U : VV) (a1 : Int32) (res : Int32) (h : f_X11_count N X P L S Z U a1 = some res) : MetI l yX11_count cX11_count 2 (some .int) 2 46 G cy ev [.ref (adX 0), .int a1] (wj [cX11 cy adX xT xR (adP 0) (adS 0) xIm xTr xC xWa xWb xWo (adZ 0) (adU 0) xD xE xB X, cX6 cy adP (adL 0) P, cX3 cy adL L, cX8 cy adS S, cX2 cy adZ Z, cX5 cy adU U]) res (wj [cX11 cy adX xT xR (adP 0) (adS 0) xIm xTr xC xWa xWb xWo (adZ 0) (adU 0) xD xE xB X, cX6 cy adP (adL 0) P, cX3 cy adL L, cX8 cy adS S, cX2 cy adZ Z, cX5 cy adU U]) := by
  refine MetQ.start (by decide +kernel) (Nat.le_of_ble_eq_true rfl) (fun p e s m args below meth c A ls hx hb hr hml hown hts hlocks hK hP hD hA hl hE => ?_)
  have hS : va_S A s.heap s.heap [] := va_S.rf
  have hown : s.vm.findClass RX11 = some m.cls := hown
  have hl : lv_has ls 2 [(0, .ref (adX 0)), (1, .int a1)] := hl
  delta f_X11_count at h
  refine lv_iload_n hx hb dX11_count_0 rfl (lv_at hl 1 rfl) ?_
  refine lv_topi (fun w1 ew1 => ?_)
  by_cases nw1_0 : a1 = 0
  · replace h := (br h).1 nw1_0
    rw [ew1, nw1_0]
    refine lv_tableIn (off := 75) (tgt := 76) hx hb dX11_count_1 (by decide) (by decide) rfl (by decide) ?_
    refine lv_aload_n hx hb dX11_count_76 rfl (lv_at hl 0 rfl) ?_
    refine go_11_29 (ci := 0) hx hb hts hown hK hE hP rfl dX11_count_77 ?_
    refine go_11_258 (ci := 1) (x := P.1 0) hx hb hts hown hK hE hP rfl rfl dX11_count_80 ?_
    exact retI (fr := fun q => q) (fw := fun _ => wj [cX11 cy adX xT xR (adP 0) (adS 0) xIm xTr xC xWa xWb xWo (adZ 0) (adU 0) xD xE xB X, cX6 cy adP (adL 0) P, cX3 cy adL L, cX8 cy adS S, cX2 cy adZ Z, cX5 cy adU U]) h hx hb hr hlocks hK hP hD hS dX11_count_83
  · replace h := (br h).2 nw1_0
    by_cases nw1_1 : a1 = 1
    · replace h := (br h).1 nw1_1
      rw [ew1, nw1_1]
      refine lv_tableIn (off := 83) (tgt := 84) hx hb dX11_count_1 (by decide) (by decide) rfl (by decide) ?_
      refine lv_aload_n hx hb dX11_count_84 rfl (lv_at hl 0 rfl) ?_
      refine go_11_29 (ci := 0) hx hb hts hown hK hE hP rfl dX11_count_85 ?_
      refine go_11_261 (ci := 1) (x := P.1 3) hx hb hts hown hK hE hP rfl rfl dX11_count_88 ?_
      exact retI (fr := fun q => q) (fw := fun _ => wj [cX11 cy adX xT xR (adP 0) (adS 0) xIm xTr xC xWa xWb xWo (adZ 0) (adU 0) xD xE xB X, cX6 cy adP (adL 0) P, cX3 cy adL L, cX8 cy adS S, cX2 cy adZ Z, cX5 cy adU U]) h hx hb hr hlocks hK hP hD hS dX11_count_91
    · replace h := (br h).2 nw1_1
      by_cases nw1_2 : a1 = 2
      · replace h := (br h).1 nw1_2
        rw [ew1, nw1_2]
        refine lv_tableIn (off := 91) (tgt := 92) hx hb dX11_count_1 (by decide) (by decide) rfl (by decide) ?_
        refine lv_aload_n hx hb dX11_count_92 rfl (lv_at hl 0 rfl) ?_
        refine go_11_29 (ci := 0) hx hb hts hown hK hE hP rfl dX11_count_93 ?_
        refine go_11_264 (ci := 1) hx hb hts hown hK hE hP rfl dX11_count_96 ?_
        refine lv_iconst (v := 0) hx hb dX11_count_99 (by decide) ?_
        refine ldWI (ci := 1) (k0 := 5) (g := P.2.1 6) (j := 0) hx hb hK hP rfl cX6_a6 rfl (vin_dec (by decide)) (by decide) dX11_count_100 ?_
        exact retI (fr := fun q => q) (fw := fun _ => wj [cX11 cy adX xT xR (adP 0) (adS 0) xIm xTr xC xWa xWb xWo (adZ 0) (adU 0) xD xE xB X, cX6 cy adP (adL 0) P, cX3 cy adL L, cX8 cy adS S, cX2 cy adZ Z, cX5 cy adU U]) h hx hb hr hlocks hK hP hD hS dX11_count_101
      · replace h := (br h).2 nw1_2
        by_cases nw1_3 : a1 = 3
        · replace h := (br h).1 nw1_3
          rw [ew1, nw1_3]
          refine lv_tableIn (off := 101) (tgt := 102) hx hb dX11_count_1 (by decide) (by decide) rfl (by decide) ?_
          refine lv_aload_n hx hb dX11_count_102 rfl (lv_at hl 0 rfl) ?_
          refine go_11_29 (ci := 0) hx hb hts hown hK hE hP rfl dX11_count_103 ?_
          replace h := bd h
          obtain ⟨q2, h3, h⟩ := h
          refine callWVi (As := []) (rest := []) (cs' := [cX11 cy adX xT xR (adP 0) (adS 0) xIm xTr xC xWa xWb xWo (adZ 0) (adU 0) xD xE xB X, cX6 cy adP (adL 0) P, cX3 cy adL L, cX8 cy adS S, cX2 cy adZ Z, cX5 cy adU U]) (isC := [1]) (isR := [0, 2, 3, 4, 5]) hx hb hml hown hts (k_X6_persons l G cy ev N adP (adL 0) P q2 h3) wm_54_15 wm_54_16 wm_54_17 wm_1_22 wm_54_18 hd_X6_persons ⟨by decide, by decide⟩ hK hP hD hS hA hE rfl rfl rfl (cov_of (n := 6) rfl (by decide)) (by decide) rfl (recvW (ci := 1) hK hP rfl cX6_o rfl) rfl rfl hl.1 (Nat.le_of_ble_eq_true rfl) dX11_count_106 (fun H locs hP hD hS => ?_)
          exact retI (fr := fun q => q) (fw := fun _ => wj [cX11 cy adX xT xR (adP 0) (adS 0) xIm xTr xC xWa xWb xWo (adZ 0) (adU 0) xD xE xB X, cX6 cy adP (adL 0) P, cX3 cy adL L, cX8 cy adS S, cX2 cy adZ Z, cX5 cy adU U]) h hx hb hr hlocks hK hP hD hS dX11_count_109
        · replace h := (br h).2 nw1_3
          by_cases nw1_4 : a1 = 4
          · replace h := (br h).1 nw1_4
            rw [ew1, nw1_4]
            refine lv_tableIn (off := 109) (tgt := 110) hx hb dX11_count_1 (by decide) (by decide) rfl (by decide) ?_
            refine lv_aload_n hx hb dX11_count_110 rfl (lv_at hl 0 rfl) ?_
            refine go_11_29 (ci := 0) hx hb hts hown hK hE hP rfl dX11_count_111 ?_
            refine go_11_264 (ci := 1) hx hb hts hown hK hE hP rfl dX11_count_114 ?_
            refine lv_iconst (v := 4) hx hb dX11_count_117 (by decide) ?_
            refine ldWI (ci := 1) (k0 := 5) (g := P.2.1 6) (j := 4) hx hb hK hP rfl cX6_a6 rfl (vin_dec (by decide)) (by decide) dX11_count_118 ?_
            exact retI (fr := fun q => q) (fw := fun _ => wj [cX11 cy adX xT xR (adP 0) (adS 0) xIm xTr xC xWa xWb xWo (adZ 0) (adU 0) xD xE xB X, cX6 cy adP (adL 0) P, cX3 cy adL L, cX8 cy adS S, cX2 cy adZ Z, cX5 cy adU U]) h hx hb hr hlocks hK hP hD hS dX11_count_119
          · replace h := (br h).2 nw1_4
            by_cases nw1_5 : a1 = 5
            · replace h := (br h).1 nw1_5
              rw [ew1, nw1_5]
              refine lv_tableIn (off := 119) (tgt := 120) hx hb dX11_count_1 (by decide) (by decide) rfl (by decide) ?_
              refine lv_aload_n hx hb dX11_count_120 rfl (lv_at hl 0 rfl) ?_
              refine go_11_29 (ci := 0) hx hb hts hown hK hE hP rfl dX11_count_121 ?_
              refine go_11_224 (ci := 1) hx hb hts hown hK hE hP rfl dX11_count_124 ?_
              refine go_11_376 (ci := 2) (x := L.1 3) hx hb hts hown hK hE hP rfl rfl dX11_count_127 ?_
              exact retI (fr := fun q => q) (fw := fun _ => wj [cX11 cy adX xT xR (adP 0) (adS 0) xIm xTr xC xWa xWb xWo (adZ 0) (adU 0) xD xE xB X, cX6 cy adP (adL 0) P, cX3 cy adL L, cX8 cy adS S, cX2 cy adZ Z, cX5 cy adU U]) h hx hb hr hlocks hK hP hD hS dX11_count_130
            · replace h := (br h).2 nw1_5
              by_cases nw1_6 : a1 = 6
              · replace h := (br h).1 nw1_6
                rw [ew1, nw1_6]
                refine lv_tableIn (off := 130) (tgt := 131) hx hb dX11_count_1 (by decide) (by decide) rfl (by decide) ?_
                refine lv_aload_n hx hb dX11_count_131 rfl (lv_at hl 0 rfl) ?_
                refine go_11_36 (ci := 0) hx hb hts hown hK hE hP rfl dX11_count_132 ?_
                refine go_11_242 (ci := 3) (x := S.1 0) hx hb hts hown hK hE hP rfl rfl dX11_count_135 ?_
                exact retI (fr := fun q => q) (fw := fun _ => wj [cX11 cy adX xT xR (adP 0) (adS 0) xIm xTr xC xWa xWb xWo (adZ 0) (adU 0) xD xE xB X, cX6 cy adP (adL 0) P, cX3 cy adL L, cX8 cy adS S, cX2 cy adZ Z, cX5 cy adU U]) h hx hb hr hlocks hK hP hD hS dX11_count_138
              · replace h := (br h).2 nw1_6
                by_cases nw1_7 : a1 = 7
                · replace h := (br h).1 nw1_7
                  rw [ew1, nw1_7]
                  refine lv_tableIn (off := 138) (tgt := 139) hx hb dX11_count_1 (by decide) (by decide) rfl (by decide) ?_
                  refine lv_aload_n hx hb dX11_count_139 rfl (lv_at hl 0 rfl) ?_
                  refine go_11_36 (ci := 0) hx hb hts hown hK hE hP rfl dX11_count_140 ?_
                  refine go_11_367 (ci := 3) (x := S.1 9) hx hb hts hown hK hE hP rfl rfl dX11_count_143 ?_
                  exact retI (fr := fun q => q) (fw := fun _ => wj [cX11 cy adX xT xR (adP 0) (adS 0) xIm xTr xC xWa xWb xWo (adZ 0) (adU 0) xD xE xB X, cX6 cy adP (adL 0) P, cX3 cy adL L, cX8 cy adS S, cX2 cy adZ Z, cX5 cy adU U]) h hx hb hr hlocks hK hP hD hS dX11_count_146
                · replace h := (br h).2 nw1_7
                  by_cases nw1_8 : a1 = 8
                  · replace h := (br h).1 nw1_8
                    rw [ew1, nw1_8]
                    refine lv_tableIn (off := 146) (tgt := 147) hx hb dX11_count_1 (by decide) (by decide) rfl (by decide) ?_
                    refine lv_aload_n hx hb dX11_count_147 rfl (lv_at hl 0 rfl) ?_
                    refine go_11_36 (ci := 0) hx hb hts hown hK hE hP rfl dX11_count_148 ?_
                    replace h := bd h
                    obtain ⟨q4, h5, h⟩ := h
                    refine callWVi (As := []) (rest := []) (cs' := [cX11 cy adX xT xR (adP 0) (adS 0) xIm xTr xC xWa xWb xWo (adZ 0) (adU 0) xD xE xB X, cX6 cy adP (adL 0) P, cX3 cy adL L, cX8 cy adS S, cX2 cy adZ Z, cX5 cy adU U]) (isC := [3]) (isR := [0, 1, 2, 4, 5]) hx hb hml hown hts (k_X8_crossInAll l G cy ev N adS S q4 h5) wm_54_19 wm_54_20 wm_54_21 wm_2_2 wm_54_22 hd_X8_crossInAll ⟨by decide, by decide⟩ hK hP hD hS hA hE rfl rfl rfl (cov_of (n := 6) rfl (by decide)) (by decide) rfl (recvW (ci := 3) hK hP rfl cX8_o rfl) rfl rfl hl.1 (Nat.le_of_ble_eq_true rfl) dX11_count_151 (fun H locs hP hD hS => ?_)
                    exact retI (fr := fun q => q) (fw := fun _ => wj [cX11 cy adX xT xR (adP 0) (adS 0) xIm xTr xC xWa xWb xWo (adZ 0) (adU 0) xD xE xB X, cX6 cy adP (adL 0) P, cX3 cy adL L, cX8 cy adS S, cX2 cy adZ Z, cX5 cy adU U]) h hx hb hr hlocks hK hP hD hS dX11_count_154
                  · replace h := (br h).2 nw1_8
                    by_cases nw1_9 : a1 = 9
                    · replace h := (br h).1 nw1_9
                      rw [ew1, nw1_9]
                      refine lv_tableIn (off := 154) (tgt := 155) hx hb dX11_count_1 (by decide) (by decide) rfl (by decide) ?_
                      refine lv_aload_n hx hb dX11_count_155 rfl (lv_at hl 0 rfl) ?_
                      refine go_11_36 (ci := 0) hx hb hts hown hK hE hP rfl dX11_count_156 ?_
                      refine go_11_361 (ci := 3) (x := S.1 10) hx hb hts hown hK hE hP rfl rfl dX11_count_159 ?_
                      exact retI (fr := fun q => q) (fw := fun _ => wj [cX11 cy adX xT xR (adP 0) (adS 0) xIm xTr xC xWa xWb xWo (adZ 0) (adU 0) xD xE xB X, cX6 cy adP (adL 0) P, cX3 cy adL L, cX8 cy adS S, cX2 cy adZ Z, cX5 cy adU U]) h hx hb hr hlocks hK hP hD hS dX11_count_162
                    · replace h := (br h).2 nw1_9
                      by_cases nw1_10 : a1 = 10
                      · replace h := (br h).1 nw1_10
                        rw [ew1, nw1_10]
                        refine lv_tableIn (off := 162) (tgt := 163) hx hb dX11_count_1 (by decide) (by decide) rfl (by decide) ?_
                        refine lv_aload_n hx hb dX11_count_163 rfl (lv_at hl 0 rfl) ?_
                        refine go_11_36 (ci := 0) hx hb hts hown hK hE hP rfl dX11_count_164 ?_
                        refine go_11_382 (ci := 3) (x := S.1 11) hx hb hts hown hK hE hP rfl rfl dX11_count_167 ?_
                        exact retI (fr := fun q => q) (fw := fun _ => wj [cX11 cy adX xT xR (adP 0) (adS 0) xIm xTr xC xWa xWb xWo (adZ 0) (adU 0) xD xE xB X, cX6 cy adP (adL 0) P, cX3 cy adL L, cX8 cy adS S, cX2 cy adZ Z, cX5 cy adU U]) h hx hb hr hlocks hK hP hD hS dX11_count_170
                      · replace h := (br h).2 nw1_10
                        by_cases nw1_11 : a1 = 11
                        · replace h := (br h).1 nw1_11
                          rw [ew1, nw1_11]
                          refine lv_tableIn (off := 170) (tgt := 171) hx hb dX11_count_1 (by decide) (by decide) rfl (by decide) ?_
                          refine lv_aload_n hx hb dX11_count_171 rfl (lv_at hl 0 rfl) ?_
                          refine go_11_29 (ci := 0) hx hb hts hown hK hE hP rfl dX11_count_172 ?_
                          replace h := bd h
                          obtain ⟨q6, h7, h⟩ := h
                          refine callWVi (As := []) (rest := []) (cs' := [cX11 cy adX xT xR (adP 0) (adS 0) xIm xTr xC xWa xWb xWo (adZ 0) (adU 0) xD xE xB X, cX6 cy adP (adL 0) P, cX3 cy adL L, cX8 cy adS S, cX2 cy adZ Z, cX5 cy adU U]) (isC := [1]) (isR := [0, 2, 3, 4, 5]) hx hb hml hown hts (k_X6_persons l G cy ev N adP (adL 0) P q6 h7) wm_54_15 wm_54_16 wm_54_17 wm_1_22 wm_54_18 hd_X6_persons ⟨by decide, by decide⟩ hK hP hD hS hA hE rfl rfl rfl (cov_of (n := 6) rfl (by decide)) (by decide) rfl (recvW (ci := 1) hK hP rfl cX6_o rfl) rfl rfl hl.1 (Nat.le_of_ble_eq_true rfl) dX11_count_175 (fun H locs hP hD hS => ?_)
                          refine lv_aload_n hx hb dX11_count_178 rfl (lv_at hl 0 rfl) ?_
                          refine go_11_36 (ci := 0) hx hb hts hown hK hE hP rfl dX11_count_179 ?_
                          refine lv_iconst (v := (-1)) hx hb dX11_count_182 (by decide) ?_
                          refine lv_aload_n hx hb dX11_count_183 rfl (lv_at hl 0 rfl) ?_
                          refine go_11_29 (ci := 0) hx hb hts hown hK hE hP rfl dX11_count_184 ?_
                          replace h := bd h
                          obtain ⟨q8, h9, h⟩ := h
                          refine callWVi (As := [.int ((-1)), .ref (adP 0)]) (rest := [.int q6]) (cs' := [cX11 cy adX xT xR (adP 0) (adS 0) xIm xTr xC xWa xWb xWo (adZ 0) (adU 0) xD xE xB X, cX6 cy adP (adL 0) P, cX3 cy adL L, cX8 cy adS S, cX2 cy adZ Z, cX5 cy adU U]) (isC := [3, 1]) (isR := [0, 2, 4, 5]) hx hb hml hown hts (k_X8_personsFor l G cy ev N adS S adP (adL 0) P ((-1)) q8 h9) wm_27_23 wm_28_0 wm_28_1 wm_2_2 wm_28_2 hd_X8_personsFor ⟨by decide, by decide⟩ hK hP hD hS hA hE rfl rfl rfl (cov_of (n := 6) rfl (by decide)) (by decide) rfl (recvW (ci := 3) hK hP rfl cX8_o rfl) rfl rfl hl.1 (Nat.le_of_ble_eq_true rfl) dX11_count_187 (fun H locs hP hD hS => ?_)
                          refine lv_isub hx hb dX11_count_190 ?_
                          exact retI (fr := fun q => q) (fw := fun _ => wj [cX11 cy adX xT xR (adP 0) (adS 0) xIm xTr xC xWa xWb xWo (adZ 0) (adU 0) xD xE xB X, cX6 cy adP (adL 0) P, cX3 cy adL L, cX8 cy adS S, cX2 cy adZ Z, cX5 cy adU U]) h hx hb hr hlocks hK hP hD hS dX11_count_191
                        · replace h := (br h).2 nw1_11
                          by_cases nw1_12 : a1 = 12
                          · replace h := (br h).1 nw1_12
                            rw [ew1, nw1_12]
                            refine lv_tableIn (off := 191) (tgt := 192) hx hb dX11_count_1 (by decide) (by decide) rfl (by decide) ?_
                            refine lv_aload_n hx hb dX11_count_192 rfl (lv_at hl 0 rfl) ?_
                            refine go_11_80 (ci := 0) hx hb hts hown hK hE hP rfl dX11_count_193 ?_
                            refine go_11_344 (ci := 5) (x := U.1 4) hx hb hts hown hK hE hP rfl rfl dX11_count_196 ?_
                            exact retI (fr := fun q => q) (fw := fun _ => wj [cX11 cy adX xT xR (adP 0) (adS 0) xIm xTr xC xWa xWb xWo (adZ 0) (adU 0) xD xE xB X, cX6 cy adP (adL 0) P, cX3 cy adL L, cX8 cy adS S, cX2 cy adZ Z, cX5 cy adU U]) h hx hb hr hlocks hK hP hD hS dX11_count_199
                          · replace h := (br h).2 nw1_12
                            by_cases nw1_13 : a1 = 13
                            · replace h := (br h).1 nw1_13
                              rw [ew1, nw1_13]
                              refine lv_tableIn (off := 199) (tgt := 200) hx hb dX11_count_1 (by decide) (by decide) rfl (by decide) ?_
                              refine lv_aload_n hx hb dX11_count_200 rfl (lv_at hl 0 rfl) ?_
                              refine go_11_80 (ci := 0) hx hb hts hown hK hE hP rfl dX11_count_201 ?_
                              replace h := bd h
                              obtain ⟨q10, h11, h⟩ := h
                              refine callWVi (As := []) (rest := []) (cs' := [cX11 cy adX xT xR (adP 0) (adS 0) xIm xTr xC xWa xWb xWo (adZ 0) (adU 0) xD xE xB X, cX6 cy adP (adL 0) P, cX3 cy adL L, cX8 cy adS S, cX2 cy adZ Z, cX5 cy adU U]) (isC := [5]) (isR := [0, 1, 2, 3, 4]) hx hb hml hown hts (k_X5_knownCount l G cy ev adU U q10 h11) wm_54_23 wm_51_14 wm_51_15 wm_2_23 wm_51_16 hd_X5_knownCount ⟨by decide, by decide⟩ hK hP hD hS hA hE rfl rfl rfl (cov_of (n := 6) rfl (by decide)) (by decide) rfl (recvW (ci := 5) hK hP rfl cX5_o rfl) rfl rfl hl.1 (Nat.le_of_ble_eq_true rfl) dX11_count_204 (fun H locs hP hD hS => ?_)
                              exact retI (fr := fun q => q) (fw := fun _ => wj [cX11 cy adX xT xR (adP 0) (adS 0) xIm xTr xC xWa xWb xWo (adZ 0) (adU 0) xD xE xB X, cX6 cy adP (adL 0) P, cX3 cy adL L, cX8 cy adS S, cX2 cy adZ Z, cX5 cy adU U]) h hx hb hr hlocks hK hP hD hS dX11_count_207
                            · replace h := (br h).2 nw1_13
                              by_cases nw1_14 : a1 = 14
                              · replace h := (br h).1 nw1_14
                                rw [ew1, nw1_14]
                                refine lv_tableIn (off := 207) (tgt := 208) hx hb dX11_count_1 (by decide) (by decide) rfl (by decide) ?_
                                refine lv_aload_n hx hb dX11_count_208 rfl (lv_at hl 0 rfl) ?_
                                refine go_11_73 (ci := 0) hx hb hts hown hK hE hP rfl dX11_count_209 ?_
                                refine go_11_118 (ci := 4) (x := Z.1 3) hx hb hts hown hK hE hP rfl rfl dX11_count_212 ?_
                                exact retI (fr := fun q => q) (fw := fun _ => wj [cX11 cy adX xT xR (adP 0) (adS 0) xIm xTr xC xWa xWb xWo (adZ 0) (adU 0) xD xE xB X, cX6 cy adP (adL 0) P, cX3 cy adL L, cX8 cy adS S, cX2 cy adZ Z, cX5 cy adU U]) h hx hb hr hlocks hK hP hD hS dX11_count_215
                              · replace h := (br h).2 nw1_14
                                rw [ew1]
                                refine lv_tableOut (tgt := 216) hx hb dX11_count_1 (by have := ne_toInt (k := 0) 0 (by decide) nw1_0; have := ne_toInt (k := 1) 1 (by decide) nw1_1; have := ne_toInt (k := 2) 2 (by decide) nw1_2; have := ne_toInt (k := 3) 3 (by decide) nw1_3; have := ne_toInt (k := 4) 4 (by decide) nw1_4; have := ne_toInt (k := 5) 5 (by decide) nw1_5; have := ne_toInt (k := 6) 6 (by decide) nw1_6; have := ne_toInt (k := 7) 7 (by decide) nw1_7; have := ne_toInt (k := 8) 8 (by decide) nw1_8; have := ne_toInt (k := 9) 9 (by decide) nw1_9; have := ne_toInt (k := 10) 10 (by decide) nw1_10; have := ne_toInt (k := 11) 11 (by decide) nw1_11; have := ne_toInt (k := 12) 12 (by decide) nw1_12; have := ne_toInt (k := 13) 13 (by decide) nw1_13; have := ne_toInt (k := 14) 14 (by decide) nw1_14;  omega) (by decide) ?_
                                refine lv_iconst (v := (-1)) hx hb dX11_count_216 (by decide) ?_
                                exact retI (fr := fun q => q) (fw := fun _ => wj [cX11 cy adX xT xR (adP 0) (adS 0) xIm xTr xC xWa xWb xWo (adZ 0) (adU 0) xD xE xB X, cX6 cy adP (adL 0) P, cX3 cy adL L, cX8 cy adS S, cX2 cy adZ Z, cX5 cy adU U]) h hx hb hr hlocks hK hP hD hS dX11_count_217
