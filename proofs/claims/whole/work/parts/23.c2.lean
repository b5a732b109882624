theorem hds_X0_look : yX0_look.cls ≠ "java/lang/invoke/MethodHandle" ∧ yX0_look.cls ≠ "java/lang/invoke/VarHandle" ∧ (parseMethodDescriptor yX0_look.desc).map (fun d => d.parameters.length) = some 6 := ⟨by decide +kernel, by decide +kernel, by decide +kernel⟩
theorem hd_X0_look : yX0_look.cls = RX0 ∧ yX0_look.cls ≠ "java/lang/invoke/MethodHandle" ∧ yX0_look.cls ≠ "java/lang/invoke/VarHandle" ∧ (parseMethodDescriptor yX0_look.desc).map (fun d => d.parameters.length) = some 6 := ⟨rfl, hds_X0_look⟩
def f_X0_look_b41 (P : VV) (L : VV) (S : VV) (Y : VV) (x3 : Int32) (x4 : Int32) (x5 : Int32) (x6 : Int32) : Option (VV) :=
  bnd (f_X6_trait P x3 0) (fun q4101 => bnd (f_X6_trait P x3 (1 + x4)) (fun q4103 => gin x4 3 (bnd (f_X6_trait P x3 6) (fun q4105 => some (sr (sr (sr (sr (sr (sr (sr L 6 0 q4101) 6 1 q4103) 6 2 x5) 6 3 (S.2.1 4 x4.toNatClampNeg)) 6 4 x6) 6 5 q4105) 6 6 (S.1 0))))))
def f_X0_look (P : VV) (L : VV) (S : VV) (Y : VV) (a4 : Int32) (a5 : Int32) (a6 : Int32) : Option (VV) :=
  bnd (f_X6_hasSitting P a5) (fun q1 => if q1 = 0 then some L else bnd (f_X6_trait P a4 5) (fun q3 => if a4 = Y.1 4 then f_X0_look_b41 P L S Y a4 a5 a6 (jmin (q3 + 20) 99) else f_X0_look_b41 P L S Y a4 a5 a6 q3))
set_option maxHeartbeats 4000000 in
set_option maxRecDepth 100000 in
theorem k_X0_look (l : Launch) (G : va_G) (cy : Nat → ClassId) (ev : Nat → Nat) (adP : Nat → Nat) (P : VV) (adL : Nat → Nat) (L : VV) (adS : Nat → Nat) (S : VV) (adY : Nat → Nat) (Y : VV) (a4 : Int32) (a5 : Int32) (a6 : Int32) (res : VV) (h : f_X0_look P L S Y a4 a5 a6 = some res) : MetV l yX0_look cX0_look 8 none 1 24 G cy ev [.ref (adP 0), .ref (adS 0), .ref (adY 0), .int a4, .int a5, .int a6] (wj [cX6 cy adP (adL 0) P, cX3 cy adL L, cX8 cy adS S, cX10 cy adY Y]) (wj [cX6 cy adP (adL 0) P, cX3 cy adL res, cX8 cy adS S, cX10 cy adY Y]) := by
  refine MetQ.start (by decide +kernel) (Nat.le_of_ble_eq_true rfl) (fun p e s m args below meth c A ls hx hb hr hml hown hts hlocks hK hP hD hA hl hE => ?_)
  have hS : va_S A s.heap s.heap [] := va_S.rf
  have hown : s.vm.findClass RX0 = some m.cls := hown
  have hl : lv_has ls 8 [(0, .ref (adP 0)), (1, .ref (adS 0)), (2, .ref (adY 0)), (3, .int a4), (4, .int a5), (5, .int a6)] := hl
  have B41 : ∀ (x3 : Int32) (x4 : Int32) (x5 : Int32) (x6 : Int32) (L : VV) (H : Heap) (locs : List Loc) (ls : Array Slot), f_X0_look_b41 P L S Y x3 x4 x5 x6 = some res → va_P G vwCl (wj [cX6 cy adP (adL 0) P, cX3 cy adL L, cX8 cy adS S, cX10 cy adY Y]) H → va_D A (wj [cX6 cy adP (adL 0) P, cX3 cy adL L, cX8 cy adS S, cX10 cy adY Y]) → va_S A s.heap H locs → lv_has ls 8 [(0, .ref (adP 0)), (1, .ref (adS 0)), (3, .int x3), (4, .int x4), (5, .int x5), (6, .int x6)] → W p l e (rmX 1 24) s m args below meth c H locs 0 0 (MQ below (mQv G cy A (wj [cX6 cy adP (adL 0) P, cX3 cy adL res, cX8 cy adS S, cX10 cy adY Y])) args s 0 0 A) (F0 m 41 ls []) := by
    intro x3 x4 x5 x6 L H locs ls h hP hD hS hl
    delta f_X0_look_b41 at h
    refine lv_aload_n hx hb dX0_look_41 rfl (lv_at hl 0 rfl) ?_
    refine go_0_155 (ci := 0) hx hb hts hown hK hE hP rfl dX0_look_42 ?_
    refine go_0_167 (ci := 1) hx hb hts hown hK hE hP rfl dX0_look_45 ?_
    refine lv_astore (lv' := [(7, .ref (adL 7)), (0, .ref (adP 0)), (1, .ref (adS 0)), (3, .int x3), (4, .int x4), (5, .int x5), (6, .int x6)]) hx hb dX0_look_48 hl (by decide) rfl (fun ls hl => ?_)
    refine lv_aload hx hb dX0_look_50 (lv_at hl 0 rfl) ?_
    refine lv_iconst (v := 0) hx hb dX0_look_52 (by decide) ?_
    refine lv_aload_n hx hb dX0_look_53 rfl (lv_at hl 1 rfl) ?_
    refine lv_iload_n hx hb dX0_look_54 rfl (lv_at hl 3 rfl) ?_
    refine lv_iconst (v := 0) hx hb dX0_look_55 (by decide) ?_
    replace h := bd h
    obtain ⟨q4101, h4102, h⟩ := h
    refine callWVi (As := [.int x3, .int 0]) (rest := [.int 0, .ref (adL 7)]) (cs' := [cX6 cy adP (adL 0) P, cX3 cy adL L, cX8 cy adS S, cX10 cy adY Y]) (isC := [0]) (isR := [1, 2, 3]) hx hb hml hown hts (k_X6_trait l G cy ev adP (adL 0) P x3 0 q4101 h4102) wm_29_10 wm_26_16 wm_26_17 wm_1_22 wm_26_18 hd_X6_trait ⟨by decide, by decide⟩ hK hP hD hS hA hE rfl rfl rfl (cov_of (n := 4) rfl (by decide)) (by decide) rfl (recvW (ci := 0) hK hP rfl cX6_o rfl) rfl rfl hl.1 (Nat.le_of_ble_eq_true rfl) dX0_look_56 (fun H locs hP hD hS => ?_)
    refine stWI (ci := 1) (k0 := 5) (j := 0) (cs' := [cX6 cy adP (adL 0) P, cX3 cy adL (sr L 6 0 q4101), cX8 cy adS S, cX10 cy adY Y]) hx hb hK hP hD hS rfl cX3_a6 (vin_dec (by decide)) (by decide) cX3_s6 rfl dX0_look_59 (fun H locs hP hD hS => ?_)
    refine lv_aload hx hb dX0_look_60 (lv_at hl 0 rfl) ?_
    refine lv_iconst (v := 1) hx hb dX0_look_62 (by decide) ?_
    refine lv_aload_n hx hb dX0_look_63 rfl (lv_at hl 1 rfl) ?_
    refine lv_iload_n hx hb dX0_look_64 rfl (lv_at hl 3 rfl) ?_
    refine lv_iconst (v := 1) hx hb dX0_look_65 (by decide) ?_
    refine lv_iload hx hb dX0_look_66 (lv_at hl 4 rfl) ?_
    refine lv_iadd hx hb dX0_look_68 ?_
    replace h := bd h
    obtain ⟨q4103, h4104, h⟩ := h
    refine callWVi (As := [.int x3, .int (1 + x4)]) (rest := [.int 1, .ref (adL 7)]) (cs' := [cX6 cy adP (adL 0) P, cX3 cy adL (sr L 6 0 q4101), cX8 cy adS S, cX10 cy adY Y]) (isC := [0]) (isR := [1, 2, 3]) hx hb hml hown hts (k_X6_trait l G cy ev adP (adL 0) P x3 (1 + x4) q4103 h4104) wm_29_10 wm_26_16 wm_26_17 wm_1_22 wm_26_18 hd_X6_trait ⟨by decide, by decide⟩ hK hP hD hS hA hE rfl rfl rfl (cov_of (n := 4) rfl (by decide)) (by decide) rfl (recvW (ci := 0) hK hP rfl cX6_o rfl) rfl rfl hl.1 (Nat.le_of_ble_eq_true rfl) dX0_look_69 (fun H locs hP hD hS => ?_)
    refine stWI (ci := 1) (k0 := 5) (j := 1) (cs' := [cX6 cy adP (adL 0) P, cX3 cy adL (sr (sr L 6 0 q4101) 6 1 q4103), cX8 cy adS S, cX10 cy adY Y]) hx hb hK hP hD hS rfl cX3_a6 (vin_dec (by decide)) (by decide) cX3_s6 rfl dX0_look_72 (fun H locs hP hD hS => ?_)
    refine lv_aload hx hb dX0_look_73 (lv_at hl 0 rfl) ?_
    refine lv_iconst (v := 2) hx hb dX0_look_75 (by decide) ?_
    refine lv_iload hx hb dX0_look_76 (lv_at hl 5 rfl) ?_
    refine stWI (ci := 1) (k0 := 5) (j := 2) (cs' := [cX6 cy adP (adL 0) P, cX3 cy adL (sr (sr (sr L 6 0 q4101) 6 1 q4103) 6 2 x5), cX8 cy adS S, cX10 cy adY Y]) hx hb hK hP hD hS rfl cX3_a6 (vin_dec (by decide)) (by decide) cX3_s6 rfl dX0_look_78 (fun H locs hP hD hS => ?_)
    refine lv_aload hx hb dX0_look_79 (lv_at hl 0 rfl) ?_
    refine lv_iconst (v := 3) hx hb dX0_look_81 (by decide) ?_
    refine lv_aload_n hx hb dX0_look_82 rfl (lv_at hl 2 rfl) ?_
    refine go_0_136 (ci := 2) hx hb hts hown hK hE hP rfl dX0_look_83 ?_
    refine lv_iload hx hb dX0_look_86 (lv_at hl 4 rfl) ?_
    replace h := gin_inv h
    obtain ⟨h9, h⟩ := h
    refine ldWI (ci := 2) (k0 := 3) (g := S.2.1 4) (j := x4.toNatClampNeg) hx hb hK hP rfl cX8_a4 rfl h9 rfl dX0_look_88 ?_
    refine stWI (ci := 1) (k0 := 5) (j := 3) (cs' := [cX6 cy adP (adL 0) P, cX3 cy adL (sr (sr (sr (sr L 6 0 q4101) 6 1 q4103) 6 2 x5) 6 3 (S.2.1 4 x4.toNatClampNeg)), cX8 cy adS S, cX10 cy adY Y]) hx hb hK hP hD hS rfl cX3_a6 (vin_dec (by decide)) (by decide) cX3_s6 rfl dX0_look_89 (fun H locs hP hD hS => ?_)
    refine lv_aload hx hb dX0_look_90 (lv_at hl 0 rfl) ?_
    refine lv_iconst (v := 4) hx hb dX0_look_92 (by decide) ?_
    refine lv_iload hx hb dX0_look_93 (lv_at hl 6 rfl) ?_
    refine stWI (ci := 1) (k0 := 5) (j := 4) (cs' := [cX6 cy adP (adL 0) P, cX3 cy adL (sr (sr (sr (sr (sr L 6 0 q4101) 6 1 q4103) 6 2 x5) 6 3 (S.2.1 4 x4.toNatClampNeg)) 6 4 x6), cX8 cy adS S, cX10 cy adY Y]) hx hb hK hP hD hS rfl cX3_a6 (vin_dec (by decide)) (by decide) cX3_s6 rfl dX0_look_95 (fun H locs hP hD hS => ?_)
    refine lv_aload hx hb dX0_look_96 (lv_at hl 0 rfl) ?_
    refine lv_iconst (v := 5) hx hb dX0_look_98 (by decide) ?_
    refine lv_aload_n hx hb dX0_look_99 rfl (lv_at hl 1 rfl) ?_
    refine lv_iload_n hx hb dX0_look_100 rfl (lv_at hl 3 rfl) ?_
    refine lv_bipush (v := 6) hx hb dX0_look_101 (by decide) ?_
    replace h := bd h
    obtain ⟨q4105, h4106, h⟩ := h
    refine callWVi (As := [.int x3, .int 6]) (rest := [.int 5, .ref (adL 7)]) (cs' := [cX6 cy adP (adL 0) P, cX3 cy adL (sr (sr (sr (sr (sr L 6 0 q4101) 6 1 q4103) 6 2 x5) 6 3 (S.2.1 4 x4.toNatClampNeg)) 6 4 x6), cX8 cy adS S, cX10 cy adY Y]) (isC := [0]) (isR := [1, 2, 3]) hx hb hml hown hts (k_X6_trait l G cy ev adP (adL 0) P x3 6 q4105 h4106) wm_29_10 wm_26_16 wm_26_17 wm_1_22 wm_26_18 hd_X6_trait ⟨by decide, by decide⟩ hK hP hD hS hA hE rfl rfl rfl (cov_of (n := 4) rfl (by decide)) (by decide) rfl (recvW (ci := 0) hK hP rfl cX6_o rfl) rfl rfl hl.1 (Nat.le_of_ble_eq_true rfl) dX0_look_103 (fun H locs hP hD hS => ?_)
    refine stWI (ci := 1) (k0 := 5) (j := 5) (cs' := [cX6 cy adP (adL 0) P, cX3 cy adL (sr (sr (sr (sr (sr (sr L 6 0 q4101) 6 1 q4103) 6 2 x5) 6 3 (S.2.1 4 x4.toNatClampNeg)) 6 4 x6) 6 5 q4105), cX8 cy adS S, cX10 cy adY Y]) hx hb hK hP hD hS rfl cX3_a6 (vin_dec (by decide)) (by decide) cX3_s6 rfl dX0_look_106 (fun H locs hP hD hS => ?_)
    refine lv_aload hx hb dX0_look_107 (lv_at hl 0 rfl) ?_
    refine lv_bipush (v := 6) hx hb dX0_look_109 (by decide) ?_
    refine lv_aload_n hx hb dX0_look_111 rfl (lv_at hl 2 rfl) ?_
    refine go_0_41 (ci := 2) (x := S.1 0) hx hb hts hown hK hE hP rfl rfl dX0_look_112 ?_
    refine stWI (ci := 1) (k0 := 5) (j := 6) (cs' := [cX6 cy adP (adL 0) P, cX3 cy adL (sr (sr (sr (sr (sr (sr (sr L 6 0 q4101) 6 1 q4103) 6 2 x5) 6 3 (S.2.1 4 x4.toNatClampNeg)) 6 4 x6) 6 5 q4105) 6 6 (S.1 0)), cX8 cy adS S, cX10 cy adY Y]) hx hb hK hP hD hS rfl cX3_a6 (vin_dec (by decide)) (by decide) cX3_s6 rfl dX0_look_115 (fun H locs hP hD hS => ?_)
    exact retV (fw := fun q => wj [cX6 cy adP (adL 0) P, cX3 cy adL q, cX8 cy adS S, cX10 cy adY Y]) h hx hb hr hlocks hK hP hD hS dX0_look_116
  delta f_X0_look at h
  refine lv_aload_n hx hb dX0_look_0 rfl (lv_at hl 0 rfl) ?_
  refine lv_iload hx hb dX0_look_1 (lv_at hl 4 rfl) ?_
  replace h := bd h
  obtain ⟨q1, h2, h⟩ := h
  refine callWVi (As := [.int a5]) (rest := []) (cs' := [cX6 cy adP (adL 0) P, cX3 cy adL L, cX8 cy adS S, cX10 cy adY Y]) (isC := [0]) (isR := [1, 2, 3]) hx hb hml hown hts (k_X6_hasSitting l G cy ev adP (adL 0) P a5 q1 h2) wm_29_9 wm_27_20 wm_27_21 wm_1_22 wm_27_22 hd_X6_hasSitting ⟨by decide, by decide⟩ hK hP hD hS hA hE rfl rfl rfl (cov_of (n := 4) rfl (by decide)) (by decide) rfl (recvW (ci := 0) hK hP rfl cX6_o rfl) rfl rfl hl.1 (Nat.le_of_ble_eq_true rfl) dX0_look_3 (fun H locs hP hD hS => ?_)
  refine lv_if_ne (tgt := 10) hx hb dX0_look_6 (by decide) (fun c9 => ?_) (fun c9 => ?_)
  · replace h := (br h).2 c9
    refine lv_aload_n hx hb dX0_look_10 rfl (lv_at hl 0 rfl) ?_
    refine lv_iload_n hx hb dX0_look_11 rfl (lv_at hl 3 rfl) ?_
    refine lv_iconst (v := 5) hx hb dX0_look_12 (by decide) ?_
    replace h := bd h
    obtain ⟨q3, h4, h⟩ := h
    refine callWVi (As := [.int a4, .int 5]) (rest := []) (cs' := [cX6 cy adP (adL 0) P, cX3 cy adL L, cX8 cy adS S, cX10 cy adY Y]) (isC := [0]) (isR := [1, 2, 3]) hx hb hml hown hts (k_X6_trait l G cy ev adP (adL 0) P a4 5 q3 h4) wm_29_10 wm_26_16 wm_26_17 wm_1_22 wm_26_18 hd_X6_trait ⟨by decide, by decide⟩ hK hP hD hS hA hE rfl rfl rfl (cov_of (n := 4) rfl (by decide)) (by decide) rfl (recvW (ci := 0) hK hP rfl cX6_o rfl) rfl rfl hl.1 (Nat.le_of_ble_eq_true rfl) dX0_look_13 (fun H locs hP hD hS => ?_)
    refine lv_istore (lv' := [(6, .int q3), (0, .ref (adP 0)), (1, .ref (adS 0)), (2, .ref (adY 0)), (3, .int a4), (4, .int a5), (5, .int a6)]) hx hb dX0_look_16 hl (by decide) rfl (fun ls hl => ?_)
    refine lv_iload_n hx hb dX0_look_18 rfl (lv_at hl 4 rfl) ?_
    refine lv_aload_n hx hb dX0_look_19 rfl (lv_at hl 3 rfl) ?_
    refine go_0_179 (ci := 3) (x := Y.1 4) hx hb hts hown hK hE hP rfl rfl dX0_look_20 ?_
    refine lv_icmp_ne (tgt := 41) hx hb dX0_look_23 (by decide) (fun c9 => ?_) (fun c9 => ?_)
    · replace h := (br h).2 c9
      exact B41 a4 a5 a6 q3 L _ _ _ h hP hD hS (lv_sub hl [1, 2, 4, 5, 6, 0] rfl)
    · replace h := (br h).1 c9
      refine lv_iload hx hb dX0_look_26 (lv_at hl 0 rfl) ?_
      refine lv_bipush (v := 20) hx hb dX0_look_28 (by decide) ?_
      refine lv_iadd hx hb dX0_look_30 ?_
      refine va_getsN hx hb (hE.1 1 (by decide)).1 hS hown (ef_0_182 hE) (fun _ h9 => h9) dX0_look_31 ?_
      refine lv_iconst (v := 5) hx hb dX0_look_34 (by decide) ?_
      refine va_ti (v := .int 99) hx hb (hE.1 1 (by decide)).2 hS (vin_dec (by decide)) rfl dX0_look_35 ?_
      refine mmin hx hb (by rw [hml]; exact hl.1.symm) hown (hts _ wm_29_8) hts (by decide) (Nat.le_of_ble_eq_true rfl) dX0_look_36 ?_
      refine lv_istore (lv' := [(6, .int (jmin (q3 + 20) 99)), (0, .ref (adP 0)), (1, .ref (adS 0)), (2, .ref (adY 0)), (3, .int a4), (4, .int a5), (5, .int a6)]) hx hb dX0_look_39 hl (by decide) rfl (fun ls hl => ?_)
      exact B41 a4 a5 a6 (jmin (q3 + 20) 99) L _ _ _ h hP hD hS (lv_sub hl [1, 2, 4, 5, 6, 0] rfl)
  · replace h := (br h).1 c9
    exact retV (fw := fun q => wj [cX6 cy adP (adL 0) P, cX3 cy adL q, cX8 cy adS S, cX10 cy adY Y]) h hx hb hr hlocks hK hP hD hS dX0_look_9
theorem hds_X0_manner : yX0_manner.cls ≠ "java/lang/invoke/MethodHandle" ∧ yX0_manner.cls ≠ "java/lang/invoke/VarHandle" ∧ (parseMethodDescriptor yX0_manner.desc).map (fun d => d.parameters.length) = some 7 := ⟨by decide +kernel, by decide +kernel, by decide +kernel⟩
theorem hd_X0_manner : yX0_manner.cls = RX0 ∧ yX0_manner.cls ≠ "java/lang/invoke/MethodHandle" ∧ yX0_manner.cls ≠ "java/lang/invoke/VarHandle" ∧ (parseMethodDescriptor yX0_manner.desc).map (fun d => d.parameters.length) = some 7 := ⟨rfl, hds_X0_manner⟩
def f_X0_manner_b69 (N : Nat) (P : VV) (L : VV) (S : VV) (Y : VV) (z0 : Int32) : Option (Int32 × VV) :=
  gin z0 7 (some (L.2.1 6 z0.toNatClampNeg, L))
def f_X0_manner (N : Nat) (P : VV) (L : VV) (S : VV) (Y : VV) (a1 : Int32) (a5 : Int32) (a6 : Int32) (a7 : Int32) : Option (Int32 × VV) :=
  if a1 < 0 then some (0, L) else if (3 : Int32) ≤ a1 then some (0, L) else bnd (f_X6_hasSitting P a6) (fun q1 => if q1 = 0 then some (0, L) else bnd (f_X0_look P L S Y a5 a6 a7) (fun q3 => bnd (f_X3_work N q3 a1) (fun q5 => if q5.1 = (-9223372036854775808) then if a1 = 0 then f_X0_manner_b69 N P q5.2 S Y 1 else if a1 = 1 then f_X0_manner_b69 N P q5.2 S Y 4 else f_X0_manner_b69 N P q5.2 S Y 5 else gin a1 3 (some ((jminL (jmaxL q5.1 0) (((evC 5).getD a1.toNatClampNeg 0).toInt64)).toInt32, q5.2)))))
set_option maxHeartbeats 4000000 in
set_option maxRecDepth 100000 in
theorem k_X0_manner (l : Launch) (G : va_G) (cy : Nat → ClassId) (ev : Nat → Nat) (N : Nat) (adP : Nat → Nat) (P : VV) (adL : Nat → Nat) (L : VV) (adS : Nat → Nat) (S : VV) (adY : Nat → Nat) (Y : VV) (a1 : Int32) (a5 : Int32) (a6 : Int32) (a7 : Int32) (res : Int32 × VV) (h : f_X0_manner N P L S Y a1 a5 a6 a7 = some res) : MetI l yX0_manner cX0_manner 10 (some .int) 2 55 G cy ev [.int a1, .ref (adP 0), .ref (adS 0), .ref (adY 0), .int a5, .int a6, .int a7] (wj [cX6 cy adP (adL 0) P, cX3 cy adL L, cX8 cy adS S, cX10 cy adY Y]) res.1 (wj [cX6 cy adP (adL 0) P, cX3 cy adL res.2, cX8 cy adS S, cX10 cy adY Y]) := by
  refine MetQ.start (by decide +kernel) (Nat.le_of_ble_eq_true rfl) (fun p e s m args below meth c A ls hx hb hr hml hown hts hlocks hK hP hD hA hl hE => ?_)
  have hS : va_S A s.heap s.heap [] := va_S.rf
  have hown : s.vm.findClass RX0 = some m.cls := hown
  have hl : lv_has ls 10 [(0, .int a1), (1, .ref (adP 0)), (2, .ref (adS 0)), (3, .ref (adY 0)), (4, .int a5), (5, .int a6), (6, .int a7)] := hl
  have B69 : ∀ (z0 : Int32) (L : VV) (H : Heap) (locs : List Loc) (ls : Array Slot), f_X0_manner_b69 N P L S Y z0 = some res → va_P G vwCl (wj [cX6 cy adP (adL 0) P, cX3 cy adL L, cX8 cy adS S, cX10 cy adY Y]) H → va_D A (wj [cX6 cy adP (adL 0) P, cX3 cy adL L, cX8 cy adS S, cX10 cy adY Y]) → va_S A s.heap H locs → lv_has ls 10 [(1, .ref (adP 0))] → W p l e (rmX 2 55) s m args below meth c H locs 0 0 (MQ below (mQi (res.1) G cy A (wj [cX6 cy adP (adL 0) P, cX3 cy adL res.2, cX8 cy adS S, cX10 cy adY Y])) args s 0 0 A) (F0 m 69 ls [.int z0]) := by
    intro z0 L H locs ls h hP hD hS hl
    delta f_X0_manner_b69 at h
    refine lv_istore (lv' := [(9, .int z0), (1, .ref (adP 0))]) hx hb dX0_manner_69 hl (by decide) rfl (fun ls hl => ?_)
    refine lv_aload_n hx hb dX0_manner_71 rfl (lv_at hl 1 rfl) ?_
    refine go_0_155 (ci := 0) hx hb hts hown hK hE hP rfl dX0_manner_72 ?_
    refine go_0_167 (ci := 1) hx hb hts hown hK hE hP rfl dX0_manner_75 ?_
    refine lv_iload hx hb dX0_manner_78 (lv_at hl 0 rfl) ?_
    replace h := gin_inv h
    obtain ⟨h9, h⟩ := h
    refine ldWI (ci := 1) (k0 := 5) (g := L.2.1 6) (j := z0.toNatClampNeg) hx hb hK hP rfl cX3_a6 rfl h9 rfl dX0_manner_80 ?_
    exact retI (fr := fun q => q.1) (fw := fun q => wj [cX6 cy adP (adL 0) P, cX3 cy adL q.2, cX8 cy adS S, cX10 cy adY Y]) h hx hb hr hlocks hK hP hD hS dX0_manner_81
  delta f_X0_manner at h
  refine lv_iload_n hx hb dX0_manner_0 rfl (lv_at hl 0 rfl) ?_
  refine lv_if_lt (tgt := 18) hx hb dX0_manner_1 (by decide) (fun c9 => ?_) (fun c9 => ?_)
  · replace h := (br h).1 c9
    refine lv_iconst (v := 0) hx hb dX0_manner_18 (by decide) ?_
    exact retI (fr := fun q => q.1) (fw := fun q => wj [cX6 cy adP (adL 0) P, cX3 cy adL q.2, cX8 cy adS S, cX10 cy adY Y]) h hx hb hr hlocks hK hP hD hS dX0_manner_19
  · replace h := (br h).2 c9
    refine lv_iload_n hx hb dX0_manner_4 rfl (lv_at hl 0 rfl) ?_
    refine lv_iconst (v := 3) hx hb dX0_manner_5 (by decide) ?_
    refine lv_icmp_ge (tgt := 18) hx hb dX0_manner_6 (by decide) (fun c9 => ?_) (fun c9 => ?_)
    · replace h := (br h).1 c9
      refine lv_iconst (v := 0) hx hb dX0_manner_18 (by decide) ?_
      exact retI (fr := fun q => q.1) (fw := fun q => wj [cX6 cy adP (adL 0) P, cX3 cy adL q.2, cX8 cy adS S, cX10 cy adY Y]) h hx hb hr hlocks hK hP hD hS dX0_manner_19
    · replace h := (br h).2 c9
      refine lv_aload_n hx hb dX0_manner_9 rfl (lv_at hl 1 rfl) ?_
      refine lv_iload hx hb dX0_manner_10 (lv_at hl 5 rfl) ?_
      replace h := bd h
      obtain ⟨q1, h2, h⟩ := h
      refine callWVi (As := [.int a6]) (rest := []) (cs' := [cX6 cy adP (adL 0) P, cX3 cy adL L, cX8 cy adS S, cX10 cy adY Y]) (isC := [0]) (isR := [1, 2, 3]) hx hb hml hown hts (k_X6_hasSitting l G cy ev adP (adL 0) P a6 q1 h2) wm_29_9 wm_27_20 wm_27_21 wm_1_22 wm_27_22 hd_X6_hasSitting ⟨by decide, by decide⟩ hK hP hD hS hA hE rfl rfl rfl (cov_of (n := 4) rfl (by decide)) (by decide) rfl (recvW (ci := 0) hK hP rfl cX6_o rfl) rfl rfl hl.1 (Nat.le_of_ble_eq_true rfl) dX0_manner_12 (fun H locs hP hD hS => ?_)
      refine lv_if_ne (tgt := 20) hx hb dX0_manner_15 (by decide) (fun c9 => ?_) (fun c9 => ?_)
      · replace h := (br h).2 c9
        refine lv_aload_n hx hb dX0_manner_20 rfl (lv_at hl 1 rfl) ?_
        refine lv_aload_n hx hb dX0_manner_21 rfl (lv_at hl 2 rfl) ?_
        refine lv_aload_n hx hb dX0_manner_22 rfl (lv_at hl 3 rfl) ?_
        refine lv_iload hx hb dX0_manner_23 (lv_at hl 4 rfl) ?_
        refine lv_iload hx hb dX0_manner_25 (lv_at hl 5 rfl) ?_
        refine lv_iload hx hb dX0_manner_27 (lv_at hl 6 rfl) ?_
        replace h := bd h
        obtain ⟨q3, h4, h⟩ := h
        refine callWSv (As := [.ref (adP 0), .ref (adS 0), .ref (adY 0), .int a5, .int a6, .int a7]) (rest := []) (cs' := [cX6 cy adP (adL 0) P, cX3 cy adL q3, cX8 cy adS S, cX10 cy adY Y]) (isC := [0, 1, 2, 3]) (isR := []) hx hb hml hown hts (k_X0_look l G cy ev adP P adL L adS S adY Y a5 a6 a7 q3 h4) wm_34_13 wm_29_6 wm_2_9 wm_29_7 hd_X0_look ⟨by decide, by decide⟩ hK hP hD hS hA hE rfl rfl rfl (cov_of (n := 4) rfl (by decide)) (by decide) rfl rfl rfl hl.1 (Nat.le_of_ble_eq_true rfl) dX0_manner_29 (fun H locs hP hD hS => ?_)
        refine lv_aload_n hx hb dX0_manner_32 rfl (lv_at hl 1 rfl) ?_
        refine go_0_155 (ci := 0) hx hb hts hown hK hE hP rfl dX0_manner_33 ?_
        refine lv_iload_n hx hb dX0_manner_36 rfl (lv_at hl 0 rfl) ?_
        replace h := bd h
        obtain ⟨q5, h6, h⟩ := h
        refine callWVl (As := [.int a1]) (rest := []) (cs' := [cX6 cy adP (adL 0) P, cX3 cy adL q5.2, cX8 cy adS S, cX10 cy adY Y]) (isC := [1]) (isR := [0, 2, 3]) hx hb hml hown hts (k_X3_work l G cy ev N adL q3 a1 q5 h6) wm_34_14 wm_29_12 wm_29_13 wm_5_0 wm_29_14 hd_X3_work ⟨by decide, by decide⟩ hK hP hD hS hA hE rfl rfl rfl (cov_of (n := 4) rfl (by decide)) (by decide) rfl (recvW (ci := 1) hK hP rfl cX3_o rfl) rfl rfl hl.1 (Nat.le_of_ble_eq_true rfl) dX0_manner_37 (fun H locs hP hD hS => ?_)
        refine lv_lstore (lv' := [(7, .long q5.1), (0, .int a1), (1, .ref (adP 0)), (2, .ref (adS 0)), (3, .ref (adY 0)), (4, .int a5), (5, .int a6), (6, .int a7)]) hx hb dX0_manner_40 hl (by decide) rfl (fun ls hl => ?_)
        refine lv_lload hx hb dX0_manner_42 (lv_at hl 0 rfl) ?_
        refine lv_ldc2 (v := (-9223372036854775808)) hx hb hown (hts _ wm_34_6) dX0_manner_44 ?_
        refine lcmp_ne (tgt := 82) hx hb dX0_manner_47 dX0_manner_48 (by decide) (fun c9 => ?_) (fun c9 => ?_)
        · replace h := (br h).2 c9
          refine lv_lload hx hb dX0_manner_82 (lv_at hl 0 rfl) ?_
          refine lv_lconst (v := 0) hx hb dX0_manner_84 (by decide) ?_
          refine mmaxL hx hb (by rw [hml]; exact hl.1.symm) hown (hts _ wm_34_7) hts (by decide) (Nat.le_of_ble_eq_true rfl) dX0_manner_85 ?_
          refine va_getsN hx hb (hE.1 5 (by decide)).1 hS hown (ef_0_173 hE) (fun _ h9 => h9) dX0_manner_88 ?_
          refine lv_iload_n hx hb dX0_manner_91 rfl (lv_at hl 1 rfl) ?_
          replace h := gin_inv h
          obtain ⟨h9, h⟩ := h
          refine va_ti (v := .int ((evC 5).getD a1.toNatClampNeg 0)) hx hb (hE.1 5 (by decide)).2 hS h9 rfl dX0_manner_92 ?_
          refine lv_i2l (v := ((evC 5).getD a1.toNatClampNeg 0).toInt64) hx hb dX0_manner_93 rfl ?_
          refine mminL hx hb (by rw [hml]; exact hl.1.symm) hown (hts _ wm_34_10) hts (by decide) (Nat.le_of_ble_eq_true rfl) dX0_manner_94 ?_
          refine lv_l2i (v := (jminL (jmaxL q5.1 0) (((evC 5).getD a1.toNatClampNeg 0).toInt64)).toInt32) hx hb dX0_manner_97 rfl ?_
          exact retI (fr := fun q => q.1) (fw := fun q => wj [cX6 cy adP (adL 0) P, cX3 cy adL q.2, cX8 cy adS S, cX10 cy adY Y]) h hx hb hr hlocks hK hP hD hS dX0_manner_98
        · replace h := (br h).1 c9
          refine lv_iload_n hx hb dX0_manner_51 rfl (lv_at hl 1 rfl) ?_
          refine lv_if_ne (tgt := 59) hx hb dX0_manner_52 (by decide) (fun c9 => ?_) (fun c9 => ?_)
          · replace h := (br h).2 c9
            refine lv_iload_n hx hb dX0_manner_59 rfl (lv_at hl 1 rfl) ?_
            refine lv_iconst (v := 1) hx hb dX0_manner_60 (by decide) ?_
            refine lv_icmp_ne (tgt := 68) hx hb dX0_manner_61 (by decide) (fun c9 => ?_) (fun c9 => ?_)
            · replace h := (br h).2 c9
              refine lv_iconst (v := 5) hx hb dX0_manner_68 (by decide) ?_
              exact B69 5 q5.2 _ _ _ h hP hD hS (lv_sub hl [2] rfl)
            · replace h := (br h).1 c9
              refine lv_iconst (v := 4) hx hb dX0_manner_64 (by decide) ?_
              refine lv_goto (tgt := 69) hx hb dX0_manner_65 (by decide) ?_
              exact B69 4 q5.2 _ _ _ h hP hD hS (lv_sub hl [2] rfl)
          · replace h := (br h).1 c9
            refine lv_iconst (v := 1) hx hb dX0_manner_55 (by decide) ?_
            refine lv_goto (tgt := 69) hx hb dX0_manner_56 (by decide) ?_
            exact B69 1 q5.2 _ _ _ h hP hD hS (lv_sub hl [2] rfl)
      · replace h := (br h).1 c9
        refine lv_iconst (v := 0) hx hb dX0_manner_18 (by decide) ?_
        exact retI (fr := fun q => q.1) (fw := fun q => wj [cX6 cy adP (adL 0) P, cX3 cy adL q.2, cX8 cy adS S, cX10 cy adY Y]) h hx hb hr hlocks hK hP hD hS dX0_manner_19
theorem hds_X0_comes : yX0_comes.cls ≠ "java/lang/invoke/MethodHandle" ∧ yX0_comes.cls ≠ "java/lang/invoke/VarHandle" ∧ (parseMethodDescriptor yX0_comes.desc).map (fun d => d.parameters.length) = some 5 := ⟨by decide +kernel, by decide +kernel, by decide +kernel⟩
theorem hd_X0_comes : yX0_comes.cls = RX0 ∧ yX0_comes.cls ≠ "java/lang/invoke/MethodHandle" ∧ yX0_comes.cls ≠ "java/lang/invoke/VarHandle" ∧ (parseMethodDescriptor yX0_comes.desc).map (fun d => d.parameters.length) = some 5 := ⟨rfl, hds_X0_comes⟩
def f_X0_comes_b84 (N : Nat) (P : VV) (L : VV) (S : VV) (Y : VV)  : Option (Int32 × VV × VV) :=
  some (1, L, S)
def f_X0_comes (N : Nat) (P : VV) (L : VV) (S : VV) (Y : VV) (a4 : Int32) (a5 : Int32) : Option (Int32 × VV × VV) :=
  if Y.1 3 = a4 then some (0, L, S) else if Y.1 1 = 0 then bnd (f_X6_hasSitting P a5) (fun q1 => if q1 = 0 then some (1, L, S) else gin a5 3 (bnd (f_X0_manner N P L S Y 2 a4 a5 (S.2.1 14 a5.toNatClampNeg)) (fun q3 => if Y.1 0 = 0 then if (50 : Int32) ≤ q3.1 then some (0, q3.2, S) else some (1, q3.2, S) else if q3.1 = 0 then f_X0_comes_b84 N P q3.2 S Y else bnd (f_X8_draw S) (fun q5 => if q5.1 - q5.1 / 100 * 100 < q3.1 then some (0, q3.2, q5.2) else f_X0_comes_b84 N P q3.2 q5.2 Y)))) else some (1, L, S)
set_option maxHeartbeats 4000000 in
set_option maxRecDepth 100000 in
theorem k_X0_comes (l : Launch) (G : va_G) (cy : Nat → ClassId) (ev : Nat → Nat) (N : Nat) (adP : Nat → Nat) (P : VV) (adL : Nat → Nat) (L : VV) (adS : Nat → Nat) (S : VV) (adY : Nat → Nat) (Y : VV) (a4 : Int32) (a5 : Int32) (res : Int32 × VV × VV) (h : f_X0_comes N P L S Y a4 a5 = some res) : MetI l yX0_comes cX0_comes 6 (some .boolean) 3 84 G cy ev [.ref (adP 0), .ref (adS 0), .ref (adY 0), .int a4, .int a5] (wj [cX6 cy adP (adL 0) P, cX3 cy adL L, cX8 cy adS S, cX10 cy adY Y]) res.1 (wj [cX6 cy adP (adL 0) P, cX3 cy adL res.2.1, cX8 cy adS res.2.2, cX10 cy adY Y]) := by
  refine MetQ.start (by decide +kernel) (Nat.le_of_ble_eq_true rfl) (fun p e s m args below meth c A ls hx hb hr hml hown hts hlocks hK hP hD hA hl hE => ?_)
  have hS : va_S A s.heap s.heap [] := va_S.rf
  have hown : s.vm.findClass RX0 = some m.cls := hown
  have hl : lv_has ls 6 [(0, .ref (adP 0)), (1, .ref (adS 0)), (2, .ref (adY 0)), (3, .int a4), (4, .int a5)] := hl
  have B84 : ∀ (L : VV) (S : VV) (H : Heap) (locs : List Loc) (ls : Array Slot), f_X0_comes_b84 N P L S Y = some res → va_P G vwCl (wj [cX6 cy adP (adL 0) P, cX3 cy adL L, cX8 cy adS S, cX10 cy adY Y]) H → va_D A (wj [cX6 cy adP (adL 0) P, cX3 cy adL L, cX8 cy adS S, cX10 cy adY Y]) → va_S A s.heap H locs → lv_has ls 6 [] → W p l e (rmX 3 84) s m args below meth c H locs 0 0 (MQ below (mQi (res.1) G cy A (wj [cX6 cy adP (adL 0) P, cX3 cy adL res.2.1, cX8 cy adS res.2.2, cX10 cy adY Y])) args s 0 0 A) (F0 m 84 ls []) := by
    intro L S H locs ls h hP hD hS hl
    delta f_X0_comes_b84 at h
    refine lv_iconst (v := 1) hx hb dX0_comes_84 (by decide) ?_
    refine lv_goto (tgt := 89) hx hb dX0_comes_85 (by decide) ?_
    exact retZ (fr := fun q => q.1) (fw := fun q => wj [cX6 cy adP (adL 0) P, cX3 cy adL q.2.1, cX8 cy adS q.2.2, cX10 cy adY Y]) h hx hb hr narZ1 hlocks hK hP hD hS dX0_comes_89
  delta f_X0_comes at h
  refine lv_aload_n hx hb dX0_comes_0 rfl (lv_at hl 2 rfl) ?_
  refine go_0_107 (ci := 3) (x := Y.1 3) hx hb hts hown hK hE hP rfl rfl dX0_comes_1 ?_
  refine lv_iload_n hx hb dX0_comes_4 rfl (lv_at hl 3 rfl) ?_
  refine lv_icmp_ne (tgt := 10) hx hb dX0_comes_5 (by decide) (fun c9 => ?_) (fun c9 => ?_)
  · replace h := (br h).2 c9
    refine lv_aload_n hx hb dX0_comes_10 rfl (lv_at hl 2 rfl) ?_
    refine go_0_110 (ci := 3) (x := Y.1 1) hx hb hts hown hK hE hP rfl rfl dX0_comes_11 ?_
    refine lv_if_ne (tgt := 26) hx hb dX0_comes_14 (by decide) (fun c9 => ?_) (fun c9 => ?_)
    · replace h := (br h).2 c9
      refine lv_iconst (v := 1) hx hb dX0_comes_26 (by decide) ?_
      exact retZ (fr := fun q => q.1) (fw := fun q => wj [cX6 cy adP (adL 0) P, cX3 cy adL q.2.1, cX8 cy adS q.2.2, cX10 cy adY Y]) h hx hb hr narZ1 hlocks hK hP hD hS dX0_comes_27
    · replace h := (br h).1 c9
      refine lv_aload_n hx hb dX0_comes_17 rfl (lv_at hl 0 rfl) ?_
      refine lv_iload hx hb dX0_comes_18 (lv_at hl 4 rfl) ?_
      replace h := bd h
      obtain ⟨q1, h2, h⟩ := h
      refine callWVi (As := [.int a5]) (rest := []) (cs' := [cX6 cy adP (adL 0) P, cX3 cy adL L, cX8 cy adS S, cX10 cy adY Y]) (isC := [0]) (isR := [1, 2, 3]) hx hb hml hown hts (k_X6_hasSitting l G cy ev adP (adL 0) P a5 q1 h2) wm_29_9 wm_27_20 wm_27_21 wm_1_22 wm_27_22 hd_X6_hasSitting ⟨by decide, by decide⟩ hK hP hD hS hA hE rfl rfl rfl (cov_of (n := 4) rfl (by decide)) (by decide) rfl (recvW (ci := 0) hK hP rfl cX6_o rfl) rfl rfl hl.1 (Nat.le_of_ble_eq_true rfl) dX0_comes_20 (fun H locs hP hD hS => ?_)
      refine lv_if_ne (tgt := 28) hx hb dX0_comes_23 (by decide) (fun c9 => ?_) (fun c9 => ?_)
      · replace h := (br h).2 c9
        refine lv_iconst (v := 2) hx hb dX0_comes_28 (by decide) ?_
        refine lv_aload_n hx hb dX0_comes_29 rfl (lv_at hl 0 rfl) ?_
        refine lv_aload_n hx hb dX0_comes_30 rfl (lv_at hl 1 rfl) ?_
        refine lv_aload_n hx hb dX0_comes_31 rfl (lv_at hl 2 rfl) ?_
        refine lv_iload_n hx hb dX0_comes_32 rfl (lv_at hl 3 rfl) ?_
        refine lv_iload hx hb dX0_comes_33 (lv_at hl 4 rfl) ?_
        refine lv_aload_n hx hb dX0_comes_35 rfl (lv_at hl 1 rfl) ?_
        refine go_0_68 (ci := 2) hx hb hts hown hK hE hP rfl dX0_comes_36 ?_
        refine lv_iload hx hb dX0_comes_39 (lv_at hl 4 rfl) ?_
        replace h := gin_inv h
        obtain ⟨h9, h⟩ := h
        refine ldWI (ci := 2) (k0 := 9) (g := S.2.1 14) (j := a5.toNatClampNeg) hx hb hK hP rfl cX8_a14 rfl h9 rfl dX0_comes_41 ?_
        replace h := bd h
        obtain ⟨q3, h4, h⟩ := h
        refine callWSi (As := [.int 2, .ref (adP 0), .ref (adS 0), .ref (adY 0), .int a4, .int a5, .int (S.2.1 14 a5.toNatClampNeg)]) (rest := []) (cs' := [cX6 cy adP (adL 0) P, cX3 cy adL q3.2, cX8 cy adS S, cX10 cy adY Y]) (isC := [0, 1, 2, 3]) (isR := []) hx hb hml hown hts (k_X0_manner l G cy ev N adP P adL L adS S adY Y 2 a4 a5 (S.2.1 14 a5.toNatClampNeg) q3 h4) wm_34_3 wm_34_4 wm_2_9 wm_34_5 hd_X0_manner ⟨by decide, by decide⟩ hK hP hD hS hA hE rfl rfl rfl (cov_of (n := 4) rfl (by decide)) (by decide) rfl rfl rfl hl.1 (Nat.le_of_ble_eq_true rfl) dX0_comes_42 (fun H locs hP hD hS => ?_)
        refine lv_istore (lv' := [(5, .int q3.1), (0, .ref (adP 0)), (1, .ref (adS 0)), (2, .ref (adY 0)), (3, .int a4), (4, .int a5)]) hx hb dX0_comes_45 hl (by decide) rfl (fun ls hl => ?_)
        refine lv_aload_n hx hb dX0_comes_47 rfl (lv_at hl 3 rfl) ?_
        refine go_0_117 (ci := 3) (x := Y.1 0) hx hb hts hown hK hE hP rfl rfl dX0_comes_48 ?_
        refine lv_if_ne (tgt := 67) hx hb dX0_comes_51 (by decide) (fun c9 => ?_) (fun c9 => ?_)
        · replace h := (br h).2 c9
          refine lv_iload hx hb dX0_comes_67 (lv_at hl 0 rfl) ?_
          refine lv_if_eq (tgt := 84) hx hb dX0_comes_69 (by decide) (fun c9 => ?_) (fun c9 => ?_)
          · replace h := (br h).1 c9
            exact B84 q3.2 S _ _ _ h hP hD hS (lv_sub hl [] rfl)
          · replace h := (br h).2 c9
            refine lv_aload_n hx hb dX0_comes_72 rfl (lv_at hl 2 rfl) ?_
            replace h := bd h
            obtain ⟨q5, h6, h⟩ := h
            refine callWVi (As := []) (rest := []) (cs' := [cX6 cy adP (adL 0) P, cX3 cy adL q3.2, cX8 cy adS q5.2, cX10 cy adY Y]) (isC := [2]) (isR := [0, 1, 3]) hx hb hml hown hts (k_X8_draw l G cy ev adS S q5 h6) wm_34_18 wm_34_19 wm_34_20 wm_2_2 wm_34_21 hd_X8_draw ⟨by decide, by decide⟩ hK hP hD hS hA hE rfl rfl rfl (cov_of (n := 4) rfl (by decide)) (by decide) rfl (recvW (ci := 2) hK hP rfl cX8_o rfl) rfl rfl hl.1 (Nat.le_of_ble_eq_true rfl) dX0_comes_73 (fun H locs hP hD hS => ?_)
            refine lv_bipush (v := 100) hx hb dX0_comes_76 (by decide) ?_
            refine lv_irem hx hb dX0_comes_78 (by decide) ?_
            refine lv_iload hx hb dX0_comes_79 (lv_at hl 0 rfl) ?_
            refine lv_icmp_lt (tgt := 88) hx hb dX0_comes_81 (by decide) (fun c9 => ?_) (fun c9 => ?_)
            · replace h := (br h).1 c9
              refine lv_iconst (v := 0) hx hb dX0_comes_88 (by decide) ?_
              exact retZ (fr := fun q => q.1) (fw := fun q => wj [cX6 cy adP (adL 0) P, cX3 cy adL q.2.1, cX8 cy adS q.2.2, cX10 cy adY Y]) h hx hb hr narZ0 hlocks hK hP hD hS dX0_comes_89
            · replace h := (br h).2 c9
              exact B84 q3.2 q5.2 _ _ _ h hP hD hS (lv_sub hl [] rfl)
        · replace h := (br h).1 c9
          refine lv_iload hx hb dX0_comes_54 (lv_at hl 0 rfl) ?_
          refine lv_bipush (v := 50) hx hb dX0_comes_56 (by decide) ?_
          refine lv_icmp_ge (tgt := 65) hx hb dX0_comes_58 (by decide) (fun c9 => ?_) (fun c9 => ?_)
          · replace h := (br h).1 c9
            refine lv_iconst (v := 0) hx hb dX0_comes_65 (by decide) ?_
            exact retZ (fr := fun q => q.1) (fw := fun q => wj [cX6 cy adP (adL 0) P, cX3 cy adL q.2.1, cX8 cy adS q.2.2, cX10 cy adY Y]) h hx hb hr narZ0 hlocks hK hP hD hS dX0_comes_66
          · replace h := (br h).2 c9
            refine lv_iconst (v := 1) hx hb dX0_comes_61 (by decide) ?_
            refine lv_goto (tgt := 66) hx hb dX0_comes_62 (by decide) ?_
            exact retZ (fr := fun q => q.1) (fw := fun q => wj [cX6 cy adP (adL 0) P, cX3 cy adL q.2.1, cX8 cy adS q.2.2, cX10 cy adY Y]) h hx hb hr narZ1 hlocks hK hP hD hS dX0_comes_66
      · replace h := (br h).1 c9
        refine lv_iconst (v := 1) hx hb dX0_comes_26 (by decide) ?_
        exact retZ (fr := fun q => q.1) (fw := fun q => wj [cX6 cy adP (adL 0) P, cX3 cy adL q.2.1, cX8 cy adS q.2.2, cX10 cy adY Y]) h hx hb hr narZ1 hlocks hK hP hD hS dX0_comes_27
  · replace h := (br h).1 c9
    refine lv_iconst (v := 0) hx hb dX0_comes_8 (by decide) ?_
    exact retZ (fr := fun q => q.1) (fw := fun q => wj [cX6 cy adP (adL 0) P, cX3 cy adL q.2.1, cX8 cy adS q.2.2, cX10 cy adY Y]) h hx hb hr narZ0 hlocks hK hP hD hS dX0_comes_9
theorem hds_X0_sitDown : yX0_sitDown.cls ≠ "java/lang/invoke/MethodHandle" ∧ yX0_sitDown.cls ≠ "java/lang/invoke/VarHandle" ∧ (parseMethodDescriptor yX0_sitDown.desc).map (fun d => d.parameters.length) = some 5 := ⟨by decide +kernel, by decide +kernel, by decide +kernel⟩
theorem hd_X0_sitDown : yX0_sitDown.cls = RX0 ∧ yX0_sitDown.cls ≠ "java/lang/invoke/MethodHandle" ∧ yX0_sitDown.cls ≠ "java/lang/invoke/VarHandle" ∧ (parseMethodDescriptor yX0_sitDown.desc).map (fun d => d.parameters.length) = some 5 := ⟨rfl, hds_X0_sitDown⟩
def f_X0_sitDown_b232 (N : Nat) (P : VV) (L : VV) (S : VV) (Y : VV) (x4 : Int32) (x7 : Int32) (z0 : Int32) : Option (Int32 × VV × VV) :=
  gin x4 3 (gin x4 3 (some (1, L, sr S 17 x4.toNatClampNeg (jmax (S.2.1 17 x4.toNatClampNeg) (x7 + z0)))))
def f_X0_sitDown_b212 (N : Nat) (P : VV) (L : VV) (S : VV) (Y : VV) (x4 : Int32) (x7 : Int32) (x8 : Int32) (x9 : Int32) : Option (Int32 × VV × VV) :=
  if x9 < 3 then f_X0_sitDown_b232 N P L S Y x4 x7 (x8 - ((x8 * x9) / 4)) else f_X0_sitDown_b232 N P L S Y x4 x7 0
def f_X0_sitDown_b185 (N : Nat) (P : VV) (L : VV) (S : VV) (Y : VV) (x3 : Int32) (x4 : Int32) (x7 : Int32) (z0 : Int32) : Option (Int32 × VV × VV) :=
  gin x4 3 (if z0 ≤ 0 then f_X0_sitDown_b212 N P L S Y x4 x7 z0 (S.2.1 3 x4.toNatClampNeg) else gin x3 8 (gin x3 8 (f_X0_sitDown_b212 N P L (sr S 6 x3.toNatClampNeg ((S.2.1 6 x3.toNatClampNeg) + (S.2.1 3 x4.toNatClampNeg))) Y x4 x7 z0 (S.2.1 3 x4.toNatClampNeg))))
def f_X0_sitDown_b162 (N : Nat) (P : VV) (L : VV) (S : VV) (Y : VV) (x3 : Int32) (x4 : Int32) (x6 : Int32) (x7 : Int32) : Option (Int32 × VV × VV) :=
  if Y.1 2 = 0 then bnd (f_X0_manner N P L S Y 1 x3 x4 x6) (fun q16201 => f_X0_sitDown_b185 N P q16201.2 S Y x3 x4 x7 q16201.1) else f_X0_sitDown_b185 N P L S Y x3 x4 x7 0
def f_X0_sitDown (N : Nat) (P : VV) (L : VV) (S : VV) (Y : VV) (a4 : Int32) (a5 : Int32) : Option (Int32 × VV × VV) :=
  bnd (f_X6_trait P a4 0) (fun q1 => bnd (f_X6_hasParty P a4) (fun q3 => if q3 = 0 then some (0, L, S) else bnd (f_X6_hasSitting P a5) (fun q5 => if q5 = 0 then some (0, L, S) else gin a5 3 (if q1 ≤ ((P.2.1 6 0) + (Y.1 5)) - (S.2.1 15 a5.toNatClampNeg) then gin a5 3 (gin a5 3 (gin a5 3 (gin a5 3 (gin a4 8 (gin a4 8 (gin a5 3 (bnd (f_X0_manner N P L (si (sr (sr S 15 a5.toNatClampNeg ((S.2.1 15 a5.toNatClampNeg) + q1)) 5 a4.toNatClampNeg ((S.2.1 5 a4.toNatClampNeg) + 1)) 11 ((S.1 11) + (q1 * (S.2.1 4 a5.toNatClampNeg)))) Y 0 a4 a5 (S.2.1 14 a5.toNatClampNeg)) (fun q7 => bnd (f_X6_trait P a4 4) (fun q9 => if (S.2.1 13 a5.toNatClampNeg) + (P.2.1 6 1) ≤ q9 then f_X0_sitDown_b162 N P q7.2 (si (si (sr (sr S 15 a5.toNatClampNeg ((S.2.1 15 a5.toNatClampNeg) + q1)) 5 a4.toNatClampNeg ((S.2.1 5 a4.toNatClampNeg) + 1)) 11 ((S.1 11) + (q1 * (S.2.1 4 a5.toNatClampNeg)))) 9 ((S.1 9) + (q1 * q7.1))) Y a4 a5 (S.2.1 14 a5.toNatClampNeg) ((S.2.1 13 a5.toNatClampNeg) + (P.2.1 6 1)) else gin a4 8 (gin a4 8 (f_X0_sitDown_b162 N P q7.2 (sr (si (si (sr (sr S 15 a5.toNatClampNeg ((S.2.1 15 a5.toNatClampNeg) + q1)) 5 a4.toNatClampNeg ((S.2.1 5 a4.toNatClampNeg) + 1)) 11 ((S.1 11) + (q1 * (S.2.1 4 a5.toNatClampNeg)))) 9 ((S.1 9) + (q1 * q7.1))) 6 a4.toNatClampNeg ((S.2.1 6 a4.toNatClampNeg) + 1)) Y a4 a5 (S.2.1 14 a5.toNatClampNeg) ((S.2.1 13 a5.toNatClampNeg) + (P.2.1 6 1))))))))))))) else some (0, L, S)))))
set_option maxHeartbeats 4000000 in
set_option maxRecDepth 100000 in
theorem k_X0_sitDown (l : Launch) (G : va_G) (cy : Nat → ClassId) (ev : Nat → Nat) (N : Nat) (adP : Nat → Nat) (P : VV) (adL : Nat → Nat) (L : VV) (adS : Nat → Nat) (S : VV) (adY : Nat → Nat) (Y : VV) (a4 : Int32) (a5 : Int32) (res : Int32 × VV × VV) (h : f_X0_sitDown N P L S Y a4 a5 = some res) : MetI l yX0_sitDown cX0_sitDown 11 (some .boolean) 3 84 G cy ev [.ref (adP 0), .ref (adS 0), .ref (adY 0), .int a4, .int a5] (wj [cX6 cy adP (adL 0) P, cX3 cy adL L, cX8 cy adS S, cX10 cy adY Y]) res.1 (wj [cX6 cy adP (adL 0) P, cX3 cy adL res.2.1, cX8 cy adS res.2.2, cX10 cy adY Y]) := by
  refine MetQ.start (by decide +kernel) (Nat.le_of_ble_eq_true rfl) (fun p e s m args below meth c A ls hx hb hr hml hown hts hlocks hK hP hD hA hl hE => ?_)
  have hS : va_S A s.heap s.heap [] := va_S.rf
  have hown : s.vm.findClass RX0 = some m.cls := hown
  have hl : lv_has ls 11 [(0, .ref (adP 0)), (1, .ref (adS 0)), (2, .ref (adY 0)), (3, .int a4), (4, .int a5)] := hl
  have B232 : ∀ (x4 : Int32) (x7 : Int32) (z0 : Int32) (L : VV) (S : VV) (H : Heap) (locs : List Loc) (ls : Array Slot), f_X0_sitDown_b232 N P L S Y x4 x7 z0 = some res → va_P G vwCl (wj [cX6 cy adP (adL 0) P, cX3 cy adL L, cX8 cy adS S, cX10 cy adY Y]) H → va_D A (wj [cX6 cy adP (adL 0) P, cX3 cy adL L, cX8 cy adS S, cX10 cy adY Y]) → va_S A s.heap H locs → lv_has ls 11 [(1, .ref (adS 0)), (4, .int x4), (7, .int x7)] → W p l e (rmX 3 84) s m args below meth c H locs 0 0 (MQ below (mQi (res.1) G cy A (wj [cX6 cy adP (adL 0) P, cX3 cy adL res.2.1, cX8 cy adS res.2.2, cX10 cy adY Y])) args s 0 0 A) (F0 m 232 ls [.int z0]) := by
    intro x4 x7 z0 L S H locs ls h hP hD hS hl
    delta f_X0_sitDown_b232 at h
    refine lv_istore (lv' := [(10, .int z0), (1, .ref (adS 0)), (4, .int x4), (7, .int x7)]) hx hb dX0_sitDown_232 hl (by decide) rfl (fun ls hl => ?_)
    refine lv_aload_n hx hb dX0_sitDown_234 rfl (lv_at hl 1 rfl) ?_
    refine go_0_74 (ci := 2) hx hb hts hown hK hE hP rfl dX0_sitDown_235 ?_
    refine lv_iload hx hb dX0_sitDown_238 (lv_at hl 2 rfl) ?_
    refine lv_aload_n hx hb dX0_sitDown_240 rfl (lv_at hl 1 rfl) ?_
    refine go_0_74 (ci := 2) hx hb hts hown hK hE hP rfl dX0_sitDown_241 ?_
    refine lv_iload hx hb dX0_sitDown_244 (lv_at hl 2 rfl) ?_
    replace h := gin_inv h
    obtain ⟨h9, h⟩ := h
    refine ldWI (ci := 2) (k0 := 12) (g := S.2.1 17) (j := x4.toNatClampNeg) hx hb hK hP rfl cX8_a17 rfl h9 rfl dX0_sitDown_246 ?_
    refine lv_iload hx hb dX0_sitDown_247 (lv_at hl 3 rfl) ?_
    refine lv_iload hx hb dX0_sitDown_249 (lv_at hl 0 rfl) ?_
    refine lv_iadd hx hb dX0_sitDown_251 ?_
    refine mmax hx hb (by rw [hml]; exact hl.1.symm) hown (hts _ wm_33_22) hts (by decide) (Nat.le_of_ble_eq_true rfl) dX0_sitDown_252 ?_
    replace h := gin_inv h
    obtain ⟨h9, h⟩ := h
    refine stWI (ci := 2) (k0 := 12) (j := x4.toNatClampNeg) (cs' := [cX6 cy adP (adL 0) P, cX3 cy adL L, cX8 cy adS (sr S 17 x4.toNatClampNeg (jmax (S.2.1 17 x4.toNatClampNeg) (x7 + z0))), cX10 cy adY Y]) hx hb hK hP hD hS rfl cX8_a17 h9 rfl cX8_s17 rfl dX0_sitDown_255 (fun H locs hP hD hS => ?_)
    refine lv_iconst (v := 1) hx hb dX0_sitDown_256 (by decide) ?_
    exact retZ (fr := fun q => q.1) (fw := fun q => wj [cX6 cy adP (adL 0) P, cX3 cy adL q.2.1, cX8 cy adS q.2.2, cX10 cy adY Y]) h hx hb hr narZ1 hlocks hK hP hD hS dX0_sitDown_257
  have B212 : ∀ (x4 : Int32) (x7 : Int32) (x8 : Int32) (x9 : Int32) (L : VV) (S : VV) (H : Heap) (locs : List Loc) (ls : Array Slot), f_X0_sitDown_b212 N P L S Y x4 x7 x8 x9 = some res → va_P G vwCl (wj [cX6 cy adP (adL 0) P, cX3 cy adL L, cX8 cy adS S, cX10 cy adY Y]) H → va_D A (wj [cX6 cy adP (adL 0) P, cX3 cy adL L, cX8 cy adS S, cX10 cy adY Y]) → va_S A s.heap H locs → lv_has ls 11 [(1, .ref (adS 0)), (4, .int x4), (7, .int x7), (8, .int x8), (9, .int x9)] → W p l e (rmX 3 84) s m args below meth c H locs 0 0 (MQ below (mQi (res.1) G cy A (wj [cX6 cy adP (adL 0) P, cX3 cy adL res.2.1, cX8 cy adS res.2.2, cX10 cy adY Y])) args s 0 0 A) (F0 m 212 ls []) := by
    intro x4 x7 x8 x9 L S H locs ls h hP hD hS hl
    delta f_X0_sitDown_b212 at h
    refine lv_iload hx hb dX0_sitDown_212 (lv_at hl 4 rfl) ?_
    refine lv_iconst (v := 3) hx hb dX0_sitDown_214 (by decide) ?_
    refine lv_icmp_lt (tgt := 222) hx hb dX0_sitDown_215 (by decide) (fun c9 => ?_) (fun c9 => ?_)
    · replace h := (br h).1 c9
      refine lv_iload hx hb dX0_sitDown_222 (lv_at hl 3 rfl) ?_
      refine lv_iload hx hb dX0_sitDown_224 (lv_at hl 3 rfl) ?_
      refine lv_iload hx hb dX0_sitDown_226 (lv_at hl 4 rfl) ?_
      refine lv_imul hx hb dX0_sitDown_228 ?_
      refine lv_iconst (v := 4) hx hb dX0_sitDown_229 (by decide) ?_
      refine lv_idiv hx hb dX0_sitDown_230 (by decide) ?_
      refine lv_isub hx hb dX0_sitDown_231 ?_
      exact B232 x4 x7 (x8 - ((x8 * x9) / 4)) L S _ _ _ h hP hD hS (lv_sub hl [0, 1, 2] rfl)
    · replace h := (br h).2 c9
      refine lv_iconst (v := 0) hx hb dX0_sitDown_218 (by decide) ?_
      refine lv_goto (tgt := 232) hx hb dX0_sitDown_219 (by decide) ?_
      exact B232 x4 x7 0 L S _ _ _ h hP hD hS (lv_sub hl [0, 1, 2] rfl)
  have B185 : ∀ (x3 : Int32) (x4 : Int32) (x7 : Int32) (z0 : Int32) (L : VV) (S : VV) (H : Heap) (locs : List Loc) (ls : Array Slot), f_X0_sitDown_b185 N P L S Y x3 x4 x7 z0 = some res → va_P G vwCl (wj [cX6 cy adP (adL 0) P, cX3 cy adL L, cX8 cy adS S, cX10 cy adY Y]) H → va_D A (wj [cX6 cy adP (adL 0) P, cX3 cy adL L, cX8 cy adS S, cX10 cy adY Y]) → va_S A s.heap H locs → lv_has ls 11 [(1, .ref (adS 0)), (3, .int x3), (4, .int x4), (7, .int x7)] → W p l e (rmX 3 84) s m args below meth c H locs 0 0 (MQ below (mQi (res.1) G cy A (wj [cX6 cy adP (adL 0) P, cX3 cy adL res.2.1, cX8 cy adS res.2.2, cX10 cy adY Y])) args s 0 0 A) (F0 m 185 ls [.int z0]) := by
    intro x3 x4 x7 z0 L S H locs ls h hP hD hS hl
    delta f_X0_sitDown_b185 at h
    refine lv_istore (lv' := [(8, .int z0), (1, .ref (adS 0)), (3, .int x3), (4, .int x4), (7, .int x7)]) hx hb dX0_sitDown_185 hl (by decide) rfl (fun ls hl => ?_)
    refine lv_aload_n hx hb dX0_sitDown_187 rfl (lv_at hl 1 rfl) ?_
    refine go_0_148 (ci := 2) hx hb hts hown hK hE hP rfl dX0_sitDown_188 ?_
    refine lv_iload hx hb dX0_sitDown_191 (lv_at hl 3 rfl) ?_
    replace h := gin_inv h
    obtain ⟨h9, h⟩ := h
    refine ldWI (ci := 2) (k0 := 2) (g := S.2.1 3) (j := x4.toNatClampNeg) hx hb hK hP rfl cX8_a3 rfl h9 rfl dX0_sitDown_193 ?_
    refine lv_istore (lv' := [(9, .int (S.2.1 3 x4.toNatClampNeg)), (8, .int z0), (1, .ref (adS 0)), (3, .int x3), (4, .int x4), (7, .int x7)]) hx hb dX0_sitDown_194 hl (by decide) rfl (fun ls hl => ?_)
    refine lv_iload hx hb dX0_sitDown_196 (lv_at hl 1 rfl) ?_
    refine lv_if_le (tgt := 212) hx hb dX0_sitDown_198 (by decide) (fun c9 => ?_) (fun c9 => ?_)
    · replace h := (br h).1 c9
      exact B212 x4 x7 z0 (S.2.1 3 x4.toNatClampNeg) L S _ _ _ h hP hD hS (lv_sub hl [2, 4, 5, 1, 0] rfl)
    · replace h := (br h).2 c9
      refine lv_aload_n hx hb dX0_sitDown_201 rfl (lv_at hl 2 rfl) ?_
      refine go_0_142 (ci := 2) hx hb hts hown hK hE hP rfl dX0_sitDown_202 ?_
      refine lv_iload_n hx hb dX0_sitDown_205 rfl (lv_at hl 3 rfl) ?_
      refine lv_dup2_11 hx hb dX0_sitDown_206 rfl rfl ?_
      replace h := gin_inv h
      obtain ⟨h9, h⟩ := h
      refine ldWI (ci := 2) (k0 := 5) (g := S.2.1 6) (j := x3.toNatClampNeg) hx hb hK hP rfl cX8_a6 rfl h9 rfl dX0_sitDown_207 ?_
      refine lv_iload hx hb dX0_sitDown_208 (lv_at hl 0 rfl) ?_
      refine lv_iadd hx hb dX0_sitDown_210 ?_
      replace h := gin_inv h
      obtain ⟨h9, h⟩ := h
      refine stWI (ci := 2) (k0 := 5) (j := x3.toNatClampNeg) (cs' := [cX6 cy adP (adL 0) P, cX3 cy adL L, cX8 cy adS (sr S 6 x3.toNatClampNeg ((S.2.1 6 x3.toNatClampNeg) + (S.2.1 3 x4.toNatClampNeg))), cX10 cy adY Y]) hx hb hK hP hD hS rfl cX8_a6 h9 rfl cX8_s6 rfl dX0_sitDown_211 (fun H locs hP hD hS => ?_)
      exact B212 x4 x7 z0 (S.2.1 3 x4.toNatClampNeg) L (sr S 6 x3.toNatClampNeg ((S.2.1 6 x3.toNatClampNeg) + (S.2.1 3 x4.toNatClampNeg))) _ _ _ h hP hD hS (lv_sub hl [2, 4, 5, 1, 0] rfl)
  have B162 : ∀ (x3 : Int32) (x4 : Int32) (x6 : Int32) (x7 : Int32) (L : VV) (S : VV) (H : Heap) (locs : List Loc) (ls : Array Slot), f_X0_sitDown_b162 N P L S Y x3 x4 x6 x7 = some res → va_P G vwCl (wj [cX6 cy adP (adL 0) P, cX3 cy adL L, cX8 cy adS S, cX10 cy adY Y]) H → va_D A (wj [cX6 cy adP (adL 0) P, cX3 cy adL L, cX8 cy adS S, cX10 cy adY Y]) → va_S A s.heap H locs → lv_has ls 11 [(0, .ref (adP 0)), (1, .ref (adS 0)), (2, .ref (adY 0)), (3, .int x3), (4, .int x4), (6, .int x6), (7, .int x7)] → W p l e (rmX 3 84) s m args below meth c H locs 0 0 (MQ below (mQi (res.1) G cy A (wj [cX6 cy adP (adL 0) P, cX3 cy adL res.2.1, cX8 cy adS res.2.2, cX10 cy adY Y])) args s 0 0 A) (F0 m 162 ls []) := by
    intro x3 x4 x6 x7 L S H locs ls h hP hD hS hl
    delta f_X0_sitDown_b162 at h
    refine lv_aload_n hx hb dX0_sitDown_162 rfl (lv_at hl 2 rfl) ?_
    refine go_0_145 (ci := 3) (x := Y.1 2) hx hb hts hown hK hE hP rfl rfl dX0_sitDown_163 ?_
    refine lv_if_eq (tgt := 173) hx hb dX0_sitDown_166 (by decide) (fun c9 => ?_) (fun c9 => ?_)
    · replace h := (br h).1 c9
      refine lv_iconst (v := 1) hx hb dX0_sitDown_173 (by decide) ?_
      refine lv_aload_n hx hb dX0_sitDown_174 rfl (lv_at hl 0 rfl) ?_
      refine lv_aload_n hx hb dX0_sitDown_175 rfl (lv_at hl 1 rfl) ?_
      refine lv_aload_n hx hb dX0_sitDown_176 rfl (lv_at hl 2 rfl) ?_
      refine lv_iload_n hx hb dX0_sitDown_177 rfl (lv_at hl 3 rfl) ?_
      refine lv_iload hx hb dX0_sitDown_178 (lv_at hl 4 rfl) ?_
      refine lv_iload hx hb dX0_sitDown_180 (lv_at hl 5 rfl) ?_
      replace h := bd h
      obtain ⟨q16201, h16202, h⟩ := h
      refine callWSi (As := [.int 1, .ref (adP 0), .ref (adS 0), .ref (adY 0), .int x3, .int x4, .int x6]) (rest := []) (cs' := [cX6 cy adP (adL 0) P, cX3 cy adL q16201.2, cX8 cy adS S, cX10 cy adY Y]) (isC := [0, 1, 2, 3]) (isR := []) hx hb hml hown hts (k_X0_manner l G cy ev N adP P adL L adS S adY Y 1 x3 x4 x6 q16201 h16202) wm_34_3 wm_34_4 wm_2_9 wm_34_5 hd_X0_manner ⟨by decide, by decide⟩ hK hP hD hS hA hE rfl rfl rfl (cov_of (n := 4) rfl (by decide)) (by decide) rfl rfl rfl hl.1 (Nat.le_of_ble_eq_true rfl) dX0_sitDown_182 (fun H locs hP hD hS => ?_)
      exact B185 x3 x4 x7 q16201.1 q16201.2 S _ _ _ h hP hD hS (lv_sub hl [1, 3, 4, 6] rfl)
    · replace h := (br h).2 c9
      refine lv_iconst (v := 0) hx hb dX0_sitDown_169 (by decide) ?_
      refine lv_goto (tgt := 185) hx hb dX0_sitDown_170 (by decide) ?_
      exact B185 x3 x4 x7 0 L S _ _ _ h hP hD hS (lv_sub hl [1, 3, 4, 6] rfl)
  delta f_X0_sitDown at h
  refine lv_aload_n hx hb dX0_sitDown_0 rfl (lv_at hl 0 rfl) ?_
  refine lv_iload_n hx hb dX0_sitDown_1 rfl (lv_at hl 3 rfl) ?_
  refine lv_iconst (v := 0) hx hb dX0_sitDown_2 (by decide) ?_
  replace h := bd h
  obtain ⟨q1, h2, h⟩ := h
  refine callWVi (As := [.int a4, .int 0]) (rest := []) (cs' := [cX6 cy adP (adL 0) P, cX3 cy adL L, cX8 cy adS S, cX10 cy adY Y]) (isC := [0]) (isR := [1, 2, 3]) hx hb hml hown hts (k_X6_trait l G cy ev adP (adL 0) P a4 0 q1 h2) wm_29_10 wm_26_16 wm_26_17 wm_1_22 wm_26_18 hd_X6_trait ⟨by decide, by decide⟩ hK hP hD hS hA hE rfl rfl rfl (cov_of (n := 4) rfl (by decide)) (by decide) rfl (recvW (ci := 0) hK hP rfl cX6_o rfl) rfl rfl hl.1 (Nat.le_of_ble_eq_true rfl) dX0_sitDown_3 (fun H locs hP hD hS => ?_)
  refine lv_istore (lv' := [(5, .int q1), (0, .ref (adP 0)), (1, .ref (adS 0)), (2, .ref (adY 0)), (3, .int a4), (4, .int a5)]) hx hb dX0_sitDown_6 hl (by decide) rfl (fun ls hl => ?_)
  refine lv_aload_n hx hb dX0_sitDown_8 rfl (lv_at hl 1 rfl) ?_
  refine lv_iload_n hx hb dX0_sitDown_9 rfl (lv_at hl 4 rfl) ?_
  replace h := bd h
  obtain ⟨q3, h4, h⟩ := h
  refine callWVi (As := [.int a4]) (rest := []) (cs' := [cX6 cy adP (adL 0) P, cX3 cy adL L, cX8 cy adS S, cX10 cy adY Y]) (isC := [0]) (isR := [1, 2, 3]) hx hb hml hown hts (k_X6_hasParty l G cy ev adP (adL 0) P a4 q3 h4) wm_34_2 wm_26_12 wm_26_13 wm_1_22 wm_26_14 hd_X6_hasParty ⟨by decide, by decide⟩ hK hP hD hS hA hE rfl rfl rfl (cov_of (n := 4) rfl (by decide)) (by decide) rfl (recvW (ci := 0) hK hP rfl cX6_o rfl) rfl rfl hl.1 (Nat.le_of_ble_eq_true rfl) dX0_sitDown_10 (fun H locs hP hD hS => ?_)
  refine lv_if_eq (tgt := 49) hx hb dX0_sitDown_13 (by decide) (fun c9 => ?_) (fun c9 => ?_)
  · replace h := (br h).1 c9
    refine lv_iconst (v := 0) hx hb dX0_sitDown_49 (by decide) ?_
    exact retZ (fr := fun q => q.1) (fw := fun q => wj [cX6 cy adP (adL 0) P, cX3 cy adL q.2.1, cX8 cy adS q.2.2, cX10 cy adY Y]) h hx hb hr narZ0 hlocks hK hP hD hS dX0_sitDown_50
  · replace h := (br h).2 c9
    refine lv_aload_n hx hb dX0_sitDown_16 rfl (lv_at hl 1 rfl) ?_
    refine lv_iload hx hb dX0_sitDown_17 (lv_at hl 5 rfl) ?_
    replace h := bd h
    obtain ⟨q5, h6, h⟩ := h
    refine callWVi (As := [.int a5]) (rest := []) (cs' := [cX6 cy adP (adL 0) P, cX3 cy adL L, cX8 cy adS S, cX10 cy adY Y]) (isC := [0]) (isR := [1, 2, 3]) hx hb hml hown hts (k_X6_hasSitting l G cy ev adP (adL 0) P a5 q5 h6) wm_29_9 wm_27_20 wm_27_21 wm_1_22 wm_27_22 hd_X6_hasSitting ⟨by decide, by decide⟩ hK hP hD hS hA hE rfl rfl rfl (cov_of (n := 4) rfl (by decide)) (by decide) rfl (recvW (ci := 0) hK hP rfl cX6_o rfl) rfl rfl hl.1 (Nat.le_of_ble_eq_true rfl) dX0_sitDown_19 (fun H locs hP hD hS => ?_)
    refine lv_if_eq (tgt := 49) hx hb dX0_sitDown_22 (by decide) (fun c9 => ?_) (fun c9 => ?_)
    · replace h := (br h).1 c9
      refine lv_iconst (v := 0) hx hb dX0_sitDown_49 (by decide) ?_
      exact retZ (fr := fun q => q.1) (fw := fun q => wj [cX6 cy adP (adL 0) P, cX3 cy adL q.2.1, cX8 cy adS q.2.2, cX10 cy adY Y]) h hx hb hr narZ0 hlocks hK hP hD hS dX0_sitDown_50
    · replace h := (br h).2 c9
      refine lv_aload_n hx hb dX0_sitDown_25 rfl (lv_at hl 1 rfl) ?_
      refine go_0_104 (ci := 0) hx hb hts hown hK hE hP rfl dX0_sitDown_26 ?_
      refine lv_iconst (v := 0) hx hb dX0_sitDown_29 (by decide) ?_
      refine ldWI (ci := 0) (k0 := 5) (g := P.2.1 6) (j := 0) hx hb hK hP rfl cX6_a6 rfl (vin_dec (by decide)) (by decide) dX0_sitDown_30 ?_
      refine lv_aload_n hx hb dX0_sitDown_31 rfl (lv_at hl 3 rfl) ?_
      refine go_0_127 (ci := 3) (x := Y.1 5) hx hb hts hown hK hE hP rfl rfl dX0_sitDown_32 ?_
      refine lv_iadd hx hb dX0_sitDown_35 ?_
      refine lv_aload_n hx hb dX0_sitDown_36 rfl (lv_at hl 2 rfl) ?_
      refine go_0_71 (ci := 2) hx hb hts hown hK hE hP rfl dX0_sitDown_37 ?_
      refine lv_iload hx hb dX0_sitDown_40 (lv_at hl 5 rfl) ?_
      replace h := gin_inv h
      obtain ⟨h9, h⟩ := h
      refine ldWI (ci := 2) (k0 := 10) (g := S.2.1 15) (j := a5.toNatClampNeg) hx hb hK hP rfl cX8_a15 rfl h9 rfl dX0_sitDown_42 ?_
      refine lv_isub hx hb dX0_sitDown_43 ?_
      refine lv_iload hx hb dX0_sitDown_44 (lv_at hl 0 rfl) ?_
      refine lv_icmp_ge (tgt := 51) hx hb dX0_sitDown_46 (by decide) (fun c9 => ?_) (fun c9 => ?_)
      · replace h := (br h).1 c9
        refine lv_aload_n hx hb dX0_sitDown_51 rfl (lv_at hl 2 rfl) ?_
        refine go_0_68 (ci := 2) hx hb hts hown hK hE hP rfl dX0_sitDown_52 ?_
        refine lv_iload hx hb dX0_sitDown_55 (lv_at hl 5 rfl) ?_
        replace h := gin_inv h
        obtain ⟨h9, h⟩ := h
        refine ldWI (ci := 2) (k0 := 9) (g := S.2.1 14) (j := a5.toNatClampNeg) hx hb hK hP rfl cX8_a14 rfl h9 rfl dX0_sitDown_57 ?_
        refine lv_istore (lv' := [(6, .int (S.2.1 14 a5.toNatClampNeg)), (5, .int q1), (0, .ref (adP 0)), (1, .ref (adS 0)), (2, .ref (adY 0)), (3, .int a4), (4, .int a5)]) hx hb dX0_sitDown_58 hl (by decide) rfl (fun ls hl => ?_)
        refine lv_aload_n hx hb dX0_sitDown_60 rfl (lv_at hl 3 rfl) ?_
        refine go_0_60 (ci := 2) hx hb hts hown hK hE hP rfl dX0_sitDown_61 ?_
        refine lv_iload hx hb dX0_sitDown_64 (lv_at hl 6 rfl) ?_
        replace h := gin_inv h
        obtain ⟨h9, h⟩ := h
        refine ldWI (ci := 2) (k0 := 8) (g := S.2.1 13) (j := a5.toNatClampNeg) hx hb hK hP rfl cX8_a13 rfl h9 rfl dX0_sitDown_66 ?_
        refine lv_aload_n hx hb dX0_sitDown_67 rfl (lv_at hl 2 rfl) ?_
        refine go_0_104 (ci := 0) hx hb hts hown hK hE hP rfl dX0_sitDown_68 ?_
        refine lv_iconst (v := 1) hx hb dX0_sitDown_71 (by decide) ?_
        refine ldWI (ci := 0) (k0 := 5) (g := P.2.1 6) (j := 1) hx hb hK hP rfl cX6_a6 rfl (vin_dec (by decide)) (by decide) dX0_sitDown_72 ?_
        refine lv_iadd hx hb dX0_sitDown_73 ?_
        refine lv_istore (lv' := [(7, .int ((S.2.1 13 a5.toNatClampNeg) + (P.2.1 6 1))), (6, .int (S.2.1 14 a5.toNatClampNeg)), (5, .int q1), (0, .ref (adP 0)), (1, .ref (adS 0)), (2, .ref (adY 0)), (3, .int a4), (4, .int a5)]) hx hb dX0_sitDown_74 hl (by decide) rfl (fun ls hl => ?_)
        refine lv_aload_n hx hb dX0_sitDown_76 rfl (lv_at hl 4 rfl) ?_
        refine go_0_71 (ci := 2) hx hb hts hown hK hE hP rfl dX0_sitDown_77 ?_
        refine lv_iload hx hb dX0_sitDown_80 (lv_at hl 7 rfl) ?_
        refine lv_dup2_11 hx hb dX0_sitDown_82 rfl rfl ?_
        replace h := gin_inv h
        obtain ⟨h9, h⟩ := h
        refine ldWI (ci := 2) (k0 := 10) (g := S.2.1 15) (j := a5.toNatClampNeg) hx hb hK hP rfl cX8_a15 rfl h9 rfl dX0_sitDown_83 ?_
        refine lv_iload hx hb dX0_sitDown_84 (lv_at hl 2 rfl) ?_
        refine lv_iadd hx hb dX0_sitDown_86 ?_
        replace h := gin_inv h
        obtain ⟨h9, h⟩ := h
        refine stWI (ci := 2) (k0 := 10) (j := a5.toNatClampNeg) (cs' := [cX6 cy adP (adL 0) P, cX3 cy adL L, cX8 cy adS (sr S 15 a5.toNatClampNeg ((S.2.1 15 a5.toNatClampNeg) + q1)), cX10 cy adY Y]) hx hb hK hP hD hS rfl cX8_a15 h9 rfl cX8_s15 rfl dX0_sitDown_87 (fun H locs hP hD hS => ?_)
        refine lv_aload_n hx hb dX0_sitDown_88 rfl (lv_at hl 4 rfl) ?_
        refine go_0_130 (ci := 2) hx hb hts hown hK hE hP rfl dX0_sitDown_89 ?_
        refine lv_iload_n hx hb dX0_sitDown_92 rfl (lv_at hl 6 rfl) ?_
        refine lv_dup2_11 hx hb dX0_sitDown_93 rfl rfl ?_
        replace h := gin_inv h
        obtain ⟨h9, h⟩ := h
        refine ldWI (ci := 2) (k0 := 4) (g := S.2.1 5) (j := a4.toNatClampNeg) hx hb hK hP rfl cX8_a5 rfl h9 rfl dX0_sitDown_94 ?_
        refine lv_iconst (v := 1) hx hb dX0_sitDown_95 (by decide) ?_
        refine lv_iadd hx hb dX0_sitDown_96 ?_
        replace h := gin_inv h
        obtain ⟨h9, h⟩ := h
        refine stWI (ci := 2) (k0 := 4) (j := a4.toNatClampNeg) (cs' := [cX6 cy adP (adL 0) P, cX3 cy adL L, cX8 cy adS (sr (sr S 15 a5.toNatClampNeg ((S.2.1 15 a5.toNatClampNeg) + q1)) 5 a4.toNatClampNeg ((S.2.1 5 a4.toNatClampNeg) + 1)), cX10 cy adY Y]) hx hb hK hP hD hS rfl cX8_a5 h9 rfl cX8_s5 rfl dX0_sitDown_97 (fun H locs hP hD hS => ?_)
        refine lv_aload_n hx hb dX0_sitDown_98 rfl (lv_at hl 4 rfl) ?_
        refine lv_dup hx hb dX0_sitDown_99 rfl ?_
        refine go_0_133 (ci := 2) (x := S.1 11) hx hb hts hown hK hE hP rfl rfl dX0_sitDown_100 ?_
        refine lv_iload hx hb dX0_sitDown_103 (lv_at hl 2 rfl) ?_
        refine lv_aload_n hx hb dX0_sitDown_105 rfl (lv_at hl 4 rfl) ?_
        refine go_0_136 (ci := 2) hx hb hts hown hK hE hP rfl dX0_sitDown_106 ?_
        refine lv_iload hx hb dX0_sitDown_109 (lv_at hl 7 rfl) ?_
        replace h := gin_inv h
        obtain ⟨h9, h⟩ := h
        refine ldWI (ci := 2) (k0 := 3) (g := S.2.1 4) (j := a5.toNatClampNeg) hx hb hK hP rfl cX8_a4 rfl h9 rfl dX0_sitDown_111 ?_
        refine lv_imul hx hb dX0_sitDown_112 ?_
        refine lv_iadd hx hb dX0_sitDown_113 ?_
        refine po_0_133 (ci := 2) (cs' := [cX6 cy adP (adL 0) P, cX3 cy adL L, cX8 cy adS (si (sr (sr S 15 a5.toNatClampNeg ((S.2.1 15 a5.toNatClampNeg) + q1)) 5 a4.toNatClampNeg ((S.2.1 5 a4.toNatClampNeg) + 1)) 11 ((S.1 11) + (q1 * (S.2.1 4 a5.toNatClampNeg)))), cX10 cy adY Y]) hx hb hts hown hK hE hP hD hS rfl rfl dX0_sitDown_114 (fun H locs hP hD hS => ?_)
        refine lv_aload_n hx hb dX0_sitDown_117 rfl (lv_at hl 4 rfl) ?_
        refine lv_dup hx hb dX0_sitDown_118 rfl ?_
        refine go_0_139 (ci := 2) (x := S.1 9) hx hb hts hown hK hE hP rfl rfl dX0_sitDown_119 ?_
        refine lv_iload hx hb dX0_sitDown_122 (lv_at hl 2 rfl) ?_
        refine lv_iconst (v := 0) hx hb dX0_sitDown_124 (by decide) ?_
        refine lv_aload_n hx hb dX0_sitDown_125 rfl (lv_at hl 3 rfl) ?_
        refine lv_aload_n hx hb dX0_sitDown_126 rfl (lv_at hl 4 rfl) ?_
        refine lv_aload_n hx hb dX0_sitDown_127 rfl (lv_at hl 5 rfl) ?_
        refine lv_iload_n hx hb dX0_sitDown_128 rfl (lv_at hl 6 rfl) ?_
        refine lv_iload hx hb dX0_sitDown_129 (lv_at hl 7 rfl) ?_
        refine lv_iload hx hb dX0_sitDown_131 (lv_at hl 1 rfl) ?_
        replace h := bd h
        obtain ⟨q7, h8, h⟩ := h
        refine callWSi (As := [.int 0, .ref (adP 0), .ref (adS 0), .ref (adY 0), .int a4, .int a5, .int (S.2.1 14 a5.toNatClampNeg)]) (rest := [.int q1, .int (S.1 9), .ref (adS 0)]) (cs' := [cX6 cy adP (adL 0) P, cX3 cy adL q7.2, cX8 cy adS (si (sr (sr S 15 a5.toNatClampNeg ((S.2.1 15 a5.toNatClampNeg) + q1)) 5 a4.toNatClampNeg ((S.2.1 5 a4.toNatClampNeg) + 1)) 11 ((S.1 11) + (q1 * (S.2.1 4 a5.toNatClampNeg)))), cX10 cy adY Y]) (isC := [0, 1, 2, 3]) (isR := []) hx hb hml hown hts (k_X0_manner l G cy ev N adP P adL L adS (si (sr (sr S 15 a5.toNatClampNeg ((S.2.1 15 a5.toNatClampNeg) + q1)) 5 a4.toNatClampNeg ((S.2.1 5 a4.toNatClampNeg) + 1)) 11 ((S.1 11) + (q1 * (S.2.1 4 a5.toNatClampNeg)))) adY Y 0 a4 a5 (S.2.1 14 a5.toNatClampNeg) q7 h8) wm_34_3 wm_34_4 wm_2_9 wm_34_5 hd_X0_manner ⟨by decide, by decide⟩ hK hP hD hS hA hE rfl rfl rfl (cov_of (n := 4) rfl (by decide)) (by decide) rfl rfl rfl hl.1 (Nat.le_of_ble_eq_true rfl) dX0_sitDown_133 (fun H locs hP hD hS => ?_)
        refine lv_imul hx hb dX0_sitDown_136 ?_
        refine lv_iadd hx hb dX0_sitDown_137 ?_
        refine po_0_139 (ci := 2) (cs' := [cX6 cy adP (adL 0) P, cX3 cy adL q7.2, cX8 cy adS (si (si (sr (sr S 15 a5.toNatClampNeg ((S.2.1 15 a5.toNatClampNeg) + q1)) 5 a4.toNatClampNeg ((S.2.1 5 a4.toNatClampNeg) + 1)) 11 ((S.1 11) + (q1 * (S.2.1 4 a5.toNatClampNeg)))) 9 ((S.1 9) + (q1 * q7.1))), cX10 cy adY Y]) hx hb hts hown hK hE hP hD hS rfl rfl dX0_sitDown_138 (fun H locs hP hD hS => ?_)
        refine lv_iload hx hb dX0_sitDown_141 (lv_at hl 0 rfl) ?_
        refine lv_aload_n hx hb dX0_sitDown_143 rfl (lv_at hl 3 rfl) ?_
        refine lv_iload_n hx hb dX0_sitDown_144 rfl (lv_at hl 6 rfl) ?_
        refine lv_iconst (v := 4) hx hb dX0_sitDown_145 (by decide) ?_
        replace h := bd h
        obtain ⟨q9, h10, h⟩ := h
        refine callWVi (As := [.int a4, .int 4]) (rest := [.int ((S.2.1 13 a5.toNatClampNeg) + (P.2.1 6 1))]) (cs' := [cX6 cy adP (adL 0) P, cX3 cy adL q7.2, cX8 cy adS (si (si (sr (sr S 15 a5.toNatClampNeg ((S.2.1 15 a5.toNatClampNeg) + q1)) 5 a4.toNatClampNeg ((S.2.1 5 a4.toNatClampNeg) + 1)) 11 ((S.1 11) + (q1 * (S.2.1 4 a5.toNatClampNeg)))) 9 ((S.1 9) + (q1 * q7.1))), cX10 cy adY Y]) (isC := [0]) (isR := [1, 2, 3]) hx hb hml hown hts (k_X6_trait l G cy ev adP (adL 0) P a4 4 q9 h10) wm_29_10 wm_26_16 wm_26_17 wm_1_22 wm_26_18 hd_X6_trait ⟨by decide, by decide⟩ hK hP hD hS hA hE rfl rfl rfl (cov_of (n := 4) rfl (by decide)) (by decide) rfl (recvW (ci := 0) hK hP rfl cX6_o rfl) rfl rfl hl.1 (Nat.le_of_ble_eq_true rfl) dX0_sitDown_146 (fun H locs hP hD hS => ?_)
        refine lv_icmp_le (tgt := 162) hx hb dX0_sitDown_149 (by decide) (fun c9 => ?_) (fun c9 => ?_)
        · replace h := (br h).1 c9
          exact B162 a4 a5 (S.2.1 14 a5.toNatClampNeg) ((S.2.1 13 a5.toNatClampNeg) + (P.2.1 6 1)) q7.2 (si (si (sr (sr S 15 a5.toNatClampNeg ((S.2.1 15 a5.toNatClampNeg) + q1)) 5 a4.toNatClampNeg ((S.2.1 5 a4.toNatClampNeg) + 1)) 11 ((S.1 11) + (q1 * (S.2.1 4 a5.toNatClampNeg)))) 9 ((S.1 9) + (q1 * q7.1))) _ _ _ h hP hD hS (lv_sub hl [3, 4, 5, 6, 7, 1, 0] rfl)
        · replace h := (br h).2 c9
          refine lv_aload_n hx hb dX0_sitDown_152 rfl (lv_at hl 4 rfl) ?_
          refine go_0_142 (ci := 2) hx hb hts hown hK hE hP rfl dX0_sitDown_153 ?_
          refine lv_iload_n hx hb dX0_sitDown_156 rfl (lv_at hl 6 rfl) ?_
          refine lv_dup2_11 hx hb dX0_sitDown_157 rfl rfl ?_
          replace h := gin_inv h
          obtain ⟨h9, h⟩ := h
          refine ldWI (ci := 2) (k0 := 5) (g := S.2.1 6) (j := a4.toNatClampNeg) hx hb hK hP rfl cX8_a6 rfl h9 rfl dX0_sitDown_158 ?_
          refine lv_iconst (v := 1) hx hb dX0_sitDown_159 (by decide) ?_
          refine lv_iadd hx hb dX0_sitDown_160 ?_
          replace h := gin_inv h
          obtain ⟨h9, h⟩ := h
          refine stWI (ci := 2) (k0 := 5) (j := a4.toNatClampNeg) (cs' := [cX6 cy adP (adL 0) P, cX3 cy adL q7.2, cX8 cy adS (sr (si (si (sr (sr S 15 a5.toNatClampNeg ((S.2.1 15 a5.toNatClampNeg) + q1)) 5 a4.toNatClampNeg ((S.2.1 5 a4.toNatClampNeg) + 1)) 11 ((S.1 11) + (q1 * (S.2.1 4 a5.toNatClampNeg)))) 9 ((S.1 9) + (q1 * q7.1))) 6 a4.toNatClampNeg ((S.2.1 6 a4.toNatClampNeg) + 1)), cX10 cy adY Y]) hx hb hK hP hD hS rfl cX8_a6 h9 rfl cX8_s6 rfl dX0_sitDown_161 (fun H locs hP hD hS => ?_)
          exact B162 a4 a5 (S.2.1 14 a5.toNatClampNeg) ((S.2.1 13 a5.toNatClampNeg) + (P.2.1 6 1)) q7.2 (sr (si (si (sr (sr S 15 a5.toNatClampNeg ((S.2.1 15 a5.toNatClampNeg) + q1)) 5 a4.toNatClampNeg ((S.2.1 5 a4.toNatClampNeg) + 1)) 11 ((S.1 11) + (q1 * (S.2.1 4 a5.toNatClampNeg)))) 9 ((S.1 9) + (q1 * q7.1))) 6 a4.toNatClampNeg ((S.2.1 6 a4.toNatClampNeg) + 1)) _ _ _ h hP hD hS (lv_sub hl [3, 4, 5, 6, 7, 1, 0] rfl)
      · replace h := (br h).2 c9
        refine lv_iconst (v := 0) hx hb dX0_sitDown_49 (by decide) ?_
        exact retZ (fr := fun q => q.1) (fw := fun q => wj [cX6 cy adP (adL 0) P, cX3 cy adL q.2.1, cX8 cy adS q.2.2, cX10 cy adY Y]) h hx hb hr narZ0 hlocks hK hP hD hS dX0_sitDown_50
theorem hds_X0_laying : yX0_laying.cls ≠ "java/lang/invoke/MethodHandle" ∧ yX0_laying.cls ≠ "java/lang/invoke/VarHandle" ∧ (parseMethodDescriptor yX0_laying.desc).map (fun d => d.parameters.length) = some 2 := ⟨by decide +kernel, by decide +kernel, by decide +kernel⟩
theorem hd_X0_laying : yX0_laying.cls = RX0 ∧ yX0_laying.cls ≠ "java/lang/invoke/MethodHandle" ∧ yX0_laying.cls ≠ "java/lang/invoke/VarHandle" ∧ (parseMethodDescriptor yX0_laying.desc).map (fun d => d.parameters.length) = some 2 := ⟨rfl, hds_X0_laying⟩
def f_X0_laying_b20 (P : VV) (Y : VV) (z0 : Int32) : Option (Int32) :=
  gnz (jmax z0 1) (some ((((P.2.1 6 2) + (jmax z0 1)) - 1) / (jmax z0 1)))
def f_X0_laying (P : VV) (Y : VV) : Option (Int32) :=
  if Y.1 6 ≤ 0 then f_X0_laying_b20 P Y (P.2.1 6 3) else f_X0_laying_b20 P Y (Y.1 6)
set_option maxHeartbeats 4000000 in
set_option maxRecDepth 100000 in
theorem k_X0_laying (l : Launch) (G : va_G) (cy : Nat → ClassId) (ev : Nat → Nat) (adP : Nat → Nat) (rL : Nat) (P : VV) (adY : Nat → Nat) (Y : VV)  (res : Int32) (h : f_X0_laying P Y = some res) : MetI l yX0_laying cX0_laying 3 (some .int) 1 24 G cy ev [.ref (adP 0), .ref (adY 0)] (wj [cX6 cy adP rL P, cX10 cy adY Y]) res (wj [cX6 cy adP rL P, cX10 cy adY Y]) := by
  refine MetQ.start (by decide +kernel) (Nat.le_of_ble_eq_true rfl) (fun p e s m args below meth c A ls hx hb hr hml hown hts hlocks hK hP hD hA hl hE => ?_)
  have hS : va_S A s.heap s.heap [] := va_S.rf
  have hown : s.vm.findClass RX0 = some m.cls := hown
  have hl : lv_has ls 3 [(0, .ref (adP 0)), (1, .ref (adY 0))] := hl
  have B20 : ∀ (z0 : Int32) (H : Heap) (locs : List Loc) (ls : Array Slot), f_X0_laying_b20 P Y z0 = some res → va_P G vwCl (wj [cX6 cy adP rL P, cX10 cy adY Y]) H → va_D A (wj [cX6 cy adP rL P, cX10 cy adY Y]) → va_S A s.heap H locs → lv_has ls 3 [(0, .ref (adP 0))] → W p l e (rmX 1 24) s m args below meth c H locs 0 0 (MQ below (mQi (res) G cy A (wj [cX6 cy adP rL P, cX10 cy adY Y])) args s 0 0 A) (F0 m 20 ls [.int z0]) := by
    intro z0 H locs ls h hP hD hS hl
    delta f_X0_laying_b20 at h
    refine lv_iconst (v := 1) hx hb dX0_laying_20 (by decide) ?_
    refine mmax hx hb (by rw [hml]; exact hl.1.symm) hown (hts _ wm_33_22) hts (by decide) (Nat.le_of_ble_eq_true rfl) dX0_laying_21 ?_
    refine lv_istore_n (lv' := [(2, .int (jmax z0 1)), (0, .ref (adP 0))]) hx hb dX0_laying_24 rfl hl (by decide) rfl (fun ls hl => ?_)
    refine lv_aload_n hx hb dX0_laying_25 rfl (lv_at hl 1 rfl) ?_
    refine go_0_104 (ci := 0) hx hb hts hown hK hE hP rfl dX0_laying_26 ?_
    refine lv_iconst (v := 2) hx hb dX0_laying_29 (by decide) ?_
    refine ldWI (ci := 0) (k0 := 5) (g := P.2.1 6) (j := 2) hx hb hK hP rfl cX6_a6 rfl (vin_dec (by decide)) (by decide) dX0_laying_30 ?_
    refine lv_iload_n hx hb dX0_laying_31 rfl (lv_at hl 0 rfl) ?_
    refine lv_iadd hx hb dX0_laying_32 ?_
    refine lv_iconst (v := 1) hx hb dX0_laying_33 (by decide) ?_
    refine lv_isub hx hb dX0_laying_34 ?_
    refine lv_iload_n hx hb dX0_laying_35 rfl (lv_at hl 0 rfl) ?_
    replace h := gnz_inv h
    obtain ⟨h9, h⟩ := h
    refine lv_idiv hx hb dX0_laying_36 h9 ?_
    exact retI (fr := fun q => q) (fw := fun _ => wj [cX6 cy adP rL P, cX10 cy adY Y]) h hx hb hr hlocks hK hP hD hS dX0_laying_37
  delta f_X0_laying at h
  refine lv_aload_n hx hb dX0_laying_0 rfl (lv_at hl 1 rfl) ?_
  refine go_0_101 (ci := 1) (x := Y.1 6) hx hb hts hown hK hE hP rfl rfl dX0_laying_1 ?_
  refine lv_if_le (tgt := 14) hx hb dX0_laying_4 (by decide) (fun c9 => ?_) (fun c9 => ?_)
  · replace h := (br h).1 c9
    refine lv_aload_n hx hb dX0_laying_14 rfl (lv_at hl 0 rfl) ?_
    refine go_0_104 (ci := 0) hx hb hts hown hK hE hP rfl dX0_laying_15 ?_
    refine lv_iconst (v := 3) hx hb dX0_laying_18 (by decide) ?_
    refine ldWI (ci := 0) (k0 := 5) (g := P.2.1 6) (j := 3) hx hb hK hP rfl cX6_a6 rfl (vin_dec (by decide)) (by decide) dX0_laying_19 ?_
    exact B20 (P.2.1 6 3) _ _ _ h hP hD hS (lv_sub hl [0] rfl)
  · replace h := (br h).2 c9
    refine lv_aload_n hx hb dX0_laying_7 rfl (lv_at hl 1 rfl) ?_
    refine go_0_101 (ci := 1) (x := Y.1 6) hx hb hts hown hK hE hP rfl rfl dX0_laying_8 ?_
    refine lv_goto (tgt := 20) hx hb dX0_laying_11 (by decide) ?_
    exact B20 (Y.1 6) _ _ _ h hP hD hS (lv_sub hl [0] rfl)
theorem hds_X0_standing : yX0_standing.cls ≠ "java/lang/invoke/MethodHandle" ∧ yX0_standing.cls ≠ "java/lang/invoke/VarHandle" ∧ (parseMethodDescriptor yX0_standing.desc).map (fun d => d.parameters.length) = some 1 := ⟨by decide +kernel, by decide +kernel, by decide +kernel⟩
theorem hd_X0_standing : yX0_standing.cls = RX0 ∧ yX0_standing.cls ≠ "java/lang/invoke/MethodHandle" ∧ yX0_standing.cls ≠ "java/lang/invoke/VarHandle" ∧ (parseMethodDescriptor yX0_standing.desc).map (fun d => d.parameters.length) = some 1 := ⟨rfl, hds_X0_standing⟩
def f_X0_standing_b30 (N : Nat) (C : VV) (P : VV) (x2 : Int32) (x3 : Int32) : Option (((Int32 × Int32) ⊕ (Int32))) :=
  some (.inl (x2, x3 + 1))
def f_X0_standing_s4 (N : Nat) (C : VV) (P : VV) (x2 : Int32) (x3 : Int32) : Option (((Int32 × Int32) ⊕ (Int32))) :=
  if P.1 0 ≤ x3 then inrO (some x2) else gin x3 8 (if C.2.1 0 x3.toNatClampNeg = 0 then f_X0_standing_b30 N C P x2 x3 else bnd (f_X6_trait P x3 0) (fun q401 => f_X0_standing_b30 N C P (x2 + q401) x3))
def f_X0_standing (N : Nat) (C : VV) (P : VV) : Option (Int32) :=
  itr (fun q : Int32 × Int32 => f_X0_standing_s4 N C P q.1 q.2) N (0, 0)
set_option maxHeartbeats 4000000 in
set_option maxRecDepth 100000 in
theorem k_X0_standing (l : Launch) (G : va_G) (cy : Nat → ClassId) (ev : Nat → Nat) (N : Nat) (adC : Nat → Nat) (C : VV) (adP : Nat → Nat) (rL : Nat) (P : VV)  (res : Int32) (h : f_X0_standing N C P = some res) : MetI l yX0_standing cX0_standing 4 (some .int) 1 22 G cy ev [.ref (adC 0), .ref (adP 0)] (wj [cX0 cy adC C, cX6 cy adP rL P]) res (wj [cX0 cy adC C, cX6 cy adP rL P]) := by
  refine MetQ.start (by decide +kernel) (Nat.le_of_ble_eq_true rfl) (fun p e s m args below meth c A ls hx hb hr hml hown hts hlocks hK hP hD hA hl hE => ?_)
  have hS : va_S A s.heap s.heap [] := va_S.rf
  have hown : s.vm.findClass RX0 = some m.cls := hown
  have hl : lv_has ls 4 [(0, .ref (adC 0)), (1, .ref (adP 0))] := hl
  have L4 : ∀ (n : Nat) (x2 : Int32) (x3 : Int32) (H : Heap) (locs : List Loc) (ls : Array Slot), itr (fun q : Int32 × Int32 => f_X0_standing_s4 N C P q.1 q.2) n (x2, x3) = some res → va_P G vwCl (wj [cX0 cy adC C, cX6 cy adP rL P]) H → va_D A (wj [cX0 cy adC C, cX6 cy adP rL P]) → va_S A s.heap H locs → lv_has ls 4 [(0, .ref (adC 0)), (1, .ref (adP 0)), (2, .int x2), (3, .int x3)] → W p l e (rmX 1 22) s m args below meth c H locs 0 0 (MQ below (mQi (res) G cy A (wj [cX0 cy adC C, cX6 cy adP rL P])) args s 0 0 A) (F0 m 4 ls []) := by
    intro n
    induction n with
    | zero => intro x2 x3 H locs ls h; exact (itr_zero h).elim
    | succ n ih1 =>
      intro x2 x3 H locs ls h hP hD hS hl
      obtain ⟨y1, h, hy1⟩ := itr_inv h
      have h : f_X0_standing_s4 N C P x2 x3 = some y1 := h
      have B30 : ∀ (x2 : Int32) (x3 : Int32) (H : Heap) (locs : List Loc) (ls : Array Slot), f_X0_standing_b30 N C P x2 x3 = some y1 → va_P G vwCl (wj [cX0 cy adC C, cX6 cy adP rL P]) H → va_D A (wj [cX0 cy adC C, cX6 cy adP rL P]) → va_S A s.heap H locs → lv_has ls 4 [(0, .ref (adC 0)), (1, .ref (adP 0)), (2, .int x2), (3, .int x3)] → W p l e (rmX 1 22) s m args below meth c H locs 0 0 (MQ below (mQi (res) G cy A (wj [cX0 cy adC C, cX6 cy adP rL P])) args s 0 0 A) (F0 m 30 ls []) := by
        intro x2 x3 H locs ls h hP hD hS hl
        delta f_X0_standing_b30 at h
        refine lv_iinc (v := x3 + 1) (lv' := [(3, .int (x3 + 1)), (0, .ref (adC 0)), (1, .ref (adP 0)), (2, .int x2)]) hx hb dX0_standing_30 hl (k := 3) rfl rfl (by decide) rfl (fun ls hl => ?_)
        refine lv_goto (tgt := 4) hx hb dX0_standing_33 (by decide) ?_
        replace h := itr_back h hy1
        exact ih1 x2 (x3 + 1) _ _ _ h hP hD hS (lv_sub hl [1, 2, 3, 0] rfl)
      delta f_X0_standing_s4 at h
      refine lv_iload_n hx hb dX0_standing_4 rfl (lv_at hl 3 rfl) ?_
      refine lv_aload_n hx hb dX0_standing_5 rfl (lv_at hl 1 rfl) ?_
      refine go_0_25 (ci := 1) (x := P.1 0) hx hb hts hown hK hE hP rfl rfl dX0_standing_6 ?_
      refine lv_icmp_ge (tgt := 36) hx hb dX0_standing_9 (by decide) (fun c9 => ?_) (fun c9 => ?_)
      · replace h := (br h).1 c9
        replace h := itr_exit h hy1
        refine lv_iload_n hx hb dX0_standing_36 rfl (lv_at hl 2 rfl) ?_
        exact retI (fr := fun q => q) (fw := fun _ => wj [cX0 cy adC C, cX6 cy adP rL P]) h hx hb hr hlocks hK hP hD hS dX0_standing_37
      · replace h := (br h).2 c9
        refine lv_aload_n hx hb dX0_standing_12 rfl (lv_at hl 0 rfl) ?_
        refine go_0_9 (ci := 0) hx hb hts hown hK hE hP rfl dX0_standing_13 ?_
        refine lv_iload_n hx hb dX0_standing_16 rfl (lv_at hl 3 rfl) ?_
        replace h := gin_inv h
        obtain ⟨h9, h⟩ := h
        refine ldWZ (ci := 0) (k0 := 1) (g := C.2.1 0) (j := x3.toNatClampNeg) hx hb hK hP rfl cX0_a0 rfl h9 rfl dX0_standing_17 ?_
        refine lv_if_eq (tgt := 30) hx hb dX0_standing_18 (by decide) (fun c9 => ?_) (fun c9 => ?_)
        · replace h := (br h).1 c9
          exact B30 x2 x3 _ _ _ h hP hD hS (lv_sub hl [0, 1, 2, 3] rfl)
        · replace h := (br h).2 c9
          refine lv_iload_n hx hb dX0_standing_21 rfl (lv_at hl 2 rfl) ?_
          refine lv_aload_n hx hb dX0_standing_22 rfl (lv_at hl 1 rfl) ?_
          refine lv_iload_n hx hb dX0_standing_23 rfl (lv_at hl 3 rfl) ?_
          refine lv_iconst (v := 0) hx hb dX0_standing_24 (by decide) ?_
          replace h := bd h
          obtain ⟨q401, h402, h⟩ := h
          refine callWVi (As := [.int x3, .int 0]) (rest := [.int x2]) (cs' := [cX0 cy adC C, cX6 cy adP rL P]) (isC := [1]) (isR := [0]) hx hb hml hown hts (k_X6_trait l G cy ev adP rL P x3 0 q401 h402) wm_29_10 wm_26_16 wm_26_17 wm_1_22 wm_26_18 hd_X6_trait ⟨by decide, by decide⟩ hK hP hD hS hA hE rfl rfl rfl (cov_of (n := 2) rfl (by decide)) (by decide) rfl (recvW (ci := 1) hK hP rfl cX6_o rfl) rfl rfl hl.1 (Nat.le_of_ble_eq_true rfl) dX0_standing_25 (fun H locs hP hD hS => ?_)
          refine lv_iadd hx hb dX0_standing_28 ?_
          refine lv_istore_n (lv' := [(2, .int (x2 + q401)), (0, .ref (adC 0)), (1, .ref (adP 0)), (3, .int x3)]) hx hb dX0_standing_29 rfl hl (by decide) rfl (fun ls hl => ?_)
          exact B30 (x2 + q401) x3 _ _ _ h hP hD hS (lv_sub hl [1, 2, 0, 3] rfl)
  delta f_X0_standing at h
  refine lv_iconst (v := 0) hx hb dX0_standing_0 (by decide) ?_
  refine lv_istore_n (lv' := [(2, .int 0), (0, .ref (adC 0)), (1, .ref (adP 0))]) hx hb dX0_standing_1 rfl hl (by decide) rfl (fun ls hl => ?_)
  refine lv_iconst (v := 0) hx hb dX0_standing_2 (by decide) ?_
  refine lv_istore_n (lv' := [(3, .int 0), (2, .int 0), (0, .ref (adC 0)), (1, .ref (adP 0))]) hx hb dX0_standing_3 rfl hl (by decide) rfl (fun ls hl => ?_)
  exact L4  N 0 0 _ _ _ h hP hD hS (lv_sub hl [2, 3, 1, 0] rfl)
theorem hds_X0_serve : yX0_serve.cls ≠ "java/lang/invoke/MethodHandle" ∧ yX0_serve.cls ≠ "java/lang/invoke/VarHandle" ∧ (parseMethodDescriptor yX0_serve.desc).map (fun d => d.parameters.length) = some 5 := ⟨by decide +kernel, by decide +kernel, by decide +kernel⟩
theorem hd_X0_serve : yX0_serve.cls = RX0 ∧ yX0_serve.cls ≠ "java/lang/invoke/MethodHandle" ∧ yX0_serve.cls ≠ "java/lang/invoke/VarHandle" ∧ (parseMethodDescriptor yX0_serve.desc).map (fun d => d.parameters.length) = some 5 := ⟨rfl, hds_X0_serve⟩
def f_X0_serve_b255 (N : Nat) (C : VV) (P : VV) (L : VV) (S : VV) (Y : VV) (z0 : Int32) (z1 : Int32) : Option (Int32 × VV × VV × VV) :=
  some (z1 + z0, C, L, S)
def f_X0_serve_b211 (N : Nat) (C : VV) (P : VV) (L : VV) (S : VV) (Y : VV) (x4 : Int32) (x7 : Int32) : Option (((Int32 × VV × VV × VV) ⊕ (Int32 × VV × VV × VV))) :=
  some (.inl (x7 + 1, C, L, S))
def f_X0_serve_b196 (N : Nat) (C : VV) (P : VV) (L : VV) (S : VV) (Y : VV) (x4 : Int32) (x7 : Int32) (z0 : Int32) (z1 : Int32) : Option (((Int32 × VV × VV × VV) ⊕ (Int32 × VV × VV × VV))) :=
  gbz z0 (gin z1 8 (f_X0_serve_b211 N (sr C 0 z1.toNatClampNeg z0) P L S Y x4 x7))
def f_X0_serve_s138 (N : Nat) (C : VV) (P : VV) (L : VV) (S : VV) (Y : VV) (x4 : Int32) (x7 : Int32) : Option (((Int32 × VV × VV × VV) ⊕ (Int32 × VV × VV × VV))) :=
  if P.1 0 ≤ x7 then inrO (bnd (f_X0_standing N C P) (fun q13801 => gin x4 3 (gin x4 3 (gin x4 3 (if S.2.1 15 x4.toNatClampNeg ≤ 0 then f_X0_serve_b255 N C P L (sr S 16 x4.toNatClampNeg q13801) Y 0 (S.2.1 17 x4.toNatClampNeg) else bnd (f_X0_laying P Y) (fun q13803 => f_X0_serve_b255 N C P L (sr S 16 x4.toNatClampNeg q13801) Y q13803 (S.2.1 17 x4.toNatClampNeg))))))) else gin x7 8 (if S.2.1 2 x7.toNatClampNeg = x4 then bnd (f_X0_comes N P L S Y x7 x4) (fun q13805 => if q13805.1 = 0 then gin x7 8 (gin x7 8 (f_X0_serve_b211 N C P q13805.2.1 (sr q13805.2.2 7 x7.toNatClampNeg ((q13805.2.2.2.1 7 x7.toNatClampNeg) + 1)) Y x4 x7)) else bnd (f_X0_sitDown N P q13805.2.1 q13805.2.2 Y x7 x4) (fun q13807 => if q13807.1 = 0 then f_X0_serve_b196 N C P q13807.2.1 q13807.2.2 Y x4 x7 1 x7 else f_X0_serve_b196 N C P q13807.2.1 q13807.2.2 Y x4 x7 0 x7)) else f_X0_serve_b211 N C P L S Y x4 x7)
def f_X0_serve_b129 (N : Nat) (C : VV) (P : VV) (L : VV) (S : VV) (Y : VV) (x4 : Int32) (x7 : Int32) : Option (((Int32 × VV × VV × VV) ⊕ (Int32 × VV × VV × VV))) :=
  some (.inl (x7 + 1, C, L, S))
def f_X0_serve_b128 (N : Nat) (C : VV) (P : VV) (L : VV) (S : VV) (Y : VV) (x4 : Int32) (x7 : Int32) (z0 : Int32) (z1 : Int32) : Option (((Int32 × VV × VV × VV) ⊕ (Int32 × VV × VV × VV))) :=
  gbz z0 (gin z1 8 (f_X0_serve_b129 N (sr C 0 z1.toNatClampNeg z0) P L S Y x4 x7))
def f_X0_serve_s85 (N : Nat) (C : VV) (P : VV) (L : VV) (S : VV) (Y : VV) (x4 : Int32) (x7 : Int32) : Option (((Int32 × VV × VV × VV) ⊕ (Int32 × VV × VV × VV))) :=
  if P.1 0 ≤ x7 then inrO (itr (fun q : Int32 × VV × VV × VV => f_X0_serve_s138 N q.2.1 P q.2.2.1 q.2.2.2 Y x4 q.1) N (0, C, L, S)) else gin x7 8 (if C.2.1 0 x7.toNatClampNeg = 0 then f_X0_serve_b129 N C P L S Y x4 x7 else bnd (f_X0_sitDown N P L S Y x7 x4) (fun q8501 => if q8501.1 = 0 then f_X0_serve_b128 N C P q8501.2.1 q8501.2.2 Y x4 x7 1 x7 else f_X0_serve_b128 N C P q8501.2.1 q8501.2.2 Y x4 x7 0 x7))
def f_X0_serve (N : Nat) (C : VV) (P : VV) (L : VV) (S : VV) (Y : VV) (a4 : Int32) (a5 : Int32) : Option (Int32 × VV × VV × VV) :=
  bnd (f_X6_hasSitting P a4) (fun q1 => if q1 = 0 then some (a5, C, L, S) else gin a4 3 (gin a4 3 (gin a4 3 (gin a4 3 (gin a4 3 (gin a4 3 (gin a4 3 (gin a4 3 (itr (fun q : Int32 × VV × VV × VV => f_X0_serve_s85 N q.2.1 P q.2.2.1 q.2.2.2 Y a4 q.1) N (0, C, L, sr (sr (sr (sr S 13 a4.toNatClampNeg (jmax ((P.2.1 4 a4.toNatClampNeg) + (Y.2.1 7 a4.toNatClampNeg)) a5)) 14 a4.toNatClampNeg (((upd (S.2.1 13) a4.toNatClampNeg (jmax ((P.2.1 4 a4.toNatClampNeg) + (Y.2.1 7 a4.toNatClampNeg)) a5)) a4.toNatClampNeg) - ((P.2.1 4 a4.toNatClampNeg) + (Y.2.1 7 a4.toNatClampNeg)))) 15 a4.toNatClampNeg 0) 17 a4.toNatClampNeg ((upd (S.2.1 13) a4.toNatClampNeg (jmax ((P.2.1 4 a4.toNatClampNeg) + (Y.2.1 7 a4.toNatClampNeg)) a5)) a4.toNatClampNeg)))))))))))
set_option maxHeartbeats 4000000 in
set_option maxRecDepth 100000 in
theorem k_X0_serve (l : Launch) (G : va_G) (cy : Nat → ClassId) (ev : Nat → Nat) (N : Nat) (adC : Nat → Nat) (C : VV) (adP : Nat → Nat) (P : VV) (adL : Nat → Nat) (L : VV) (adS : Nat → Nat) (S : VV) (adY : Nat → Nat) (Y : VV) (a4 : Int32) (a5 : Int32) (res : Int32 × VV × VV × VV) (h : f_X0_serve N C P L S Y a4 a5 = some res) : MetI l yX0_serve cX0_serve 8 (some .int) 4 114 G cy ev [.ref (adC 0), .ref (adP 0), .ref (adS 0), .ref (adY 0), .int a4, .int a5] (wj [cX0 cy adC C, cX6 cy adP (adL 0) P, cX3 cy adL L, cX8 cy adS S, cX10 cy adY Y]) res.1 (wj [cX0 cy adC res.2.1, cX6 cy adP (adL 0) P, cX3 cy adL res.2.2.1, cX8 cy adS res.2.2.2, cX10 cy adY Y]) := by
  refine MetQ.start (by decide +kernel) (Nat.le_of_ble_eq_true rfl) (fun p e s m args below meth c A ls hx hb hr hml hown hts hlocks hK hP hD hA hl hE => ?_)
  have hS : va_S A s.heap s.heap [] := va_S.rf
  have hown : s.vm.findClass RX0 = some m.cls := hown
  have hl : lv_has ls 8 [(0, .ref (adC 0)), (1, .ref (adP 0)), (2, .ref (adS 0)), (3, .ref (adY 0)), (4, .int a4), (5, .int a5)] := hl
  have B255 : ∀ (z0 : Int32) (z1 : Int32) (C : VV) (L : VV) (S : VV) (H : Heap) (locs : List Loc) (ls : Array Slot), f_X0_serve_b255 N C P L S Y z0 z1 = some res → va_P G vwCl (wj [cX0 cy adC C, cX6 cy adP (adL 0) P, cX3 cy adL L, cX8 cy adS S, cX10 cy adY Y]) H → va_D A (wj [cX0 cy adC C, cX6 cy adP (adL 0) P, cX3 cy adL L, cX8 cy adS S, cX10 cy adY Y]) → va_S A s.heap H locs → lv_has ls 8 [] → W p l e (rmX 4 114) s m args below meth c H locs 0 0 (MQ below (mQi (res.1) G cy A (wj [cX0 cy adC res.2.1, cX6 cy adP (adL 0) P, cX3 cy adL res.2.2.1, cX8 cy adS res.2.2.2, cX10 cy adY Y])) args s 0 0 A) (F0 m 255 ls [.int z0, .int z1]) := by
    intro z0 z1 C L S H locs ls h hP hD hS hl
    delta f_X0_serve_b255 at h
    refine lv_iadd hx hb dX0_serve_255 ?_
    exact retI (fr := fun q => q.1) (fw := fun q => wj [cX0 cy adC q.2.1, cX6 cy adP (adL 0) P, cX3 cy adL q.2.2.1, cX8 cy adS q.2.2.2, cX10 cy adY Y]) h hx hb hr hlocks hK hP hD hS dX0_serve_256
  have L138 : ∀ (x4 : Int32) (n : Nat) (x7 : Int32) (C : VV) (L : VV) (S : VV) (H : Heap) (locs : List Loc) (ls : Array Slot), itr (fun q : Int32 × VV × VV × VV => f_X0_serve_s138 N q.2.1 P q.2.2.1 q.2.2.2 Y x4 q.1) n (x7, C, L, S) = some res → va_P G vwCl (wj [cX0 cy adC C, cX6 cy adP (adL 0) P, cX3 cy adL L, cX8 cy adS S, cX10 cy adY Y]) H → va_D A (wj [cX0 cy adC C, cX6 cy adP (adL 0) P, cX3 cy adL L, cX8 cy adS S, cX10 cy adY Y]) → va_S A s.heap H locs → lv_has ls 8 [(0, .ref (adC 0)), (1, .ref (adP 0)), (2, .ref (adS 0)), (3, .ref (adY 0)), (4, .int x4), (7, .int x7)] → W p l e (rmX 4 114) s m args below meth c H locs 0 0 (MQ below (mQi (res.1) G cy A (wj [cX0 cy adC res.2.1, cX6 cy adP (adL 0) P, cX3 cy adL res.2.2.1, cX8 cy adS res.2.2.2, cX10 cy adY Y])) args s 0 0 A) (F0 m 138 ls []) := by
    intro x4 n
    induction n with
    | zero => intro x7 C L S H locs ls h; exact (itr_zero h).elim
    | succ n ih1 =>
      intro x7 C L S H locs ls h hP hD hS hl
      obtain ⟨y1, h, hy1⟩ := itr_inv h
      have h : f_X0_serve_s138 N C P L S Y x4 x7 = some y1 := h
      have B211 : ∀ (x7 : Int32) (C : VV) (L : VV) (S : VV) (H : Heap) (locs : List Loc) (ls : Array Slot), f_X0_serve_b211 N C P L S Y x4 x7 = some y1 → va_P G vwCl (wj [cX0 cy adC C, cX6 cy adP (adL 0) P, cX3 cy adL L, cX8 cy adS S, cX10 cy adY Y]) H → va_D A (wj [cX0 cy adC C, cX6 cy adP (adL 0) P, cX3 cy adL L, cX8 cy adS S, cX10 cy adY Y]) → va_S A s.heap H locs → lv_has ls 8 [(0, .ref (adC 0)), (1, .ref (adP 0)), (2, .ref (adS 0)), (3, .ref (adY 0)), (4, .int x4), (7, .int x7)] → W p l e (rmX 4 114) s m args below meth c H locs 0 0 (MQ below (mQi (res.1) G cy A (wj [cX0 cy adC res.2.1, cX6 cy adP (adL 0) P, cX3 cy adL res.2.2.1, cX8 cy adS res.2.2.2, cX10 cy adY Y])) args s 0 0 A) (F0 m 211 ls []) := by
        intro x7 C L S H locs ls h hP hD hS hl
        delta f_X0_serve_b211 at h
        refine lv_iinc (v := x7 + 1) (lv' := [(7, .int (x7 + 1)), (0, .ref (adC 0)), (1, .ref (adP 0)), (2, .ref (adS 0)), (3, .ref (adY 0)), (4, .int x4)]) hx hb dX0_serve_211 hl (k := 5) rfl rfl (by decide) rfl (fun ls hl => ?_)
        refine lv_goto (tgt := 138) hx hb dX0_serve_214 (by decide) ?_
        replace h := itr_back h hy1
        exact ih1 (x7 + 1) C L S _ _ _ h hP hD hS (lv_sub hl [1, 2, 3, 4, 5, 0] rfl)
      have B196 : ∀ (x7 : Int32) (z0 : Int32) (z1 : Int32) (C : VV) (L : VV) (S : VV) (H : Heap) (locs : List Loc) (ls : Array Slot), f_X0_serve_b196 N C P L S Y x4 x7 z0 z1 = some y1 → va_P G vwCl (wj [cX0 cy adC C, cX6 cy adP (adL 0) P, cX3 cy adL L, cX8 cy adS S, cX10 cy adY Y]) H → va_D A (wj [cX0 cy adC C, cX6 cy adP (adL 0) P, cX3 cy adL L, cX8 cy adS S, cX10 cy adY Y]) → va_S A s.heap H locs → lv_has ls 8 [(0, .ref (adC 0)), (1, .ref (adP 0)), (2, .ref (adS 0)), (3, .ref (adY 0)), (4, .int x4), (7, .int x7)] → W p l e (rmX 4 114) s m args below meth c H locs 0 0 (MQ below (mQi (res.1) G cy A (wj [cX0 cy adC res.2.1, cX6 cy adP (adL 0) P, cX3 cy adL res.2.2.1, cX8 cy adS res.2.2.2, cX10 cy adY Y])) args s 0 0 A) (F0 m 196 ls [.int z0, .int z1, .ref (adC 1)]) := by
        intro x7 z0 z1 C L S H locs ls h hP hD hS hl
        delta f_X0_serve_b196 at h
        replace h := gbz_inv h
        obtain ⟨h8, h⟩ := h
        replace h := gin_inv h
        obtain ⟨h9, h⟩ := h
        refine stWZ (ci := 0) (k0 := 1) (j := z1.toNatClampNeg) (cs' := [cX0 cy adC (sr C 0 z1.toNatClampNeg z0), cX6 cy adP (adL 0) P, cX3 cy adL L, cX8 cy adS S, cX10 cy adY Y]) hx hb hK hP hD hS rfl cX0_a0 h9 h8 rfl cX0_s0 rfl dX0_serve_196 (fun H locs hP hD hS => ?_)
        refine lv_goto (tgt := 211) hx hb dX0_serve_197 (by decide) ?_
        exact B211 x7 (sr C 0 z1.toNatClampNeg z0) L S _ _ _ h hP hD hS (lv_sub hl [0, 1, 2, 3, 4, 5] rfl)
      delta f_X0_serve_s138 at h
      refine lv_iload hx hb dX0_serve_138 (lv_at hl 5 rfl) ?_
      refine lv_aload_n hx hb dX0_serve_140 rfl (lv_at hl 1 rfl) ?_
      refine go_0_25 (ci := 1) (x := P.1 0) hx hb hts hown hK hE hP rfl rfl dX0_serve_141 ?_
      refine lv_icmp_ge (tgt := 217) hx hb dX0_serve_144 (by decide) (fun c9 => ?_) (fun c9 => ?_)
      · replace h := (br h).1 c9
        replace h := itr_exit h hy1
        refine lv_aload_n hx hb dX0_serve_217 rfl (lv_at hl 2 rfl) ?_
        refine go_0_90 (ci := 3) hx hb hts hown hK hE hP rfl dX0_serve_218 ?_
        refine lv_iload hx hb dX0_serve_221 (lv_at hl 4 rfl) ?_
        refine lv_aload_n hx hb dX0_serve_223 rfl (lv_at hl 0 rfl) ?_
        refine lv_aload_n hx hb dX0_serve_224 rfl (lv_at hl 1 rfl) ?_
        replace h := bd h
        obtain ⟨q13801, h13802, h⟩ := h
        refine callWVi (As := [.ref (adP 0)]) (rest := [.int x4, .ref (adS 17)]) (cs' := [cX0 cy adC C, cX6 cy adP (adL 0) P, cX3 cy adL L, cX8 cy adS S, cX10 cy adY Y]) (isC := [0, 1]) (isR := [2, 3, 4]) hx hb hml hown hts (k_X0_standing l G cy ev N adC C adP (adL 0) P q13801 h13802) wm_35_1 wm_35_2 wm_35_3 wm_2_9 wm_35_4 hd_X0_standing ⟨by decide, by decide⟩ hK hP hD hS hA hE rfl rfl rfl (cov_of (n := 5) rfl (by decide)) (by decide) rfl (recvW (ci := 0) hK hP rfl cX0_o rfl) rfl rfl hl.1 (Nat.le_of_ble_eq_true rfl) dX0_serve_225 (fun H locs hP hD hS => ?_)
        replace h := gin_inv h
        obtain ⟨h9, h⟩ := h
        refine stWI (ci := 3) (k0 := 11) (j := x4.toNatClampNeg) (cs' := [cX0 cy adC C, cX6 cy adP (adL 0) P, cX3 cy adL L, cX8 cy adS (sr S 16 x4.toNatClampNeg q13801), cX10 cy adY Y]) hx hb hK hP hD hS rfl cX8_a16 h9 rfl cX8_s16 rfl dX0_serve_228 (fun H locs hP hD hS => ?_)
        refine lv_aload_n hx hb dX0_serve_229 rfl (lv_at hl 2 rfl) ?_
        refine go_0_74 (ci := 3) hx hb hts hown hK hE hP rfl dX0_serve_230 ?_
        refine lv_iload hx hb dX0_serve_233 (lv_at hl 4 rfl) ?_
        replace h := gin_inv h
        obtain ⟨h9, h⟩ := h
        refine ldWI (ci := 3) (k0 := 12) (g := S.2.1 17) (j := x4.toNatClampNeg) hx hb hK hP rfl cX8_a17 rfl h9 rfl dX0_serve_235 ?_
        refine lv_aload_n hx hb dX0_serve_236 rfl (lv_at hl 2 rfl) ?_
        refine go_0_71 (ci := 3) hx hb hts hown hK hE hP rfl dX0_serve_237 ?_
        refine lv_iload hx hb dX0_serve_240 (lv_at hl 4 rfl) ?_
        replace h := gin_inv h
        obtain ⟨h9, h⟩ := h
        refine ldWI (ci := 3) (k0 := 10) (g := S.2.1 15) (j := x4.toNatClampNeg) hx hb hK hP rfl cX8_a15 rfl h9 rfl dX0_serve_242 ?_
        refine lv_if_le (tgt := 254) hx hb dX0_serve_243 (by decide) (fun c9 => ?_) (fun c9 => ?_)
        · replace h := (br h).1 c9
          refine lv_iconst (v := 0) hx hb dX0_serve_254 (by decide) ?_
          exact B255 0 (S.2.1 17 x4.toNatClampNeg) C L (sr S 16 x4.toNatClampNeg q13801) _ _ _ h hP hD hS (lv_sub hl [] rfl)
        · replace h := (br h).2 c9
          refine lv_aload_n hx hb dX0_serve_246 rfl (lv_at hl 1 rfl) ?_
          refine lv_aload_n hx hb dX0_serve_247 rfl (lv_at hl 3 rfl) ?_
          replace h := bd h
          obtain ⟨q13803, h13804, h⟩ := h
          refine callWSi (As := [.ref (adP 0), .ref (adY 0)]) (rest := [.int (S.2.1 17 x4.toNatClampNeg)]) (cs' := [cX0 cy adC C, cX6 cy adP (adL 0) P, cX3 cy adL L, cX8 cy adS (sr S 16 x4.toNatClampNeg q13801), cX10 cy adY Y]) (isC := [1, 4]) (isR := [0, 2, 3]) hx hb hml hown hts (k_X0_laying l G cy ev adP (adL 0) P adY Y q13803 h13804) wm_35_5 wm_35_6 wm_2_9 wm_35_7 hd_X0_laying ⟨by decide, by decide⟩ hK hP hD hS hA hE rfl rfl rfl (cov_of (n := 5) rfl (by decide)) (by decide) rfl rfl rfl hl.1 (Nat.le_of_ble_eq_true rfl) dX0_serve_248 (fun H locs hP hD hS => ?_)
          refine lv_goto (tgt := 255) hx hb dX0_serve_251 (by decide) ?_
          exact B255 q13803 (S.2.1 17 x4.toNatClampNeg) C L (sr S 16 x4.toNatClampNeg q13801) _ _ _ h hP hD hS (lv_sub hl [] rfl)
      · replace h := (br h).2 c9
        refine lv_aload_n hx hb dX0_serve_147 rfl (lv_at hl 2 rfl) ?_
        refine go_0_81 (ci := 3) hx hb hts hown hK hE hP rfl dX0_serve_148 ?_
        refine lv_iload hx hb dX0_serve_151 (lv_at hl 5 rfl) ?_
        replace h := gin_inv h
        obtain ⟨h9, h⟩ := h
        refine ldWI (ci := 3) (k0 := 1) (g := S.2.1 2) (j := x7.toNatClampNeg) hx hb hK hP rfl cX8_a2 rfl h9 rfl dX0_serve_153 ?_
        refine lv_iload hx hb dX0_serve_154 (lv_at hl 4 rfl) ?_
        refine lv_icmp_ne (tgt := 211) hx hb dX0_serve_156 (by decide) (fun c9 => ?_) (fun c9 => ?_)
        · replace h := (br h).2 c9
          exact B211 x7 C L S _ _ _ h hP hD hS (lv_sub hl [0, 1, 2, 3, 4, 5] rfl)
        · replace h := (br h).1 c9
          refine lv_aload_n hx hb dX0_serve_159 rfl (lv_at hl 1 rfl) ?_
          refine lv_aload_n hx hb dX0_serve_160 rfl (lv_at hl 2 rfl) ?_
          refine lv_aload_n hx hb dX0_serve_161 rfl (lv_at hl 3 rfl) ?_
          refine lv_iload hx hb dX0_serve_162 (lv_at hl 5 rfl) ?_
          refine lv_iload hx hb dX0_serve_164 (lv_at hl 4 rfl) ?_
          replace h := bd h
          obtain ⟨q13805, h13806, h⟩ := h
          refine callWSi (As := [.ref (adP 0), .ref (adS 0), .ref (adY 0), .int x7, .int x4]) (rest := []) (cs' := [cX0 cy adC C, cX6 cy adP (adL 0) P, cX3 cy adL q13805.2.1, cX8 cy adS q13805.2.2, cX10 cy adY Y]) (isC := [1, 2, 3, 4]) (isR := [0]) hx hb hml hown hts (k_X0_comes l G cy ev N adP P adL L adS S adY Y x7 x4 q13805 h13806) wm_34_15 wm_34_16 wm_2_9 wm_34_17 hd_X0_comes ⟨by decide, by decide⟩ hK hP hD hS hA hE rfl rfl rfl (cov_of (n := 5) rfl (by decide)) (by decide) rfl rfl rfl hl.1 (Nat.le_of_ble_eq_true rfl) dX0_serve_166 (fun H locs hP hD hS => ?_)
          refine lv_if_eq (tgt := 200) hx hb dX0_serve_169 (by decide) (fun c9 => ?_) (fun c9 => ?_)
          · replace h := (br h).1 c9
            refine lv_aload_n hx hb dX0_serve_200 rfl (lv_at hl 2 rfl) ?_
            refine go_0_87 (ci := 3) hx hb hts hown hK hE hP rfl dX0_serve_201 ?_
            refine lv_iload hx hb dX0_serve_204 (lv_at hl 5 rfl) ?_
            refine lv_dup2_11 hx hb dX0_serve_206 rfl rfl ?_
            replace h := gin_inv h
            obtain ⟨h9, h⟩ := h
            refine ldWI (ci := 3) (k0 := 6) (g := q13805.2.2.2.1 7) (j := x7.toNatClampNeg) hx hb hK hP rfl cX8_a7 rfl h9 rfl dX0_serve_207 ?_
            refine lv_iconst (v := 1) hx hb dX0_serve_208 (by decide) ?_
            refine lv_iadd hx hb dX0_serve_209 ?_
            replace h := gin_inv h
            obtain ⟨h9, h⟩ := h
            refine stWI (ci := 3) (k0 := 6) (j := x7.toNatClampNeg) (cs' := [cX0 cy adC C, cX6 cy adP (adL 0) P, cX3 cy adL q13805.2.1, cX8 cy adS (sr q13805.2.2 7 x7.toNatClampNeg ((q13805.2.2.2.1 7 x7.toNatClampNeg) + 1)), cX10 cy adY Y]) hx hb hK hP hD hS rfl cX8_a7 h9 rfl cX8_s7 rfl dX0_serve_210 (fun H locs hP hD hS => ?_)
            exact B211 x7 C q13805.2.1 (sr q13805.2.2 7 x7.toNatClampNeg ((q13805.2.2.2.1 7 x7.toNatClampNeg) + 1)) _ _ _ h hP hD hS (lv_sub hl [0, 1, 2, 3, 4, 5] rfl)
          · replace h := (br h).2 c9
            refine lv_aload_n hx hb dX0_serve_172 rfl (lv_at hl 0 rfl) ?_
            refine go_0_9 (ci := 0) hx hb hts hown hK hE hP rfl dX0_serve_173 ?_
            refine lv_iload hx hb dX0_serve_176 (lv_at hl 5 rfl) ?_
            refine lv_aload_n hx hb dX0_serve_178 rfl (lv_at hl 1 rfl) ?_
            refine lv_aload_n hx hb dX0_serve_179 rfl (lv_at hl 2 rfl) ?_
            refine lv_aload_n hx hb dX0_serve_180 rfl (lv_at hl 3 rfl) ?_
            refine lv_iload hx hb dX0_serve_181 (lv_at hl 5 rfl) ?_
            refine lv_iload hx hb dX0_serve_183 (lv_at hl 4 rfl) ?_
            replace h := bd h
            obtain ⟨q13807, h13808, h⟩ := h
            refine callWSi (As := [.ref (adP 0), .ref (adS 0), .ref (adY 0), .int x7, .int x4]) (rest := [.int x7, .ref (adC 1)]) (cs' := [cX0 cy adC C, cX6 cy adP (adL 0) P, cX3 cy adL q13807.2.1, cX8 cy adS q13807.2.2, cX10 cy adY Y]) (isC := [1, 2, 3, 4]) (isR := [0]) hx hb hml hown hts (k_X0_sitDown l G cy ev N adP P adL q13805.2.1 adS q13805.2.2 adY Y x7 x4 q13807 h13808) wm_33_23 wm_34_0 wm_2_9 wm_34_1 hd_X0_sitDown ⟨by decide, by decide⟩ hK hP hD hS hA hE rfl rfl rfl (cov_of (n := 5) rfl (by decide)) (by decide) rfl rfl rfl hl.1 (Nat.le_of_ble_eq_true rfl) dX0_serve_185 (fun H locs hP hD hS => ?_)
            refine lv_if_ne (tgt := 195) hx hb dX0_serve_188 (by decide) (fun c9 => ?_) (fun c9 => ?_)
            · replace h := (br h).2 c9
              refine lv_iconst (v := 0) hx hb dX0_serve_195 (by decide) ?_
              exact B196 x7 0 x7 C q13807.2.1 q13807.2.2 _ _ _ h hP hD hS (lv_sub hl [0, 1, 2, 3, 4, 5] rfl)
            · replace h := (br h).1 c9
              refine lv_iconst (v := 1) hx hb dX0_serve_191 (by decide) ?_
              refine lv_goto (tgt := 196) hx hb dX0_serve_192 (by decide) ?_
              exact B196 x7 1 x7 C q13807.2.1 q13807.2.2 _ _ _ h hP hD hS (lv_sub hl [0, 1, 2, 3, 4, 5] rfl)
  have L85 : ∀ (x4 : Int32) (n : Nat) (x7 : Int32) (C : VV) (L : VV) (S : VV) (H : Heap) (locs : List Loc) (ls : Array Slot), itr (fun q : Int32 × VV × VV × VV => f_X0_serve_s85 N q.2.1 P q.2.2.1 q.2.2.2 Y x4 q.1) n (x7, C, L, S) = some res → va_P G vwCl (wj [cX0 cy adC C, cX6 cy adP (adL 0) P, cX3 cy adL L, cX8 cy adS S, cX10 cy adY Y]) H → va_D A (wj [cX0 cy adC C, cX6 cy adP (adL 0) P, cX3 cy adL L, cX8 cy adS S, cX10 cy adY Y]) → va_S A s.heap H locs → lv_has ls 8 [(0, .ref (adC 0)), (1, .ref (adP 0)), (2, .ref (adS 0)), (3, .ref (adY 0)), (4, .int x4), (7, .int x7)] → W p l e (rmX 4 114) s m args below meth c H locs 0 0 (MQ below (mQi (res.1) G cy A (wj [cX0 cy adC res.2.1, cX6 cy adP (adL 0) P, cX3 cy adL res.2.2.1, cX8 cy adS res.2.2.2, cX10 cy adY Y])) args s 0 0 A) (F0 m 85 ls []) := by
    intro x4 n
    induction n with
    | zero => intro x7 C L S H locs ls h; exact (itr_zero h).elim
    | succ n ih1 =>
      intro x7 C L S H locs ls h hP hD hS hl
      obtain ⟨y1, h, hy1⟩ := itr_inv h
      have h : f_X0_serve_s85 N C P L S Y x4 x7 = some y1 := h
      have B129 : ∀ (x7 : Int32) (C : VV) (L : VV) (S : VV) (H : Heap) (locs : List Loc) (ls : Array Slot), f_X0_serve_b129 N C P L S Y x4 x7 = some y1 → va_P G vwCl (wj [cX0 cy adC C, cX6 cy adP (adL 0) P, cX3 cy adL L, cX8 cy adS S, cX10 cy adY Y]) H → va_D A (wj [cX0 cy adC C, cX6 cy adP (adL 0) P, cX3 cy adL L, cX8 cy adS S, cX10 cy adY Y]) → va_S A s.heap H locs → lv_has ls 8 [(0, .ref (adC 0)), (1, .ref (adP 0)), (2, .ref (adS 0)), (3, .ref (adY 0)), (4, .int x4), (7, .int x7)] → W p l e (rmX 4 114) s m args below meth c H locs 0 0 (MQ below (mQi (res.1) G cy A (wj [cX0 cy adC res.2.1, cX6 cy adP (adL 0) P, cX3 cy adL res.2.2.1, cX8 cy adS res.2.2.2, cX10 cy adY Y])) args s 0 0 A) (F0 m 129 ls []) := by
        intro x7 C L S H locs ls h hP hD hS hl
        delta f_X0_serve_b129 at h
        refine lv_iinc (v := x7 + 1) (lv' := [(7, .int (x7 + 1)), (0, .ref (adC 0)), (1, .ref (adP 0)), (2, .ref (adS 0)), (3, .ref (adY 0)), (4, .int x4)]) hx hb dX0_serve_129 hl (k := 5) rfl rfl (by decide) rfl (fun ls hl => ?_)
        refine lv_goto (tgt := 85) hx hb dX0_serve_132 (by decide) ?_
        replace h := itr_back h hy1
        exact ih1 (x7 + 1) C L S _ _ _ h hP hD hS (lv_sub hl [1, 2, 3, 4, 5, 0] rfl)
      have B128 : ∀ (x7 : Int32) (z0 : Int32) (z1 : Int32) (C : VV) (L : VV) (S : VV) (H : Heap) (locs : List Loc) (ls : Array Slot), f_X0_serve_b128 N C P L S Y x4 x7 z0 z1 = some y1 → va_P G vwCl (wj [cX0 cy adC C, cX6 cy adP (adL 0) P, cX3 cy adL L, cX8 cy adS S, cX10 cy adY Y]) H → va_D A (wj [cX0 cy adC C, cX6 cy adP (adL 0) P, cX3 cy adL L, cX8 cy adS S, cX10 cy adY Y]) → va_S A s.heap H locs → lv_has ls 8 [(0, .ref (adC 0)), (1, .ref (adP 0)), (2, .ref (adS 0)), (3, .ref (adY 0)), (4, .int x4), (7, .int x7)] → W p l e (rmX 4 114) s m args below meth c H locs 0 0 (MQ below (mQi (res.1) G cy A (wj [cX0 cy adC res.2.1, cX6 cy adP (adL 0) P, cX3 cy adL res.2.2.1, cX8 cy adS res.2.2.2, cX10 cy adY Y])) args s 0 0 A) (F0 m 128 ls [.int z0, .int z1, .ref (adC 1)]) := by
        intro x7 z0 z1 C L S H locs ls h hP hD hS hl
        delta f_X0_serve_b128 at h
        replace h := gbz_inv h
        obtain ⟨h8, h⟩ := h
        replace h := gin_inv h
        obtain ⟨h9, h⟩ := h
        refine stWZ (ci := 0) (k0 := 1) (j := z1.toNatClampNeg) (cs' := [cX0 cy adC (sr C 0 z1.toNatClampNeg z0), cX6 cy adP (adL 0) P, cX3 cy adL L, cX8 cy adS S, cX10 cy adY Y]) hx hb hK hP hD hS rfl cX0_a0 h9 h8 rfl cX0_s0 rfl dX0_serve_128 (fun H locs hP hD hS => ?_)
        exact B129 x7 (sr C 0 z1.toNatClampNeg z0) L S _ _ _ h hP hD hS (lv_sub hl [0, 1, 2, 3, 4, 5] rfl)
      delta f_X0_serve_s85 at h
      refine lv_iload hx hb dX0_serve_85 (lv_at hl 5 rfl) ?_
      refine lv_aload_n hx hb dX0_serve_87 rfl (lv_at hl 1 rfl) ?_
      refine go_0_25 (ci := 1) (x := P.1 0) hx hb hts hown hK hE hP rfl rfl dX0_serve_88 ?_
      refine lv_icmp_ge (tgt := 135) hx hb dX0_serve_91 (by decide) (fun c9 => ?_) (fun c9 => ?_)
      · replace h := (br h).1 c9
        replace h := itr_exit h hy1
        refine lv_iconst (v := 0) hx hb dX0_serve_135 (by decide) ?_
        refine lv_istore (lv' := [(7, .int 0), (0, .ref (adC 0)), (1, .ref (adP 0)), (2, .ref (adS 0)), (3, .ref (adY 0)), (4, .int x4)]) hx hb dX0_serve_136 hl (by decide) rfl (fun ls hl => ?_)
        exact L138 x4 N 0 C L S _ _ _ h hP hD hS (lv_sub hl [1, 2, 3, 4, 5, 0] rfl)
      · replace h := (br h).2 c9
        refine lv_aload_n hx hb dX0_serve_94 rfl (lv_at hl 0 rfl) ?_
        refine go_0_9 (ci := 0) hx hb hts hown hK hE hP rfl dX0_serve_95 ?_
        refine lv_iload hx hb dX0_serve_98 (lv_at hl 5 rfl) ?_
        replace h := gin_inv h
        obtain ⟨h9, h⟩ := h
        refine ldWZ (ci := 0) (k0 := 1) (g := C.2.1 0) (j := x7.toNatClampNeg) hx hb hK hP rfl cX0_a0 rfl h9 rfl dX0_serve_100 ?_
        refine lv_if_eq (tgt := 129) hx hb dX0_serve_101 (by decide) (fun c9 => ?_) (fun c9 => ?_)
        · replace h := (br h).1 c9
          exact B129 x7 C L S _ _ _ h hP hD hS (lv_sub hl [0, 1, 2, 3, 4, 5] rfl)
        · replace h := (br h).2 c9
          refine lv_aload_n hx hb dX0_serve_104 rfl (lv_at hl 0 rfl) ?_
          refine go_0_9 (ci := 0) hx hb hts hown hK hE hP rfl dX0_serve_105 ?_
          refine lv_iload hx hb dX0_serve_108 (lv_at hl 5 rfl) ?_
          refine lv_aload_n hx hb dX0_serve_110 rfl (lv_at hl 1 rfl) ?_
          refine lv_aload_n hx hb dX0_serve_111 rfl (lv_at hl 2 rfl) ?_
          refine lv_aload_n hx hb dX0_serve_112 rfl (lv_at hl 3 rfl) ?_
          refine lv_iload hx hb dX0_serve_113 (lv_at hl 5 rfl) ?_
          refine lv_iload hx hb dX0_serve_115 (lv_at hl 4 rfl) ?_
          replace h := bd h
          obtain ⟨q8501, h8502, h⟩ := h
          refine callWSi (As := [.ref (adP 0), .ref (adS 0), .ref (adY 0), .int x7, .int x4]) (rest := [.int x7, .ref (adC 1)]) (cs' := [cX0 cy adC C, cX6 cy adP (adL 0) P, cX3 cy adL q8501.2.1, cX8 cy adS q8501.2.2, cX10 cy adY Y]) (isC := [1, 2, 3, 4]) (isR := [0]) hx hb hml hown hts (k_X0_sitDown l G cy ev N adP P adL L adS S adY Y x7 x4 q8501 h8502) wm_33_23 wm_34_0 wm_2_9 wm_34_1 hd_X0_sitDown ⟨by decide, by decide⟩ hK hP hD hS hA hE rfl rfl rfl (cov_of (n := 5) rfl (by decide)) (by decide) rfl rfl rfl hl.1 (Nat.le_of_ble_eq_true rfl) dX0_serve_117 (fun H locs hP hD hS => ?_)
          refine lv_if_ne (tgt := 127) hx hb dX0_serve_120 (by decide) (fun c9 => ?_) (fun c9 => ?_)
          · replace h := (br h).2 c9
            refine lv_iconst (v := 0) hx hb dX0_serve_127 (by decide) ?_
            exact B128 x7 0 x7 C q8501.2.1 q8501.2.2 _ _ _ h hP hD hS (lv_sub hl [0, 1, 2, 3, 4, 5] rfl)
          · replace h := (br h).1 c9
            refine lv_iconst (v := 1) hx hb dX0_serve_123 (by decide) ?_
            refine lv_goto (tgt := 128) hx hb dX0_serve_124 (by decide) ?_
            exact B128 x7 1 x7 C q8501.2.1 q8501.2.2 _ _ _ h hP hD hS (lv_sub hl [0, 1, 2, 3, 4, 5] rfl)
  delta f_X0_serve at h
  refine lv_aload_n hx hb dX0_serve_0 rfl (lv_at hl 1 rfl) ?_
  refine lv_iload hx hb dX0_serve_1 (lv_at hl 4 rfl) ?_
  replace h := bd h
  obtain ⟨q1, h2, h⟩ := h
  refine callWVi (As := [.int a4]) (rest := []) (cs' := [cX0 cy adC C, cX6 cy adP (adL 0) P, cX3 cy adL L, cX8 cy adS S, cX10 cy adY Y]) (isC := [1]) (isR := [0, 2, 3, 4]) hx hb hml hown hts (k_X6_hasSitting l G cy ev adP (adL 0) P a4 q1 h2) wm_29_9 wm_27_20 wm_27_21 wm_1_22 wm_27_22 hd_X6_hasSitting ⟨by decide, by decide⟩ hK hP hD hS hA hE rfl rfl rfl (cov_of (n := 5) rfl (by decide)) (by decide) rfl (recvW (ci := 1) hK hP rfl cX6_o rfl) rfl rfl hl.1 (Nat.le_of_ble_eq_true rfl) dX0_serve_3 (fun H locs hP hD hS => ?_)
  refine lv_if_ne (tgt := 12) hx hb dX0_serve_6 (by decide) (fun c9 => ?_) (fun c9 => ?_)
  · replace h := (br h).2 c9
    refine lv_aload_n hx hb dX0_serve_12 rfl (lv_at hl 1 rfl) ?_
    refine go_0_52 (ci := 1) hx hb hts hown hK hE hP rfl dX0_serve_13 ?_
    refine lv_iload hx hb dX0_serve_16 (lv_at hl 4 rfl) ?_
    replace h := gin_inv h
    obtain ⟨h9, h⟩ := h
    refine ldWI (ci := 1) (k0 := 3) (g := P.2.1 4) (j := a4.toNatClampNeg) hx hb hK hP rfl cX6_a4 rfl h9 rfl dX0_serve_18 ?_
    refine lv_aload_n hx hb dX0_serve_19 rfl (lv_at hl 3 rfl) ?_
    refine go_0_55 (ci := 4) hx hb hts hown hK hE hP rfl dX0_serve_20 ?_
    refine lv_iload hx hb dX0_serve_23 (lv_at hl 4 rfl) ?_
    replace h := gin_inv h
    obtain ⟨h9, h⟩ := h
    refine ldWI (ci := 4) (k0 := 1) (g := Y.2.1 7) (j := a4.toNatClampNeg) hx hb hK hP rfl cX10_a7 rfl h9 rfl dX0_serve_25 ?_
    refine lv_iadd hx hb dX0_serve_26 ?_
    refine lv_istore (lv' := [(6, .int ((P.2.1 4 a4.toNatClampNeg) + (Y.2.1 7 a4.toNatClampNeg))), (0, .ref (adC 0)), (1, .ref (adP 0)), (2, .ref (adS 0)), (3, .ref (adY 0)), (4, .int a4), (5, .int a5)]) hx hb dX0_serve_27 hl (by decide) rfl (fun ls hl => ?_)
    refine lv_aload_n hx hb dX0_serve_29 rfl (lv_at hl 3 rfl) ?_
    refine go_0_60 (ci := 3) hx hb hts hown hK hE hP rfl dX0_serve_30 ?_
    refine lv_iload hx hb dX0_serve_33 (lv_at hl 5 rfl) ?_
    refine lv_iload hx hb dX0_serve_35 (lv_at hl 0 rfl) ?_
    refine lv_iload hx hb dX0_serve_37 (lv_at hl 6 rfl) ?_
    refine mmax hx hb (by rw [hml]; exact hl.1.symm) hown (hts _ wm_33_22) hts (by decide) (Nat.le_of_ble_eq_true rfl) dX0_serve_39 ?_
    replace h := gin_inv h
    obtain ⟨h9, h⟩ := h
    refine stWI (ci := 3) (k0 := 8) (j := a4.toNatClampNeg) (cs' := [cX0 cy adC C, cX6 cy adP (adL 0) P, cX3 cy adL L, cX8 cy adS (sr S 13 a4.toNatClampNeg (jmax ((P.2.1 4 a4.toNatClampNeg) + (Y.2.1 7 a4.toNatClampNeg)) a5)), cX10 cy adY Y]) hx hb hK hP hD hS rfl cX8_a13 h9 rfl cX8_s13 rfl dX0_serve_42 (fun H locs hP hD hS => ?_)
    refine lv_aload_n hx hb dX0_serve_43 rfl (lv_at hl 3 rfl) ?_
    refine go_0_68 (ci := 3) hx hb hts hown hK hE hP rfl dX0_serve_44 ?_
    refine lv_iload hx hb dX0_serve_47 (lv_at hl 5 rfl) ?_
    refine lv_aload_n hx hb dX0_serve_49 rfl (lv_at hl 3 rfl) ?_
    refine go_0_60 (ci := 3) hx hb hts hown hK hE hP rfl dX0_serve_50 ?_
    refine lv_iload hx hb dX0_serve_53 (lv_at hl 5 rfl) ?_
    replace h := gin_inv h
    obtain ⟨h9, h⟩ := h
    refine ldWI (ci := 3) (k0 := 8) (g := upd (S.2.1 13) a4.toNatClampNeg (jmax ((P.2.1 4 a4.toNatClampNeg) + (Y.2.1 7 a4.toNatClampNeg)) a5)) (j := a4.toNatClampNeg) hx hb hK hP rfl cX8_a13 rfl h9 rfl dX0_serve_55 ?_
    refine lv_iload hx hb dX0_serve_56 (lv_at hl 0 rfl) ?_
    refine lv_isub hx hb dX0_serve_58 ?_
    replace h := gin_inv h
    obtain ⟨h9, h⟩ := h
    refine stWI (ci := 3) (k0 := 9) (j := a4.toNatClampNeg) (cs' := [cX0 cy adC C, cX6 cy adP (adL 0) P, cX3 cy adL L, cX8 cy adS (sr (sr S 13 a4.toNatClampNeg (jmax ((P.2.1 4 a4.toNatClampNeg) + (Y.2.1 7 a4.toNatClampNeg)) a5)) 14 a4.toNatClampNeg (((upd (S.2.1 13) a4.toNatClampNeg (jmax ((P.2.1 4 a4.toNatClampNeg) + (Y.2.1 7 a4.toNatClampNeg)) a5)) a4.toNatClampNeg) - ((P.2.1 4 a4.toNatClampNeg) + (Y.2.1 7 a4.toNatClampNeg)))), cX10 cy adY Y]) hx hb hK hP hD hS rfl cX8_a14 h9 rfl cX8_s14 rfl dX0_serve_59 (fun H locs hP hD hS => ?_)
    refine lv_aload_n hx hb dX0_serve_60 rfl (lv_at hl 3 rfl) ?_
    refine go_0_71 (ci := 3) hx hb hts hown hK hE hP rfl dX0_serve_61 ?_
    refine lv_iload hx hb dX0_serve_64 (lv_at hl 5 rfl) ?_
    refine lv_iconst (v := 0) hx hb dX0_serve_66 (by decide) ?_
    replace h := gin_inv h
    obtain ⟨h9, h⟩ := h
    refine stWI (ci := 3) (k0 := 10) (j := a4.toNatClampNeg) (cs' := [cX0 cy adC C, cX6 cy adP (adL 0) P, cX3 cy adL L, cX8 cy adS (sr (sr (sr S 13 a4.toNatClampNeg (jmax ((P.2.1 4 a4.toNatClampNeg) + (Y.2.1 7 a4.toNatClampNeg)) a5)) 14 a4.toNatClampNeg (((upd (S.2.1 13) a4.toNatClampNeg (jmax ((P.2.1 4 a4.toNatClampNeg) + (Y.2.1 7 a4.toNatClampNeg)) a5)) a4.toNatClampNeg) - ((P.2.1 4 a4.toNatClampNeg) + (Y.2.1 7 a4.toNatClampNeg)))) 15 a4.toNatClampNeg 0), cX10 cy adY Y]) hx hb hK hP hD hS rfl cX8_a15 h9 rfl cX8_s15 rfl dX0_serve_67 (fun H locs hP hD hS => ?_)
    refine lv_aload_n hx hb dX0_serve_68 rfl (lv_at hl 3 rfl) ?_
    refine go_0_74 (ci := 3) hx hb hts hown hK hE hP rfl dX0_serve_69 ?_
    refine lv_iload hx hb dX0_serve_72 (lv_at hl 5 rfl) ?_
    refine lv_aload_n hx hb dX0_serve_74 rfl (lv_at hl 3 rfl) ?_
    refine go_0_60 (ci := 3) hx hb hts hown hK hE hP rfl dX0_serve_75 ?_
    refine lv_iload hx hb dX0_serve_78 (lv_at hl 5 rfl) ?_
    replace h := gin_inv h
    obtain ⟨h9, h⟩ := h
    refine ldWI (ci := 3) (k0 := 8) (g := upd (S.2.1 13) a4.toNatClampNeg (jmax ((P.2.1 4 a4.toNatClampNeg) + (Y.2.1 7 a4.toNatClampNeg)) a5)) (j := a4.toNatClampNeg) hx hb hK hP rfl cX8_a13 rfl h9 rfl dX0_serve_80 ?_
    replace h := gin_inv h
    obtain ⟨h9, h⟩ := h
    refine stWI (ci := 3) (k0 := 12) (j := a4.toNatClampNeg) (cs' := [cX0 cy adC C, cX6 cy adP (adL 0) P, cX3 cy adL L, cX8 cy adS (sr (sr (sr (sr S 13 a4.toNatClampNeg (jmax ((P.2.1 4 a4.toNatClampNeg) + (Y.2.1 7 a4.toNatClampNeg)) a5)) 14 a4.toNatClampNeg (((upd (S.2.1 13) a4.toNatClampNeg (jmax ((P.2.1 4 a4.toNatClampNeg) + (Y.2.1 7 a4.toNatClampNeg)) a5)) a4.toNatClampNeg) - ((P.2.1 4 a4.toNatClampNeg) + (Y.2.1 7 a4.toNatClampNeg)))) 15 a4.toNatClampNeg 0) 17 a4.toNatClampNeg ((upd (S.2.1 13) a4.toNatClampNeg (jmax ((P.2.1 4 a4.toNatClampNeg) + (Y.2.1 7 a4.toNatClampNeg)) a5)) a4.toNatClampNeg)), cX10 cy adY Y]) hx hb hK hP hD hS rfl cX8_a17 h9 rfl cX8_s17 rfl dX0_serve_81 (fun H locs hP hD hS => ?_)
    refine lv_iconst (v := 0) hx hb dX0_serve_82 (by decide) ?_
    refine lv_istore (lv' := [(7, .int 0), (6, .int ((P.2.1 4 a4.toNatClampNeg) + (Y.2.1 7 a4.toNatClampNeg))), (0, .ref (adC 0)), (1, .ref (adP 0)), (2, .ref (adS 0)), (3, .ref (adY 0)), (4, .int a4), (5, .int a5)]) hx hb dX0_serve_83 hl (by decide) rfl (fun ls hl => ?_)
    exact L85 a4 N 0 C L (sr (sr (sr (sr S 13 a4.toNatClampNeg (jmax ((P.2.1 4 a4.toNatClampNeg) + (Y.2.1 7 a4.toNatClampNeg)) a5)) 14 a4.toNatClampNeg (((upd (S.2.1 13) a4.toNatClampNeg (jmax ((P.2.1 4 a4.toNatClampNeg) + (Y.2.1 7 a4.toNatClampNeg)) a5)) a4.toNatClampNeg) - ((P.2.1 4 a4.toNatClampNeg) + (Y.2.1 7 a4.toNatClampNeg)))) 15 a4.toNatClampNeg 0) 17 a4.toNatClampNeg ((upd (S.2.1 13) a4.toNatClampNeg (jmax ((P.2.1 4 a4.toNatClampNeg) + (Y.2.1 7 a4.toNatClampNeg)) a5)) a4.toNatClampNeg)) _ _ _ h hP hD hS (lv_sub hl [2, 3, 4, 5, 6, 0] rfl)
  · replace h := (br h).1 c9
    refine lv_iload hx hb dX0_serve_9 (lv_at hl 5 rfl) ?_
    exact retI (fr := fun q => q.1) (fw := fun q => wj [cX0 cy adC q.2.1, cX6 cy adP (adL 0) P, cX3 cy adL q.2.2.1, cX8 cy adS q.2.2.2, cX10 cy adY Y]) h hx hb hr hlocks hK hP hD hS dX0_serve_11
theorem hds_X0_goThrough : yX0_goThrough.cls ≠ "java/lang/invoke/MethodHandle" ∧ yX0_goThrough.cls ≠ "java/lang/invoke/VarHandle" ∧ (parseMethodDescriptor yX0_goThrough.desc).map (fun d => d.parameters.length) = some 3 := ⟨by decide +kernel, by decide +kernel, by decide +kernel⟩
theorem hd_X0_goThrough : yX0_goThrough.cls = RX0 ∧ yX0_goThrough.cls ≠ "java/lang/invoke/MethodHandle" ∧ yX0_goThrough.cls ≠ "java/lang/invoke/VarHandle" ∧ (parseMethodDescriptor yX0_goThrough.desc).map (fun d => d.parameters.length) = some 3 := ⟨rfl, hds_X0_goThrough⟩
def f_X0_goThrough_b107 (N : Nat) (C : VV) (P : VV) (L : VV) (S : VV) (Y : VV) (x5 : Int32) : Option (((Int32 × VV × VV × VV) ⊕ (VV × VV × VV))) :=
  some (.inl (x5 + 1, C, L, S))
def f_X0_goThrough_s61 (N : Nat) (C : VV) (P : VV) (L : VV) (S : VV) (Y : VV) (x5 : Int32) : Option (((Int32 × VV × VV × VV) ⊕ (VV × VV × VV))) :=
  if P.1 0 ≤ x5 then inrO (some (C, L, si (si S 0 ((S.1 0) + 1)) 12 1)) else gin x5 8 (if C.2.1 0 x5.toNatClampNeg = 0 then f_X0_goThrough_b107 N C P L S Y x5 else gin x5 8 (gin x5 8 (bnd (f_X6_trait P x5 0) (fun q6101 => f_X0_goThrough_b107 N C P L (si (sr S 8 x5.toNatClampNeg ((S.2.1 8 x5.toNatClampNeg) + 1)) 10 ((S.1 10) + q6101)) Y x5))))
def f_X0_goThrough_s30 (N : Nat) (C : VV) (P : VV) (L : VV) (S : VV) (Y : VV) (x4 : Int32) (x5 : Int32) : Option (((Int32 × Int32 × VV × VV × VV) ⊕ (VV × VV × VV))) :=
  if P.1 3 ≤ x5 then inrO (itr (fun q : Int32 × VV × VV × VV => f_X0_goThrough_s61 N q.2.1 P q.2.2.1 q.2.2.2 Y q.1) N (0, C, L, S)) else bnd (f_X0_serve N C P L S Y x5 x4) (fun q3001 => some (.inl (q3001.1, x5 + 1, q3001.2.1, q3001.2.2.1, q3001.2.2.2)))
def f_X0_goThrough_s3 (N : Nat) (C : VV) (P : VV) (L : VV) (S : VV) (Y : VV) (x4 : Int32) : Option (((Int32 × VV × VV × VV) ⊕ (VV × VV × VV))) :=
  if (8 : Int32) ≤ x4 then inrO (itr (fun q : Int32 × Int32 × VV × VV × VV => f_X0_goThrough_s30 N q.2.2.1 P q.2.2.2.1 q.2.2.2.2 Y q.1 q.2.1) N (0, 0, C, L, S)) else gin x4 8 (some (.inl (x4 + 1, sr C 0 x4.toNatClampNeg 0, L, S)))
def f_X0_goThrough (N : Nat) (C : VV) (P : VV) (L : VV) (S : VV) (Y : VV) : Option (VV × VV × VV) :=
  itr (fun q : Int32 × VV × VV × VV => f_X0_goThrough_s3 N q.2.1 P q.2.2.1 q.2.2.2 Y q.1) N (0, C, L, S)
set_option maxHeartbeats 4000000 in
set_option maxRecDepth 100000 in
theorem k_X0_goThrough (l : Launch) (G : va_G) (cy : Nat → ClassId) (ev : Nat → Nat) (N : Nat) (adC : Nat → Nat) (C : VV) (adP : Nat → Nat) (P : VV) (adL : Nat → Nat) (L : VV) (adS : Nat → Nat) (S : VV) (adY : Nat → Nat) (Y : VV)  (res : VV × VV × VV) (h : f_X0_goThrough N C P L S Y = some res) : MetV l yX0_goThrough cX0_goThrough 6 none 5 141 G cy ev [.ref (adC 0), .ref (adP 0), .ref (adS 0), .ref (adY 0)] (wj [cX0 cy adC C, cX6 cy adP (adL 0) P, cX3 cy adL L, cX8 cy adS S, cX10 cy adY Y]) (wj [cX0 cy adC res.1, cX6 cy adP (adL 0) P, cX3 cy adL res.2.1, cX8 cy adS res.2.2, cX10 cy adY Y]) := by
  refine MetQ.start (by decide +kernel) (Nat.le_of_ble_eq_true rfl) (fun p e s m args below meth c A ls hx hb hr hml hown hts hlocks hK hP hD hA hl hE => ?_)
  have hS : va_S A s.heap s.heap [] := va_S.rf
  have hown : s.vm.findClass RX0 = some m.cls := hown
  have hl : lv_has ls 6 [(0, .ref (adC 0)), (1, .ref (adP 0)), (2, .ref (adS 0)), (3, .ref (adY 0))] := hl
  have L61 : ∀ (n : Nat) (x5 : Int32) (C : VV) (L : VV) (S : VV) (H : Heap) (locs : List Loc) (ls : Array Slot), itr (fun q : Int32 × VV × VV × VV => f_X0_goThrough_s61 N q.2.1 P q.2.2.1 q.2.2.2 Y q.1) n (x5, C, L, S) = some res → va_P G vwCl (wj [cX0 cy adC C, cX6 cy adP (adL 0) P, cX3 cy adL L, cX8 cy adS S, cX10 cy adY Y]) H → va_D A (wj [cX0 cy adC C, cX6 cy adP (adL 0) P, cX3 cy adL L, cX8 cy adS S, cX10 cy adY Y]) → va_S A s.heap H locs → lv_has ls 6 [(0, .ref (adC 0)), (1, .ref (adP 0)), (2, .ref (adS 0)), (5, .int x5)] → W p l e (rmX 5 141) s m args below meth c H locs 0 0 (MQ below (mQv G cy A (wj [cX0 cy adC res.1, cX6 cy adP (adL 0) P, cX3 cy adL res.2.1, cX8 cy adS res.2.2, cX10 cy adY Y])) args s 0 0 A) (F0 m 61 ls []) := by
    intro n
    induction n with
    | zero => intro x5 C L S H locs ls h; exact (itr_zero h).elim
    | succ n ih1 =>
      intro x5 C L S H locs ls h hP hD hS hl
      obtain ⟨y1, h, hy1⟩ := itr_inv h
      have h : f_X0_goThrough_s61 N C P L S Y x5 = some y1 := h
      have B107 : ∀ (x5 : Int32) (C : VV) (L : VV) (S : VV) (H : Heap) (locs : List Loc) (ls : Array Slot), f_X0_goThrough_b107 N C P L S Y x5 = some y1 → va_P G vwCl (wj [cX0 cy adC C, cX6 cy adP (adL 0) P, cX3 cy adL L, cX8 cy adS S, cX10 cy adY Y]) H → va_D A (wj [cX0 cy adC C, cX6 cy adP (adL 0) P, cX3 cy adL L, cX8 cy adS S, cX10 cy adY Y]) → va_S A s.heap H locs → lv_has ls 6 [(0, .ref (adC 0)), (1, .ref (adP 0)), (2, .ref (adS 0)), (5, .int x5)] → W p l e (rmX 5 141) s m args below meth c H locs 0 0 (MQ below (mQv G cy A (wj [cX0 cy adC res.1, cX6 cy adP (adL 0) P, cX3 cy adL res.2.1, cX8 cy adS res.2.2, cX10 cy adY Y])) args s 0 0 A) (F0 m 107 ls []) := by
        intro x5 C L S H locs ls h hP hD hS hl
        delta f_X0_goThrough_b107 at h
        refine lv_iinc (v := x5 + 1) (lv' := [(5, .int (x5 + 1)), (0, .ref (adC 0)), (1, .ref (adP 0)), (2, .ref (adS 0))]) hx hb dX0_goThrough_107 hl (k := 3) rfl rfl (by decide) rfl (fun ls hl => ?_)
        refine lv_goto (tgt := 61) hx hb dX0_goThrough_110 (by decide) ?_
        replace h := itr_back h hy1
        exact ih1 (x5 + 1) C L S _ _ _ h hP hD hS (lv_sub hl [1, 2, 3, 0] rfl)
      delta f_X0_goThrough_s61 at h
      refine lv_iload hx hb dX0_goThrough_61 (lv_at hl 3 rfl) ?_
      refine lv_aload_n hx hb dX0_goThrough_63 rfl (lv_at hl 1 rfl) ?_
      refine go_0_25 (ci := 1) (x := P.1 0) hx hb hts hown hK hE hP rfl rfl dX0_goThrough_64 ?_
      refine lv_icmp_ge (tgt := 113) hx hb dX0_goThrough_67 (by decide) (fun c9 => ?_) (fun c9 => ?_)
      · replace h := (br h).1 c9
        replace h := itr_exit h hy1
        refine lv_aload_n hx hb dX0_goThrough_113 rfl (lv_at hl 2 rfl) ?_
        refine lv_dup hx hb dX0_goThrough_114 rfl ?_
        refine go_0_41 (ci := 3) (x := S.1 0) hx hb hts hown hK hE hP rfl rfl dX0_goThrough_115 ?_
        refine lv_iconst (v := 1) hx hb dX0_goThrough_118 (by decide) ?_
        refine lv_iadd hx hb dX0_goThrough_119 ?_
        refine po_0_41 (ci := 3) (cs' := [cX0 cy adC C, cX6 cy adP (adL 0) P, cX3 cy adL L, cX8 cy adS (si S 0 ((S.1 0) + 1)), cX10 cy adY Y]) hx hb hts hown hK hE hP hD hS rfl rfl dX0_goThrough_120 (fun H locs hP hD hS => ?_)
        refine lv_aload_n hx hb dX0_goThrough_123 rfl (lv_at hl 2 rfl) ?_
        refine lv_iconst (v := 1) hx hb dX0_goThrough_124 (by decide) ?_
        refine po_0_44 (ci := 3) (cs' := [cX0 cy adC C, cX6 cy adP (adL 0) P, cX3 cy adL L, cX8 cy adS (si (si S 0 ((S.1 0) + 1)) 12 1), cX10 cy adY Y]) hx hb hts hown hK hE hP hD hS rfl rfl (by decide) dX0_goThrough_125 (fun H locs hP hD hS => ?_)
        exact retV (fw := fun q => wj [cX0 cy adC q.1, cX6 cy adP (adL 0) P, cX3 cy adL q.2.1, cX8 cy adS q.2.2, cX10 cy adY Y]) h hx hb hr hlocks hK hP hD hS dX0_goThrough_128
      · replace h := (br h).2 c9
        refine lv_aload_n hx hb dX0_goThrough_70 rfl (lv_at hl 0 rfl) ?_
        refine go_0_9 (ci := 0) hx hb hts hown hK hE hP rfl dX0_goThrough_71 ?_
        refine lv_iload hx hb dX0_goThrough_74 (lv_at hl 3 rfl) ?_
        replace h := gin_inv h
        obtain ⟨h9, h⟩ := h
        refine ldWZ (ci := 0) (k0 := 1) (g := C.2.1 0) (j := x5.toNatClampNeg) hx hb hK hP rfl cX0_a0 rfl h9 rfl dX0_goThrough_76 ?_
        refine lv_if_eq (tgt := 107) hx hb dX0_goThrough_77 (by decide) (fun c9 => ?_) (fun c9 => ?_)
        · replace h := (br h).1 c9
          exact B107 x5 C L S _ _ _ h hP hD hS (lv_sub hl [0, 1, 2, 3] rfl)
        · replace h := (br h).2 c9
          refine lv_aload_n hx hb dX0_goThrough_80 rfl (lv_at hl 2 rfl) ?_
          refine go_0_28 (ci := 3) hx hb hts hown hK hE hP rfl dX0_goThrough_81 ?_
          refine lv_iload hx hb dX0_goThrough_84 (lv_at hl 3 rfl) ?_
          refine lv_dup2_11 hx hb dX0_goThrough_86 rfl rfl ?_
          replace h := gin_inv h
          obtain ⟨h9, h⟩ := h
          refine ldWI (ci := 3) (k0 := 7) (g := S.2.1 8) (j := x5.toNatClampNeg) hx hb hK hP rfl cX8_a8 rfl h9 rfl dX0_goThrough_87 ?_
          refine lv_iconst (v := 1) hx hb dX0_goThrough_88 (by decide) ?_
          refine lv_iadd hx hb dX0_goThrough_89 ?_
          replace h := gin_inv h
          obtain ⟨h9, h⟩ := h
          refine stWI (ci := 3) (k0 := 7) (j := x5.toNatClampNeg) (cs' := [cX0 cy adC C, cX6 cy adP (adL 0) P, cX3 cy adL L, cX8 cy adS (sr S 8 x5.toNatClampNeg ((S.2.1 8 x5.toNatClampNeg) + 1)), cX10 cy adY Y]) hx hb hK hP hD hS rfl cX8_a8 h9 rfl cX8_s8 rfl dX0_goThrough_90 (fun H locs hP hD hS => ?_)
          refine lv_aload_n hx hb dX0_goThrough_91 rfl (lv_at hl 2 rfl) ?_
          refine lv_dup hx hb dX0_goThrough_92 rfl ?_
          refine go_0_34 (ci := 3) (x := S.1 10) hx hb hts hown hK hE hP rfl rfl dX0_goThrough_93 ?_
          refine lv_aload_n hx hb dX0_goThrough_96 rfl (lv_at hl 1 rfl) ?_
          refine lv_iload hx hb dX0_goThrough_97 (lv_at hl 3 rfl) ?_
          refine lv_iconst (v := 0) hx hb dX0_goThrough_99 (by decide) ?_
          replace h := bd h
          obtain ⟨q6101, h6102, h⟩ := h
          refine callWVi (As := [.int x5, .int 0]) (rest := [.int (S.1 10), .ref (adS 0)]) (cs' := [cX0 cy adC C, cX6 cy adP (adL 0) P, cX3 cy adL L, cX8 cy adS (sr S 8 x5.toNatClampNeg ((S.2.1 8 x5.toNatClampNeg) + 1)), cX10 cy adY Y]) (isC := [1]) (isR := [0, 2, 3, 4]) hx hb hml hown hts (k_X6_trait l G cy ev adP (adL 0) P x5 0 q6101 h6102) wm_29_10 wm_26_16 wm_26_17 wm_1_22 wm_26_18 hd_X6_trait ⟨by decide, by decide⟩ hK hP hD hS hA hE rfl rfl rfl (cov_of (n := 5) rfl (by decide)) (by decide) rfl (recvW (ci := 1) hK hP rfl cX6_o rfl) rfl rfl hl.1 (Nat.le_of_ble_eq_true rfl) dX0_goThrough_100 (fun H locs hP hD hS => ?_)
          refine lv_iadd hx hb dX0_goThrough_103 ?_
          refine po_0_34 (ci := 3) (cs' := [cX0 cy adC C, cX6 cy adP (adL 0) P, cX3 cy adL L, cX8 cy adS (si (sr S 8 x5.toNatClampNeg ((S.2.1 8 x5.toNatClampNeg) + 1)) 10 ((S.1 10) + q6101)), cX10 cy adY Y]) hx hb hts hown hK hE hP hD hS rfl rfl dX0_goThrough_104 (fun H locs hP hD hS => ?_)
          exact B107 x5 C L (si (sr S 8 x5.toNatClampNeg ((S.2.1 8 x5.toNatClampNeg) + 1)) 10 ((S.1 10) + q6101)) _ _ _ h hP hD hS (lv_sub hl [0, 1, 2, 3] rfl)
  have L30 : ∀ (n : Nat) (x4 : Int32) (x5 : Int32) (C : VV) (L : VV) (S : VV) (H : Heap) (locs : List Loc) (ls : Array Slot), itr (fun q : Int32 × Int32 × VV × VV × VV => f_X0_goThrough_s30 N q.2.2.1 P q.2.2.2.1 q.2.2.2.2 Y q.1 q.2.1) n (x4, x5, C, L, S) = some res → va_P G vwCl (wj [cX0 cy adC C, cX6 cy adP (adL 0) P, cX3 cy adL L, cX8 cy adS S, cX10 cy adY Y]) H → va_D A (wj [cX0 cy adC C, cX6 cy adP (adL 0) P, cX3 cy adL L, cX8 cy adS S, cX10 cy adY Y]) → va_S A s.heap H locs → lv_has ls 6 [(0, .ref (adC 0)), (1, .ref (adP 0)), (2, .ref (adS 0)), (3, .ref (adY 0)), (4, .int x4), (5, .int x5)] → W p l e (rmX 5 141) s m args below meth c H locs 0 0 (MQ below (mQv G cy A (wj [cX0 cy adC res.1, cX6 cy adP (adL 0) P, cX3 cy adL res.2.1, cX8 cy adS res.2.2, cX10 cy adY Y])) args s 0 0 A) (F0 m 30 ls []) := by
    intro n
    induction n with
    | zero => intro x4 x5 C L S H locs ls h; exact (itr_zero h).elim
    | succ n ih1 =>
      intro x4 x5 C L S H locs ls h hP hD hS hl
      obtain ⟨y1, h, hy1⟩ := itr_inv h
      have h : f_X0_goThrough_s30 N C P L S Y x4 x5 = some y1 := h
      delta f_X0_goThrough_s30 at h
      refine lv_iload hx hb dX0_goThrough_30 (lv_at hl 5 rfl) ?_
      refine lv_aload_n hx hb dX0_goThrough_32 rfl (lv_at hl 1 rfl) ?_
      refine go_0_15 (ci := 1) (x := P.1 3) hx hb hts hown hK hE hP rfl rfl dX0_goThrough_33 ?_
      refine lv_icmp_ge (tgt := 58) hx hb dX0_goThrough_36 (by decide) (fun c9 => ?_) (fun c9 => ?_)
      · replace h := (br h).1 c9
        replace h := itr_exit h hy1
        refine lv_iconst (v := 0) hx hb dX0_goThrough_58 (by decide) ?_
        refine lv_istore (lv' := [(5, .int 0), (0, .ref (adC 0)), (1, .ref (adP 0)), (2, .ref (adS 0)), (3, .ref (adY 0)), (4, .int x4)]) hx hb dX0_goThrough_59 hl (by decide) rfl (fun ls hl => ?_)
        exact L61  N 0 C L S _ _ _ h hP hD hS (lv_sub hl [1, 2, 3, 0] rfl)
      · replace h := (br h).2 c9
        refine lv_aload_n hx hb dX0_goThrough_39 rfl (lv_at hl 0 rfl) ?_
        refine lv_aload_n hx hb dX0_goThrough_40 rfl (lv_at hl 1 rfl) ?_
        refine lv_aload_n hx hb dX0_goThrough_41 rfl (lv_at hl 2 rfl) ?_
        refine lv_aload_n hx hb dX0_goThrough_42 rfl (lv_at hl 3 rfl) ?_
        refine lv_iload hx hb dX0_goThrough_43 (lv_at hl 5 rfl) ?_
        refine lv_iload hx hb dX0_goThrough_45 (lv_at hl 4 rfl) ?_
        replace h := bd h
        obtain ⟨q3001, h3002, h⟩ := h
        refine callWVi (As := [.ref (adP 0), .ref (adS 0), .ref (adY 0), .int x5, .int x4]) (rest := []) (cs' := [cX0 cy adC q3001.2.1, cX6 cy adP (adL 0) P, cX3 cy adL q3001.2.2.1, cX8 cy adS q3001.2.2.2, cX10 cy adY Y]) (isC := [0, 1, 2, 3, 4]) (isR := []) hx hb hml hown hts (k_X0_serve l G cy ev N adC C adP P adL L adS S adY Y x5 x4 q3001 h3002) wm_33_18 wm_33_19 wm_33_20 wm_2_9 wm_33_21 hd_X0_serve ⟨by decide, by decide⟩ hK hP hD hS hA hE rfl rfl rfl (cov_of (n := 5) rfl (by decide)) (by decide) rfl (recvW (ci := 0) hK hP rfl cX0_o rfl) rfl rfl hl.1 (Nat.le_of_ble_eq_true rfl) dX0_goThrough_47 (fun H locs hP hD hS => ?_)
        refine lv_istore (lv' := [(4, .int q3001.1), (0, .ref (adC 0)), (1, .ref (adP 0)), (2, .ref (adS 0)), (3, .ref (adY 0)), (5, .int x5)]) hx hb dX0_goThrough_50 hl (by decide) rfl (fun ls hl => ?_)
        refine lv_iinc (v := x5 + 1) (lv' := [(5, .int (x5 + 1)), (4, .int q3001.1), (0, .ref (adC 0)), (1, .ref (adP 0)), (2, .ref (adS 0)), (3, .ref (adY 0))]) hx hb dX0_goThrough_52 hl (k := 5) rfl rfl (by decide) rfl (fun ls hl => ?_)
        refine lv_goto (tgt := 30) hx hb dX0_goThrough_55 (by decide) ?_
        replace h := itr_back h hy1
        exact ih1 q3001.1 (x5 + 1) q3001.2.1 q3001.2.2.1 q3001.2.2.2 _ _ _ h hP hD hS (lv_sub hl [2, 3, 4, 5, 1, 0] rfl)
  have L3 : ∀ (n : Nat) (x4 : Int32) (C : VV) (L : VV) (S : VV) (H : Heap) (locs : List Loc) (ls : Array Slot), itr (fun q : Int32 × VV × VV × VV => f_X0_goThrough_s3 N q.2.1 P q.2.2.1 q.2.2.2 Y q.1) n (x4, C, L, S) = some res → va_P G vwCl (wj [cX0 cy adC C, cX6 cy adP (adL 0) P, cX3 cy adL L, cX8 cy adS S, cX10 cy adY Y]) H → va_D A (wj [cX0 cy adC C, cX6 cy adP (adL 0) P, cX3 cy adL L, cX8 cy adS S, cX10 cy adY Y]) → va_S A s.heap H locs → lv_has ls 6 [(0, .ref (adC 0)), (1, .ref (adP 0)), (2, .ref (adS 0)), (3, .ref (adY 0)), (4, .int x4)] → W p l e (rmX 5 141) s m args below meth c H locs 0 0 (MQ below (mQv G cy A (wj [cX0 cy adC res.1, cX6 cy adP (adL 0) P, cX3 cy adL res.2.1, cX8 cy adS res.2.2, cX10 cy adY Y])) args s 0 0 A) (F0 m 3 ls []) := by
    intro n
    induction n with
    | zero => intro x4 C L S H locs ls h; exact (itr_zero h).elim
    | succ n ih1 =>
      intro x4 C L S H locs ls h hP hD hS hl
      obtain ⟨y1, h, hy1⟩ := itr_inv h
      have h : f_X0_goThrough_s3 N C P L S Y x4 = some y1 := h
      delta f_X0_goThrough_s3 at h
      refine lv_iload hx hb dX0_goThrough_3 (lv_at hl 4 rfl) ?_
      refine lv_bipush (v := 8) hx hb dX0_goThrough_5 (by decide) ?_
      refine lv_icmp_ge (tgt := 24) hx hb dX0_goThrough_7 (by decide) (fun c9 => ?_) (fun c9 => ?_)
      · replace h := (br h).1 c9
        replace h := itr_exit h hy1
        refine lv_iconst (v := 0) hx hb dX0_goThrough_24 (by decide) ?_
        refine lv_istore (lv' := [(4, .int 0), (0, .ref (adC 0)), (1, .ref (adP 0)), (2, .ref (adS 0)), (3, .ref (adY 0))]) hx hb dX0_goThrough_25 hl (by decide) rfl (fun ls hl => ?_)
        refine lv_iconst (v := 0) hx hb dX0_goThrough_27 (by decide) ?_
        refine lv_istore (lv' := [(5, .int 0), (4, .int 0), (0, .ref (adC 0)), (1, .ref (adP 0)), (2, .ref (adS 0)), (3, .ref (adY 0))]) hx hb dX0_goThrough_28 hl (by decide) rfl (fun ls hl => ?_)
        exact L30  N 0 0 C L S _ _ _ h hP hD hS (lv_sub hl [2, 3, 4, 5, 1, 0] rfl)
      · replace h := (br h).2 c9
        refine lv_aload_n hx hb dX0_goThrough_10 rfl (lv_at hl 0 rfl) ?_
        refine go_0_9 (ci := 0) hx hb hts hown hK hE hP rfl dX0_goThrough_11 ?_
        refine lv_iload hx hb dX0_goThrough_14 (lv_at hl 4 rfl) ?_
        refine lv_iconst (v := 0) hx hb dX0_goThrough_16 (by decide) ?_
        replace h := gin_inv h
        obtain ⟨h9, h⟩ := h
        refine stWZ (ci := 0) (k0 := 1) (j := x4.toNatClampNeg) (cs' := [cX0 cy adC (sr C 0 x4.toNatClampNeg 0), cX6 cy adP (adL 0) P, cX3 cy adL L, cX8 cy adS S, cX10 cy adY Y]) hx hb hK hP hD hS rfl cX0_a0 h9 (by decide) rfl cX0_s0 rfl dX0_goThrough_17 (fun H locs hP hD hS => ?_)
        refine lv_iinc (v := x4 + 1) (lv' := [(4, .int (x4 + 1)), (0, .ref (adC 0)), (1, .ref (adP 0)), (2, .ref (adS 0)), (3, .ref (adY 0))]) hx hb dX0_goThrough_18 hl (k := 4) rfl rfl (by decide) rfl (fun ls hl => ?_)
        refine lv_goto (tgt := 3) hx hb dX0_goThrough_21 (by decide) ?_
        replace h := itr_back h hy1
        exact ih1 (x4 + 1) (sr C 0 x4.toNatClampNeg 0) L S _ _ _ h hP hD hS (lv_sub hl [1, 2, 3, 4, 0] rfl)
  delta f_X0_goThrough at h
  refine lv_iconst (v := 0) hx hb dX0_goThrough_0 (by decide) ?_
  refine lv_istore (lv' := [(4, .int 0), (0, .ref (adC 0)), (1, .ref (adP 0)), (2, .ref (adS 0)), (3, .ref (adY 0))]) hx hb dX0_goThrough_1 hl (by decide) rfl (fun ls hl => ?_)
  exact L3  N 0 C L S _ _ _ h hP hD hS (lv_sub hl [1, 2, 3, 4, 0] rfl)
theorem hds_X1_tell : yX1_tell.cls ≠ "java/lang/invoke/MethodHandle" ∧ yX1_tell.cls ≠ "java/lang/invoke/VarHandle" ∧ (parseMethodDescriptor yX1_tell.desc).map (fun d => d.parameters.length) = some 3 := ⟨by decide +kernel, by decide +kernel, by decide +kernel⟩
theorem hd_X1_tell : yX1_tell.cls = RX1 ∧ yX1_tell.cls ≠ "java/lang/invoke/MethodHandle" ∧ yX1_tell.cls ≠ "java/lang/invoke/VarHandle" ∧ (parseMethodDescriptor yX1_tell.desc).map (fun d => d.parameters.length) = some 3 := ⟨rfl, hds_X1_tell⟩
def f_X1_tell_b45 (D : VV) (x1 : Int32) (x2 : Int32) (x3 : Int32) (z0 : Int32) : Option (VV) :=
  gbz z0 (gin x1 8 (gin x2 3 (some (sm (si D 6 z0) x1.toNatClampNeg x2.toNatClampNeg x3))))
def f_X1_tell_b44 (D : VV) (x1 : Int32) (x2 : Int32) (x3 : Int32) : Option (VV) :=
  f_X1_tell_b45 D x1 x2 x3 0
def f_X1_tell (D : VV) (a1 : Int32) (a2 : Int32) (a3 : Int32) : Option (VV) :=
  if a1 < 0 then some D else if (8 : Int32) ≤ a1 then some D else if a2 < 0 then some D else if a2 < 3 then if D.1 6 = 0 then f_X1_tell_b44 D a1 a2 a3 else gin a1 8 (gin a2 3 (if D.2.1 (100 + a1.toNatClampNeg) a2.toNatClampNeg = a3 then f_X1_tell_b45 D a1 a2 a3 1 else f_X1_tell_b44 D a1 a2 a3)) else some D
set_option maxHeartbeats 4000000 in
set_option maxRecDepth 100000 in
theorem k_X1_tell (l : Launch) (G : va_G) (cy : Nat → ClassId) (ev : Nat → Nat) (adD : Nat → Nat) (D : VV) (a1 : Int32) (a2 : Int32) (a3 : Int32) (res : VV) (h : f_X1_tell D a1 a2 a3 = some res) : MetV l yX1_tell cX1_tell 4 none 0 0 G cy ev [.ref (adD 0), .int a1, .int a2, .int a3] (wj [cX1 cy adD D]) (wj [cX1 cy adD res]) := by
  refine MetQ.start (by decide +kernel) (Nat.le_of_ble_eq_true rfl) (fun p e s m args below meth c A ls hx hb hr hml hown hts hlocks hK hP hD hA hl hE => ?_)
  have hS : va_S A s.heap s.heap [] := va_S.rf
  have hown : s.vm.findClass RX1 = some m.cls := hown
  have hl : lv_has ls 4 [(0, .ref (adD 0)), (1, .int a1), (2, .int a2), (3, .int a3)] := hl
  have B45 : ∀ (x1 : Int32) (x2 : Int32) (x3 : Int32) (z0 : Int32) (D : VV) (H : Heap) (locs : List Loc) (ls : Array Slot), f_X1_tell_b45 D x1 x2 x3 z0 = some res → va_P G vwCl (wj [cX1 cy adD D]) H → va_D A (wj [cX1 cy adD D]) → va_S A s.heap H locs → lv_has ls 4 [(0, .ref (adD 0)), (1, .int x1), (2, .int x2), (3, .int x3)] → W p l e (rmX 0 0) s m args below meth c H locs 0 0 (MQ below (mQv G cy A (wj [cX1 cy adD res])) args s 0 0 A) (F0 m 45 ls [.int z0, .ref (adD 0)]) := by
    intro x1 x2 x3 z0 D H locs ls h hP hD hS hl
    delta f_X1_tell_b45 at h
    replace h := gbz_inv h
    obtain ⟨h9, h⟩ := h
    refine po_1_33 (ci := 0) (cs' := [cX1 cy adD (si D 6 z0)]) hx hb hts hown hK hE hP hD hS rfl rfl h9 dX1_tell_45 (fun H locs hP hD hS => ?_)
    refine lv_aload_n hx hb dX1_tell_48 rfl (lv_at hl 0 rfl) ?_
    refine go_1_11 (ci := 0) hx hb hts hown hK hE hP rfl dX1_tell_49 ?_
    refine lv_iload_n hx hb dX1_tell_52 rfl (lv_at hl 1 rfl) ?_
    replace h := gin_inv h
    obtain ⟨h9, h⟩ := h
    have hr4501 := vin_nat h9
    refine aldA (ci := 0) (k0 := 1) (j := x1.toNatClampNeg) hx hb hK hP rfl cX1_a0 h9 rfl dX1_tell_53 ?_
    refine lv_iload_n hx hb dX1_tell_54 rfl (lv_at hl 2 rfl) ?_
    refine lv_iload_n hx hb dX1_tell_55 rfl (lv_at hl 3 rfl) ?_
    replace h := gin_inv h
    obtain ⟨h9, h⟩ := h
    refine stWI (ci := 0) (k0 := 6 + x1.toNatClampNeg) (j := x2.toNatClampNeg) (cs' := [cX1 cy adD (sm (si D 6 z0) x1.toNatClampNeg x2.toNatClampNeg x3)]) hx hb hK hP hD hS rfl (cX1_row hr4501) h9 rfl (cX1_srow hr4501) rfl dX1_tell_56 (fun H locs hP hD hS => ?_)
    exact retV (fw := fun q => wj [cX1 cy adD q]) h hx hb hr hlocks hK hP hD hS dX1_tell_57
  have B44 : ∀ (x1 : Int32) (x2 : Int32) (x3 : Int32) (D : VV) (H : Heap) (locs : List Loc) (ls : Array Slot), f_X1_tell_b44 D x1 x2 x3 = some res → va_P G vwCl (wj [cX1 cy adD D]) H → va_D A (wj [cX1 cy adD D]) → va_S A s.heap H locs → lv_has ls 4 [(0, .ref (adD 0)), (1, .int x1), (2, .int x2), (3, .int x3)] → W p l e (rmX 0 0) s m args below meth c H locs 0 0 (MQ below (mQv G cy A (wj [cX1 cy adD res])) args s 0 0 A) (F0 m 44 ls [.ref (adD 0)]) := by
    intro x1 x2 x3 D H locs ls h hP hD hS hl
    delta f_X1_tell_b44 at h
    refine lv_iconst (v := 0) hx hb dX1_tell_44 (by decide) ?_
    exact B45 x1 x2 x3 0 D _ _ _ h hP hD hS (lv_sub hl [0, 1, 2, 3] rfl)
  delta f_X1_tell at h
  refine lv_iload_n hx hb dX1_tell_0 rfl (lv_at hl 1 rfl) ?_
  refine lv_if_lt (tgt := 19) hx hb dX1_tell_1 (by decide) (fun c9 => ?_) (fun c9 => ?_)
  · replace h := (br h).1 c9
    exact retV (fw := fun q => wj [cX1 cy adD q]) h hx hb hr hlocks hK hP hD hS dX1_tell_19
  · replace h := (br h).2 c9
    refine lv_iload_n hx hb dX1_tell_4 rfl (lv_at hl 1 rfl) ?_
    refine lv_bipush (v := 8) hx hb dX1_tell_5 (by decide) ?_
    refine lv_icmp_ge (tgt := 19) hx hb dX1_tell_7 (by decide) (fun c9 => ?_) (fun c9 => ?_)
    · replace h := (br h).1 c9
      exact retV (fw := fun q => wj [cX1 cy adD q]) h hx hb hr hlocks hK hP hD hS dX1_tell_19
    · replace h := (br h).2 c9
      refine lv_iload_n hx hb dX1_tell_10 rfl (lv_at hl 2 rfl) ?_
      refine lv_if_lt (tgt := 19) hx hb dX1_tell_11 (by decide) (fun c9 => ?_) (fun c9 => ?_)
      · replace h := (br h).1 c9
        exact retV (fw := fun q => wj [cX1 cy adD q]) h hx hb hr hlocks hK hP hD hS dX1_tell_19
      · replace h := (br h).2 c9
        refine lv_iload_n hx hb dX1_tell_14 rfl (lv_at hl 2 rfl) ?_
        refine lv_iconst (v := 3) hx hb dX1_tell_15 (by decide) ?_
        refine lv_icmp_lt (tgt := 20) hx hb dX1_tell_16 (by decide) (fun c9 => ?_) (fun c9 => ?_)
        · replace h := (br h).1 c9
          refine lv_aload_n hx hb dX1_tell_20 rfl (lv_at hl 0 rfl) ?_
          refine lv_aload_n hx hb dX1_tell_21 rfl (lv_at hl 0 rfl) ?_
          refine go_1_33 (ci := 0) (x := D.1 6) hx hb hts hown hK hE hP rfl rfl dX1_tell_22 ?_
          refine lv_if_eq (tgt := 44) hx hb dX1_tell_25 (by decide) (fun c9 => ?_) (fun c9 => ?_)
          · replace h := (br h).1 c9
            exact B44 a1 a2 a3 D _ _ _ h hP hD hS (lv_sub hl [0, 1, 2, 3] rfl)
          · replace h := (br h).2 c9
            refine lv_aload_n hx hb dX1_tell_28 rfl (lv_at hl 0 rfl) ?_
            refine go_1_11 (ci := 0) hx hb hts hown hK hE hP rfl dX1_tell_29 ?_
            refine lv_iload_n hx hb dX1_tell_32 rfl (lv_at hl 1 rfl) ?_
            replace h := gin_inv h
            obtain ⟨h9, h⟩ := h
            have hr1 := vin_nat h9
            refine aldA (ci := 0) (k0 := 1) (j := a1.toNatClampNeg) hx hb hK hP rfl cX1_a0 h9 rfl dX1_tell_33 ?_
            refine lv_iload_n hx hb dX1_tell_34 rfl (lv_at hl 2 rfl) ?_
            replace h := gin_inv h
            obtain ⟨h9, h⟩ := h
            refine ldWI (ci := 0) (k0 := 6 + a1.toNatClampNeg) (g := D.2.1 (100 + a1.toNatClampNeg)) (j := a2.toNatClampNeg) hx hb hK hP rfl (cX1_row hr1) rfl h9 rfl dX1_tell_35 ?_
            refine lv_iload_n hx hb dX1_tell_36 rfl (lv_at hl 3 rfl) ?_
            refine lv_icmp_ne (tgt := 44) hx hb dX1_tell_37 (by decide) (fun c9 => ?_) (fun c9 => ?_)
            · replace h := (br h).2 c9
              exact B44 a1 a2 a3 D _ _ _ h hP hD hS (lv_sub hl [0, 1, 2, 3] rfl)
            · replace h := (br h).1 c9
              refine lv_iconst (v := 1) hx hb dX1_tell_40 (by decide) ?_
              refine lv_goto (tgt := 45) hx hb dX1_tell_41 (by decide) ?_
              exact B45 a1 a2 a3 1 D _ _ _ h hP hD hS (lv_sub hl [0, 1, 2, 3] rfl)
        · replace h := (br h).2 c9
          exact retV (fw := fun q => wj [cX1 cy adD q]) h hx hb hr hlocks hK hP hD hS dX1_tell_19
theorem hds_X1_search : yX1_search.cls ≠ "java/lang/invoke/MethodHandle" ∧ yX1_search.cls ≠ "java/lang/invoke/VarHandle" ∧ (parseMethodDescriptor yX1_search.desc).map (fun d => d.parameters.length) = some 3 := ⟨by decide +kernel, by decide +kernel, by decide +kernel⟩
theorem hd_X1_search : yX1_search.cls = RX1 ∧ yX1_search.cls ≠ "java/lang/invoke/MethodHandle" ∧ yX1_search.cls ≠ "java/lang/invoke/VarHandle" ∧ (parseMethodDescriptor yX1_search.desc).map (fun d => d.parameters.length) = some 3 := ⟨rfl, hds_X1_search⟩
def f_X1_search_b174 (N : Nat) (rc : VV → VV → Int32 → Int32 → Option (VV)) (D : VV) (P : VV) (x2 : Int32) (x3 : Int32) (x4 : Int32) (x5 : Int32) : Option (((Int32 × VV) ⊕ (VV))) :=
  some (.inl (x5 + 1, D))
def f_X1_search_s90 (N : Nat) (rc : VV → VV → Int32 → Int32 → Option (VV)) (D : VV) (P : VV) (x2 : Int32) (x3 : Int32) (x4 : Int32) (x5 : Int32) : Option (((Int32 × VV) ⊕ (VV))) :=
  if P.1 3 ≤ x5 then inrO (some D) else gin x2 8 (gin x5 3 (if D.2.1 (100 + x2.toNatClampNeg) x5.toNatClampNeg < 0 then f_X1_search_b174 N rc D P x2 x3 x4 x5 else gin x5 3 (if D.2.1 1 x5.toNatClampNeg < x4 then f_X1_search_b174 N rc D P x2 x3 x4 x5 else gin x2 8 (gin x5 3 (gin x5 3 (gin x2 8 (gin x5 3 (bnd (rc (sr (sr D 2 x2.toNatClampNeg x5) 1 x5.toNatClampNeg ((D.2.1 1 x5.toNatClampNeg) - x4)) P (x2 + 1) (x3 + ((sr (sr D 2 x2.toNatClampNeg x5) 1 x5.toNatClampNeg ((D.2.1 1 x5.toNatClampNeg) - x4)).2.1 (100 + x2.toNatClampNeg) x5.toNatClampNeg))) (fun q9003 => gin x5 3 (gin x5 3 (f_X1_search_b174 N rc (sr q9003 1 x5.toNatClampNeg ((q9003.2.1 1 x5.toNatClampNeg) + x4)) P x2 x3 x4 x5)))))))))))
def f_X1_search_b14 (N : Nat) (rc : VV → VV → Int32 → Int32 → Option (VV)) (D : VV) (P : VV) (x3 : Int32) : Option (VV) :=
  if x3 ≤ D.1 5 then some D else some (sw (si D 5 x3) 3 (va_cpy (D.2.1 2) (D.2.1 3) 0 0 8))
def f_X1_search_body (N : Nat) (rc : VV → VV → Int32 → Int32 → Option (VV)) (D : VV) (P : VV) (a2 : Int32) (a3 : Int32) : Option (VV) :=
  if P.1 0 ≤ a2 then f_X1_search_b14 N rc D P a3 else if a2 < 8 then if a2 < 0 then some D else gin a2 9 (if D.1 5 < a3 + (D.2.1 4 a2.toNatClampNeg) then bnd (f_X6_trait P a2 0) (fun q1 => gin a2 8 (bnd (rc (sr D 2 a2.toNatClampNeg ((-1))) P (a2 + 1) a3) (fun q3 => itr (fun q : Int32 × VV => f_X1_search_s90 N rc q.2 P a2 a3 q1 q.1) N (0, q3)))) else some D) else f_X1_search_b14 N rc D P a3
def f_X1_search (N : Nat) : Nat → VV → VV → Int32 → Int32 → Option (VV)
  | 0, _, _, _, _ => none
  | d + 1, D, P, a2, a3 => f_X1_search_body N (f_X1_search N d) D P a2 a3
set_option maxHeartbeats 4000000 in
set_option maxRecDepth 100000 in
theorem k_X1_search (l : Launch) (G : va_G) (cy : Nat → ClassId) (ev : Nat → Nat) (N : Nat) : ∀ (d : Nat) (adD : Nat → Nat) (D : VV) (adP : Nat → Nat) (rL : Nat) (P : VV) (a2 : Int32) (a3 : Int32) (res : VV), f_X1_search N d D P a2 a3 = some res → MetV l yX1_search cX1_search 6 none (1 + 1 * d) (60 + 25 * d) G cy ev [.ref (adD 0), .ref (adP 0), .int a2, .int a3] (wj [cX1 cy adD D, cX6 cy adP rL P]) (wj [cX1 cy adD res, cX6 cy adP rL P]) := by
  intro d
  induction d with
  | zero => intro adD D adP rL P a2 a3 res h; exact nomatch h
  | succ d ihd =>
    intro adD D adP rL P a2 a3 res h
    have h : f_X1_search_body N (f_X1_search N d) D P a2 a3 = some res := h
    refine MetQ.start (by decide +kernel) (Nat.le_of_ble_eq_true rfl) (fun p e s m args below meth c A ls hx hb hr hml hown hts hlocks hK hP hD hA hl hE => ?_)
    have hS : va_S A s.heap s.heap [] := va_S.rf
    have hown : s.vm.findClass RX1 = some m.cls := hown
    have hl : lv_has ls 6 [(0, .ref (adD 0)), (1, .ref (adP 0)), (2, .int a2), (3, .int a3)] := hl
    have L90 : ∀ (x2 : Int32) (x3 : Int32) (x4 : Int32) (n : Nat) (x5 : Int32) (D : VV) (H : Heap) (locs : List Loc) (ls : Array Slot), itr (fun q : Int32 × VV => f_X1_search_s90 N (f_X1_search N d) q.2 P x2 x3 x4 q.1) n (x5, D) = some res → va_P G vwCl (wj [cX1 cy adD D, cX6 cy adP rL P]) H → va_D A (wj [cX1 cy adD D, cX6 cy adP rL P]) → va_S A s.heap H locs → lv_has ls 6 [(0, .ref (adD 0)), (1, .ref (adP 0)), (2, .int x2), (3, .int x3), (4, .int x4), (5, .int x5)] → W p l e (rmX (1 + 1 * (d + 1)) (60 + 25 * (d + 1))) s m args below meth c H locs 0 0 (MQ below (mQv G cy A (wj [cX1 cy adD res, cX6 cy adP rL P])) args s 0 0 A) (F0 m 90 ls []) := by
      intro x2 x3 x4 n
      induction n with
      | zero => intro x5 D H locs ls h; exact (itr_zero h).elim
      | succ n ih1 =>
        intro x5 D H locs ls h hP hD hS hl
        obtain ⟨y1, h, hy1⟩ := itr_inv h
        have h : f_X1_search_s90 N (f_X1_search N d) D P x2 x3 x4 x5 = some y1 := h
        have B174 : ∀ (x5 : Int32) (D : VV) (H : Heap) (locs : List Loc) (ls : Array Slot), f_X1_search_b174 N (f_X1_search N d) D P x2 x3 x4 x5 = some y1 → va_P G vwCl (wj [cX1 cy adD D, cX6 cy adP rL P]) H → va_D A (wj [cX1 cy adD D, cX6 cy adP rL P]) → va_S A s.heap H locs → lv_has ls 6 [(0, .ref (adD 0)), (1, .ref (adP 0)), (2, .int x2), (3, .int x3), (4, .int x4), (5, .int x5)] → W p l e (rmX (1 + 1 * (d + 1)) (60 + 25 * (d + 1))) s m args below meth c H locs 0 0 (MQ below (mQv G cy A (wj [cX1 cy adD res, cX6 cy adP rL P])) args s 0 0 A) (F0 m 174 ls []) := by
          intro x5 D H locs ls h hP hD hS hl
          delta f_X1_search_b174 at h
          refine lv_iinc (v := x5 + 1) (lv' := [(5, .int (x5 + 1)), (0, .ref (adD 0)), (1, .ref (adP 0)), (2, .int x2), (3, .int x3), (4, .int x4)]) hx hb dX1_search_174 hl (k := 5) rfl rfl (by decide) rfl (fun ls hl => ?_)
          refine lv_goto (tgt := 90) hx hb dX1_search_177 (by decide) ?_
          replace h := itr_back h hy1
          exact ih1 (x5 + 1) D _ _ _ h hP hD hS (lv_sub hl [1, 2, 3, 4, 5, 0] rfl)
        delta f_X1_search_s90 at h
        refine lv_iload hx hb dX1_search_90 (lv_at hl 5 rfl) ?_
        refine lv_aload_n hx hb dX1_search_92 rfl (lv_at hl 1 rfl) ?_
        refine go_1_42 (ci := 1) (x := P.1 3) hx hb hts hown hK hE hP rfl rfl dX1_search_93 ?_
        refine lv_icmp_ge (tgt := 180) hx hb dX1_search_96 (by decide) (fun c9 => ?_) (fun c9 => ?_)
        · replace h := (br h).1 c9
          replace h := itr_exit h hy1
          exact retV (fw := fun q => wj [cX1 cy adD q, cX6 cy adP rL P]) h hx hb hr hlocks hK hP hD hS dX1_search_180
        · replace h := (br h).2 c9
          refine lv_aload_n hx hb dX1_search_99 rfl (lv_at hl 0 rfl) ?_
          refine go_1_11 (ci := 0) hx hb hts hown hK hE hP rfl dX1_search_100 ?_
          refine lv_iload_n hx hb dX1_search_103 rfl (lv_at hl 2 rfl) ?_
          replace h := gin_inv h
          obtain ⟨h9, h⟩ := h
          have hr9001 := vin_nat h9
          refine aldA (ci := 0) (k0 := 1) (j := x2.toNatClampNeg) hx hb hK hP rfl cX1_a0 h9 rfl dX1_search_104 ?_
          refine lv_iload hx hb dX1_search_105 (lv_at hl 5 rfl) ?_
          replace h := gin_inv h
          obtain ⟨h9, h⟩ := h
          refine ldWI (ci := 0) (k0 := 6 + x2.toNatClampNeg) (g := D.2.1 (100 + x2.toNatClampNeg)) (j := x5.toNatClampNeg) hx hb hK hP rfl (cX1_row hr9001) rfl h9 rfl dX1_search_107 ?_
          refine lv_if_lt (tgt := 174) hx hb dX1_search_108 (by decide) (fun c9 => ?_) (fun c9 => ?_)
          · replace h := (br h).1 c9
            exact B174 x5 D _ _ _ h hP hD hS (lv_sub hl [0, 1, 2, 3, 4, 5] rfl)
          · replace h := (br h).2 c9
            refine lv_aload_n hx hb dX1_search_111 rfl (lv_at hl 0 rfl) ?_
            refine go_1_16 (ci := 0) hx hb hts hown hK hE hP rfl dX1_search_112 ?_
            refine lv_iload hx hb dX1_search_115 (lv_at hl 5 rfl) ?_
            replace h := gin_inv h
            obtain ⟨h9, h⟩ := h
            refine ldWI (ci := 0) (k0 := 2) (g := D.2.1 1) (j := x5.toNatClampNeg) hx hb hK hP rfl cX1_a1 rfl h9 rfl dX1_search_117 ?_
            refine lv_iload hx hb dX1_search_118 (lv_at hl 4 rfl) ?_
            refine lv_icmp_lt (tgt := 174) hx hb dX1_search_120 (by decide) (fun c9 => ?_) (fun c9 => ?_)
            · replace h := (br h).1 c9
              exact B174 x5 D _ _ _ h hP hD hS (lv_sub hl [0, 1, 2, 3, 4, 5] rfl)
            · replace h := (br h).2 c9
              refine lv_aload_n hx hb dX1_search_123 rfl (lv_at hl 0 rfl) ?_
              refine go_1_20 (ci := 0) hx hb hts hown hK hE hP rfl dX1_search_124 ?_
              refine lv_iload_n hx hb dX1_search_127 rfl (lv_at hl 2 rfl) ?_
              refine lv_iload hx hb dX1_search_128 (lv_at hl 5 rfl) ?_
              replace h := gin_inv h
              obtain ⟨h9, h⟩ := h
              refine stWI (ci := 0) (k0 := 3) (j := x2.toNatClampNeg) (cs' := [cX1 cy adD (sr D 2 x2.toNatClampNeg x5), cX6 cy adP rL P]) hx hb hK hP hD hS rfl cX1_a2 h9 rfl cX1_s2 rfl dX1_search_130 (fun H locs hP hD hS => ?_)
              refine lv_aload_n hx hb dX1_search_131 rfl (lv_at hl 0 rfl) ?_
              refine go_1_16 (ci := 0) hx hb hts hown hK hE hP rfl dX1_search_132 ?_
              refine lv_iload hx hb dX1_search_135 (lv_at hl 5 rfl) ?_
              refine lv_dup2_11 hx hb dX1_search_137 rfl rfl ?_
              replace h := gin_inv h
              obtain ⟨h9, h⟩ := h
              refine ldWI (ci := 0) (k0 := 2) (g := D.2.1 1) (j := x5.toNatClampNeg) hx hb hK hP rfl cX1_a1 rfl h9 rfl dX1_search_138 ?_
              refine lv_iload hx hb dX1_search_139 (lv_at hl 4 rfl) ?_
              refine lv_isub hx hb dX1_search_141 ?_
              replace h := gin_inv h
              obtain ⟨h9, h⟩ := h
              refine stWI (ci := 0) (k0 := 2) (j := x5.toNatClampNeg) (cs' := [cX1 cy adD (sr (sr D 2 x2.toNatClampNeg x5) 1 x5.toNatClampNeg ((D.2.1 1 x5.toNatClampNeg) - x4)), cX6 cy adP rL P]) hx hb hK hP hD hS rfl cX1_a1 h9 rfl cX1_s1 rfl dX1_search_142 (fun H locs hP hD hS => ?_)
              refine lv_aload_n hx hb dX1_search_143 rfl (lv_at hl 0 rfl) ?_
              refine lv_aload_n hx hb dX1_search_144 rfl (lv_at hl 1 rfl) ?_
              refine lv_iload_n hx hb dX1_search_145 rfl (lv_at hl 2 rfl) ?_
              refine lv_iconst (v := 1) hx hb dX1_search_146 (by decide) ?_
              refine lv_iadd hx hb dX1_search_147 ?_
              refine lv_iload_n hx hb dX1_search_148 rfl (lv_at hl 3 rfl) ?_
              refine lv_aload_n hx hb dX1_search_149 rfl (lv_at hl 0 rfl) ?_
              refine go_1_11 (ci := 0) hx hb hts hown hK hE hP rfl dX1_search_150 ?_
              refine lv_iload_n hx hb dX1_search_153 rfl (lv_at hl 2 rfl) ?_
              replace h := gin_inv h
              obtain ⟨h9, h⟩ := h
              have hr9002 := vin_nat h9
              refine aldA (ci := 0) (k0 := 1) (j := x2.toNatClampNeg) hx hb hK hP rfl cX1_a0 h9 rfl dX1_search_154 ?_
              refine lv_iload hx hb dX1_search_155 (lv_at hl 5 rfl) ?_
              replace h := gin_inv h
              obtain ⟨h9, h⟩ := h
              refine ldWI (ci := 0) (k0 := 6 + x2.toNatClampNeg) (g := (sr (sr D 2 x2.toNatClampNeg x5) 1 x5.toNatClampNeg ((D.2.1 1 x5.toNatClampNeg) - x4)).2.1 (100 + x2.toNatClampNeg)) (j := x5.toNatClampNeg) hx hb hK hP rfl (cX1_row hr9002) rfl h9 rfl dX1_search_157 ?_
              refine lv_iadd hx hb dX1_search_158 ?_
              replace h := bd h
              obtain ⟨q9003, h9004, h⟩ := h
              refine callWVv (As := [.ref (adP 0), .int (x2 + 1), .int (x3 + ((sr (sr D 2 x2.toNatClampNeg x5) 1 x5.toNatClampNeg ((D.2.1 1 x5.toNatClampNeg) - x4)).2.1 (100 + x2.toNatClampNeg) x5.toNatClampNeg))]) (rest := []) (cs' := [cX1 cy adD q9003, cX6 cy adP rL P]) (isC := [0, 1]) (isR := []) hx hb hml hown hts (ihd adD (sr (sr D 2 x2.toNatClampNeg x5) 1 x5.toNatClampNeg ((D.2.1 1 x5.toNatClampNeg) - x4)) adP rL P (x2 + 1) (x3 + ((sr (sr D 2 x2.toNatClampNeg x5) 1 x5.toNatClampNeg ((D.2.1 1 x5.toNatClampNeg) - x4)).2.1 (100 + x2.toNatClampNeg) x5.toNatClampNeg)) q9003 h9004) wm_38_13 wm_38_14 wm_38_15 wm_3_3 wm_38_16 hd_X1_search ⟨by simp only [rmX]; omega, by simp only [rmX]; omega⟩ hK hP hD hS hA hE rfl rfl rfl (cov_of (n := 2) rfl (by decide)) (by decide) rfl (recvW (ci := 0) hK hP rfl cX1_o rfl) rfl rfl hl.1 (Nat.le_of_ble_eq_true rfl) dX1_search_159 (fun H locs hP hD hS => ?_)
              refine lv_aload_n hx hb dX1_search_162 rfl (lv_at hl 0 rfl) ?_
              refine go_1_16 (ci := 0) hx hb hts hown hK hE hP rfl dX1_search_163 ?_
              refine lv_iload hx hb dX1_search_166 (lv_at hl 5 rfl) ?_
              refine lv_dup2_11 hx hb dX1_search_168 rfl rfl ?_
              replace h := gin_inv h
              obtain ⟨h9, h⟩ := h
              refine ldWI (ci := 0) (k0 := 2) (g := q9003.2.1 1) (j := x5.toNatClampNeg) hx hb hK hP rfl cX1_a1 rfl h9 rfl dX1_search_169 ?_
              refine lv_iload hx hb dX1_search_170 (lv_at hl 4 rfl) ?_
              refine lv_iadd hx hb dX1_search_172 ?_
              replace h := gin_inv h
              obtain ⟨h9, h⟩ := h
              refine stWI (ci := 0) (k0 := 2) (j := x5.toNatClampNeg) (cs' := [cX1 cy adD (sr q9003 1 x5.toNatClampNeg ((q9003.2.1 1 x5.toNatClampNeg) + x4)), cX6 cy adP rL P]) hx hb hK hP hD hS rfl cX1_a1 h9 rfl cX1_s1 rfl dX1_search_173 (fun H locs hP hD hS => ?_)
              exact B174 x5 (sr q9003 1 x5.toNatClampNeg ((q9003.2.1 1 x5.toNatClampNeg) + x4)) _ _ _ h hP hD hS (lv_sub hl [0, 1, 2, 3, 4, 5] rfl)
    have B14 : ∀ (x3 : Int32) (D : VV) (H : Heap) (locs : List Loc) (ls : Array Slot), f_X1_search_b14 N (f_X1_search N d) D P x3 = some res → va_P G vwCl (wj [cX1 cy adD D, cX6 cy adP rL P]) H → va_D A (wj [cX1 cy adD D, cX6 cy adP rL P]) → va_S A s.heap H locs → lv_has ls 6 [(0, .ref (adD 0)), (3, .int x3)] → W p l e (rmX (1 + 1 * (d + 1)) (60 + 25 * (d + 1))) s m args below meth c H locs 0 0 (MQ below (mQv G cy A (wj [cX1 cy adD res, cX6 cy adP rL P])) args s 0 0 A) (F0 m 14 ls []) := by
      intro x3 D H locs ls h hP hD hS hl
      delta f_X1_search_b14 at h
      refine lv_iload_n hx hb dX1_search_14 rfl (lv_at hl 1 rfl) ?_
      refine lv_aload_n hx hb dX1_search_15 rfl (lv_at hl 0 rfl) ?_
      refine go_1_29 (ci := 0) (x := D.1 5) hx hb hts hown hK hE hP rfl rfl dX1_search_16 ?_
      refine lv_icmp_le (tgt := 42) hx hb dX1_search_19 (by decide) (fun c9 => ?_) (fun c9 => ?_)
      · replace h := (br h).1 c9
        exact retV (fw := fun q => wj [cX1 cy adD q, cX6 cy adP rL P]) h hx hb hr hlocks hK hP hD hS dX1_search_42
      · replace h := (br h).2 c9
        refine lv_aload_n hx hb dX1_search_22 rfl (lv_at hl 0 rfl) ?_
        refine lv_iload_n hx hb dX1_search_23 rfl (lv_at hl 1 rfl) ?_
        refine po_1_29 (ci := 0) (cs' := [cX1 cy adD (si D 5 x3), cX6 cy adP rL P]) hx hb hts hown hK hE hP hD hS rfl rfl dX1_search_24 (fun H locs hP hD hS => ?_)
        refine lv_aload_n hx hb dX1_search_27 rfl (lv_at hl 0 rfl) ?_
        refine go_1_20 (ci := 0) hx hb hts hown hK hE hP rfl dX1_search_28 ?_
        refine lv_iconst (v := 0) hx hb dX1_search_31 (by decide) ?_
        refine lv_aload_n hx hb dX1_search_32 rfl (lv_at hl 0 rfl) ?_
        refine go_1_23 (ci := 0) hx hb hts hown hK hE hP rfl dX1_search_33 ?_
        refine lv_iconst (v := 0) hx hb dX1_search_36 (by decide) ?_
        refine lv_bipush (v := 8) hx hb dX1_search_37 (by decide) ?_
        refine cpW (f := D.2.1 2) (g := D.2.1 3) (cs' := [cX1 cy adD (sw (si D 5 x3) 3 (va_cpy (D.2.1 2) (D.2.1 3) 0 0 8)), cX6 cy adP rL P]) (ci := 0) (k0 := 3) (cj := 0) (k1 := 4) hx hb (by rw [hml]; exact hl.1.symm) hown (hts _ wm_38_17) hts hK hP hD hS rfl cX1_a2 rfl cX1_a3 rfl rfl (by decide) (by decide) (by decide) (by decide) (by decide) (by simp only [rmX]; omega) (Nat.le_trans (m := 60) (Nat.le_of_ble_eq_true rfl) (by simp only [rmX]; omega)) cX1_w3 rfl dX1_search_39 (fun H locs hP hD hS => ?_)
        exact retV (fw := fun q => wj [cX1 cy adD q, cX6 cy adP rL P]) h hx hb hr hlocks hK hP hD hS dX1_search_42
    delta f_X1_search_body at h
    refine lv_iload_n hx hb dX1_search_0 rfl (lv_at hl 2 rfl) ?_
    refine lv_aload_n hx hb dX1_search_1 rfl (lv_at hl 1 rfl) ?_
    refine go_1_37 (ci := 1) (x := P.1 0) hx hb hts hown hK hE hP rfl rfl dX1_search_2 ?_
    refine lv_icmp_ge (tgt := 14) hx hb dX1_search_5 (by decide) (fun c9 => ?_) (fun c9 => ?_)
    · replace h := (br h).1 c9
      exact B14 a3 D _ _ _ h hP hD hS (lv_sub hl [0, 3] rfl)
    · replace h := (br h).2 c9
      refine lv_iload_n hx hb dX1_search_8 rfl (lv_at hl 2 rfl) ?_
      refine lv_bipush (v := 8) hx hb dX1_search_9 (by decide) ?_
      refine lv_icmp_lt (tgt := 43) hx hb dX1_search_11 (by decide) (fun c9 => ?_) (fun c9 => ?_)
      · replace h := (br h).1 c9
        refine lv_iload_n hx hb dX1_search_43 rfl (lv_at hl 2 rfl) ?_
        refine lv_if_lt (tgt := 62) hx hb dX1_search_44 (by decide) (fun c9 => ?_) (fun c9 => ?_)
        · replace h := (br h).1 c9
          exact retV (fw := fun q => wj [cX1 cy adD q, cX6 cy adP rL P]) h hx hb hr hlocks hK hP hD hS dX1_search_62
        · replace h := (br h).2 c9
          refine lv_iload_n hx hb dX1_search_47 rfl (lv_at hl 3 rfl) ?_
          refine lv_aload_n hx hb dX1_search_48 rfl (lv_at hl 0 rfl) ?_
          refine go_1_26 (ci := 0) hx hb hts hown hK hE hP rfl dX1_search_49 ?_
          refine lv_iload_n hx hb dX1_search_52 rfl (lv_at hl 2 rfl) ?_
          replace h := gin_inv h
          obtain ⟨h9, h⟩ := h
          refine ldWI (ci := 0) (k0 := 5) (g := D.2.1 4) (j := a2.toNatClampNeg) hx hb hK hP rfl cX1_a4 rfl h9 rfl dX1_search_53 ?_
          refine lv_iadd hx hb dX1_search_54 ?_
          refine lv_aload_n hx hb dX1_search_55 rfl (lv_at hl 0 rfl) ?_
          refine go_1_29 (ci := 0) (x := D.1 5) hx hb hts hown hK hE hP rfl rfl dX1_search_56 ?_
          refine lv_icmp_gt (tgt := 63) hx hb dX1_search_59 (by decide) (fun c9 => ?_) (fun c9 => ?_)
          · replace h := (br h).1 c9
            refine lv_aload_n hx hb dX1_search_63 rfl (lv_at hl 1 rfl) ?_
            refine lv_iload_n hx hb dX1_search_64 rfl (lv_at hl 2 rfl) ?_
            refine lv_iconst (v := 0) hx hb dX1_search_65 (by decide) ?_
            replace h := bd h
            obtain ⟨q1, h2, h⟩ := h
            refine callWVi (As := [.int a2, .int 0]) (rest := []) (cs' := [cX1 cy adD D, cX6 cy adP rL P]) (isC := [1]) (isR := [0]) hx hb hml hown hts (k_X6_trait l G cy ev adP rL P a2 0 q1 h2) wm_38_18 wm_26_16 wm_26_17 wm_1_22 wm_26_18 hd_X6_trait ⟨by simp only [rmX]; omega, by simp only [rmX]; omega⟩ hK hP hD hS hA hE rfl rfl rfl (cov_of (n := 2) rfl (by decide)) (by decide) rfl (recvW (ci := 1) hK hP rfl cX6_o rfl) rfl rfl hl.1 (Nat.le_of_ble_eq_true rfl) dX1_search_66 (fun H locs hP hD hS => ?_)
            refine lv_istore (lv' := [(4, .int q1), (0, .ref (adD 0)), (1, .ref (adP 0)), (2, .int a2), (3, .int a3)]) hx hb dX1_search_69 hl (by decide) rfl (fun ls hl => ?_)
            refine lv_aload_n hx hb dX1_search_71 rfl (lv_at hl 1 rfl) ?_
            refine go_1_20 (ci := 0) hx hb hts hown hK hE hP rfl dX1_search_72 ?_
            refine lv_iload_n hx hb dX1_search_75 rfl (lv_at hl 3 rfl) ?_
            refine lv_iconst (v := (-1)) hx hb dX1_search_76 (by decide) ?_
            replace h := gin_inv h
            obtain ⟨h9, h⟩ := h
            refine stWI (ci := 0) (k0 := 3) (j := a2.toNatClampNeg) (cs' := [cX1 cy adD (sr D 2 a2.toNatClampNeg ((-1))), cX6 cy adP rL P]) hx hb hK hP hD hS rfl cX1_a2 h9 rfl cX1_s2 rfl dX1_search_77 (fun H locs hP hD hS => ?_)
            refine lv_aload_n hx hb dX1_search_78 rfl (lv_at hl 1 rfl) ?_
            refine lv_aload_n hx hb dX1_search_79 rfl (lv_at hl 2 rfl) ?_
            refine lv_iload_n hx hb dX1_search_80 rfl (lv_at hl 3 rfl) ?_
            refine lv_iconst (v := 1) hx hb dX1_search_81 (by decide) ?_
            refine lv_iadd hx hb dX1_search_82 ?_
            refine lv_iload_n hx hb dX1_search_83 rfl (lv_at hl 4 rfl) ?_
            replace h := bd h
            obtain ⟨q3, h4, h⟩ := h
            refine callWVv (As := [.ref (adP 0), .int (a2 + 1), .int a3]) (rest := []) (cs' := [cX1 cy adD q3, cX6 cy adP rL P]) (isC := [0, 1]) (isR := []) hx hb hml hown hts (ihd adD (sr D 2 a2.toNatClampNeg ((-1))) adP rL P (a2 + 1) a3 q3 h4) wm_38_13 wm_38_14 wm_38_15 wm_3_3 wm_38_16 hd_X1_search ⟨by simp only [rmX]; omega, by simp only [rmX]; omega⟩ hK hP hD hS hA hE rfl rfl rfl (cov_of (n := 2) rfl (by decide)) (by decide) rfl (recvW (ci := 0) hK hP rfl cX1_o rfl) rfl rfl hl.1 (Nat.le_of_ble_eq_true rfl) dX1_search_84 (fun H locs hP hD hS => ?_)
            refine lv_iconst (v := 0) hx hb dX1_search_87 (by decide) ?_
            refine lv_istore (lv' := [(5, .int 0), (4, .int q1), (0, .ref (adD 0)), (1, .ref (adP 0)), (2, .int a2), (3, .int a3)]) hx hb dX1_search_88 hl (by decide) rfl (fun ls hl => ?_)
            exact L90 a2 a3 q1 N 0 q3 _ _ _ h hP hD hS (lv_sub hl [2, 3, 4, 5, 1, 0] rfl)
          · replace h := (br h).2 c9
            exact retV (fw := fun q => wj [cX1 cy adD q, cX6 cy adP rL P]) h hx hb hr hlocks hK hP hD hS dX1_search_62
      · replace h := (br h).2 c9
        exact B14 a3 D _ _ _ h hP hD hS (lv_sub hl [0, 3] rfl)
theorem hds_X1_find : yX1_find.cls ≠ "java/lang/invoke/MethodHandle" ∧ yX1_find.cls ≠ "java/lang/invoke/VarHandle" ∧ (parseMethodDescriptor yX1_find.desc).map (fun d => d.parameters.length) = some 1 := ⟨by decide +kernel, by decide +kernel, by decide +kernel⟩
theorem hd_X1_find : yX1_find.cls = RX1 ∧ yX1_find.cls ≠ "java/lang/invoke/MethodHandle" ∧ yX1_find.cls ≠ "java/lang/invoke/VarHandle" ∧ (parseMethodDescriptor yX1_find.desc).map (fun d => d.parameters.length) = some 1 := ⟨rfl, hds_X1_find⟩
def f_X1_find_s87 (N : Nat) (D : VV) (P : VV) (x2 : Int32) : Option (((Int32 × VV) ⊕ (VV))) :=
  if (3 : Int32) ≤ x2 then inrO (bnd (f_X1_search N 10 (si D 5 ((-1))) P 0 0) (fun q8701 => some (si q8701 6 1))) else bnd (f_X6_mostTickets P) (fun q8703 => gin x2 3 (some (.inl (x2 + 1, sr D 1 x2.toNatClampNeg q8703))))
def f_X1_find_s34 (N : Nat) (D : VV) (P : VV) (x2 : Int32) (x3 : Int32) (x4 : Int32) : Option (((Int32 × Int32 × VV) ⊕ (((Int32 × VV) ⊕ (VV))))) :=
  if P.1 3 ≤ x4 then inrO (gin (x2 + 1) 9 (gin x2 9 (some (.inl (x2 + (-1), sr D 4 x2.toNatClampNeg ((D.2.1 4 ((x2 + 1).toNatClampNeg)) + x3)))))) else gin x2 8 (gin x4 3 (some (.inl (jmax x3 (D.2.1 (100 + x2.toNatClampNeg) x4.toNatClampNeg), x4 + 1, D))))
def f_X1_find_s25 (N : Nat) (D : VV) (P : VV) (x2 : Int32) : Option (((Int32 × VV) ⊕ (VV))) :=
  if x2 < 0 then inrO (itr (fun q : Int32 × VV => f_X1_find_s87 N q.2 P q.1) N (0, D)) else itr (fun q : Int32 × Int32 × VV => f_X1_find_s34 N q.2.2 P x2 q.1 q.2.1) N (0, 0, D)
def f_X1_find (N : Nat) (D : VV) (P : VV) : Option (VV) :=
  if D.1 6 = 0 then gin (P.1 0) 9 (itr (fun q : Int32 × VV => f_X1_find_s25 N q.2 P q.1) N ((P.1 0) - 1, sr D 4 ((P.1 0).toNatClampNeg) 0)) else some D
set_option maxHeartbeats 4000000 in
set_option maxRecDepth 100000 in
theorem k_X1_find (l : Launch) (G : va_G) (cy : Nat → ClassId) (ev : Nat → Nat) (N : Nat) (adD : Nat → Nat) (D : VV) (adP : Nat → Nat) (rL : Nat) (P : VV)  (res : VV) (h : f_X1_find N D P = some res) : MetV l yX1_find cX1_find 5 none 12 335 G cy ev [.ref (adD 0), .ref (adP 0)] (wj [cX1 cy adD D, cX6 cy adP rL P]) (wj [cX1 cy adD res, cX6 cy adP rL P]) := by
  refine MetQ.start (by decide +kernel) (Nat.le_of_ble_eq_true rfl) (fun p e s m args below meth c A ls hx hb hr hml hown hts hlocks hK hP hD hA hl hE => ?_)
  have hS : va_S A s.heap s.heap [] := va_S.rf
  have hown : s.vm.findClass RX1 = some m.cls := hown
  have hl : lv_has ls 5 [(0, .ref (adD 0)), (1, .ref (adP 0))] := hl
  have L87 : ∀ (n : Nat) (x2 : Int32) (D : VV) (H : Heap) (locs : List Loc) (ls : Array Slot), itr (fun q : Int32 × VV => f_X1_find_s87 N q.2 P q.1) n (x2, D) = some res → va_P G vwCl (wj [cX1 cy adD D, cX6 cy adP rL P]) H → va_D A (wj [cX1 cy adD D, cX6 cy adP rL P]) → va_S A s.heap H locs → lv_has ls 5 [(0, .ref (adD 0)), (1, .ref (adP 0)), (2, .int x2)] → W p l e (rmX 12 335) s m args below meth c H locs 0 0 (MQ below (mQv G cy A (wj [cX1 cy adD res, cX6 cy adP rL P])) args s 0 0 A) (F0 m 87 ls []) := by
    intro n
    induction n with
    | zero => intro x2 D H locs ls h; exact (itr_zero h).elim
    | succ n ih1 =>
      intro x2 D H locs ls h hP hD hS hl
      obtain ⟨y1, h, hy1⟩ := itr_inv h
      have h : f_X1_find_s87 N D P x2 = some y1 := h
      delta f_X1_find_s87 at h
      refine lv_iload_n hx hb dX1_find_87 rfl (lv_at hl 2 rfl) ?_
      refine lv_iconst (v := 3) hx hb dX1_find_88 (by decide) ?_
      refine lv_icmp_ge (tgt := 108) hx hb dX1_find_89 (by decide) (fun c9 => ?_) (fun c9 => ?_)
      · replace h := (br h).1 c9
        replace h := itr_exit h hy1
        refine lv_aload_n hx hb dX1_find_108 rfl (lv_at hl 0 rfl) ?_
        refine lv_iconst (v := (-1)) hx hb dX1_find_109 (by decide) ?_
        refine po_1_29 (ci := 0) (cs' := [cX1 cy adD (si D 5 ((-1))), cX6 cy adP rL P]) hx hb hts hown hK hE hP hD hS rfl rfl dX1_find_110 (fun H locs hP hD hS => ?_)
        refine lv_aload_n hx hb dX1_find_113 rfl (lv_at hl 0 rfl) ?_
        refine lv_aload_n hx hb dX1_find_114 rfl (lv_at hl 1 rfl) ?_
        refine lv_iconst (v := 0) hx hb dX1_find_115 (by decide) ?_
        refine lv_iconst (v := 0) hx hb dX1_find_116 (by decide) ?_
        replace h := bd h
        obtain ⟨q8701, h8702, h⟩ := h
        refine callWVv (As := [.ref (adP 0), .int 0, .int 0]) (rest := []) (cs' := [cX1 cy adD q8701, cX6 cy adP rL P]) (isC := [0, 1]) (isR := []) hx hb hml hown hts (k_X1_search l G cy ev N 10 adD (si D 5 ((-1))) adP rL P 0 0 q8701 h8702) wm_38_13 wm_38_14 wm_38_15 wm_3_3 wm_38_16 hd_X1_search ⟨by decide, by decide⟩ hK hP hD hS hA hE rfl rfl rfl (cov_of (n := 2) rfl (by decide)) (by decide) rfl (recvW (ci := 0) hK hP rfl cX1_o rfl) rfl rfl hl.1 (Nat.le_of_ble_eq_true rfl) dX1_find_117 (fun H locs hP hD hS => ?_)
        refine lv_aload_n hx hb dX1_find_120 rfl (lv_at hl 0 rfl) ?_
        refine lv_iconst (v := 1) hx hb dX1_find_121 (by decide) ?_
        refine po_1_33 (ci := 0) (cs' := [cX1 cy adD (si q8701 6 1), cX6 cy adP rL P]) hx hb hts hown hK hE hP hD hS rfl rfl (by decide) dX1_find_122 (fun H locs hP hD hS => ?_)
        exact retV (fw := fun q => wj [cX1 cy adD q, cX6 cy adP rL P]) h hx hb hr hlocks hK hP hD hS dX1_find_125
      · replace h := (br h).2 c9
        refine lv_aload_n hx hb dX1_find_92 rfl (lv_at hl 0 rfl) ?_
        refine go_1_16 (ci := 0) hx hb hts hown hK hE hP rfl dX1_find_93 ?_
        refine lv_iload_n hx hb dX1_find_96 rfl (lv_at hl 2 rfl) ?_
        refine lv_aload_n hx hb dX1_find_97 rfl (lv_at hl 1 rfl) ?_
        replace h := bd h
        obtain ⟨q8703, h8704, h⟩ := h
        refine callWVi (As := []) (rest := [.int x2, .ref (adD 2)]) (cs' := [cX1 cy adD D, cX6 cy adP rL P]) (isC := [1]) (isR := [0]) hx hb hml hown hts (k_X6_mostTickets l G cy ev adP rL P q8703 h8704) wm_38_12 wm_31_22 wm_31_23 wm_1_22 wm_32_0 hd_X6_mostTickets ⟨by decide, by decide⟩ hK hP hD hS hA hE rfl rfl rfl (cov_of (n := 2) rfl (by decide)) (by decide) rfl (recvW (ci := 1) hK hP rfl cX6_o rfl) rfl rfl hl.1 (Nat.le_of_ble_eq_true rfl) dX1_find_98 (fun H locs hP hD hS => ?_)
        replace h := gin_inv h
        obtain ⟨h9, h⟩ := h
        refine stWI (ci := 0) (k0 := 2) (j := x2.toNatClampNeg) (cs' := [cX1 cy adD (sr D 1 x2.toNatClampNeg q8703), cX6 cy adP rL P]) hx hb hK hP hD hS rfl cX1_a1 h9 rfl cX1_s1 rfl dX1_find_101 (fun H locs hP hD hS => ?_)
        refine lv_iinc (v := x2 + 1) (lv' := [(2, .int (x2 + 1)), (0, .ref (adD 0)), (1, .ref (adP 0))]) hx hb dX1_find_102 hl (k := 2) rfl rfl (by decide) rfl (fun ls hl => ?_)
        refine lv_goto (tgt := 87) hx hb dX1_find_105 (by decide) ?_
        replace h := itr_back h hy1
        exact ih1 (x2 + 1) (sr D 1 x2.toNatClampNeg q8703) _ _ _ h hP hD hS (lv_sub hl [1, 2, 0] rfl)
  have L25 : ∀ (n : Nat) (x2 : Int32) (D : VV) (H : Heap) (locs : List Loc) (ls : Array Slot), itr (fun q : Int32 × VV => f_X1_find_s25 N q.2 P q.1) n (x2, D) = some res → va_P G vwCl (wj [cX1 cy adD D, cX6 cy adP rL P]) H → va_D A (wj [cX1 cy adD D, cX6 cy adP rL P]) → va_S A s.heap H locs → lv_has ls 5 [(0, .ref (adD 0)), (1, .ref (adP 0)), (2, .int x2)] → W p l e (rmX 12 335) s m args below meth c H locs 0 0 (MQ below (mQv G cy A (wj [cX1 cy adD res, cX6 cy adP rL P])) args s 0 0 A) (F0 m 25 ls []) := by
    intro n
    induction n with
    | zero => intro x2 D H locs ls h; exact (itr_zero h).elim
    | succ n ih1 =>
      intro x2 D H locs ls h hP hD hS hl
      obtain ⟨y1, h, hy1⟩ := itr_inv h
      have h : f_X1_find_s25 N D P x2 = some y1 := h
      have L34 : ∀ (x2 : Int32) (n : Nat) (x3 : Int32) (x4 : Int32) (D : VV) (H : Heap) (locs : List Loc) (ls : Array Slot), itr (fun q : Int32 × Int32 × VV => f_X1_find_s34 N q.2.2 P x2 q.1 q.2.1) n (x3, x4, D) = some y1 → va_P G vwCl (wj [cX1 cy adD D, cX6 cy adP rL P]) H → va_D A (wj [cX1 cy adD D, cX6 cy adP rL P]) → va_S A s.heap H locs → lv_has ls 5 [(0, .ref (adD 0)), (1, .ref (adP 0)), (2, .int x2), (3, .int x3), (4, .int x4)] → W p l e (rmX 12 335) s m args below meth c H locs 0 0 (MQ below (mQv G cy A (wj [cX1 cy adD res, cX6 cy adP rL P])) args s 0 0 A) (F0 m 34 ls []) := by
        intro x2 n
        induction n with
        | zero => intro x3 x4 D H locs ls h; exact (itr_zero h).elim
        | succ n ih2 =>
          intro x3 x4 D H locs ls h hP hD hS hl
          obtain ⟨y2, h, hy2⟩ := itr_inv h
          have h : f_X1_find_s34 N D P x2 x3 x4 = some y2 := h
          delta f_X1_find_s34 at h
          refine lv_iload hx hb dX1_find_34 (lv_at hl 4 rfl) ?_
          refine lv_aload_n hx hb dX1_find_36 rfl (lv_at hl 1 rfl) ?_
          refine go_1_42 (ci := 1) (x := P.1 3) hx hb hts hown hK hE hP rfl rfl dX1_find_37 ?_
          refine lv_icmp_ge (tgt := 63) hx hb dX1_find_40 (by decide) (fun c9 => ?_) (fun c9 => ?_)
          · replace h := (br h).1 c9
            replace h := itr_exit h hy2
            refine lv_aload_n hx hb dX1_find_63 rfl (lv_at hl 0 rfl) ?_
            refine go_1_26 (ci := 0) hx hb hts hown hK hE hP rfl dX1_find_64 ?_
            refine lv_iload_n hx hb dX1_find_67 rfl (lv_at hl 2 rfl) ?_
            refine lv_aload_n hx hb dX1_find_68 rfl (lv_at hl 0 rfl) ?_
            refine go_1_26 (ci := 0) hx hb hts hown hK hE hP rfl dX1_find_69 ?_
            refine lv_iload_n hx hb dX1_find_72 rfl (lv_at hl 2 rfl) ?_
            refine lv_iconst (v := 1) hx hb dX1_find_73 (by decide) ?_
            refine lv_iadd hx hb dX1_find_74 ?_
            replace h := gin_inv h
            obtain ⟨h9, h⟩ := h
            refine ldWI (ci := 0) (k0 := 5) (g := D.2.1 4) (j := (x2 + 1).toNatClampNeg) hx hb hK hP rfl cX1_a4 rfl h9 rfl dX1_find_75 ?_
            refine lv_iload_n hx hb dX1_find_76 rfl (lv_at hl 3 rfl) ?_
            refine lv_iadd hx hb dX1_find_77 ?_
            replace h := gin_inv h
            obtain ⟨h9, h⟩ := h
            refine stWI (ci := 0) (k0 := 5) (j := x2.toNatClampNeg) (cs' := [cX1 cy adD (sr D 4 x2.toNatClampNeg ((D.2.1 4 ((x2 + 1).toNatClampNeg)) + x3)), cX6 cy adP rL P]) hx hb hK hP hD hS rfl cX1_a4 h9 rfl cX1_s4 rfl dX1_find_78 (fun H locs hP hD hS => ?_)
            refine lv_iinc (v := x2 + (-1)) (lv' := [(2, .int (x2 + (-1))), (0, .ref (adD 0)), (1, .ref (adP 0)), (3, .int x3), (4, .int x4)]) hx hb dX1_find_79 hl (k := 2) rfl rfl (by decide) rfl (fun ls hl => ?_)
            refine lv_goto (tgt := 25) hx hb dX1_find_82 (by decide) ?_
            replace h := itr_back h hy1
            exact ih1 (x2 + (-1)) (sr D 4 x2.toNatClampNeg ((D.2.1 4 ((x2 + 1).toNatClampNeg)) + x3)) _ _ _ h hP hD hS (lv_sub hl [1, 2, 0] rfl)
          · replace h := (br h).2 c9
            refine lv_iload_n hx hb dX1_find_43 rfl (lv_at hl 3 rfl) ?_
            refine lv_aload_n hx hb dX1_find_44 rfl (lv_at hl 0 rfl) ?_
            refine go_1_11 (ci := 0) hx hb hts hown hK hE hP rfl dX1_find_45 ?_
            refine lv_iload_n hx hb dX1_find_48 rfl (lv_at hl 2 rfl) ?_
            replace h := gin_inv h
            obtain ⟨h9, h⟩ := h
            have hr3401 := vin_nat h9
            refine aldA (ci := 0) (k0 := 1) (j := x2.toNatClampNeg) hx hb hK hP rfl cX1_a0 h9 rfl dX1_find_49 ?_
            refine lv_iload hx hb dX1_find_50 (lv_at hl 4 rfl) ?_
            replace h := gin_inv h
            obtain ⟨h9, h⟩ := h
            refine ldWI (ci := 0) (k0 := 6 + x2.toNatClampNeg) (g := D.2.1 (100 + x2.toNatClampNeg)) (j := x4.toNatClampNeg) hx hb hK hP rfl (cX1_row hr3401) rfl h9 rfl dX1_find_52 ?_
            refine mmax hx hb (by rw [hml]; exact hl.1.symm) hown (hts _ wm_38_11) hts (by decide) (Nat.le_of_ble_eq_true rfl) dX1_find_53 ?_
            refine lv_istore_n (lv' := [(3, .int (jmax x3 (D.2.1 (100 + x2.toNatClampNeg) x4.toNatClampNeg))), (0, .ref (adD 0)), (1, .ref (adP 0)), (2, .int x2), (4, .int x4)]) hx hb dX1_find_56 rfl hl (by decide) rfl (fun ls hl => ?_)
            refine lv_iinc (v := x4 + 1) (lv' := [(4, .int (x4 + 1)), (3, .int (jmax x3 (D.2.1 (100 + x2.toNatClampNeg) x4.toNatClampNeg))), (0, .ref (adD 0)), (1, .ref (adP 0)), (2, .int x2)]) hx hb dX1_find_57 hl (k := 4) rfl rfl (by decide) rfl (fun ls hl => ?_)
            refine lv_goto (tgt := 34) hx hb dX1_find_60 (by decide) ?_
            replace h := itr_back h hy2
            exact ih2 (jmax x3 (D.2.1 (100 + x2.toNatClampNeg) x4.toNatClampNeg)) (x4 + 1) D _ _ _ h hP hD hS (lv_sub hl [2, 3, 4, 1, 0] rfl)
      delta f_X1_find_s25 at h
      refine lv_iload_n hx hb dX1_find_25 rfl (lv_at hl 2 rfl) ?_
      refine lv_if_lt (tgt := 85) hx hb dX1_find_26 (by decide) (fun c9 => ?_) (fun c9 => ?_)
      · replace h := (br h).1 c9
        replace h := itr_exit h hy1
        refine lv_iconst (v := 0) hx hb dX1_find_85 (by decide) ?_
        refine lv_istore_n (lv' := [(2, .int 0), (0, .ref (adD 0)), (1, .ref (adP 0))]) hx hb dX1_find_86 rfl hl (by decide) rfl (fun ls hl => ?_)
        exact L87  N 0 D _ _ _ h hP hD hS (lv_sub hl [1, 2, 0] rfl)
      · replace h := (br h).2 c9
        refine lv_iconst (v := 0) hx hb dX1_find_29 (by decide) ?_
        refine lv_istore_n (lv' := [(3, .int 0), (0, .ref (adD 0)), (1, .ref (adP 0)), (2, .int x2)]) hx hb dX1_find_30 rfl hl (by decide) rfl (fun ls hl => ?_)
        refine lv_iconst (v := 0) hx hb dX1_find_31 (by decide) ?_
        refine lv_istore (lv' := [(4, .int 0), (3, .int 0), (0, .ref (adD 0)), (1, .ref (adP 0)), (2, .int x2)]) hx hb dX1_find_32 hl (by decide) rfl (fun ls hl => ?_)
        exact L34 x2 N 0 0 D _ _ _ h hP hD hS (lv_sub hl [2, 3, 4, 1, 0] rfl)
  delta f_X1_find at h
  refine lv_aload_n hx hb dX1_find_0 rfl (lv_at hl 0 rfl) ?_
  refine go_1_33 (ci := 0) (x := D.1 6) hx hb hts hown hK hE hP rfl rfl dX1_find_1 ?_
  refine lv_if_eq (tgt := 8) hx hb dX1_find_4 (by decide) (fun c9 => ?_) (fun c9 => ?_)
  · replace h := (br h).1 c9
    refine lv_aload_n hx hb dX1_find_8 rfl (lv_at hl 0 rfl) ?_
    refine go_1_26 (ci := 0) hx hb hts hown hK hE hP rfl dX1_find_9 ?_
    refine lv_aload_n hx hb dX1_find_12 rfl (lv_at hl 1 rfl) ?_
    refine go_1_37 (ci := 1) (x := P.1 0) hx hb hts hown hK hE hP rfl rfl dX1_find_13 ?_
    refine lv_iconst (v := 0) hx hb dX1_find_16 (by decide) ?_
    replace h := gin_inv h
    obtain ⟨h9, h⟩ := h
    refine stWI (ci := 0) (k0 := 5) (j := (P.1 0).toNatClampNeg) (cs' := [cX1 cy adD (sr D 4 ((P.1 0).toNatClampNeg) 0), cX6 cy adP rL P]) hx hb hK hP hD hS rfl cX1_a4 h9 rfl cX1_s4 rfl dX1_find_17 (fun H locs hP hD hS => ?_)
    refine lv_aload_n hx hb dX1_find_18 rfl (lv_at hl 1 rfl) ?_
    refine go_1_37 (ci := 1) (x := P.1 0) hx hb hts hown hK hE hP rfl rfl dX1_find_19 ?_
    refine lv_iconst (v := 1) hx hb dX1_find_22 (by decide) ?_
    refine lv_isub hx hb dX1_find_23 ?_
    refine lv_istore_n (lv' := [(2, .int ((P.1 0) - 1)), (0, .ref (adD 0)), (1, .ref (adP 0))]) hx hb dX1_find_24 rfl hl (by decide) rfl (fun ls hl => ?_)
    exact L25  N ((P.1 0) - 1) (sr D 4 ((P.1 0).toNatClampNeg) 0) _ _ _ h hP hD hS (lv_sub hl [1, 2, 0] rfl)
  · replace h := (br h).2 c9
    exact retV (fw := fun q => wj [cX1 cy adD q, cX6 cy adP rL P]) h hx hb hr hlocks hK hP hD hS dX1_find_7
theorem hds_X4_tooFull : yX4_tooFull.cls ≠ "java/lang/invoke/MethodHandle" ∧ yX4_tooFull.cls ≠ "java/lang/invoke/VarHandle" ∧ (parseMethodDescriptor yX4_tooFull.desc).map (fun d => d.parameters.length) = some 1 := ⟨by decide +kernel, by decide +kernel, by decide +kernel⟩
theorem hd_X4_tooFull : yX4_tooFull.cls = RX4 ∧ yX4_tooFull.cls ≠ "java/lang/invoke/MethodHandle" ∧ yX4_tooFull.cls ≠ "java/lang/invoke/VarHandle" ∧ (parseMethodDescriptor yX4_tooFull.desc).map (fun d => d.parameters.length) = some 1 := ⟨rfl, hds_X4_tooFull⟩
def f_X4_tooFull_s72 (N : Nat) (E : VV) (P : VV) (x2 : Int32) : Option (((Int32 × VV) ⊕ (Int32 × VV))) :=
  if (3 : Int32) ≤ x2 then inrO (some ((-1), E)) else gin x2 3 (if E.2.1 1 x2.toNatClampNeg ≤ P.2.1 6 0 then some (.inl (x2 + 1, E)) else inrO (some (x2, E)))
def f_X4_tooFull_b64 (N : Nat) (E : VV) (P : VV) (x2 : Int32) : Option (((Int32 × VV) ⊕ (Int32 × VV))) :=
  some (.inl (x2 + 1, E))
def f_X4_tooFull_s22 (N : Nat) (E : VV) (P : VV) (x2 : Int32) : Option (((Int32 × VV) ⊕ (Int32 × VV))) :=
  if P.1 0 ≤ x2 then inrO (itr (fun q : Int32 × VV => f_X4_tooFull_s72 N q.2 P q.1) N (0, E)) else bnd (f_X6_chosen_L N P E x2) (fun q2201 => if q2201 < 0 then f_X4_tooFull_b64 N E P x2 else if (3 : Int32) ≤ q2201 then f_X4_tooFull_b64 N E P x2 else gin q2201 3 (bnd (f_X6_trait P x2 0) (fun q2203 => gin q2201 3 (f_X4_tooFull_b64 N (sr E 1 q2201.toNatClampNeg ((E.2.1 1 q2201.toNatClampNeg) + q2203)) P x2))))
def f_X4_tooFull_s2 (N : Nat) (E : VV) (P : VV) (x2 : Int32) : Option (((Int32 × VV) ⊕ (Int32 × VV))) :=
  if (3 : Int32) ≤ x2 then inrO (itr (fun q : Int32 × VV => f_X4_tooFull_s22 N q.2 P q.1) N (0, E)) else gin x2 3 (some (.inl (x2 + 1, sr E 1 x2.toNatClampNeg 0)))
def f_X4_tooFull (N : Nat) (E : VV) (P : VV) : Option (Int32 × VV) :=
  itr (fun q : Int32 × VV => f_X4_tooFull_s2 N q.2 P q.1) N (0, E)
set_option maxHeartbeats 4000000 in
set_option maxRecDepth 100000 in
theorem k_X4_tooFull (l : Launch) (G : va_G) (cy : Nat → ClassId) (ev : Nat → Nat) (N : Nat) (adE : Nat → Nat) (E : VV) (adP : Nat → Nat) (rL : Nat) (P : VV)  (res : Int32 × VV) (h : f_X4_tooFull N E P = some res) : MetI l yX4_tooFull cX4_tooFull 4 (some .int) 2 48 G cy ev [.ref (adE 0), .ref (adP 0)] (wj [cX4 cy adE E, cX6 cy adP rL P]) res.1 (wj [cX4 cy adE res.2, cX6 cy adP rL P]) := by
  refine MetQ.start (by decide +kernel) (Nat.le_of_ble_eq_true rfl) (fun p e s m args below meth c A ls hx hb hr hml hown hts hlocks hK hP hD hA hl hE => ?_)
  have hS : va_S A s.heap s.heap [] := va_S.rf
  have hown : s.vm.findClass RX4 = some m.cls := hown
  have hl : lv_has ls 4 [(0, .ref (adE 0)), (1, .ref (adP 0))] := hl
  have L72 : ∀ (n : Nat) (x2 : Int32) (E : VV) (H : Heap) (locs : List Loc) (ls : Array Slot), itr (fun q : Int32 × VV => f_X4_tooFull_s72 N q.2 P q.1) n (x2, E) = some res → va_P G vwCl (wj [cX4 cy adE E, cX6 cy adP rL P]) H → va_D A (wj [cX4 cy adE E, cX6 cy adP rL P]) → va_S A s.heap H locs → lv_has ls 4 [(0, .ref (adE 0)), (1, .ref (adP 0)), (2, .int x2)] → W p l e (rmX 2 48) s m args below meth c H locs 0 0 (MQ below (mQi (res.1) G cy A (wj [cX4 cy adE res.2, cX6 cy adP rL P])) args s 0 0 A) (F0 m 72 ls []) := by
    intro n
    induction n with
    | zero => intro x2 E H locs ls h; exact (itr_zero h).elim
    | succ n ih1 =>
      intro x2 E H locs ls h hP hD hS hl
      obtain ⟨y1, h, hy1⟩ := itr_inv h
      have h : f_X4_tooFull_s72 N E P x2 = some y1 := h
      delta f_X4_tooFull_s72 at h
      refine lv_iload_n hx hb dX4_tooFull_72 rfl (lv_at hl 2 rfl) ?_
      refine lv_iconst (v := 3) hx hb dX4_tooFull_73 (by decide) ?_
      refine lv_icmp_ge (tgt := 100) hx hb dX4_tooFull_74 (by decide) (fun c9 => ?_) (fun c9 => ?_)
      · replace h := (br h).1 c9
        replace h := itr_exit h hy1
        refine lv_iconst (v := (-1)) hx hb dX4_tooFull_100 (by decide) ?_
        exact retI (fr := fun q => q.1) (fw := fun q => wj [cX4 cy adE q.2, cX6 cy adP rL P]) h hx hb hr hlocks hK hP hD hS dX4_tooFull_101
      · replace h := (br h).2 c9
        refine lv_aload_n hx hb dX4_tooFull_77 rfl (lv_at hl 0 rfl) ?_
        refine go_4_15 (ci := 0) hx hb hts hown hK hE hP rfl dX4_tooFull_78 ?_
        refine lv_iload_n hx hb dX4_tooFull_81 rfl (lv_at hl 2 rfl) ?_
        replace h := gin_inv h
        obtain ⟨h9, h⟩ := h
        refine ldWI (ci := 0) (k0 := 2) (g := E.2.1 1) (j := x2.toNatClampNeg) hx hb hK hP rfl cX4_a1 rfl h9 rfl dX4_tooFull_82 ?_
        refine lv_aload_n hx hb dX4_tooFull_83 rfl (lv_at hl 1 rfl) ?_
        refine go_4_47 (ci := 1) hx hb hts hown hK hE hP rfl dX4_tooFull_84 ?_
        refine lv_iconst (v := 0) hx hb dX4_tooFull_87 (by decide) ?_
        refine ldWI (ci := 1) (k0 := 5) (g := P.2.1 6) (j := 0) hx hb hK hP rfl cX6_a6 rfl (vin_dec (by decide)) (by decide) dX4_tooFull_88 ?_
        refine lv_icmp_le (tgt := 94) hx hb dX4_tooFull_89 (by decide) (fun c9 => ?_) (fun c9 => ?_)
        · replace h := (br h).1 c9
          refine lv_iinc (v := x2 + 1) (lv' := [(2, .int (x2 + 1)), (0, .ref (adE 0)), (1, .ref (adP 0))]) hx hb dX4_tooFull_94 hl (k := 2) rfl rfl (by decide) rfl (fun ls hl => ?_)
          refine lv_goto (tgt := 72) hx hb dX4_tooFull_97 (by decide) ?_
          replace h := itr_back h hy1
          exact ih1 (x2 + 1) E _ _ _ h hP hD hS (lv_sub hl [1, 2, 0] rfl)
        · replace h := (br h).2 c9
          replace h := itr_exit h hy1
          refine lv_iload_n hx hb dX4_tooFull_92 rfl (lv_at hl 2 rfl) ?_
          exact retI (fr := fun q => q.1) (fw := fun q => wj [cX4 cy adE q.2, cX6 cy adP rL P]) h hx hb hr hlocks hK hP hD hS dX4_tooFull_93
  have L22 : ∀ (n : Nat) (x2 : Int32) (E : VV) (H : Heap) (locs : List Loc) (ls : Array Slot), itr (fun q : Int32 × VV => f_X4_tooFull_s22 N q.2 P q.1) n (x2, E) = some res → va_P G vwCl (wj [cX4 cy adE E, cX6 cy adP rL P]) H → va_D A (wj [cX4 cy adE E, cX6 cy adP rL P]) → va_S A s.heap H locs → lv_has ls 4 [(0, .ref (adE 0)), (1, .ref (adP 0)), (2, .int x2)] → W p l e (rmX 2 48) s m args below meth c H locs 0 0 (MQ below (mQi (res.1) G cy A (wj [cX4 cy adE res.2, cX6 cy adP rL P])) args s 0 0 A) (F0 m 22 ls []) := by
    intro n
    induction n with
    | zero => intro x2 E H locs ls h; exact (itr_zero h).elim
    | succ n ih1 =>
      intro x2 E H locs ls h hP hD hS hl
      obtain ⟨y1, h, hy1⟩ := itr_inv h
      have h : f_X4_tooFull_s22 N E P x2 = some y1 := h
      have B64 : ∀ (x2 : Int32) (E : VV) (H : Heap) (locs : List Loc) (ls : Array Slot), f_X4_tooFull_b64 N E P x2 = some y1 → va_P G vwCl (wj [cX4 cy adE E, cX6 cy adP rL P]) H → va_D A (wj [cX4 cy adE E, cX6 cy adP rL P]) → va_S A s.heap H locs → lv_has ls 4 [(0, .ref (adE 0)), (1, .ref (adP 0)), (2, .int x2)] → W p l e (rmX 2 48) s m args below meth c H locs 0 0 (MQ below (mQi (res.1) G cy A (wj [cX4 cy adE res.2, cX6 cy adP rL P])) args s 0 0 A) (F0 m 64 ls []) := by
        intro x2 E H locs ls h hP hD hS hl
        delta f_X4_tooFull_b64 at h
        refine lv_iinc (v := x2 + 1) (lv' := [(2, .int (x2 + 1)), (0, .ref (adE 0)), (1, .ref (adP 0))]) hx hb dX4_tooFull_64 hl (k := 2) rfl rfl (by decide) rfl (fun ls hl => ?_)
        refine lv_goto (tgt := 22) hx hb dX4_tooFull_67 (by decide) ?_
        replace h := itr_back h hy1
        exact ih1 (x2 + 1) E _ _ _ h hP hD hS (lv_sub hl [1, 2, 0] rfl)
      delta f_X4_tooFull_s22 at h
      refine lv_iload_n hx hb dX4_tooFull_22 rfl (lv_at hl 2 rfl) ?_
      refine lv_aload_n hx hb dX4_tooFull_23 rfl (lv_at hl 1 rfl) ?_
      refine go_4_33 (ci := 1) (x := P.1 0) hx hb hts hown hK hE hP rfl rfl dX4_tooFull_24 ?_
      refine lv_icmp_ge (tgt := 70) hx hb dX4_tooFull_27 (by decide) (fun c9 => ?_) (fun c9 => ?_)
      · replace h := (br h).1 c9
        replace h := itr_exit h hy1
        refine lv_iconst (v := 0) hx hb dX4_tooFull_70 (by decide) ?_
        refine lv_istore_n (lv' := [(2, .int 0), (0, .ref (adE 0)), (1, .ref (adP 0))]) hx hb dX4_tooFull_71 rfl hl (by decide) rfl (fun ls hl => ?_)
        exact L72  N 0 E _ _ _ h hP hD hS (lv_sub hl [1, 2, 0] rfl)
      · replace h := (br h).2 c9
        refine lv_aload_n hx hb dX4_tooFull_30 rfl (lv_at hl 1 rfl) ?_
        refine lv_iload_n hx hb dX4_tooFull_31 rfl (lv_at hl 2 rfl) ?_
        refine lv_aload_n hx hb dX4_tooFull_32 rfl (lv_at hl 0 rfl) ?_
        refine go_4_9 (ci := 0) hx hb hts hown hK hE hP rfl dX4_tooFull_33 ?_
        replace h := bd h
        obtain ⟨q2201, h2202, h⟩ := h
        refine callWVi (As := [.int x2, .ref (adE 1)]) (rest := []) (cs' := [cX4 cy adE E, cX6 cy adP rL P]) (isC := [1, 0]) (isR := []) hx hb hml hown hts (k_X6_chosen_L l G cy ev N adP rL P adE E x2 q2201 h2202) wm_41_5 wm_40_1 wm_40_2 wm_1_22 wm_40_3 hd_X6_chosen ⟨by decide, by decide⟩ hK hP hD hS hA hE rfl rfl rfl (cov_of (n := 2) rfl (by decide)) (by decide) rfl (recvW (ci := 1) hK hP rfl cX6_o rfl) rfl rfl hl.1 (Nat.le_of_ble_eq_true rfl) dX4_tooFull_36 (fun H locs hP hD hS => ?_)
        refine lv_istore_n (lv' := [(3, .int q2201), (0, .ref (adE 0)), (1, .ref (adP 0)), (2, .int x2)]) hx hb dX4_tooFull_39 rfl hl (by decide) rfl (fun ls hl => ?_)
        refine lv_iload_n hx hb dX4_tooFull_40 rfl (lv_at hl 0 rfl) ?_
        refine lv_if_lt (tgt := 64) hx hb dX4_tooFull_41 (by decide) (fun c9 => ?_) (fun c9 => ?_)
        · replace h := (br h).1 c9
          exact B64 x2 E _ _ _ h hP hD hS (lv_sub hl [1, 2, 3] rfl)
        · replace h := (br h).2 c9
          refine lv_iload_n hx hb dX4_tooFull_44 rfl (lv_at hl 0 rfl) ?_
          refine lv_iconst (v := 3) hx hb dX4_tooFull_45 (by decide) ?_
          refine lv_icmp_ge (tgt := 64) hx hb dX4_tooFull_46 (by decide) (fun c9 => ?_) (fun c9 => ?_)
          · replace h := (br h).1 c9
            exact B64 x2 E _ _ _ h hP hD hS (lv_sub hl [1, 2, 3] rfl)
          · replace h := (br h).2 c9
            refine lv_aload_n hx hb dX4_tooFull_49 rfl (lv_at hl 1 rfl) ?_
            refine go_4_15 (ci := 0) hx hb hts hown hK hE hP rfl dX4_tooFull_50 ?_
            refine lv_iload_n hx hb dX4_tooFull_53 rfl (lv_at hl 0 rfl) ?_
            refine lv_dup2_11 hx hb dX4_tooFull_54 rfl rfl ?_
            replace h := gin_inv h
            obtain ⟨h9, h⟩ := h
            refine ldWI (ci := 0) (k0 := 2) (g := E.2.1 1) (j := q2201.toNatClampNeg) hx hb hK hP rfl cX4_a1 rfl h9 rfl dX4_tooFull_55 ?_
            refine lv_aload_n hx hb dX4_tooFull_56 rfl (lv_at hl 2 rfl) ?_
            refine lv_iload_n hx hb dX4_tooFull_57 rfl (lv_at hl 3 rfl) ?_
            refine lv_iconst (v := 0) hx hb dX4_tooFull_58 (by decide) ?_
            replace h := bd h
            obtain ⟨q2203, h2204, h⟩ := h
            refine callWVi (As := [.int x2, .int 0]) (rest := [.int (E.2.1 1 q2201.toNatClampNeg), .int q2201, .ref (adE 2)]) (cs' := [cX4 cy adE E, cX6 cy adP rL P]) (isC := [1]) (isR := [0]) hx hb hml hown hts (k_X6_trait l G cy ev adP rL P x2 0 q2203 h2204) wm_41_6 wm_26_16 wm_26_17 wm_1_22 wm_26_18 hd_X6_trait ⟨by decide, by decide⟩ hK hP hD hS hA hE rfl rfl rfl (cov_of (n := 2) rfl (by decide)) (by decide) rfl (recvW (ci := 1) hK hP rfl cX6_o rfl) rfl rfl hl.1 (Nat.le_of_ble_eq_true rfl) dX4_tooFull_59 (fun H locs hP hD hS => ?_)
            refine lv_iadd hx hb dX4_tooFull_62 ?_
            replace h := gin_inv h
            obtain ⟨h9, h⟩ := h
            refine stWI (ci := 0) (k0 := 2) (j := q2201.toNatClampNeg) (cs' := [cX4 cy adE (sr E 1 q2201.toNatClampNeg ((E.2.1 1 q2201.toNatClampNeg) + q2203)), cX6 cy adP rL P]) hx hb hK hP hD hS rfl cX4_a1 h9 rfl cX4_s1 rfl dX4_tooFull_63 (fun H locs hP hD hS => ?_)
            exact B64 x2 (sr E 1 q2201.toNatClampNeg ((E.2.1 1 q2201.toNatClampNeg) + q2203)) _ _ _ h hP hD hS (lv_sub hl [1, 2, 3] rfl)
  have L2 : ∀ (n : Nat) (x2 : Int32) (E : VV) (H : Heap) (locs : List Loc) (ls : Array Slot), itr (fun q : Int32 × VV => f_X4_tooFull_s2 N q.2 P q.1) n (x2, E) = some res → va_P G vwCl (wj [cX4 cy adE E, cX6 cy adP rL P]) H → va_D A (wj [cX4 cy adE E, cX6 cy adP rL P]) → va_S A s.heap H locs → lv_has ls 4 [(0, .ref (adE 0)), (1, .ref (adP 0)), (2, .int x2)] → W p l e (rmX 2 48) s m args below meth c H locs 0 0 (MQ below (mQi (res.1) G cy A (wj [cX4 cy adE res.2, cX6 cy adP rL P])) args s 0 0 A) (F0 m 2 ls []) := by
    intro n
    induction n with
    | zero => intro x2 E H locs ls h; exact (itr_zero h).elim
    | succ n ih1 =>
      intro x2 E H locs ls h hP hD hS hl
      obtain ⟨y1, h, hy1⟩ := itr_inv h
      have h : f_X4_tooFull_s2 N E P x2 = some y1 := h
      delta f_X4_tooFull_s2 at h
      refine lv_iload_n hx hb dX4_tooFull_2 rfl (lv_at hl 2 rfl) ?_
      refine lv_iconst (v := 3) hx hb dX4_tooFull_3 (by decide) ?_
      refine lv_icmp_ge (tgt := 20) hx hb dX4_tooFull_4 (by decide) (fun c9 => ?_) (fun c9 => ?_)
      · replace h := (br h).1 c9
        replace h := itr_exit h hy1
        refine lv_iconst (v := 0) hx hb dX4_tooFull_20 (by decide) ?_
        refine lv_istore_n (lv' := [(2, .int 0), (0, .ref (adE 0)), (1, .ref (adP 0))]) hx hb dX4_tooFull_21 rfl hl (by decide) rfl (fun ls hl => ?_)
        exact L22  N 0 E _ _ _ h hP hD hS (lv_sub hl [1, 2, 0] rfl)
      · replace h := (br h).2 c9
        refine lv_aload_n hx hb dX4_tooFull_7 rfl (lv_at hl 0 rfl) ?_
        refine go_4_15 (ci := 0) hx hb hts hown hK hE hP rfl dX4_tooFull_8 ?_
        refine lv_iload_n hx hb dX4_tooFull_11 rfl (lv_at hl 2 rfl) ?_
        refine lv_iconst (v := 0) hx hb dX4_tooFull_12 (by decide) ?_
        replace h := gin_inv h
        obtain ⟨h9, h⟩ := h
        refine stWI (ci := 0) (k0 := 2) (j := x2.toNatClampNeg) (cs' := [cX4 cy adE (sr E 1 x2.toNatClampNeg 0), cX6 cy adP rL P]) hx hb hK hP hD hS rfl cX4_a1 h9 rfl cX4_s1 rfl dX4_tooFull_13 (fun H locs hP hD hS => ?_)
        refine lv_iinc (v := x2 + 1) (lv' := [(2, .int (x2 + 1)), (0, .ref (adE 0)), (1, .ref (adP 0))]) hx hb dX4_tooFull_14 hl (k := 2) rfl rfl (by decide) rfl (fun ls hl => ?_)
        refine lv_goto (tgt := 2) hx hb dX4_tooFull_17 (by decide) ?_
        replace h := itr_back h hy1
        exact ih1 (x2 + 1) (sr E 1 x2.toNatClampNeg 0) _ _ _ h hP hD hS (lv_sub hl [1, 2, 0] rfl)
  delta f_X4_tooFull at h
  refine lv_iconst (v := 0) hx hb dX4_tooFull_0 (by decide) ?_
  refine lv_istore_n (lv' := [(2, .int 0), (0, .ref (adE 0)), (1, .ref (adP 0))]) hx hb dX4_tooFull_1 rfl hl (by decide) rfl (fun ls hl => ?_)
  exact L2  N 0 E _ _ _ h hP hD hS (lv_sub hl [1, 2, 0] rfl)
theorem hds_X4_find : yX4_find.cls ≠ "java/lang/invoke/MethodHandle" ∧ yX4_find.cls ≠ "java/lang/invoke/VarHandle" ∧ (parseMethodDescriptor yX4_find.desc).map (fun d => d.parameters.length) = some 1 := ⟨by decide +kernel, by decide +kernel, by decide +kernel⟩
theorem hd_X4_find : yX4_find.cls = RX4 ∧ yX4_find.cls ≠ "java/lang/invoke/MethodHandle" ∧ yX4_find.cls ≠ "java/lang/invoke/VarHandle" ∧ (parseMethodDescriptor yX4_find.desc).map (fun d => d.parameters.length) = some 1 := ⟨rfl, hds_X4_find⟩
def f_X4_find_b48 (N : Nat) (E : VV) (P : VV)  : Option (VV) :=
  some (si E 2 1)
def f_X4_find_s27 (N : Nat) (E : VV) (P : VV) (x2 : Int32) : Option (((Int32 × VV) ⊕ (VV))) :=
  if (27 : Int32) < x2 then inrO (some E) else bnd (f_X4_tooFull N E P) (fun q2701 => if q2701.1 < 0 then inrO (f_X4_find_b48 N q2701.2 P) else if q2701.1 < 3 then gin q2701.1 3 (if q2701.2.2.1 0 q2701.1.toNatClampNeg < 9 then gin q2701.1 3 (gin q2701.1 3 (some (.inl (x2 + 1, sr q2701.2 0 q2701.1.toNatClampNeg ((q2701.2.2.1 0 q2701.1.toNatClampNeg) + 1))))) else inrO (some q2701.2)) else inrO (f_X4_find_b48 N q2701.2 P))
def f_X4_find_s7 (N : Nat) (E : VV) (P : VV) (x2 : Int32) : Option (((Int32 × VV) ⊕ (VV))) :=
  if (3 : Int32) ≤ x2 then inrO (itr (fun q : Int32 × VV => f_X4_find_s27 N q.2 P q.1) N (0, E)) else gin x2 3 (some (.inl (x2 + 1, sr E 0 x2.toNatClampNeg 0)))
def f_X4_find (N : Nat) (E : VV) (P : VV) : Option (VV) :=
  itr (fun q : Int32 × VV => f_X4_find_s7 N q.2 P q.1) N (0, si E 2 0)
set_option maxHeartbeats 4000000 in
set_option maxRecDepth 100000 in
theorem k_X4_find (l : Launch) (G : va_G) (cy : Nat → ClassId) (ev : Nat → Nat) (N : Nat) (adE : Nat → Nat) (E : VV) (adP : Nat → Nat) (rL : Nat) (P : VV)  (res : VV) (h : f_X4_find N E P = some res) : MetV l yX4_find cX4_find 4 none 3 71 G cy ev [.ref (adE 0), .ref (adP 0)] (wj [cX4 cy adE E, cX6 cy adP rL P]) (wj [cX4 cy adE res, cX6 cy adP rL P]) := by
  refine MetQ.start (by decide +kernel) (Nat.le_of_ble_eq_true rfl) (fun p e s m args below meth c A ls hx hb hr hml hown hts hlocks hK hP hD hA hl hE => ?_)
  have hS : va_S A s.heap s.heap [] := va_S.rf
  have hown : s.vm.findClass RX4 = some m.cls := hown
  have hl : lv_has ls 4 [(0, .ref (adE 0)), (1, .ref (adP 0))] := hl
  have B48 : ∀ (E : VV) (H : Heap) (locs : List Loc) (ls : Array Slot), f_X4_find_b48 N E P = some res → va_P G vwCl (wj [cX4 cy adE E, cX6 cy adP rL P]) H → va_D A (wj [cX4 cy adE E, cX6 cy adP rL P]) → va_S A s.heap H locs → lv_has ls 4 [(0, .ref (adE 0))] → W p l e (rmX 3 71) s m args below meth c H locs 0 0 (MQ below (mQv G cy A (wj [cX4 cy adE res, cX6 cy adP rL P])) args s 0 0 A) (F0 m 48 ls []) := by
    intro E H locs ls h hP hD hS hl
    delta f_X4_find_b48 at h
    refine lv_aload_n hx hb dX4_find_48 rfl (lv_at hl 0 rfl) ?_
    refine lv_iconst (v := 1) hx hb dX4_find_49 (by decide) ?_
    refine po_4_18 (ci := 0) (cs' := [cX4 cy adE (si E 2 1), cX6 cy adP rL P]) hx hb hts hown hK hE hP hD hS rfl rfl (by decide) dX4_find_50 (fun H locs hP hD hS => ?_)
    exact retV (fw := fun q => wj [cX4 cy adE q, cX6 cy adP rL P]) h hx hb hr hlocks hK hP hD hS dX4_find_53
  have L27 : ∀ (n : Nat) (x2 : Int32) (E : VV) (H : Heap) (locs : List Loc) (ls : Array Slot), itr (fun q : Int32 × VV => f_X4_find_s27 N q.2 P q.1) n (x2, E) = some res → va_P G vwCl (wj [cX4 cy adE E, cX6 cy adP rL P]) H → va_D A (wj [cX4 cy adE E, cX6 cy adP rL P]) → va_S A s.heap H locs → lv_has ls 4 [(0, .ref (adE 0)), (1, .ref (adP 0)), (2, .int x2)] → W p l e (rmX 3 71) s m args below meth c H locs 0 0 (MQ below (mQv G cy A (wj [cX4 cy adE res, cX6 cy adP rL P])) args s 0 0 A) (F0 m 27 ls []) := by
    intro n
    induction n with
    | zero => intro x2 E H locs ls h; exact (itr_zero h).elim
    | succ n ih1 =>
      intro x2 E H locs ls h hP hD hS hl
      obtain ⟨y1, h, hy1⟩ := itr_inv h
      have h : f_X4_find_s27 N E P x2 = some y1 := h
      delta f_X4_find_s27 at h
      refine lv_iload_n hx hb dX4_find_27 rfl (lv_at hl 2 rfl) ?_
      refine lv_bipush (v := 27) hx hb dX4_find_28 (by decide) ?_
      refine lv_icmp_gt (tgt := 82) hx hb dX4_find_30 (by decide) (fun c9 => ?_) (fun c9 => ?_)
      · replace h := (br h).1 c9
        replace h := itr_exit h hy1
        exact retV (fw := fun q => wj [cX4 cy adE q, cX6 cy adP rL P]) h hx hb hr hlocks hK hP hD hS dX4_find_82
      · replace h := (br h).2 c9
        refine lv_aload_n hx hb dX4_find_33 rfl (lv_at hl 0 rfl) ?_
        refine lv_aload_n hx hb dX4_find_34 rfl (lv_at hl 1 rfl) ?_
        replace h := bd h
        obtain ⟨q2701, h2702, h⟩ := h
        refine callWVi (As := [.ref (adP 0)]) (rest := []) (cs' := [cX4 cy adE q2701.2, cX6 cy adP rL P]) (isC := [0, 1]) (isR := []) hx hb hml hown hts (k_X4_tooFull l G cy ev N adE E adP rL P q2701 h2702) wm_41_1 wm_41_2 wm_41_3 wm_3_7 wm_41_4 hd_X4_tooFull ⟨by decide, by decide⟩ hK hP hD hS hA hE rfl rfl rfl (cov_of (n := 2) rfl (by decide)) (by decide) rfl (recvW (ci := 0) hK hP rfl cX4_o rfl) rfl rfl hl.1 (Nat.le_of_ble_eq_true rfl) dX4_find_35 (fun H locs hP hD hS => ?_)
        refine lv_istore_n (lv' := [(3, .int q2701.1), (0, .ref (adE 0)), (1, .ref (adP 0)), (2, .int x2)]) hx hb dX4_find_38 rfl hl (by decide) rfl (fun ls hl => ?_)
        refine lv_iload_n hx hb dX4_find_39 rfl (lv_at hl 0 rfl) ?_
        refine lv_if_lt (tgt := 48) hx hb dX4_find_40 (by decide) (fun c9 => ?_) (fun c9 => ?_)
        · replace h := (br h).1 c9
          replace h := itr_exit h hy1
          exact B48 q2701.2 _ _ _ h hP hD hS (lv_sub hl [1] rfl)
        · replace h := (br h).2 c9
          refine lv_iload_n hx hb dX4_find_43 rfl (lv_at hl 0 rfl) ?_
          refine lv_iconst (v := 3) hx hb dX4_find_44 (by decide) ?_
          refine lv_icmp_lt (tgt := 54) hx hb dX4_find_45 (by decide) (fun c9 => ?_) (fun c9 => ?_)
          · replace h := (br h).1 c9
            refine lv_aload_n hx hb dX4_find_54 rfl (lv_at hl 1 rfl) ?_
            refine go_4_9 (ci := 0) hx hb hts hown hK hE hP rfl dX4_find_55 ?_
            refine lv_iload_n hx hb dX4_find_58 rfl (lv_at hl 0 rfl) ?_
            replace h := gin_inv h
            obtain ⟨h9, h⟩ := h
            refine ldWI (ci := 0) (k0 := 1) (g := q2701.2.2.1 0) (j := q2701.1.toNatClampNeg) hx hb hK hP rfl cX4_a0 rfl h9 rfl dX4_find_59 ?_
            refine lv_bipush (v := 9) hx hb dX4_find_60 (by decide) ?_
            refine lv_icmp_lt (tgt := 66) hx hb dX4_find_62 (by decide) (fun c9 => ?_) (fun c9 => ?_)
            · replace h := (br h).1 c9
              refine lv_aload_n hx hb dX4_find_66 rfl (lv_at hl 1 rfl) ?_
              refine go_4_9 (ci := 0) hx hb hts hown hK hE hP rfl dX4_find_67 ?_
              refine lv_iload_n hx hb dX4_find_70 rfl (lv_at hl 0 rfl) ?_
              refine lv_dup2_11 hx hb dX4_find_71 rfl rfl ?_
              replace h := gin_inv h
              obtain ⟨h9, h⟩ := h
              refine ldWI (ci := 0) (k0 := 1) (g := q2701.2.2.1 0) (j := q2701.1.toNatClampNeg) hx hb hK hP rfl cX4_a0 rfl h9 rfl dX4_find_72 ?_
              refine lv_iconst (v := 1) hx hb dX4_find_73 (by decide) ?_
              refine lv_iadd hx hb dX4_find_74 ?_
              replace h := gin_inv h
              obtain ⟨h9, h⟩ := h
              refine stWI (ci := 0) (k0 := 1) (j := q2701.1.toNatClampNeg) (cs' := [cX4 cy adE (sr q2701.2 0 q2701.1.toNatClampNeg ((q2701.2.2.1 0 q2701.1.toNatClampNeg) + 1)), cX6 cy adP rL P]) hx hb hK hP hD hS rfl cX4_a0 h9 rfl cX4_s0 rfl dX4_find_75 (fun H locs hP hD hS => ?_)
              refine lv_iinc (v := x2 + 1) (lv' := [(2, .int (x2 + 1)), (3, .int q2701.1), (0, .ref (adE 0)), (1, .ref (adP 0))]) hx hb dX4_find_76 hl (k := 3) rfl rfl (by decide) rfl (fun ls hl => ?_)
              refine lv_goto (tgt := 27) hx hb dX4_find_79 (by decide) ?_
              replace h := itr_back h hy1
              exact ih1 (x2 + 1) (sr q2701.2 0 q2701.1.toNatClampNeg ((q2701.2.2.1 0 q2701.1.toNatClampNeg) + 1)) _ _ _ h hP hD hS (lv_sub hl [2, 3, 0] rfl)
            · replace h := (br h).2 c9
              replace h := itr_exit h hy1
              exact retV (fw := fun q => wj [cX4 cy adE q, cX6 cy adP rL P]) h hx hb hr hlocks hK hP hD hS dX4_find_65
          · replace h := (br h).2 c9
            replace h := itr_exit h hy1
            exact B48 q2701.2 _ _ _ h hP hD hS (lv_sub hl [1] rfl)
  have L7 : ∀ (n : Nat) (x2 : Int32) (E : VV) (H : Heap) (locs : List Loc) (ls : Array Slot), itr (fun q : Int32 × VV => f_X4_find_s7 N q.2 P q.1) n (x2, E) = some res → va_P G vwCl (wj [cX4 cy adE E, cX6 cy adP rL P]) H → va_D A (wj [cX4 cy adE E, cX6 cy adP rL P]) → va_S A s.heap H locs → lv_has ls 4 [(0, .ref (adE 0)), (1, .ref (adP 0)), (2, .int x2)] → W p l e (rmX 3 71) s m args below meth c H locs 0 0 (MQ below (mQv G cy A (wj [cX4 cy adE res, cX6 cy adP rL P])) args s 0 0 A) (F0 m 7 ls []) := by
    intro n
    induction n with
    | zero => intro x2 E H locs ls h; exact (itr_zero h).elim
    | succ n ih1 =>
      intro x2 E H locs ls h hP hD hS hl
      obtain ⟨y1, h, hy1⟩ := itr_inv h
      have h : f_X4_find_s7 N E P x2 = some y1 := h
      delta f_X4_find_s7 at h
      refine lv_iload_n hx hb dX4_find_7 rfl (lv_at hl 2 rfl) ?_
      refine lv_iconst (v := 3) hx hb dX4_find_8 (by decide) ?_
      refine lv_icmp_ge (tgt := 25) hx hb dX4_find_9 (by decide) (fun c9 => ?_) (fun c9 => ?_)
      · replace h := (br h).1 c9
        replace h := itr_exit h hy1
        refine lv_iconst (v := 0) hx hb dX4_find_25 (by decide) ?_
        refine lv_istore_n (lv' := [(2, .int 0), (0, .ref (adE 0)), (1, .ref (adP 0))]) hx hb dX4_find_26 rfl hl (by decide) rfl (fun ls hl => ?_)
        exact L27  N 0 E _ _ _ h hP hD hS (lv_sub hl [1, 2, 0] rfl)
      · replace h := (br h).2 c9
        refine lv_aload_n hx hb dX4_find_12 rfl (lv_at hl 0 rfl) ?_
        refine go_4_9 (ci := 0) hx hb hts hown hK hE hP rfl dX4_find_13 ?_
        refine lv_iload_n hx hb dX4_find_16 rfl (lv_at hl 2 rfl) ?_
        refine lv_iconst (v := 0) hx hb dX4_find_17 (by decide) ?_
        replace h := gin_inv h
        obtain ⟨h9, h⟩ := h
        refine stWI (ci := 0) (k0 := 1) (j := x2.toNatClampNeg) (cs' := [cX4 cy adE (sr E 0 x2.toNatClampNeg 0), cX6 cy adP rL P]) hx hb hK hP hD hS rfl cX4_a0 h9 rfl cX4_s0 rfl dX4_find_18 (fun H locs hP hD hS => ?_)
        refine lv_iinc (v := x2 + 1) (lv' := [(2, .int (x2 + 1)), (0, .ref (adE 0)), (1, .ref (adP 0))]) hx hb dX4_find_19 hl (k := 2) rfl rfl (by decide) rfl (fun ls hl => ?_)
        refine lv_goto (tgt := 7) hx hb dX4_find_22 (by decide) ?_
        replace h := itr_back h hy1
        exact ih1 (x2 + 1) (sr E 0 x2.toNatClampNeg 0) _ _ _ h hP hD hS (lv_sub hl [1, 2, 0] rfl)
  delta f_X4_find at h
  refine lv_aload_n hx hb dX4_find_0 rfl (lv_at hl 0 rfl) ?_
  refine lv_iconst (v := 0) hx hb dX4_find_1 (by decide) ?_
  refine po_4_18 (ci := 0) (cs' := [cX4 cy adE (si E 2 0), cX6 cy adP rL P]) hx hb hts hown hK hE hP hD hS rfl rfl (by decide) dX4_find_2 (fun H locs hP hD hS => ?_)
  refine lv_iconst (v := 0) hx hb dX4_find_5 (by decide) ?_
  refine lv_istore_n (lv' := [(2, .int 0), (0, .ref (adE 0)), (1, .ref (adP 0))]) hx hb dX4_find_6 rfl hl (by decide) rfl (fun ls hl => ?_)
  exact L7  N 0 (si E 2 0) _ _ _ h hP hD hS (lv_sub hl [1, 2, 0] rfl)
theorem hds_X4_priceOf : yX4_priceOf.cls ≠ "java/lang/invoke/MethodHandle" ∧ yX4_priceOf.cls ≠ "java/lang/invoke/VarHandle" ∧ (parseMethodDescriptor yX4_priceOf.desc).map (fun d => d.parameters.length) = some 2 := ⟨by decide +kernel, by decide +kernel, by decide +kernel⟩
theorem hd_X4_priceOf : yX4_priceOf.cls = RX4 ∧ yX4_priceOf.cls ≠ "java/lang/invoke/MethodHandle" ∧ yX4_priceOf.cls ≠ "java/lang/invoke/VarHandle" ∧ (parseMethodDescriptor yX4_priceOf.desc).map (fun d => d.parameters.length) = some 2 := ⟨rfl, hds_X4_priceOf⟩
def f_X4_priceOf_b17 (N : Nat) (E : VV) (P : VV) (x1 : Int32) : Option (Int32 × VV) :=
  if E.1 2 = 0 then some ((-2), E) else if x1 < 0 then some ((-2), E) else if (3 : Int32) ≤ x1 then some ((-2), E) else gin x1 3 (some (E.2.1 0 x1.toNatClampNeg, E))
def f_X4_priceOf (N : Nat) (E : VV) (P : VV) (a1 : Int32) : Option (Int32 × VV) :=
  if E.1 3 = 0 then bnd (f_X4_find N E P) (fun q1 => f_X4_priceOf_b17 N (si q1 3 1) P a1) else f_X4_priceOf_b17 N E P a1
set_option maxHeartbeats 4000000 in
set_option maxRecDepth 100000 in
theorem k_X4_priceOf (l : Launch) (G : va_G) (cy : Nat → ClassId) (ev : Nat → Nat) (N : Nat) (adE : Nat → Nat) (E : VV) (adP : Nat → Nat) (rL : Nat) (P : VV) (a1 : Int32) (res : Int32 × VV) (h : f_X4_priceOf N E P a1 = some res) : MetI l yX4_priceOf cX4_priceOf 3 (some .int) 4 94 G cy ev [.ref (adE 0), .int a1, .ref (adP 0)] (wj [cX4 cy adE E, cX6 cy adP rL P]) res.1 (wj [cX4 cy adE res.2, cX6 cy adP rL P]) := by
  refine MetQ.start (by decide +kernel) (Nat.le_of_ble_eq_true rfl) (fun p e s m args below meth c A ls hx hb hr hml hown hts hlocks hK hP hD hA hl hE => ?_)
  have hS : va_S A s.heap s.heap [] := va_S.rf
  have hown : s.vm.findClass RX4 = some m.cls := hown
  have hl : lv_has ls 3 [(0, .ref (adE 0)), (1, .int a1), (2, .ref (adP 0))] := hl
  have B17 : ∀ (x1 : Int32) (E : VV) (H : Heap) (locs : List Loc) (ls : Array Slot), f_X4_priceOf_b17 N E P x1 = some res → va_P G vwCl (wj [cX4 cy adE E, cX6 cy adP rL P]) H → va_D A (wj [cX4 cy adE E, cX6 cy adP rL P]) → va_S A s.heap H locs → lv_has ls 3 [(0, .ref (adE 0)), (1, .int x1)] → W p l e (rmX 4 94) s m args below meth c H locs 0 0 (MQ below (mQi (res.1) G cy A (wj [cX4 cy adE res.2, cX6 cy adP rL P])) args s 0 0 A) (F0 m 17 ls []) := by
    intro x1 E H locs ls h hP hD hS hl
    delta f_X4_priceOf_b17 at h
    refine lv_aload_n hx hb dX4_priceOf_17 rfl (lv_at hl 0 rfl) ?_
    refine go_4_18 (ci := 0) (x := E.1 2) hx hb hts hown hK hE hP rfl rfl dX4_priceOf_18 ?_
    refine lv_if_eq (tgt := 42) hx hb dX4_priceOf_21 (by decide) (fun c9 => ?_) (fun c9 => ?_)
    · replace h := (br h).1 c9
      refine lv_bipush (v := (-2)) hx hb dX4_priceOf_42 (by decide) ?_
      exact retI (fr := fun q => q.1) (fw := fun q => wj [cX4 cy adE q.2, cX6 cy adP rL P]) h hx hb hr hlocks hK hP hD hS dX4_priceOf_44
    · replace h := (br h).2 c9
      refine lv_iload_n hx hb dX4_priceOf_24 rfl (lv_at hl 1 rfl) ?_
      refine lv_if_lt (tgt := 42) hx hb dX4_priceOf_25 (by decide) (fun c9 => ?_) (fun c9 => ?_)
      · replace h := (br h).1 c9
        refine lv_bipush (v := (-2)) hx hb dX4_priceOf_42 (by decide) ?_
        exact retI (fr := fun q => q.1) (fw := fun q => wj [cX4 cy adE q.2, cX6 cy adP rL P]) h hx hb hr hlocks hK hP hD hS dX4_priceOf_44
      · replace h := (br h).2 c9
        refine lv_iload_n hx hb dX4_priceOf_28 rfl (lv_at hl 1 rfl) ?_
        refine lv_iconst (v := 3) hx hb dX4_priceOf_29 (by decide) ?_
        refine lv_icmp_ge (tgt := 42) hx hb dX4_priceOf_30 (by decide) (fun c9 => ?_) (fun c9 => ?_)
        · replace h := (br h).1 c9
          refine lv_bipush (v := (-2)) hx hb dX4_priceOf_42 (by decide) ?_
          exact retI (fr := fun q => q.1) (fw := fun q => wj [cX4 cy adE q.2, cX6 cy adP rL P]) h hx hb hr hlocks hK hP hD hS dX4_priceOf_44
        · replace h := (br h).2 c9
          refine lv_aload_n hx hb dX4_priceOf_33 rfl (lv_at hl 0 rfl) ?_
          refine go_4_9 (ci := 0) hx hb hts hown hK hE hP rfl dX4_priceOf_34 ?_
          refine lv_iload_n hx hb dX4_priceOf_37 rfl (lv_at hl 1 rfl) ?_
          replace h := gin_inv h
          obtain ⟨h9, h⟩ := h
          refine ldWI (ci := 0) (k0 := 1) (g := E.2.1 0) (j := x1.toNatClampNeg) hx hb hK hP rfl cX4_a0 rfl h9 rfl dX4_priceOf_38 ?_
          refine lv_goto (tgt := 44) hx hb dX4_priceOf_39 (by decide) ?_
          exact retI (fr := fun q => q.1) (fw := fun q => wj [cX4 cy adE q.2, cX6 cy adP rL P]) h hx hb hr hlocks hK hP hD hS dX4_priceOf_44
  delta f_X4_priceOf at h
  refine lv_aload_n hx hb dX4_priceOf_0 rfl (lv_at hl 0 rfl) ?_
  refine go_4_22 (ci := 0) (x := E.1 3) hx hb hts hown hK hE hP rfl rfl dX4_priceOf_1 ?_
  refine lv_if_ne (tgt := 17) hx hb dX4_priceOf_4 (by decide) (fun c9 => ?_) (fun c9 => ?_)
  · replace h := (br h).2 c9
    exact B17 a1 E _ _ _ h hP hD hS (lv_sub hl [0, 1] rfl)
  · replace h := (br h).1 c9
    refine lv_aload_n hx hb dX4_priceOf_7 rfl (lv_at hl 0 rfl) ?_
    refine lv_aload_n hx hb dX4_priceOf_8 rfl (lv_at hl 2 rfl) ?_
    replace h := bd h
    obtain ⟨q1, h2, h⟩ := h
    refine callWVv (As := [.ref (adP 0)]) (rest := []) (cs' := [cX4 cy adE q1, cX6 cy adP rL P]) (isC := [0, 1]) (isR := []) hx hb hml hown hts (k_X4_find l G cy ev N adE E adP rL P q1 h2) wm_40_21 wm_40_22 wm_40_23 wm_3_7 wm_41_0 hd_X4_find ⟨by decide, by decide⟩ hK hP hD hS hA hE rfl rfl rfl (cov_of (n := 2) rfl (by decide)) (by decide) rfl (recvW (ci := 0) hK hP rfl cX4_o rfl) rfl rfl hl.1 (Nat.le_of_ble_eq_true rfl) dX4_priceOf_9 (fun H locs hP hD hS => ?_)
    refine lv_aload_n hx hb dX4_priceOf_12 rfl (lv_at hl 0 rfl) ?_
    refine lv_iconst (v := 1) hx hb dX4_priceOf_13 (by decide) ?_
    refine po_4_22 (ci := 0) (cs' := [cX4 cy adE (si q1 3 1), cX6 cy adP rL P]) hx hb hts hown hK hE hP hD hS rfl rfl (by decide) dX4_priceOf_14 (fun H locs hP hD hS => ?_)
    exact B17 a1 (si q1 3 1) _ _ _ h hP hD hS (lv_sub hl [0, 1] rfl)
theorem hds_X5_clear : yX5_clear.cls ≠ "java/lang/invoke/MethodHandle" ∧ yX5_clear.cls ≠ "java/lang/invoke/VarHandle" ∧ (parseMethodDescriptor yX5_clear.desc).map (fun d => d.parameters.length) = some 0 := ⟨by decide +kernel, by decide +kernel, by decide +kernel⟩
theorem hd_X5_clear : yX5_clear.cls = RX5 ∧ yX5_clear.cls ≠ "java/lang/invoke/MethodHandle" ∧ yX5_clear.cls ≠ "java/lang/invoke/VarHandle" ∧ (parseMethodDescriptor yX5_clear.desc).map (fun d => d.parameters.length) = some 0 := ⟨rfl, hds_X5_clear⟩
def f_X5_clear (U : VV) : Option (VV) :=
  some (si (si U 4 0) 5 ((-1)))
set_option maxHeartbeats 4000000 in
set_option maxRecDepth 100000 in
theorem k_X5_clear (l : Launch) (G : va_G) (cy : Nat → ClassId) (ev : Nat → Nat) (adU : Nat → Nat) (U : VV)  (res : VV) (h : f_X5_clear U = some res) : MetV l yX5_clear cX5_clear 1 none 0 0 G cy ev [.ref (adU 0)] (wj [cX5 cy adU U]) (wj [cX5 cy adU res]) := by
  refine MetQ.start (by decide +kernel) (Nat.le_of_ble_eq_true rfl) (fun p e s m args below meth c A ls hx hb hr hml hown hts hlocks hK hP hD hA hl hE => ?_)
  have hS : va_S A s.heap s.heap [] := va_S.rf
  have hown : s.vm.findClass RX5 = some m.cls := hown
  have hl : lv_has ls 1 [(0, .ref (adU 0))] := hl
  delta f_X5_clear at h
  refine lv_aload_n hx hb dX5_clear_0 rfl (lv_at hl 0 rfl) ?_
  refine lv_iconst (v := 0) hx hb dX5_clear_1 (by decide) ?_
  refine po_5_25 (ci := 0) (cs' := [cX5 cy adU (si U 4 0)]) hx hb hts hown hK hE hP hD hS rfl rfl dX5_clear_2 (fun H locs hP hD hS => ?_)
  refine lv_aload_n hx hb dX5_clear_5 rfl (lv_at hl 0 rfl) ?_
  refine lv_iconst (v := (-1)) hx hb dX5_clear_6 (by decide) ?_
  refine po_5_29 (ci := 0) (cs' := [cX5 cy adU (si (si U 4 0) 5 ((-1)))]) hx hb hts hown hK hE hP hD hS rfl rfl dX5_clear_7 (fun H locs hP hD hS => ?_)
  exact retV (fw := fun q => wj [cX5 cy adU q]) h hx hb hr hlocks hK hP hD hS dX5_clear_10
theorem hds_X5_has : yX5_has.cls ≠ "java/lang/invoke/MethodHandle" ∧ yX5_has.cls ≠ "java/lang/invoke/VarHandle" ∧ (parseMethodDescriptor yX5_has.desc).map (fun d => d.parameters.length) = some 1 := ⟨by decide +kernel, by decide +kernel, by decide +kernel⟩
theorem hd_X5_has : yX5_has.cls = RX5 ∧ yX5_has.cls ≠ "java/lang/invoke/MethodHandle" ∧ yX5_has.cls ≠ "java/lang/invoke/VarHandle" ∧ (parseMethodDescriptor yX5_has.desc).map (fun d => d.parameters.length) = some 1 := ⟨rfl, hds_X5_has⟩
def f_X5_has (U : VV) (a1 : Int32) : Option (Int32) :=
  if a1 < 0 then some 0 else if U.1 4 ≤ a1 then some 0 else some 1
set_option maxHeartbeats 4000000 in
set_option maxRecDepth 100000 in
theorem k_X5_has (l : Launch) (G : va_G) (cy : Nat → ClassId) (ev : Nat → Nat) (adU : Nat → Nat) (U : VV) (a1 : Int32) (res : Int32) (h : f_X5_has U a1 = some res) : MetI l yX5_has cX5_has 2 (some .boolean) 0 0 G cy ev [.ref (adU 0), .int a1] (wj [cX5 cy adU U]) res (wj [cX5 cy adU U]) := by
  refine MetQ.start (by decide +kernel) (Nat.le_of_ble_eq_true rfl) (fun p e s m args below meth c A ls hx hb hr hml hown hts hlocks hK hP hD hA hl hE => ?_)
  have hS : va_S A s.heap s.heap [] := va_S.rf
  have hown : s.vm.findClass RX5 = some m.cls := hown
  have hl : lv_has ls 2 [(0, .ref (adU 0)), (1, .int a1)] := hl
  delta f_X5_has at h
  refine lv_iload_n hx hb dX5_has_0 rfl (lv_at hl 1 rfl) ?_
  refine lv_if_lt (tgt := 16) hx hb dX5_has_1 (by decide) (fun c9 => ?_) (fun c9 => ?_)
  · replace h := (br h).1 c9
    refine lv_iconst (v := 0) hx hb dX5_has_16 (by decide) ?_
    exact retZ (fr := fun q => q) (fw := fun _ => wj [cX5 cy adU U]) h hx hb hr narZ0 hlocks hK hP hD hS dX5_has_17
  · replace h := (br h).2 c9
    refine lv_iload_n hx hb dX5_has_4 rfl (lv_at hl 1 rfl) ?_
    refine lv_aload_n hx hb dX5_has_5 rfl (lv_at hl 0 rfl) ?_
    refine go_5_25 (ci := 0) (x := U.1 4) hx hb hts hown hK hE hP rfl rfl dX5_has_6 ?_
    refine lv_icmp_ge (tgt := 16) hx hb dX5_has_9 (by decide) (fun c9 => ?_) (fun c9 => ?_)
    · replace h := (br h).1 c9
      refine lv_iconst (v := 0) hx hb dX5_has_16 (by decide) ?_
      exact retZ (fr := fun q => q) (fw := fun _ => wj [cX5 cy adU U]) h hx hb hr narZ0 hlocks hK hP hD hS dX5_has_17
    · replace h := (br h).2 c9
      refine lv_iconst (v := 1) hx hb dX5_has_12 (by decide) ?_
      refine lv_goto (tgt := 17) hx hb dX5_has_13 (by decide) ?_
      exact retZ (fr := fun q => q) (fw := fun _ => wj [cX5 cy adU U]) h hx hb hr narZ1 hlocks hK hP hD hS dX5_has_17
theorem hds_X5_add : yX5_add.cls ≠ "java/lang/invoke/MethodHandle" ∧ yX5_add.cls ≠ "java/lang/invoke/VarHandle" ∧ (parseMethodDescriptor yX5_add.desc).map (fun d => d.parameters.length) = some 3 := ⟨by decide +kernel, by decide +kernel, by decide +kernel⟩
theorem hd_X5_add : yX5_add.cls = RX5 ∧ yX5_add.cls ≠ "java/lang/invoke/MethodHandle" ∧ yX5_add.cls ≠ "java/lang/invoke/VarHandle" ∧ (parseMethodDescriptor yX5_add.desc).map (fun d => d.parameters.length) = some 3 := ⟨rfl, hds_X5_add⟩
def f_X5_add (U : VV) (a1 : Int32) (a2 : Int32) (a3 : Int32) : Option (Int32 × VV) :=
  if U.1 4 < 24 then gin (U.1 4) 24 (gin (U.1 4) 24 (gin (U.1 4) 24 (some (((U.1 4) + 1) - 1, si (sr (sr (sr U 0 ((U.1 4).toNatClampNeg) a1) 1 ((U.1 4).toNatClampNeg) a2) 2 ((U.1 4).toNatClampNeg) a3) 4 ((U.1 4) + 1))))) else some ((-1), U)
set_option maxHeartbeats 4000000 in
set_option maxRecDepth 100000 in
theorem k_X5_add (l : Launch) (G : va_G) (cy : Nat → ClassId) (ev : Nat → Nat) (adU : Nat → Nat) (U : VV) (a1 : Int32) (a2 : Int32) (a3 : Int32) (res : Int32 × VV) (h : f_X5_add U a1 a2 a3 = some res) : MetI l yX5_add cX5_add 4 (some .int) 0 0 G cy ev [.ref (adU 0), .int a1, .int a2, .int a3] (wj [cX5 cy adU U]) res.1 (wj [cX5 cy adU res.2]) := by
  refine MetQ.start (by decide +kernel) (Nat.le_of_ble_eq_true rfl) (fun p e s m args below meth c A ls hx hb hr hml hown hts hlocks hK hP hD hA hl hE => ?_)
  have hS : va_S A s.heap s.heap [] := va_S.rf
  have hown : s.vm.findClass RX5 = some m.cls := hown
  have hl : lv_has ls 4 [(0, .ref (adU 0)), (1, .int a1), (2, .int a2), (3, .int a3)] := hl
  delta f_X5_add at h
  refine lv_aload_n hx hb dX5_add_0 rfl (lv_at hl 0 rfl) ?_
  refine go_5_25 (ci := 0) (x := U.1 4) hx hb hts hown hK hE hP rfl rfl dX5_add_1 ?_
  refine lv_bipush (v := 24) hx hb dX5_add_4 (by decide) ?_
  refine lv_icmp_lt (tgt := 11) hx hb dX5_add_6 (by decide) (fun c9 => ?_) (fun c9 => ?_)
  · replace h := (br h).1 c9
    refine lv_aload_n hx hb dX5_add_11 rfl (lv_at hl 0 rfl) ?_
    refine go_5_9 (ci := 0) hx hb hts hown hK hE hP rfl dX5_add_12 ?_
    refine lv_aload_n hx hb dX5_add_15 rfl (lv_at hl 0 rfl) ?_
    refine go_5_25 (ci := 0) (x := U.1 4) hx hb hts hown hK hE hP rfl rfl dX5_add_16 ?_
    refine lv_iload_n hx hb dX5_add_19 rfl (lv_at hl 1 rfl) ?_
    replace h := gin_inv h
    obtain ⟨h9, h⟩ := h
    refine stWI (ci := 0) (k0 := 1) (j := (U.1 4).toNatClampNeg) (cs' := [cX5 cy adU (sr U 0 ((U.1 4).toNatClampNeg) a1)]) hx hb hK hP hD hS rfl cX5_a0 h9 rfl cX5_s0 rfl dX5_add_20 (fun H locs hP hD hS => ?_)
    refine lv_aload_n hx hb dX5_add_21 rfl (lv_at hl 0 rfl) ?_
    refine go_5_15 (ci := 0) hx hb hts hown hK hE hP rfl dX5_add_22 ?_
    refine lv_aload_n hx hb dX5_add_25 rfl (lv_at hl 0 rfl) ?_
    refine go_5_25 (ci := 0) (x := U.1 4) hx hb hts hown hK hE hP rfl rfl dX5_add_26 ?_
    refine lv_iload_n hx hb dX5_add_29 rfl (lv_at hl 2 rfl) ?_
    replace h := gin_inv h
    obtain ⟨h9, h⟩ := h
    refine stWI (ci := 0) (k0 := 2) (j := (U.1 4).toNatClampNeg) (cs' := [cX5 cy adU (sr (sr U 0 ((U.1 4).toNatClampNeg) a1) 1 ((U.1 4).toNatClampNeg) a2)]) hx hb hK hP hD hS rfl cX5_a1 h9 rfl cX5_s1 rfl dX5_add_30 (fun H locs hP hD hS => ?_)
    refine lv_aload_n hx hb dX5_add_31 rfl (lv_at hl 0 rfl) ?_
    refine go_5_18 (ci := 0) hx hb hts hown hK hE hP rfl dX5_add_32 ?_
    refine lv_aload_n hx hb dX5_add_35 rfl (lv_at hl 0 rfl) ?_
    refine go_5_25 (ci := 0) (x := U.1 4) hx hb hts hown hK hE hP rfl rfl dX5_add_36 ?_
    refine lv_iload_n hx hb dX5_add_39 rfl (lv_at hl 3 rfl) ?_
    replace h := gin_inv h
    obtain ⟨h9, h⟩ := h
    refine stWI (ci := 0) (k0 := 3) (j := (U.1 4).toNatClampNeg) (cs' := [cX5 cy adU (sr (sr (sr U 0 ((U.1 4).toNatClampNeg) a1) 1 ((U.1 4).toNatClampNeg) a2) 2 ((U.1 4).toNatClampNeg) a3)]) hx hb hK hP hD hS rfl cX5_a2 h9 rfl cX5_s2 rfl dX5_add_40 (fun H locs hP hD hS => ?_)
    refine lv_aload_n hx hb dX5_add_41 rfl (lv_at hl 0 rfl) ?_
    refine lv_dup hx hb dX5_add_42 rfl ?_
    refine go_5_25 (ci := 0) (x := U.1 4) hx hb hts hown hK hE hP rfl rfl dX5_add_43 ?_
    refine lv_iconst (v := 1) hx hb dX5_add_46 (by decide) ?_
    refine lv_iadd hx hb dX5_add_47 ?_
    refine po_5_25 (ci := 0) (cs' := [cX5 cy adU (si (sr (sr (sr U 0 ((U.1 4).toNatClampNeg) a1) 1 ((U.1 4).toNatClampNeg) a2) 2 ((U.1 4).toNatClampNeg) a3) 4 ((U.1 4) + 1))]) hx hb hts hown hK hE hP hD hS rfl rfl dX5_add_48 (fun H locs hP hD hS => ?_)
    refine lv_aload_n hx hb dX5_add_51 rfl (lv_at hl 0 rfl) ?_
    refine go_5_25 (ci := 0) (x := (U.1 4) + 1) hx hb hts hown hK hE hP rfl rfl dX5_add_52 ?_
    refine lv_iconst (v := 1) hx hb dX5_add_55 (by decide) ?_
    refine lv_isub hx hb dX5_add_56 ?_
    exact retI (fr := fun q => q.1) (fw := fun q => wj [cX5 cy adU q.2]) h hx hb hr hlocks hK hP hD hS dX5_add_57
  · replace h := (br h).2 c9
    refine lv_iconst (v := (-1)) hx hb dX5_add_9 (by decide) ?_
    exact retI (fr := fun q => q.1) (fw := fun q => wj [cX5 cy adU q.2]) h hx hb hr hlocks hK hP hD hS dX5_add_10
theorem hds_X5_knownCount : yX5_knownCount.cls ≠ "java/lang/invoke/MethodHandle" ∧ yX5_knownCount.cls ≠ "java/lang/invoke/VarHandle" ∧ (parseMethodDescriptor yX5_knownCount.desc).map (fun d => d.parameters.length) = some 0 := ⟨by decide +kernel, by decide +kernel, by decide +kernel⟩
theorem hd_X5_knownCount : yX5_knownCount.cls = RX5 ∧ yX5_knownCount.cls ≠ "java/lang/invoke/MethodHandle" ∧ yX5_knownCount.cls ≠ "java/lang/invoke/VarHandle" ∧ (parseMethodDescriptor yX5_knownCount.desc).map (fun d => d.parameters.length) = some 0 := ⟨rfl, hds_X5_knownCount⟩
def f_X5_knownCount (U : VV) : Option (Int32) :=
  if U.1 5 = (-1) then some (U.1 4) else some (jmin (U.1 5) (U.1 4))
set_option maxHeartbeats 4000000 in
set_option maxRecDepth 100000 in
theorem k_X5_knownCount (l : Launch) (G : va_G) (cy : Nat → ClassId) (ev : Nat → Nat) (adU : Nat → Nat) (U : VV)  (res : Int32) (h : f_X5_knownCount U = some res) : MetI l yX5_knownCount cX5_knownCount 1 (some .int) 1 24 G cy ev [.ref (adU 0)] (wj [cX5 cy adU U]) res (wj [cX5 cy adU U]) := by
  refine MetQ.start (by decide +kernel) (Nat.le_of_ble_eq_true rfl) (fun p e s m args below meth c A ls hx hb hr hml hown hts hlocks hK hP hD hA hl hE => ?_)
  have hS : va_S A s.heap s.heap [] := va_S.rf
  have hown : s.vm.findClass RX5 = some m.cls := hown
  have hl : lv_has ls 1 [(0, .ref (adU 0))] := hl
  delta f_X5_knownCount at h
  refine lv_aload_n hx hb dX5_knownCount_0 rfl (lv_at hl 0 rfl) ?_
  refine go_5_29 (ci := 0) (x := U.1 5) hx hb hts hown hK hE hP rfl rfl dX5_knownCount_1 ?_
  refine lv_iconst (v := (-1)) hx hb dX5_knownCount_4 (by decide) ?_
  refine lv_icmp_ne (tgt := 15) hx hb dX5_knownCount_5 (by decide) (fun c9 => ?_) (fun c9 => ?_)
  · replace h := (br h).2 c9
    refine lv_aload_n hx hb dX5_knownCount_15 rfl (lv_at hl 0 rfl) ?_
    refine go_5_29 (ci := 0) (x := U.1 5) hx hb hts hown hK hE hP rfl rfl dX5_knownCount_16 ?_
    refine lv_aload_n hx hb dX5_knownCount_19 rfl (lv_at hl 0 rfl) ?_
    refine go_5_25 (ci := 0) (x := U.1 4) hx hb hts hown hK hE hP rfl rfl dX5_knownCount_20 ?_
    refine mmin hx hb (by rw [hml]; exact hl.1.symm) hown (hts _ wm_51_17) hts (by decide) (Nat.le_of_ble_eq_true rfl) dX5_knownCount_23 ?_
    exact retI (fr := fun q => q) (fw := fun _ => wj [cX5 cy adU U]) h hx hb hr hlocks hK hP hD hS dX5_knownCount_26
  · replace h := (br h).1 c9
    refine lv_aload_n hx hb dX5_knownCount_8 rfl (lv_at hl 0 rfl) ?_
    refine go_5_25 (ci := 0) (x := U.1 4) hx hb hts hown hK hE hP rfl rfl dX5_knownCount_9 ?_
    refine lv_goto (tgt := 26) hx hb dX5_knownCount_12 (by decide) ?_
    exact retI (fr := fun q => q) (fw := fun _ => wj [cX5 cy adU U]) h hx hb hr hlocks hK hP hD hS dX5_knownCount_26
theorem hds_X5_strike : yX5_strike.cls ≠ "java/lang/invoke/MethodHandle" ∧ yX5_strike.cls ≠ "java/lang/invoke/VarHandle" ∧ (parseMethodDescriptor yX5_strike.desc).map (fun d => d.parameters.length) = some 0 := ⟨by decide +kernel, by decide +kernel, by decide +kernel⟩
theorem hd_X5_strike : yX5_strike.cls = RX5 ∧ yX5_strike.cls ≠ "java/lang/invoke/MethodHandle" ∧ yX5_strike.cls ≠ "java/lang/invoke/VarHandle" ∧ (parseMethodDescriptor yX5_strike.desc).map (fun d => d.parameters.length) = some 0 := ⟨rfl, hds_X5_strike⟩
def f_X5_strike_b76 (N : Nat) (U : VV) (x1 : Int32) : Option (((Int32 × VV) ⊕ (VV))) :=
  some (.inl (x1 + (-1), U))
def f_X5_strike_s28 (N : Nat) (U : VV) (x1 : Int32) : Option (((Int32 × VV) ⊕ (VV))) :=
  if x1 < 0 then inrO (some U) else gin x1 24 (if U.2.1 0 x1.toNatClampNeg = 2 then gin x1 24 (if U.2.1 3 x1.toNatClampNeg = 0 then gin x1 24 (bnd (f_X5_has U (U.2.1 1 x1.toNatClampNeg)) (fun q2801 => if q2801 = 0 then f_X5_strike_b76 N U x1 else gin x1 24 (gin (U.2.1 1 x1.toNatClampNeg) 24 (f_X5_strike_b76 N (sr U 3 ((U.2.1 1 x1.toNatClampNeg).toNatClampNeg) 1) x1)))) else f_X5_strike_b76 N U x1) else f_X5_strike_b76 N U x1)
def f_X5_strike_s2 (N : Nat) (U : VV) (x1 : Int32) : Option (((Int32 × VV) ⊕ (VV))) :=
  if (24 : Int32) ≤ x1 then inrO (bnd (f_X5_knownCount U) (fun q201 => itr (fun q : Int32 × VV => f_X5_strike_s28 N q.2 q.1) N (q201 - 1, U))) else gin x1 24 (some (.inl (x1 + 1, sr U 3 x1.toNatClampNeg 0)))
def f_X5_strike (N : Nat) (U : VV) : Option (VV) :=
  itr (fun q : Int32 × VV => f_X5_strike_s2 N q.2 q.1) N (0, U)
set_option maxHeartbeats 4000000 in
set_option maxRecDepth 100000 in
theorem k_X5_strike (l : Launch) (G : va_G) (cy : Nat → ClassId) (ev : Nat → Nat) (N : Nat) (adU : Nat → Nat) (U : VV)  (res : VV) (h : f_X5_strike N U = some res) : MetV l yX5_strike cX5_strike 2 none 2 44 G cy ev [.ref (adU 0)] (wj [cX5 cy adU U]) (wj [cX5 cy adU res]) := by
  refine MetQ.start (by decide +kernel) (Nat.le_of_ble_eq_true rfl) (fun p e s m args below meth c A ls hx hb hr hml hown hts hlocks hK hP hD hA hl hE => ?_)
  have hS : va_S A s.heap s.heap [] := va_S.rf
  have hown : s.vm.findClass RX5 = some m.cls := hown
  have hl : lv_has ls 2 [(0, .ref (adU 0))] := hl
  have L28 : ∀ (n : Nat) (x1 : Int32) (U : VV) (H : Heap) (locs : List Loc) (ls : Array Slot), itr (fun q : Int32 × VV => f_X5_strike_s28 N q.2 q.1) n (x1, U) = some res → va_P G vwCl (wj [cX5 cy adU U]) H → va_D A (wj [cX5 cy adU U]) → va_S A s.heap H locs → lv_has ls 2 [(0, .ref (adU 0)), (1, .int x1)] → W p l e (rmX 2 44) s m args below meth c H locs 0 0 (MQ below (mQv G cy A (wj [cX5 cy adU res])) args s 0 0 A) (F0 m 28 ls []) := by
    intro n
    induction n with
    | zero => intro x1 U H locs ls h; exact (itr_zero h).elim
    | succ n ih1 =>
      intro x1 U H locs ls h hP hD hS hl
      obtain ⟨y1, h, hy1⟩ := itr_inv h
      have h : f_X5_strike_s28 N U x1 = some y1 := h
      have B76 : ∀ (x1 : Int32) (U : VV) (H : Heap) (locs : List Loc) (ls : Array Slot), f_X5_strike_b76 N U x1 = some y1 → va_P G vwCl (wj [cX5 cy adU U]) H → va_D A (wj [cX5 cy adU U]) → va_S A s.heap H locs → lv_has ls 2 [(0, .ref (adU 0)), (1, .int x1)] → W p l e (rmX 2 44) s m args below meth c H locs 0 0 (MQ below (mQv G cy A (wj [cX5 cy adU res])) args s 0 0 A) (F0 m 76 ls []) := by
        intro x1 U H locs ls h hP hD hS hl
        delta f_X5_strike_b76 at h
        refine lv_iinc (v := x1 + (-1)) (lv' := [(1, .int (x1 + (-1))), (0, .ref (adU 0))]) hx hb dX5_strike_76 hl (k := 1) rfl rfl (by decide) rfl (fun ls hl => ?_)
        refine lv_goto (tgt := 28) hx hb dX5_strike_79 (by decide) ?_
        replace h := itr_back h hy1
        exact ih1 (x1 + (-1)) U _ _ _ h hP hD hS (lv_sub hl [1, 0] rfl)
      delta f_X5_strike_s28 at h
      refine lv_iload_n hx hb dX5_strike_28 rfl (lv_at hl 1 rfl) ?_
      refine lv_if_lt (tgt := 82) hx hb dX5_strike_29 (by decide) (fun c9 => ?_) (fun c9 => ?_)
      · replace h := (br h).1 c9
        replace h := itr_exit h hy1
        exact retV (fw := fun q => wj [cX5 cy adU q]) h hx hb hr hlocks hK hP hD hS dX5_strike_82
      · replace h := (br h).2 c9
        refine lv_aload_n hx hb dX5_strike_32 rfl (lv_at hl 0 rfl) ?_
        refine go_5_9 (ci := 0) hx hb hts hown hK hE hP rfl dX5_strike_33 ?_
        refine lv_iload_n hx hb dX5_strike_36 rfl (lv_at hl 1 rfl) ?_
        replace h := gin_inv h
        obtain ⟨h9, h⟩ := h
        refine ldWI (ci := 0) (k0 := 1) (g := U.2.1 0) (j := x1.toNatClampNeg) hx hb hK hP rfl cX5_a0 rfl h9 rfl dX5_strike_37 ?_
        refine lv_iconst (v := 2) hx hb dX5_strike_38 (by decide) ?_
        refine lv_icmp_ne (tgt := 76) hx hb dX5_strike_39 (by decide) (fun c9 => ?_) (fun c9 => ?_)
        · replace h := (br h).2 c9
          exact B76 x1 U _ _ _ h hP hD hS (lv_sub hl [0, 1] rfl)
        · replace h := (br h).1 c9
          refine lv_aload_n hx hb dX5_strike_42 rfl (lv_at hl 0 rfl) ?_
          refine go_5_21 (ci := 0) hx hb hts hown hK hE hP rfl dX5_strike_43 ?_
          refine lv_iload_n hx hb dX5_strike_46 rfl (lv_at hl 1 rfl) ?_
          replace h := gin_inv h
          obtain ⟨h9, h⟩ := h
          refine ldWZ (ci := 0) (k0 := 4) (g := U.2.1 3) (j := x1.toNatClampNeg) hx hb hK hP rfl cX5_a3 rfl h9 rfl dX5_strike_47 ?_
          refine lv_if_ne (tgt := 76) hx hb dX5_strike_48 (by decide) (fun c9 => ?_) (fun c9 => ?_)
          · replace h := (br h).2 c9
            exact B76 x1 U _ _ _ h hP hD hS (lv_sub hl [0, 1] rfl)
          · replace h := (br h).1 c9
            refine lv_aload_n hx hb dX5_strike_51 rfl (lv_at hl 0 rfl) ?_
            refine lv_aload_n hx hb dX5_strike_52 rfl (lv_at hl 0 rfl) ?_
            refine go_5_15 (ci := 0) hx hb hts hown hK hE hP rfl dX5_strike_53 ?_
            refine lv_iload_n hx hb dX5_strike_56 rfl (lv_at hl 1 rfl) ?_
            replace h := gin_inv h
            obtain ⟨h9, h⟩ := h
            refine ldWI (ci := 0) (k0 := 2) (g := U.2.1 1) (j := x1.toNatClampNeg) hx hb hK hP rfl cX5_a1 rfl h9 rfl dX5_strike_57 ?_
            replace h := bd h
            obtain ⟨q2801, h2802, h⟩ := h
            refine callWVi (As := [.int (U.2.1 1 x1.toNatClampNeg)]) (rest := []) (cs' := [cX5 cy adU U]) (isC := [0]) (isR := []) hx hb hml hown hts (k_X5_has l G cy ev adU U (U.2.1 1 x1.toNatClampNeg) q2801 h2802) wm_51_18 wm_50_14 wm_50_15 wm_2_23 wm_50_16 hd_X5_has ⟨by decide, by decide⟩ hK hP hD hS hA hE rfl rfl rfl (cov_of (n := 1) rfl (by decide)) (by decide) rfl (recvW (ci := 0) hK hP rfl cX5_o rfl) rfl rfl hl.1 (Nat.le_of_ble_eq_true rfl) dX5_strike_58 (fun H locs hP hD hS => ?_)
            refine lv_if_eq (tgt := 76) hx hb dX5_strike_61 (by decide) (fun c9 => ?_) (fun c9 => ?_)
            · replace h := (br h).1 c9
              exact B76 x1 U _ _ _ h hP hD hS (lv_sub hl [0, 1] rfl)
            · replace h := (br h).2 c9
              refine lv_aload_n hx hb dX5_strike_64 rfl (lv_at hl 0 rfl) ?_
              refine go_5_21 (ci := 0) hx hb hts hown hK hE hP rfl dX5_strike_65 ?_
              refine lv_aload_n hx hb dX5_strike_68 rfl (lv_at hl 0 rfl) ?_
              refine go_5_15 (ci := 0) hx hb hts hown hK hE hP rfl dX5_strike_69 ?_
              refine lv_iload_n hx hb dX5_strike_72 rfl (lv_at hl 1 rfl) ?_
              replace h := gin_inv h
              obtain ⟨h9, h⟩ := h
              refine ldWI (ci := 0) (k0 := 2) (g := U.2.1 1) (j := x1.toNatClampNeg) hx hb hK hP rfl cX5_a1 rfl h9 rfl dX5_strike_73 ?_
              refine lv_iconst (v := 1) hx hb dX5_strike_74 (by decide) ?_
              replace h := gin_inv h
              obtain ⟨h9, h⟩ := h
              refine stWZ (ci := 0) (k0 := 4) (j := (U.2.1 1 x1.toNatClampNeg).toNatClampNeg) (cs' := [cX5 cy adU (sr U 3 ((U.2.1 1 x1.toNatClampNeg).toNatClampNeg) 1)]) hx hb hK hP hD hS rfl cX5_a3 h9 (by decide) rfl cX5_s3 rfl dX5_strike_75 (fun H locs hP hD hS => ?_)
              exact B76 x1 (sr U 3 ((U.2.1 1 x1.toNatClampNeg).toNatClampNeg) 1) _ _ _ h hP hD hS (lv_sub hl [0, 1] rfl)
  have L2 : ∀ (n : Nat) (x1 : Int32) (U : VV) (H : Heap) (locs : List Loc) (ls : Array Slot), itr (fun q : Int32 × VV => f_X5_strike_s2 N q.2 q.1) n (x1, U) = some res → va_P G vwCl (wj [cX5 cy adU U]) H → va_D A (wj [cX5 cy adU U]) → va_S A s.heap H locs → lv_has ls 2 [(0, .ref (adU 0)), (1, .int x1)] → W p l e (rmX 2 44) s m args below meth c H locs 0 0 (MQ below (mQv G cy A (wj [cX5 cy adU res])) args s 0 0 A) (F0 m 2 ls []) := by
    intro n
    induction n with
    | zero => intro x1 U H locs ls h; exact (itr_zero h).elim
    | succ n ih1 =>
      intro x1 U H locs ls h hP hD hS hl
      obtain ⟨y1, h, hy1⟩ := itr_inv h
      have h : f_X5_strike_s2 N U x1 = some y1 := h
      delta f_X5_strike_s2 at h
      refine lv_iload_n hx hb dX5_strike_2 rfl (lv_at hl 1 rfl) ?_
      refine lv_bipush (v := 24) hx hb dX5_strike_3 (by decide) ?_
      refine lv_icmp_ge (tgt := 21) hx hb dX5_strike_5 (by decide) (fun c9 => ?_) (fun c9 => ?_)
      · replace h := (br h).1 c9
        replace h := itr_exit h hy1
        refine lv_aload_n hx hb dX5_strike_21 rfl (lv_at hl 0 rfl) ?_
        replace h := bd h
        obtain ⟨q201, h202, h⟩ := h
        refine callWVi (As := []) (rest := []) (cs' := [cX5 cy adU U]) (isC := [0]) (isR := []) hx hb hml hown hts (k_X5_knownCount l G cy ev adU U q201 h202) wm_51_13 wm_51_14 wm_51_15 wm_2_23 wm_51_16 hd_X5_knownCount ⟨by decide, by decide⟩ hK hP hD hS hA hE rfl rfl rfl (cov_of (n := 1) rfl (by decide)) (by decide) rfl (recvW (ci := 0) hK hP rfl cX5_o rfl) rfl rfl hl.1 (Nat.le_of_ble_eq_true rfl) dX5_strike_22 (fun H locs hP hD hS => ?_)
        refine lv_iconst (v := 1) hx hb dX5_strike_25 (by decide) ?_
        refine lv_isub hx hb dX5_strike_26 ?_
        refine lv_istore_n (lv' := [(1, .int (q201 - 1)), (0, .ref (adU 0))]) hx hb dX5_strike_27 rfl hl (by decide) rfl (fun ls hl => ?_)
        exact L28  N (q201 - 1) U _ _ _ h hP hD hS (lv_sub hl [1, 0] rfl)
      · replace h := (br h).2 c9
        refine lv_aload_n hx hb dX5_strike_8 rfl (lv_at hl 0 rfl) ?_
        refine go_5_21 (ci := 0) hx hb hts hown hK hE hP rfl dX5_strike_9 ?_
        refine lv_iload_n hx hb dX5_strike_12 rfl (lv_at hl 1 rfl) ?_
        refine lv_iconst (v := 0) hx hb dX5_strike_13 (by decide) ?_
        replace h := gin_inv h
        obtain ⟨h9, h⟩ := h
        refine stWZ (ci := 0) (k0 := 4) (j := x1.toNatClampNeg) (cs' := [cX5 cy adU (sr U 3 x1.toNatClampNeg 0)]) hx hb hK hP hD hS rfl cX5_a3 h9 (by decide) rfl cX5_s3 rfl dX5_strike_14 (fun H locs hP hD hS => ?_)
        refine lv_iinc (v := x1 + 1) (lv' := [(1, .int (x1 + 1)), (0, .ref (adU 0))]) hx hb dX5_strike_15 hl (k := 1) rfl rfl (by decide) rfl (fun ls hl => ?_)
        refine lv_goto (tgt := 2) hx hb dX5_strike_18 (by decide) ?_
        replace h := itr_back h hy1
        exact ih1 (x1 + 1) (sr U 3 x1.toNatClampNeg 0) _ _ _ h hP hD hS (lv_sub hl [1, 0] rfl)
  delta f_X5_strike at h
  refine lv_iconst (v := 0) hx hb dX5_strike_0 (by decide) ?_
  refine lv_istore_n (lv' := [(1, .int 0), (0, .ref (adU 0))]) hx hb dX5_strike_1 rfl hl (by decide) rfl (fun ls hl => ?_)
  exact L2  N 0 U _ _ _ h hP hD hS (lv_sub hl [1, 0] rfl)
theorem hds_X5_holdFor : yX5_holdFor.cls ≠ "java/lang/invoke/MethodHandle" ∧ yX5_holdFor.cls ≠ "java/lang/invoke/VarHandle" ∧ (parseMethodDescriptor yX5_holdFor.desc).map (fun d => d.parameters.length) = some 1 := ⟨by decide +kernel, by decide +kernel, by decide +kernel⟩
theorem hd_X5_holdFor : yX5_holdFor.cls = RX5 ∧ yX5_holdFor.cls ≠ "java/lang/invoke/MethodHandle" ∧ yX5_holdFor.cls ≠ "java/lang/invoke/VarHandle" ∧ (parseMethodDescriptor yX5_holdFor.desc).map (fun d => d.parameters.length) = some 1 := ⟨rfl, hds_X5_holdFor⟩
def f_X5_holdFor_b91 (N : Nat) (U : VV) (S : VV) (x2 : Int32) : Option (((Int32) ⊕ (Int32))) :=
  some (.inl (x2 + 1))
def f_X5_holdFor_b86 (N : Nat) (U : VV) (S : VV) (x2 : Int32) (z0 : Int32) (z1 : Int32) : Option (((Int32) ⊕ (Int32))) :=
  if z1 = z0 then f_X5_holdFor_b91 N U S x2 else inrO (some 0)
def f_X5_holdFor_b71 (N : Nat) (U : VV) (S : VV) (x2 : Int32) (z0 : Int32) : Option (((Int32) ⊕ (Int32))) :=
  gin x2 24 (if U.2.1 0 x2.toNatClampNeg = 1 then f_X5_holdFor_b86 N U S x2 1 z0 else f_X5_holdFor_b86 N U S x2 0 z0)
def f_X5_holdFor_s2 (N : Nat) (U : VV) (S : VV) (x2 : Int32) : Option (((Int32) ⊕ (Int32))) :=
  bnd (f_X5_knownCount U) (fun q201 => if q201 ≤ x2 then inrO (some 1) else gin x2 24 (if U.2.1 0 x2.toNatClampNeg = 2 then f_X5_holdFor_b91 N U S x2 else gin x2 24 (if U.2.1 3 x2.toNatClampNeg = 0 then gin x2 24 (if U.2.1 1 x2.toNatClampNeg < 0 then f_X5_holdFor_b91 N U S x2 else gin x2 24 (if (3 : Int32) ≤ U.2.1 1 x2.toNatClampNeg then f_X5_holdFor_b91 N U S x2 else gin x2 24 (gin (U.2.1 1 x2.toNatClampNeg) 3 (gin x2 24 (if S.2.1 14 ((U.2.1 1 x2.toNatClampNeg).toNatClampNeg) < U.2.1 2 x2.toNatClampNeg then f_X5_holdFor_b71 N U S x2 0 else f_X5_holdFor_b71 N U S x2 1))))) else f_X5_holdFor_b91 N U S x2)))
def f_X5_holdFor (N : Nat) (U : VV) (S : VV) : Option (Int32) :=
  itr (fun q : Int32 => f_X5_holdFor_s2 N U S q) N 0
set_option maxHeartbeats 4000000 in
set_option maxRecDepth 100000 in
theorem k_X5_holdFor (l : Launch) (G : va_G) (cy : Nat → ClassId) (ev : Nat → Nat) (N : Nat) (adU : Nat → Nat) (U : VV) (adS : Nat → Nat) (S : VV)  (res : Int32) (h : f_X5_holdFor N U S = some res) : MetI l yX5_holdFor cX5_holdFor 3 (some .boolean) 2 44 G cy ev [.ref (adU 0), .ref (adS 15)] (wj [cX5 cy adU U, cX8 cy adS S]) res (wj [cX5 cy adU U, cX8 cy adS S]) := by
  refine MetQ.start (by decide +kernel) (Nat.le_of_ble_eq_true rfl) (fun p e s m args below meth c A ls hx hb hr hml hown hts hlocks hK hP hD hA hl hE => ?_)
  have hS : va_S A s.heap s.heap [] := va_S.rf
  have hown : s.vm.findClass RX5 = some m.cls := hown
  have hl : lv_has ls 3 [(0, .ref (adU 0)), (1, .ref (adS 15))] := hl
  have L2 : ∀ (n : Nat) (x2 : Int32) (H : Heap) (locs : List Loc) (ls : Array Slot), itr (fun q : Int32 => f_X5_holdFor_s2 N U S q) n x2 = some res → va_P G vwCl (wj [cX5 cy adU U, cX8 cy adS S]) H → va_D A (wj [cX5 cy adU U, cX8 cy adS S]) → va_S A s.heap H locs → lv_has ls 3 [(0, .ref (adU 0)), (1, .ref (adS 15)), (2, .int x2)] → W p l e (rmX 2 44) s m args below meth c H locs 0 0 (MQ below (mQi (res) G cy A (wj [cX5 cy adU U, cX8 cy adS S])) args s 0 0 A) (F0 m 2 ls []) := by
    intro n
    induction n with
    | zero => intro x2 H locs ls h; exact (itr_zero h).elim
    | succ n ih1 =>
      intro x2 H locs ls h hP hD hS hl
      obtain ⟨y1, h, hy1⟩ := itr_inv h
      have h : f_X5_holdFor_s2 N U S x2 = some y1 := h
      have B91 : ∀ (x2 : Int32) (H : Heap) (locs : List Loc) (ls : Array Slot), f_X5_holdFor_b91 N U S x2 = some y1 → va_P G vwCl (wj [cX5 cy adU U, cX8 cy adS S]) H → va_D A (wj [cX5 cy adU U, cX8 cy adS S]) → va_S A s.heap H locs → lv_has ls 3 [(0, .ref (adU 0)), (1, .ref (adS 15)), (2, .int x2)] → W p l e (rmX 2 44) s m args below meth c H locs 0 0 (MQ below (mQi (res) G cy A (wj [cX5 cy adU U, cX8 cy adS S])) args s 0 0 A) (F0 m 91 ls []) := by
        intro x2 H locs ls h hP hD hS hl
        delta f_X5_holdFor_b91 at h
        refine lv_iinc (v := x2 + 1) (lv' := [(2, .int (x2 + 1)), (0, .ref (adU 0)), (1, .ref (adS 15))]) hx hb dX5_holdFor_91 hl (k := 2) rfl rfl (by decide) rfl (fun ls hl => ?_)
        refine lv_goto (tgt := 2) hx hb dX5_holdFor_94 (by decide) ?_
        replace h := itr_back h hy1
        exact ih1 (x2 + 1) _ _ _ h hP hD hS (lv_sub hl [1, 2, 0] rfl)
      have B86 : ∀ (x2 : Int32) (z0 : Int32) (z1 : Int32) (H : Heap) (locs : List Loc) (ls : Array Slot), f_X5_holdFor_b86 N U S x2 z0 z1 = some y1 → va_P G vwCl (wj [cX5 cy adU U, cX8 cy adS S]) H → va_D A (wj [cX5 cy adU U, cX8 cy adS S]) → va_S A s.heap H locs → lv_has ls 3 [(0, .ref (adU 0)), (1, .ref (adS 15)), (2, .int x2)] → W p l e (rmX 2 44) s m args below meth c H locs 0 0 (MQ below (mQi (res) G cy A (wj [cX5 cy adU U, cX8 cy adS S])) args s 0 0 A) (F0 m 86 ls [.int z0, .int z1]) := by
        intro x2 z0 z1 H locs ls h hP hD hS hl
        delta f_X5_holdFor_b86 at h
        refine lv_icmp_eq (tgt := 91) hx hb dX5_holdFor_86 (by decide) (fun c9 => ?_) (fun c9 => ?_)
        · replace h := (br h).1 c9
          exact B91 x2 _ _ _ h hP hD hS (lv_sub hl [0, 1, 2] rfl)
        · replace h := (br h).2 c9
          replace h := itr_exit h hy1
          refine lv_iconst (v := 0) hx hb dX5_holdFor_89 (by decide) ?_
          exact retZ (fr := fun q => q) (fw := fun _ => wj [cX5 cy adU U, cX8 cy adS S]) h hx hb hr narZ0 hlocks hK hP hD hS dX5_holdFor_90
      have B71 : ∀ (x2 : Int32) (z0 : Int32) (H : Heap) (locs : List Loc) (ls : Array Slot), f_X5_holdFor_b71 N U S x2 z0 = some y1 → va_P G vwCl (wj [cX5 cy adU U, cX8 cy adS S]) H → va_D A (wj [cX5 cy adU U, cX8 cy adS S]) → va_S A s.heap H locs → lv_has ls 3 [(0, .ref (adU 0)), (1, .ref (adS 15)), (2, .int x2)] → W p l e (rmX 2 44) s m args below meth c H locs 0 0 (MQ below (mQi (res) G cy A (wj [cX5 cy adU U, cX8 cy adS S])) args s 0 0 A) (F0 m 71 ls [.int z0]) := by
        intro x2 z0 H locs ls h hP hD hS hl
        delta f_X5_holdFor_b71 at h
        refine lv_aload_n hx hb dX5_holdFor_71 rfl (lv_at hl 0 rfl) ?_
        refine go_5_9 (ci := 0) hx hb hts hown hK hE hP rfl dX5_holdFor_72 ?_
        refine lv_iload_n hx hb dX5_holdFor_75 rfl (lv_at hl 2 rfl) ?_
        replace h := gin_inv h
        obtain ⟨h9, h⟩ := h
        refine ldWI (ci := 0) (k0 := 1) (g := U.2.1 0) (j := x2.toNatClampNeg) hx hb hK hP rfl cX5_a0 rfl h9 rfl dX5_holdFor_76 ?_
        refine lv_iconst (v := 1) hx hb dX5_holdFor_77 (by decide) ?_
        refine lv_icmp_ne (tgt := 85) hx hb dX5_holdFor_78 (by decide) (fun c9 => ?_) (fun c9 => ?_)
        · replace h := (br h).2 c9
          refine lv_iconst (v := 0) hx hb dX5_holdFor_85 (by decide) ?_
          exact B86 x2 0 z0 _ _ _ h hP hD hS (lv_sub hl [0, 1, 2] rfl)
        · replace h := (br h).1 c9
          refine lv_iconst (v := 1) hx hb dX5_holdFor_81 (by decide) ?_
          refine lv_goto (tgt := 86) hx hb dX5_holdFor_82 (by decide) ?_
          exact B86 x2 1 z0 _ _ _ h hP hD hS (lv_sub hl [0, 1, 2] rfl)
      delta f_X5_holdFor_s2 at h
      refine lv_iload_n hx hb dX5_holdFor_2 rfl (lv_at hl 2 rfl) ?_
      refine lv_aload_n hx hb dX5_holdFor_3 rfl (lv_at hl 0 rfl) ?_
      replace h := bd h
      obtain ⟨q201, h202, h⟩ := h
      refine callWVi (As := []) (rest := [.int x2]) (cs' := [cX5 cy adU U, cX8 cy adS S]) (isC := [0]) (isR := [1]) hx hb hml hown hts (k_X5_knownCount l G cy ev adU U q201 h202) wm_51_13 wm_51_14 wm_51_15 wm_2_23 wm_51_16 hd_X5_knownCount ⟨by decide, by decide⟩ hK hP hD hS hA hE rfl rfl rfl (cov_of (n := 2) rfl (by decide)) (by decide) rfl (recvW (ci := 0) hK hP rfl cX5_o rfl) rfl rfl hl.1 (Nat.le_of_ble_eq_true rfl) dX5_holdFor_4 (fun H locs hP hD hS => ?_)
      refine lv_icmp_ge (tgt := 97) hx hb dX5_holdFor_7 (by decide) (fun c9 => ?_) (fun c9 => ?_)
      · replace h := (br h).1 c9
        replace h := itr_exit h hy1
        refine lv_iconst (v := 1) hx hb dX5_holdFor_97 (by decide) ?_
        exact retZ (fr := fun q => q) (fw := fun _ => wj [cX5 cy adU U, cX8 cy adS S]) h hx hb hr narZ1 hlocks hK hP hD hS dX5_holdFor_98
      · replace h := (br h).2 c9
        refine lv_aload_n hx hb dX5_holdFor_10 rfl (lv_at hl 0 rfl) ?_
        refine go_5_9 (ci := 0) hx hb hts hown hK hE hP rfl dX5_holdFor_11 ?_
        refine lv_iload_n hx hb dX5_holdFor_14 rfl (lv_at hl 2 rfl) ?_
        replace h := gin_inv h
        obtain ⟨h9, h⟩ := h
        refine ldWI (ci := 0) (k0 := 1) (g := U.2.1 0) (j := x2.toNatClampNeg) hx hb hK hP rfl cX5_a0 rfl h9 rfl dX5_holdFor_15 ?_
        refine lv_iconst (v := 2) hx hb dX5_holdFor_16 (by decide) ?_
        refine lv_icmp_eq (tgt := 91) hx hb dX5_holdFor_17 (by decide) (fun c9 => ?_) (fun c9 => ?_)
        · replace h := (br h).1 c9
          exact B91 x2 _ _ _ h hP hD hS (lv_sub hl [0, 1, 2] rfl)
        · replace h := (br h).2 c9
          refine lv_aload_n hx hb dX5_holdFor_20 rfl (lv_at hl 0 rfl) ?_
          refine go_5_21 (ci := 0) hx hb hts hown hK hE hP rfl dX5_holdFor_21 ?_
          refine lv_iload_n hx hb dX5_holdFor_24 rfl (lv_at hl 2 rfl) ?_
          replace h := gin_inv h
          obtain ⟨h9, h⟩ := h
          refine ldWZ (ci := 0) (k0 := 4) (g := U.2.1 3) (j := x2.toNatClampNeg) hx hb hK hP rfl cX5_a3 rfl h9 rfl dX5_holdFor_25 ?_
          refine lv_if_ne (tgt := 91) hx hb dX5_holdFor_26 (by decide) (fun c9 => ?_) (fun c9 => ?_)
          · replace h := (br h).2 c9
            exact B91 x2 _ _ _ h hP hD hS (lv_sub hl [0, 1, 2] rfl)
          · replace h := (br h).1 c9
            refine lv_aload_n hx hb dX5_holdFor_29 rfl (lv_at hl 0 rfl) ?_
            refine go_5_15 (ci := 0) hx hb hts hown hK hE hP rfl dX5_holdFor_30 ?_
            refine lv_iload_n hx hb dX5_holdFor_33 rfl (lv_at hl 2 rfl) ?_
            replace h := gin_inv h
            obtain ⟨h9, h⟩ := h
            refine ldWI (ci := 0) (k0 := 2) (g := U.2.1 1) (j := x2.toNatClampNeg) hx hb hK hP rfl cX5_a1 rfl h9 rfl dX5_holdFor_34 ?_
            refine lv_if_lt (tgt := 91) hx hb dX5_holdFor_35 (by decide) (fun c9 => ?_) (fun c9 => ?_)
            · replace h := (br h).1 c9
              exact B91 x2 _ _ _ h hP hD hS (lv_sub hl [0, 1, 2] rfl)
            · replace h := (br h).2 c9
              refine lv_aload_n hx hb dX5_holdFor_38 rfl (lv_at hl 0 rfl) ?_
              refine go_5_15 (ci := 0) hx hb hts hown hK hE hP rfl dX5_holdFor_39 ?_
              refine lv_iload_n hx hb dX5_holdFor_42 rfl (lv_at hl 2 rfl) ?_
              replace h := gin_inv h
              obtain ⟨h9, h⟩ := h
              refine ldWI (ci := 0) (k0 := 2) (g := U.2.1 1) (j := x2.toNatClampNeg) hx hb hK hP rfl cX5_a1 rfl h9 rfl dX5_holdFor_43 ?_
              refine lv_aload_n hx hb dX5_holdFor_44 rfl (lv_at hl 1 rfl) ?_
              refine alW (v := 3) (tk := 1) (ci := 1) (k0 := 9) hx hb hK hP rfl cX8_a14 rfl (by decide) dX5_holdFor_45 ?_
              refine lv_icmp_ge (tgt := 91) hx hb dX5_holdFor_46 (by decide) (fun c9 => ?_) (fun c9 => ?_)
              · replace h := (br h).1 c9
                exact B91 x2 _ _ _ h hP hD hS (lv_sub hl [0, 1, 2] rfl)
              · replace h := (br h).2 c9
                refine lv_aload_n hx hb dX5_holdFor_49 rfl (lv_at hl 1 rfl) ?_
                refine lv_aload_n hx hb dX5_holdFor_50 rfl (lv_at hl 0 rfl) ?_
                refine go_5_15 (ci := 0) hx hb hts hown hK hE hP rfl dX5_holdFor_51 ?_
                refine lv_iload_n hx hb dX5_holdFor_54 rfl (lv_at hl 2 rfl) ?_
                replace h := gin_inv h
                obtain ⟨h9, h⟩ := h
                refine ldWI (ci := 0) (k0 := 2) (g := U.2.1 1) (j := x2.toNatClampNeg) hx hb hK hP rfl cX5_a1 rfl h9 rfl dX5_holdFor_55 ?_
                replace h := gin_inv h
                obtain ⟨h9, h⟩ := h
                refine ldWI (ci := 1) (k0 := 9) (g := S.2.1 14) (j := (U.2.1 1 x2.toNatClampNeg).toNatClampNeg) hx hb hK hP rfl cX8_a14 rfl h9 rfl dX5_holdFor_56 ?_
                refine lv_aload_n hx hb dX5_holdFor_57 rfl (lv_at hl 0 rfl) ?_
                refine go_5_18 (ci := 0) hx hb hts hown hK hE hP rfl dX5_holdFor_58 ?_
                refine lv_iload_n hx hb dX5_holdFor_61 rfl (lv_at hl 2 rfl) ?_
                replace h := gin_inv h
                obtain ⟨h9, h⟩ := h
                refine ldWI (ci := 0) (k0 := 3) (g := U.2.1 2) (j := x2.toNatClampNeg) hx hb hK hP rfl cX5_a2 rfl h9 rfl dX5_holdFor_62 ?_
                refine lv_icmp_lt (tgt := 70) hx hb dX5_holdFor_63 (by decide) (fun c9 => ?_) (fun c9 => ?_)
                · replace h := (br h).1 c9
                  refine lv_iconst (v := 0) hx hb dX5_holdFor_70 (by decide) ?_
                  exact B71 x2 0 _ _ _ h hP hD hS (lv_sub hl [0, 1, 2] rfl)
                · replace h := (br h).2 c9
                  refine lv_iconst (v := 1) hx hb dX5_holdFor_66 (by decide) ?_
                  refine lv_goto (tgt := 71) hx hb dX5_holdFor_67 (by decide) ?_
                  exact B71 x2 1 _ _ _ h hP hD hS (lv_sub hl [0, 1, 2] rfl)
  delta f_X5_holdFor at h
  refine lv_iconst (v := 0) hx hb dX5_holdFor_0 (by decide) ?_
  refine lv_istore_n (lv' := [(2, .int 0), (0, .ref (adU 0)), (1, .ref (adS 15))]) hx hb dX5_holdFor_1 rfl hl (by decide) rfl (fun ls hl => ?_)
  exact L2  N 0 _ _ _ h hP hD hS (lv_sub hl [1, 2, 0] rfl)
theorem hds_X2_add : yX2_add.cls ≠ "java/lang/invoke/MethodHandle" ∧ yX2_add.cls ≠ "java/lang/invoke/VarHandle" ∧ (parseMethodDescriptor yX2_add.desc).map (fun d => d.parameters.length) = some 3 := ⟨by decide +kernel, by decide +kernel, by decide +kernel⟩
theorem hd_X2_add : yX2_add.cls = RX2 ∧ yX2_add.cls ≠ "java/lang/invoke/MethodHandle" ∧ yX2_add.cls ≠ "java/lang/invoke/VarHandle" ∧ (parseMethodDescriptor yX2_add.desc).map (fun d => d.parameters.length) = some 3 := ⟨rfl, hds_X2_add⟩
def f_X2_add_b60 (Z : VV) (x1 : Int32) (x2 : Int32) (x3 : Int32) : Option (VV) :=
  gin (Z.1 3) 20 (gin (Z.1 3) 20 (gin (Z.1 3) 20 (some (si (sr (sr (sr Z 0 ((Z.1 3).toNatClampNeg) x1) 1 ((Z.1 3).toNatClampNeg) x2) 2 ((Z.1 3).toNatClampNeg) x3) 3 ((Z.1 3) + 1)))))
def f_X2_add (Z : VV) (a1 : Int32) (a2 : Int32) (a3 : Int32) : Option (VV) :=
  if Z.1 3 < 20 then f_X2_add_b60 Z a1 a2 a3 else f_X2_add_b60 (si (sw (sw (sw Z 0 (va_cpy (Z.2.1 0) (Z.2.1 0) 1 0 19)) 1 (va_cpy (Z.2.1 1) (Z.2.1 1) 1 0 19)) 2 (va_cpy (Z.2.1 2) (Z.2.1 2) 1 0 19)) 3 19) a1 a2 a3
set_option maxHeartbeats 4000000 in
set_option maxRecDepth 100000 in
theorem k_X2_add (l : Launch) (G : va_G) (cy : Nat → ClassId) (ev : Nat → Nat) (adZ : Nat → Nat) (Z : VV) (a1 : Int32) (a2 : Int32) (a3 : Int32) (res : VV) (h : f_X2_add Z a1 a2 a3 = some res) : MetV l yX2_add cX2_add 4 none 1 60 G cy ev [.ref (adZ 0), .int a1, .int a2, .int a3] (wj [cX2 cy adZ Z]) (wj [cX2 cy adZ res]) := by
  refine MetQ.start (by decide +kernel) (Nat.le_of_ble_eq_true rfl) (fun p e s m args below meth c A ls hx hb hr hml hown hts hlocks hK hP hD hA hl hE => ?_)
  have hS : va_S A s.heap s.heap [] := va_S.rf
  have hown : s.vm.findClass RX2 = some m.cls := hown
  have hl : lv_has ls 4 [(0, .ref (adZ 0)), (1, .int a1), (2, .int a2), (3, .int a3)] := hl
  have B60 : ∀ (x1 : Int32) (x2 : Int32) (x3 : Int32) (Z : VV) (H : Heap) (locs : List Loc) (ls : Array Slot), f_X2_add_b60 Z x1 x2 x3 = some res → va_P G vwCl (wj [cX2 cy adZ Z]) H → va_D A (wj [cX2 cy adZ Z]) → va_S A s.heap H locs → lv_has ls 4 [(0, .ref (adZ 0)), (1, .int x1), (2, .int x2), (3, .int x3)] → W p l e (rmX 1 60) s m args below meth c H locs 0 0 (MQ below (mQv G cy A (wj [cX2 cy adZ res])) args s 0 0 A) (F0 m 60 ls []) := by
    intro x1 x2 x3 Z H locs ls h hP hD hS hl
    delta f_X2_add_b60 at h
    refine lv_aload_n hx hb dX2_add_60 rfl (lv_at hl 0 rfl) ?_
    refine go_2_9 (ci := 0) hx hb hts hown hK hE hP rfl dX2_add_61 ?_
    refine lv_aload_n hx hb dX2_add_64 rfl (lv_at hl 0 rfl) ?_
    refine go_2_21 (ci := 0) (x := Z.1 3) hx hb hts hown hK hE hP rfl rfl dX2_add_65 ?_
    refine lv_iload_n hx hb dX2_add_68 rfl (lv_at hl 1 rfl) ?_
    replace h := gin_inv h
    obtain ⟨h9, h⟩ := h
    refine stWI (ci := 0) (k0 := 1) (j := (Z.1 3).toNatClampNeg) (cs' := [cX2 cy adZ (sr Z 0 ((Z.1 3).toNatClampNeg) x1)]) hx hb hK hP hD hS rfl cX2_a0 h9 rfl cX2_s0 rfl dX2_add_69 (fun H locs hP hD hS => ?_)
    refine lv_aload_n hx hb dX2_add_70 rfl (lv_at hl 0 rfl) ?_
    refine go_2_15 (ci := 0) hx hb hts hown hK hE hP rfl dX2_add_71 ?_
    refine lv_aload_n hx hb dX2_add_74 rfl (lv_at hl 0 rfl) ?_
    refine go_2_21 (ci := 0) (x := Z.1 3) hx hb hts hown hK hE hP rfl rfl dX2_add_75 ?_
    refine lv_iload_n hx hb dX2_add_78 rfl (lv_at hl 2 rfl) ?_
    replace h := gin_inv h
    obtain ⟨h9, h⟩ := h
    refine stWI (ci := 0) (k0 := 2) (j := (Z.1 3).toNatClampNeg) (cs' := [cX2 cy adZ (sr (sr Z 0 ((Z.1 3).toNatClampNeg) x1) 1 ((Z.1 3).toNatClampNeg) x2)]) hx hb hK hP hD hS rfl cX2_a1 h9 rfl cX2_s1 rfl dX2_add_79 (fun H locs hP hD hS => ?_)
    refine lv_aload_n hx hb dX2_add_80 rfl (lv_at hl 0 rfl) ?_
    refine go_2_18 (ci := 0) hx hb hts hown hK hE hP rfl dX2_add_81 ?_
    refine lv_aload_n hx hb dX2_add_84 rfl (lv_at hl 0 rfl) ?_
    refine go_2_21 (ci := 0) (x := Z.1 3) hx hb hts hown hK hE hP rfl rfl dX2_add_85 ?_
    refine lv_iload_n hx hb dX2_add_88 rfl (lv_at hl 3 rfl) ?_
    replace h := gin_inv h
    obtain ⟨h9, h⟩ := h
    refine stWI (ci := 0) (k0 := 3) (j := (Z.1 3).toNatClampNeg) (cs' := [cX2 cy adZ (sr (sr (sr Z 0 ((Z.1 3).toNatClampNeg) x1) 1 ((Z.1 3).toNatClampNeg) x2) 2 ((Z.1 3).toNatClampNeg) x3)]) hx hb hK hP hD hS rfl cX2_a2 h9 rfl cX2_s2 rfl dX2_add_89 (fun H locs hP hD hS => ?_)
    refine lv_aload_n hx hb dX2_add_90 rfl (lv_at hl 0 rfl) ?_
    refine lv_dup hx hb dX2_add_91 rfl ?_
    refine go_2_21 (ci := 0) (x := Z.1 3) hx hb hts hown hK hE hP rfl rfl dX2_add_92 ?_
    refine lv_iconst (v := 1) hx hb dX2_add_95 (by decide) ?_
    refine lv_iadd hx hb dX2_add_96 ?_
    refine po_2_21 (ci := 0) (cs' := [cX2 cy adZ (si (sr (sr (sr Z 0 ((Z.1 3).toNatClampNeg) x1) 1 ((Z.1 3).toNatClampNeg) x2) 2 ((Z.1 3).toNatClampNeg) x3) 3 ((Z.1 3) + 1))]) hx hb hts hown hK hE hP hD hS rfl rfl dX2_add_97 (fun H locs hP hD hS => ?_)
    exact retV (fw := fun q => wj [cX2 cy adZ q]) h hx hb hr hlocks hK hP hD hS dX2_add_100
  delta f_X2_add at h
  refine lv_aload_n hx hb dX2_add_0 rfl (lv_at hl 0 rfl) ?_
  refine go_2_21 (ci := 0) (x := Z.1 3) hx hb hts hown hK hE hP rfl rfl dX2_add_1 ?_
  refine lv_bipush (v := 20) hx hb dX2_add_4 (by decide) ?_
  refine lv_icmp_lt (tgt := 60) hx hb dX2_add_6 (by decide) (fun c9 => ?_) (fun c9 => ?_)
  · replace h := (br h).1 c9
    exact B60 a1 a2 a3 Z _ _ _ h hP hD hS (lv_sub hl [0, 1, 2, 3] rfl)
  · replace h := (br h).2 c9
    refine lv_aload_n hx hb dX2_add_9 rfl (lv_at hl 0 rfl) ?_
    refine go_2_9 (ci := 0) hx hb hts hown hK hE hP rfl dX2_add_10 ?_
    refine lv_iconst (v := 1) hx hb dX2_add_13 (by decide) ?_
    refine lv_aload_n hx hb dX2_add_14 rfl (lv_at hl 0 rfl) ?_
    refine go_2_9 (ci := 0) hx hb hts hown hK hE hP rfl dX2_add_15 ?_
    refine lv_iconst (v := 0) hx hb dX2_add_18 (by decide) ?_
    refine lv_bipush (v := 19) hx hb dX2_add_19 (by decide) ?_
    refine cpW (f := Z.2.1 0) (g := Z.2.1 0) (cs' := [cX2 cy adZ (sw Z 0 (va_cpy (Z.2.1 0) (Z.2.1 0) 1 0 19))]) (ci := 0) (k0 := 1) (cj := 0) (k1 := 1) hx hb (by rw [hml]; exact hl.1.symm) hown (hts _ wm_32_5) hts hK hP hD hS rfl cX2_a0 rfl cX2_a0 rfl rfl (by decide) (by decide) (by decide) (by decide) (by decide) (by decide) (Nat.le_of_ble_eq_true rfl) cX2_w0 rfl dX2_add_21 (fun H locs hP hD hS => ?_)
    refine lv_aload_n hx hb dX2_add_24 rfl (lv_at hl 0 rfl) ?_
    refine go_2_15 (ci := 0) hx hb hts hown hK hE hP rfl dX2_add_25 ?_
    refine lv_iconst (v := 1) hx hb dX2_add_28 (by decide) ?_
    refine lv_aload_n hx hb dX2_add_29 rfl (lv_at hl 0 rfl) ?_
    refine go_2_15 (ci := 0) hx hb hts hown hK hE hP rfl dX2_add_30 ?_
    refine lv_iconst (v := 0) hx hb dX2_add_33 (by decide) ?_
    refine lv_bipush (v := 19) hx hb dX2_add_34 (by decide) ?_
    refine cpW (f := Z.2.1 1) (g := Z.2.1 1) (cs' := [cX2 cy adZ (sw (sw Z 0 (va_cpy (Z.2.1 0) (Z.2.1 0) 1 0 19)) 1 (va_cpy (Z.2.1 1) (Z.2.1 1) 1 0 19))]) (ci := 0) (k0 := 2) (cj := 0) (k1 := 2) hx hb (by rw [hml]; exact hl.1.symm) hown (hts _ wm_32_5) hts hK hP hD hS rfl cX2_a1 rfl cX2_a1 rfl rfl (by decide) (by decide) (by decide) (by decide) (by decide) (by decide) (Nat.le_of_ble_eq_true rfl) cX2_w1 rfl dX2_add_36 (fun H locs hP hD hS => ?_)
    refine lv_aload_n hx hb dX2_add_39 rfl (lv_at hl 0 rfl) ?_
    refine go_2_18 (ci := 0) hx hb hts hown hK hE hP rfl dX2_add_40 ?_
    refine lv_iconst (v := 1) hx hb dX2_add_43 (by decide) ?_
    refine lv_aload_n hx hb dX2_add_44 rfl (lv_at hl 0 rfl) ?_
    refine go_2_18 (ci := 0) hx hb hts hown hK hE hP rfl dX2_add_45 ?_
    refine lv_iconst (v := 0) hx hb dX2_add_48 (by decide) ?_
    refine lv_bipush (v := 19) hx hb dX2_add_49 (by decide) ?_
    refine cpW (f := Z.2.1 2) (g := Z.2.1 2) (cs' := [cX2 cy adZ (sw (sw (sw Z 0 (va_cpy (Z.2.1 0) (Z.2.1 0) 1 0 19)) 1 (va_cpy (Z.2.1 1) (Z.2.1 1) 1 0 19)) 2 (va_cpy (Z.2.1 2) (Z.2.1 2) 1 0 19))]) (ci := 0) (k0 := 3) (cj := 0) (k1 := 3) hx hb (by rw [hml]; exact hl.1.symm) hown (hts _ wm_32_5) hts hK hP hD hS rfl cX2_a2 rfl cX2_a2 rfl rfl (by decide) (by decide) (by decide) (by decide) (by decide) (by decide) (Nat.le_of_ble_eq_true rfl) cX2_w2 rfl dX2_add_51 (fun H locs hP hD hS => ?_)
    refine lv_aload_n hx hb dX2_add_54 rfl (lv_at hl 0 rfl) ?_
    refine lv_bipush (v := 19) hx hb dX2_add_55 (by decide) ?_
    refine po_2_21 (ci := 0) (cs' := [cX2 cy adZ (si (sw (sw (sw Z 0 (va_cpy (Z.2.1 0) (Z.2.1 0) 1 0 19)) 1 (va_cpy (Z.2.1 1) (Z.2.1 1) 1 0 19)) 2 (va_cpy (Z.2.1 2) (Z.2.1 2) 1 0 19)) 3 19)]) hx hb hts hown hK hE hP hD hS rfl rfl dX2_add_57 (fun H locs hP hD hS => ?_)
    exact B60 a1 a2 a3 (si (sw (sw (sw Z 0 (va_cpy (Z.2.1 0) (Z.2.1 0) 1 0 19)) 1 (va_cpy (Z.2.1 1) (Z.2.1 1) 1 0 19)) 2 (va_cpy (Z.2.1 2) (Z.2.1 2) 1 0 19)) 3 19) _ _ _ h hP hD hS (lv_sub hl [0, 1, 2, 3] rfl)
theorem hds_X2_takeBack : yX2_takeBack.cls ≠ "java/lang/invoke/MethodHandle" ∧ yX2_takeBack.cls ≠ "java/lang/invoke/VarHandle" ∧ (parseMethodDescriptor yX2_takeBack.desc).map (fun d => d.parameters.length) = some 1 := ⟨by decide +kernel, by decide +kernel, by decide +kernel⟩
theorem hd_X2_takeBack : yX2_takeBack.cls = RX2 ∧ yX2_takeBack.cls ≠ "java/lang/invoke/MethodHandle" ∧ yX2_takeBack.cls ≠ "java/lang/invoke/VarHandle" ∧ (parseMethodDescriptor yX2_takeBack.desc).map (fun d => d.parameters.length) = some 1 := ⟨rfl, hds_X2_takeBack⟩
def f_X2_takeBack (Z : VV) (S : VV) : Option (VV × VV) :=
  if (1 : Int32) ≤ Z.1 3 then gin ((Z.1 3) - 1) 20 (if Z.2.1 0 (((Z.1 3) - 1).toNatClampNeg) = 0 then gin ((Z.1 3) - 1) 20 (if Z.2.1 1 (((Z.1 3) - 1).toNatClampNeg) < 0 then some (si Z 3 ((Z.1 3) - 1), S) else gin ((Z.1 3) - 1) 20 (if (8 : Int32) ≤ Z.2.1 1 (((Z.1 3) - 1).toNatClampNeg) then some (si Z 3 ((Z.1 3) - 1), S) else gin ((Z.1 3) - 1) 20 (gin ((Z.1 3) - 1) 20 (gin (Z.2.1 1 (((Z.1 3) - 1).toNatClampNeg)) 8 (some (si Z 3 ((Z.1 3) - 1), sr S 2 ((Z.2.1 1 (((Z.1 3) - 1).toNatClampNeg)).toNatClampNeg) (Z.2.1 2 (((Z.1 3) - 1).toNatClampNeg)))))))) else gin ((Z.1 3) - 1) 20 (if Z.2.1 0 (((Z.1 3) - 1).toNatClampNeg) = 1 then gin ((Z.1 3) - 1) 20 (if Z.2.1 1 (((Z.1 3) - 1).toNatClampNeg) < 0 then some (si Z 3 ((Z.1 3) - 1), S) else gin ((Z.1 3) - 1) 20 (if (3 : Int32) ≤ Z.2.1 1 (((Z.1 3) - 1).toNatClampNeg) then some (si Z 3 ((Z.1 3) - 1), S) else gin ((Z.1 3) - 1) 20 (gin ((Z.1 3) - 1) 20 (gin (Z.2.1 1 (((Z.1 3) - 1).toNatClampNeg)) 3 (some (si Z 3 ((Z.1 3) - 1), sr S 3 ((Z.2.1 1 (((Z.1 3) - 1).toNatClampNeg)).toNatClampNeg) (Z.2.1 2 (((Z.1 3) - 1).toNatClampNeg)))))))) else gin ((Z.1 3) - 1) 20 (if Z.2.1 1 (((Z.1 3) - 1).toNatClampNeg) < 0 then some (si Z 3 ((Z.1 3) - 1), S) else gin ((Z.1 3) - 1) 20 (if (3 : Int32) ≤ Z.2.1 1 (((Z.1 3) - 1).toNatClampNeg) then some (si Z 3 ((Z.1 3) - 1), S) else gin ((Z.1 3) - 1) 20 (gin ((Z.1 3) - 1) 20 (gin (Z.2.1 1 (((Z.1 3) - 1).toNatClampNeg)) 3 (some (si Z 3 ((Z.1 3) - 1), sr S 4 ((Z.2.1 1 (((Z.1 3) - 1).toNatClampNeg)).toNatClampNeg) (Z.2.1 2 (((Z.1 3) - 1).toNatClampNeg)))))))))) else some (Z, S)
set_option maxHeartbeats 4000000 in
set_option maxRecDepth 100000 in
theorem k_X2_takeBack (l : Launch) (G : va_G) (cy : Nat → ClassId) (ev : Nat → Nat) (adZ : Nat → Nat) (Z : VV) (adS : Nat → Nat) (S : VV)  (res : VV × VV) (h : f_X2_takeBack Z S = some res) : MetV l yX2_takeBack cX2_takeBack 3 none 0 0 G cy ev [.ref (adZ 0), .ref (adS 0)] (wj [cX2 cy adZ Z, cX8 cy adS S]) (wj [cX2 cy adZ res.1, cX8 cy adS res.2]) := by
  refine MetQ.start (by decide +kernel) (Nat.le_of_ble_eq_true rfl) (fun p e s m args below meth c A ls hx hb hr hml hown hts hlocks hK hP hD hA hl hE => ?_)
  have hS : va_S A s.heap s.heap [] := va_S.rf
  have hown : s.vm.findClass RX2 = some m.cls := hown
  have hl : lv_has ls 3 [(0, .ref (adZ 0)), (1, .ref (adS 0))] := hl
  delta f_X2_takeBack at h
  refine lv_aload_n hx hb dX2_takeBack_0 rfl (lv_at hl 0 rfl) ?_
  refine go_2_21 (ci := 0) (x := Z.1 3) hx hb hts hown hK hE hP rfl rfl dX2_takeBack_1 ?_
  refine lv_iconst (v := 1) hx hb dX2_takeBack_4 (by decide) ?_
  refine lv_icmp_ge (tgt := 9) hx hb dX2_takeBack_5 (by decide) (fun c9 => ?_) (fun c9 => ?_)
  · replace h := (br h).1 c9
    refine lv_aload_n hx hb dX2_takeBack_9 rfl (lv_at hl 0 rfl) ?_
    refine lv_dup hx hb dX2_takeBack_10 rfl ?_
    refine go_2_21 (ci := 0) (x := Z.1 3) hx hb hts hown hK hE hP rfl rfl dX2_takeBack_11 ?_
    refine lv_iconst (v := 1) hx hb dX2_takeBack_14 (by decide) ?_
    refine lv_isub hx hb dX2_takeBack_15 ?_
    refine po_2_21 (ci := 0) (cs' := [cX2 cy adZ (si Z 3 ((Z.1 3) - 1)), cX8 cy adS S]) hx hb hts hown hK hE hP hD hS rfl rfl dX2_takeBack_16 (fun H locs hP hD hS => ?_)
    refine lv_aload_n hx hb dX2_takeBack_19 rfl (lv_at hl 0 rfl) ?_
    refine go_2_9 (ci := 0) hx hb hts hown hK hE hP rfl dX2_takeBack_20 ?_
    refine lv_aload_n hx hb dX2_takeBack_23 rfl (lv_at hl 0 rfl) ?_
    refine go_2_21 (ci := 0) (x := (Z.1 3) - 1) hx hb hts hown hK hE hP rfl rfl dX2_takeBack_24 ?_
    replace h := gin_inv h
    obtain ⟨h9, h⟩ := h
    refine ldWI (ci := 0) (k0 := 1) (g := Z.2.1 0) (j := ((Z.1 3) - 1).toNatClampNeg) hx hb hK hP rfl cX2_a0 rfl h9 rfl dX2_takeBack_27 ?_
    refine lv_if_ne (tgt := 38) hx hb dX2_takeBack_28 (by decide) (fun c9 => ?_) (fun c9 => ?_)
    · replace h := (br h).2 c9
      refine lv_aload_n hx hb dX2_takeBack_38 rfl (lv_at hl 0 rfl) ?_
      refine go_2_9 (ci := 0) hx hb hts hown hK hE hP rfl dX2_takeBack_39 ?_
      refine lv_aload_n hx hb dX2_takeBack_42 rfl (lv_at hl 0 rfl) ?_
      refine go_2_21 (ci := 0) (x := (Z.1 3) - 1) hx hb hts hown hK hE hP rfl rfl dX2_takeBack_43 ?_
      replace h := gin_inv h
      obtain ⟨h9, h⟩ := h
      refine ldWI (ci := 0) (k0 := 1) (g := Z.2.1 0) (j := ((Z.1 3) - 1).toNatClampNeg) hx hb hK hP rfl cX2_a0 rfl h9 rfl dX2_takeBack_46 ?_
      refine lv_iconst (v := 1) hx hb dX2_takeBack_47 (by decide) ?_
      refine lv_icmp_ne (tgt := 58) hx hb dX2_takeBack_48 (by decide) (fun c9 => ?_) (fun c9 => ?_)
      · replace h := (br h).2 c9
        refine lv_aload_n hx hb dX2_takeBack_58 rfl (lv_at hl 1 rfl) ?_
        refine go_2_39 (ci := 1) hx hb hts hown hK hE hP rfl dX2_takeBack_59 ?_
        refine lv_astore_n (lv' := [(2, .ref (adS 5)), (0, .ref (adZ 0)), (1, .ref (adS 0))]) hx hb dX2_takeBack_62 rfl hl (by decide) rfl (fun ls hl => ?_)
        refine lv_aload_n hx hb dX2_takeBack_63 rfl (lv_at hl 1 rfl) ?_
        refine go_2_15 (ci := 0) hx hb hts hown hK hE hP rfl dX2_takeBack_64 ?_
        refine lv_aload_n hx hb dX2_takeBack_67 rfl (lv_at hl 1 rfl) ?_
        refine go_2_21 (ci := 0) (x := (Z.1 3) - 1) hx hb hts hown hK hE hP rfl rfl dX2_takeBack_68 ?_
        replace h := gin_inv h
        obtain ⟨h9, h⟩ := h
        refine ldWI (ci := 0) (k0 := 2) (g := Z.2.1 1) (j := ((Z.1 3) - 1).toNatClampNeg) hx hb hK hP rfl cX2_a1 rfl h9 rfl dX2_takeBack_71 ?_
        refine lv_if_lt (tgt := 109) hx hb dX2_takeBack_72 (by decide) (fun c9 => ?_) (fun c9 => ?_)
        · replace h := (br h).1 c9
          exact retV (fw := fun q => wj [cX2 cy adZ q.1, cX8 cy adS q.2]) h hx hb hr hlocks hK hP hD hS dX2_takeBack_109
        · replace h := (br h).2 c9
          refine lv_aload_n hx hb dX2_takeBack_75 rfl (lv_at hl 1 rfl) ?_
          refine go_2_15 (ci := 0) hx hb hts hown hK hE hP rfl dX2_takeBack_76 ?_
          refine lv_aload_n hx hb dX2_takeBack_79 rfl (lv_at hl 1 rfl) ?_
          refine go_2_21 (ci := 0) (x := (Z.1 3) - 1) hx hb hts hown hK hE hP rfl rfl dX2_takeBack_80 ?_
          replace h := gin_inv h
          obtain ⟨h9, h⟩ := h
          refine ldWI (ci := 0) (k0 := 2) (g := Z.2.1 1) (j := ((Z.1 3) - 1).toNatClampNeg) hx hb hK hP rfl cX2_a1 rfl h9 rfl dX2_takeBack_83 ?_
          refine lv_aload_n hx hb dX2_takeBack_84 rfl (lv_at hl 0 rfl) ?_
          refine alW (v := 3) (tk := 1) (ci := 1) (k0 := 3) hx hb hK hP rfl cX8_a4 rfl (by decide) dX2_takeBack_85 ?_
          refine lv_icmp_ge (tgt := 109) hx hb dX2_takeBack_86 (by decide) (fun c9 => ?_) (fun c9 => ?_)
          · replace h := (br h).1 c9
            exact retV (fw := fun q => wj [cX2 cy adZ q.1, cX8 cy adS q.2]) h hx hb hr hlocks hK hP hD hS dX2_takeBack_109
          · replace h := (br h).2 c9
            refine lv_aload_n hx hb dX2_takeBack_89 rfl (lv_at hl 0 rfl) ?_
            refine lv_aload_n hx hb dX2_takeBack_90 rfl (lv_at hl 1 rfl) ?_
            refine go_2_15 (ci := 0) hx hb hts hown hK hE hP rfl dX2_takeBack_91 ?_
            refine lv_aload_n hx hb dX2_takeBack_94 rfl (lv_at hl 1 rfl) ?_
            refine go_2_21 (ci := 0) (x := (Z.1 3) - 1) hx hb hts hown hK hE hP rfl rfl dX2_takeBack_95 ?_
            replace h := gin_inv h
            obtain ⟨h9, h⟩ := h
            refine ldWI (ci := 0) (k0 := 2) (g := Z.2.1 1) (j := ((Z.1 3) - 1).toNatClampNeg) hx hb hK hP rfl cX2_a1 rfl h9 rfl dX2_takeBack_98 ?_
            refine lv_aload_n hx hb dX2_takeBack_99 rfl (lv_at hl 1 rfl) ?_
            refine go_2_18 (ci := 0) hx hb hts hown hK hE hP rfl dX2_takeBack_100 ?_
            refine lv_aload_n hx hb dX2_takeBack_103 rfl (lv_at hl 1 rfl) ?_
            refine go_2_21 (ci := 0) (x := (Z.1 3) - 1) hx hb hts hown hK hE hP rfl rfl dX2_takeBack_104 ?_
            replace h := gin_inv h
            obtain ⟨h9, h⟩ := h
            refine ldWI (ci := 0) (k0 := 3) (g := Z.2.1 2) (j := ((Z.1 3) - 1).toNatClampNeg) hx hb hK hP rfl cX2_a2 rfl h9 rfl dX2_takeBack_107 ?_
            replace h := gin_inv h
            obtain ⟨h9, h⟩ := h
            refine stWI (ci := 1) (k0 := 3) (j := (Z.2.1 1 (((Z.1 3) - 1).toNatClampNeg)).toNatClampNeg) (cs' := [cX2 cy adZ (si Z 3 ((Z.1 3) - 1)), cX8 cy adS (sr S 4 ((Z.2.1 1 (((Z.1 3) - 1).toNatClampNeg)).toNatClampNeg) (Z.2.1 2 (((Z.1 3) - 1).toNatClampNeg)))]) hx hb hK hP hD hS rfl cX8_a4 h9 rfl cX8_s4 rfl dX2_takeBack_108 (fun H locs hP hD hS => ?_)
            exact retV (fw := fun q => wj [cX2 cy adZ q.1, cX8 cy adS q.2]) h hx hb hr hlocks hK hP hD hS dX2_takeBack_109
      · replace h := (br h).1 c9
        refine lv_aload_n hx hb dX2_takeBack_51 rfl (lv_at hl 1 rfl) ?_
        refine go_2_36 (ci := 1) hx hb hts hown hK hE hP rfl dX2_takeBack_52 ?_
        refine lv_goto (tgt := 62) hx hb dX2_takeBack_55 (by decide) ?_
        refine lv_astore_n (lv' := [(2, .ref (adS 4)), (0, .ref (adZ 0)), (1, .ref (adS 0))]) hx hb dX2_takeBack_62 rfl hl (by decide) rfl (fun ls hl => ?_)
        refine lv_aload_n hx hb dX2_takeBack_63 rfl (lv_at hl 1 rfl) ?_
        refine go_2_15 (ci := 0) hx hb hts hown hK hE hP rfl dX2_takeBack_64 ?_
        refine lv_aload_n hx hb dX2_takeBack_67 rfl (lv_at hl 1 rfl) ?_
        refine go_2_21 (ci := 0) (x := (Z.1 3) - 1) hx hb hts hown hK hE hP rfl rfl dX2_takeBack_68 ?_
        replace h := gin_inv h
        obtain ⟨h9, h⟩ := h
        refine ldWI (ci := 0) (k0 := 2) (g := Z.2.1 1) (j := ((Z.1 3) - 1).toNatClampNeg) hx hb hK hP rfl cX2_a1 rfl h9 rfl dX2_takeBack_71 ?_
        refine lv_if_lt (tgt := 109) hx hb dX2_takeBack_72 (by decide) (fun c9 => ?_) (fun c9 => ?_)
        · replace h := (br h).1 c9
          exact retV (fw := fun q => wj [cX2 cy adZ q.1, cX8 cy adS q.2]) h hx hb hr hlocks hK hP hD hS dX2_takeBack_109
        · replace h := (br h).2 c9
          refine lv_aload_n hx hb dX2_takeBack_75 rfl (lv_at hl 1 rfl) ?_
          refine go_2_15 (ci := 0) hx hb hts hown hK hE hP rfl dX2_takeBack_76 ?_
          refine lv_aload_n hx hb dX2_takeBack_79 rfl (lv_at hl 1 rfl) ?_
          refine go_2_21 (ci := 0) (x := (Z.1 3) - 1) hx hb hts hown hK hE hP rfl rfl dX2_takeBack_80 ?_
          replace h := gin_inv h
          obtain ⟨h9, h⟩ := h
          refine ldWI (ci := 0) (k0 := 2) (g := Z.2.1 1) (j := ((Z.1 3) - 1).toNatClampNeg) hx hb hK hP rfl cX2_a1 rfl h9 rfl dX2_takeBack_83 ?_
          refine lv_aload_n hx hb dX2_takeBack_84 rfl (lv_at hl 0 rfl) ?_
          refine alW (v := 3) (tk := 1) (ci := 1) (k0 := 2) hx hb hK hP rfl cX8_a3 rfl (by decide) dX2_takeBack_85 ?_
          refine lv_icmp_ge (tgt := 109) hx hb dX2_takeBack_86 (by decide) (fun c9 => ?_) (fun c9 => ?_)
          · replace h := (br h).1 c9
            exact retV (fw := fun q => wj [cX2 cy adZ q.1, cX8 cy adS q.2]) h hx hb hr hlocks hK hP hD hS dX2_takeBack_109
          · replace h := (br h).2 c9
            refine lv_aload_n hx hb dX2_takeBack_89 rfl (lv_at hl 0 rfl) ?_
            refine lv_aload_n hx hb dX2_takeBack_90 rfl (lv_at hl 1 rfl) ?_
            refine go_2_15 (ci := 0) hx hb hts hown hK hE hP rfl dX2_takeBack_91 ?_
            refine lv_aload_n hx hb dX2_takeBack_94 rfl (lv_at hl 1 rfl) ?_
            refine go_2_21 (ci := 0) (x := (Z.1 3) - 1) hx hb hts hown hK hE hP rfl rfl dX2_takeBack_95 ?_
            replace h := gin_inv h
            obtain ⟨h9, h⟩ := h
            refine ldWI (ci := 0) (k0 := 2) (g := Z.2.1 1) (j := ((Z.1 3) - 1).toNatClampNeg) hx hb hK hP rfl cX2_a1 rfl h9 rfl dX2_takeBack_98 ?_
            refine lv_aload_n hx hb dX2_takeBack_99 rfl (lv_at hl 1 rfl) ?_
            refine go_2_18 (ci := 0) hx hb hts hown hK hE hP rfl dX2_takeBack_100 ?_
            refine lv_aload_n hx hb dX2_takeBack_103 rfl (lv_at hl 1 rfl) ?_
            refine go_2_21 (ci := 0) (x := (Z.1 3) - 1) hx hb hts hown hK hE hP rfl rfl dX2_takeBack_104 ?_
            replace h := gin_inv h
            obtain ⟨h9, h⟩ := h
            refine ldWI (ci := 0) (k0 := 3) (g := Z.2.1 2) (j := ((Z.1 3) - 1).toNatClampNeg) hx hb hK hP rfl cX2_a2 rfl h9 rfl dX2_takeBack_107 ?_
            replace h := gin_inv h
            obtain ⟨h9, h⟩ := h
            refine stWI (ci := 1) (k0 := 2) (j := (Z.2.1 1 (((Z.1 3) - 1).toNatClampNeg)).toNatClampNeg) (cs' := [cX2 cy adZ (si Z 3 ((Z.1 3) - 1)), cX8 cy adS (sr S 3 ((Z.2.1 1 (((Z.1 3) - 1).toNatClampNeg)).toNatClampNeg) (Z.2.1 2 (((Z.1 3) - 1).toNatClampNeg)))]) hx hb hK hP hD hS rfl cX8_a3 h9 rfl cX8_s3 rfl dX2_takeBack_108 (fun H locs hP hD hS => ?_)
            exact retV (fw := fun q => wj [cX2 cy adZ q.1, cX8 cy adS q.2]) h hx hb hr hlocks hK hP hD hS dX2_takeBack_109
    · replace h := (br h).1 c9
      refine lv_aload_n hx hb dX2_takeBack_31 rfl (lv_at hl 1 rfl) ?_
      refine go_2_31 (ci := 1) hx hb hts hown hK hE hP rfl dX2_takeBack_32 ?_
      refine lv_goto (tgt := 62) hx hb dX2_takeBack_35 (by decide) ?_
      refine lv_astore_n (lv' := [(2, .ref (adS 3)), (0, .ref (adZ 0)), (1, .ref (adS 0))]) hx hb dX2_takeBack_62 rfl hl (by decide) rfl (fun ls hl => ?_)
      refine lv_aload_n hx hb dX2_takeBack_63 rfl (lv_at hl 1 rfl) ?_
      refine go_2_15 (ci := 0) hx hb hts hown hK hE hP rfl dX2_takeBack_64 ?_
      refine lv_aload_n hx hb dX2_takeBack_67 rfl (lv_at hl 1 rfl) ?_
      refine go_2_21 (ci := 0) (x := (Z.1 3) - 1) hx hb hts hown hK hE hP rfl rfl dX2_takeBack_68 ?_
      replace h := gin_inv h
      obtain ⟨h9, h⟩ := h
      refine ldWI (ci := 0) (k0 := 2) (g := Z.2.1 1) (j := ((Z.1 3) - 1).toNatClampNeg) hx hb hK hP rfl cX2_a1 rfl h9 rfl dX2_takeBack_71 ?_
      refine lv_if_lt (tgt := 109) hx hb dX2_takeBack_72 (by decide) (fun c9 => ?_) (fun c9 => ?_)
      · replace h := (br h).1 c9
        exact retV (fw := fun q => wj [cX2 cy adZ q.1, cX8 cy adS q.2]) h hx hb hr hlocks hK hP hD hS dX2_takeBack_109
      · replace h := (br h).2 c9
        refine lv_aload_n hx hb dX2_takeBack_75 rfl (lv_at hl 1 rfl) ?_
        refine go_2_15 (ci := 0) hx hb hts hown hK hE hP rfl dX2_takeBack_76 ?_
        refine lv_aload_n hx hb dX2_takeBack_79 rfl (lv_at hl 1 rfl) ?_
        refine go_2_21 (ci := 0) (x := (Z.1 3) - 1) hx hb hts hown hK hE hP rfl rfl dX2_takeBack_80 ?_
        replace h := gin_inv h
        obtain ⟨h9, h⟩ := h
        refine ldWI (ci := 0) (k0 := 2) (g := Z.2.1 1) (j := ((Z.1 3) - 1).toNatClampNeg) hx hb hK hP rfl cX2_a1 rfl h9 rfl dX2_takeBack_83 ?_
        refine lv_aload_n hx hb dX2_takeBack_84 rfl (lv_at hl 0 rfl) ?_
        refine alW (v := 8) (tk := 1) (ci := 1) (k0 := 1) hx hb hK hP rfl cX8_a2 rfl (by decide) dX2_takeBack_85 ?_
        refine lv_icmp_ge (tgt := 109) hx hb dX2_takeBack_86 (by decide) (fun c9 => ?_) (fun c9 => ?_)
        · replace h := (br h).1 c9
          exact retV (fw := fun q => wj [cX2 cy adZ q.1, cX8 cy adS q.2]) h hx hb hr hlocks hK hP hD hS dX2_takeBack_109
        · replace h := (br h).2 c9
          refine lv_aload_n hx hb dX2_takeBack_89 rfl (lv_at hl 0 rfl) ?_
          refine lv_aload_n hx hb dX2_takeBack_90 rfl (lv_at hl 1 rfl) ?_
          refine go_2_15 (ci := 0) hx hb hts hown hK hE hP rfl dX2_takeBack_91 ?_
          refine lv_aload_n hx hb dX2_takeBack_94 rfl (lv_at hl 1 rfl) ?_
          refine go_2_21 (ci := 0) (x := (Z.1 3) - 1) hx hb hts hown hK hE hP rfl rfl dX2_takeBack_95 ?_
          replace h := gin_inv h
          obtain ⟨h9, h⟩ := h
          refine ldWI (ci := 0) (k0 := 2) (g := Z.2.1 1) (j := ((Z.1 3) - 1).toNatClampNeg) hx hb hK hP rfl cX2_a1 rfl h9 rfl dX2_takeBack_98 ?_
          refine lv_aload_n hx hb dX2_takeBack_99 rfl (lv_at hl 1 rfl) ?_
          refine go_2_18 (ci := 0) hx hb hts hown hK hE hP rfl dX2_takeBack_100 ?_
          refine lv_aload_n hx hb dX2_takeBack_103 rfl (lv_at hl 1 rfl) ?_
          refine go_2_21 (ci := 0) (x := (Z.1 3) - 1) hx hb hts hown hK hE hP rfl rfl dX2_takeBack_104 ?_
          replace h := gin_inv h
          obtain ⟨h9, h⟩ := h
          refine ldWI (ci := 0) (k0 := 3) (g := Z.2.1 2) (j := ((Z.1 3) - 1).toNatClampNeg) hx hb hK hP rfl cX2_a2 rfl h9 rfl dX2_takeBack_107 ?_
          replace h := gin_inv h
          obtain ⟨h9, h⟩ := h
          refine stWI (ci := 1) (k0 := 1) (j := (Z.2.1 1 (((Z.1 3) - 1).toNatClampNeg)).toNatClampNeg) (cs' := [cX2 cy adZ (si Z 3 ((Z.1 3) - 1)), cX8 cy adS (sr S 2 ((Z.2.1 1 (((Z.1 3) - 1).toNatClampNeg)).toNatClampNeg) (Z.2.1 2 (((Z.1 3) - 1).toNatClampNeg)))]) hx hb hK hP hD hS rfl cX8_a2 h9 rfl cX8_s2 rfl dX2_takeBack_108 (fun H locs hP hD hS => ?_)
          exact retV (fw := fun q => wj [cX2 cy adZ q.1, cX8 cy adS q.2]) h hx hb hr hlocks hK hP hD hS dX2_takeBack_109
  · replace h := (br h).2 c9
    exact retV (fw := fun q => wj [cX2 cy adZ q.1, cX8 cy adS q.2]) h hx hb hr hlocks hK hP hD hS dX2_takeBack_8
