theorem hds_X11_text : yX11_text.cls ≠ "java/lang/invoke/MethodHandle" ∧ yX11_text.cls ≠ "java/lang/invoke/VarHandle" ∧ (parseMethodDescriptor yX11_text.desc).map (fun d => d.parameters.length) = some 1 := ⟨by decide +kernel, by decide +kernel, by decide +kernel⟩
theorem hd_X11_text : yX11_text.cls = RX11 ∧ yX11_text.cls ≠ "java/lang/invoke/MethodHandle" ∧ yX11_text.cls ≠ "java/lang/invoke/VarHandle" ∧ (parseMethodDescriptor yX11_text.desc).map (fun d => d.parameters.length) = some 1 := ⟨rfl, hds_X11_text⟩
theorem pr_11_29 {p : Program} {l : Launch} {e : Env} {R : Room} {s : State} {m : MethodId} {args : Array Value} {below : List Frame} {meth : Method} {c : Code} {H : Heap} {locs : List Loc} {Q : State → Prop} {cc : ByteArray} {pc : Nat} {ls : Array Slot} {rest : List Value} {A : Nat → Prop} {G : va_G} {cy : Nat → ClassId} {ev : Nat → Nat} {cs cs' : List va_W} {ci : Nat} {ad : Nat → Nat} {v : VV} {r0 r2 r3 r4 r5 r7 r8 r9 r10 r11 r12 r13 r14 r15 r16 : Nat} {x : Nat} (hx : p.tables.exec = Jvm.exec) (hb : c.code = cc) (hts : ∀ w ∈ WL, w.before args s = true) (hown : s.vm.findClass RX11 = some m.cls) (hK : va_K G vwCl (tysX cy) s) (hE : EV ev A s s.heap) (hP : va_P G vwCl (wj cs) H) (hD : va_D A (wj cs)) (hS : va_S A s.heap H locs) (hi : cs[ci]? = some (cX11 cy ad r0 r2 r3 r4 r5 r7 r8 r9 r10 r11 r12 r13 r14 r15 r16 v)) (hcs : cs.set ci (cX11 cy ad r0 r2 x r4 r5 r7 r8 r9 r10 r11 r12 r13 r14 r15 r16 v) = cs') (hdg : decode cc pc = .ok (.putfield 29, 3)) (kk : ∀ (H1 : Heap) (locs1 : List Loc), va_P G vwCl (wj cs') H1 → va_D A (wj cs') → va_S A s.heap H1 locs1 → W p l e R s m args below meth c H1 locs1 0 0 Q (F0 m (pc + 3) ls rest)) : W p l e R s m args below meth c H locs 0 0 Q (F0 m pc ls (.ref x :: .ref (ad 0) :: rest)) := by
  subst hcs
  refine va_put (D := G) (ci := 11) (v := .ref x) (ty := tyX11 3) (C := RX11) (T := TX11) (N := 17) hx hb hts inW11 tyX11 tyX11_ok nmX11 hown hK hP hD hS _ (wj_get hi cX11_o) rfl 3 (by decide) (hts _ wm_1_23) (fun _ h9 => h9) rfl (by decide +kernel) rfl rfl (Nat.le_of_ble_eq_true rfl) hdg ?_
  rw [wj_set hi (Nat.le_of_ble_eq_true rfl)]
  exact kk
theorem pr_11_117 {p : Program} {l : Launch} {e : Env} {R : Room} {s : State} {m : MethodId} {args : Array Value} {below : List Frame} {meth : Method} {c : Code} {H : Heap} {locs : List Loc} {Q : State → Prop} {cc : ByteArray} {pc : Nat} {ls : Array Slot} {rest : List Value} {A : Nat → Prop} {G : va_G} {cy : Nat → ClassId} {ev : Nat → Nat} {cs cs' : List va_W} {ci : Nat} {ad : Nat → Nat} {v : VV} {r0 r1 : Nat} {x : Nat} (hx : p.tables.exec = Jvm.exec) (hb : c.code = cc) (hts : ∀ w ∈ WL, w.before args s = true) (hown : s.vm.findClass RX11 = some m.cls) (hK : va_K G vwCl (tysX cy) s) (hE : EV ev A s s.heap) (hP : va_P G vwCl (wj cs) H) (hD : va_D A (wj cs)) (hS : va_S A s.heap H locs) (hi : cs[ci]? = some (cX7 cy ad r0 r1 v)) (hcs : cs.set ci (cX7 cy ad r0 x v) = cs') (hdg : decode cc pc = .ok (.putfield 117, 3)) (kk : ∀ (H1 : Heap) (locs1 : List Loc), va_P G vwCl (wj cs') H1 → va_D A (wj cs') → va_S A s.heap H1 locs1 → W p l e R s m args below meth c H1 locs1 0 0 Q (F0 m (pc + 3) ls rest)) : W p l e R s m args below meth c H locs 0 0 Q (F0 m pc ls (.ref x :: .ref (ad 0) :: rest)) := by
  subst hcs
  refine va_putN (D := G) (ci := 7) (v := .ref x) (ty := tyX7 1) (C := RX7) (T := TX7) (N := 7) hx hb hts inW7 tyX7 tyX7_ok nmX7 hown hK hP hD hS _ (wj_get hi cX7_o) rfl 1 (by decide) (ef_11_117 hE) (fun _ h9 => h9) rfl (by decide +kernel) rfl rfl (Nat.le_of_ble_eq_true rfl) hdg ?_
  rw [wj_set hi (Nat.le_of_ble_eq_true rfl)]
  exact kk
def f_X11_text (N : Nat) (X : VV) (T : Nat → Int32) (R : VV) (K : VV) (Q : VV) (M : VV) (S : VV) (Z : VV) (U : VV) (D : VV) (E : VV) (a1 : Int32) : Option (Int32 × Bool × VV × VV × VV × VV × VV × VV × VV × VV × VV × VV) :=
  if a1 < 0 then some ((-2), false, X, R, K, Q, M, S, Z, U, D, E) else if a1 ≤ X.1 1 then bnd (f_X7_read N R K Q M T a1) (fun q1 => if q1.1 = 0 then some ((-1), false, si X 1 0, q1.2.1, q1.2.2.1, q1.2.2.2.1, q1.2.2.2.2, S, Z, U, D, E) else bnd (f_X8_begin N S q1.2.2.2.1) (fun q3 => bnd (f_X5_clear U) (fun q5 => some (q1.2.1.1 4, true, si (si X 1 0) 6 0, q1.2.1, q1.2.2.1, q1.2.2.2.1, q1.2.2.2.2, q3, si Z 3 0, q5, si D 6 0, si E 3 0)))) else some ((-2), false, X, R, K, Q, M, S, Z, U, D, E)
set_option maxHeartbeats 4000000 in
set_option maxRecDepth 100000 in
theorem k_X11_text (l : Launch) (G : va_G) (cy : Nat → ClassId) (ev : Nat → Nat) (N : Nat) (adX : Nat → Nat) (xP : Nat) (xIm : Nat) (xTr : Nat) (xC : Nat) (xWa : Nat) (xWb : Nat) (xWo : Nat) (xB : Nat) (X : VV) (adT : Nat) (T : Nat → Int32) (adR : Nat → Nat) (R : VV) (adK : Nat → Nat) (K : VV) (adQ : Nat → Nat) (Q : VV) (adM : Nat → Nat) (M : VV) (adS : Nat → Nat) (S : VV) (adZ : Nat → Nat) (Z : VV) (adU : Nat → Nat) (U : VV) (adD : Nat → Nat) (D : VV) (adE : Nat → Nat) (E : VV) (a1 : Int32) (res : Int32 × Bool × VV × VV × VV × VV × VV × VV × VV × VV × VV × VV) (h : f_X11_text N X T R K Q M S Z U D E a1 = some res) : MetI l yX11_text cX11_text 3 (some .int) 216 4684 G cy ev [.ref (adX 0), .int a1] (wj [cX11 cy adX adT (adR 0) xP (adS 0) xIm xTr xC xWa xWb xWo (adZ 0) (adU 0) (adD 0) (adE 0) xB X, [(adT, .inl (cy 0, 700, .inl T))], cX7 cy adR (adK 0) (adQ 0) R, cX9 cy adK K, cX6 cy adQ (adM 0) Q, cX3 cy adM M, cX8 cy adS S, cX2 cy adZ Z, cX5 cy adU U, cX1 cy adD D, cX4 cy adE E]) res.1 (wj [cX11 cy adX adT (adR 0) (bif res.2.1 then adQ 0 else xP) (adS 0) xIm xTr xC xWa xWb xWo (adZ 0) (adU 0) (adD 0) (adE 0) xB res.2.2.1, [(adT, .inl (cy 0, 700, .inl T))], cX7 cy adR (adK 0) (bif res.2.1 then xP else adQ 0) res.2.2.2.1, cX9 cy adK res.2.2.2.2.1, cX6 cy adQ (adM 0) res.2.2.2.2.2.1, cX3 cy adM res.2.2.2.2.2.2.1, cX8 cy adS res.2.2.2.2.2.2.2.1, cX2 cy adZ res.2.2.2.2.2.2.2.2.1, cX5 cy adU res.2.2.2.2.2.2.2.2.2.1, cX1 cy adD res.2.2.2.2.2.2.2.2.2.2.1, cX4 cy adE res.2.2.2.2.2.2.2.2.2.2.2]) := by
  refine MetQ.start (by decide +kernel) (Nat.le_of_ble_eq_true rfl) (fun p e s m args below meth c A ls hx hb hr hml hown hts hlocks hK hP hD hA hl hE => ?_)
  have hS : va_S A s.heap s.heap [] := va_S.rf
  have hown : s.vm.findClass RX11 = some m.cls := hown
  have hl : lv_has ls 3 [(0, .ref (adX 0)), (1, .int a1)] := hl
  delta f_X11_text at h
  refine lv_iload_n hx hb dX11_text_0 rfl (lv_at hl 1 rfl) ?_
  refine lv_if_lt (tgt := 12) hx hb dX11_text_1 (by decide) (fun c9 => ?_) (fun c9 => ?_)
  · replace h := (br h).1 c9
    refine lv_bipush (v := (-2)) hx hb dX11_text_12 (by decide) ?_
    exact retI (fr := fun q => q.1) (fw := fun (q : Int32 × Bool × VV × VV × VV × VV × VV × VV × VV × VV × VV × VV) => wj [cX11 cy adX adT (adR 0) (bif q.2.1 then adQ 0 else xP) (adS 0) xIm xTr xC xWa xWb xWo (adZ 0) (adU 0) (adD 0) (adE 0) xB q.2.2.1, [(adT, .inl (cy 0, 700, .inl T))], cX7 cy adR (adK 0) (bif q.2.1 then xP else adQ 0) q.2.2.2.1, cX9 cy adK q.2.2.2.2.1, cX6 cy adQ (adM 0) q.2.2.2.2.2.1, cX3 cy adM q.2.2.2.2.2.2.1, cX8 cy adS q.2.2.2.2.2.2.2.1, cX2 cy adZ q.2.2.2.2.2.2.2.2.1, cX5 cy adU q.2.2.2.2.2.2.2.2.2.1, cX1 cy adD q.2.2.2.2.2.2.2.2.2.2.1, cX4 cy adE q.2.2.2.2.2.2.2.2.2.2.2]) h hx hb hr hlocks hK hP hD hS dX11_text_14
  · replace h := (br h).2 c9
    refine lv_iload_n hx hb dX11_text_4 rfl (lv_at hl 1 rfl) ?_
    refine lv_aload_n hx hb dX11_text_5 rfl (lv_at hl 0 rfl) ?_
    refine go_11_15 (ci := 0) (x := X.1 1) hx hb hts hown hK hE hP rfl rfl dX11_text_6 ?_
    refine lv_icmp_le (tgt := 15) hx hb dX11_text_9 (by decide) (fun c9 => ?_) (fun c9 => ?_)
    · replace h := (br h).1 c9
      refine lv_aload_n hx hb dX11_text_15 rfl (lv_at hl 0 rfl) ?_
      refine lv_iconst (v := 0) hx hb dX11_text_16 (by decide) ?_
      refine po_11_15 (ci := 0) (cs' := [cX11 cy adX adT (adR 0) xP (adS 0) xIm xTr xC xWa xWb xWo (adZ 0) (adU 0) (adD 0) (adE 0) xB (si X 1 0), [(adT, .inl (cy 0, 700, .inl T))], cX7 cy adR (adK 0) (adQ 0) R, cX9 cy adK K, cX6 cy adQ (adM 0) Q, cX3 cy adM M, cX8 cy adS S, cX2 cy adZ Z, cX5 cy adU U, cX1 cy adD D, cX4 cy adE E]) hx hb hts hown hK hE hP hD hS rfl rfl dX11_text_17 (fun H locs hP hD hS => ?_)
      refine lv_aload_n hx hb dX11_text_20 rfl (lv_at hl 0 rfl) ?_
      refine go_11_22 (ci := 0) hx hb hts hown hK hE hP rfl dX11_text_21 ?_
      refine lv_aload_n hx hb dX11_text_24 rfl (lv_at hl 0 rfl) ?_
      refine go_11_11 (ci := 0) hx hb hts hown hK hE hP rfl dX11_text_25 ?_
      refine lv_iload_n hx hb dX11_text_28 rfl (lv_at hl 1 rfl) ?_
      replace h := bd h
      obtain ⟨q1, h2, h⟩ := h
      refine callWVi (As := [.ref adT, .int a1]) (rest := []) (cs' := [cX11 cy adX adT (adR 0) xP (adS 0) xIm xTr xC xWa xWb xWo (adZ 0) (adU 0) (adD 0) (adE 0) xB (si X 1 0), [(adT, .inl (cy 0, 700, .inl T))], cX7 cy adR (adK 0) (adQ 0) q1.2.1, cX9 cy adK q1.2.2.1, cX6 cy adQ (adM 0) q1.2.2.2.1, cX3 cy adM q1.2.2.2.2, cX8 cy adS S, cX2 cy adZ Z, cX5 cy adU U, cX1 cy adD D, cX4 cy adE E]) (isC := [2, 3, 4, 5, 1]) (isR := [0, 6, 7, 8, 9, 10]) hx hb hml hown hts (k_X7_read l G cy ev N adR R adK K adQ Q adM M adT T a1 q1 h2) wm_12_1 wm_12_2 wm_12_3 wm_1_18 wm_12_4 hd_X7_read ⟨by decide, by decide⟩ hK hP hD hS hA hE rfl rfl rfl (cov_of (n := 11) rfl (by decide)) (by decide) rfl (recvW (ci := 2) hK hP rfl cX7_o rfl) rfl rfl hl.1 (Nat.le_of_ble_eq_true rfl) dX11_text_29 (fun H locs hP hD hS => ?_)
      refine lv_if_ne (tgt := 37) hx hb dX11_text_32 (by decide) (fun c9 => ?_) (fun c9 => ?_)
      · replace h := (br h).2 c9
        refine lv_aload_n hx hb dX11_text_37 rfl (lv_at hl 0 rfl) ?_
        refine go_11_29 (ci := 0) hx hb hts hown hK hE hP rfl dX11_text_38 ?_
        refine lv_astore_n (lv' := [(2, .ref xP), (0, .ref (adX 0)), (1, .int a1)]) hx hb dX11_text_41 rfl hl (by decide) rfl (fun ls hl => ?_)
        refine lv_aload_n hx hb dX11_text_42 rfl (lv_at hl 1 rfl) ?_
        refine lv_aload_n hx hb dX11_text_43 rfl (lv_at hl 1 rfl) ?_
        refine go_11_22 (ci := 0) hx hb hts hown hK hE hP rfl dX11_text_44 ?_
        refine go_11_117 (ci := 2) hx hb hts hown hK hE hP rfl dX11_text_47 ?_
        refine pr_11_29 (ci := 0) (cs' := [cX11 cy adX adT (adR 0) (adQ 0) (adS 0) xIm xTr xC xWa xWb xWo (adZ 0) (adU 0) (adD 0) (adE 0) xB (si X 1 0), [(adT, .inl (cy 0, 700, .inl T))], cX7 cy adR (adK 0) (adQ 0) q1.2.1, cX9 cy adK q1.2.2.1, cX6 cy adQ (adM 0) q1.2.2.2.1, cX3 cy adM q1.2.2.2.2, cX8 cy adS S, cX2 cy adZ Z, cX5 cy adU U, cX1 cy adD D, cX4 cy adE E]) hx hb hts hown hK hE hP hD hS rfl rfl dX11_text_50 (fun H locs hP hD hS => ?_)
        refine lv_aload_n hx hb dX11_text_53 rfl (lv_at hl 1 rfl) ?_
        refine go_11_22 (ci := 0) hx hb hts hown hK hE hP rfl dX11_text_54 ?_
        refine lv_aload_n hx hb dX11_text_57 rfl (lv_at hl 0 rfl) ?_
        refine pr_11_117 (ci := 2) (cs' := [cX11 cy adX adT (adR 0) (adQ 0) (adS 0) xIm xTr xC xWa xWb xWo (adZ 0) (adU 0) (adD 0) (adE 0) xB (si X 1 0), [(adT, .inl (cy 0, 700, .inl T))], cX7 cy adR (adK 0) xP q1.2.1, cX9 cy adK q1.2.2.1, cX6 cy adQ (adM 0) q1.2.2.2.1, cX3 cy adM q1.2.2.2.2, cX8 cy adS S, cX2 cy adZ Z, cX5 cy adU U, cX1 cy adD D, cX4 cy adE E]) hx hb hts hown hK hE hP hD hS rfl rfl dX11_text_58 (fun H locs hP hD hS => ?_)
        refine lv_aload_n hx hb dX11_text_61 rfl (lv_at hl 1 rfl) ?_
        refine go_11_36 (ci := 0) hx hb hts hown hK hE hP rfl dX11_text_62 ?_
        refine lv_aload_n hx hb dX11_text_65 rfl (lv_at hl 1 rfl) ?_
        refine go_11_29 (ci := 0) hx hb hts hown hK hE hP rfl dX11_text_66 ?_
        replace h := bd h
        obtain ⟨q3, h4, h⟩ := h
        refine callWVv (As := [.ref (adQ 0)]) (rest := []) (cs' := [cX11 cy adX adT (adR 0) (adQ 0) (adS 0) xIm xTr xC xWa xWb xWo (adZ 0) (adU 0) (adD 0) (adE 0) xB (si X 1 0), [(adT, .inl (cy 0, 700, .inl T))], cX7 cy adR (adK 0) xP q1.2.1, cX9 cy adK q1.2.2.1, cX6 cy adQ (adM 0) q1.2.2.2.1, cX3 cy adM q1.2.2.2.2, cX8 cy adS q3, cX2 cy adZ Z, cX5 cy adU U, cX1 cy adD D, cX4 cy adE E]) (isC := [6, 4]) (isR := [0, 1, 2, 3, 5, 7, 8, 9, 10]) hx hb hml hown hts (k_X8_begin l G cy ev N adS S adQ (adM 0) q1.2.2.2.1 q3 h4) wm_8_16 wm_8_17 wm_8_18 wm_2_2 wm_8_19 hd_X8_begin ⟨by decide, by decide⟩ hK hP hD hS hA hE rfl rfl rfl (cov_of (n := 11) rfl (by decide)) (by decide) rfl (recvW (ci := 6) hK hP rfl cX8_o rfl) rfl rfl hl.1 (Nat.le_of_ble_eq_true rfl) dX11_text_69 (fun H locs hP hD hS => ?_)
        refine lv_aload_n hx hb dX11_text_72 rfl (lv_at hl 1 rfl) ?_
        refine lv_iconst (v := 0) hx hb dX11_text_73 (by decide) ?_
        refine po_11_43 (ci := 0) (cs' := [cX11 cy adX adT (adR 0) (adQ 0) (adS 0) xIm xTr xC xWa xWb xWo (adZ 0) (adU 0) (adD 0) (adE 0) xB (si (si X 1 0) 6 0), [(adT, .inl (cy 0, 700, .inl T))], cX7 cy adR (adK 0) xP q1.2.1, cX9 cy adK q1.2.2.1, cX6 cy adQ (adM 0) q1.2.2.2.1, cX3 cy adM q1.2.2.2.2, cX8 cy adS q3, cX2 cy adZ Z, cX5 cy adU U, cX1 cy adD D, cX4 cy adE E]) hx hb hts hown hK hE hP hD hS rfl rfl (by decide) dX11_text_74 (fun H locs hP hD hS => ?_)
        refine lv_aload_n hx hb dX11_text_77 rfl (lv_at hl 1 rfl) ?_
        refine go_11_73 (ci := 0) hx hb hts hown hK hE hP rfl dX11_text_78 ?_
        refine lv_iconst (v := 0) hx hb dX11_text_81 (by decide) ?_
        refine po_11_118 (ci := 7) (cs' := [cX11 cy adX adT (adR 0) (adQ 0) (adS 0) xIm xTr xC xWa xWb xWo (adZ 0) (adU 0) (adD 0) (adE 0) xB (si (si X 1 0) 6 0), [(adT, .inl (cy 0, 700, .inl T))], cX7 cy adR (adK 0) xP q1.2.1, cX9 cy adK q1.2.2.1, cX6 cy adQ (adM 0) q1.2.2.2.1, cX3 cy adM q1.2.2.2.2, cX8 cy adS q3, cX2 cy adZ (si Z 3 0), cX5 cy adU U, cX1 cy adD D, cX4 cy adE E]) hx hb hts hown hK hE hP hD hS rfl rfl dX11_text_82 (fun H locs hP hD hS => ?_)
        refine lv_aload_n hx hb dX11_text_85 rfl (lv_at hl 1 rfl) ?_
        refine go_11_80 (ci := 0) hx hb hts hown hK hE hP rfl dX11_text_86 ?_
        replace h := bd h
        obtain ⟨q5, h6, h⟩ := h
        refine callWVv (As := []) (rest := []) (cs' := [cX11 cy adX adT (adR 0) (adQ 0) (adS 0) xIm xTr xC xWa xWb xWo (adZ 0) (adU 0) (adD 0) (adE 0) xB (si (si X 1 0) 6 0), [(adT, .inl (cy 0, 700, .inl T))], cX7 cy adR (adK 0) xP q1.2.1, cX9 cy adK q1.2.2.1, cX6 cy adQ (adM 0) q1.2.2.2.1, cX3 cy adM q1.2.2.2.2, cX8 cy adS q3, cX2 cy adZ (si Z 3 0), cX5 cy adU q5, cX1 cy adD D, cX4 cy adE E]) (isC := [8]) (isR := [0, 1, 2, 3, 4, 5, 6, 7, 9, 10]) hx hb hml hown hts (k_X5_clear l G cy ev adU U q5 h6) wm_19_14 wm_19_15 wm_19_16 wm_2_23 wm_19_17 hd_X5_clear ⟨by decide, by decide⟩ hK hP hD hS hA hE rfl rfl rfl (cov_of (n := 11) rfl (by decide)) (by decide) rfl (recvW (ci := 8) hK hP rfl cX5_o rfl) rfl rfl hl.1 (Nat.le_of_ble_eq_true rfl) dX11_text_89 (fun H locs hP hD hS => ?_)
        refine lv_aload_n hx hb dX11_text_92 rfl (lv_at hl 1 rfl) ?_
        refine go_11_87 (ci := 0) hx hb hts hown hK hE hP rfl dX11_text_93 ?_
        refine lv_iconst (v := 0) hx hb dX11_text_96 (by decide) ?_
        refine po_11_124 (ci := 9) (cs' := [cX11 cy adX adT (adR 0) (adQ 0) (adS 0) xIm xTr xC xWa xWb xWo (adZ 0) (adU 0) (adD 0) (adE 0) xB (si (si X 1 0) 6 0), [(adT, .inl (cy 0, 700, .inl T))], cX7 cy adR (adK 0) xP q1.2.1, cX9 cy adK q1.2.2.1, cX6 cy adQ (adM 0) q1.2.2.2.1, cX3 cy adM q1.2.2.2.2, cX8 cy adS q3, cX2 cy adZ (si Z 3 0), cX5 cy adU q5, cX1 cy adD (si D 6 0), cX4 cy adE E]) hx hb hts hown hK hE hP hD hS rfl rfl (by decide) dX11_text_97 (fun H locs hP hD hS => ?_)
        refine lv_aload_n hx hb dX11_text_100 rfl (lv_at hl 1 rfl) ?_
        refine go_11_94 (ci := 0) hx hb hts hown hK hE hP rfl dX11_text_101 ?_
        refine lv_iconst (v := 0) hx hb dX11_text_104 (by decide) ?_
        refine po_11_127 (ci := 10) (cs' := [cX11 cy adX adT (adR 0) (adQ 0) (adS 0) xIm xTr xC xWa xWb xWo (adZ 0) (adU 0) (adD 0) (adE 0) xB (si (si X 1 0) 6 0), [(adT, .inl (cy 0, 700, .inl T))], cX7 cy adR (adK 0) xP q1.2.1, cX9 cy adK q1.2.2.1, cX6 cy adQ (adM 0) q1.2.2.2.1, cX3 cy adM q1.2.2.2.2, cX8 cy adS q3, cX2 cy adZ (si Z 3 0), cX5 cy adU q5, cX1 cy adD (si D 6 0), cX4 cy adE (si E 3 0)]) hx hb hts hown hK hE hP hD hS rfl rfl (by decide) dX11_text_105 (fun H locs hP hD hS => ?_)
        refine lv_aload_n hx hb dX11_text_108 rfl (lv_at hl 1 rfl) ?_
        refine go_11_22 (ci := 0) hx hb hts hown hK hE hP rfl dX11_text_109 ?_
        refine go_11_128 (ci := 2) (x := q1.2.1.1 4) hx hb hts hown hK hE hP rfl rfl dX11_text_112 ?_
        exact retI (fr := fun q => q.1) (fw := fun (q : Int32 × Bool × VV × VV × VV × VV × VV × VV × VV × VV × VV × VV) => wj [cX11 cy adX adT (adR 0) (bif q.2.1 then adQ 0 else xP) (adS 0) xIm xTr xC xWa xWb xWo (adZ 0) (adU 0) (adD 0) (adE 0) xB q.2.2.1, [(adT, .inl (cy 0, 700, .inl T))], cX7 cy adR (adK 0) (bif q.2.1 then xP else adQ 0) q.2.2.2.1, cX9 cy adK q.2.2.2.2.1, cX6 cy adQ (adM 0) q.2.2.2.2.2.1, cX3 cy adM q.2.2.2.2.2.2.1, cX8 cy adS q.2.2.2.2.2.2.2.1, cX2 cy adZ q.2.2.2.2.2.2.2.2.1, cX5 cy adU q.2.2.2.2.2.2.2.2.2.1, cX1 cy adD q.2.2.2.2.2.2.2.2.2.2.1, cX4 cy adE q.2.2.2.2.2.2.2.2.2.2.2]) h hx hb hr hlocks hK hP hD hS dX11_text_115
      · replace h := (br h).1 c9
        refine lv_iconst (v := (-1)) hx hb dX11_text_35 (by decide) ?_
        exact retI (fr := fun q => q.1) (fw := fun (q : Int32 × Bool × VV × VV × VV × VV × VV × VV × VV × VV × VV × VV) => wj [cX11 cy adX adT (adR 0) (bif q.2.1 then adQ 0 else xP) (adS 0) xIm xTr xC xWa xWb xWo (adZ 0) (adU 0) (adD 0) (adE 0) xB q.2.2.1, [(adT, .inl (cy 0, 700, .inl T))], cX7 cy adR (adK 0) (bif q.2.1 then xP else adQ 0) q.2.2.2.1, cX9 cy adK q.2.2.2.2.1, cX6 cy adQ (adM 0) q.2.2.2.2.2.1, cX3 cy adM q.2.2.2.2.2.2.1, cX8 cy adS q.2.2.2.2.2.2.2.1, cX2 cy adZ q.2.2.2.2.2.2.2.2.1, cX5 cy adU q.2.2.2.2.2.2.2.2.2.1, cX1 cy adD q.2.2.2.2.2.2.2.2.2.2.1, cX4 cy adE q.2.2.2.2.2.2.2.2.2.2.2]) h hx hb hr hlocks hK hP hD hS dX11_text_36
    · replace h := (br h).2 c9
      refine lv_bipush (v := (-2)) hx hb dX11_text_12 (by decide) ?_
      exact retI (fr := fun q => q.1) (fw := fun (q : Int32 × Bool × VV × VV × VV × VV × VV × VV × VV × VV × VV × VV) => wj [cX11 cy adX adT (adR 0) (bif q.2.1 then adQ 0 else xP) (adS 0) xIm xTr xC xWa xWb xWo (adZ 0) (adU 0) (adD 0) (adE 0) xB q.2.2.1, [(adT, .inl (cy 0, 700, .inl T))], cX7 cy adR (adK 0) (bif q.2.1 then xP else adQ 0) q.2.2.2.1, cX9 cy adK q.2.2.2.2.1, cX6 cy adQ (adM 0) q.2.2.2.2.2.1, cX3 cy adM q.2.2.2.2.2.2.1, cX8 cy adS q.2.2.2.2.2.2.2.1, cX2 cy adZ q.2.2.2.2.2.2.2.2.1, cX5 cy adU q.2.2.2.2.2.2.2.2.2.1, cX1 cy adD q.2.2.2.2.2.2.2.2.2.2.1, cX4 cy adE q.2.2.2.2.2.2.2.2.2.2.2]) h hx hb hr hlocks hK hP hD hS dX11_text_14
