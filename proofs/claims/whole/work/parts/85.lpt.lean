theorem tab2 {T : List ExceptionTableEntry} (h : T.map (fun h => (h.startPc, h.endPc, h.handlerPc, h.catchType)) = [(0, 10, 13, 13), (0, 10, 17, 15)]) : T = [⟨0, 10, 13, 13⟩, ⟨0, 10, 17, 15⟩] := by
  match T, h with
  | [⟨a, b, c, d⟩, ⟨a', b', c', d'⟩], h =>
    simp only [List.map_cons, List.map_nil, List.cons.injEq, Prod.mk.injEq, and_true] at h
    obtain ⟨⟨rfl, rfl, rfl, rfl⟩, rfl, rfl, rfl, rfl⟩ := h
    rfl
theorem fw_I : Cond.castable "java/lang/IndexOutOfBoundsException" "java/lang/IndexOutOfBoundsException" ∈ fW := by decide +kernel
theorem fw_N : Cond.castable "java/util/NoSuchElementException" "java/util/NoSuchElementException" ∈ fW := by decide +kernel
theorem wp_inP {y : MethodName} {bytes : ByteArray} {maxL : Nat} {ret : Option FieldType} (hc : Cond.code y bytes maxL ret ∈ WL) : GoodIn WP (.code y bytes maxL ret :: WP) := fun w h => by
  rcases List.mem_cons.mp h with rfl | h
  · exact ⟨wp_L hc, wp_good _ (wp_L hc)⟩
  · exact ⟨h, wp_good _ h⟩
def rmQ : Room := { frames := 10, cells := 1, slots := 6, locals := 240 }
theorem hds_L_party : yL_party.cls ≠ "java/lang/invoke/MethodHandle" ∧ yL_party.cls ≠ "java/lang/invoke/VarHandle" ∧ (parseMethodDescriptor yL_party.desc).map (fun d => d.parameters.length) = some 4 := ⟨by decide +kernel, by decide +kernel, by decide +kernel⟩
def lX (A : Nat → Prop) : String → State → State → Prop := vx_X (fun (_ : Unit) => False) (fun _ _ _ => True) A
set_option maxHeartbeats 4000000 in
set_option maxRecDepth 100000 in
theorem k_L_party (l : Launch) (htr : l.stackTraces = false) (G : va_G) (cy : Nat → ClassId) (ev : Nat → Nat) (adX : Nat → Nat) (xT xR xIm xTr xC xWa xWb xWo xZ xU xD xE xB : Nat) (X : VV) (adP : Nat → Nat) (xL : Nat) (P : VV) (adS : Nat → Nat) (S : VV) (qo : Nat) (o : Nat → Int64) (a1 a2 : Int32) (res : Int32 × (Nat → Int64)) (h : f_L_party P S o a1 a2 = some res) (sz : Nat) :
    vx_Met l yL_party (.codeWith yL_party cL_party 5 (some .int) [(0, 10, 13, 13), (0, 10, 17, 15)] :: WP) rmQ (fun v U => mPre G cy ev [.ref (adX 0), .int a1, .int a2, .ref qo] sz (wj [cX11 cy adX xT xR (adP 0) (adS 0) xIm xTr xC xWa xWb xWo xZ xU xD xE xB X, cX6 cy adP xL P, cX8 cy adS S, [(qo, .inl (cy 2, 1, .inr (.inl o)))]]) v U ∧ PX U) (mQi res.1 G cy (va_A (wj [cX11 cy adX xT xR (adP 0) (adS 0) xIm xTr xC xWa xWb xWo xZ xU xD xE xB X, cX6 cy adP xL P, cX8 cy adS S, [(qo, .inl (cy 2, 1, .inr (.inl o)))]]) sz) (wj [cX11 cy adX xT xR (adP 0) (adS 0) xIm xTr xC xWa xWb xWo xZ xU xD xE xB X, cX6 cy adP xL P, cX8 cy adS S, [(qo, .inl (cy 2, 1, .inr (.inl res.2)))]])) (lX (va_A (wj [cX11 cy adX xT xR (adP 0) (adS 0) xIm xTr xC xWa xWb xWo xZ xU xD xE xB X, cX6 cy adP xL P, cX8 cy adS S, [(qo, .inl (cy 2, 1, .inr (.inl o)))]]) sz)) 1 6 (va_A (wj [cX11 cy adX xT xR (adP 0) (adS 0) xIm xTr xC xWa xWb xWo xZ xU xD xE xB X, cX6 cy adP xL P, cX8 cy adS S, [(qo, .inl (cy 2, 1, .inr (.inl o)))]]) sz) := by
  refine vx_ofWH (cc := cL_party) (maxL := 5) (ret := some .int) (by decide +kernel) rfl ?_
  intro p e s m args below meth c s₁ B hml hv
  obtain ⟨⟨rfl, hsz, hP, hK, hD0, hE⟩, hX⟩ := hv
  have hts0 := atoms_spec (ws := .codeWith yL_party cL_party 5 (some .int) [(0, 10, 13, 13), (0, 10, 17, 15)] :: WP) B.pre
  have htsP : ∀ w ∈ WP, w.before _ s = true := fun w h => hts0 w (List.mem_cons_of_mem _ h)
  have hts : ∀ w ∈ WL, w.before _ s = true := fun w h => htsP w (wp_L h)
  have hown : s.vm.findClass RL = some m.cls := findClass_of_methodNamed B.named
  have htab : c.exceptionTable.toList = [⟨0, 10, 13, 13⟩, ⟨0, 10, 17, 15⟩] := by
    obtain ⟨m9, meth9, c9, g1, g2, g3, -, -, g4, -⟩ := Cond.codeWith_spec (hts0 _ List.mem_cons_self)
    cases Option.some.inj (g1.symm.trans B.named)
    cases Option.some.inj (g2.symm.trans B.method)
    cases Option.some.inj (g3.symm.trans (Stand.of_body B).code)
    exact tab2 g4
  subst hsz
  have hD := hD0.self (sz := s.heap.size)
  have hA : ∀ q : Nat, s.heap.size ≤ q → va_A (wj [cX11 cy adX xT xR (adP 0) (adS 0) xIm xTr xC xWa xWb xWo xZ xU xD xE xB X, cX6 cy adP xL P, cX8 cy adS S, [(qo, .inl (cy 2, 1, .inr (.inl o)))]]) s.heap.size q := fun q h => Or.inr h
  generalize va_A (wj [cX11 cy adX xT xR (adP 0) (adS 0) xIm xTr xC xWa xWb xWo xZ xU xD xE xB X, cX6 cy adP xL P, cX8 cy adS S, [(qo, .inl (cy 2, 1, .inr (.inl o)))]]) s.heap.size = A at hD hE hA ⊢
  have hl := lv_entry [.ref (adX 0), .int a1, .int a2, .ref qo] (n := 5) (Nat.le_of_ble_eq_true rfl)
  rw [lg_entry_eq]
  generalize (lg_sl ([.ref (adX 0), .int a1, .int a2, .ref qo]) ++ List.replicate (5 - (lg_sl ([.ref (adX 0), .int a1, .int a2, .ref qo])).length) Slot.unset).toArray = ls at hl ⊢
  have hl : lv_has ls 5 [(0, .ref (adX 0)), (1, .int a1), (2, .int a2), (3, .ref qo)] := hl
  show W p l e rmQ s m _ below meth c s.heap [] 0 0 _ _
  have hx := B.exec
  have hb := B.bytes
  have hr := B.returns
  have hlocks := B.notSynchronized
  have hS : va_S A s.heap s.heap [] := va_S.rf
  delta f_L_party at h
  replace h := bd h
  obtain ⟨q1, h2, h⟩ := h
  refine lv_aload_n hx hb dL_party_0 rfl (lv_at hl 3 rfl) ?_
  refine lv_iconst (v := 0) hx hb dL_party_1 (by decide) ?_
  refine lv_aload_n hx hb dL_party_2 rfl (lv_at hl 0 rfl) ?_
  refine lv_iload_n hx hb dL_party_3 rfl (lv_at hl 1 rfl) ?_
  refine lv_iload_n hx hb dL_party_4 rfl (lv_at hl 2 rfl) ?_
  have hC : [0, 1, 2].map (fun i => ([cX11 cy adX xT xR (adP 0) (adS 0) xIm xTr xC xWa xWb xWo xZ xU xD xE xB X, cX6 cy adP xL P, cX8 cy adS S, [(qo, .inl (cy 2, 1, .inr (.inl o)))]])[i]?) = ([cX11 cy adX xT xR (adP 0) (adS 0) xIm xTr xC xWa xWb xWo xZ xU xD xE xB X, cX6 cy adP xL P, cX8 cy adS S] : List va_W).map some := rfl
  have hPc : va_P G vwCl (wj [cX11 cy adX xT xR (adP 0) (adS 0) xIm xTr xC xWa xWb xWo xZ xU xD xE xB X, cX6 cy adP xL P, cX8 cy adS S]) s.heap := sel_P hC hP
  have hDc : va_D A (wj [cX11 cy adX xT xR (adP 0) (adS 0) xIm xTr xC xWa xWb xWo xZ xU xD xE xB X, cX6 cy adP xL P, cX8 cy adS S]) := sel_D hC rfl hD
  have hFc := sel_F hC hD hS hA
  refine vx_calli (vx_runV (C := RX11) (As := [.int a1, .int a2]) (rest := [.int 0, .ref qo]) ⟨hx, hb, hml, hown, htsP⟩ (k_X11_party l htr G cy ev adX xT xR xIm xTr xC xWa xWb xWo xZ xU xD xE xB X adP xL P adS S a1 a2 q1 h2 s.heap.size) (cwV 2 htsP (fun w h => (List.mem_append.mp h).elim (fun h => by rcases List.mem_cons.mp h with rfl | h; exact ⟨wp_L wm_26_3, wp_good _ (wp_L wm_26_3)⟩; rcases List.mem_cons.mp h with rfl | h; exact ⟨wp_L wm_26_4, wp_good _ (wp_L wm_26_4)⟩; rcases List.mem_cons.mp h with rfl | h; exact ⟨wp_L wm_26_5, wp_good _ (wp_L wm_26_5)⟩; rcases List.mem_cons.mp h with rfl | h; exact ⟨wp_L wm_1_2, wp_good _ (wp_L wm_1_2)⟩; cases h) (wp_inP wm_26_6 w)) rfl rfl rfl hd_X11_party ⟨by decide, by decide⟩) ⟨fun a U g mk q => by obtain ⟨⟨q0, q1, qP, qK, qD, qE⟩, qx⟩ := q; exact ⟨⟨q0, q1, qP, va_K.moved (u := U) (U := U.calling g mk a) (Vm.Alike.refl U.vm) qK, qD, EV.same (s := U) (U := U.calling g mk a) rfl qE⟩, PX.alike (s := U) qx (Vm.Alike.refl U.vm)⟩, recvW (ci := 0) hK hP rfl cX11_o rfl, fun U hU hW => ⟨⟨rfl, by rw [hU], by rw [hU]; exact hPc, va_K.moved hW.alike hK, hDc.weaken (fun _ _ _ _ => trivial), EV.pass hE hS hFc hW hU⟩, PX.alike hX hW.alike⟩⟩ rfl rfl hl.1 rfl (lv_room (Nat.le_of_ble_eq_true rfl)) dL_party_5 ⟨by decide, by decide⟩) hS (fun q _ h => hFc q h) hFc (fun q _ h => hFc q h) (fun E ce q9 u t H1 locs1 ht hvm hpx hBX hz1 hk1 hS1 hce hcv hcl => ?_) (fun r' u t H1 locs1 ht hvm hw hB hz1 hk1 hS1 => ?_)
  · obtain ⟨hEk, hP1, hK1, hD1⟩ := hBX
    rw [ht] at hP1
    obtain ⟨hP2, hD2⟩ := sel_join (cs' := [cX11 cy adX xT xR (adP 0) (adS 0) xIm xTr xC xWa xWb xWo xZ xU xD xE xB X, cX6 cy adP xL P, cX8 cy adS S, [(qo, .inl (cy 2, 1, .inr (.inl o)))]]) (isC := [0, 1, 2]) (isR := [3]) hP hD hC hC rfl (cov_of (n := 4) rfl (by decide)) (by decide) rfl hk1 hFc hP1 hD1
    rcases hEk with ⟨k1, rfl⟩ | ⟨k1, rfl⟩
    · refine vx_catch (own := RL) (name := "java/lang/IndexOutOfBoundsException") hown [] ⟨0, 10, 13, 13⟩ [⟨0, 10, 17, 15⟩] htab (fun z hz => nomatch hz) (by decide) (by decide) (hts _ wm_26_1) (hX.1 _ fw_I _) hce hcv hcl ?_
      replace h := (br h).2 (by rw [k1]; decide)
      cases h
      refine lv_astore (lv' := [(4, .ref q9), (0, .ref (adX 0)), (1, .int a1), (2, .int a2), (3, .ref qo)]) hx hb dL_party_13 hl (by decide) rfl (fun ls hl => ?_)
      refine lv_iconst (v := 1) hx hb dL_party_15 (by decide) ?_
      refine vx_ret ?_
      exact W.iret hx hb hr (fun t9 ht hW => ⟨⟨1, (), rfl, k1.symm, by rw [ht]; exact hP2, va_K.moved hW.alike hK, hD2⟩, hS1.F ht⟩) hS1.2.2 dL_party_16 hlocks
    · refine vx_catch (own := RL) (name := "java/util/NoSuchElementException") hown [⟨0, 10, 13, 13⟩] ⟨0, 10, 17, 15⟩ [] htab (fun z hz => by cases List.mem_singleton.mp hz; exact Or.inr ⟨by decide, "java/lang/IndexOutOfBoundsException", hts _ wm_26_1, hX.2⟩) (by decide) (by decide) (hts _ wm_26_2) (hX.1 _ fw_N _) hce hcv hcl ?_
      replace h := (br h).2 (by rw [k1]; decide)
      cases h
      refine lv_astore (lv' := [(4, .ref q9), (0, .ref (adX 0)), (1, .int a1), (2, .int a2), (3, .ref qo)]) hx hb dL_party_17 hl (by decide) rfl (fun ls hl => ?_)
      refine lv_iconst (v := 2) hx hb dL_party_19 (by decide) ?_
      refine vx_ret ?_
      exact W.iret hx hb hr (fun t9 ht hW => ⟨⟨2, (), rfl, k1.symm, by rw [ht]; exact hP2, va_K.moved hW.alike hK, hD2⟩, hS1.F ht⟩) hS1.2.2 dL_party_20 hlocks
  · obtain ⟨hP1, hK1, hD1⟩ := hB
    rw [ht] at hP1
    obtain ⟨k1, rfl⟩ := hw
    obtain ⟨hP2, hD2⟩ := sel_join (cs' := [cX11 cy adX xT xR (adP 0) (adS 0) xIm xTr xC xWa xWb xWo xZ xU xD xE xB X, cX6 cy adP xL P, cX8 cy adS S, [(qo, .inl (cy 2, 1, .inr (.inl o)))]]) (isC := [0, 1, 2]) (isR := [3]) hP hD hC hC rfl (cov_of (n := 4) rfl (by decide)) (by decide) rfl hk1 hFc hP1 hD1
    replace h := (br h).1 k1
    cases h
    refine lv_i2l (v := q1.2.toInt64) hx hb dL_party_8 rfl ?_
    refine va_last hx hb hK hP2 hD2 hS1 _ 2 (wj_get (i := 3) (k := 0) (c := [(qo, .inl (cy 2, 1, .inr (.inl o)))]) rfl rfl) rfl (show vp_in 0 1 by unfold vp_in; decide) dL_party_9 ?_
    rw [wj_set (i := 3) (k := 0) (c := [(qo, .inl (cy 2, 1, .inr (.inl o)))]) rfl (by show 0 < 1; decide)]
    intro H2 locs2 hP3 hD3 hS3
    refine lv_goto (tgt := 21) hx hb dL_party_10 (by decide) ?_
    refine lv_iconst (v := 0) hx hb dL_party_21 (by decide) ?_
    refine vx_ret ?_
    exact W.iret hx hb hr (fun t9 ht hW => ⟨⟨0, (), rfl, rfl, by rw [ht]; exact hP3, va_K.moved hW.alike hK, hD3⟩, hS3.F ht⟩) hS3.2.2 dL_party_22 hlocks
