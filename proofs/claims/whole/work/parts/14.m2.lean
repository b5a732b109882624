theorem hd_X12_works : yX12_works.cls = RX12 ∧ yX12_works.cls ≠ "java/lang/invoke/MethodHandle" ∧ yX12_works.cls ≠ "java/lang/invoke/VarHandle" ∧ (parseMethodDescriptor yX12_works.desc).map (fun d => d.parameters.length) = some 1 := ⟨rfl, by decide +kernel, by decide +kernel, by decide +kernel⟩
def f_X12_works_b407 (v : VV) (x6 : Int64) : Option (Int32 × VV) :=
  gin ((v.1 31) - 1) 64 (if 1000000000000 < x6 then some (0, sj v 30 (((v.1 31) - 1).toNatClampNeg) x6) else if x6 < (-1000000000000) then some (0, sj v 30 (((v.1 31) - 1).toNatClampNeg) x6) else some (1, sj v 30 (((v.1 31) - 1).toNatClampNeg) x6))
def f_X12_works_b402 (v : VV) (z0 : Int32) : Option (Int32 × VV) :=
  bnd (f_X12_is z0) (fun q40201 => f_X12_works_b407 v q40201)
def f_X12_works_b397 (v : VV)  : Option (Int32 × VV) :=
  f_X12_works_b402 v 1
def f_X12_works_b376 (v : VV) (z0 : Int32) : Option (Int32 × VV) :=
  bnd (f_X12_is z0) (fun q37601 => f_X12_works_b407 v q37601)
def f_X12_works_b375 (v : VV)  : Option (Int32 × VV) :=
  f_X12_works_b376 v 0
def f_X12_works_b350 (v : VV) (z0 : Int32) : Option (Int32 × VV) :=
  bnd (f_X12_is z0) (fun q35001 => f_X12_works_b407 v q35001)
def f_X12_works_b330 (v : VV) (z0 : Int32) : Option (Int32 × VV) :=
  bnd (f_X12_is z0) (fun q33001 => f_X12_works_b407 v q33001)
def f_X12_works_b310 (v : VV) (z0 : Int32) : Option (Int32 × VV) :=
  bnd (f_X12_is z0) (fun q31001 => f_X12_works_b407 v q31001)
def f_X12_works_b290 (v : VV) (z0 : Int32) : Option (Int32 × VV) :=
  bnd (f_X12_is z0) (fun q29001 => f_X12_works_b407 v q29001)
def f_X12_works_b270 (v : VV) (z0 : Int32) : Option (Int32 × VV) :=
  bnd (f_X12_is z0) (fun q27001 => f_X12_works_b407 v q27001)
def f_X12_works_b250 (v : VV) (z0 : Int32) : Option (Int32 × VV) :=
  bnd (f_X12_is z0) (fun q25001 => f_X12_works_b407 v q25001)
def f_X12_works_b212 (v : VV) (x2 : Int64) (x4 : Int64) : Option (Int32 × VV) :=
  f_X12_works_b407 v (x4 * x2)
def f_X12_works_b40 (v : VV) (z0 : Int32) (z1 : Int32) : Option (Int32 × VV) :=
  bnd (f_X12_is z0) (fun q4001 => gin z1 64 (some (1, sj v 30 z1.toNatClampNeg q4001)))
def f_X12_works (v : VV) (a1 : Int32) : Option (Int32 × VV) :=
  gin ((v.1 31) - 1) 64 (if a1 = 260 then if v.2.2 30 (((v.1 31) - 1).toNatClampNeg) = 0 then f_X12_works_b40 v 1 ((v.1 31) - 1) else f_X12_works_b40 v 0 ((v.1 31) - 1) else gin ((v.1 31) - 2) 64 (if a1 = 42 then if v.2.2 30 (((v.1 31) - 2).toNatClampNeg) = 0 then f_X12_works_b212 (si v 31 ((v.1 31) - 1)) (v.2.2 30 (((v.1 31) - 1).toNatClampNeg)) (v.2.2 30 (((v.1 31) - 2).toNatClampNeg)) else gnzL (jabsL (v.2.2 30 (((v.1 31) - 2).toNatClampNeg))) (if jabsL (v.2.2 30 (((v.1 31) - 1).toNatClampNeg)) ≤ 1000000000000 / (jabsL (v.2.2 30 (((v.1 31) - 2).toNatClampNeg))) then f_X12_works_b212 (si v 31 ((v.1 31) - 1)) (v.2.2 30 (((v.1 31) - 1).toNatClampNeg)) (v.2.2 30 (((v.1 31) - 2).toNatClampNeg)) else some (0, si v 31 ((v.1 31) - 1))) else if a1 = 43 then f_X12_works_b407 (si v 31 ((v.1 31) - 1)) ((v.2.2 30 (((v.1 31) - 2).toNatClampNeg)) + (v.2.2 30 (((v.1 31) - 1).toNatClampNeg))) else if a1 = 45 then f_X12_works_b407 (si v 31 ((v.1 31) - 1)) ((v.2.2 30 (((v.1 31) - 2).toNatClampNeg)) - (v.2.2 30 (((v.1 31) - 1).toNatClampNeg))) else if a1 = 47 then if v.2.2 30 (((v.1 31) - 1).toNatClampNeg) = 0 then some (0, si v 31 ((v.1 31) - 1)) else gnzL (v.2.2 30 (((v.1 31) - 1).toNatClampNeg)) (f_X12_works_b407 (si v 31 ((v.1 31) - 1)) ((v.2.2 30 (((v.1 31) - 2).toNatClampNeg)) / (v.2.2 30 (((v.1 31) - 1).toNatClampNeg)))) else if a1 = 60 then if v.2.2 30 (((v.1 31) - 1).toNatClampNeg) ≤ v.2.2 30 (((v.1 31) - 2).toNatClampNeg) then f_X12_works_b250 (si v 31 ((v.1 31) - 1)) 0 else f_X12_works_b250 (si v 31 ((v.1 31) - 1)) 1 else if a1 = 61 then if v.2.2 30 (((v.1 31) - 2).toNatClampNeg) = v.2.2 30 (((v.1 31) - 1).toNatClampNeg) then f_X12_works_b290 (si v 31 ((v.1 31) - 1)) 1 else f_X12_works_b290 (si v 31 ((v.1 31) - 1)) 0 else if a1 = 62 then if v.2.2 30 (((v.1 31) - 2).toNatClampNeg) ≤ v.2.2 30 (((v.1 31) - 1).toNatClampNeg) then f_X12_works_b270 (si v 31 ((v.1 31) - 1)) 0 else f_X12_works_b270 (si v 31 ((v.1 31) - 1)) 1 else if a1 = 256 then if v.2.2 30 (((v.1 31) - 1).toNatClampNeg) < v.2.2 30 (((v.1 31) - 2).toNatClampNeg) then f_X12_works_b310 (si v 31 ((v.1 31) - 1)) 0 else f_X12_works_b310 (si v 31 ((v.1 31) - 1)) 1 else if a1 = 257 then if v.2.2 30 (((v.1 31) - 2).toNatClampNeg) = v.2.2 30 (((v.1 31) - 1).toNatClampNeg) then f_X12_works_b350 (si v 31 ((v.1 31) - 1)) 0 else f_X12_works_b350 (si v 31 ((v.1 31) - 1)) 1 else if a1 = 258 then if v.2.2 30 (((v.1 31) - 2).toNatClampNeg) < v.2.2 30 (((v.1 31) - 1).toNatClampNeg) then f_X12_works_b330 (si v 31 ((v.1 31) - 1)) 0 else f_X12_works_b330 (si v 31 ((v.1 31) - 1)) 1 else if a1 = 261 then if v.2.2 30 (((v.1 31) - 2).toNatClampNeg) = 0 then f_X12_works_b375 (si v 31 ((v.1 31) - 1)) else if v.2.2 30 (((v.1 31) - 1).toNatClampNeg) = 0 then f_X12_works_b375 (si v 31 ((v.1 31) - 1)) else f_X12_works_b376 (si v 31 ((v.1 31) - 1)) 1 else if v.2.2 30 (((v.1 31) - 2).toNatClampNeg) = 0 then if v.2.2 30 (((v.1 31) - 1).toNatClampNeg) = 0 then f_X12_works_b402 (si v 31 ((v.1 31) - 1)) 0 else f_X12_works_b397 (si v 31 ((v.1 31) - 1)) else f_X12_works_b397 (si v 31 ((v.1 31) - 1))))
set_option maxHeartbeats 4000000 in
set_option maxRecDepth 100000 in
theorem k_X12_works (l : Launch) (G : va_G) (cy : Nat → ClassId) (ev : Nat → Nat) (ad : Nat → Nat) (v : VV) (a1 : Int32) (res : Int32 × VV) (h : f_X12_works v a1 = some res) : MetI l yX12_works cX12_works 8 (some .boolean) 1 24 G cy ev [.ref (ad 0), .int a1] (cX12 cy ad v) res.1 (cX12 cy ad res.2) := by
  refine MetQ.start (by decide +kernel) (Nat.le_of_ble_eq_true rfl) (fun p e s m args below meth c A ls hx hb hr hml hown hts hlocks hK hP hD hA hl hE => ?_)
  have hS : va_S A s.heap s.heap [] := va_S.rf
  have hown : s.vm.findClass RX12 = some m.cls := hown
  have hl : lv_has ls 8 [(0, .ref (ad 0)), (1, .int a1)] := hl
  have B407 : ∀ (x6 : Int64) (v : VV) (H : Heap) (locs : List Loc) (ls : Array Slot), f_X12_works_b407 v x6 = some res → va_P G vwCl (cX12 cy ad v) H → va_D A (cX12 cy ad v) → va_S A s.heap H locs → lv_has ls 8 [(0, .ref (ad 0)), (6, .long x6)] → W p l e (rmX 1 24) s m args below meth c H locs 0 0 (MQ below (mQi (res.1) G cy A (cX12 cy ad res.2)) args s 0 0 A) (F0 m 407 ls []) := by
    intro x6 v H locs ls h hP hD hS hl
    delta f_X12_works_b407 at h
    refine lv_aload_n hx hb dX12_works_407 rfl (lv_at hl 0 rfl) ?_
    refine gf_X12_30 hx hb hts hown hK hP dX12_works_408 ?_
    refine lv_aload_n hx hb dX12_works_411 rfl (lv_at hl 0 rfl) ?_
    refine gf_X12_31 (x := v.1 31) hx hb hts hown hK hP rfl dX12_works_412 ?_
    refine lv_iconst (v := 1) hx hb dX12_works_415 (by decide) ?_
    refine lv_isub hx hb dX12_works_416 ?_
    refine lv_lload hx hb dX12_works_417 (lv_at hl 1 rfl) ?_
    replace h := gin_inv h
    obtain ⟨h9, h⟩ := h
    refine st_X12_30 (j := ((v.1 31) - 1).toNatClampNeg) hx hb hK hP hD hS h9 rfl dX12_works_419 (fun H locs hP hD hS => ?_)
    refine lv_lload hx hb dX12_works_420 (lv_at hl 1 rfl) ?_
    refine lv_ldc2 (v := (1000000000000)) hx hb hown (hts _ wm_31_12) dX12_works_422 ?_
    refine lcmp_gt (tgt := 442) hx hb dX12_works_425 dX12_works_426 (by decide) (fun c9 => ?_) (fun c9 => ?_)
    · replace h := (br h).1 c9
      refine lv_iconst (v := 0) hx hb dX12_works_442 (by decide) ?_
      exact retZ (fr := fun q => q.1) (fw := fun q => cX12 cy ad q.2) h hx hb hr narZ0 hlocks hK hP hD hS dX12_works_443
    · replace h := (br h).2 c9
      refine lv_lload hx hb dX12_works_429 (lv_at hl 1 rfl) ?_
      refine lv_ldc2 (v := (-1000000000000)) hx hb hown (hts _ wm_31_13) dX12_works_431 ?_
      refine lcmp_lt (tgt := 442) hx hb dX12_works_434 dX12_works_435 (by decide) (fun c9 => ?_) (fun c9 => ?_)
      · replace h := (br h).1 c9
        refine lv_iconst (v := 0) hx hb dX12_works_442 (by decide) ?_
        exact retZ (fr := fun q => q.1) (fw := fun q => cX12 cy ad q.2) h hx hb hr narZ0 hlocks hK hP hD hS dX12_works_443
      · replace h := (br h).2 c9
        refine lv_iconst (v := 1) hx hb dX12_works_438 (by decide) ?_
        refine lv_goto (tgt := 443) hx hb dX12_works_439 (by decide) ?_
        exact retZ (fr := fun q => q.1) (fw := fun q => cX12 cy ad q.2) h hx hb hr narZ1 hlocks hK hP hD hS dX12_works_443
  have B402 : ∀ (z0 : Int32) (v : VV) (H : Heap) (locs : List Loc) (ls : Array Slot), f_X12_works_b402 v z0 = some res → va_P G vwCl (cX12 cy ad v) H → va_D A (cX12 cy ad v) → va_S A s.heap H locs → lv_has ls 8 [(0, .ref (ad 0))] → W p l e (rmX 1 24) s m args below meth c H locs 0 0 (MQ below (mQi (res.1) G cy A (cX12 cy ad res.2)) args s 0 0 A) (F0 m 402 ls [.int z0]) := by
    intro z0 v H locs ls h hP hD hS hl
    delta f_X12_works_b402 at h
    replace h := bd h
    obtain ⟨q40201, h40202, h⟩ := h
    refine callSl0 (As := [.int z0]) (rest := []) hx hb hml hown hts (k_X12_is l G cy ev (cX12 cy ad v) z0 q40201 h40202) wm_31_14 wm_31_15 wm_1_5 wm_31_16 hd_X12_is ⟨by decide, by decide⟩ hK hP hD hS hA hE rfl rfl hl.1 (Nat.le_of_ble_eq_true rfl) dX12_works_402 (fun H locs hP hD hS => ?_)
    refine lv_lstore (lv' := [(6, .long q40201), (0, .ref (ad 0))]) hx hb dX12_works_405 hl (by decide) rfl (fun ls hl => ?_)
    exact B407 q40201 v _ _ _ h hP hD hS (lv_sub hl [1, 0] rfl)
  have B397 : ∀ (v : VV) (H : Heap) (locs : List Loc) (ls : Array Slot), f_X12_works_b397 v = some res → va_P G vwCl (cX12 cy ad v) H → va_D A (cX12 cy ad v) → va_S A s.heap H locs → lv_has ls 8 [(0, .ref (ad 0))] → W p l e (rmX 1 24) s m args below meth c H locs 0 0 (MQ below (mQi (res.1) G cy A (cX12 cy ad res.2)) args s 0 0 A) (F0 m 397 ls []) := by
    intro v H locs ls h hP hD hS hl
    delta f_X12_works_b397 at h
    refine lv_iconst (v := 1) hx hb dX12_works_397 (by decide) ?_
    refine lv_goto (tgt := 402) hx hb dX12_works_398 (by decide) ?_
    exact B402 1 v _ _ _ h hP hD hS (lv_sub hl [0] rfl)
  have B376 : ∀ (z0 : Int32) (v : VV) (H : Heap) (locs : List Loc) (ls : Array Slot), f_X12_works_b376 v z0 = some res → va_P G vwCl (cX12 cy ad v) H → va_D A (cX12 cy ad v) → va_S A s.heap H locs → lv_has ls 8 [(0, .ref (ad 0))] → W p l e (rmX 1 24) s m args below meth c H locs 0 0 (MQ below (mQi (res.1) G cy A (cX12 cy ad res.2)) args s 0 0 A) (F0 m 376 ls [.int z0]) := by
    intro z0 v H locs ls h hP hD hS hl
    delta f_X12_works_b376 at h
    replace h := bd h
    obtain ⟨q37601, h37602, h⟩ := h
    refine callSl0 (As := [.int z0]) (rest := []) hx hb hml hown hts (k_X12_is l G cy ev (cX12 cy ad v) z0 q37601 h37602) wm_31_14 wm_31_15 wm_1_5 wm_31_16 hd_X12_is ⟨by decide, by decide⟩ hK hP hD hS hA hE rfl rfl hl.1 (Nat.le_of_ble_eq_true rfl) dX12_works_376 (fun H locs hP hD hS => ?_)
    refine lv_lstore (lv' := [(6, .long q37601), (0, .ref (ad 0))]) hx hb dX12_works_379 hl (by decide) rfl (fun ls hl => ?_)
    refine lv_goto (tgt := 407) hx hb dX12_works_381 (by decide) ?_
    exact B407 q37601 v _ _ _ h hP hD hS (lv_sub hl [1, 0] rfl)
  have B375 : ∀ (v : VV) (H : Heap) (locs : List Loc) (ls : Array Slot), f_X12_works_b375 v = some res → va_P G vwCl (cX12 cy ad v) H → va_D A (cX12 cy ad v) → va_S A s.heap H locs → lv_has ls 8 [(0, .ref (ad 0))] → W p l e (rmX 1 24) s m args below meth c H locs 0 0 (MQ below (mQi (res.1) G cy A (cX12 cy ad res.2)) args s 0 0 A) (F0 m 375 ls []) := by
    intro v H locs ls h hP hD hS hl
    delta f_X12_works_b375 at h
    refine lv_iconst (v := 0) hx hb dX12_works_375 (by decide) ?_
    exact B376 0 v _ _ _ h hP hD hS (lv_sub hl [0] rfl)
  have B350 : ∀ (z0 : Int32) (v : VV) (H : Heap) (locs : List Loc) (ls : Array Slot), f_X12_works_b350 v z0 = some res → va_P G vwCl (cX12 cy ad v) H → va_D A (cX12 cy ad v) → va_S A s.heap H locs → lv_has ls 8 [(0, .ref (ad 0))] → W p l e (rmX 1 24) s m args below meth c H locs 0 0 (MQ below (mQi (res.1) G cy A (cX12 cy ad res.2)) args s 0 0 A) (F0 m 350 ls [.int z0]) := by
    intro z0 v H locs ls h hP hD hS hl
    delta f_X12_works_b350 at h
    replace h := bd h
    obtain ⟨q35001, h35002, h⟩ := h
    refine callSl0 (As := [.int z0]) (rest := []) hx hb hml hown hts (k_X12_is l G cy ev (cX12 cy ad v) z0 q35001 h35002) wm_31_14 wm_31_15 wm_1_5 wm_31_16 hd_X12_is ⟨by decide, by decide⟩ hK hP hD hS hA hE rfl rfl hl.1 (Nat.le_of_ble_eq_true rfl) dX12_works_350 (fun H locs hP hD hS => ?_)
    refine lv_lstore (lv' := [(6, .long q35001), (0, .ref (ad 0))]) hx hb dX12_works_353 hl (by decide) rfl (fun ls hl => ?_)
    refine lv_goto (tgt := 407) hx hb dX12_works_355 (by decide) ?_
    exact B407 q35001 v _ _ _ h hP hD hS (lv_sub hl [1, 0] rfl)
  have B330 : ∀ (z0 : Int32) (v : VV) (H : Heap) (locs : List Loc) (ls : Array Slot), f_X12_works_b330 v z0 = some res → va_P G vwCl (cX12 cy ad v) H → va_D A (cX12 cy ad v) → va_S A s.heap H locs → lv_has ls 8 [(0, .ref (ad 0))] → W p l e (rmX 1 24) s m args below meth c H locs 0 0 (MQ below (mQi (res.1) G cy A (cX12 cy ad res.2)) args s 0 0 A) (F0 m 330 ls [.int z0]) := by
    intro z0 v H locs ls h hP hD hS hl
    delta f_X12_works_b330 at h
    replace h := bd h
    obtain ⟨q33001, h33002, h⟩ := h
    refine callSl0 (As := [.int z0]) (rest := []) hx hb hml hown hts (k_X12_is l G cy ev (cX12 cy ad v) z0 q33001 h33002) wm_31_14 wm_31_15 wm_1_5 wm_31_16 hd_X12_is ⟨by decide, by decide⟩ hK hP hD hS hA hE rfl rfl hl.1 (Nat.le_of_ble_eq_true rfl) dX12_works_330 (fun H locs hP hD hS => ?_)
    refine lv_lstore (lv' := [(6, .long q33001), (0, .ref (ad 0))]) hx hb dX12_works_333 hl (by decide) rfl (fun ls hl => ?_)
    refine lv_goto (tgt := 407) hx hb dX12_works_335 (by decide) ?_
    exact B407 q33001 v _ _ _ h hP hD hS (lv_sub hl [1, 0] rfl)
  have B310 : ∀ (z0 : Int32) (v : VV) (H : Heap) (locs : List Loc) (ls : Array Slot), f_X12_works_b310 v z0 = some res → va_P G vwCl (cX12 cy ad v) H → va_D A (cX12 cy ad v) → va_S A s.heap H locs → lv_has ls 8 [(0, .ref (ad 0))] → W p l e (rmX 1 24) s m args below meth c H locs 0 0 (MQ below (mQi (res.1) G cy A (cX12 cy ad res.2)) args s 0 0 A) (F0 m 310 ls [.int z0]) := by
    intro z0 v H locs ls h hP hD hS hl
    delta f_X12_works_b310 at h
    replace h := bd h
    obtain ⟨q31001, h31002, h⟩ := h
    refine callSl0 (As := [.int z0]) (rest := []) hx hb hml hown hts (k_X12_is l G cy ev (cX12 cy ad v) z0 q31001 h31002) wm_31_14 wm_31_15 wm_1_5 wm_31_16 hd_X12_is ⟨by decide, by decide⟩ hK hP hD hS hA hE rfl rfl hl.1 (Nat.le_of_ble_eq_true rfl) dX12_works_310 (fun H locs hP hD hS => ?_)
    refine lv_lstore (lv' := [(6, .long q31001), (0, .ref (ad 0))]) hx hb dX12_works_313 hl (by decide) rfl (fun ls hl => ?_)
    refine lv_goto (tgt := 407) hx hb dX12_works_315 (by decide) ?_
    exact B407 q31001 v _ _ _ h hP hD hS (lv_sub hl [1, 0] rfl)
  have B290 : ∀ (z0 : Int32) (v : VV) (H : Heap) (locs : List Loc) (ls : Array Slot), f_X12_works_b290 v z0 = some res → va_P G vwCl (cX12 cy ad v) H → va_D A (cX12 cy ad v) → va_S A s.heap H locs → lv_has ls 8 [(0, .ref (ad 0))] → W p l e (rmX 1 24) s m args below meth c H locs 0 0 (MQ below (mQi (res.1) G cy A (cX12 cy ad res.2)) args s 0 0 A) (F0 m 290 ls [.int z0]) := by
    intro z0 v H locs ls h hP hD hS hl
    delta f_X12_works_b290 at h
    replace h := bd h
    obtain ⟨q29001, h29002, h⟩ := h
    refine callSl0 (As := [.int z0]) (rest := []) hx hb hml hown hts (k_X12_is l G cy ev (cX12 cy ad v) z0 q29001 h29002) wm_31_14 wm_31_15 wm_1_5 wm_31_16 hd_X12_is ⟨by decide, by decide⟩ hK hP hD hS hA hE rfl rfl hl.1 (Nat.le_of_ble_eq_true rfl) dX12_works_290 (fun H locs hP hD hS => ?_)
    refine lv_lstore (lv' := [(6, .long q29001), (0, .ref (ad 0))]) hx hb dX12_works_293 hl (by decide) rfl (fun ls hl => ?_)
    refine lv_goto (tgt := 407) hx hb dX12_works_295 (by decide) ?_
    exact B407 q29001 v _ _ _ h hP hD hS (lv_sub hl [1, 0] rfl)
  have B270 : ∀ (z0 : Int32) (v : VV) (H : Heap) (locs : List Loc) (ls : Array Slot), f_X12_works_b270 v z0 = some res → va_P G vwCl (cX12 cy ad v) H → va_D A (cX12 cy ad v) → va_S A s.heap H locs → lv_has ls 8 [(0, .ref (ad 0))] → W p l e (rmX 1 24) s m args below meth c H locs 0 0 (MQ below (mQi (res.1) G cy A (cX12 cy ad res.2)) args s 0 0 A) (F0 m 270 ls [.int z0]) := by
    intro z0 v H locs ls h hP hD hS hl
    delta f_X12_works_b270 at h
    replace h := bd h
    obtain ⟨q27001, h27002, h⟩ := h
    refine callSl0 (As := [.int z0]) (rest := []) hx hb hml hown hts (k_X12_is l G cy ev (cX12 cy ad v) z0 q27001 h27002) wm_31_14 wm_31_15 wm_1_5 wm_31_16 hd_X12_is ⟨by decide, by decide⟩ hK hP hD hS hA hE rfl rfl hl.1 (Nat.le_of_ble_eq_true rfl) dX12_works_270 (fun H locs hP hD hS => ?_)
    refine lv_lstore (lv' := [(6, .long q27001), (0, .ref (ad 0))]) hx hb dX12_works_273 hl (by decide) rfl (fun ls hl => ?_)
    refine lv_goto (tgt := 407) hx hb dX12_works_275 (by decide) ?_
    exact B407 q27001 v _ _ _ h hP hD hS (lv_sub hl [1, 0] rfl)
  have B250 : ∀ (z0 : Int32) (v : VV) (H : Heap) (locs : List Loc) (ls : Array Slot), f_X12_works_b250 v z0 = some res → va_P G vwCl (cX12 cy ad v) H → va_D A (cX12 cy ad v) → va_S A s.heap H locs → lv_has ls 8 [(0, .ref (ad 0))] → W p l e (rmX 1 24) s m args below meth c H locs 0 0 (MQ below (mQi (res.1) G cy A (cX12 cy ad res.2)) args s 0 0 A) (F0 m 250 ls [.int z0]) := by
    intro z0 v H locs ls h hP hD hS hl
    delta f_X12_works_b250 at h
    replace h := bd h
    obtain ⟨q25001, h25002, h⟩ := h
    refine callSl0 (As := [.int z0]) (rest := []) hx hb hml hown hts (k_X12_is l G cy ev (cX12 cy ad v) z0 q25001 h25002) wm_31_14 wm_31_15 wm_1_5 wm_31_16 hd_X12_is ⟨by decide, by decide⟩ hK hP hD hS hA hE rfl rfl hl.1 (Nat.le_of_ble_eq_true rfl) dX12_works_250 (fun H locs hP hD hS => ?_)
    refine lv_lstore (lv' := [(6, .long q25001), (0, .ref (ad 0))]) hx hb dX12_works_253 hl (by decide) rfl (fun ls hl => ?_)
    refine lv_goto (tgt := 407) hx hb dX12_works_255 (by decide) ?_
    exact B407 q25001 v _ _ _ h hP hD hS (lv_sub hl [1, 0] rfl)
  have B212 : ∀ (x2 : Int64) (x4 : Int64) (v : VV) (H : Heap) (locs : List Loc) (ls : Array Slot), f_X12_works_b212 v x2 x4 = some res → va_P G vwCl (cX12 cy ad v) H → va_D A (cX12 cy ad v) → va_S A s.heap H locs → lv_has ls 8 [(0, .ref (ad 0)), (2, .long x2), (4, .long x4)] → W p l e (rmX 1 24) s m args below meth c H locs 0 0 (MQ below (mQi (res.1) G cy A (cX12 cy ad res.2)) args s 0 0 A) (F0 m 212 ls []) := by
    intro x2 x4 v H locs ls h hP hD hS hl
    delta f_X12_works_b212 at h
    refine lv_lload hx hb dX12_works_212 (lv_at hl 2 rfl) ?_
    refine lv_lload_n hx hb dX12_works_214 rfl (lv_at hl 1 rfl) ?_
    refine lv_lmul hx hb dX12_works_215 ?_
    refine lv_lstore (lv' := [(6, .long (x4 * x2)), (0, .ref (ad 0)), (2, .long x2), (4, .long x4)]) hx hb dX12_works_216 hl (by decide) rfl (fun ls hl => ?_)
    refine lv_goto (tgt := 407) hx hb dX12_works_218 (by decide) ?_
    exact B407 (x4 * x2) v _ _ _ h hP hD hS (lv_sub hl [1, 0] rfl)
  have B40 : ∀ (z0 : Int32) (z1 : Int32) (v : VV) (H : Heap) (locs : List Loc) (ls : Array Slot), f_X12_works_b40 v z0 z1 = some res → va_P G vwCl (cX12 cy ad v) H → va_D A (cX12 cy ad v) → va_S A s.heap H locs → lv_has ls 8 [] → W p l e (rmX 1 24) s m args below meth c H locs 0 0 (MQ below (mQi (res.1) G cy A (cX12 cy ad res.2)) args s 0 0 A) (F0 m 40 ls [.int z0, .int z1, .ref (ad 31)]) := by
    intro z0 z1 v H locs ls h hP hD hS hl
    delta f_X12_works_b40 at h
    replace h := bd h
    obtain ⟨q4001, h4002, h⟩ := h
    refine callSl0 (As := [.int z0]) (rest := [.int z1, .ref (ad 31)]) hx hb hml hown hts (k_X12_is l G cy ev (cX12 cy ad v) z0 q4001 h4002) wm_31_14 wm_31_15 wm_1_5 wm_31_16 hd_X12_is ⟨by decide, by decide⟩ hK hP hD hS hA hE rfl rfl hl.1 (Nat.le_of_ble_eq_true rfl) dX12_works_40 (fun H locs hP hD hS => ?_)
    replace h := gin_inv h
    obtain ⟨h9, h⟩ := h
    refine st_X12_30 (j := z1.toNatClampNeg) hx hb hK hP hD hS h9 rfl dX12_works_43 (fun H locs hP hD hS => ?_)
    refine lv_iconst (v := 1) hx hb dX12_works_44 (by decide) ?_
    exact retZ (fr := fun q => q.1) (fw := fun q => cX12 cy ad q.2) h hx hb hr narZ1 hlocks hK hP hD hS dX12_works_45
  delta f_X12_works at h
  refine lv_aload_n hx hb dX12_works_0 rfl (lv_at hl 0 rfl) ?_
  refine gf_X12_30 hx hb hts hown hK hP dX12_works_1 ?_
  refine lv_aload_n hx hb dX12_works_4 rfl (lv_at hl 0 rfl) ?_
  refine gf_X12_31 (x := v.1 31) hx hb hts hown hK hP rfl dX12_works_5 ?_
  refine lv_iconst (v := 1) hx hb dX12_works_8 (by decide) ?_
  refine lv_isub hx hb dX12_works_9 ?_
  replace h := gin_inv h
  obtain ⟨h9, h⟩ := h
  refine ld_X12_30 (f := v.2.2 30) (j := ((v.1 31) - 1).toNatClampNeg) hx hb hK hP rfl h9 rfl dX12_works_10 ?_
  refine lv_lstore_n (lv' := [(2, .long (v.2.2 30 (((v.1 31) - 1).toNatClampNeg))), (0, .ref (ad 0)), (1, .int a1)]) hx hb dX12_works_11 rfl hl (by decide) rfl (fun ls hl => ?_)
  refine lv_iload_n hx hb dX12_works_12 rfl (lv_at hl 2 rfl) ?_
  refine lv_sipush (v := 260) hx hb dX12_works_13 (by decide) ?_
  refine lv_icmp_ne (tgt := 46) hx hb dX12_works_16 (by decide) (fun c9 => ?_) (fun c9 => ?_)
  · replace h := (br h).2 c9
    refine lv_aload_n hx hb dX12_works_46 rfl (lv_at hl 1 rfl) ?_
    refine gf_X12_30 hx hb hts hown hK hP dX12_works_47 ?_
    refine lv_aload_n hx hb dX12_works_50 rfl (lv_at hl 1 rfl) ?_
    refine gf_X12_31 (x := v.1 31) hx hb hts hown hK hP rfl dX12_works_51 ?_
    refine lv_iconst (v := 2) hx hb dX12_works_54 (by decide) ?_
    refine lv_isub hx hb dX12_works_55 ?_
    replace h := gin_inv h
    obtain ⟨h9, h⟩ := h
    refine ld_X12_30 (f := v.2.2 30) (j := ((v.1 31) - 2).toNatClampNeg) hx hb hK hP rfl h9 rfl dX12_works_56 ?_
    refine lv_lstore (lv' := [(4, .long (v.2.2 30 (((v.1 31) - 2).toNatClampNeg))), (2, .long (v.2.2 30 (((v.1 31) - 1).toNatClampNeg))), (0, .ref (ad 0)), (1, .int a1)]) hx hb dX12_works_57 hl (by decide) rfl (fun ls hl => ?_)
    refine lv_aload_n hx hb dX12_works_59 rfl (lv_at hl 2 rfl) ?_
    refine lv_dup hx hb dX12_works_60 rfl ?_
    refine gf_X12_31 (x := v.1 31) hx hb hts hown hK hP rfl dX12_works_61 ?_
    refine lv_iconst (v := 1) hx hb dX12_works_64 (by decide) ?_
    refine lv_isub hx hb dX12_works_65 ?_
    refine pf_X12_31 hx hb hts hown hK hP hD hS dX12_works_66 (fun H locs hP hD hS => ?_)
    refine lv_iload_n hx hb dX12_works_69 rfl (lv_at hl 3 rfl) ?_
    refine lv_topi (fun w1 ew1 => ?_)
    by_cases nw1_0 : a1 = 42
    · replace h := (br h).1 nw1_0
      rw [ew1, nw1_0]
      refine lv_lookup (off := 116) (tgt := 186) hx hb dX12_works_70 (by decide) (by decide) (by decide) ?_
      refine lv_lload hx hb dX12_works_186 (lv_at hl 0 rfl) ?_
      refine lv_lconst (v := 0) hx hb dX12_works_188 (by decide) ?_
      refine lcmp_eq (tgt := 212) hx hb dX12_works_189 dX12_works_190 (by decide) (fun c9 => ?_) (fun c9 => ?_)
      · replace h := (br h).1 c9
        exact B212 (v.2.2 30 (((v.1 31) - 1).toNatClampNeg)) (v.2.2 30 (((v.1 31) - 2).toNatClampNeg)) (si v 31 ((v.1 31) - 1)) _ _ _ h hP hD hS (lv_sub hl [2, 1, 0] rfl)
      · replace h := (br h).2 c9
        refine lv_lload_n hx hb dX12_works_193 rfl (lv_at hl 1 rfl) ?_
        refine mabsL hx hb (by rw [hml]; exact hl.1.symm) hown (hts _ wm_31_9) hts (by decide) (Nat.le_of_ble_eq_true rfl) dX12_works_194 ?_
        refine lv_ldc2 (v := (1000000000000)) hx hb hown (hts _ wm_31_12) dX12_works_197 ?_
        refine lv_lload hx hb dX12_works_200 (lv_at hl 0 rfl) ?_
        refine mabsL hx hb (by rw [hml]; exact hl.1.symm) hown (hts _ wm_31_9) hts (by decide) (Nat.le_of_ble_eq_true rfl) dX12_works_202 ?_
        replace h := gnzL_inv h
        obtain ⟨h9, h⟩ := h
        refine lv_ldiv hx hb dX12_works_205 h9 ?_
        refine lcmp_le (tgt := 212) hx hb dX12_works_206 dX12_works_207 (by decide) (fun c9 => ?_) (fun c9 => ?_)
        · replace h := (br h).1 c9
          exact B212 (v.2.2 30 (((v.1 31) - 1).toNatClampNeg)) (v.2.2 30 (((v.1 31) - 2).toNatClampNeg)) (si v 31 ((v.1 31) - 1)) _ _ _ h hP hD hS (lv_sub hl [2, 1, 0] rfl)
        · replace h := (br h).2 c9
          refine lv_iconst (v := 0) hx hb dX12_works_210 (by decide) ?_
          exact retZ (fr := fun q => q.1) (fw := fun q => cX12 cy ad q.2) h hx hb hr narZ0 hlocks hK hP hD hS dX12_works_211
    · replace h := (br h).2 nw1_0
      by_cases nw1_1 : a1 = 43
      · replace h := (br h).1 nw1_1
        rw [ew1, nw1_1]
        refine lv_lookup (off := 98) (tgt := 168) hx hb dX12_works_70 (by decide) (by decide) (by decide) ?_
        refine lv_lload hx hb dX12_works_168 (lv_at hl 0 rfl) ?_
        refine lv_lload_n hx hb dX12_works_170 rfl (lv_at hl 1 rfl) ?_
        refine lv_ladd hx hb dX12_works_171 ?_
        refine lv_lstore (lv' := [(6, .long ((v.2.2 30 (((v.1 31) - 2).toNatClampNeg)) + (v.2.2 30 (((v.1 31) - 1).toNatClampNeg)))), (4, .long (v.2.2 30 (((v.1 31) - 2).toNatClampNeg))), (2, .long (v.2.2 30 (((v.1 31) - 1).toNatClampNeg))), (0, .ref (ad 0)), (1, .int a1)]) hx hb dX12_works_172 hl (by decide) rfl (fun ls hl => ?_)
        refine lv_goto (tgt := 407) hx hb dX12_works_174 (by decide) ?_
        exact B407 ((v.2.2 30 (((v.1 31) - 2).toNatClampNeg)) + (v.2.2 30 (((v.1 31) - 1).toNatClampNeg))) (si v 31 ((v.1 31) - 1)) _ _ _ h hP hD hS (lv_sub hl [3, 0] rfl)
      · replace h := (br h).2 nw1_1
        by_cases nw1_2 : a1 = 45
        · replace h := (br h).1 nw1_2
          rw [ew1, nw1_2]
          refine lv_lookup (off := 107) (tgt := 177) hx hb dX12_works_70 (by decide) (by decide) (by decide) ?_
          refine lv_lload hx hb dX12_works_177 (lv_at hl 0 rfl) ?_
          refine lv_lload_n hx hb dX12_works_179 rfl (lv_at hl 1 rfl) ?_
          refine lv_lsub hx hb dX12_works_180 ?_
          refine lv_lstore (lv' := [(6, .long ((v.2.2 30 (((v.1 31) - 2).toNatClampNeg)) - (v.2.2 30 (((v.1 31) - 1).toNatClampNeg)))), (4, .long (v.2.2 30 (((v.1 31) - 2).toNatClampNeg))), (2, .long (v.2.2 30 (((v.1 31) - 1).toNatClampNeg))), (0, .ref (ad 0)), (1, .int a1)]) hx hb dX12_works_181 hl (by decide) rfl (fun ls hl => ?_)
          refine lv_goto (tgt := 407) hx hb dX12_works_183 (by decide) ?_
          exact B407 ((v.2.2 30 (((v.1 31) - 2).toNatClampNeg)) - (v.2.2 30 (((v.1 31) - 1).toNatClampNeg))) (si v 31 ((v.1 31) - 1)) _ _ _ h hP hD hS (lv_sub hl [3, 0] rfl)
        · replace h := (br h).2 nw1_2
          by_cases nw1_3 : a1 = 47
          · replace h := (br h).1 nw1_3
            rw [ew1, nw1_3]
            refine lv_lookup (off := 151) (tgt := 221) hx hb dX12_works_70 (by decide) (by decide) (by decide) ?_
            refine lv_lload_n hx hb dX12_works_221 rfl (lv_at hl 1 rfl) ?_
            refine lv_lconst (v := 0) hx hb dX12_works_222 (by decide) ?_
            refine lcmp_ne (tgt := 229) hx hb dX12_works_223 dX12_works_224 (by decide) (fun c9 => ?_) (fun c9 => ?_)
            · replace h := (br h).2 c9
              refine lv_lload hx hb dX12_works_229 (lv_at hl 0 rfl) ?_
              refine lv_lload_n hx hb dX12_works_231 rfl (lv_at hl 1 rfl) ?_
              replace h := gnzL_inv h
              obtain ⟨h9, h⟩ := h
              refine lv_ldiv hx hb dX12_works_232 h9 ?_
              refine lv_lstore (lv' := [(6, .long ((v.2.2 30 (((v.1 31) - 2).toNatClampNeg)) / (v.2.2 30 (((v.1 31) - 1).toNatClampNeg)))), (4, .long (v.2.2 30 (((v.1 31) - 2).toNatClampNeg))), (2, .long (v.2.2 30 (((v.1 31) - 1).toNatClampNeg))), (0, .ref (ad 0)), (1, .int a1)]) hx hb dX12_works_233 hl (by decide) rfl (fun ls hl => ?_)
              refine lv_goto (tgt := 407) hx hb dX12_works_235 (by decide) ?_
              exact B407 ((v.2.2 30 (((v.1 31) - 2).toNatClampNeg)) / (v.2.2 30 (((v.1 31) - 1).toNatClampNeg))) (si v 31 ((v.1 31) - 1)) _ _ _ h hP hD hS (lv_sub hl [3, 0] rfl)
            · replace h := (br h).1 c9
              refine lv_iconst (v := 0) hx hb dX12_works_227 (by decide) ?_
              exact retZ (fr := fun q => q.1) (fw := fun q => cX12 cy ad q.2) h hx hb hr narZ0 hlocks hK hP hD hS dX12_works_228
          · replace h := (br h).2 nw1_3
            by_cases nw1_4 : a1 = 60
            · replace h := (br h).1 nw1_4
              rw [ew1, nw1_4]
              refine lv_lookup (off := 168) (tgt := 238) hx hb dX12_works_70 (by decide) (by decide) (by decide) ?_
              refine lv_lload hx hb dX12_works_238 (lv_at hl 0 rfl) ?_
              refine lv_lload_n hx hb dX12_works_240 rfl (lv_at hl 1 rfl) ?_
              refine lcmp_ge (tgt := 249) hx hb dX12_works_241 dX12_works_242 (by decide) (fun c9 => ?_) (fun c9 => ?_)
              · replace h := (br h).1 c9
                refine lv_iconst (v := 0) hx hb dX12_works_249 (by decide) ?_
                exact B250 0 (si v 31 ((v.1 31) - 1)) _ _ _ h hP hD hS (lv_sub hl [2] rfl)
              · replace h := (br h).2 c9
                refine lv_iconst (v := 1) hx hb dX12_works_245 (by decide) ?_
                refine lv_goto (tgt := 250) hx hb dX12_works_246 (by decide) ?_
                exact B250 1 (si v 31 ((v.1 31) - 1)) _ _ _ h hP hD hS (lv_sub hl [2] rfl)
            · replace h := (br h).2 nw1_4
              by_cases nw1_5 : a1 = 61
              · replace h := (br h).1 nw1_5
                rw [ew1, nw1_5]
                refine lv_lookup (off := 208) (tgt := 278) hx hb dX12_works_70 (by decide) (by decide) (by decide) ?_
                refine lv_lload hx hb dX12_works_278 (lv_at hl 0 rfl) ?_
                refine lv_lload_n hx hb dX12_works_280 rfl (lv_at hl 1 rfl) ?_
                refine lcmp_ne (tgt := 289) hx hb dX12_works_281 dX12_works_282 (by decide) (fun c9 => ?_) (fun c9 => ?_)
                · replace h := (br h).2 c9
                  refine lv_iconst (v := 0) hx hb dX12_works_289 (by decide) ?_
                  exact B290 0 (si v 31 ((v.1 31) - 1)) _ _ _ h hP hD hS (lv_sub hl [2] rfl)
                · replace h := (br h).1 c9
                  refine lv_iconst (v := 1) hx hb dX12_works_285 (by decide) ?_
                  refine lv_goto (tgt := 290) hx hb dX12_works_286 (by decide) ?_
                  exact B290 1 (si v 31 ((v.1 31) - 1)) _ _ _ h hP hD hS (lv_sub hl [2] rfl)
              · replace h := (br h).2 nw1_5
                by_cases nw1_6 : a1 = 62
                · replace h := (br h).1 nw1_6
                  rw [ew1, nw1_6]
                  refine lv_lookup (off := 188) (tgt := 258) hx hb dX12_works_70 (by decide) (by decide) (by decide) ?_
                  refine lv_lload hx hb dX12_works_258 (lv_at hl 0 rfl) ?_
                  refine lv_lload_n hx hb dX12_works_260 rfl (lv_at hl 1 rfl) ?_
                  refine lcmp_le (tgt := 269) hx hb dX12_works_261 dX12_works_262 (by decide) (fun c9 => ?_) (fun c9 => ?_)
                  · replace h := (br h).1 c9
                    refine lv_iconst (v := 0) hx hb dX12_works_269 (by decide) ?_
                    exact B270 0 (si v 31 ((v.1 31) - 1)) _ _ _ h hP hD hS (lv_sub hl [2] rfl)
                  · replace h := (br h).2 c9
                    refine lv_iconst (v := 1) hx hb dX12_works_265 (by decide) ?_
                    refine lv_goto (tgt := 270) hx hb dX12_works_266 (by decide) ?_
                    exact B270 1 (si v 31 ((v.1 31) - 1)) _ _ _ h hP hD hS (lv_sub hl [2] rfl)
                · replace h := (br h).2 nw1_6
                  by_cases nw1_7 : a1 = 256
                  · replace h := (br h).1 nw1_7
                    rw [ew1, nw1_7]
                    refine lv_lookup (off := 228) (tgt := 298) hx hb dX12_works_70 (by decide) (by decide) (by decide) ?_
                    refine lv_lload hx hb dX12_works_298 (lv_at hl 0 rfl) ?_
                    refine lv_lload_n hx hb dX12_works_300 rfl (lv_at hl 1 rfl) ?_
                    refine lcmp_gt (tgt := 309) hx hb dX12_works_301 dX12_works_302 (by decide) (fun c9 => ?_) (fun c9 => ?_)
                    · replace h := (br h).1 c9
                      refine lv_iconst (v := 0) hx hb dX12_works_309 (by decide) ?_
                      exact B310 0 (si v 31 ((v.1 31) - 1)) _ _ _ h hP hD hS (lv_sub hl [2] rfl)
                    · replace h := (br h).2 c9
                      refine lv_iconst (v := 1) hx hb dX12_works_305 (by decide) ?_
                      refine lv_goto (tgt := 310) hx hb dX12_works_306 (by decide) ?_
                      exact B310 1 (si v 31 ((v.1 31) - 1)) _ _ _ h hP hD hS (lv_sub hl [2] rfl)
                  · replace h := (br h).2 nw1_7
                    by_cases nw1_8 : a1 = 257
                    · replace h := (br h).1 nw1_8
                      rw [ew1, nw1_8]
                      refine lv_lookup (off := 268) (tgt := 338) hx hb dX12_works_70 (by decide) (by decide) (by decide) ?_
                      refine lv_lload hx hb dX12_works_338 (lv_at hl 0 rfl) ?_
                      refine lv_lload_n hx hb dX12_works_340 rfl (lv_at hl 1 rfl) ?_
                      refine lcmp_eq (tgt := 349) hx hb dX12_works_341 dX12_works_342 (by decide) (fun c9 => ?_) (fun c9 => ?_)
                      · replace h := (br h).1 c9
                        refine lv_iconst (v := 0) hx hb dX12_works_349 (by decide) ?_
                        exact B350 0 (si v 31 ((v.1 31) - 1)) _ _ _ h hP hD hS (lv_sub hl [2] rfl)
                      · replace h := (br h).2 c9
                        refine lv_iconst (v := 1) hx hb dX12_works_345 (by decide) ?_
                        refine lv_goto (tgt := 350) hx hb dX12_works_346 (by decide) ?_
                        exact B350 1 (si v 31 ((v.1 31) - 1)) _ _ _ h hP hD hS (lv_sub hl [2] rfl)
                    · replace h := (br h).2 nw1_8
                      by_cases nw1_9 : a1 = 258
                      · replace h := (br h).1 nw1_9
                        rw [ew1, nw1_9]
                        refine lv_lookup (off := 248) (tgt := 318) hx hb dX12_works_70 (by decide) (by decide) (by decide) ?_
                        refine lv_lload hx hb dX12_works_318 (lv_at hl 0 rfl) ?_
                        refine lv_lload_n hx hb dX12_works_320 rfl (lv_at hl 1 rfl) ?_
                        refine lcmp_lt (tgt := 329) hx hb dX12_works_321 dX12_works_322 (by decide) (fun c9 => ?_) (fun c9 => ?_)
                        · replace h := (br h).1 c9
                          refine lv_iconst (v := 0) hx hb dX12_works_329 (by decide) ?_
                          exact B330 0 (si v 31 ((v.1 31) - 1)) _ _ _ h hP hD hS (lv_sub hl [2] rfl)
                        · replace h := (br h).2 c9
                          refine lv_iconst (v := 1) hx hb dX12_works_325 (by decide) ?_
                          refine lv_goto (tgt := 330) hx hb dX12_works_326 (by decide) ?_
                          exact B330 1 (si v 31 ((v.1 31) - 1)) _ _ _ h hP hD hS (lv_sub hl [2] rfl)
                      · replace h := (br h).2 nw1_9
                        by_cases nw1_10 : a1 = 261
                        · replace h := (br h).1 nw1_10
                          rw [ew1, nw1_10]
                          refine lv_lookup (off := 288) (tgt := 358) hx hb dX12_works_70 (by decide) (by decide) (by decide) ?_
                          refine lv_lload hx hb dX12_works_358 (lv_at hl 0 rfl) ?_
                          refine lv_lconst (v := 0) hx hb dX12_works_360 (by decide) ?_
                          refine lcmp_eq (tgt := 375) hx hb dX12_works_361 dX12_works_362 (by decide) (fun c9 => ?_) (fun c9 => ?_)
                          · replace h := (br h).1 c9
                            exact B375 (si v 31 ((v.1 31) - 1)) _ _ _ h hP hD hS (lv_sub hl [2] rfl)
                          · replace h := (br h).2 c9
                            refine lv_lload_n hx hb dX12_works_365 rfl (lv_at hl 1 rfl) ?_
                            refine lv_lconst (v := 0) hx hb dX12_works_366 (by decide) ?_
                            refine lcmp_eq (tgt := 375) hx hb dX12_works_367 dX12_works_368 (by decide) (fun c9 => ?_) (fun c9 => ?_)
                            · replace h := (br h).1 c9
                              exact B375 (si v 31 ((v.1 31) - 1)) _ _ _ h hP hD hS (lv_sub hl [2] rfl)
                            · replace h := (br h).2 c9
                              refine lv_iconst (v := 1) hx hb dX12_works_371 (by decide) ?_
                              refine lv_goto (tgt := 376) hx hb dX12_works_372 (by decide) ?_
                              exact B376 1 (si v 31 ((v.1 31) - 1)) _ _ _ h hP hD hS (lv_sub hl [2] rfl)
                        · replace h := (br h).2 nw1_10
                          rw [ew1]
                          refine lv_lookup (off := 314) (tgt := 384) hx hb dX12_works_70 (by decide) (by simp [Op.lookupswitch.offset, ne_toIntR (k := 42) 42 (by decide) nw1_0, ne_toIntR (k := 43) 43 (by decide) nw1_1, ne_toIntR (k := 45) 45 (by decide) nw1_2, ne_toIntR (k := 47) 47 (by decide) nw1_3, ne_toIntR (k := 60) 60 (by decide) nw1_4, ne_toIntR (k := 61) 61 (by decide) nw1_5, ne_toIntR (k := 62) 62 (by decide) nw1_6, ne_toIntR (k := 256) 256 (by decide) nw1_7, ne_toIntR (k := 257) 257 (by decide) nw1_8, ne_toIntR (k := 258) 258 (by decide) nw1_9, ne_toIntR (k := 261) 261 (by decide) nw1_10]) (by decide) ?_
                          refine lv_lload hx hb dX12_works_384 (lv_at hl 0 rfl) ?_
                          refine lv_lconst (v := 0) hx hb dX12_works_386 (by decide) ?_
                          refine lcmp_ne (tgt := 397) hx hb dX12_works_387 dX12_works_388 (by decide) (fun c9 => ?_) (fun c9 => ?_)
                          · replace h := (br h).2 c9
                            exact B397 (si v 31 ((v.1 31) - 1)) _ _ _ h hP hD hS (lv_sub hl [2] rfl)
                          · replace h := (br h).1 c9
                            refine lv_lload_n hx hb dX12_works_391 rfl (lv_at hl 1 rfl) ?_
                            refine lv_lconst (v := 0) hx hb dX12_works_392 (by decide) ?_
                            refine lcmp_eq (tgt := 401) hx hb dX12_works_393 dX12_works_394 (by decide) (fun c9 => ?_) (fun c9 => ?_)
                            · replace h := (br h).1 c9
                              refine lv_iconst (v := 0) hx hb dX12_works_401 (by decide) ?_
                              exact B402 0 (si v 31 ((v.1 31) - 1)) _ _ _ h hP hD hS (lv_sub hl [2] rfl)
                            · replace h := (br h).2 c9
                              exact B397 (si v 31 ((v.1 31) - 1)) _ _ _ h hP hD hS (lv_sub hl [2] rfl)
  · replace h := (br h).1 c9
    refine lv_aload_n hx hb dX12_works_19 rfl (lv_at hl 1 rfl) ?_
    refine gf_X12_30 hx hb hts hown hK hP dX12_works_20 ?_
    refine lv_aload_n hx hb dX12_works_23 rfl (lv_at hl 1 rfl) ?_
    refine gf_X12_31 (x := v.1 31) hx hb hts hown hK hP rfl dX12_works_24 ?_
    refine lv_iconst (v := 1) hx hb dX12_works_27 (by decide) ?_
    refine lv_isub hx hb dX12_works_28 ?_
    refine lv_lload_n hx hb dX12_works_29 rfl (lv_at hl 0 rfl) ?_
    refine lv_lconst (v := 0) hx hb dX12_works_30 (by decide) ?_
    refine lcmp_ne (tgt := 39) hx hb dX12_works_31 dX12_works_32 (by decide) (fun c9 => ?_) (fun c9 => ?_)
    · replace h := (br h).2 c9
      refine lv_iconst (v := 0) hx hb dX12_works_39 (by decide) ?_
      exact B40 0 ((v.1 31) - 1) v _ _ _ h hP hD hS (lv_sub hl [] rfl)
    · replace h := (br h).1 c9
      refine lv_iconst (v := 1) hx hb dX12_works_35 (by decide) ?_
      refine lv_goto (tgt := 40) hx hb dX12_works_36 (by decide) ?_
      exact B40 1 ((v.1 31) - 1) v _ _ _ h hP hD hS (lv_sub hl [] rfl)
theorem hd_X12_goes : yX12_goes.cls = RX12 ∧ yX12_goes.cls ≠ "java/lang/invoke/MethodHandle" ∧ yX12_goes.cls ≠ "java/lang/invoke/VarHandle" ∧ (parseMethodDescriptor yX12_goes.desc).map (fun d => d.parameters.length) = some 1 := ⟨rfl, by decide +kernel, by decide +kernel, by decide +kernel⟩
def f_X12_goes_b96 (N : Nat) (v : VV) (x1 : Int32) (x2 : Int32) : Option (((Int32 × VV) ⊕ (Int32 × VV))) :=
  some (.inl (x2 + 1, v))
def f_X12_goes_b85 (N : Nat) (v : VV) (x1 : Int32) (x2 : Int32) (z0 : Int64) (z1 : Int32) : Option (((Int32 × VV) ⊕ (Int32 × VV))) :=
  gin z1 64 (f_X12_goes_b96 N (si (sj v 30 z1.toNatClampNeg z0) 31 ((v.1 31) + 1)) x1 x2)
def f_X12_goes_s12 (N : Nat) (v : VV) (x1 : Int32) (x2 : Int32) : Option (((Int32 × VV) ⊕ (Int32 × VV))) :=
  gin x1 6 (if v.2.1 13 x1.toNatClampNeg ≤ x2 then inrO (some (1, v)) else gin x2 128 (if v.2.1 14 x2.toNatClampNeg = 2 then gin x2 128 (bnd (f_X12_works v (v.2.1 15 x2.toNatClampNeg)) (fun q1201 => if q1201.1 = 0 then inrO (some (0, q1201.2)) else f_X12_goes_b96 N q1201.2 x1 x2)) else gin x2 128 (if v.2.1 14 x2.toNatClampNeg = 0 then gin x2 128 (f_X12_goes_b85 N v x1 x2 ((v.2.1 15 x2.toNatClampNeg).toInt64) (v.1 31)) else gin x2 128 (gin (v.2.1 15 x2.toNatClampNeg) 7 (f_X12_goes_b85 N v x1 x2 (v.2.2 29 ((v.2.1 15 x2.toNatClampNeg).toNatClampNeg)) (v.1 31))))))
def f_X12_goes (N : Nat) (v : VV) (a1 : Int32) : Option (Int32 × VV) :=
  gin a1 6 (itr (fun q : Int32 × VV => f_X12_goes_s12 N q.2 a1 q.1) N (v.2.1 12 a1.toNatClampNeg, si v 31 0))
set_option maxHeartbeats 4000000 in
set_option maxRecDepth 100000 in
theorem k_X12_goes (l : Launch) (G : va_G) (cy : Nat → ClassId) (ev : Nat → Nat) (N : Nat) (ad : Nat → Nat) (v : VV) (a1 : Int32) (res : Int32 × VV) (h : f_X12_goes N v a1 = some res) : MetI l yX12_goes cX12_goes 3 (some .boolean) 2 51 G cy ev [.ref (ad 0), .int a1] (cX12 cy ad v) res.1 (cX12 cy ad res.2) := by
  refine MetQ.start (by decide +kernel) (Nat.le_of_ble_eq_true rfl) (fun p e s m args below meth c A ls hx hb hr hml hown hts hlocks hK hP hD hA hl hE => ?_)
  have hS : va_S A s.heap s.heap [] := va_S.rf
  have hown : s.vm.findClass RX12 = some m.cls := hown
  have hl : lv_has ls 3 [(0, .ref (ad 0)), (1, .int a1)] := hl
  have L12 : ∀ (x1 : Int32) (n : Nat) (x2 : Int32) (v : VV) (H : Heap) (locs : List Loc) (ls : Array Slot), itr (fun q : Int32 × VV => f_X12_goes_s12 N q.2 x1 q.1) n (x2, v) = some res → va_P G vwCl (cX12 cy ad v) H → va_D A (cX12 cy ad v) → va_S A s.heap H locs → lv_has ls 3 [(0, .ref (ad 0)), (1, .int x1), (2, .int x2)] → W p l e (rmX 2 51) s m args below meth c H locs 0 0 (MQ below (mQi (res.1) G cy A (cX12 cy ad res.2)) args s 0 0 A) (F0 m 12 ls []) := by
    intro x1 n
    induction n with
    | zero => intro x2 v H locs ls h; exact (itr_zero h).elim
    | succ n ih1 =>
      intro x2 v H locs ls h hP hD hS hl
      obtain ⟨y1, h, hy1⟩ := itr_inv h
      have h : f_X12_goes_s12 N v x1 x2 = some y1 := h
      have B96 : ∀ (x2 : Int32) (v : VV) (H : Heap) (locs : List Loc) (ls : Array Slot), f_X12_goes_b96 N v x1 x2 = some y1 → va_P G vwCl (cX12 cy ad v) H → va_D A (cX12 cy ad v) → va_S A s.heap H locs → lv_has ls 3 [(0, .ref (ad 0)), (1, .int x1), (2, .int x2)] → W p l e (rmX 2 51) s m args below meth c H locs 0 0 (MQ below (mQi (res.1) G cy A (cX12 cy ad res.2)) args s 0 0 A) (F0 m 96 ls []) := by
        intro x2 v H locs ls h hP hD hS hl
        delta f_X12_goes_b96 at h
        refine lv_iinc (v := x2 + 1) (lv' := [(2, .int (x2 + 1)), (0, .ref (ad 0)), (1, .int x1)]) hx hb dX12_goes_96 hl (k := 2) rfl rfl (by decide) rfl (fun ls hl => ?_)
        refine lv_goto (tgt := 12) hx hb dX12_goes_99 (by decide) ?_
        replace h := itr_back h hy1
        exact ih1 (x2 + 1) v _ _ _ h hP hD hS (lv_sub hl [1, 2, 0] rfl)
      have B85 : ∀ (x2 : Int32) (z0 : Int64) (z1 : Int32) (v : VV) (H : Heap) (locs : List Loc) (ls : Array Slot), f_X12_goes_b85 N v x1 x2 z0 z1 = some y1 → va_P G vwCl (cX12 cy ad v) H → va_D A (cX12 cy ad v) → va_S A s.heap H locs → lv_has ls 3 [(0, .ref (ad 0)), (1, .int x1), (2, .int x2)] → W p l e (rmX 2 51) s m args below meth c H locs 0 0 (MQ below (mQi (res.1) G cy A (cX12 cy ad res.2)) args s 0 0 A) (F0 m 85 ls [.long z0, .int z1, .ref (ad 31)]) := by
        intro x2 z0 z1 v H locs ls h hP hD hS hl
        delta f_X12_goes_b85 at h
        replace h := gin_inv h
        obtain ⟨h9, h⟩ := h
        refine st_X12_30 (j := z1.toNatClampNeg) hx hb hK hP hD hS h9 rfl dX12_goes_85 (fun H locs hP hD hS => ?_)
        refine lv_aload_n hx hb dX12_goes_86 rfl (lv_at hl 0 rfl) ?_
        refine lv_dup hx hb dX12_goes_87 rfl ?_
        refine gf_X12_31 (x := v.1 31) hx hb hts hown hK hP rfl dX12_goes_88 ?_
        refine lv_iconst (v := 1) hx hb dX12_goes_91 (by decide) ?_
        refine lv_iadd hx hb dX12_goes_92 ?_
        refine pf_X12_31 hx hb hts hown hK hP hD hS dX12_goes_93 (fun H locs hP hD hS => ?_)
        exact B96 x2 (si (sj v 30 z1.toNatClampNeg z0) 31 ((v.1 31) + 1)) _ _ _ h hP hD hS (lv_sub hl [0, 1, 2] rfl)
      delta f_X12_goes_s12 at h
      refine lv_iload_n hx hb dX12_goes_12 rfl (lv_at hl 2 rfl) ?_
      refine lv_aload_n hx hb dX12_goes_13 rfl (lv_at hl 0 rfl) ?_
      refine gf_X12_13 hx hb hts hown hK hP dX12_goes_14 ?_
      refine lv_iload_n hx hb dX12_goes_17 rfl (lv_at hl 1 rfl) ?_
      replace h := gin_inv h
      obtain ⟨h9, h⟩ := h
      refine ld_X12_13 (f := v.2.1 13) (j := x1.toNatClampNeg) hx hb hK hP rfl h9 rfl dX12_goes_18 ?_
      refine lv_icmp_ge (tgt := 102) hx hb dX12_goes_19 (by decide) (fun c9 => ?_) (fun c9 => ?_)
      · replace h := (br h).1 c9
        replace h := itr_exit h hy1
        refine lv_iconst (v := 1) hx hb dX12_goes_102 (by decide) ?_
        exact retZ (fr := fun q => q.1) (fw := fun q => cX12 cy ad q.2) h hx hb hr narZ1 hlocks hK hP hD hS dX12_goes_103
      · replace h := (br h).2 c9
        refine lv_aload_n hx hb dX12_goes_22 rfl (lv_at hl 0 rfl) ?_
        refine gf_X12_14 hx hb hts hown hK hP dX12_goes_23 ?_
        refine lv_iload_n hx hb dX12_goes_26 rfl (lv_at hl 2 rfl) ?_
        replace h := gin_inv h
        obtain ⟨h9, h⟩ := h
        refine ld_X12_14 (f := v.2.1 14) (j := x2.toNatClampNeg) hx hb hK hP rfl h9 rfl dX12_goes_27 ?_
        refine lv_iconst (v := 2) hx hb dX12_goes_28 (by decide) ?_
        refine lv_icmp_ne (tgt := 47) hx hb dX12_goes_29 (by decide) (fun c9 => ?_) (fun c9 => ?_)
        · replace h := (br h).2 c9
          refine lv_aload_n hx hb dX12_goes_47 rfl (lv_at hl 0 rfl) ?_
          refine gf_X12_30 hx hb hts hown hK hP dX12_goes_48 ?_
          refine lv_aload_n hx hb dX12_goes_51 rfl (lv_at hl 0 rfl) ?_
          refine gf_X12_31 (x := v.1 31) hx hb hts hown hK hP rfl dX12_goes_52 ?_
          refine lv_aload_n hx hb dX12_goes_55 rfl (lv_at hl 0 rfl) ?_
          refine gf_X12_14 hx hb hts hown hK hP dX12_goes_56 ?_
          refine lv_iload_n hx hb dX12_goes_59 rfl (lv_at hl 2 rfl) ?_
          replace h := gin_inv h
          obtain ⟨h9, h⟩ := h
          refine ld_X12_14 (f := v.2.1 14) (j := x2.toNatClampNeg) hx hb hK hP rfl h9 rfl dX12_goes_60 ?_
          refine lv_if_ne (tgt := 74) hx hb dX12_goes_61 (by decide) (fun c9 => ?_) (fun c9 => ?_)
          · replace h := (br h).2 c9
            refine lv_aload_n hx hb dX12_goes_74 rfl (lv_at hl 0 rfl) ?_
            refine gf_X12_29 hx hb hts hown hK hP dX12_goes_75 ?_
            refine lv_aload_n hx hb dX12_goes_78 rfl (lv_at hl 0 rfl) ?_
            refine gf_X12_15 hx hb hts hown hK hP dX12_goes_79 ?_
            refine lv_iload_n hx hb dX12_goes_82 rfl (lv_at hl 2 rfl) ?_
            replace h := gin_inv h
            obtain ⟨h9, h⟩ := h
            refine ld_X12_15 (f := v.2.1 15) (j := x2.toNatClampNeg) hx hb hK hP rfl h9 rfl dX12_goes_83 ?_
            replace h := gin_inv h
            obtain ⟨h9, h⟩ := h
            refine ld_X12_29 (f := v.2.2 29) (j := (v.2.1 15 x2.toNatClampNeg).toNatClampNeg) hx hb hK hP rfl h9 rfl dX12_goes_84 ?_
            exact B85 x2 (v.2.2 29 ((v.2.1 15 x2.toNatClampNeg).toNatClampNeg)) (v.1 31) v _ _ _ h hP hD hS (lv_sub hl [0, 1, 2] rfl)
          · replace h := (br h).1 c9
            refine lv_aload_n hx hb dX12_goes_64 rfl (lv_at hl 0 rfl) ?_
            refine gf_X12_15 hx hb hts hown hK hP dX12_goes_65 ?_
            refine lv_iload_n hx hb dX12_goes_68 rfl (lv_at hl 2 rfl) ?_
            replace h := gin_inv h
            obtain ⟨h9, h⟩ := h
            refine ld_X12_15 (f := v.2.1 15) (j := x2.toNatClampNeg) hx hb hK hP rfl h9 rfl dX12_goes_69 ?_
            refine lv_i2l (v := (v.2.1 15 x2.toNatClampNeg).toInt64) hx hb dX12_goes_70 rfl ?_
            refine lv_goto (tgt := 85) hx hb dX12_goes_71 (by decide) ?_
            exact B85 x2 ((v.2.1 15 x2.toNatClampNeg).toInt64) (v.1 31) v _ _ _ h hP hD hS (lv_sub hl [0, 1, 2] rfl)
        · replace h := (br h).1 c9
          refine lv_aload_n hx hb dX12_goes_32 rfl (lv_at hl 0 rfl) ?_
          refine lv_aload_n hx hb dX12_goes_33 rfl (lv_at hl 0 rfl) ?_
          refine gf_X12_15 hx hb hts hown hK hP dX12_goes_34 ?_
          refine lv_iload_n hx hb dX12_goes_37 rfl (lv_at hl 2 rfl) ?_
          replace h := gin_inv h
          obtain ⟨h9, h⟩ := h
          refine ld_X12_15 (f := v.2.1 15) (j := x2.toNatClampNeg) hx hb hK hP rfl h9 rfl dX12_goes_38 ?_
          replace h := bd h
          obtain ⟨q1201, h1202, h⟩ := h
          refine callVi0 (As := [.int (v.2.1 15 x2.toNatClampNeg)]) (rest := []) hx hb hml hown hts (k_X12_works l G cy ev ad v (v.2.1 15 x2.toNatClampNeg) q1201 h1202) wm_31_5 wm_31_6 wm_31_7 wm_1_5 wm_31_8 hd_X12_works ⟨by decide, by decide⟩ hK hP hD hS hA hE (va_recv hK hP (ci := 12) (q0 := 0) rfl rfl) rfl rfl hl.1 (Nat.le_of_ble_eq_true rfl) dX12_goes_39 (fun H locs hP hD hS => ?_)
          refine lv_if_ne (tgt := 96) hx hb dX12_goes_42 (by decide) (fun c9 => ?_) (fun c9 => ?_)
          · replace h := (br h).2 c9
            exact B96 x2 q1201.2 _ _ _ h hP hD hS (lv_sub hl [0, 1, 2] rfl)
          · replace h := (br h).1 c9
            replace h := itr_exit h hy1
            refine lv_iconst (v := 0) hx hb dX12_goes_45 (by decide) ?_
            exact retZ (fr := fun q => q.1) (fw := fun q => cX12 cy ad q.2) h hx hb hr narZ0 hlocks hK hP hD hS dX12_goes_46
  delta f_X12_goes at h
  refine lv_aload_n hx hb dX12_goes_0 rfl (lv_at hl 0 rfl) ?_
  refine lv_iconst (v := 0) hx hb dX12_goes_1 (by decide) ?_
  refine pf_X12_31 hx hb hts hown hK hP hD hS dX12_goes_2 (fun H locs hP hD hS => ?_)
  refine lv_aload_n hx hb dX12_goes_5 rfl (lv_at hl 0 rfl) ?_
  refine gf_X12_12 hx hb hts hown hK hP dX12_goes_6 ?_
  refine lv_iload_n hx hb dX12_goes_9 rfl (lv_at hl 1 rfl) ?_
  replace h := gin_inv h
  obtain ⟨h9, h⟩ := h
  refine ld_X12_12 (f := v.2.1 12) (j := a1.toNatClampNeg) hx hb hK hP rfl h9 rfl dX12_goes_10 ?_
  refine lv_istore_n (lv' := [(2, .int (v.2.1 12 a1.toNatClampNeg)), (0, .ref (ad 0)), (1, .int a1)]) hx hb dX12_goes_11 rfl hl (by decide) rfl (fun ls hl => ?_)
  exact L12 a1 N (v.2.1 12 a1.toNatClampNeg) (si v 31 0) _ _ _ h hP hD hS (lv_sub hl [1, 2, 0] rfl)
theorem hd_X12_calls : yX12_calls.cls = RX12 ∧ yX12_calls.cls ≠ "java/lang/invoke/MethodHandle" ∧ yX12_calls.cls ≠ "java/lang/invoke/VarHandle" ∧ (parseMethodDescriptor yX12_calls.desc).map (fun d => d.parameters.length) = some 4 := ⟨rfl, by decide +kernel, by decide +kernel, by decide +kernel⟩
def f_X12_calls (v : VV) (a1 : Int32) (a2 : Int32) (a3 : Int32) (a4 : Int32) : Option (VV) :=
  gin a2 16 (gin ((3 * a2) + a3) 48 (gin ((3 * a1) + a3) 69 (bnd (f_X12_coffeeIn (sj (sj (sj (sj v 29 0 ((v.2.1 5 a2.toNatClampNeg).toInt64)) 29 1 ((v.2.1 6 (((3 * a2) + a3).toNatClampNeg)).toInt64)) 29 2 a4.toInt64) 29 3 ((v.2.1 43 (((3 * a1) + a3).toNatClampNeg)).toInt64)) a2) (fun q1 => gin a2 16 (gin a1 23 (some (sj (sj (sj (sj (sj (sj (sj v 29 0 ((v.2.1 5 a2.toNatClampNeg).toInt64)) 29 1 ((v.2.1 6 (((3 * a2) + a3).toNatClampNeg)).toInt64)) 29 2 a4.toInt64) 29 3 ((v.2.1 43 (((3 * a1) + a3).toNatClampNeg)).toInt64)) 29 4 q1.toInt64) 29 5 ((v.2.1 9 a2.toNatClampNeg).toInt64)) 29 6 ((v.2.1 32 a1.toNatClampNeg).toInt64))))))))
set_option maxHeartbeats 4000000 in
set_option maxRecDepth 100000 in
theorem k_X12_calls (l : Launch) (G : va_G) (cy : Nat → ClassId) (ev : Nat → Nat) (ad : Nat → Nat) (v : VV) (a1 : Int32) (a2 : Int32) (a3 : Int32) (a4 : Int32) (res : VV) (h : f_X12_calls v a1 a2 a3 a4 = some res) : MetV l yX12_calls cX12_calls 5 none 2 45 G cy ev [.ref (ad 0), .int a1, .int a2, .int a3, .int a4] (cX12 cy ad v) (cX12 cy ad res) := by
  refine MetQ.start (by decide +kernel) (Nat.le_of_ble_eq_true rfl) (fun p e s m args below meth c A ls hx hb hr hml hown hts hlocks hK hP hD hA hl hE => ?_)
  have hS : va_S A s.heap s.heap [] := va_S.rf
  have hown : s.vm.findClass RX12 = some m.cls := hown
  have hl : lv_has ls 5 [(0, .ref (ad 0)), (1, .int a1), (2, .int a2), (3, .int a3), (4, .int a4)] := hl
  delta f_X12_calls at h
  refine lv_aload_n hx hb dX12_calls_0 rfl (lv_at hl 0 rfl) ?_
  refine gf_X12_29 hx hb hts hown hK hP dX12_calls_1 ?_
  refine lv_iconst (v := 0) hx hb dX12_calls_4 (by decide) ?_
  refine lv_aload_n hx hb dX12_calls_5 rfl (lv_at hl 0 rfl) ?_
  refine gf_X12_5 hx hb hts hown hK hP dX12_calls_6 ?_
  refine lv_iload_n hx hb dX12_calls_9 rfl (lv_at hl 2 rfl) ?_
  replace h := gin_inv h
  obtain ⟨h9, h⟩ := h
  refine ld_X12_5 (f := v.2.1 5) (j := a2.toNatClampNeg) hx hb hK hP rfl h9 rfl dX12_calls_10 ?_
  refine lv_i2l (v := (v.2.1 5 a2.toNatClampNeg).toInt64) hx hb dX12_calls_11 rfl ?_
  refine st_X12_29 (j := 0) hx hb hK hP hD hS (vin_dec (by decide)) (by decide) dX12_calls_12 (fun H locs hP hD hS => ?_)
  refine lv_aload_n hx hb dX12_calls_13 rfl (lv_at hl 0 rfl) ?_
  refine gf_X12_29 hx hb hts hown hK hP dX12_calls_14 ?_
  refine lv_iconst (v := 1) hx hb dX12_calls_17 (by decide) ?_
  refine lv_aload_n hx hb dX12_calls_18 rfl (lv_at hl 0 rfl) ?_
  refine gf_X12_6 hx hb hts hown hK hP dX12_calls_19 ?_
  refine lv_iconst (v := 3) hx hb dX12_calls_22 (by decide) ?_
  refine lv_iload_n hx hb dX12_calls_23 rfl (lv_at hl 2 rfl) ?_
  refine lv_imul hx hb dX12_calls_24 ?_
  refine lv_iload_n hx hb dX12_calls_25 rfl (lv_at hl 3 rfl) ?_
  refine lv_iadd hx hb dX12_calls_26 ?_
  replace h := gin_inv h
  obtain ⟨h9, h⟩ := h
  refine ld_X12_6 (f := v.2.1 6) (j := ((3 * a2) + a3).toNatClampNeg) hx hb hK hP rfl h9 rfl dX12_calls_27 ?_
  refine lv_i2l (v := (v.2.1 6 (((3 * a2) + a3).toNatClampNeg)).toInt64) hx hb dX12_calls_28 rfl ?_
  refine st_X12_29 (j := 1) hx hb hK hP hD hS (vin_dec (by decide)) (by decide) dX12_calls_29 (fun H locs hP hD hS => ?_)
  refine lv_aload_n hx hb dX12_calls_30 rfl (lv_at hl 0 rfl) ?_
  refine gf_X12_29 hx hb hts hown hK hP dX12_calls_31 ?_
  refine lv_iconst (v := 2) hx hb dX12_calls_34 (by decide) ?_
  refine lv_iload hx hb dX12_calls_35 (lv_at hl 4 rfl) ?_
  refine lv_i2l (v := a4.toInt64) hx hb dX12_calls_37 rfl ?_
  refine st_X12_29 (j := 2) hx hb hK hP hD hS (vin_dec (by decide)) (by decide) dX12_calls_38 (fun H locs hP hD hS => ?_)
  refine lv_aload_n hx hb dX12_calls_39 rfl (lv_at hl 0 rfl) ?_
  refine gf_X12_29 hx hb hts hown hK hP dX12_calls_40 ?_
  refine lv_iconst (v := 3) hx hb dX12_calls_43 (by decide) ?_
  refine lv_aload_n hx hb dX12_calls_44 rfl (lv_at hl 0 rfl) ?_
  refine gf_X12_43 hx hb hts hown hK hP dX12_calls_45 ?_
  refine lv_iconst (v := 3) hx hb dX12_calls_48 (by decide) ?_
  refine lv_iload_n hx hb dX12_calls_49 rfl (lv_at hl 1 rfl) ?_
  refine lv_imul hx hb dX12_calls_50 ?_
  refine lv_iload_n hx hb dX12_calls_51 rfl (lv_at hl 3 rfl) ?_
  refine lv_iadd hx hb dX12_calls_52 ?_
  replace h := gin_inv h
  obtain ⟨h9, h⟩ := h
  refine ld_X12_43 (f := v.2.1 43) (j := ((3 * a1) + a3).toNatClampNeg) hx hb hK hP rfl h9 rfl dX12_calls_53 ?_
  refine lv_i2l (v := (v.2.1 43 (((3 * a1) + a3).toNatClampNeg)).toInt64) hx hb dX12_calls_54 rfl ?_
  refine st_X12_29 (j := 3) hx hb hK hP hD hS (vin_dec (by decide)) (by decide) dX12_calls_55 (fun H locs hP hD hS => ?_)
  refine lv_aload_n hx hb dX12_calls_56 rfl (lv_at hl 0 rfl) ?_
  refine gf_X12_29 hx hb hts hown hK hP dX12_calls_57 ?_
  refine lv_iconst (v := 4) hx hb dX12_calls_60 (by decide) ?_
  refine lv_aload_n hx hb dX12_calls_61 rfl (lv_at hl 0 rfl) ?_
  refine lv_iload_n hx hb dX12_calls_62 rfl (lv_at hl 2 rfl) ?_
  replace h := bd h
  obtain ⟨q1, h2, h⟩ := h
  refine callVi0 (As := [.int a2]) (rest := [.int 4, .ref (ad 30)]) hx hb hml hown hts (k_X12_coffeeIn l G cy ev ad (sj (sj (sj (sj v 29 0 ((v.2.1 5 a2.toNatClampNeg).toInt64)) 29 1 ((v.2.1 6 (((3 * a2) + a3).toNatClampNeg)).toInt64)) 29 2 a4.toInt64) 29 3 ((v.2.1 43 (((3 * a1) + a3).toNatClampNeg)).toInt64)) a2 q1 h2) wm_30_19 wm_30_20 wm_30_21 wm_1_5 wm_30_22 hd_X12_coffeeIn ⟨by decide, by decide⟩ hK hP hD hS hA hE (va_recv hK hP (ci := 12) (q0 := 0) rfl rfl) rfl rfl hl.1 (Nat.le_of_ble_eq_true rfl) dX12_calls_63 (fun H locs hP hD hS => ?_)
  refine lv_i2l (v := q1.toInt64) hx hb dX12_calls_66 rfl ?_
  refine st_X12_29 (j := 4) hx hb hK hP hD hS (vin_dec (by decide)) (by decide) dX12_calls_67 (fun H locs hP hD hS => ?_)
  refine lv_aload_n hx hb dX12_calls_68 rfl (lv_at hl 0 rfl) ?_
  refine gf_X12_29 hx hb hts hown hK hP dX12_calls_69 ?_
  refine lv_iconst (v := 5) hx hb dX12_calls_72 (by decide) ?_
  refine lv_aload_n hx hb dX12_calls_73 rfl (lv_at hl 0 rfl) ?_
  refine gf_X12_9 hx hb hts hown hK hP dX12_calls_74 ?_
  refine lv_iload_n hx hb dX12_calls_77 rfl (lv_at hl 2 rfl) ?_
  replace h := gin_inv h
  obtain ⟨h9, h⟩ := h
  refine ld_X12_9 (f := v.2.1 9) (j := a2.toNatClampNeg) hx hb hK hP rfl h9 rfl dX12_calls_78 ?_
  refine lv_i2l (v := (v.2.1 9 a2.toNatClampNeg).toInt64) hx hb dX12_calls_79 rfl ?_
  refine st_X12_29 (j := 5) hx hb hK hP hD hS (vin_dec (by decide)) (by decide) dX12_calls_80 (fun H locs hP hD hS => ?_)
  refine lv_aload_n hx hb dX12_calls_81 rfl (lv_at hl 0 rfl) ?_
  refine gf_X12_29 hx hb hts hown hK hP dX12_calls_82 ?_
  refine lv_bipush (v := 6) hx hb dX12_calls_85 (by decide) ?_
  refine lv_aload_n hx hb dX12_calls_87 rfl (lv_at hl 0 rfl) ?_
  refine gf_X12_32 hx hb hts hown hK hP dX12_calls_88 ?_
  refine lv_iload_n hx hb dX12_calls_91 rfl (lv_at hl 1 rfl) ?_
  replace h := gin_inv h
  obtain ⟨h9, h⟩ := h
  refine ld_X12_32 (f := v.2.1 32) (j := a1.toNatClampNeg) hx hb hK hP rfl h9 rfl dX12_calls_92 ?_
  refine lv_i2l (v := (v.2.1 32 a1.toNatClampNeg).toInt64) hx hb dX12_calls_93 rfl ?_
  refine st_X12_29 (j := 6) hx hb hK hP hD hS (vin_dec (by decide)) (by decide) dX12_calls_94 (fun H locs hP hD hS => ?_)
  exact retV (fw := fun q => cX12 cy ad q) h hx hb hr hlocks hK hP hD hS dX12_calls_95
theorem hd_X12_within : yX12_within.cls = RX12 ∧ yX12_within.cls ≠ "java/lang/invoke/MethodHandle" ∧ yX12_within.cls ≠ "java/lang/invoke/VarHandle" ∧ (parseMethodDescriptor yX12_within.desc).map (fun d => d.parameters.length) = some 3 := ⟨rfl, by decide +kernel, by decide +kernel, by decide +kernel⟩
def f_X12_within (N : Nat) (v : VV) (a1 : Int32) (a2 : Int32) (a3 : Int32) : Option (Int32 × VV) :=
  bnd (f_X12_hasLaw v a1) (fun q1 => if q1 = 0 then some (a3, v) else bnd (f_X12_goes N v a1) (fun q3 => if q3.1 = 0 then some (a3, q3.2) else some ((jmaxL 0 (jminL a2.toInt64 (q3.2.2.2 30 0))).toInt32, q3.2)))
set_option maxHeartbeats 4000000 in
set_option maxRecDepth 100000 in
theorem k_X12_within (l : Launch) (G : va_G) (cy : Nat → ClassId) (ev : Nat → Nat) (N : Nat) (ad : Nat → Nat) (v : VV) (a1 : Int32) (a2 : Int32) (a3 : Int32) (res : Int32 × VV) (h : f_X12_within N v a1 a2 a3 = some res) : MetI l yX12_within cX12_within 4 (some .int) 3 73 G cy ev [.ref (ad 0), .int a1, .int a2, .int a3] (cX12 cy ad v) res.1 (cX12 cy ad res.2) := by
  refine MetQ.start (by decide +kernel) (Nat.le_of_ble_eq_true rfl) (fun p e s m args below meth c A ls hx hb hr hml hown hts hlocks hK hP hD hA hl hE => ?_)
  have hS : va_S A s.heap s.heap [] := va_S.rf
  have hown : s.vm.findClass RX12 = some m.cls := hown
  have hl : lv_has ls 4 [(0, .ref (ad 0)), (1, .int a1), (2, .int a2), (3, .int a3)] := hl
  delta f_X12_within at h
  refine lv_aload_n hx hb dX12_within_0 rfl (lv_at hl 0 rfl) ?_
  refine lv_iload_n hx hb dX12_within_1 rfl (lv_at hl 1 rfl) ?_
  replace h := bd h
  obtain ⟨q1, h2, h⟩ := h
  refine callVi0 (As := [.int a1]) (rest := []) hx hb hml hown hts (k_X12_hasLaw l G cy ev ad v a1 q1 h2) wm_30_11 wm_30_12 wm_30_13 wm_1_5 wm_30_14 hd_X12_hasLaw ⟨by decide, by decide⟩ hK hP hD hS hA hE (va_recv hK hP (ci := 12) (q0 := 0) rfl rfl) rfl rfl hl.1 (Nat.le_of_ble_eq_true rfl) dX12_within_2 (fun H locs hP hD hS => ?_)
  refine lv_if_eq (tgt := 16) hx hb dX12_within_5 (by decide) (fun c9 => ?_) (fun c9 => ?_)
  · replace h := (br h).1 c9
    refine lv_iload_n hx hb dX12_within_16 rfl (lv_at hl 3 rfl) ?_
    exact retI (fr := fun q => q.1) (fw := fun q => cX12 cy ad q.2) h hx hb hr hlocks hK hP hD hS dX12_within_17
  · replace h := (br h).2 c9
    refine lv_aload_n hx hb dX12_within_8 rfl (lv_at hl 0 rfl) ?_
    refine lv_iload_n hx hb dX12_within_9 rfl (lv_at hl 1 rfl) ?_
    replace h := bd h
    obtain ⟨q3, h4, h⟩ := h
    refine callVi0 (As := [.int a1]) (rest := []) hx hb hml hown hts (k_X12_goes l G cy ev N ad v a1 q3 h4) wm_31_0 wm_31_1 wm_31_2 wm_1_5 wm_31_3 hd_X12_goes ⟨by decide, by decide⟩ hK hP hD hS hA hE (va_recv hK hP (ci := 12) (q0 := 0) rfl rfl) rfl rfl hl.1 (Nat.le_of_ble_eq_true rfl) dX12_within_10 (fun H locs hP hD hS => ?_)
    refine lv_if_ne (tgt := 18) hx hb dX12_within_13 (by decide) (fun c9 => ?_) (fun c9 => ?_)
    · replace h := (br h).2 c9
      refine lv_lconst (v := 0) hx hb dX12_within_18 (by decide) ?_
      refine lv_iload_n hx hb dX12_within_19 rfl (lv_at hl 2 rfl) ?_
      refine lv_i2l (v := a2.toInt64) hx hb dX12_within_20 rfl ?_
      refine lv_aload_n hx hb dX12_within_21 rfl (lv_at hl 0 rfl) ?_
      refine gf_X12_30 hx hb hts hown hK hP dX12_within_22 ?_
      refine lv_iconst (v := 0) hx hb dX12_within_25 (by decide) ?_
      refine ld_X12_30 (f := q3.2.2.2 30) (j := 0) hx hb hK hP rfl (vin_dec (by decide)) (by decide) dX12_within_26 ?_
      refine mminL hx hb (by rw [hml]; exact hl.1.symm) hown (hts _ wm_36_17) hts (by decide) (Nat.le_of_ble_eq_true rfl) dX12_within_27 ?_
      refine mmaxL hx hb (by rw [hml]; exact hl.1.symm) hown (hts _ wm_36_18) hts (by decide) (Nat.le_of_ble_eq_true rfl) dX12_within_30 ?_
      refine lv_l2i (v := (jmaxL 0 (jminL a2.toInt64 (q3.2.2.2 30 0))).toInt32) hx hb dX12_within_33 rfl ?_
      exact retI (fr := fun q => q.1) (fw := fun q => cX12 cy ad q.2) h hx hb hr hlocks hK hP hD hS dX12_within_34
    · replace h := (br h).1 c9
      refine lv_iload_n hx hb dX12_within_16 rfl (lv_at hl 3 rfl) ?_
      exact retI (fr := fun q => q.1) (fw := fun q => cX12 cy ad q.2) h hx hb hr hlocks hK hP hD hS dX12_within_17
theorem hd_X12_likeOf : yX12_likeOf.cls = RX12 ∧ yX12_likeOf.cls ≠ "java/lang/invoke/MethodHandle" ∧ yX12_likeOf.cls ≠ "java/lang/invoke/VarHandle" ∧ (parseMethodDescriptor yX12_likeOf.desc).map (fun d => d.parameters.length) = some 4 := ⟨rfl, by decide +kernel, by decide +kernel, by decide +kernel⟩
def f_X12_likeOf (N : Nat) (v : VV) (a1 : Int32) (a2 : Int32) (a3 : Int32) (a4 : Int32) : Option (Int32 × VV) :=
  bnd (f_X12_calls v a1 a2 a3 a4) (fun q1 => gin ((3 * a2) + a3) 48 (bnd (f_X12_within N q1 0 99 (q1.2.1 6 (((3 * a2) + a3).toNatClampNeg))) (fun q3 => some (q3.1, q3.2))))
set_option maxHeartbeats 4000000 in
set_option maxRecDepth 100000 in
theorem k_X12_likeOf (l : Launch) (G : va_G) (cy : Nat → ClassId) (ev : Nat → Nat) (N : Nat) (ad : Nat → Nat) (v : VV) (a1 : Int32) (a2 : Int32) (a3 : Int32) (a4 : Int32) (res : Int32 × VV) (h : f_X12_likeOf N v a1 a2 a3 a4 = some res) : MetI l yX12_likeOf cX12_likeOf 5 (some .int) 4 96 G cy ev [.ref (ad 0), .int a1, .int a2, .int a3, .int a4] (cX12 cy ad v) res.1 (cX12 cy ad res.2) := by
  refine MetQ.start (by decide +kernel) (Nat.le_of_ble_eq_true rfl) (fun p e s m args below meth c A ls hx hb hr hml hown hts hlocks hK hP hD hA hl hE => ?_)
  have hS : va_S A s.heap s.heap [] := va_S.rf
  have hown : s.vm.findClass RX12 = some m.cls := hown
  have hl : lv_has ls 5 [(0, .ref (ad 0)), (1, .int a1), (2, .int a2), (3, .int a3), (4, .int a4)] := hl
  delta f_X12_likeOf at h
  refine lv_aload_n hx hb dX12_likeOf_0 rfl (lv_at hl 0 rfl) ?_
  refine lv_iload_n hx hb dX12_likeOf_1 rfl (lv_at hl 1 rfl) ?_
  refine lv_iload_n hx hb dX12_likeOf_2 rfl (lv_at hl 2 rfl) ?_
  refine lv_iload_n hx hb dX12_likeOf_3 rfl (lv_at hl 3 rfl) ?_
  refine lv_iload hx hb dX12_likeOf_4 (lv_at hl 4 rfl) ?_
  replace h := bd h
  obtain ⟨q1, h2, h⟩ := h
  refine callVv0 (As := [.int a1, .int a2, .int a3, .int a4]) (rest := []) hx hb hml hown hts (k_X12_calls l G cy ev ad v a1 a2 a3 a4 q1 h2) wm_30_15 wm_30_16 wm_30_17 wm_1_5 wm_30_18 hd_X12_calls ⟨by decide, by decide⟩ hK hP hD hS hA hE (va_recv hK hP (ci := 12) (q0 := 0) rfl rfl) rfl rfl hl.1 (Nat.le_of_ble_eq_true rfl) dX12_likeOf_6 (fun H locs hP hD hS => ?_)
  refine lv_aload_n hx hb dX12_likeOf_9 rfl (lv_at hl 0 rfl) ?_
  refine lv_iconst (v := 0) hx hb dX12_likeOf_10 (by decide) ?_
  refine lv_bipush (v := 99) hx hb dX12_likeOf_11 (by decide) ?_
  refine lv_aload_n hx hb dX12_likeOf_13 rfl (lv_at hl 0 rfl) ?_
  refine gf_X12_6 hx hb hts hown hK hP dX12_likeOf_14 ?_
  refine lv_iconst (v := 3) hx hb dX12_likeOf_17 (by decide) ?_
  refine lv_iload_n hx hb dX12_likeOf_18 rfl (lv_at hl 2 rfl) ?_
  refine lv_imul hx hb dX12_likeOf_19 ?_
  refine lv_iload_n hx hb dX12_likeOf_20 rfl (lv_at hl 3 rfl) ?_
  refine lv_iadd hx hb dX12_likeOf_21 ?_
  replace h := gin_inv h
  obtain ⟨h9, h⟩ := h
  refine ld_X12_6 (f := q1.2.1 6) (j := ((3 * a2) + a3).toNatClampNeg) hx hb hK hP rfl h9 rfl dX12_likeOf_22 ?_
  replace h := bd h
  obtain ⟨q3, h4, h⟩ := h
  refine callVi0 (As := [.int 0, .int 99, .int (q1.2.1 6 (((3 * a2) + a3).toNatClampNeg))]) (rest := []) hx hb hml hown hts (k_X12_within l G cy ev N ad q1 0 99 (q1.2.1 6 (((3 * a2) + a3).toNatClampNeg)) q3 h4) wm_36_13 wm_36_14 wm_36_15 wm_1_5 wm_36_16 hd_X12_within ⟨by decide, by decide⟩ hK hP hD hS hA hE (va_recv hK hP (ci := 12) (q0 := 0) rfl rfl) rfl rfl hl.1 (Nat.le_of_ble_eq_true rfl) dX12_likeOf_23 (fun H locs hP hD hS => ?_)
  exact retI (fr := fun q => q.1) (fw := fun q => cX12 cy ad q.2) h hx hb hr hlocks hK hP hD hS dX12_likeOf_26
theorem hd_X12_stayOf : yX12_stayOf.cls = RX12 ∧ yX12_stayOf.cls ≠ "java/lang/invoke/MethodHandle" ∧ yX12_stayOf.cls ≠ "java/lang/invoke/VarHandle" ∧ (parseMethodDescriptor yX12_stayOf.desc).map (fun d => d.parameters.length) = some 4 := ⟨rfl, by decide +kernel, by decide +kernel, by decide +kernel⟩
def f_X12_stayOf (N : Nat) (v : VV) (a1 : Int32) (a2 : Int32) (a3 : Int32) (a4 : Int32) : Option (Int32 × VV) :=
  if v.1 50 = 4 then some (0, v) else bnd (f_X12_calls v a1 a2 a3 a4) (fun q1 => bnd (f_X12_coffeeIn q1 a2) (fun q3 => bnd (f_X12_within N q1 1 99 q3) (fun q5 => some (q5.1, q5.2))))
set_option maxHeartbeats 4000000 in
set_option maxRecDepth 100000 in
theorem k_X12_stayOf (l : Launch) (G : va_G) (cy : Nat → ClassId) (ev : Nat → Nat) (N : Nat) (ad : Nat → Nat) (v : VV) (a1 : Int32) (a2 : Int32) (a3 : Int32) (a4 : Int32) (res : Int32 × VV) (h : f_X12_stayOf N v a1 a2 a3 a4 = some res) : MetI l yX12_stayOf cX12_stayOf 5 (some .int) 4 96 G cy ev [.ref (ad 0), .int a1, .int a2, .int a3, .int a4] (cX12 cy ad v) res.1 (cX12 cy ad res.2) := by
  refine MetQ.start (by decide +kernel) (Nat.le_of_ble_eq_true rfl) (fun p e s m args below meth c A ls hx hb hr hml hown hts hlocks hK hP hD hA hl hE => ?_)
  have hS : va_S A s.heap s.heap [] := va_S.rf
  have hown : s.vm.findClass RX12 = some m.cls := hown
  have hl : lv_has ls 5 [(0, .ref (ad 0)), (1, .int a1), (2, .int a2), (3, .int a3), (4, .int a4)] := hl
  delta f_X12_stayOf at h
  refine lv_aload_n hx hb dX12_stayOf_0 rfl (lv_at hl 0 rfl) ?_
  refine gf_X12_50 (x := v.1 50) hx hb hts hown hK hP rfl dX12_stayOf_1 ?_
  refine lv_iconst (v := 4) hx hb dX12_stayOf_4 (by decide) ?_
  refine lv_icmp_ne (tgt := 10) hx hb dX12_stayOf_5 (by decide) (fun c9 => ?_) (fun c9 => ?_)
  · replace h := (br h).2 c9
    refine lv_aload_n hx hb dX12_stayOf_10 rfl (lv_at hl 0 rfl) ?_
    refine lv_iload_n hx hb dX12_stayOf_11 rfl (lv_at hl 1 rfl) ?_
    refine lv_iload_n hx hb dX12_stayOf_12 rfl (lv_at hl 2 rfl) ?_
    refine lv_iload_n hx hb dX12_stayOf_13 rfl (lv_at hl 3 rfl) ?_
    refine lv_iload hx hb dX12_stayOf_14 (lv_at hl 4 rfl) ?_
    replace h := bd h
    obtain ⟨q1, h2, h⟩ := h
    refine callVv0 (As := [.int a1, .int a2, .int a3, .int a4]) (rest := []) hx hb hml hown hts (k_X12_calls l G cy ev ad v a1 a2 a3 a4 q1 h2) wm_30_15 wm_30_16 wm_30_17 wm_1_5 wm_30_18 hd_X12_calls ⟨by decide, by decide⟩ hK hP hD hS hA hE (va_recv hK hP (ci := 12) (q0 := 0) rfl rfl) rfl rfl hl.1 (Nat.le_of_ble_eq_true rfl) dX12_stayOf_16 (fun H locs hP hD hS => ?_)
    refine lv_aload_n hx hb dX12_stayOf_19 rfl (lv_at hl 0 rfl) ?_
    refine lv_iconst (v := 1) hx hb dX12_stayOf_20 (by decide) ?_
    refine lv_bipush (v := 99) hx hb dX12_stayOf_21 (by decide) ?_
    refine lv_aload_n hx hb dX12_stayOf_23 rfl (lv_at hl 0 rfl) ?_
    refine lv_iload_n hx hb dX12_stayOf_24 rfl (lv_at hl 2 rfl) ?_
    replace h := bd h
    obtain ⟨q3, h4, h⟩ := h
    refine callVi0 (As := [.int a2]) (rest := [.int 99, .int 1, .ref (ad 0)]) hx hb hml hown hts (k_X12_coffeeIn l G cy ev ad q1 a2 q3 h4) wm_30_19 wm_30_20 wm_30_21 wm_1_5 wm_30_22 hd_X12_coffeeIn ⟨by decide, by decide⟩ hK hP hD hS hA hE (va_recv hK hP (ci := 12) (q0 := 0) rfl rfl) rfl rfl hl.1 (Nat.le_of_ble_eq_true rfl) dX12_stayOf_25 (fun H locs hP hD hS => ?_)
    replace h := bd h
    obtain ⟨q5, h6, h⟩ := h
    refine callVi0 (As := [.int 1, .int 99, .int q3]) (rest := []) hx hb hml hown hts (k_X12_within l G cy ev N ad q1 1 99 q3 q5 h6) wm_36_13 wm_36_14 wm_36_15 wm_1_5 wm_36_16 hd_X12_within ⟨by decide, by decide⟩ hK hP hD hS hA hE (va_recv hK hP (ci := 12) (q0 := 0) rfl rfl) rfl rfl hl.1 (Nat.le_of_ble_eq_true rfl) dX12_stayOf_28 (fun H locs hP hD hS => ?_)
    exact retI (fr := fun q => q.1) (fw := fun q => cX12 cy ad q.2) h hx hb hr hlocks hK hP hD hS dX12_stayOf_31
  · replace h := (br h).1 c9
    refine lv_iconst (v := 0) hx hb dX12_stayOf_8 (by decide) ?_
    exact retI (fr := fun q => q.1) (fw := fun q => cX12 cy ad q.2) h hx hb hr hlocks hK hP hD hS dX12_stayOf_9
theorem hd_X12_missOf : yX12_missOf.cls = RX12 ∧ yX12_missOf.cls ≠ "java/lang/invoke/MethodHandle" ∧ yX12_missOf.cls ≠ "java/lang/invoke/VarHandle" ∧ (parseMethodDescriptor yX12_missOf.desc).map (fun d => d.parameters.length) = some 4 := ⟨rfl, by decide +kernel, by decide +kernel, by decide +kernel⟩
def f_X12_missOf (N : Nat) (v : VV) (a1 : Int32) (a2 : Int32) (a3 : Int32) (a4 : Int32) : Option (Int32 × VV) :=
  if v.1 50 = 1 then some (0, v) else bnd (f_X12_calls v a1 a2 a3 a4) (fun q1 => gin a2 16 (bnd (f_X12_within N q1 2 100 (q1.2.1 9 a2.toNatClampNeg)) (fun q3 => some (q3.1, q3.2))))
set_option maxHeartbeats 4000000 in
set_option maxRecDepth 100000 in
theorem k_X12_missOf (l : Launch) (G : va_G) (cy : Nat → ClassId) (ev : Nat → Nat) (N : Nat) (ad : Nat → Nat) (v : VV) (a1 : Int32) (a2 : Int32) (a3 : Int32) (a4 : Int32) (res : Int32 × VV) (h : f_X12_missOf N v a1 a2 a3 a4 = some res) : MetI l yX12_missOf cX12_missOf 5 (some .int) 4 96 G cy ev [.ref (ad 0), .int a1, .int a2, .int a3, .int a4] (cX12 cy ad v) res.1 (cX12 cy ad res.2) := by
  refine MetQ.start (by decide +kernel) (Nat.le_of_ble_eq_true rfl) (fun p e s m args below meth c A ls hx hb hr hml hown hts hlocks hK hP hD hA hl hE => ?_)
  have hS : va_S A s.heap s.heap [] := va_S.rf
  have hown : s.vm.findClass RX12 = some m.cls := hown
  have hl : lv_has ls 5 [(0, .ref (ad 0)), (1, .int a1), (2, .int a2), (3, .int a3), (4, .int a4)] := hl
  delta f_X12_missOf at h
  refine lv_aload_n hx hb dX12_missOf_0 rfl (lv_at hl 0 rfl) ?_
  refine gf_X12_50 (x := v.1 50) hx hb hts hown hK hP rfl dX12_missOf_1 ?_
  refine lv_iconst (v := 1) hx hb dX12_missOf_4 (by decide) ?_
  refine lv_icmp_ne (tgt := 10) hx hb dX12_missOf_5 (by decide) (fun c9 => ?_) (fun c9 => ?_)
  · replace h := (br h).2 c9
    refine lv_aload_n hx hb dX12_missOf_10 rfl (lv_at hl 0 rfl) ?_
    refine lv_iload_n hx hb dX12_missOf_11 rfl (lv_at hl 1 rfl) ?_
    refine lv_iload_n hx hb dX12_missOf_12 rfl (lv_at hl 2 rfl) ?_
    refine lv_iload_n hx hb dX12_missOf_13 rfl (lv_at hl 3 rfl) ?_
    refine lv_iload hx hb dX12_missOf_14 (lv_at hl 4 rfl) ?_
    replace h := bd h
    obtain ⟨q1, h2, h⟩ := h
    refine callVv0 (As := [.int a1, .int a2, .int a3, .int a4]) (rest := []) hx hb hml hown hts (k_X12_calls l G cy ev ad v a1 a2 a3 a4 q1 h2) wm_30_15 wm_30_16 wm_30_17 wm_1_5 wm_30_18 hd_X12_calls ⟨by decide, by decide⟩ hK hP hD hS hA hE (va_recv hK hP (ci := 12) (q0 := 0) rfl rfl) rfl rfl hl.1 (Nat.le_of_ble_eq_true rfl) dX12_missOf_16 (fun H locs hP hD hS => ?_)
    refine lv_aload_n hx hb dX12_missOf_19 rfl (lv_at hl 0 rfl) ?_
    refine lv_iconst (v := 2) hx hb dX12_missOf_20 (by decide) ?_
    refine lv_bipush (v := 100) hx hb dX12_missOf_21 (by decide) ?_
    refine lv_aload_n hx hb dX12_missOf_23 rfl (lv_at hl 0 rfl) ?_
    refine gf_X12_9 hx hb hts hown hK hP dX12_missOf_24 ?_
    refine lv_iload_n hx hb dX12_missOf_27 rfl (lv_at hl 2 rfl) ?_
    replace h := gin_inv h
    obtain ⟨h9, h⟩ := h
    refine ld_X12_9 (f := q1.2.1 9) (j := a2.toNatClampNeg) hx hb hK hP rfl h9 rfl dX12_missOf_28 ?_
    replace h := bd h
    obtain ⟨q3, h4, h⟩ := h
    refine callVi0 (As := [.int 2, .int 100, .int (q1.2.1 9 a2.toNatClampNeg)]) (rest := []) hx hb hml hown hts (k_X12_within l G cy ev N ad q1 2 100 (q1.2.1 9 a2.toNatClampNeg) q3 h4) wm_36_13 wm_36_14 wm_36_15 wm_1_5 wm_36_16 hd_X12_within ⟨by decide, by decide⟩ hK hP hD hS hA hE (va_recv hK hP (ci := 12) (q0 := 0) rfl rfl) rfl rfl hl.1 (Nat.le_of_ble_eq_true rfl) dX12_missOf_29 (fun H locs hP hD hS => ?_)
    exact retI (fr := fun q => q.1) (fw := fun q => cX12 cy ad q.2) h hx hb hr hlocks hK hP hD hS dX12_missOf_32
  · replace h := (br h).1 c9
    refine lv_iconst (v := 0) hx hb dX12_missOf_8 (by decide) ?_
    exact retI (fr := fun q => q.1) (fw := fun q => cX12 cy ad q.2) h hx hb hr hlocks hK hP hD hS dX12_missOf_9
theorem hd_X12_comes : yX12_comes.cls = RX12 ∧ yX12_comes.cls ≠ "java/lang/invoke/MethodHandle" ∧ yX12_comes.cls ≠ "java/lang/invoke/VarHandle" ∧ (parseMethodDescriptor yX12_comes.desc).map (fun d => d.parameters.length) = some 3 := ⟨rfl, by decide +kernel, by decide +kernel, by decide +kernel⟩
def f_X12_comes (v : VV) (a1 : Int32) (a2 : Int32) (a3 : Int32) : Option (Int32 × VV) :=
  if a3 = 0 then if (50 : Int32) ≤ a2 then some (0, v) else some (1, v) else if a2 = 0 then some (1, v) else gin a1 23 (gin a1 23 (gin a1 23 (if (((upd (v.2.1 36) a1.toNatClampNeg ((((v.2.1 36 a1.toNatClampNeg) * 1103515245) + 12345) &&& 2147483647)) a1.toNatClampNeg) >>> (16 &&& 31)) - (((upd (v.2.1 36) a1.toNatClampNeg ((((v.2.1 36 a1.toNatClampNeg) * 1103515245) + 12345) &&& 2147483647)) a1.toNatClampNeg) >>> (16 &&& 31)) / 100 * 100 < a2 then some (0, sr v 36 a1.toNatClampNeg ((((v.2.1 36 a1.toNatClampNeg) * 1103515245) + 12345) &&& 2147483647)) else some (1, sr v 36 a1.toNatClampNeg ((((v.2.1 36 a1.toNatClampNeg) * 1103515245) + 12345) &&& 2147483647)))))
set_option maxHeartbeats 4000000 in
set_option maxRecDepth 100000 in
theorem k_X12_comes (l : Launch) (G : va_G) (cy : Nat → ClassId) (ev : Nat → Nat) (ad : Nat → Nat) (v : VV) (a1 : Int32) (a2 : Int32) (a3 : Int32) (res : Int32 × VV) (h : f_X12_comes v a1 a2 a3 = some res) : MetI l yX12_comes cX12_comes 4 (some .boolean) 0 0 G cy ev [.ref (ad 0), .int a1, .int a2, .int a3] (cX12 cy ad v) res.1 (cX12 cy ad res.2) := by
  refine MetQ.start (by decide +kernel) (Nat.le_of_ble_eq_true rfl) (fun p e s m args below meth c A ls hx hb hr hml hown hts hlocks hK hP hD hA hl hE => ?_)
  have hS : va_S A s.heap s.heap [] := va_S.rf
  have hown : s.vm.findClass RX12 = some m.cls := hown
  have hl : lv_has ls 4 [(0, .ref (ad 0)), (1, .int a1), (2, .int a2), (3, .int a3)] := hl
  delta f_X12_comes at h
  refine lv_iload_n hx hb dX12_comes_0 rfl (lv_at hl 3 rfl) ?_
  refine lv_if_ne (tgt := 16) hx hb dX12_comes_1 (by decide) (fun c9 => ?_) (fun c9 => ?_)
  · replace h := (br h).2 c9
    refine lv_iload_n hx hb dX12_comes_16 rfl (lv_at hl 2 rfl) ?_
    refine lv_if_ne (tgt := 22) hx hb dX12_comes_17 (by decide) (fun c9 => ?_) (fun c9 => ?_)
    · replace h := (br h).2 c9
      refine lv_aload_n hx hb dX12_comes_22 rfl (lv_at hl 0 rfl) ?_
      refine gf_X12_36 hx hb hts hown hK hP dX12_comes_23 ?_
      refine lv_iload_n hx hb dX12_comes_26 rfl (lv_at hl 1 rfl) ?_
      refine lv_aload_n hx hb dX12_comes_27 rfl (lv_at hl 0 rfl) ?_
      refine gf_X12_36 hx hb hts hown hK hP dX12_comes_28 ?_
      refine lv_iload_n hx hb dX12_comes_31 rfl (lv_at hl 1 rfl) ?_
      replace h := gin_inv h
      obtain ⟨h9, h⟩ := h
      refine ld_X12_36 (f := v.2.1 36) (j := a1.toNatClampNeg) hx hb hK hP rfl h9 rfl dX12_comes_32 ?_
      refine lv_ldcw (v := (1103515245)) hx hb hown (hts _ wm_37_7) dX12_comes_33 ?_
      refine lv_imul hx hb dX12_comes_36 ?_
      refine lv_sipush (v := 12345) hx hb dX12_comes_37 (by decide) ?_
      refine lv_iadd hx hb dX12_comes_40 ?_
      refine lv_ldcw (v := (2147483647)) hx hb hown (hts _ wm_37_8) dX12_comes_41 ?_
      refine lv_iand hx hb dX12_comes_44 ?_
      replace h := gin_inv h
      obtain ⟨h9, h⟩ := h
      refine st_X12_36 (j := a1.toNatClampNeg) hx hb hK hP hD hS h9 rfl dX12_comes_45 (fun H locs hP hD hS => ?_)
      refine lv_aload_n hx hb dX12_comes_46 rfl (lv_at hl 0 rfl) ?_
      refine gf_X12_36 hx hb hts hown hK hP dX12_comes_47 ?_
      refine lv_iload_n hx hb dX12_comes_50 rfl (lv_at hl 1 rfl) ?_
      replace h := gin_inv h
      obtain ⟨h9, h⟩ := h
      refine ld_X12_36 (f := upd (v.2.1 36) a1.toNatClampNeg ((((v.2.1 36 a1.toNatClampNeg) * 1103515245) + 12345) &&& 2147483647)) (j := a1.toNatClampNeg) hx hb hK hP rfl h9 rfl dX12_comes_51 ?_
      refine lv_bipush (v := 16) hx hb dX12_comes_52 (by decide) ?_
      refine lv_ishr hx hb dX12_comes_54 ?_
      refine lv_bipush (v := 100) hx hb dX12_comes_55 (by decide) ?_
      refine lv_irem hx hb dX12_comes_57 (by decide) ?_
      refine lv_iload_n hx hb dX12_comes_58 rfl (lv_at hl 2 rfl) ?_
      refine lv_icmp_lt (tgt := 66) hx hb dX12_comes_59 (by decide) (fun c9 => ?_) (fun c9 => ?_)
      · replace h := (br h).1 c9
        refine lv_iconst (v := 0) hx hb dX12_comes_66 (by decide) ?_
        exact retZ (fr := fun q => q.1) (fw := fun q => cX12 cy ad q.2) h hx hb hr narZ0 hlocks hK hP hD hS dX12_comes_67
      · replace h := (br h).2 c9
        refine lv_iconst (v := 1) hx hb dX12_comes_62 (by decide) ?_
        refine lv_goto (tgt := 67) hx hb dX12_comes_63 (by decide) ?_
        exact retZ (fr := fun q => q.1) (fw := fun q => cX12 cy ad q.2) h hx hb hr narZ1 hlocks hK hP hD hS dX12_comes_67
    · replace h := (br h).1 c9
      refine lv_iconst (v := 1) hx hb dX12_comes_20 (by decide) ?_
      exact retZ (fr := fun q => q.1) (fw := fun q => cX12 cy ad q.2) h hx hb hr narZ1 hlocks hK hP hD hS dX12_comes_21
  · replace h := (br h).1 c9
    refine lv_iload_n hx hb dX12_comes_4 rfl (lv_at hl 2 rfl) ?_
    refine lv_bipush (v := 50) hx hb dX12_comes_5 (by decide) ?_
    refine lv_icmp_ge (tgt := 14) hx hb dX12_comes_7 (by decide) (fun c9 => ?_) (fun c9 => ?_)
    · replace h := (br h).1 c9
      refine lv_iconst (v := 0) hx hb dX12_comes_14 (by decide) ?_
      exact retZ (fr := fun q => q.1) (fw := fun q => cX12 cy ad q.2) h hx hb hr narZ0 hlocks hK hP hD hS dX12_comes_15
    · replace h := (br h).2 c9
      refine lv_iconst (v := 1) hx hb dX12_comes_10 (by decide) ?_
      refine lv_goto (tgt := 15) hx hb dX12_comes_11 (by decide) ?_
      exact retZ (fr := fun q => q.1) (fw := fun q => cX12 cy ad q.2) h hx hb hr narZ1 hlocks hK hP hD hS dX12_comes_15
theorem hd_X12_takesSeat : yX12_takesSeat.cls = RX12 ∧ yX12_takesSeat.cls ≠ "java/lang/invoke/MethodHandle" ∧ yX12_takesSeat.cls ≠ "java/lang/invoke/VarHandle" ∧ (parseMethodDescriptor yX12_takesSeat.desc).map (fun d => d.parameters.length) = some 4 := ⟨rfl, by decide +kernel, by decide +kernel, by decide +kernel⟩
def f_X12_takesSeat_b250 (N : Nat) (v : VV) (z0 : Int32) (z1 : Int32) (z2 : Int32) : Option (VV) :=
  some (si v 57 (jmax z2 (z1 - z0)))
def f_X12_takesSeat_b222 (N : Nat) (v : VV) (x7 : Int32) (x8 : Int32) (x9 : Int32) : Option (VV) :=
  if x9 = 3 then f_X12_takesSeat_b250 N v x8 (x7 + x8) (v.1 57) else f_X12_takesSeat_b250 N v ((x8 * x9) / 4) (x7 + x8) (v.1 57)
def f_X12_takesSeat_b185 (N : Nat) (v : VV) (x1 : Int32) (x2 : Int32) (x3 : Int32) (x4 : Int32) (x5 : Int32) (x6 : Int32) (x7 : Int32) : Option (VV) :=
  bnd (f_X12_stayOf N v x1 x2 x3 x4) (fun q18501 => gin x6 69 (if q18501.1 ≤ 0 then f_X12_takesSeat_b222 N q18501.2 x7 q18501.1 (q18501.2.2.1 42 x6.toNatClampNeg) else gin x5 184 (gin x5 184 (f_X12_takesSeat_b222 N (sr q18501.2 39 x5.toNatClampNeg ((q18501.2.2.1 39 x5.toNatClampNeg) + (q18501.2.2.1 42 x6.toNatClampNeg))) x7 q18501.1 (q18501.2.2.1 42 x6.toNatClampNeg)))))
def f_X12_takesSeat (N : Nat) (v : VV) (a1 : Int32) (a2 : Int32) (a3 : Int32) (a4 : Int32) : Option (VV) :=
  gin a2 16 (if v.2.1 5 a2.toNatClampNeg ≤ v.1 56 then gin a2 16 (gin ((3 * a1) + a3) 69 (gin a2 16 (gin ((3 * a1) + a3) 69 (gin ((8 * a1) + a2) 184 (gin ((8 * a1) + a2) 184 (gin a1 23 (gin ((3 * a1) + a3) 69 (gin a2 16 (gin a1 23 (gin a1 23 (bnd (f_X12_likeOf N (sr (sr (sr (si v 56 ((v.1 56) - (v.2.1 5 a2.toNatClampNeg))) 45 (((3 * a1) + a3).toNatClampNeg) ((v.2.1 45 (((3 * a1) + a3).toNatClampNeg)) + (v.2.1 5 a2.toNatClampNeg))) 38 (((8 * a1) + a2).toNatClampNeg) ((v.2.1 38 (((8 * a1) + a2).toNatClampNeg)) + 1)) 35 a1.toNatClampNeg ((v.2.1 35 a1.toNatClampNeg) + ((v.2.1 43 (((3 * a1) + a3).toNatClampNeg)) * (v.2.1 5 a2.toNatClampNeg)))) a1 a2 a3 a4) (fun q1 => gin a2 16 (gin a1 23 (gin ((3 * a1) + a3) 69 (gin a2 16 (if (q1.2.2.1 44 (((3 * a1) + a3).toNatClampNeg)) + (q1.2.2.1 3 3) ≤ q1.2.2.1 7 a2.toNatClampNeg then f_X12_takesSeat_b185 N (sr q1.2 33 a1.toNatClampNeg ((v.2.1 33 a1.toNatClampNeg) + (q1.1 * (q1.2.2.1 5 a2.toNatClampNeg)))) a1 a2 a3 a4 ((8 * a1) + a2) ((3 * a1) + a3) ((q1.2.2.1 44 (((3 * a1) + a3).toNatClampNeg)) + (q1.2.2.1 3 3)) else gin ((8 * a1) + a2) 184 (gin ((8 * a1) + a2) 184 (f_X12_takesSeat_b185 N (sr (sr q1.2 33 a1.toNatClampNeg ((v.2.1 33 a1.toNatClampNeg) + (q1.1 * (q1.2.2.1 5 a2.toNatClampNeg)))) 39 (((8 * a1) + a2).toNatClampNeg) ((q1.2.2.1 39 (((8 * a1) + a2).toNatClampNeg)) + 1)) a1 a2 a3 a4 ((8 * a1) + a2) ((3 * a1) + a3) ((q1.2.2.1 44 (((3 * a1) + a3).toNatClampNeg)) + (q1.2.2.1 3 3)))))))))))))))))))) else gin ((3 * a1) + a3) 69 (gin a2 16 (gin ((3 * a1) + a3) 69 (some (sr (si v 55 ((v.1 55) ||| (1 <<< (a2 &&& 31)))) 46 (((3 * a1) + a3).toNatClampNeg) ((v.2.1 46 (((3 * a1) + a3).toNatClampNeg)) + (v.2.1 5 a2.toNatClampNeg)))))))
set_option maxHeartbeats 4000000 in
set_option maxRecDepth 100000 in
theorem k_X12_takesSeat (l : Launch) (G : va_G) (cy : Nat → ClassId) (ev : Nat → Nat) (N : Nat) (ad : Nat → Nat) (v : VV) (a1 : Int32) (a2 : Int32) (a3 : Int32) (a4 : Int32) (res : VV) (h : f_X12_takesSeat N v a1 a2 a3 a4 = some res) : MetV l yX12_takesSeat cX12_takesSeat 10 none 5 120 G cy ev [.ref (ad 0), .int a1, .int a2, .int a3, .int a4] (cX12 cy ad v) (cX12 cy ad res) := by
  refine MetQ.start (by decide +kernel) (Nat.le_of_ble_eq_true rfl) (fun p e s m args below meth c A ls hx hb hr hml hown hts hlocks hK hP hD hA hl hE => ?_)
  have hS : va_S A s.heap s.heap [] := va_S.rf
  have hown : s.vm.findClass RX12 = some m.cls := hown
  have hl : lv_has ls 10 [(0, .ref (ad 0)), (1, .int a1), (2, .int a2), (3, .int a3), (4, .int a4)] := hl
  have B250 : ∀ (z0 : Int32) (z1 : Int32) (z2 : Int32) (v : VV) (H : Heap) (locs : List Loc) (ls : Array Slot), f_X12_takesSeat_b250 N v z0 z1 z2 = some res → va_P G vwCl (cX12 cy ad v) H → va_D A (cX12 cy ad v) → va_S A s.heap H locs → lv_has ls 10 [] → W p l e (rmX 5 120) s m args below meth c H locs 0 0 (MQ below (mQv G cy A (cX12 cy ad res)) args s 0 0 A) (F0 m 250 ls [.int z0, .int z1, .int z2, .ref (ad 0)]) := by
    intro z0 z1 z2 v H locs ls h hP hD hS hl
    delta f_X12_takesSeat_b250 at h
    refine lv_isub hx hb dX12_takesSeat_250 ?_
    refine mmax hx hb (by rw [hml]; exact hl.1.symm) hown (hts _ wm_35_16) hts (by decide) (Nat.le_of_ble_eq_true rfl) dX12_takesSeat_251 ?_
    refine pf_X12_57 hx hb hts hown hK hP hD hS dX12_takesSeat_254 (fun H locs hP hD hS => ?_)
    exact retV (fw := fun q => cX12 cy ad q) h hx hb hr hlocks hK hP hD hS dX12_takesSeat_257
  have B222 : ∀ (x7 : Int32) (x8 : Int32) (x9 : Int32) (v : VV) (H : Heap) (locs : List Loc) (ls : Array Slot), f_X12_takesSeat_b222 N v x7 x8 x9 = some res → va_P G vwCl (cX12 cy ad v) H → va_D A (cX12 cy ad v) → va_S A s.heap H locs → lv_has ls 10 [(0, .ref (ad 0)), (7, .int x7), (8, .int x8), (9, .int x9)] → W p l e (rmX 5 120) s m args below meth c H locs 0 0 (MQ below (mQv G cy A (cX12 cy ad res)) args s 0 0 A) (F0 m 222 ls []) := by
    intro x7 x8 x9 v H locs ls h hP hD hS hl
    delta f_X12_takesSeat_b222 at h
    refine lv_aload_n hx hb dX12_takesSeat_222 rfl (lv_at hl 0 rfl) ?_
    refine lv_aload_n hx hb dX12_takesSeat_223 rfl (lv_at hl 0 rfl) ?_
    refine gf_X12_57 (x := v.1 57) hx hb hts hown hK hP rfl dX12_takesSeat_224 ?_
    refine lv_iload hx hb dX12_takesSeat_227 (lv_at hl 1 rfl) ?_
    refine lv_iload hx hb dX12_takesSeat_229 (lv_at hl 2 rfl) ?_
    refine lv_iadd hx hb dX12_takesSeat_231 ?_
    refine lv_iload hx hb dX12_takesSeat_232 (lv_at hl 3 rfl) ?_
    refine lv_iconst (v := 3) hx hb dX12_takesSeat_234 (by decide) ?_
    refine lv_icmp_ne (tgt := 243) hx hb dX12_takesSeat_235 (by decide) (fun c9 => ?_) (fun c9 => ?_)
    · replace h := (br h).2 c9
      refine lv_iload hx hb dX12_takesSeat_243 (lv_at hl 2 rfl) ?_
      refine lv_iload hx hb dX12_takesSeat_245 (lv_at hl 3 rfl) ?_
      refine lv_imul hx hb dX12_takesSeat_247 ?_
      refine lv_iconst (v := 4) hx hb dX12_takesSeat_248 (by decide) ?_
      refine lv_idiv hx hb dX12_takesSeat_249 (by decide) ?_
      exact B250 ((x8 * x9) / 4) (x7 + x8) (v.1 57) v _ _ _ h hP hD hS (lv_sub hl [] rfl)
    · replace h := (br h).1 c9
      refine lv_iload hx hb dX12_takesSeat_238 (lv_at hl 2 rfl) ?_
      refine lv_goto (tgt := 250) hx hb dX12_takesSeat_240 (by decide) ?_
      exact B250 x8 (x7 + x8) (v.1 57) v _ _ _ h hP hD hS (lv_sub hl [] rfl)
  have B185 : ∀ (x1 : Int32) (x2 : Int32) (x3 : Int32) (x4 : Int32) (x5 : Int32) (x6 : Int32) (x7 : Int32) (v : VV) (H : Heap) (locs : List Loc) (ls : Array Slot), f_X12_takesSeat_b185 N v x1 x2 x3 x4 x5 x6 x7 = some res → va_P G vwCl (cX12 cy ad v) H → va_D A (cX12 cy ad v) → va_S A s.heap H locs → lv_has ls 10 [(0, .ref (ad 0)), (1, .int x1), (2, .int x2), (3, .int x3), (4, .int x4), (5, .int x5), (6, .int x6), (7, .int x7)] → W p l e (rmX 5 120) s m args below meth c H locs 0 0 (MQ below (mQv G cy A (cX12 cy ad res)) args s 0 0 A) (F0 m 185 ls []) := by
    intro x1 x2 x3 x4 x5 x6 x7 v H locs ls h hP hD hS hl
    delta f_X12_takesSeat_b185 at h
    refine lv_aload_n hx hb dX12_takesSeat_185 rfl (lv_at hl 0 rfl) ?_
    refine lv_iload_n hx hb dX12_takesSeat_186 rfl (lv_at hl 1 rfl) ?_
    refine lv_iload_n hx hb dX12_takesSeat_187 rfl (lv_at hl 2 rfl) ?_
    refine lv_iload_n hx hb dX12_takesSeat_188 rfl (lv_at hl 3 rfl) ?_
    refine lv_iload hx hb dX12_takesSeat_189 (lv_at hl 4 rfl) ?_
    replace h := bd h
    obtain ⟨q18501, h18502, h⟩ := h
    refine callVi0 (As := [.int x1, .int x2, .int x3, .int x4]) (rest := []) hx hb hml hown hts (k_X12_stayOf l G cy ev N ad v x1 x2 x3 x4 q18501 h18502) wm_36_19 wm_36_20 wm_36_21 wm_1_5 wm_36_22 hd_X12_stayOf ⟨by decide, by decide⟩ hK hP hD hS hA hE (va_recv hK hP (ci := 12) (q0 := 0) rfl rfl) rfl rfl hl.1 (Nat.le_of_ble_eq_true rfl) dX12_takesSeat_191 (fun H locs hP hD hS => ?_)
    refine lv_istore (lv' := [(8, .int q18501.1), (0, .ref (ad 0)), (1, .int x1), (2, .int x2), (3, .int x3), (4, .int x4), (5, .int x5), (6, .int x6), (7, .int x7)]) hx hb dX12_takesSeat_194 hl (by decide) rfl (fun ls hl => ?_)
    refine lv_aload_n hx hb dX12_takesSeat_196 rfl (lv_at hl 1 rfl) ?_
    refine gf_X12_42 hx hb hts hown hK hP dX12_takesSeat_197 ?_
    refine lv_iload hx hb dX12_takesSeat_200 (lv_at hl 7 rfl) ?_
    replace h := gin_inv h
    obtain ⟨h9, h⟩ := h
    refine ld_X12_42 (f := q18501.2.2.1 42) (j := x6.toNatClampNeg) hx hb hK hP rfl h9 rfl dX12_takesSeat_202 ?_
    refine lv_istore (lv' := [(9, .int (q18501.2.2.1 42 x6.toNatClampNeg)), (8, .int q18501.1), (0, .ref (ad 0)), (1, .int x1), (2, .int x2), (3, .int x3), (4, .int x4), (5, .int x5), (6, .int x6), (7, .int x7)]) hx hb dX12_takesSeat_203 hl (by decide) rfl (fun ls hl => ?_)
    refine lv_iload hx hb dX12_takesSeat_205 (lv_at hl 1 rfl) ?_
    refine lv_if_le (tgt := 222) hx hb dX12_takesSeat_207 (by decide) (fun c9 => ?_) (fun c9 => ?_)
    · replace h := (br h).1 c9
      exact B222 x7 q18501.1 (q18501.2.2.1 42 x6.toNatClampNeg) q18501.2 _ _ _ h hP hD hS (lv_sub hl [2, 9, 1, 0] rfl)
    · replace h := (br h).2 c9
      refine lv_aload_n hx hb dX12_takesSeat_210 rfl (lv_at hl 2 rfl) ?_
      refine gf_X12_39 hx hb hts hown hK hP dX12_takesSeat_211 ?_
      refine lv_iload hx hb dX12_takesSeat_214 (lv_at hl 7 rfl) ?_
      refine lv_dup2_11 hx hb dX12_takesSeat_216 rfl rfl ?_
      replace h := gin_inv h
      obtain ⟨h9, h⟩ := h
      refine ld_X12_39 (f := q18501.2.2.1 39) (j := x5.toNatClampNeg) hx hb hK hP rfl h9 rfl dX12_takesSeat_217 ?_
      refine lv_iload hx hb dX12_takesSeat_218 (lv_at hl 0 rfl) ?_
      refine lv_iadd hx hb dX12_takesSeat_220 ?_
      replace h := gin_inv h
      obtain ⟨h9, h⟩ := h
      refine st_X12_39 (j := x5.toNatClampNeg) hx hb hK hP hD hS h9 rfl dX12_takesSeat_221 (fun H locs hP hD hS => ?_)
      exact B222 x7 q18501.1 (q18501.2.2.1 42 x6.toNatClampNeg) (sr q18501.2 39 x5.toNatClampNeg ((q18501.2.2.1 39 x5.toNatClampNeg) + (q18501.2.2.1 42 x6.toNatClampNeg))) _ _ _ h hP hD hS (lv_sub hl [2, 9, 1, 0] rfl)
  delta f_X12_takesSeat at h
  refine lv_bipush (v := 8) hx hb dX12_takesSeat_0 (by decide) ?_
  refine lv_iload_n hx hb dX12_takesSeat_2 rfl (lv_at hl 1 rfl) ?_
  refine lv_imul hx hb dX12_takesSeat_3 ?_
  refine lv_iload_n hx hb dX12_takesSeat_4 rfl (lv_at hl 2 rfl) ?_
  refine lv_iadd hx hb dX12_takesSeat_5 ?_
  refine lv_istore (lv' := [(5, .int ((8 * a1) + a2)), (0, .ref (ad 0)), (1, .int a1), (2, .int a2), (3, .int a3), (4, .int a4)]) hx hb dX12_takesSeat_6 hl (by decide) rfl (fun ls hl => ?_)
  refine lv_iconst (v := 3) hx hb dX12_takesSeat_8 (by decide) ?_
  refine lv_iload_n hx hb dX12_takesSeat_9 rfl (lv_at hl 2 rfl) ?_
  refine lv_imul hx hb dX12_takesSeat_10 ?_
  refine lv_iload_n hx hb dX12_takesSeat_11 rfl (lv_at hl 4 rfl) ?_
  refine lv_iadd hx hb dX12_takesSeat_12 ?_
  refine lv_istore (lv' := [(6, .int ((3 * a1) + a3)), (5, .int ((8 * a1) + a2)), (0, .ref (ad 0)), (1, .int a1), (2, .int a2), (3, .int a3), (4, .int a4)]) hx hb dX12_takesSeat_13 hl (by decide) rfl (fun ls hl => ?_)
  refine lv_aload_n hx hb dX12_takesSeat_15 rfl (lv_at hl 2 rfl) ?_
  refine gf_X12_56 (x := v.1 56) hx hb hts hown hK hP rfl dX12_takesSeat_16 ?_
  refine lv_aload_n hx hb dX12_takesSeat_19 rfl (lv_at hl 2 rfl) ?_
  refine gf_X12_5 hx hb hts hown hK hP dX12_takesSeat_20 ?_
  refine lv_iload_n hx hb dX12_takesSeat_23 rfl (lv_at hl 4 rfl) ?_
  replace h := gin_inv h
  obtain ⟨h9, h⟩ := h
  refine ld_X12_5 (f := v.2.1 5) (j := a2.toNatClampNeg) hx hb hK hP rfl h9 rfl dX12_takesSeat_24 ?_
  refine lv_icmp_ge (tgt := 57) hx hb dX12_takesSeat_25 (by decide) (fun c9 => ?_) (fun c9 => ?_)
  · replace h := (br h).1 c9
    refine lv_aload_n hx hb dX12_takesSeat_57 rfl (lv_at hl 2 rfl) ?_
    refine lv_dup hx hb dX12_takesSeat_58 rfl ?_
    refine gf_X12_56 (x := v.1 56) hx hb hts hown hK hP rfl dX12_takesSeat_59 ?_
    refine lv_aload_n hx hb dX12_takesSeat_62 rfl (lv_at hl 2 rfl) ?_
    refine gf_X12_5 hx hb hts hown hK hP dX12_takesSeat_63 ?_
    refine lv_iload_n hx hb dX12_takesSeat_66 rfl (lv_at hl 4 rfl) ?_
    replace h := gin_inv h
    obtain ⟨h9, h⟩ := h
    refine ld_X12_5 (f := v.2.1 5) (j := a2.toNatClampNeg) hx hb hK hP rfl h9 rfl dX12_takesSeat_67 ?_
    refine lv_isub hx hb dX12_takesSeat_68 ?_
    refine pf_X12_56 hx hb hts hown hK hP hD hS dX12_takesSeat_69 (fun H locs hP hD hS => ?_)
    refine lv_aload_n hx hb dX12_takesSeat_72 rfl (lv_at hl 2 rfl) ?_
    refine gf_X12_45 hx hb hts hown hK hP dX12_takesSeat_73 ?_
    refine lv_iload hx hb dX12_takesSeat_76 (lv_at hl 0 rfl) ?_
    refine lv_dup2_11 hx hb dX12_takesSeat_78 rfl rfl ?_
    replace h := gin_inv h
    obtain ⟨h9, h⟩ := h
    refine ld_X12_45 (f := v.2.1 45) (j := ((3 * a1) + a3).toNatClampNeg) hx hb hK hP rfl h9 rfl dX12_takesSeat_79 ?_
    refine lv_aload_n hx hb dX12_takesSeat_80 rfl (lv_at hl 2 rfl) ?_
    refine gf_X12_5 hx hb hts hown hK hP dX12_takesSeat_81 ?_
    refine lv_iload_n hx hb dX12_takesSeat_84 rfl (lv_at hl 4 rfl) ?_
    replace h := gin_inv h
    obtain ⟨h9, h⟩ := h
    refine ld_X12_5 (f := v.2.1 5) (j := a2.toNatClampNeg) hx hb hK hP rfl h9 rfl dX12_takesSeat_85 ?_
    refine lv_iadd hx hb dX12_takesSeat_86 ?_
    replace h := gin_inv h
    obtain ⟨h9, h⟩ := h
    refine st_X12_45 (j := ((3 * a1) + a3).toNatClampNeg) hx hb hK hP hD hS h9 rfl dX12_takesSeat_87 (fun H locs hP hD hS => ?_)
    refine lv_aload_n hx hb dX12_takesSeat_88 rfl (lv_at hl 2 rfl) ?_
    refine gf_X12_38 hx hb hts hown hK hP dX12_takesSeat_89 ?_
    refine lv_iload hx hb dX12_takesSeat_92 (lv_at hl 1 rfl) ?_
    refine lv_dup2_11 hx hb dX12_takesSeat_94 rfl rfl ?_
    replace h := gin_inv h
    obtain ⟨h9, h⟩ := h
    refine ld_X12_38 (f := v.2.1 38) (j := ((8 * a1) + a2).toNatClampNeg) hx hb hK hP rfl h9 rfl dX12_takesSeat_95 ?_
    refine lv_iconst (v := 1) hx hb dX12_takesSeat_96 (by decide) ?_
    refine lv_iadd hx hb dX12_takesSeat_97 ?_
    replace h := gin_inv h
    obtain ⟨h9, h⟩ := h
    refine st_X12_38 (j := ((8 * a1) + a2).toNatClampNeg) hx hb hK hP hD hS h9 rfl dX12_takesSeat_98 (fun H locs hP hD hS => ?_)
    refine lv_aload_n hx hb dX12_takesSeat_99 rfl (lv_at hl 2 rfl) ?_
    refine gf_X12_35 hx hb hts hown hK hP dX12_takesSeat_100 ?_
    refine lv_iload_n hx hb dX12_takesSeat_103 rfl (lv_at hl 3 rfl) ?_
    refine lv_dup2_11 hx hb dX12_takesSeat_104 rfl rfl ?_
    replace h := gin_inv h
    obtain ⟨h9, h⟩ := h
    refine ld_X12_35 (f := v.2.1 35) (j := a1.toNatClampNeg) hx hb hK hP rfl h9 rfl dX12_takesSeat_105 ?_
    refine lv_aload_n hx hb dX12_takesSeat_106 rfl (lv_at hl 2 rfl) ?_
    refine gf_X12_43 hx hb hts hown hK hP dX12_takesSeat_107 ?_
    refine lv_iload hx hb dX12_takesSeat_110 (lv_at hl 0 rfl) ?_
    replace h := gin_inv h
    obtain ⟨h9, h⟩ := h
    refine ld_X12_43 (f := v.2.1 43) (j := ((3 * a1) + a3).toNatClampNeg) hx hb hK hP rfl h9 rfl dX12_takesSeat_112 ?_
    refine lv_aload_n hx hb dX12_takesSeat_113 rfl (lv_at hl 2 rfl) ?_
    refine gf_X12_5 hx hb hts hown hK hP dX12_takesSeat_114 ?_
    refine lv_iload_n hx hb dX12_takesSeat_117 rfl (lv_at hl 4 rfl) ?_
    replace h := gin_inv h
    obtain ⟨h9, h⟩ := h
    refine ld_X12_5 (f := v.2.1 5) (j := a2.toNatClampNeg) hx hb hK hP rfl h9 rfl dX12_takesSeat_118 ?_
    refine lv_imul hx hb dX12_takesSeat_119 ?_
    refine lv_iadd hx hb dX12_takesSeat_120 ?_
    replace h := gin_inv h
    obtain ⟨h9, h⟩ := h
    refine st_X12_35 (j := a1.toNatClampNeg) hx hb hK hP hD hS h9 rfl dX12_takesSeat_121 (fun H locs hP hD hS => ?_)
    refine lv_aload_n hx hb dX12_takesSeat_122 rfl (lv_at hl 2 rfl) ?_
    refine gf_X12_33 hx hb hts hown hK hP dX12_takesSeat_123 ?_
    refine lv_iload_n hx hb dX12_takesSeat_126 rfl (lv_at hl 3 rfl) ?_
    refine lv_dup2_11 hx hb dX12_takesSeat_127 rfl rfl ?_
    replace h := gin_inv h
    obtain ⟨h9, h⟩ := h
    refine ld_X12_33 (f := v.2.1 33) (j := a1.toNatClampNeg) hx hb hK hP rfl h9 rfl dX12_takesSeat_128 ?_
    refine lv_aload_n hx hb dX12_takesSeat_129 rfl (lv_at hl 2 rfl) ?_
    refine lv_iload_n hx hb dX12_takesSeat_130 rfl (lv_at hl 3 rfl) ?_
    refine lv_iload_n hx hb dX12_takesSeat_131 rfl (lv_at hl 4 rfl) ?_
    refine lv_iload_n hx hb dX12_takesSeat_132 rfl (lv_at hl 5 rfl) ?_
    refine lv_iload hx hb dX12_takesSeat_133 (lv_at hl 6 rfl) ?_
    replace h := bd h
    obtain ⟨q1, h2, h⟩ := h
    refine callVi0 (As := [.int a1, .int a2, .int a3, .int a4]) (rest := [.int (v.2.1 33 a1.toNatClampNeg), .int a1, .ref (ad 34)]) hx hb hml hown hts (k_X12_likeOf l G cy ev N ad (sr (sr (sr (si v 56 ((v.1 56) - (v.2.1 5 a2.toNatClampNeg))) 45 (((3 * a1) + a3).toNatClampNeg) ((v.2.1 45 (((3 * a1) + a3).toNatClampNeg)) + (v.2.1 5 a2.toNatClampNeg))) 38 (((8 * a1) + a2).toNatClampNeg) ((v.2.1 38 (((8 * a1) + a2).toNatClampNeg)) + 1)) 35 a1.toNatClampNeg ((v.2.1 35 a1.toNatClampNeg) + ((v.2.1 43 (((3 * a1) + a3).toNatClampNeg)) * (v.2.1 5 a2.toNatClampNeg)))) a1 a2 a3 a4 q1 h2) wm_36_9 wm_36_10 wm_36_11 wm_1_5 wm_36_12 hd_X12_likeOf ⟨by decide, by decide⟩ hK hP hD hS hA hE (va_recv hK hP (ci := 12) (q0 := 0) rfl rfl) rfl rfl hl.1 (Nat.le_of_ble_eq_true rfl) dX12_takesSeat_135 (fun H locs hP hD hS => ?_)
    refine lv_aload_n hx hb dX12_takesSeat_138 rfl (lv_at hl 2 rfl) ?_
    refine gf_X12_5 hx hb hts hown hK hP dX12_takesSeat_139 ?_
    refine lv_iload_n hx hb dX12_takesSeat_142 rfl (lv_at hl 4 rfl) ?_
    replace h := gin_inv h
    obtain ⟨h9, h⟩ := h
    refine ld_X12_5 (f := q1.2.2.1 5) (j := a2.toNatClampNeg) hx hb hK hP rfl h9 rfl dX12_takesSeat_143 ?_
    refine lv_imul hx hb dX12_takesSeat_144 ?_
    refine lv_iadd hx hb dX12_takesSeat_145 ?_
    replace h := gin_inv h
    obtain ⟨h9, h⟩ := h
    refine st_X12_33 (j := a1.toNatClampNeg) hx hb hK hP hD hS h9 rfl dX12_takesSeat_146 (fun H locs hP hD hS => ?_)
    refine lv_aload_n hx hb dX12_takesSeat_147 rfl (lv_at hl 2 rfl) ?_
    refine gf_X12_44 hx hb hts hown hK hP dX12_takesSeat_148 ?_
    refine lv_iload hx hb dX12_takesSeat_151 (lv_at hl 0 rfl) ?_
    replace h := gin_inv h
    obtain ⟨h9, h⟩ := h
    refine ld_X12_44 (f := q1.2.2.1 44) (j := ((3 * a1) + a3).toNatClampNeg) hx hb hK hP rfl h9 rfl dX12_takesSeat_153 ?_
    refine lv_aload_n hx hb dX12_takesSeat_154 rfl (lv_at hl 2 rfl) ?_
    refine gf_X12_3 hx hb hts hown hK hP dX12_takesSeat_155 ?_
    refine lv_iconst (v := 3) hx hb dX12_takesSeat_158 (by decide) ?_
    refine ld_X12_3 (f := q1.2.2.1 3) (j := 3) hx hb hK hP rfl (vin_dec (by decide)) (by decide) dX12_takesSeat_159 ?_
    refine lv_iadd hx hb dX12_takesSeat_160 ?_
    refine lv_istore (lv' := [(7, .int ((q1.2.2.1 44 (((3 * a1) + a3).toNatClampNeg)) + (q1.2.2.1 3 3))), (6, .int ((3 * a1) + a3)), (5, .int ((8 * a1) + a2)), (0, .ref (ad 0)), (1, .int a1), (2, .int a2), (3, .int a3), (4, .int a4)]) hx hb dX12_takesSeat_161 hl (by decide) rfl (fun ls hl => ?_)
    refine lv_iload hx hb dX12_takesSeat_163 (lv_at hl 0 rfl) ?_
    refine lv_aload_n hx hb dX12_takesSeat_165 rfl (lv_at hl 3 rfl) ?_
    refine gf_X12_7 hx hb hts hown hK hP dX12_takesSeat_166 ?_
    refine lv_iload_n hx hb dX12_takesSeat_169 rfl (lv_at hl 5 rfl) ?_
    replace h := gin_inv h
    obtain ⟨h9, h⟩ := h
    refine ld_X12_7 (f := q1.2.2.1 7) (j := a2.toNatClampNeg) hx hb hK hP rfl h9 rfl dX12_takesSeat_170 ?_
    refine lv_icmp_le (tgt := 185) hx hb dX12_takesSeat_171 (by decide) (fun c9 => ?_) (fun c9 => ?_)
    · replace h := (br h).1 c9
      exact B185 a1 a2 a3 a4 ((8 * a1) + a2) ((3 * a1) + a3) ((q1.2.2.1 44 (((3 * a1) + a3).toNatClampNeg)) + (q1.2.2.1 3 3)) (sr q1.2 33 a1.toNatClampNeg ((v.2.1 33 a1.toNatClampNeg) + (q1.1 * (q1.2.2.1 5 a2.toNatClampNeg)))) _ _ _ h hP hD hS (lv_sub hl [3, 4, 5, 6, 7, 2, 1, 0] rfl)
    · replace h := (br h).2 c9
      refine lv_aload_n hx hb dX12_takesSeat_174 rfl (lv_at hl 3 rfl) ?_
      refine gf_X12_39 hx hb hts hown hK hP dX12_takesSeat_175 ?_
      refine lv_iload hx hb dX12_takesSeat_178 (lv_at hl 2 rfl) ?_
      refine lv_dup2_11 hx hb dX12_takesSeat_180 rfl rfl ?_
      replace h := gin_inv h
      obtain ⟨h9, h⟩ := h
      refine ld_X12_39 (f := q1.2.2.1 39) (j := ((8 * a1) + a2).toNatClampNeg) hx hb hK hP rfl h9 rfl dX12_takesSeat_181 ?_
      refine lv_iconst (v := 1) hx hb dX12_takesSeat_182 (by decide) ?_
      refine lv_iadd hx hb dX12_takesSeat_183 ?_
      replace h := gin_inv h
      obtain ⟨h9, h⟩ := h
      refine st_X12_39 (j := ((8 * a1) + a2).toNatClampNeg) hx hb hK hP hD hS h9 rfl dX12_takesSeat_184 (fun H locs hP hD hS => ?_)
      exact B185 a1 a2 a3 a4 ((8 * a1) + a2) ((3 * a1) + a3) ((q1.2.2.1 44 (((3 * a1) + a3).toNatClampNeg)) + (q1.2.2.1 3 3)) (sr (sr q1.2 33 a1.toNatClampNeg ((v.2.1 33 a1.toNatClampNeg) + (q1.1 * (q1.2.2.1 5 a2.toNatClampNeg)))) 39 (((8 * a1) + a2).toNatClampNeg) ((q1.2.2.1 39 (((8 * a1) + a2).toNatClampNeg)) + 1)) _ _ _ h hP hD hS (lv_sub hl [3, 4, 5, 6, 7, 2, 1, 0] rfl)
  · replace h := (br h).2 c9
    refine lv_aload_n hx hb dX12_takesSeat_28 rfl (lv_at hl 2 rfl) ?_
    refine lv_dup hx hb dX12_takesSeat_29 rfl ?_
    refine gf_X12_55 (x := v.1 55) hx hb hts hown hK hP rfl dX12_takesSeat_30 ?_
    refine lv_iconst (v := 1) hx hb dX12_takesSeat_33 (by decide) ?_
    refine lv_iload_n hx hb dX12_takesSeat_34 rfl (lv_at hl 4 rfl) ?_
    refine lv_ishl hx hb dX12_takesSeat_35 ?_
    refine lv_ior hx hb dX12_takesSeat_36 ?_
    refine pf_X12_55 hx hb hts hown hK hP hD hS dX12_takesSeat_37 (fun H locs hP hD hS => ?_)
    refine lv_aload_n hx hb dX12_takesSeat_40 rfl (lv_at hl 2 rfl) ?_
    refine gf_X12_46 hx hb hts hown hK hP dX12_takesSeat_41 ?_
    refine lv_iload hx hb dX12_takesSeat_44 (lv_at hl 0 rfl) ?_
    refine lv_dup2_11 hx hb dX12_takesSeat_46 rfl rfl ?_
    replace h := gin_inv h
    obtain ⟨h9, h⟩ := h
    refine ld_X12_46 (f := v.2.1 46) (j := ((3 * a1) + a3).toNatClampNeg) hx hb hK hP rfl h9 rfl dX12_takesSeat_47 ?_
    refine lv_aload_n hx hb dX12_takesSeat_48 rfl (lv_at hl 2 rfl) ?_
    refine gf_X12_5 hx hb hts hown hK hP dX12_takesSeat_49 ?_
    refine lv_iload_n hx hb dX12_takesSeat_52 rfl (lv_at hl 4 rfl) ?_
    replace h := gin_inv h
    obtain ⟨h9, h⟩ := h
    refine ld_X12_5 (f := v.2.1 5) (j := a2.toNatClampNeg) hx hb hK hP rfl h9 rfl dX12_takesSeat_53 ?_
    refine lv_iadd hx hb dX12_takesSeat_54 ?_
    replace h := gin_inv h
    obtain ⟨h9, h⟩ := h
    refine st_X12_46 (j := ((3 * a1) + a3).toNatClampNeg) hx hb hK hP hD hS h9 rfl dX12_takesSeat_55 (fun H locs hP hD hS => ?_)
    exact retV (fw := fun q => cX12 cy ad q) h hx hb hr hlocks hK hP hD hS dX12_takesSeat_56
theorem hd_X12_sits : yX12_sits.cls = RX12 ∧ yX12_sits.cls ≠ "java/lang/invoke/MethodHandle" ∧ yX12_sits.cls ≠ "java/lang/invoke/VarHandle" ∧ (parseMethodDescriptor yX12_sits.desc).map (fun d => d.parameters.length) = some 4 := ⟨rfl, by decide +kernel, by decide +kernel, by decide +kernel⟩
def f_X12_sits_b198 (N : Nat) (v : VV) (x1 : Int32) (x2 : Int32) (x3 : Int32) (x6 : Int32) (x7 : Int32) : Option (((Int32 × VV) ⊕ (VV))) :=
  some (.inl (x7 + 1, v))
def f_X12_sits_b150 (N : Nat) (v : VV) (x1 : Int32) (x2 : Int32) (x3 : Int32) (x6 : Int32) (x7 : Int32) : Option (((Int32 × VV) ⊕ (VV))) :=
  bnd (f_X12_missOf N v x1 x7 x2 x6) (fun q15001 => bnd (f_X12_comes q15001.2 x1 q15001.1 x3) (fun q15003 => if q15003.1 = 0 then gin ((8 * x1) + x7) 184 (gin ((8 * x1) + x7) 184 (f_X12_sits_b198 N (sr q15003.2 40 (((8 * x1) + x7).toNatClampNeg) ((q15003.2.2.1 40 (((8 * x1) + x7).toNatClampNeg)) + 1)) x1 x2 x3 x6 x7)) else bnd (f_X12_takesSeat N q15003.2 x1 x7 x2 x6) (fun q15005 => f_X12_sits_b198 N q15005 x1 x2 x3 x6 x7)))
def f_X12_sits_s103 (N : Nat) (v : VV) (x1 : Int32) (x2 : Int32) (x3 : Int32) (x6 : Int32) (x7 : Int32) : Option (((Int32 × VV) ⊕ (VV))) :=
  if v.2.1 3 0 ≤ x7 then inrO (some v) else gin ((8 * x1) + x7) 184 (if v.2.1 37 (((8 * x1) + x7).toNatClampNeg) = x2 then if v.1 50 = 2 then if x7 = v.1 51 then f_X12_sits_b198 N v x1 x2 x3 x6 x7 else f_X12_sits_b150 N v x1 x2 x3 x6 x7 else f_X12_sits_b150 N v x1 x2 x3 x6 x7 else f_X12_sits_b198 N v x1 x2 x3 x6 x7)
def f_X12_sits_b94 (N : Nat) (v : VV) (x1 : Int32) (x2 : Int32) (x3 : Int32) (x4 : Int32) (x6 : Int32) (x7 : Int32) : Option (((Int32 × VV) ⊕ (VV))) :=
  some (.inl (x7 + 1, v))
def f_X12_sits_s62 (N : Nat) (v : VV) (x1 : Int32) (x2 : Int32) (x3 : Int32) (x4 : Int32) (x6 : Int32) (x7 : Int32) : Option (((Int32 × VV) ⊕ (VV))) :=
  if v.2.1 3 0 ≤ x7 then inrO (itr (fun q : Int32 × VV => f_X12_sits_s103 N q.2 x1 x2 x3 x6 q.1) N (0, v)) else if (x4 >>> (x7 &&& 31)) &&& 1 = 1 then bnd (f_X12_takesSeat N v x1 x7 x2 x6) (fun q6201 => f_X12_sits_b94 N q6201 x1 x2 x3 x4 x6 x7) else f_X12_sits_b94 N v x1 x2 x3 x4 x6 x7
def f_X12_sits (N : Nat) (v : VV) (a1 : Int32) (a2 : Int32) (a3 : Int32) (a4 : Int32) : Option (VV) :=
  gin ((3 * a1) + a2) 69 (gin a2 6 (gin a2 3 (bnd (f_X12_seatsOf v) (fun q1 => gin ((3 * a1) + a2) 69 (gin ((3 * a1) + a2) 69 (itr (fun q : Int32 × VV => f_X12_sits_s62 N q.2 a1 a2 a3 a4 (((v.2.1 44 (((3 * a1) + a2).toNatClampNeg)) - (v.2.1 10 a2.toNatClampNeg)) - (v.2.1 54 a2.toNatClampNeg)) q.1) N (0, si (sr (sr (si v 56 q1) 45 (((3 * a1) + a2).toNatClampNeg) 0) 46 (((3 * a1) + a2).toNatClampNeg) 0) 55 0)))))))
set_option maxHeartbeats 4000000 in
set_option maxRecDepth 100000 in
theorem k_X12_sits (l : Launch) (G : va_G) (cy : Nat → ClassId) (ev : Nat → Nat) (N : Nat) (ad : Nat → Nat) (v : VV) (a1 : Int32) (a2 : Int32) (a3 : Int32) (a4 : Int32) (res : VV) (h : f_X12_sits N v a1 a2 a3 a4 = some res) : MetV l yX12_sits cX12_sits 8 none 6 149 G cy ev [.ref (ad 0), .int a1, .int a2, .int a3, .int a4] (cX12 cy ad v) (cX12 cy ad res) := by
  refine MetQ.start (by decide +kernel) (Nat.le_of_ble_eq_true rfl) (fun p e s m args below meth c A ls hx hb hr hml hown hts hlocks hK hP hD hA hl hE => ?_)
  have hS : va_S A s.heap s.heap [] := va_S.rf
  have hown : s.vm.findClass RX12 = some m.cls := hown
  have hl : lv_has ls 8 [(0, .ref (ad 0)), (1, .int a1), (2, .int a2), (3, .int a3), (4, .int a4)] := hl
  have L103 : ∀ (x1 : Int32) (x2 : Int32) (x3 : Int32) (x6 : Int32) (n : Nat) (x7 : Int32) (v : VV) (H : Heap) (locs : List Loc) (ls : Array Slot), itr (fun q : Int32 × VV => f_X12_sits_s103 N q.2 x1 x2 x3 x6 q.1) n (x7, v) = some res → va_P G vwCl (cX12 cy ad v) H → va_D A (cX12 cy ad v) → va_S A s.heap H locs → lv_has ls 8 [(0, .ref (ad 0)), (1, .int x1), (2, .int x2), (3, .int x3), (6, .int x6), (7, .int x7)] → W p l e (rmX 6 149) s m args below meth c H locs 0 0 (MQ below (mQv G cy A (cX12 cy ad res)) args s 0 0 A) (F0 m 103 ls []) := by
    intro x1 x2 x3 x6 n
    induction n with
    | zero => intro x7 v H locs ls h; exact (itr_zero h).elim
    | succ n ih1 =>
      intro x7 v H locs ls h hP hD hS hl
      obtain ⟨y1, h, hy1⟩ := itr_inv h
      have h : f_X12_sits_s103 N v x1 x2 x3 x6 x7 = some y1 := h
      have B198 : ∀ (x7 : Int32) (v : VV) (H : Heap) (locs : List Loc) (ls : Array Slot), f_X12_sits_b198 N v x1 x2 x3 x6 x7 = some y1 → va_P G vwCl (cX12 cy ad v) H → va_D A (cX12 cy ad v) → va_S A s.heap H locs → lv_has ls 8 [(0, .ref (ad 0)), (1, .int x1), (2, .int x2), (3, .int x3), (6, .int x6), (7, .int x7)] → W p l e (rmX 6 149) s m args below meth c H locs 0 0 (MQ below (mQv G cy A (cX12 cy ad res)) args s 0 0 A) (F0 m 198 ls []) := by
        intro x7 v H locs ls h hP hD hS hl
        delta f_X12_sits_b198 at h
        refine lv_iinc (v := x7 + 1) (lv' := [(7, .int (x7 + 1)), (0, .ref (ad 0)), (1, .int x1), (2, .int x2), (3, .int x3), (6, .int x6)]) hx hb dX12_sits_198 hl (k := 5) rfl rfl (by decide) rfl (fun ls hl => ?_)
        refine lv_goto (tgt := 103) hx hb dX12_sits_201 (by decide) ?_
        replace h := itr_back h hy1
        exact ih1 (x7 + 1) v _ _ _ h hP hD hS (lv_sub hl [1, 2, 3, 4, 5, 0] rfl)
      have B150 : ∀ (x7 : Int32) (v : VV) (H : Heap) (locs : List Loc) (ls : Array Slot), f_X12_sits_b150 N v x1 x2 x3 x6 x7 = some y1 → va_P G vwCl (cX12 cy ad v) H → va_D A (cX12 cy ad v) → va_S A s.heap H locs → lv_has ls 8 [(0, .ref (ad 0)), (1, .int x1), (2, .int x2), (3, .int x3), (6, .int x6), (7, .int x7)] → W p l e (rmX 6 149) s m args below meth c H locs 0 0 (MQ below (mQv G cy A (cX12 cy ad res)) args s 0 0 A) (F0 m 150 ls []) := by
        intro x7 v H locs ls h hP hD hS hl
        delta f_X12_sits_b150 at h
        refine lv_aload_n hx hb dX12_sits_150 rfl (lv_at hl 0 rfl) ?_
        refine lv_iload_n hx hb dX12_sits_151 rfl (lv_at hl 1 rfl) ?_
        refine lv_aload_n hx hb dX12_sits_152 rfl (lv_at hl 0 rfl) ?_
        refine lv_iload_n hx hb dX12_sits_153 rfl (lv_at hl 1 rfl) ?_
        refine lv_iload hx hb dX12_sits_154 (lv_at hl 5 rfl) ?_
        refine lv_iload_n hx hb dX12_sits_156 rfl (lv_at hl 2 rfl) ?_
        refine lv_iload hx hb dX12_sits_157 (lv_at hl 4 rfl) ?_
        replace h := bd h
        obtain ⟨q15001, h15002, h⟩ := h
        refine callVi0 (As := [.int x1, .int x7, .int x2, .int x6]) (rest := [.int x1, .ref (ad 0)]) hx hb hml hown hts (k_X12_missOf l G cy ev N ad v x1 x7 x2 x6 q15001 h15002) wm_36_23 wm_37_0 wm_37_1 wm_1_5 wm_37_2 hd_X12_missOf ⟨by decide, by decide⟩ hK hP hD hS hA hE (va_recv hK hP (ci := 12) (q0 := 0) rfl rfl) rfl rfl hl.1 (Nat.le_of_ble_eq_true rfl) dX12_sits_159 (fun H locs hP hD hS => ?_)
        refine lv_iload_n hx hb dX12_sits_162 rfl (lv_at hl 3 rfl) ?_
        replace h := bd h
        obtain ⟨q15003, h15004, h⟩ := h
        refine callVi0 (As := [.int x1, .int q15001.1, .int x3]) (rest := []) hx hb hml hown hts (k_X12_comes l G cy ev ad q15001.2 x1 q15001.1 x3 q15003 h15004) wm_37_3 wm_37_4 wm_37_5 wm_1_5 wm_37_6 hd_X12_comes ⟨by decide, by decide⟩ hK hP hD hS hA hE (va_recv hK hP (ci := 12) (q0 := 0) rfl rfl) rfl rfl hl.1 (Nat.le_of_ble_eq_true rfl) dX12_sits_163 (fun H locs hP hD hS => ?_)
        refine lv_if_eq (tgt := 182) hx hb dX12_sits_166 (by decide) (fun c9 => ?_) (fun c9 => ?_)
        · replace h := (br h).1 c9
          refine lv_aload_n hx hb dX12_sits_182 rfl (lv_at hl 0 rfl) ?_
          refine gf_X12_40 hx hb hts hown hK hP dX12_sits_183 ?_
          refine lv_bipush (v := 8) hx hb dX12_sits_186 (by decide) ?_
          refine lv_iload_n hx hb dX12_sits_188 rfl (lv_at hl 1 rfl) ?_
          refine lv_imul hx hb dX12_sits_189 ?_
          refine lv_iload hx hb dX12_sits_190 (lv_at hl 5 rfl) ?_
          refine lv_iadd hx hb dX12_sits_192 ?_
          refine lv_dup2_11 hx hb dX12_sits_193 rfl rfl ?_
          replace h := gin_inv h
          obtain ⟨h9, h⟩ := h
          refine ld_X12_40 (f := q15003.2.2.1 40) (j := ((8 * x1) + x7).toNatClampNeg) hx hb hK hP rfl h9 rfl dX12_sits_194 ?_
          refine lv_iconst (v := 1) hx hb dX12_sits_195 (by decide) ?_
          refine lv_iadd hx hb dX12_sits_196 ?_
          replace h := gin_inv h
          obtain ⟨h9, h⟩ := h
          refine st_X12_40 (j := ((8 * x1) + x7).toNatClampNeg) hx hb hK hP hD hS h9 rfl dX12_sits_197 (fun H locs hP hD hS => ?_)
          exact B198 x7 (sr q15003.2 40 (((8 * x1) + x7).toNatClampNeg) ((q15003.2.2.1 40 (((8 * x1) + x7).toNatClampNeg)) + 1)) _ _ _ h hP hD hS (lv_sub hl [0, 1, 2, 3, 4, 5] rfl)
        · replace h := (br h).2 c9
          refine lv_aload_n hx hb dX12_sits_169 rfl (lv_at hl 0 rfl) ?_
          refine lv_iload_n hx hb dX12_sits_170 rfl (lv_at hl 1 rfl) ?_
          refine lv_iload hx hb dX12_sits_171 (lv_at hl 5 rfl) ?_
          refine lv_iload_n hx hb dX12_sits_173 rfl (lv_at hl 2 rfl) ?_
          refine lv_iload hx hb dX12_sits_174 (lv_at hl 4 rfl) ?_
          replace h := bd h
          obtain ⟨q15005, h15006, h⟩ := h
          refine callVv0 (As := [.int x1, .int x7, .int x2, .int x6]) (rest := []) hx hb hml hown hts (k_X12_takesSeat l G cy ev N ad q15003.2 x1 x7 x2 x6 q15005 h15006) wm_36_5 wm_36_6 wm_36_7 wm_1_5 wm_36_8 hd_X12_takesSeat ⟨by decide, by decide⟩ hK hP hD hS hA hE (va_recv hK hP (ci := 12) (q0 := 0) rfl rfl) rfl rfl hl.1 (Nat.le_of_ble_eq_true rfl) dX12_sits_176 (fun H locs hP hD hS => ?_)
          refine lv_goto (tgt := 198) hx hb dX12_sits_179 (by decide) ?_
          exact B198 x7 q15005 _ _ _ h hP hD hS (lv_sub hl [0, 1, 2, 3, 4, 5] rfl)
      delta f_X12_sits_s103 at h
      refine lv_iload hx hb dX12_sits_103 (lv_at hl 5 rfl) ?_
      refine lv_aload_n hx hb dX12_sits_105 rfl (lv_at hl 0 rfl) ?_
      refine gf_X12_3 hx hb hts hown hK hP dX12_sits_106 ?_
      refine lv_iconst (v := 0) hx hb dX12_sits_109 (by decide) ?_
      refine ld_X12_3 (f := v.2.1 3) (j := 0) hx hb hK hP rfl (vin_dec (by decide)) (by decide) dX12_sits_110 ?_
      refine lv_icmp_ge (tgt := 204) hx hb dX12_sits_111 (by decide) (fun c9 => ?_) (fun c9 => ?_)
      · replace h := (br h).1 c9
        replace h := itr_exit h hy1
        exact retV (fw := fun q => cX12 cy ad q) h hx hb hr hlocks hK hP hD hS dX12_sits_204
      · replace h := (br h).2 c9
        refine lv_aload_n hx hb dX12_sits_114 rfl (lv_at hl 0 rfl) ?_
        refine gf_X12_37 hx hb hts hown hK hP dX12_sits_115 ?_
        refine lv_bipush (v := 8) hx hb dX12_sits_118 (by decide) ?_
        refine lv_iload_n hx hb dX12_sits_120 rfl (lv_at hl 1 rfl) ?_
        refine lv_imul hx hb dX12_sits_121 ?_
        refine lv_iload hx hb dX12_sits_122 (lv_at hl 5 rfl) ?_
        refine lv_iadd hx hb dX12_sits_124 ?_
        replace h := gin_inv h
        obtain ⟨h9, h⟩ := h
        refine ld_X12_37 (f := v.2.1 37) (j := ((8 * x1) + x7).toNatClampNeg) hx hb hK hP rfl h9 rfl dX12_sits_125 ?_
        refine lv_iload_n hx hb dX12_sits_126 rfl (lv_at hl 2 rfl) ?_
        refine lv_icmp_ne (tgt := 198) hx hb dX12_sits_127 (by decide) (fun c9 => ?_) (fun c9 => ?_)
        · replace h := (br h).2 c9
          exact B198 x7 v _ _ _ h hP hD hS (lv_sub hl [0, 1, 2, 3, 4, 5] rfl)
        · replace h := (br h).1 c9
          refine lv_aload_n hx hb dX12_sits_130 rfl (lv_at hl 0 rfl) ?_
          refine gf_X12_50 (x := v.1 50) hx hb hts hown hK hP rfl dX12_sits_131 ?_
          refine lv_iconst (v := 2) hx hb dX12_sits_134 (by decide) ?_
          refine lv_icmp_ne (tgt := 150) hx hb dX12_sits_135 (by decide) (fun c9 => ?_) (fun c9 => ?_)
          · replace h := (br h).2 c9
            exact B150 x7 v _ _ _ h hP hD hS (lv_sub hl [0, 1, 2, 3, 4, 5] rfl)
          · replace h := (br h).1 c9
            refine lv_iload hx hb dX12_sits_138 (lv_at hl 5 rfl) ?_
            refine lv_aload_n hx hb dX12_sits_140 rfl (lv_at hl 0 rfl) ?_
            refine gf_X12_51 (x := v.1 51) hx hb hts hown hK hP rfl dX12_sits_141 ?_
            refine lv_icmp_ne (tgt := 150) hx hb dX12_sits_144 (by decide) (fun c9 => ?_) (fun c9 => ?_)
            · replace h := (br h).2 c9
              exact B150 x7 v _ _ _ h hP hD hS (lv_sub hl [0, 1, 2, 3, 4, 5] rfl)
            · replace h := (br h).1 c9
              refine lv_goto (tgt := 198) hx hb dX12_sits_147 (by decide) ?_
              exact B198 x7 v _ _ _ h hP hD hS (lv_sub hl [0, 1, 2, 3, 4, 5] rfl)
  have L62 : ∀ (x1 : Int32) (x2 : Int32) (x3 : Int32) (x4 : Int32) (x6 : Int32) (n : Nat) (x7 : Int32) (v : VV) (H : Heap) (locs : List Loc) (ls : Array Slot), itr (fun q : Int32 × VV => f_X12_sits_s62 N q.2 x1 x2 x3 x4 x6 q.1) n (x7, v) = some res → va_P G vwCl (cX12 cy ad v) H → va_D A (cX12 cy ad v) → va_S A s.heap H locs → lv_has ls 8 [(0, .ref (ad 0)), (1, .int x1), (2, .int x2), (3, .int x3), (4, .int x4), (6, .int x6), (7, .int x7)] → W p l e (rmX 6 149) s m args below meth c H locs 0 0 (MQ below (mQv G cy A (cX12 cy ad res)) args s 0 0 A) (F0 m 62 ls []) := by
    intro x1 x2 x3 x4 x6 n
    induction n with
    | zero => intro x7 v H locs ls h; exact (itr_zero h).elim
    | succ n ih1 =>
      intro x7 v H locs ls h hP hD hS hl
      obtain ⟨y1, h, hy1⟩ := itr_inv h
      have h : f_X12_sits_s62 N v x1 x2 x3 x4 x6 x7 = some y1 := h
      have B94 : ∀ (x7 : Int32) (v : VV) (H : Heap) (locs : List Loc) (ls : Array Slot), f_X12_sits_b94 N v x1 x2 x3 x4 x6 x7 = some y1 → va_P G vwCl (cX12 cy ad v) H → va_D A (cX12 cy ad v) → va_S A s.heap H locs → lv_has ls 8 [(0, .ref (ad 0)), (1, .int x1), (2, .int x2), (3, .int x3), (4, .int x4), (6, .int x6), (7, .int x7)] → W p l e (rmX 6 149) s m args below meth c H locs 0 0 (MQ below (mQv G cy A (cX12 cy ad res)) args s 0 0 A) (F0 m 94 ls []) := by
        intro x7 v H locs ls h hP hD hS hl
        delta f_X12_sits_b94 at h
        refine lv_iinc (v := x7 + 1) (lv' := [(7, .int (x7 + 1)), (0, .ref (ad 0)), (1, .int x1), (2, .int x2), (3, .int x3), (4, .int x4), (6, .int x6)]) hx hb dX12_sits_94 hl (k := 6) rfl rfl (by decide) rfl (fun ls hl => ?_)
        refine lv_goto (tgt := 62) hx hb dX12_sits_97 (by decide) ?_
        replace h := itr_back h hy1
        exact ih1 (x7 + 1) v _ _ _ h hP hD hS (lv_sub hl [1, 2, 3, 4, 5, 6, 0] rfl)
      delta f_X12_sits_s62 at h
      refine lv_iload hx hb dX12_sits_62 (lv_at hl 6 rfl) ?_
      refine lv_aload_n hx hb dX12_sits_64 rfl (lv_at hl 0 rfl) ?_
      refine gf_X12_3 hx hb hts hown hK hP dX12_sits_65 ?_
      refine lv_iconst (v := 0) hx hb dX12_sits_68 (by decide) ?_
      refine ld_X12_3 (f := v.2.1 3) (j := 0) hx hb hK hP rfl (vin_dec (by decide)) (by decide) dX12_sits_69 ?_
      refine lv_icmp_ge (tgt := 100) hx hb dX12_sits_70 (by decide) (fun c9 => ?_) (fun c9 => ?_)
      · replace h := (br h).1 c9
        replace h := itr_exit h hy1
        refine lv_iconst (v := 0) hx hb dX12_sits_100 (by decide) ?_
        refine lv_istore (lv' := [(7, .int 0), (0, .ref (ad 0)), (1, .int x1), (2, .int x2), (3, .int x3), (4, .int x4), (6, .int x6)]) hx hb dX12_sits_101 hl (by decide) rfl (fun ls hl => ?_)
        exact L103 x1 x2 x3 x6 N 0 v _ _ _ h hP hD hS (lv_sub hl [1, 2, 3, 4, 6, 0] rfl)
      · replace h := (br h).2 c9
        refine lv_iload hx hb dX12_sits_73 (lv_at hl 4 rfl) ?_
        refine lv_iload hx hb dX12_sits_75 (lv_at hl 6 rfl) ?_
        refine lv_ishr hx hb dX12_sits_77 ?_
        refine lv_iconst (v := 1) hx hb dX12_sits_78 (by decide) ?_
        refine lv_iand hx hb dX12_sits_79 ?_
        refine lv_iconst (v := 1) hx hb dX12_sits_80 (by decide) ?_
        refine lv_icmp_ne (tgt := 94) hx hb dX12_sits_81 (by decide) (fun c9 => ?_) (fun c9 => ?_)
        · replace h := (br h).2 c9
          exact B94 x7 v _ _ _ h hP hD hS (lv_sub hl [0, 1, 2, 3, 4, 5, 6] rfl)
        · replace h := (br h).1 c9
          refine lv_aload_n hx hb dX12_sits_84 rfl (lv_at hl 0 rfl) ?_
          refine lv_iload_n hx hb dX12_sits_85 rfl (lv_at hl 1 rfl) ?_
          refine lv_iload hx hb dX12_sits_86 (lv_at hl 6 rfl) ?_
          refine lv_iload_n hx hb dX12_sits_88 rfl (lv_at hl 2 rfl) ?_
          refine lv_iload hx hb dX12_sits_89 (lv_at hl 5 rfl) ?_
          replace h := bd h
          obtain ⟨q6201, h6202, h⟩ := h
          refine callVv0 (As := [.int x1, .int x7, .int x2, .int x6]) (rest := []) hx hb hml hown hts (k_X12_takesSeat l G cy ev N ad v x1 x7 x2 x6 q6201 h6202) wm_36_5 wm_36_6 wm_36_7 wm_1_5 wm_36_8 hd_X12_takesSeat ⟨by decide, by decide⟩ hK hP hD hS hA hE (va_recv hK hP (ci := 12) (q0 := 0) rfl rfl) rfl rfl hl.1 (Nat.le_of_ble_eq_true rfl) dX12_sits_91 (fun H locs hP hD hS => ?_)
          exact B94 x7 q6201 _ _ _ h hP hD hS (lv_sub hl [0, 1, 2, 3, 4, 5, 6] rfl)
  delta f_X12_sits at h
  refine lv_iconst (v := 3) hx hb dX12_sits_0 (by decide) ?_
  refine lv_iload_n hx hb dX12_sits_1 rfl (lv_at hl 1 rfl) ?_
  refine lv_imul hx hb dX12_sits_2 ?_
  refine lv_iload_n hx hb dX12_sits_3 rfl (lv_at hl 2 rfl) ?_
  refine lv_iadd hx hb dX12_sits_4 ?_
  refine lv_istore (lv' := [(5, .int ((3 * a1) + a2)), (0, .ref (ad 0)), (1, .int a1), (2, .int a2), (3, .int a3), (4, .int a4)]) hx hb dX12_sits_5 hl (by decide) rfl (fun ls hl => ?_)
  refine lv_aload_n hx hb dX12_sits_7 rfl (lv_at hl 1 rfl) ?_
  refine gf_X12_44 hx hb hts hown hK hP dX12_sits_8 ?_
  refine lv_iload hx hb dX12_sits_11 (lv_at hl 0 rfl) ?_
  replace h := gin_inv h
  obtain ⟨h9, h⟩ := h
  refine ld_X12_44 (f := v.2.1 44) (j := ((3 * a1) + a2).toNatClampNeg) hx hb hK hP rfl h9 rfl dX12_sits_13 ?_
  refine lv_aload_n hx hb dX12_sits_14 rfl (lv_at hl 1 rfl) ?_
  refine gf_X12_10 hx hb hts hown hK hP dX12_sits_15 ?_
  refine lv_iload_n hx hb dX12_sits_18 rfl (lv_at hl 3 rfl) ?_
  replace h := gin_inv h
  obtain ⟨h9, h⟩ := h
  refine ld_X12_10 (f := v.2.1 10) (j := a2.toNatClampNeg) hx hb hK hP rfl h9 rfl dX12_sits_19 ?_
  refine lv_isub hx hb dX12_sits_20 ?_
  refine lv_aload_n hx hb dX12_sits_21 rfl (lv_at hl 1 rfl) ?_
  refine gf_X12_54 hx hb hts hown hK hP dX12_sits_22 ?_
  refine lv_iload_n hx hb dX12_sits_25 rfl (lv_at hl 3 rfl) ?_
  replace h := gin_inv h
  obtain ⟨h9, h⟩ := h
  refine ld_X12_54 (f := v.2.1 54) (j := a2.toNatClampNeg) hx hb hK hP rfl h9 rfl dX12_sits_26 ?_
  refine lv_isub hx hb dX12_sits_27 ?_
  refine lv_istore (lv' := [(6, .int (((v.2.1 44 (((3 * a1) + a2).toNatClampNeg)) - (v.2.1 10 a2.toNatClampNeg)) - (v.2.1 54 a2.toNatClampNeg))), (5, .int ((3 * a1) + a2)), (0, .ref (ad 0)), (1, .int a1), (2, .int a2), (3, .int a3), (4, .int a4)]) hx hb dX12_sits_28 hl (by decide) rfl (fun ls hl => ?_)
  refine lv_aload_n hx hb dX12_sits_30 rfl (lv_at hl 2 rfl) ?_
  refine lv_aload_n hx hb dX12_sits_31 rfl (lv_at hl 2 rfl) ?_
  replace h := bd h
  obtain ⟨q1, h2, h⟩ := h
  refine callVi0 (As := []) (rest := [.ref (ad 0)]) hx hb hml hown hts (k_X12_seatsOf l G cy ev ad v q1 h2) wm_36_1 wm_36_2 wm_36_3 wm_1_5 wm_36_4 hd_X12_seatsOf ⟨by decide, by decide⟩ hK hP hD hS hA hE (va_recv hK hP (ci := 12) (q0 := 0) rfl rfl) rfl rfl hl.1 (Nat.le_of_ble_eq_true rfl) dX12_sits_32 (fun H locs hP hD hS => ?_)
  refine pf_X12_56 hx hb hts hown hK hP hD hS dX12_sits_35 (fun H locs hP hD hS => ?_)
  refine lv_aload_n hx hb dX12_sits_38 rfl (lv_at hl 2 rfl) ?_
  refine gf_X12_45 hx hb hts hown hK hP dX12_sits_39 ?_
  refine lv_iload hx hb dX12_sits_42 (lv_at hl 1 rfl) ?_
  refine lv_iconst (v := 0) hx hb dX12_sits_44 (by decide) ?_
  replace h := gin_inv h
  obtain ⟨h9, h⟩ := h
  refine st_X12_45 (j := ((3 * a1) + a2).toNatClampNeg) hx hb hK hP hD hS h9 rfl dX12_sits_45 (fun H locs hP hD hS => ?_)
  refine lv_aload_n hx hb dX12_sits_46 rfl (lv_at hl 2 rfl) ?_
  refine gf_X12_46 hx hb hts hown hK hP dX12_sits_47 ?_
  refine lv_iload hx hb dX12_sits_50 (lv_at hl 1 rfl) ?_
  refine lv_iconst (v := 0) hx hb dX12_sits_52 (by decide) ?_
  replace h := gin_inv h
  obtain ⟨h9, h⟩ := h
  refine st_X12_46 (j := ((3 * a1) + a2).toNatClampNeg) hx hb hK hP hD hS h9 rfl dX12_sits_53 (fun H locs hP hD hS => ?_)
  refine lv_aload_n hx hb dX12_sits_54 rfl (lv_at hl 2 rfl) ?_
  refine lv_iconst (v := 0) hx hb dX12_sits_55 (by decide) ?_
  refine pf_X12_55 hx hb hts hown hK hP hD hS dX12_sits_56 (fun H locs hP hD hS => ?_)
  refine lv_iconst (v := 0) hx hb dX12_sits_59 (by decide) ?_
  refine lv_istore (lv' := [(7, .int 0), (6, .int (((v.2.1 44 (((3 * a1) + a2).toNatClampNeg)) - (v.2.1 10 a2.toNatClampNeg)) - (v.2.1 54 a2.toNatClampNeg))), (5, .int ((3 * a1) + a2)), (0, .ref (ad 0)), (1, .int a1), (2, .int a2), (3, .int a3), (4, .int a4)]) hx hb dX12_sits_60 hl (by decide) rfl (fun ls hl => ?_)
  exact L62 a1 a2 a3 a4 (((v.2.1 44 (((3 * a1) + a2).toNatClampNeg)) - (v.2.1 10 a2.toNatClampNeg)) - (v.2.1 54 a2.toNatClampNeg)) N 0 (si (sr (sr (si v 56 q1) 45 (((3 * a1) + a2).toNatClampNeg) 0) 46 (((3 * a1) + a2).toNatClampNeg) 0) 55 0) _ _ _ h hP hD hS (lv_sub hl [3, 4, 5, 6, 7, 1, 0] rfl)
theorem hd_X12_passes : yX12_passes.cls = RX12 ∧ yX12_passes.cls ≠ "java/lang/invoke/MethodHandle" ∧ yX12_passes.cls ≠ "java/lang/invoke/VarHandle" ∧ (parseMethodDescriptor yX12_passes.desc).map (fun d => d.parameters.length) = some 2 := ⟨rfl, by decide +kernel, by decide +kernel, by decide +kernel⟩
def f_X12_passes_b194 (N : Nat) (v : VV) (x1 : Int32) (x4 : Int32) (x5 : Int32) : Option (((Int32 × VV) ⊕ (VV))) :=
  some (.inl (x5 + 1, v))
def f_X12_passes_s138 (N : Nat) (v : VV) (x1 : Int32) (x4 : Int32) (x5 : Int32) : Option (((Int32 × VV) ⊕ (VV))) :=
  if v.2.1 3 0 ≤ x5 then inrO (gin x1 23 (gin x1 23 (some (sr v 32 x1.toNatClampNeg ((v.2.1 32 x1.toNatClampNeg) + 1))))) else if (x4 >>> (x5 &&& 31)) &&& 1 = 0 then f_X12_passes_b194 N v x1 x4 x5 else gin x1 23 (gin x5 16 (gin x1 23 (gin ((8 * x1) + x5) 184 (gin ((8 * x1) + x5) 184 (f_X12_passes_b194 N (sr (sr v 34 x1.toNatClampNeg ((v.2.1 34 x1.toNatClampNeg) + (v.2.1 5 x5.toNatClampNeg))) 41 (((8 * x1) + x5).toNatClampNeg) ((v.2.1 41 (((8 * x1) + x5).toNatClampNeg)) + 1)) x1 x4 x5)))))
def f_X12_passes_b127 (N : Nat) (v : VV) (x1 : Int32) (x2 : Int32) (x4 : Int32) (x5 : Int32) (z0 : Int32) (z1 : Int32) : Option (((Int32 × Int32 × Int32 × VV) ⊕ (VV))) :=
  some (.inl (z1 + z0, x4, x5 + 1, v))
def f_X12_passes_s8 (N : Nat) (v : VV) (x1 : Int32) (x2 : Int32) (x3 : Int32) (x4 : Int32) (x5 : Int32) : Option (((Int32 × Int32 × Int32 × VV) ⊕ (VV))) :=
  if v.2.1 3 2 ≤ x5 then inrO (itr (fun q : Int32 × VV => f_X12_passes_s138 N q.2 x1 x4 q.1) N (0, v)) else gin x5 6 (gin x5 3 (gin ((3 * x1) + x5) 69 (gin ((3 * x1) + x5) 69 (bnd (f_X12_sits N (si (sr v 44 (((3 * x1) + x5).toNatClampNeg) (jmax x3 ((v.2.1 10 x5.toNatClampNeg) + (v.2.1 54 x5.toNatClampNeg)))) 57 ((upd (v.2.1 44) (((3 * x1) + x5).toNatClampNeg) (jmax x3 ((v.2.1 10 x5.toNatClampNeg) + (v.2.1 54 x5.toNatClampNeg)))) (((3 * x1) + x5).toNatClampNeg))) x1 x5 x2 x4) (fun q801 => gin ((3 * x1) + x5) 69 (gin ((3 * x1) + x5) 69 (if q801.2.1 45 (((3 * x1) + x5).toNatClampNeg) ≤ 0 then f_X12_passes_b127 N (sr q801 47 (((3 * x1) + x5).toNatClampNeg) (q801.1 57)) x1 x2 (q801.1 55) x5 0 (q801.1 57) else bnd (f_X12_handsOf (sr q801 47 (((3 * x1) + x5).toNatClampNeg) (q801.1 57))) (fun q803 => bnd (f_X12_handsOf (sr q801 47 (((3 * x1) + x5).toNatClampNeg) (q801.1 57))) (fun q805 => gnz q805 (f_X12_passes_b127 N (sr q801 47 (((3 * x1) + x5).toNatClampNeg) (q801.1 57)) x1 x2 (q801.1 55) x5 ((((q801.2.1 3 4) + q803) - 1) / q805) (q801.1 57)))))))))))
def f_X12_passes (N : Nat) (v : VV) (a1 : Int32) (a2 : Int32) : Option (VV) :=
  itr (fun q : Int32 × Int32 × Int32 × VV => f_X12_passes_s8 N q.2.2.2 a1 a2 q.1 q.2.1 q.2.2.1) N (0, 0, 0, v)
set_option maxHeartbeats 4000000 in
set_option maxRecDepth 100000 in
theorem k_X12_passes (l : Launch) (G : va_G) (cy : Nat → ClassId) (ev : Nat → Nat) (N : Nat) (ad : Nat → Nat) (v : VV) (a1 : Int32) (a2 : Int32) (res : VV) (h : f_X12_passes N v a1 a2 = some res) : MetV l yX12_passes cX12_passes 7 none 7 176 G cy ev [.ref (ad 0), .int a1, .int a2] (cX12 cy ad v) (cX12 cy ad res) := by
  refine MetQ.start (by decide +kernel) (Nat.le_of_ble_eq_true rfl) (fun p e s m args below meth c A ls hx hb hr hml hown hts hlocks hK hP hD hA hl hE => ?_)
  have hS : va_S A s.heap s.heap [] := va_S.rf
  have hown : s.vm.findClass RX12 = some m.cls := hown
  have hl : lv_has ls 7 [(0, .ref (ad 0)), (1, .int a1), (2, .int a2)] := hl
  have L138 : ∀ (x1 : Int32) (x4 : Int32) (n : Nat) (x5 : Int32) (v : VV) (H : Heap) (locs : List Loc) (ls : Array Slot), itr (fun q : Int32 × VV => f_X12_passes_s138 N q.2 x1 x4 q.1) n (x5, v) = some res → va_P G vwCl (cX12 cy ad v) H → va_D A (cX12 cy ad v) → va_S A s.heap H locs → lv_has ls 7 [(0, .ref (ad 0)), (1, .int x1), (4, .int x4), (5, .int x5)] → W p l e (rmX 7 176) s m args below meth c H locs 0 0 (MQ below (mQv G cy A (cX12 cy ad res)) args s 0 0 A) (F0 m 138 ls []) := by
    intro x1 x4 n
    induction n with
    | zero => intro x5 v H locs ls h; exact (itr_zero h).elim
    | succ n ih1 =>
      intro x5 v H locs ls h hP hD hS hl
      obtain ⟨y1, h, hy1⟩ := itr_inv h
      have h : f_X12_passes_s138 N v x1 x4 x5 = some y1 := h
      have B194 : ∀ (x5 : Int32) (v : VV) (H : Heap) (locs : List Loc) (ls : Array Slot), f_X12_passes_b194 N v x1 x4 x5 = some y1 → va_P G vwCl (cX12 cy ad v) H → va_D A (cX12 cy ad v) → va_S A s.heap H locs → lv_has ls 7 [(0, .ref (ad 0)), (1, .int x1), (4, .int x4), (5, .int x5)] → W p l e (rmX 7 176) s m args below meth c H locs 0 0 (MQ below (mQv G cy A (cX12 cy ad res)) args s 0 0 A) (F0 m 194 ls []) := by
        intro x5 v H locs ls h hP hD hS hl
        delta f_X12_passes_b194 at h
        refine lv_iinc (v := x5 + 1) (lv' := [(5, .int (x5 + 1)), (0, .ref (ad 0)), (1, .int x1), (4, .int x4)]) hx hb dX12_passes_194 hl (k := 3) rfl rfl (by decide) rfl (fun ls hl => ?_)
        refine lv_goto (tgt := 138) hx hb dX12_passes_197 (by decide) ?_
        replace h := itr_back h hy1
        exact ih1 (x5 + 1) v _ _ _ h hP hD hS (lv_sub hl [1, 2, 3, 0] rfl)
      delta f_X12_passes_s138 at h
      refine lv_iload hx hb dX12_passes_138 (lv_at hl 3 rfl) ?_
      refine lv_aload_n hx hb dX12_passes_140 rfl (lv_at hl 0 rfl) ?_
      refine gf_X12_3 hx hb hts hown hK hP dX12_passes_141 ?_
      refine lv_iconst (v := 0) hx hb dX12_passes_144 (by decide) ?_
      refine ld_X12_3 (f := v.2.1 3) (j := 0) hx hb hK hP rfl (vin_dec (by decide)) (by decide) dX12_passes_145 ?_
      refine lv_icmp_ge (tgt := 200) hx hb dX12_passes_146 (by decide) (fun c9 => ?_) (fun c9 => ?_)
      · replace h := (br h).1 c9
        replace h := itr_exit h hy1
        refine lv_aload_n hx hb dX12_passes_200 rfl (lv_at hl 0 rfl) ?_
        refine gf_X12_32 hx hb hts hown hK hP dX12_passes_201 ?_
        refine lv_iload_n hx hb dX12_passes_204 rfl (lv_at hl 1 rfl) ?_
        refine lv_dup2_11 hx hb dX12_passes_205 rfl rfl ?_
        replace h := gin_inv h
        obtain ⟨h9, h⟩ := h
        refine ld_X12_32 (f := v.2.1 32) (j := x1.toNatClampNeg) hx hb hK hP rfl h9 rfl dX12_passes_206 ?_
        refine lv_iconst (v := 1) hx hb dX12_passes_207 (by decide) ?_
        refine lv_iadd hx hb dX12_passes_208 ?_
        replace h := gin_inv h
        obtain ⟨h9, h⟩ := h
        refine st_X12_32 (j := x1.toNatClampNeg) hx hb hK hP hD hS h9 rfl dX12_passes_209 (fun H locs hP hD hS => ?_)
        exact retV (fw := fun q => cX12 cy ad q) h hx hb hr hlocks hK hP hD hS dX12_passes_210
      · replace h := (br h).2 c9
        refine lv_iload hx hb dX12_passes_149 (lv_at hl 2 rfl) ?_
        refine lv_iload hx hb dX12_passes_151 (lv_at hl 3 rfl) ?_
        refine lv_ishr hx hb dX12_passes_153 ?_
        refine lv_iconst (v := 1) hx hb dX12_passes_154 (by decide) ?_
        refine lv_iand hx hb dX12_passes_155 ?_
        refine lv_if_ne (tgt := 162) hx hb dX12_passes_156 (by decide) (fun c9 => ?_) (fun c9 => ?_)
        · replace h := (br h).2 c9
          refine lv_aload_n hx hb dX12_passes_162 rfl (lv_at hl 0 rfl) ?_
          refine gf_X12_34 hx hb hts hown hK hP dX12_passes_163 ?_
          refine lv_iload_n hx hb dX12_passes_166 rfl (lv_at hl 1 rfl) ?_
          refine lv_dup2_11 hx hb dX12_passes_167 rfl rfl ?_
          replace h := gin_inv h
          obtain ⟨h9, h⟩ := h
          refine ld_X12_34 (f := v.2.1 34) (j := x1.toNatClampNeg) hx hb hK hP rfl h9 rfl dX12_passes_168 ?_
          refine lv_aload_n hx hb dX12_passes_169 rfl (lv_at hl 0 rfl) ?_
          refine gf_X12_5 hx hb hts hown hK hP dX12_passes_170 ?_
          refine lv_iload hx hb dX12_passes_173 (lv_at hl 3 rfl) ?_
          replace h := gin_inv h
          obtain ⟨h9, h⟩ := h
          refine ld_X12_5 (f := v.2.1 5) (j := x5.toNatClampNeg) hx hb hK hP rfl h9 rfl dX12_passes_175 ?_
          refine lv_iadd hx hb dX12_passes_176 ?_
          replace h := gin_inv h
          obtain ⟨h9, h⟩ := h
          refine st_X12_34 (j := x1.toNatClampNeg) hx hb hK hP hD hS h9 rfl dX12_passes_177 (fun H locs hP hD hS => ?_)
          refine lv_aload_n hx hb dX12_passes_178 rfl (lv_at hl 0 rfl) ?_
          refine gf_X12_41 hx hb hts hown hK hP dX12_passes_179 ?_
          refine lv_bipush (v := 8) hx hb dX12_passes_182 (by decide) ?_
          refine lv_iload_n hx hb dX12_passes_184 rfl (lv_at hl 1 rfl) ?_
          refine lv_imul hx hb dX12_passes_185 ?_
          refine lv_iload hx hb dX12_passes_186 (lv_at hl 3 rfl) ?_
          refine lv_iadd hx hb dX12_passes_188 ?_
          refine lv_dup2_11 hx hb dX12_passes_189 rfl rfl ?_
          replace h := gin_inv h
          obtain ⟨h9, h⟩ := h
          refine ld_X12_41 (f := v.2.1 41) (j := ((8 * x1) + x5).toNatClampNeg) hx hb hK hP rfl h9 rfl dX12_passes_190 ?_
          refine lv_iconst (v := 1) hx hb dX12_passes_191 (by decide) ?_
          refine lv_iadd hx hb dX12_passes_192 ?_
          replace h := gin_inv h
          obtain ⟨h9, h⟩ := h
          refine st_X12_41 (j := ((8 * x1) + x5).toNatClampNeg) hx hb hK hP hD hS h9 rfl dX12_passes_193 (fun H locs hP hD hS => ?_)
          exact B194 x5 (sr (sr v 34 x1.toNatClampNeg ((v.2.1 34 x1.toNatClampNeg) + (v.2.1 5 x5.toNatClampNeg))) 41 (((8 * x1) + x5).toNatClampNeg) ((v.2.1 41 (((8 * x1) + x5).toNatClampNeg)) + 1)) _ _ _ h hP hD hS (lv_sub hl [0, 1, 2, 3] rfl)
        · replace h := (br h).1 c9
          refine lv_goto (tgt := 194) hx hb dX12_passes_159 (by decide) ?_
          exact B194 x5 v _ _ _ h hP hD hS (lv_sub hl [0, 1, 2, 3] rfl)
  have L8 : ∀ (x1 : Int32) (x2 : Int32) (n : Nat) (x3 : Int32) (x4 : Int32) (x5 : Int32) (v : VV) (H : Heap) (locs : List Loc) (ls : Array Slot), itr (fun q : Int32 × Int32 × Int32 × VV => f_X12_passes_s8 N q.2.2.2 x1 x2 q.1 q.2.1 q.2.2.1) n (x3, x4, x5, v) = some res → va_P G vwCl (cX12 cy ad v) H → va_D A (cX12 cy ad v) → va_S A s.heap H locs → lv_has ls 7 [(0, .ref (ad 0)), (1, .int x1), (2, .int x2), (3, .int x3), (4, .int x4), (5, .int x5)] → W p l e (rmX 7 176) s m args below meth c H locs 0 0 (MQ below (mQv G cy A (cX12 cy ad res)) args s 0 0 A) (F0 m 8 ls []) := by
    intro x1 x2 n
    induction n with
    | zero => intro x3 x4 x5 v H locs ls h; exact (itr_zero h).elim
    | succ n ih1 =>
      intro x3 x4 x5 v H locs ls h hP hD hS hl
      obtain ⟨y1, h, hy1⟩ := itr_inv h
      have h : f_X12_passes_s8 N v x1 x2 x3 x4 x5 = some y1 := h
      have B127 : ∀ (x4 : Int32) (x5 : Int32) (z0 : Int32) (z1 : Int32) (v : VV) (H : Heap) (locs : List Loc) (ls : Array Slot), f_X12_passes_b127 N v x1 x2 x4 x5 z0 z1 = some y1 → va_P G vwCl (cX12 cy ad v) H → va_D A (cX12 cy ad v) → va_S A s.heap H locs → lv_has ls 7 [(0, .ref (ad 0)), (1, .int x1), (2, .int x2), (4, .int x4), (5, .int x5)] → W p l e (rmX 7 176) s m args below meth c H locs 0 0 (MQ below (mQv G cy A (cX12 cy ad res)) args s 0 0 A) (F0 m 127 ls [.int z0, .int z1]) := by
        intro x4 x5 z0 z1 v H locs ls h hP hD hS hl
        delta f_X12_passes_b127 at h
        refine lv_iadd hx hb dX12_passes_127 ?_
        refine lv_istore_n (lv' := [(3, .int (z1 + z0)), (0, .ref (ad 0)), (1, .int x1), (2, .int x2), (4, .int x4), (5, .int x5)]) hx hb dX12_passes_128 rfl hl (by decide) rfl (fun ls hl => ?_)
        refine lv_iinc (v := x5 + 1) (lv' := [(5, .int (x5 + 1)), (3, .int (z1 + z0)), (0, .ref (ad 0)), (1, .int x1), (2, .int x2), (4, .int x4)]) hx hb dX12_passes_129 hl (k := 5) rfl rfl (by decide) rfl (fun ls hl => ?_)
        refine lv_goto (tgt := 8) hx hb dX12_passes_132 (by decide) ?_
        replace h := itr_back h hy1
        exact ih1 (z1 + z0) x4 (x5 + 1) v _ _ _ h hP hD hS (lv_sub hl [2, 3, 4, 1, 5, 0] rfl)
      delta f_X12_passes_s8 at h
      refine lv_iload hx hb dX12_passes_8 (lv_at hl 5 rfl) ?_
      refine lv_aload_n hx hb dX12_passes_10 rfl (lv_at hl 0 rfl) ?_
      refine gf_X12_3 hx hb hts hown hK hP dX12_passes_11 ?_
      refine lv_iconst (v := 2) hx hb dX12_passes_14 (by decide) ?_
      refine ld_X12_3 (f := v.2.1 3) (j := 2) hx hb hK hP rfl (vin_dec (by decide)) (by decide) dX12_passes_15 ?_
      refine lv_icmp_ge (tgt := 135) hx hb dX12_passes_16 (by decide) (fun c9 => ?_) (fun c9 => ?_)
      · replace h := (br h).1 c9
        replace h := itr_exit h hy1
        refine lv_iconst (v := 0) hx hb dX12_passes_135 (by decide) ?_
        refine lv_istore (lv' := [(5, .int 0), (0, .ref (ad 0)), (1, .int x1), (2, .int x2), (3, .int x3), (4, .int x4)]) hx hb dX12_passes_136 hl (by decide) rfl (fun ls hl => ?_)
        exact L138 x1 x4 N 0 v _ _ _ h hP hD hS (lv_sub hl [1, 2, 5, 0] rfl)
      · replace h := (br h).2 c9
        refine lv_iconst (v := 3) hx hb dX12_passes_19 (by decide) ?_
        refine lv_iload_n hx hb dX12_passes_20 rfl (lv_at hl 1 rfl) ?_
        refine lv_imul hx hb dX12_passes_21 ?_
        refine lv_iload hx hb dX12_passes_22 (lv_at hl 5 rfl) ?_
        refine lv_iadd hx hb dX12_passes_24 ?_
        refine lv_istore (lv' := [(6, .int ((3 * x1) + x5)), (0, .ref (ad 0)), (1, .int x1), (2, .int x2), (3, .int x3), (4, .int x4), (5, .int x5)]) hx hb dX12_passes_25 hl (by decide) rfl (fun ls hl => ?_)
        refine lv_aload_n hx hb dX12_passes_27 rfl (lv_at hl 1 rfl) ?_
        refine gf_X12_44 hx hb hts hown hK hP dX12_passes_28 ?_
        refine lv_iload hx hb dX12_passes_31 (lv_at hl 0 rfl) ?_
        refine lv_iload_n hx hb dX12_passes_33 rfl (lv_at hl 4 rfl) ?_
        refine lv_aload_n hx hb dX12_passes_34 rfl (lv_at hl 1 rfl) ?_
        refine gf_X12_10 hx hb hts hown hK hP dX12_passes_35 ?_
        refine lv_iload hx hb dX12_passes_38 (lv_at hl 6 rfl) ?_
        replace h := gin_inv h
        obtain ⟨h9, h⟩ := h
        refine ld_X12_10 (f := v.2.1 10) (j := x5.toNatClampNeg) hx hb hK hP rfl h9 rfl dX12_passes_40 ?_
        refine lv_aload_n hx hb dX12_passes_41 rfl (lv_at hl 1 rfl) ?_
        refine gf_X12_54 hx hb hts hown hK hP dX12_passes_42 ?_
        refine lv_iload hx hb dX12_passes_45 (lv_at hl 6 rfl) ?_
        replace h := gin_inv h
        obtain ⟨h9, h⟩ := h
        refine ld_X12_54 (f := v.2.1 54) (j := x5.toNatClampNeg) hx hb hK hP rfl h9 rfl dX12_passes_47 ?_
        refine lv_iadd hx hb dX12_passes_48 ?_
        refine mmax hx hb (by rw [hml]; exact hl.1.symm) hown (hts _ wm_35_16) hts (by decide) (Nat.le_of_ble_eq_true rfl) dX12_passes_49 ?_
        replace h := gin_inv h
        obtain ⟨h9, h⟩ := h
        refine st_X12_44 (j := ((3 * x1) + x5).toNatClampNeg) hx hb hK hP hD hS h9 rfl dX12_passes_52 (fun H locs hP hD hS => ?_)
        refine lv_aload_n hx hb dX12_passes_53 rfl (lv_at hl 1 rfl) ?_
        refine lv_aload_n hx hb dX12_passes_54 rfl (lv_at hl 1 rfl) ?_
        refine gf_X12_44 hx hb hts hown hK hP dX12_passes_55 ?_
        refine lv_iload hx hb dX12_passes_58 (lv_at hl 0 rfl) ?_
        replace h := gin_inv h
        obtain ⟨h9, h⟩ := h
        refine ld_X12_44 (f := upd (v.2.1 44) (((3 * x1) + x5).toNatClampNeg) (jmax x3 ((v.2.1 10 x5.toNatClampNeg) + (v.2.1 54 x5.toNatClampNeg)))) (j := ((3 * x1) + x5).toNatClampNeg) hx hb hK hP rfl h9 rfl dX12_passes_60 ?_
        refine pf_X12_57 hx hb hts hown hK hP hD hS dX12_passes_61 (fun H locs hP hD hS => ?_)
        refine lv_aload_n hx hb dX12_passes_64 rfl (lv_at hl 1 rfl) ?_
        refine lv_iload_n hx hb dX12_passes_65 rfl (lv_at hl 2 rfl) ?_
        refine lv_iload hx hb dX12_passes_66 (lv_at hl 6 rfl) ?_
        refine lv_iload_n hx hb dX12_passes_68 rfl (lv_at hl 3 rfl) ?_
        refine lv_iload hx hb dX12_passes_69 (lv_at hl 5 rfl) ?_
        replace h := bd h
        obtain ⟨q801, h802, h⟩ := h
        refine callVv0 (As := [.int x1, .int x5, .int x2, .int x4]) (rest := []) hx hb hml hown hts (k_X12_sits l G cy ev N ad (si (sr v 44 (((3 * x1) + x5).toNatClampNeg) (jmax x3 ((v.2.1 10 x5.toNatClampNeg) + (v.2.1 54 x5.toNatClampNeg)))) 57 ((upd (v.2.1 44) (((3 * x1) + x5).toNatClampNeg) (jmax x3 ((v.2.1 10 x5.toNatClampNeg) + (v.2.1 54 x5.toNatClampNeg)))) (((3 * x1) + x5).toNatClampNeg))) x1 x5 x2 x4 q801 h802) wm_35_19 wm_35_20 wm_35_21 wm_1_5 wm_35_22 hd_X12_sits ⟨by decide, by decide⟩ hK hP hD hS hA hE (va_recv hK hP (ci := 12) (q0 := 0) rfl rfl) rfl rfl hl.1 (Nat.le_of_ble_eq_true rfl) dX12_passes_71 (fun H locs hP hD hS => ?_)
        refine lv_aload_n hx hb dX12_passes_74 rfl (lv_at hl 1 rfl) ?_
        refine gf_X12_55 (x := q801.1 55) hx hb hts hown hK hP rfl dX12_passes_75 ?_
        refine lv_istore (lv' := [(4, .int (q801.1 55)), (6, .int ((3 * x1) + x5)), (0, .ref (ad 0)), (1, .int x1), (2, .int x2), (3, .int x3), (5, .int x5)]) hx hb dX12_passes_78 hl (by decide) rfl (fun ls hl => ?_)
        refine lv_aload_n hx hb dX12_passes_80 rfl (lv_at hl 2 rfl) ?_
        refine gf_X12_47 hx hb hts hown hK hP dX12_passes_81 ?_
        refine lv_iload hx hb dX12_passes_84 (lv_at hl 1 rfl) ?_
        refine lv_aload_n hx hb dX12_passes_86 rfl (lv_at hl 2 rfl) ?_
        refine gf_X12_57 (x := q801.1 57) hx hb hts hown hK hP rfl dX12_passes_87 ?_
        replace h := gin_inv h
        obtain ⟨h9, h⟩ := h
        refine st_X12_47 (j := ((3 * x1) + x5).toNatClampNeg) hx hb hK hP hD hS h9 rfl dX12_passes_90 (fun H locs hP hD hS => ?_)
        refine lv_aload_n hx hb dX12_passes_91 rfl (lv_at hl 2 rfl) ?_
        refine gf_X12_57 (x := q801.1 57) hx hb hts hown hK hP rfl dX12_passes_92 ?_
        refine lv_aload_n hx hb dX12_passes_95 rfl (lv_at hl 2 rfl) ?_
        refine gf_X12_45 hx hb hts hown hK hP dX12_passes_96 ?_
        refine lv_iload hx hb dX12_passes_99 (lv_at hl 1 rfl) ?_
        replace h := gin_inv h
        obtain ⟨h9, h⟩ := h
        refine ld_X12_45 (f := q801.2.1 45) (j := ((3 * x1) + x5).toNatClampNeg) hx hb hK hP rfl h9 rfl dX12_passes_101 ?_
        refine lv_if_le (tgt := 126) hx hb dX12_passes_102 (by decide) (fun c9 => ?_) (fun c9 => ?_)
        · replace h := (br h).1 c9
          refine lv_iconst (v := 0) hx hb dX12_passes_126 (by decide) ?_
          exact B127 (q801.1 55) x5 0 (q801.1 57) (sr q801 47 (((3 * x1) + x5).toNatClampNeg) (q801.1 57)) _ _ _ h hP hD hS (lv_sub hl [2, 3, 4, 0, 6] rfl)
        · replace h := (br h).2 c9
          refine lv_aload_n hx hb dX12_passes_105 rfl (lv_at hl 2 rfl) ?_
          refine gf_X12_3 hx hb hts hown hK hP dX12_passes_106 ?_
          refine lv_iconst (v := 4) hx hb dX12_passes_109 (by decide) ?_
          refine ld_X12_3 (f := q801.2.1 3) (j := 4) hx hb hK hP rfl (vin_dec (by decide)) (by decide) dX12_passes_110 ?_
          refine lv_aload_n hx hb dX12_passes_111 rfl (lv_at hl 2 rfl) ?_
          replace h := bd h
          obtain ⟨q803, h804, h⟩ := h
          refine callVi0 (As := []) (rest := [.int (q801.2.1 3 4), .int (q801.1 57)]) hx hb hml hown hts (k_X12_handsOf l G cy ev ad (sr q801 47 (((3 * x1) + x5).toNatClampNeg) (q801.1 57)) q803 h804) wm_37_9 wm_37_10 wm_37_11 wm_1_5 wm_37_12 hd_X12_handsOf ⟨by decide, by decide⟩ hK hP hD hS hA hE (va_recv hK hP (ci := 12) (q0 := 0) rfl rfl) rfl rfl hl.1 (Nat.le_of_ble_eq_true rfl) dX12_passes_112 (fun H locs hP hD hS => ?_)
          refine lv_iadd hx hb dX12_passes_115 ?_
          refine lv_iconst (v := 1) hx hb dX12_passes_116 (by decide) ?_
          refine lv_isub hx hb dX12_passes_117 ?_
          refine lv_aload_n hx hb dX12_passes_118 rfl (lv_at hl 2 rfl) ?_
          replace h := bd h
          obtain ⟨q805, h806, h⟩ := h
          refine callVi0 (As := []) (rest := [.int (((q801.2.1 3 4) + q803) - 1), .int (q801.1 57)]) hx hb hml hown hts (k_X12_handsOf l G cy ev ad (sr q801 47 (((3 * x1) + x5).toNatClampNeg) (q801.1 57)) q805 h806) wm_37_9 wm_37_10 wm_37_11 wm_1_5 wm_37_12 hd_X12_handsOf ⟨by decide, by decide⟩ hK hP hD hS hA hE (va_recv hK hP (ci := 12) (q0 := 0) rfl rfl) rfl rfl hl.1 (Nat.le_of_ble_eq_true rfl) dX12_passes_119 (fun H locs hP hD hS => ?_)
          replace h := gnz_inv h
          obtain ⟨h9, h⟩ := h
          refine lv_idiv hx hb dX12_passes_122 h9 ?_
          refine lv_goto (tgt := 127) hx hb dX12_passes_123 (by decide) ?_
          exact B127 (q801.1 55) x5 ((((q801.2.1 3 4) + q803) - 1) / q805) (q801.1 57) (sr q801 47 (((3 * x1) + x5).toNatClampNeg) (q801.1 57)) _ _ _ h hP hD hS (lv_sub hl [2, 3, 4, 0, 6] rfl)
  delta f_X12_passes at h
  refine lv_iconst (v := 0) hx hb dX12_passes_0 (by decide) ?_
  refine lv_istore_n (lv' := [(3, .int 0), (0, .ref (ad 0)), (1, .int a1), (2, .int a2)]) hx hb dX12_passes_1 rfl hl (by decide) rfl (fun ls hl => ?_)
  refine lv_iconst (v := 0) hx hb dX12_passes_2 (by decide) ?_
  refine lv_istore (lv' := [(4, .int 0), (3, .int 0), (0, .ref (ad 0)), (1, .int a1), (2, .int a2)]) hx hb dX12_passes_3 hl (by decide) rfl (fun ls hl => ?_)
  refine lv_iconst (v := 0) hx hb dX12_passes_5 (by decide) ?_
  refine lv_istore (lv' := [(5, .int 0), (4, .int 0), (3, .int 0), (0, .ref (ad 0)), (1, .int a1), (2, .int a2)]) hx hb dX12_passes_6 hl (by decide) rfl (fun ls hl => ?_)
  exact L8 a1 a2 N 0 0 0 v _ _ _ h hP hD hS (lv_sub hl [3, 4, 5, 2, 1, 0] rfl)
theorem hd_X12_lateIn : yX12_lateIn.cls = RX12 ∧ yX12_lateIn.cls ≠ "java/lang/invoke/MethodHandle" ∧ yX12_lateIn.cls ≠ "java/lang/invoke/VarHandle" ∧ (parseMethodDescriptor yX12_lateIn.desc).map (fun d => d.parameters.length) = some 2 := ⟨rfl, by decide +kernel, by decide +kernel, by decide +kernel⟩
def f_X12_lateIn (v : VV) (a1 : Int32) (a2 : Int32) : Option (Int32) :=
  gin ((3 * a1) + a2) 69 (gin a2 6 (gin a2 3 (some (((v.2.1 44 (((3 * a1) + a2).toNatClampNeg)) - (v.2.1 10 a2.toNatClampNeg)) - (v.2.1 54 a2.toNatClampNeg)))))
set_option maxHeartbeats 4000000 in
set_option maxRecDepth 100000 in
theorem k_X12_lateIn (l : Launch) (G : va_G) (cy : Nat → ClassId) (ev : Nat → Nat) (ad : Nat → Nat) (v : VV) (a1 : Int32) (a2 : Int32) (res : Int32) (h : f_X12_lateIn v a1 a2 = some res) : MetI l yX12_lateIn cX12_lateIn 3 (some .int) 0 0 G cy ev [.ref (ad 0), .int a1, .int a2] (cX12 cy ad v) res (cX12 cy ad v) := by
  refine MetQ.start (by decide +kernel) (Nat.le_of_ble_eq_true rfl) (fun p e s m args below meth c A ls hx hb hr hml hown hts hlocks hK hP hD hA hl hE => ?_)
  have hS : va_S A s.heap s.heap [] := va_S.rf
  have hown : s.vm.findClass RX12 = some m.cls := hown
  have hl : lv_has ls 3 [(0, .ref (ad 0)), (1, .int a1), (2, .int a2)] := hl
  delta f_X12_lateIn at h
  refine lv_aload_n hx hb dX12_lateIn_0 rfl (lv_at hl 0 rfl) ?_
  refine gf_X12_44 hx hb hts hown hK hP dX12_lateIn_1 ?_
  refine lv_iconst (v := 3) hx hb dX12_lateIn_4 (by decide) ?_
  refine lv_iload_n hx hb dX12_lateIn_5 rfl (lv_at hl 1 rfl) ?_
  refine lv_imul hx hb dX12_lateIn_6 ?_
  refine lv_iload_n hx hb dX12_lateIn_7 rfl (lv_at hl 2 rfl) ?_
  refine lv_iadd hx hb dX12_lateIn_8 ?_
  replace h := gin_inv h
  obtain ⟨h9, h⟩ := h
  refine ld_X12_44 (f := v.2.1 44) (j := ((3 * a1) + a2).toNatClampNeg) hx hb hK hP rfl h9 rfl dX12_lateIn_9 ?_
  refine lv_aload_n hx hb dX12_lateIn_10 rfl (lv_at hl 0 rfl) ?_
  refine gf_X12_10 hx hb hts hown hK hP dX12_lateIn_11 ?_
  refine lv_iload_n hx hb dX12_lateIn_14 rfl (lv_at hl 2 rfl) ?_
  replace h := gin_inv h
  obtain ⟨h9, h⟩ := h
  refine ld_X12_10 (f := v.2.1 10) (j := a2.toNatClampNeg) hx hb hK hP rfl h9 rfl dX12_lateIn_15 ?_
  refine lv_isub hx hb dX12_lateIn_16 ?_
  refine lv_aload_n hx hb dX12_lateIn_17 rfl (lv_at hl 0 rfl) ?_
  refine gf_X12_54 hx hb hts hown hK hP dX12_lateIn_18 ?_
  refine lv_iload_n hx hb dX12_lateIn_21 rfl (lv_at hl 2 rfl) ?_
  replace h := gin_inv h
  obtain ⟨h9, h⟩ := h
  refine ld_X12_54 (f := v.2.1 54) (j := a2.toNatClampNeg) hx hb hK hP rfl h9 rfl dX12_lateIn_22 ?_
  refine lv_isub hx hb dX12_lateIn_23 ?_
  exact retI (fr := fun q => q) (fw := fun _ => cX12 cy ad v) h hx hb hr hlocks hK hP hD hS dX12_lateIn_24
theorem hd_X12_today : yX12_today.cls = RX12 ∧ yX12_today.cls ≠ "java/lang/invoke/MethodHandle" ∧ yX12_today.cls ≠ "java/lang/invoke/VarHandle" ∧ (parseMethodDescriptor yX12_today.desc).map (fun d => d.parameters.length) = some 0 := ⟨rfl, by decide +kernel, by decide +kernel, by decide +kernel⟩
def f_X12_today (N : Nat) (v : VV) : Option (VV) :=
  bnd (f_X12_copies N v 1 0) (fun q1 => bnd (f_X12_passes N q1 1 0) (fun q3 => some q3))
set_option maxHeartbeats 4000000 in
set_option maxRecDepth 100000 in
theorem k_X12_today (l : Launch) (G : va_G) (cy : Nat → ClassId) (ev : Nat → Nat) (N : Nat) (ad : Nat → Nat) (v : VV)  (res : VV) (h : f_X12_today N v = some res) : MetV l yX12_today cX12_today 1 none 8 202 G cy ev [.ref (ad 0)] (cX12 cy ad v) (cX12 cy ad res) := by
  refine MetQ.start (by decide +kernel) (Nat.le_of_ble_eq_true rfl) (fun p e s m args below meth c A ls hx hb hr hml hown hts hlocks hK hP hD hA hl hE => ?_)
  have hS : va_S A s.heap s.heap [] := va_S.rf
  have hown : s.vm.findClass RX12 = some m.cls := hown
  have hl : lv_has ls 1 [(0, .ref (ad 0))] := hl
  delta f_X12_today at h
  refine lv_aload_n hx hb dX12_today_0 rfl (lv_at hl 0 rfl) ?_
  refine lv_iconst (v := 1) hx hb dX12_today_1 (by decide) ?_
  refine lv_iconst (v := 0) hx hb dX12_today_2 (by decide) ?_
  replace h := bd h
  obtain ⟨q1, h2, h⟩ := h
  refine callVv0 (As := [.int 1, .int 0]) (rest := []) hx hb hml hown hts (k_X12_copies l G cy ev N ad v 1 0 q1 h2) wm_32_14 wm_32_15 wm_32_16 wm_1_5 wm_32_17 hd_X12_copies ⟨by decide, by decide⟩ hK hP hD hS hA hE (va_recv hK hP (ci := 12) (q0 := 0) rfl rfl) rfl rfl hl.1 (Nat.le_of_ble_eq_true rfl) dX12_today_3 (fun H locs hP hD hS => ?_)
  refine lv_aload_n hx hb dX12_today_6 rfl (lv_at hl 0 rfl) ?_
  refine lv_iconst (v := 1) hx hb dX12_today_7 (by decide) ?_
  refine lv_iconst (v := 0) hx hb dX12_today_8 (by decide) ?_
  replace h := bd h
  obtain ⟨q3, h4, h⟩ := h
  refine callVv0 (As := [.int 1, .int 0]) (rest := []) hx hb hml hown hts (k_X12_passes l G cy ev N ad q1 1 0 q3 h4) wm_35_12 wm_35_13 wm_35_14 wm_1_5 wm_35_15 hd_X12_passes ⟨by decide, by decide⟩ hK hP hD hS hA hE (va_recv hK hP (ci := 12) (q0 := 0) rfl rfl) rfl rfl hl.1 (Nat.le_of_ble_eq_true rfl) dX12_today_9 (fun H locs hP hD hS => ?_)
  exact retV (fw := fun q => cX12 cy ad q) h hx hb hr hlocks hK hP hD hS dX12_today_12
theorem hd_X12_law : yX12_law.cls = RX12 ∧ yX12_law.cls ≠ "java/lang/invoke/MethodHandle" ∧ yX12_law.cls ≠ "java/lang/invoke/VarHandle" ∧ (parseMethodDescriptor yX12_law.desc).map (fun d => d.parameters.length) = some 4 := ⟨rfl, by decide +kernel, by decide +kernel, by decide +kernel⟩
def f_X12_law_b51 (N : Nat) (v : VV)  : Option (Int64 × VV) :=
  some ((-9223372036854775808), v)
def f_X12_law (N : Nat) (v : VV) (a1 : Int32) (a2 : Int32) (a3 : Int32) (a4 : Int32) : Option (Int64 × VV) :=
  if a1 < 0 then f_X12_law_b51 N (si v 0 0) else if (2 : Int32) < a1 then f_X12_law_b51 N (si v 0 0) else bnd (f_X12_hasLaw (si v 0 0) a1) (fun q1 => if q1 = 0 then f_X12_law_b51 N (si v 0 0) else bnd (f_X12_isParty (si v 0 0) a2) (fun q3 => if q3 = 0 then f_X12_law_b51 N (si v 0 0) else bnd (f_X12_isSitting (si v 0 0) a3) (fun q5 => if q5 = 0 then f_X12_law_b51 N (si v 0 0) else if a4 < 0 then f_X12_law_b51 N (si v 0 0) else if a4 ≤ 999 then bnd (f_X12_calls (si v 0 0) 0 a2 a3 a4) (fun q7 => bnd (f_X12_goes N q7 a1) (fun q9 => if q9.1 = 0 then some ((-9223372036854775808), q9.2) else some (q9.2.2.2 30 0, q9.2))) else f_X12_law_b51 N (si v 0 0))))
set_option maxHeartbeats 4000000 in
set_option maxRecDepth 100000 in
theorem k_X12_law (l : Launch) (G : va_G) (cy : Nat → ClassId) (ev : Nat → Nat) (N : Nat) (ad : Nat → Nat) (v : VV) (a1 : Int32) (a2 : Int32) (a3 : Int32) (a4 : Int32) (res : Int64 × VV) (h : f_X12_law N v a1 a2 a3 a4 = some res) : MetL l yX12_law cX12_law 5 (some .long) 3 73 G cy ev [.ref (ad 0), .int a1, .int a2, .int a3, .int a4] (cX12 cy ad v) res.1 (cX12 cy ad res.2) := by
  refine MetQ.start (by decide +kernel) (Nat.le_of_ble_eq_true rfl) (fun p e s m args below meth c A ls hx hb hr hml hown hts hlocks hK hP hD hA hl hE => ?_)
  have hS : va_S A s.heap s.heap [] := va_S.rf
  have hown : s.vm.findClass RX12 = some m.cls := hown
  have hl : lv_has ls 5 [(0, .ref (ad 0)), (1, .int a1), (2, .int a2), (3, .int a3), (4, .int a4)] := hl
  have B51 : ∀ (v : VV) (H : Heap) (locs : List Loc) (ls : Array Slot), f_X12_law_b51 N v = some res → va_P G vwCl (cX12 cy ad v) H → va_D A (cX12 cy ad v) → va_S A s.heap H locs → lv_has ls 5 [] → W p l e (rmX 3 73) s m args below meth c H locs 0 0 (MQ below (mQl (res.1) G cy A (cX12 cy ad res.2)) args s 0 0 A) (F0 m 51 ls []) := by
    intro v H locs ls h hP hD hS hl
    delta f_X12_law_b51 at h
    refine lv_ldc2 (v := (-9223372036854775808)) hx hb hown (hts _ wm_30_10) dX12_law_51 ?_
    exact retL (fr := fun q => q.1) (fw := fun q => cX12 cy ad q.2) h hx hb hr hlocks hK hP hD hS dX12_law_54
  delta f_X12_law at h
  refine lv_aload_n hx hb dX12_law_0 rfl (lv_at hl 0 rfl) ?_
  refine lv_iconst (v := 0) hx hb dX12_law_1 (by decide) ?_
  refine pf_X12_0 hx hb hts hown hK hP hD hS dX12_law_2 (fun H locs hP hD hS => ?_)
  refine lv_iload_n hx hb dX12_law_5 rfl (lv_at hl 1 rfl) ?_
  refine lv_if_lt (tgt := 51) hx hb dX12_law_6 (by decide) (fun c9 => ?_) (fun c9 => ?_)
  · replace h := (br h).1 c9
    exact B51 (si v 0 0) _ _ _ h hP hD hS (lv_sub hl [] rfl)
  · replace h := (br h).2 c9
    refine lv_iload_n hx hb dX12_law_9 rfl (lv_at hl 1 rfl) ?_
    refine lv_iconst (v := 2) hx hb dX12_law_10 (by decide) ?_
    refine lv_icmp_gt (tgt := 51) hx hb dX12_law_11 (by decide) (fun c9 => ?_) (fun c9 => ?_)
    · replace h := (br h).1 c9
      exact B51 (si v 0 0) _ _ _ h hP hD hS (lv_sub hl [] rfl)
    · replace h := (br h).2 c9
      refine lv_aload_n hx hb dX12_law_14 rfl (lv_at hl 0 rfl) ?_
      refine lv_iload_n hx hb dX12_law_15 rfl (lv_at hl 1 rfl) ?_
      replace h := bd h
      obtain ⟨q1, h2, h⟩ := h
      refine callVi0 (As := [.int a1]) (rest := []) hx hb hml hown hts (k_X12_hasLaw l G cy ev ad (si v 0 0) a1 q1 h2) wm_30_11 wm_30_12 wm_30_13 wm_1_5 wm_30_14 hd_X12_hasLaw ⟨by decide, by decide⟩ hK hP hD hS hA hE (va_recv hK hP (ci := 12) (q0 := 0) rfl rfl) rfl rfl hl.1 (Nat.le_of_ble_eq_true rfl) dX12_law_16 (fun H locs hP hD hS => ?_)
      refine lv_if_eq (tgt := 51) hx hb dX12_law_19 (by decide) (fun c9 => ?_) (fun c9 => ?_)
      · replace h := (br h).1 c9
        exact B51 (si v 0 0) _ _ _ h hP hD hS (lv_sub hl [] rfl)
      · replace h := (br h).2 c9
        refine lv_aload_n hx hb dX12_law_22 rfl (lv_at hl 0 rfl) ?_
        refine lv_iload_n hx hb dX12_law_23 rfl (lv_at hl 2 rfl) ?_
        replace h := bd h
        obtain ⟨q3, h4, h⟩ := h
        refine callVi0 (As := [.int a2]) (rest := []) hx hb hml hown hts (k_X12_isParty l G cy ev ad (si v 0 0) a2 q3 h4) wm_26_23 wm_27_0 wm_27_1 wm_1_5 wm_27_2 hd_X12_isParty ⟨by decide, by decide⟩ hK hP hD hS hA hE (va_recv hK hP (ci := 12) (q0 := 0) rfl rfl) rfl rfl hl.1 (Nat.le_of_ble_eq_true rfl) dX12_law_24 (fun H locs hP hD hS => ?_)
        refine lv_if_eq (tgt := 51) hx hb dX12_law_27 (by decide) (fun c9 => ?_) (fun c9 => ?_)
        · replace h := (br h).1 c9
          exact B51 (si v 0 0) _ _ _ h hP hD hS (lv_sub hl [] rfl)
        · replace h := (br h).2 c9
          refine lv_aload_n hx hb dX12_law_30 rfl (lv_at hl 0 rfl) ?_
          refine lv_iload_n hx hb dX12_law_31 rfl (lv_at hl 3 rfl) ?_
          replace h := bd h
          obtain ⟨q5, h6, h⟩ := h
          refine callVi0 (As := [.int a3]) (rest := []) hx hb hml hown hts (k_X12_isSitting l G cy ev ad (si v 0 0) a3 q5 h6) wm_28_12 wm_28_13 wm_28_14 wm_1_5 wm_28_15 hd_X12_isSitting ⟨by decide, by decide⟩ hK hP hD hS hA hE (va_recv hK hP (ci := 12) (q0 := 0) rfl rfl) rfl rfl hl.1 (Nat.le_of_ble_eq_true rfl) dX12_law_32 (fun H locs hP hD hS => ?_)
          refine lv_if_eq (tgt := 51) hx hb dX12_law_35 (by decide) (fun c9 => ?_) (fun c9 => ?_)
          · replace h := (br h).1 c9
            exact B51 (si v 0 0) _ _ _ h hP hD hS (lv_sub hl [] rfl)
          · replace h := (br h).2 c9
            refine lv_iload hx hb dX12_law_38 (lv_at hl 4 rfl) ?_
            refine lv_if_lt (tgt := 51) hx hb dX12_law_40 (by decide) (fun c9 => ?_) (fun c9 => ?_)
            · replace h := (br h).1 c9
              exact B51 (si v 0 0) _ _ _ h hP hD hS (lv_sub hl [] rfl)
            · replace h := (br h).2 c9
              refine lv_iload hx hb dX12_law_43 (lv_at hl 4 rfl) ?_
              refine lv_sipush (v := 999) hx hb dX12_law_45 (by decide) ?_
              refine lv_icmp_le (tgt := 55) hx hb dX12_law_48 (by decide) (fun c9 => ?_) (fun c9 => ?_)
              · replace h := (br h).1 c9
                refine lv_aload_n hx hb dX12_law_55 rfl (lv_at hl 0 rfl) ?_
                refine lv_iconst (v := 0) hx hb dX12_law_56 (by decide) ?_
                refine lv_iload_n hx hb dX12_law_57 rfl (lv_at hl 2 rfl) ?_
                refine lv_iload_n hx hb dX12_law_58 rfl (lv_at hl 3 rfl) ?_
                refine lv_iload hx hb dX12_law_59 (lv_at hl 4 rfl) ?_
                replace h := bd h
                obtain ⟨q7, h8, h⟩ := h
                refine callVv0 (As := [.int 0, .int a2, .int a3, .int a4]) (rest := []) hx hb hml hown hts (k_X12_calls l G cy ev ad (si v 0 0) 0 a2 a3 a4 q7 h8) wm_30_15 wm_30_16 wm_30_17 wm_1_5 wm_30_18 hd_X12_calls ⟨by decide, by decide⟩ hK hP hD hS hA hE (va_recv hK hP (ci := 12) (q0 := 0) rfl rfl) rfl rfl hl.1 (Nat.le_of_ble_eq_true rfl) dX12_law_61 (fun H locs hP hD hS => ?_)
                refine lv_aload_n hx hb dX12_law_64 rfl (lv_at hl 0 rfl) ?_
                refine lv_iload_n hx hb dX12_law_65 rfl (lv_at hl 1 rfl) ?_
                replace h := bd h
                obtain ⟨q9, h10, h⟩ := h
                refine callVi0 (As := [.int a1]) (rest := []) hx hb hml hown hts (k_X12_goes l G cy ev N ad q7 a1 q9 h10) wm_31_0 wm_31_1 wm_31_2 wm_1_5 wm_31_3 hd_X12_goes ⟨by decide, by decide⟩ hK hP hD hS hA hE (va_recv hK hP (ci := 12) (q0 := 0) rfl rfl) rfl rfl hl.1 (Nat.le_of_ble_eq_true rfl) dX12_law_66 (fun H locs hP hD hS => ?_)
                refine lv_if_eq (tgt := 81) hx hb dX12_law_69 (by decide) (fun c9 => ?_) (fun c9 => ?_)
                · replace h := (br h).1 c9
                  refine lv_ldc2 (v := (-9223372036854775808)) hx hb hown (hts _ wm_30_10) dX12_law_81 ?_
                  exact retL (fr := fun q => q.1) (fw := fun q => cX12 cy ad q.2) h hx hb hr hlocks hK hP hD hS dX12_law_84
                · replace h := (br h).2 c9
                  refine lv_aload_n hx hb dX12_law_72 rfl (lv_at hl 0 rfl) ?_
                  refine gf_X12_30 hx hb hts hown hK hP dX12_law_73 ?_
                  refine lv_iconst (v := 0) hx hb dX12_law_76 (by decide) ?_
                  refine ld_X12_30 (f := q9.2.2.2 30) (j := 0) hx hb hK hP rfl (vin_dec (by decide)) (by decide) dX12_law_77 ?_
                  refine lv_goto (tgt := 84) hx hb dX12_law_78 (by decide) ?_
                  exact retL (fr := fun q => q.1) (fw := fun q => cX12 cy ad q.2) h hx hb hr hlocks hK hP hD hS dX12_law_84
              · replace h := (br h).2 c9
                exact B51 (si v 0 0) _ _ _ h hP hD hS (lv_sub hl [] rfl)
theorem hd_X12_keepNow : yX12_keepNow.cls = RX12 ∧ yX12_keepNow.cls ≠ "java/lang/invoke/MethodHandle" ∧ yX12_keepNow.cls ≠ "java/lang/invoke/VarHandle" ∧ (parseMethodDescriptor yX12_keepNow.desc).map (fun d => d.parameters.length) = some 0 := ⟨rfl, by decide +kernel, by decide +kernel, by decide +kernel⟩
def f_X12_keepNow_b45 (N : Nat) (v : VV)  : Option (VV) :=
  bnd (f_X12_copies N v (3 + (v.1 49)) 0) (fun q4501 => some (si q4501 49 ((q4501.1 49) + 1)))
def f_X12_keepNow_s11 (N : Nat) (v : VV) (x1 : Int32) : Option (((Int32 × VV) ⊕ (VV))) :=
  if (20 : Int32) ≤ x1 then inrO (f_X12_keepNow_b45 N (si v 49 ((v.1 49) - 1))) else bnd (f_X12_copies N v ((3 + x1) - 1) (3 + x1)) (fun q1101 => some (.inl (x1 + 1, q1101)))
def f_X12_keepNow (N : Nat) (v : VV) : Option (VV) :=
  if v.1 49 = 20 then itr (fun q : Int32 × VV => f_X12_keepNow_s11 N q.2 q.1) N (1, v) else f_X12_keepNow_b45 N v
set_option maxHeartbeats 4000000 in
set_option maxRecDepth 100000 in
theorem k_X12_keepNow (l : Launch) (G : va_G) (cy : Nat → ClassId) (ev : Nat → Nat) (N : Nat) (ad : Nat → Nat) (v : VV)  (res : VV) (h : f_X12_keepNow N v = some res) : MetV l yX12_keepNow cX12_keepNow 2 none 1 25 G cy ev [.ref (ad 0)] (cX12 cy ad v) (cX12 cy ad res) := by
  refine MetQ.start (by decide +kernel) (Nat.le_of_ble_eq_true rfl) (fun p e s m args below meth c A ls hx hb hr hml hown hts hlocks hK hP hD hA hl hE => ?_)
  have hS : va_S A s.heap s.heap [] := va_S.rf
  have hown : s.vm.findClass RX12 = some m.cls := hown
  have hl : lv_has ls 2 [(0, .ref (ad 0))] := hl
  have B45 : ∀ (v : VV) (H : Heap) (locs : List Loc) (ls : Array Slot), f_X12_keepNow_b45 N v = some res → va_P G vwCl (cX12 cy ad v) H → va_D A (cX12 cy ad v) → va_S A s.heap H locs → lv_has ls 2 [(0, .ref (ad 0))] → W p l e (rmX 1 25) s m args below meth c H locs 0 0 (MQ below (mQv G cy A (cX12 cy ad res)) args s 0 0 A) (F0 m 45 ls []) := by
    intro v H locs ls h hP hD hS hl
    delta f_X12_keepNow_b45 at h
    refine lv_aload_n hx hb dX12_keepNow_45 rfl (lv_at hl 0 rfl) ?_
    refine lv_iconst (v := 3) hx hb dX12_keepNow_46 (by decide) ?_
    refine lv_aload_n hx hb dX12_keepNow_47 rfl (lv_at hl 0 rfl) ?_
    refine gf_X12_49 (x := v.1 49) hx hb hts hown hK hP rfl dX12_keepNow_48 ?_
    refine lv_iadd hx hb dX12_keepNow_51 ?_
    refine lv_iconst (v := 0) hx hb dX12_keepNow_52 (by decide) ?_
    replace h := bd h
    obtain ⟨q4501, h4502, h⟩ := h
    refine callVv0 (As := [.int (3 + (v.1 49)), .int 0]) (rest := []) hx hb hml hown hts (k_X12_copies l G cy ev N ad v (3 + (v.1 49)) 0 q4501 h4502) wm_32_14 wm_32_15 wm_32_16 wm_1_5 wm_32_17 hd_X12_copies ⟨by decide, by decide⟩ hK hP hD hS hA hE (va_recv hK hP (ci := 12) (q0 := 0) rfl rfl) rfl rfl hl.1 (Nat.le_of_ble_eq_true rfl) dX12_keepNow_53 (fun H locs hP hD hS => ?_)
    refine lv_aload_n hx hb dX12_keepNow_56 rfl (lv_at hl 0 rfl) ?_
    refine lv_dup hx hb dX12_keepNow_57 rfl ?_
    refine gf_X12_49 (x := q4501.1 49) hx hb hts hown hK hP rfl dX12_keepNow_58 ?_
    refine lv_iconst (v := 1) hx hb dX12_keepNow_61 (by decide) ?_
    refine lv_iadd hx hb dX12_keepNow_62 ?_
    refine pf_X12_49 hx hb hts hown hK hP hD hS dX12_keepNow_63 (fun H locs hP hD hS => ?_)
    exact retV (fw := fun q => cX12 cy ad q) h hx hb hr hlocks hK hP hD hS dX12_keepNow_66
  have L11 : ∀ (n : Nat) (x1 : Int32) (v : VV) (H : Heap) (locs : List Loc) (ls : Array Slot), itr (fun q : Int32 × VV => f_X12_keepNow_s11 N q.2 q.1) n (x1, v) = some res → va_P G vwCl (cX12 cy ad v) H → va_D A (cX12 cy ad v) → va_S A s.heap H locs → lv_has ls 2 [(0, .ref (ad 0)), (1, .int x1)] → W p l e (rmX 1 25) s m args below meth c H locs 0 0 (MQ below (mQv G cy A (cX12 cy ad res)) args s 0 0 A) (F0 m 11 ls []) := by
    intro n
    induction n with
    | zero => intro x1 v H locs ls h; exact (itr_zero h).elim
    | succ n ih1 =>
      intro x1 v H locs ls h hP hD hS hl
      obtain ⟨y1, h, hy1⟩ := itr_inv h
      have h : f_X12_keepNow_s11 N v x1 = some y1 := h
      delta f_X12_keepNow_s11 at h
      refine lv_iload_n hx hb dX12_keepNow_11 rfl (lv_at hl 1 rfl) ?_
      refine lv_bipush (v := 20) hx hb dX12_keepNow_12 (by decide) ?_
      refine lv_icmp_ge (tgt := 35) hx hb dX12_keepNow_14 (by decide) (fun c9 => ?_) (fun c9 => ?_)
      · replace h := (br h).1 c9
        replace h := itr_exit h hy1
        refine lv_aload_n hx hb dX12_keepNow_35 rfl (lv_at hl 0 rfl) ?_
        refine lv_dup hx hb dX12_keepNow_36 rfl ?_
        refine gf_X12_49 (x := v.1 49) hx hb hts hown hK hP rfl dX12_keepNow_37 ?_
        refine lv_iconst (v := 1) hx hb dX12_keepNow_40 (by decide) ?_
        refine lv_isub hx hb dX12_keepNow_41 ?_
        refine pf_X12_49 hx hb hts hown hK hP hD hS dX12_keepNow_42 (fun H locs hP hD hS => ?_)
        exact B45 (si v 49 ((v.1 49) - 1)) _ _ _ h hP hD hS (lv_sub hl [0] rfl)
      · replace h := (br h).2 c9
        refine lv_aload_n hx hb dX12_keepNow_17 rfl (lv_at hl 0 rfl) ?_
        refine lv_iconst (v := 3) hx hb dX12_keepNow_18 (by decide) ?_
        refine lv_iload_n hx hb dX12_keepNow_19 rfl (lv_at hl 1 rfl) ?_
        refine lv_iadd hx hb dX12_keepNow_20 ?_
        refine lv_iconst (v := 1) hx hb dX12_keepNow_21 (by decide) ?_
        refine lv_isub hx hb dX12_keepNow_22 ?_
        refine lv_iconst (v := 3) hx hb dX12_keepNow_23 (by decide) ?_
        refine lv_iload_n hx hb dX12_keepNow_24 rfl (lv_at hl 1 rfl) ?_
        refine lv_iadd hx hb dX12_keepNow_25 ?_
        replace h := bd h
        obtain ⟨q1101, h1102, h⟩ := h
        refine callVv0 (As := [.int ((3 + x1) - 1), .int (3 + x1)]) (rest := []) hx hb hml hown hts (k_X12_copies l G cy ev N ad v ((3 + x1) - 1) (3 + x1) q1101 h1102) wm_32_14 wm_32_15 wm_32_16 wm_1_5 wm_32_17 hd_X12_copies ⟨by decide, by decide⟩ hK hP hD hS hA hE (va_recv hK hP (ci := 12) (q0 := 0) rfl rfl) rfl rfl hl.1 (Nat.le_of_ble_eq_true rfl) dX12_keepNow_26 (fun H locs hP hD hS => ?_)
        refine lv_iinc (v := x1 + 1) (lv' := [(1, .int (x1 + 1)), (0, .ref (ad 0))]) hx hb dX12_keepNow_29 hl (k := 1) rfl rfl (by decide) rfl (fun ls hl => ?_)
        refine lv_goto (tgt := 11) hx hb dX12_keepNow_32 (by decide) ?_
        replace h := itr_back h hy1
        exact ih1 (x1 + 1) q1101 _ _ _ h hP hD hS (lv_sub hl [1, 0] rfl)
  delta f_X12_keepNow at h
  refine lv_aload_n hx hb dX12_keepNow_0 rfl (lv_at hl 0 rfl) ?_
  refine gf_X12_49 (x := v.1 49) hx hb hts hown hK hP rfl dX12_keepNow_1 ?_
  refine lv_bipush (v := 20) hx hb dX12_keepNow_4 (by decide) ?_
  refine lv_icmp_ne (tgt := 45) hx hb dX12_keepNow_6 (by decide) (fun c9 => ?_) (fun c9 => ?_)
  · replace h := (br h).2 c9
    exact B45 v _ _ _ h hP hD hS (lv_sub hl [0] rfl)
  · replace h := (br h).1 c9
    refine lv_iconst (v := 1) hx hb dX12_keepNow_9 (by decide) ?_
    refine lv_istore_n (lv' := [(1, .int 1), (0, .ref (ad 0))]) hx hb dX12_keepNow_10 rfl hl (by decide) rfl (fun ls hl => ?_)
    exact L11  N 1 v _ _ _ h hP hD hS (lv_sub hl [1, 0] rfl)
theorem hd_X12_give : yX12_give.cls = RX12 ∧ yX12_give.cls ≠ "java/lang/invoke/MethodHandle" ∧ yX12_give.cls ≠ "java/lang/invoke/VarHandle" ∧ (parseMethodDescriptor yX12_give.desc).map (fun d => d.parameters.length) = some 2 := ⟨rfl, by decide +kernel, by decide +kernel, by decide +kernel⟩
def f_X12_give_b74 (N : Nat) (v : VV) (x1 : Int32) (x2 : Int32) : Option (Int32 × VV) :=
  bnd (f_X12_keepNow N v) (fun q7401 => gin x1 184 (some (1, sr q7401 37 x1.toNatClampNeg x2)))
def f_X12_give_b26 (N : Nat) (v : VV) (x1 : Int32) (x2 : Int32) : Option (Int32 × VV) :=
  gin x1 184 (if v.2.1 37 x1.toNatClampNeg = x2 then some (0, v) else if x2 = (-1) then f_X12_give_b74 N v x1 x2 else bnd (f_X12_withTicket N v x2) (fun q2601 => gin x1 16 (if q2601 + (v.2.1 5 x1.toNatClampNeg) ≤ (v.2.1 3 1) + (v.2.1 3 6) then f_X12_give_b74 N v x1 x2 else some (0, v))))
def f_X12_give (N : Nat) (v : VV) (a1 : Int32) (a2 : Int32) : Option (Int32 × VV) :=
  bnd (f_X12_isParty (si v 0 0) a1) (fun q1 => if q1 = 0 then some (0, si v 0 0) else if a2 = (-1) then f_X12_give_b26 N (si v 0 0) a1 a2 else bnd (f_X12_isSitting (si v 0 0) a2) (fun q3 => if q3 = 0 then some (0, si v 0 0) else f_X12_give_b26 N (si v 0 0) a1 a2))
set_option maxHeartbeats 4000000 in
set_option maxRecDepth 100000 in
theorem k_X12_give (l : Launch) (G : va_G) (cy : Nat → ClassId) (ev : Nat → Nat) (N : Nat) (ad : Nat → Nat) (v : VV) (a1 : Int32) (a2 : Int32) (res : Int32 × VV) (h : f_X12_give N v a1 a2 = some res) : MetI l yX12_give cX12_give 3 (some .boolean) 2 46 G cy ev [.ref (ad 0), .int a1, .int a2] (cX12 cy ad v) res.1 (cX12 cy ad res.2) := by
  refine MetQ.start (by decide +kernel) (Nat.le_of_ble_eq_true rfl) (fun p e s m args below meth c A ls hx hb hr hml hown hts hlocks hK hP hD hA hl hE => ?_)
  have hS : va_S A s.heap s.heap [] := va_S.rf
  have hown : s.vm.findClass RX12 = some m.cls := hown
  have hl : lv_has ls 3 [(0, .ref (ad 0)), (1, .int a1), (2, .int a2)] := hl
  have B74 : ∀ (x1 : Int32) (x2 : Int32) (v : VV) (H : Heap) (locs : List Loc) (ls : Array Slot), f_X12_give_b74 N v x1 x2 = some res → va_P G vwCl (cX12 cy ad v) H → va_D A (cX12 cy ad v) → va_S A s.heap H locs → lv_has ls 3 [(0, .ref (ad 0)), (1, .int x1), (2, .int x2)] → W p l e (rmX 2 46) s m args below meth c H locs 0 0 (MQ below (mQi (res.1) G cy A (cX12 cy ad res.2)) args s 0 0 A) (F0 m 74 ls []) := by
    intro x1 x2 v H locs ls h hP hD hS hl
    delta f_X12_give_b74 at h
    refine lv_aload_n hx hb dX12_give_74 rfl (lv_at hl 0 rfl) ?_
    replace h := bd h
    obtain ⟨q7401, h7402, h⟩ := h
    refine callVv0 (As := []) (rest := []) hx hb hml hown hts (k_X12_keepNow l G cy ev N ad v q7401 h7402) wm_32_10 wm_32_11 wm_32_12 wm_1_5 wm_32_13 hd_X12_keepNow ⟨by decide, by decide⟩ hK hP hD hS hA hE (va_recv hK hP (ci := 12) (q0 := 0) rfl rfl) rfl rfl hl.1 (Nat.le_of_ble_eq_true rfl) dX12_give_75 (fun H locs hP hD hS => ?_)
    refine lv_aload_n hx hb dX12_give_78 rfl (lv_at hl 0 rfl) ?_
    refine gf_X12_37 hx hb hts hown hK hP dX12_give_79 ?_
    refine lv_iload_n hx hb dX12_give_82 rfl (lv_at hl 1 rfl) ?_
    refine lv_iload_n hx hb dX12_give_83 rfl (lv_at hl 2 rfl) ?_
    replace h := gin_inv h
    obtain ⟨h9, h⟩ := h
    refine st_X12_37 (j := x1.toNatClampNeg) hx hb hK hP hD hS h9 rfl dX12_give_84 (fun H locs hP hD hS => ?_)
    refine lv_iconst (v := 1) hx hb dX12_give_85 (by decide) ?_
    exact retZ (fr := fun q => q.1) (fw := fun q => cX12 cy ad q.2) h hx hb hr narZ1 hlocks hK hP hD hS dX12_give_86
  have B26 : ∀ (x1 : Int32) (x2 : Int32) (v : VV) (H : Heap) (locs : List Loc) (ls : Array Slot), f_X12_give_b26 N v x1 x2 = some res → va_P G vwCl (cX12 cy ad v) H → va_D A (cX12 cy ad v) → va_S A s.heap H locs → lv_has ls 3 [(0, .ref (ad 0)), (1, .int x1), (2, .int x2)] → W p l e (rmX 2 46) s m args below meth c H locs 0 0 (MQ below (mQi (res.1) G cy A (cX12 cy ad res.2)) args s 0 0 A) (F0 m 26 ls []) := by
    intro x1 x2 v H locs ls h hP hD hS hl
    delta f_X12_give_b26 at h
    refine lv_aload_n hx hb dX12_give_26 rfl (lv_at hl 0 rfl) ?_
    refine gf_X12_37 hx hb hts hown hK hP dX12_give_27 ?_
    refine lv_iload_n hx hb dX12_give_30 rfl (lv_at hl 1 rfl) ?_
    replace h := gin_inv h
    obtain ⟨h9, h⟩ := h
    refine ld_X12_37 (f := v.2.1 37) (j := x1.toNatClampNeg) hx hb hK hP rfl h9 rfl dX12_give_31 ?_
    refine lv_iload_n hx hb dX12_give_32 rfl (lv_at hl 2 rfl) ?_
    refine lv_icmp_ne (tgt := 38) hx hb dX12_give_33 (by decide) (fun c9 => ?_) (fun c9 => ?_)
    · replace h := (br h).2 c9
      refine lv_iload_n hx hb dX12_give_38 rfl (lv_at hl 2 rfl) ?_
      refine lv_iconst (v := (-1)) hx hb dX12_give_39 (by decide) ?_
      refine lv_icmp_eq (tgt := 74) hx hb dX12_give_40 (by decide) (fun c9 => ?_) (fun c9 => ?_)
      · replace h := (br h).1 c9
        exact B74 x1 x2 v _ _ _ h hP hD hS (lv_sub hl [0, 1, 2] rfl)
      · replace h := (br h).2 c9
        refine lv_aload_n hx hb dX12_give_43 rfl (lv_at hl 0 rfl) ?_
        refine lv_iload_n hx hb dX12_give_44 rfl (lv_at hl 2 rfl) ?_
        replace h := bd h
        obtain ⟨q2601, h2602, h⟩ := h
        refine callVi0 (As := [.int x2]) (rest := []) hx hb hml hown hts (k_X12_withTicket l G cy ev N ad v x2 q2601 h2602) wm_28_16 wm_28_17 wm_28_18 wm_1_5 wm_28_19 hd_X12_withTicket ⟨by decide, by decide⟩ hK hP hD hS hA hE (va_recv hK hP (ci := 12) (q0 := 0) rfl rfl) rfl rfl hl.1 (Nat.le_of_ble_eq_true rfl) dX12_give_45 (fun H locs hP hD hS => ?_)
        refine lv_aload_n hx hb dX12_give_48 rfl (lv_at hl 0 rfl) ?_
        refine gf_X12_5 hx hb hts hown hK hP dX12_give_49 ?_
        refine lv_iload_n hx hb dX12_give_52 rfl (lv_at hl 1 rfl) ?_
        replace h := gin_inv h
        obtain ⟨h9, h⟩ := h
        refine ld_X12_5 (f := v.2.1 5) (j := x1.toNatClampNeg) hx hb hK hP rfl h9 rfl dX12_give_53 ?_
        refine lv_iadd hx hb dX12_give_54 ?_
        refine lv_aload_n hx hb dX12_give_55 rfl (lv_at hl 0 rfl) ?_
        refine gf_X12_3 hx hb hts hown hK hP dX12_give_56 ?_
        refine lv_iconst (v := 1) hx hb dX12_give_59 (by decide) ?_
        refine ld_X12_3 (f := v.2.1 3) (j := 1) hx hb hK hP rfl (vin_dec (by decide)) (by decide) dX12_give_60 ?_
        refine lv_aload_n hx hb dX12_give_61 rfl (lv_at hl 0 rfl) ?_
        refine gf_X12_3 hx hb hts hown hK hP dX12_give_62 ?_
        refine lv_bipush (v := 6) hx hb dX12_give_65 (by decide) ?_
        refine ld_X12_3 (f := v.2.1 3) (j := 6) hx hb hK hP rfl (vin_dec (by decide)) (by decide) dX12_give_67 ?_
        refine lv_iadd hx hb dX12_give_68 ?_
        refine lv_icmp_le (tgt := 74) hx hb dX12_give_69 (by decide) (fun c9 => ?_) (fun c9 => ?_)
        · replace h := (br h).1 c9
          exact B74 x1 x2 v _ _ _ h hP hD hS (lv_sub hl [0, 1, 2] rfl)
        · replace h := (br h).2 c9
          refine lv_iconst (v := 0) hx hb dX12_give_72 (by decide) ?_
          exact retZ (fr := fun q => q.1) (fw := fun q => cX12 cy ad q.2) h hx hb hr narZ0 hlocks hK hP hD hS dX12_give_73
    · replace h := (br h).1 c9
      refine lv_iconst (v := 0) hx hb dX12_give_36 (by decide) ?_
      exact retZ (fr := fun q => q.1) (fw := fun q => cX12 cy ad q.2) h hx hb hr narZ0 hlocks hK hP hD hS dX12_give_37
  delta f_X12_give at h
  refine lv_aload_n hx hb dX12_give_0 rfl (lv_at hl 0 rfl) ?_
  refine lv_iconst (v := 0) hx hb dX12_give_1 (by decide) ?_
  refine pf_X12_0 hx hb hts hown hK hP hD hS dX12_give_2 (fun H locs hP hD hS => ?_)
  refine lv_aload_n hx hb dX12_give_5 rfl (lv_at hl 0 rfl) ?_
  refine lv_iload_n hx hb dX12_give_6 rfl (lv_at hl 1 rfl) ?_
  replace h := bd h
  obtain ⟨q1, h2, h⟩ := h
  refine callVi0 (As := [.int a1]) (rest := []) hx hb hml hown hts (k_X12_isParty l G cy ev ad (si v 0 0) a1 q1 h2) wm_26_23 wm_27_0 wm_27_1 wm_1_5 wm_27_2 hd_X12_isParty ⟨by decide, by decide⟩ hK hP hD hS hA hE (va_recv hK hP (ci := 12) (q0 := 0) rfl rfl) rfl rfl hl.1 (Nat.le_of_ble_eq_true rfl) dX12_give_7 (fun H locs hP hD hS => ?_)
  refine lv_if_eq (tgt := 36) hx hb dX12_give_10 (by decide) (fun c9 => ?_) (fun c9 => ?_)
  · replace h := (br h).1 c9
    refine lv_iconst (v := 0) hx hb dX12_give_36 (by decide) ?_
    exact retZ (fr := fun q => q.1) (fw := fun q => cX12 cy ad q.2) h hx hb hr narZ0 hlocks hK hP hD hS dX12_give_37
  · replace h := (br h).2 c9
    refine lv_iload_n hx hb dX12_give_13 rfl (lv_at hl 2 rfl) ?_
    refine lv_iconst (v := (-1)) hx hb dX12_give_14 (by decide) ?_
    refine lv_icmp_eq (tgt := 26) hx hb dX12_give_15 (by decide) (fun c9 => ?_) (fun c9 => ?_)
    · replace h := (br h).1 c9
      exact B26 a1 a2 (si v 0 0) _ _ _ h hP hD hS (lv_sub hl [0, 1, 2] rfl)
    · replace h := (br h).2 c9
      refine lv_aload_n hx hb dX12_give_18 rfl (lv_at hl 0 rfl) ?_
      refine lv_iload_n hx hb dX12_give_19 rfl (lv_at hl 2 rfl) ?_
      replace h := bd h
      obtain ⟨q3, h4, h⟩ := h
      refine callVi0 (As := [.int a2]) (rest := []) hx hb hml hown hts (k_X12_isSitting l G cy ev ad (si v 0 0) a2 q3 h4) wm_28_12 wm_28_13 wm_28_14 wm_1_5 wm_28_15 hd_X12_isSitting ⟨by decide, by decide⟩ hK hP hD hS hA hE (va_recv hK hP (ci := 12) (q0 := 0) rfl rfl) rfl rfl hl.1 (Nat.le_of_ble_eq_true rfl) dX12_give_20 (fun H locs hP hD hS => ?_)
      refine lv_if_eq (tgt := 36) hx hb dX12_give_23 (by decide) (fun c9 => ?_) (fun c9 => ?_)
      · replace h := (br h).1 c9
        refine lv_iconst (v := 0) hx hb dX12_give_36 (by decide) ?_
        exact retZ (fr := fun q => q.1) (fw := fun q => cX12 cy ad q.2) h hx hb hr narZ0 hlocks hK hP hD hS dX12_give_37
      · replace h := (br h).2 c9
        exact B26 a1 a2 (si v 0 0) _ _ _ h hP hD hS (lv_sub hl [0, 1, 2] rfl)
theorem hd_X12_sign_ : yX12_sign_.cls = RX12 ∧ yX12_sign_.cls ≠ "java/lang/invoke/MethodHandle" ∧ yX12_sign_.cls ≠ "java/lang/invoke/VarHandle" ∧ (parseMethodDescriptor yX12_sign_.desc).map (fun d => d.parameters.length) = some 2 := ⟨rfl, by decide +kernel, by decide +kernel, by decide +kernel⟩
def f_X12_sign_ (N : Nat) (v : VV) (a1 : Int32) (a2 : Int32) : Option (Int32 × VV) :=
  bnd (f_X12_isSitting (si v 0 0) a1) (fun q1 => if q1 = 0 then some (0, si v 0 0) else if a2 < 0 then some (0, si v 0 0) else if (3 : Int32) < a2 then some (0, si v 0 0) else gin a1 69 (if v.2.1 42 a1.toNatClampNeg = a2 then some (0, si v 0 0) else bnd (f_X12_keepNow N (si v 0 0)) (fun q3 => gin a1 69 (some (1, sr q3 42 a1.toNatClampNeg a2)))))
set_option maxHeartbeats 4000000 in
set_option maxRecDepth 100000 in
theorem k_X12_sign_ (l : Launch) (G : va_G) (cy : Nat → ClassId) (ev : Nat → Nat) (N : Nat) (ad : Nat → Nat) (v : VV) (a1 : Int32) (a2 : Int32) (res : Int32 × VV) (h : f_X12_sign_ N v a1 a2 = some res) : MetI l yX12_sign_ cX12_sign_ 3 (some .boolean) 2 46 G cy ev [.ref (ad 0), .int a1, .int a2] (cX12 cy ad v) res.1 (cX12 cy ad res.2) := by
  refine MetQ.start (by decide +kernel) (Nat.le_of_ble_eq_true rfl) (fun p e s m args below meth c A ls hx hb hr hml hown hts hlocks hK hP hD hA hl hE => ?_)
  have hS : va_S A s.heap s.heap [] := va_S.rf
  have hown : s.vm.findClass RX12 = some m.cls := hown
  have hl : lv_has ls 3 [(0, .ref (ad 0)), (1, .int a1), (2, .int a2)] := hl
  delta f_X12_sign_ at h
  refine lv_aload_n hx hb dX12_sign__0 rfl (lv_at hl 0 rfl) ?_
  refine lv_iconst (v := 0) hx hb dX12_sign__1 (by decide) ?_
  refine pf_X12_0 hx hb hts hown hK hP hD hS dX12_sign__2 (fun H locs hP hD hS => ?_)
  refine lv_aload_n hx hb dX12_sign__5 rfl (lv_at hl 0 rfl) ?_
  refine lv_iload_n hx hb dX12_sign__6 rfl (lv_at hl 1 rfl) ?_
  replace h := bd h
  obtain ⟨q1, h2, h⟩ := h
  refine callVi0 (As := [.int a1]) (rest := []) hx hb hml hown hts (k_X12_isSitting l G cy ev ad (si v 0 0) a1 q1 h2) wm_28_12 wm_28_13 wm_28_14 wm_1_5 wm_28_15 hd_X12_isSitting ⟨by decide, by decide⟩ hK hP hD hS hA hE (va_recv hK hP (ci := 12) (q0 := 0) rfl rfl) rfl rfl hl.1 (Nat.le_of_ble_eq_true rfl) dX12_sign__7 (fun H locs hP hD hS => ?_)
  refine lv_if_eq (tgt := 32) hx hb dX12_sign__10 (by decide) (fun c9 => ?_) (fun c9 => ?_)
  · replace h := (br h).1 c9
    refine lv_iconst (v := 0) hx hb dX12_sign__32 (by decide) ?_
    exact retZ (fr := fun q => q.1) (fw := fun q => cX12 cy ad q.2) h hx hb hr narZ0 hlocks hK hP hD hS dX12_sign__33
  · replace h := (br h).2 c9
    refine lv_iload_n hx hb dX12_sign__13 rfl (lv_at hl 2 rfl) ?_
    refine lv_if_lt (tgt := 32) hx hb dX12_sign__14 (by decide) (fun c9 => ?_) (fun c9 => ?_)
    · replace h := (br h).1 c9
      refine lv_iconst (v := 0) hx hb dX12_sign__32 (by decide) ?_
      exact retZ (fr := fun q => q.1) (fw := fun q => cX12 cy ad q.2) h hx hb hr narZ0 hlocks hK hP hD hS dX12_sign__33
    · replace h := (br h).2 c9
      refine lv_iload_n hx hb dX12_sign__17 rfl (lv_at hl 2 rfl) ?_
      refine lv_iconst (v := 3) hx hb dX12_sign__18 (by decide) ?_
      refine lv_icmp_gt (tgt := 32) hx hb dX12_sign__19 (by decide) (fun c9 => ?_) (fun c9 => ?_)
      · replace h := (br h).1 c9
        refine lv_iconst (v := 0) hx hb dX12_sign__32 (by decide) ?_
        exact retZ (fr := fun q => q.1) (fw := fun q => cX12 cy ad q.2) h hx hb hr narZ0 hlocks hK hP hD hS dX12_sign__33
      · replace h := (br h).2 c9
        refine lv_aload_n hx hb dX12_sign__22 rfl (lv_at hl 0 rfl) ?_
        refine gf_X12_42 hx hb hts hown hK hP dX12_sign__23 ?_
        refine lv_iload_n hx hb dX12_sign__26 rfl (lv_at hl 1 rfl) ?_
        replace h := gin_inv h
        obtain ⟨h9, h⟩ := h
        refine ld_X12_42 (f := v.2.1 42) (j := a1.toNatClampNeg) hx hb hK hP rfl h9 rfl dX12_sign__27 ?_
        refine lv_iload_n hx hb dX12_sign__28 rfl (lv_at hl 2 rfl) ?_
        refine lv_icmp_ne (tgt := 34) hx hb dX12_sign__29 (by decide) (fun c9 => ?_) (fun c9 => ?_)
        · replace h := (br h).2 c9
          refine lv_aload_n hx hb dX12_sign__34 rfl (lv_at hl 0 rfl) ?_
          replace h := bd h
          obtain ⟨q3, h4, h⟩ := h
          refine callVv0 (As := []) (rest := []) hx hb hml hown hts (k_X12_keepNow l G cy ev N ad (si v 0 0) q3 h4) wm_32_10 wm_32_11 wm_32_12 wm_1_5 wm_32_13 hd_X12_keepNow ⟨by decide, by decide⟩ hK hP hD hS hA hE (va_recv hK hP (ci := 12) (q0 := 0) rfl rfl) rfl rfl hl.1 (Nat.le_of_ble_eq_true rfl) dX12_sign__35 (fun H locs hP hD hS => ?_)
          refine lv_aload_n hx hb dX12_sign__38 rfl (lv_at hl 0 rfl) ?_
          refine gf_X12_42 hx hb hts hown hK hP dX12_sign__39 ?_
          refine lv_iload_n hx hb dX12_sign__42 rfl (lv_at hl 1 rfl) ?_
          refine lv_iload_n hx hb dX12_sign__43 rfl (lv_at hl 2 rfl) ?_
          replace h := gin_inv h
          obtain ⟨h9, h⟩ := h
          refine st_X12_42 (j := a1.toNatClampNeg) hx hb hK hP hD hS h9 rfl dX12_sign__44 (fun H locs hP hD hS => ?_)
          refine lv_iconst (v := 1) hx hb dX12_sign__45 (by decide) ?_
          exact retZ (fr := fun q => q.1) (fw := fun q => cX12 cy ad q.2) h hx hb hr narZ1 hlocks hK hP hD hS dX12_sign__46
        · replace h := (br h).1 c9
          refine lv_iconst (v := 0) hx hb dX12_sign__32 (by decide) ?_
          exact retZ (fr := fun q => q.1) (fw := fun q => cX12 cy ad q.2) h hx hb hr narZ0 hlocks hK hP hD hS dX12_sign__33
theorem hd_X12_price : yX12_price.cls = RX12 ∧ yX12_price.cls ≠ "java/lang/invoke/MethodHandle" ∧ yX12_price.cls ≠ "java/lang/invoke/VarHandle" ∧ (parseMethodDescriptor yX12_price.desc).map (fun d => d.parameters.length) = some 2 := ⟨rfl, by decide +kernel, by decide +kernel, by decide +kernel⟩
def f_X12_price (N : Nat) (v : VV) (a1 : Int32) (a2 : Int32) : Option (Int32 × VV) :=
  bnd (f_X12_isSitting (si v 0 0) a1) (fun q1 => if q1 = 0 then some (0, si v 0 0) else if a2 < 0 then some (0, si v 0 0) else if (99 : Int32) < a2 then some (0, si v 0 0) else gin a1 69 (if v.2.1 43 a1.toNatClampNeg = a2 then some (0, si v 0 0) else bnd (f_X12_keepNow N (si v 0 0)) (fun q3 => gin a1 69 (some (1, sr q3 43 a1.toNatClampNeg a2)))))
set_option maxHeartbeats 4000000 in
set_option maxRecDepth 100000 in
theorem k_X12_price (l : Launch) (G : va_G) (cy : Nat → ClassId) (ev : Nat → Nat) (N : Nat) (ad : Nat → Nat) (v : VV) (a1 : Int32) (a2 : Int32) (res : Int32 × VV) (h : f_X12_price N v a1 a2 = some res) : MetI l yX12_price cX12_price 3 (some .boolean) 2 46 G cy ev [.ref (ad 0), .int a1, .int a2] (cX12 cy ad v) res.1 (cX12 cy ad res.2) := by
  refine MetQ.start (by decide +kernel) (Nat.le_of_ble_eq_true rfl) (fun p e s m args below meth c A ls hx hb hr hml hown hts hlocks hK hP hD hA hl hE => ?_)
  have hS : va_S A s.heap s.heap [] := va_S.rf
  have hown : s.vm.findClass RX12 = some m.cls := hown
  have hl : lv_has ls 3 [(0, .ref (ad 0)), (1, .int a1), (2, .int a2)] := hl
  delta f_X12_price at h
  refine lv_aload_n hx hb dX12_price_0 rfl (lv_at hl 0 rfl) ?_
  refine lv_iconst (v := 0) hx hb dX12_price_1 (by decide) ?_
  refine pf_X12_0 hx hb hts hown hK hP hD hS dX12_price_2 (fun H locs hP hD hS => ?_)
  refine lv_aload_n hx hb dX12_price_5 rfl (lv_at hl 0 rfl) ?_
  refine lv_iload_n hx hb dX12_price_6 rfl (lv_at hl 1 rfl) ?_
  replace h := bd h
  obtain ⟨q1, h2, h⟩ := h
  refine callVi0 (As := [.int a1]) (rest := []) hx hb hml hown hts (k_X12_isSitting l G cy ev ad (si v 0 0) a1 q1 h2) wm_28_12 wm_28_13 wm_28_14 wm_1_5 wm_28_15 hd_X12_isSitting ⟨by decide, by decide⟩ hK hP hD hS hA hE (va_recv hK hP (ci := 12) (q0 := 0) rfl rfl) rfl rfl hl.1 (Nat.le_of_ble_eq_true rfl) dX12_price_7 (fun H locs hP hD hS => ?_)
  refine lv_if_eq (tgt := 33) hx hb dX12_price_10 (by decide) (fun c9 => ?_) (fun c9 => ?_)
  · replace h := (br h).1 c9
    refine lv_iconst (v := 0) hx hb dX12_price_33 (by decide) ?_
    exact retZ (fr := fun q => q.1) (fw := fun q => cX12 cy ad q.2) h hx hb hr narZ0 hlocks hK hP hD hS dX12_price_34
  · replace h := (br h).2 c9
    refine lv_iload_n hx hb dX12_price_13 rfl (lv_at hl 2 rfl) ?_
    refine lv_if_lt (tgt := 33) hx hb dX12_price_14 (by decide) (fun c9 => ?_) (fun c9 => ?_)
    · replace h := (br h).1 c9
      refine lv_iconst (v := 0) hx hb dX12_price_33 (by decide) ?_
      exact retZ (fr := fun q => q.1) (fw := fun q => cX12 cy ad q.2) h hx hb hr narZ0 hlocks hK hP hD hS dX12_price_34
    · replace h := (br h).2 c9
      refine lv_iload_n hx hb dX12_price_17 rfl (lv_at hl 2 rfl) ?_
      refine lv_bipush (v := 99) hx hb dX12_price_18 (by decide) ?_
      refine lv_icmp_gt (tgt := 33) hx hb dX12_price_20 (by decide) (fun c9 => ?_) (fun c9 => ?_)
      · replace h := (br h).1 c9
        refine lv_iconst (v := 0) hx hb dX12_price_33 (by decide) ?_
        exact retZ (fr := fun q => q.1) (fw := fun q => cX12 cy ad q.2) h hx hb hr narZ0 hlocks hK hP hD hS dX12_price_34
      · replace h := (br h).2 c9
        refine lv_aload_n hx hb dX12_price_23 rfl (lv_at hl 0 rfl) ?_
        refine gf_X12_43 hx hb hts hown hK hP dX12_price_24 ?_
        refine lv_iload_n hx hb dX12_price_27 rfl (lv_at hl 1 rfl) ?_
        replace h := gin_inv h
        obtain ⟨h9, h⟩ := h
        refine ld_X12_43 (f := v.2.1 43) (j := a1.toNatClampNeg) hx hb hK hP rfl h9 rfl dX12_price_28 ?_
        refine lv_iload_n hx hb dX12_price_29 rfl (lv_at hl 2 rfl) ?_
        refine lv_icmp_ne (tgt := 35) hx hb dX12_price_30 (by decide) (fun c9 => ?_) (fun c9 => ?_)
        · replace h := (br h).2 c9
          refine lv_aload_n hx hb dX12_price_35 rfl (lv_at hl 0 rfl) ?_
          replace h := bd h
          obtain ⟨q3, h4, h⟩ := h
          refine callVv0 (As := []) (rest := []) hx hb hml hown hts (k_X12_keepNow l G cy ev N ad (si v 0 0) q3 h4) wm_32_10 wm_32_11 wm_32_12 wm_1_5 wm_32_13 hd_X12_keepNow ⟨by decide, by decide⟩ hK hP hD hS hA hE (va_recv hK hP (ci := 12) (q0 := 0) rfl rfl) rfl rfl hl.1 (Nat.le_of_ble_eq_true rfl) dX12_price_36 (fun H locs hP hD hS => ?_)
          refine lv_aload_n hx hb dX12_price_39 rfl (lv_at hl 0 rfl) ?_
          refine gf_X12_43 hx hb hts hown hK hP dX12_price_40 ?_
          refine lv_iload_n hx hb dX12_price_43 rfl (lv_at hl 1 rfl) ?_
          refine lv_iload_n hx hb dX12_price_44 rfl (lv_at hl 2 rfl) ?_
          replace h := gin_inv h
          obtain ⟨h9, h⟩ := h
          refine st_X12_43 (j := a1.toNatClampNeg) hx hb hK hP hD hS h9 rfl dX12_price_45 (fun H locs hP hD hS => ?_)
          refine lv_iconst (v := 1) hx hb dX12_price_46 (by decide) ?_
          exact retZ (fr := fun q => q.1) (fw := fun q => cX12 cy ad q.2) h hx hb hr narZ1 hlocks hK hP hD hS dX12_price_47
        · replace h := (br h).1 c9
          refine lv_iconst (v := 0) hx hb dX12_price_33 (by decide) ?_
          exact retZ (fr := fun q => q.1) (fw := fun q => cX12 cy ad q.2) h hx hb hr narZ0 hlocks hK hP hD hS dX12_price_34
theorem hd_X12_days : yX12_days.cls = RX12 ∧ yX12_days.cls ≠ "java/lang/invoke/MethodHandle" ∧ yX12_days.cls ≠ "java/lang/invoke/VarHandle" ∧ (parseMethodDescriptor yX12_days.desc).map (fun d => d.parameters.length) = some 1 := ⟨rfl, by decide +kernel, by decide +kernel, by decide +kernel⟩
def f_X12_days_s42 (N : Nat) (v : VV) (x1 : Int32) (x2 : Int32) : Option (((Int32 × VV) ⊕ (Int32 × VV))) :=
  if x1 ≤ x2 then inrO (some (v.2.1 32 0, v)) else bnd (f_X12_passes N v 0 1) (fun q4201 => some (.inl (x2 + 1, q4201)))
def f_X12_days_b40 (N : Nat) (v : VV) (x1 : Int32) : Option (Int32 × VV) :=
  itr (fun q : Int32 × VV => f_X12_days_s42 N q.2 x1 q.1) N (0, v)
def f_X12_days (N : Nat) (v : VV) (a1 : Int32) : Option (Int32 × VV) :=
  if a1 < 0 then some ((-1), si v 0 0) else if (99 : Int32) < a1 then some ((-1), si v 0 0) else if (v.2.1 32 0) + a1 ≤ 9999 then if a1 ≤ 0 then f_X12_days_b40 N (si v 0 0) a1 else f_X12_days_b40 N (si (si v 0 0) 49 0) a1 else some ((-1), si v 0 0)
set_option maxHeartbeats 4000000 in
set_option maxRecDepth 100000 in
theorem k_X12_days (l : Launch) (G : va_G) (cy : Nat → ClassId) (ev : Nat → Nat) (N : Nat) (ad : Nat → Nat) (v : VV) (a1 : Int32) (res : Int32 × VV) (h : f_X12_days N v a1 = some res) : MetI l yX12_days cX12_days 3 (some .int) 8 202 G cy ev [.ref (ad 0), .int a1] (cX12 cy ad v) res.1 (cX12 cy ad res.2) := by
  refine MetQ.start (by decide +kernel) (Nat.le_of_ble_eq_true rfl) (fun p e s m args below meth c A ls hx hb hr hml hown hts hlocks hK hP hD hA hl hE => ?_)
  have hS : va_S A s.heap s.heap [] := va_S.rf
  have hown : s.vm.findClass RX12 = some m.cls := hown
  have hl : lv_has ls 3 [(0, .ref (ad 0)), (1, .int a1)] := hl
  have L42 : ∀ (x1 : Int32) (n : Nat) (x2 : Int32) (v : VV) (H : Heap) (locs : List Loc) (ls : Array Slot), itr (fun q : Int32 × VV => f_X12_days_s42 N q.2 x1 q.1) n (x2, v) = some res → va_P G vwCl (cX12 cy ad v) H → va_D A (cX12 cy ad v) → va_S A s.heap H locs → lv_has ls 3 [(0, .ref (ad 0)), (1, .int x1), (2, .int x2)] → W p l e (rmX 8 202) s m args below meth c H locs 0 0 (MQ below (mQi (res.1) G cy A (cX12 cy ad res.2)) args s 0 0 A) (F0 m 42 ls []) := by
    intro x1 n
    induction n with
    | zero => intro x2 v H locs ls h; exact (itr_zero h).elim
    | succ n ih1 =>
      intro x2 v H locs ls h hP hD hS hl
      obtain ⟨y1, h, hy1⟩ := itr_inv h
      have h : f_X12_days_s42 N v x1 x2 = some y1 := h
      delta f_X12_days_s42 at h
      refine lv_iload_n hx hb dX12_days_42 rfl (lv_at hl 2 rfl) ?_
      refine lv_iload_n hx hb dX12_days_43 rfl (lv_at hl 1 rfl) ?_
      refine lv_icmp_ge (tgt := 59) hx hb dX12_days_44 (by decide) (fun c9 => ?_) (fun c9 => ?_)
      · replace h := (br h).1 c9
        replace h := itr_exit h hy1
        refine lv_aload_n hx hb dX12_days_59 rfl (lv_at hl 0 rfl) ?_
        refine gf_X12_32 hx hb hts hown hK hP dX12_days_60 ?_
        refine lv_iconst (v := 0) hx hb dX12_days_63 (by decide) ?_
        refine ld_X12_32 (f := v.2.1 32) (j := 0) hx hb hK hP rfl (vin_dec (by decide)) (by decide) dX12_days_64 ?_
        exact retI (fr := fun q => q.1) (fw := fun q => cX12 cy ad q.2) h hx hb hr hlocks hK hP hD hS dX12_days_65
      · replace h := (br h).2 c9
        refine lv_aload_n hx hb dX12_days_47 rfl (lv_at hl 0 rfl) ?_
        refine lv_iconst (v := 0) hx hb dX12_days_48 (by decide) ?_
        refine lv_iconst (v := 1) hx hb dX12_days_49 (by decide) ?_
        replace h := bd h
        obtain ⟨q4201, h4202, h⟩ := h
        refine callVv0 (As := [.int 0, .int 1]) (rest := []) hx hb hml hown hts (k_X12_passes l G cy ev N ad v 0 1 q4201 h4202) wm_35_12 wm_35_13 wm_35_14 wm_1_5 wm_35_15 hd_X12_passes ⟨by decide, by decide⟩ hK hP hD hS hA hE (va_recv hK hP (ci := 12) (q0 := 0) rfl rfl) rfl rfl hl.1 (Nat.le_of_ble_eq_true rfl) dX12_days_50 (fun H locs hP hD hS => ?_)
        refine lv_iinc (v := x2 + 1) (lv' := [(2, .int (x2 + 1)), (0, .ref (ad 0)), (1, .int x1)]) hx hb dX12_days_53 hl (k := 2) rfl rfl (by decide) rfl (fun ls hl => ?_)
        refine lv_goto (tgt := 42) hx hb dX12_days_56 (by decide) ?_
        replace h := itr_back h hy1
        exact ih1 (x2 + 1) q4201 _ _ _ h hP hD hS (lv_sub hl [1, 2, 0] rfl)
  have B40 : ∀ (x1 : Int32) (v : VV) (H : Heap) (locs : List Loc) (ls : Array Slot), f_X12_days_b40 N v x1 = some res → va_P G vwCl (cX12 cy ad v) H → va_D A (cX12 cy ad v) → va_S A s.heap H locs → lv_has ls 3 [(0, .ref (ad 0)), (1, .int x1)] → W p l e (rmX 8 202) s m args below meth c H locs 0 0 (MQ below (mQi (res.1) G cy A (cX12 cy ad res.2)) args s 0 0 A) (F0 m 40 ls []) := by
    intro x1 v H locs ls h hP hD hS hl
    delta f_X12_days_b40 at h
    refine lv_iconst (v := 0) hx hb dX12_days_40 (by decide) ?_
    refine lv_istore_n (lv' := [(2, .int 0), (0, .ref (ad 0)), (1, .int x1)]) hx hb dX12_days_41 rfl hl (by decide) rfl (fun ls hl => ?_)
    exact L42 x1 N 0 v _ _ _ h hP hD hS (lv_sub hl [1, 2, 0] rfl)
  delta f_X12_days at h
  refine lv_aload_n hx hb dX12_days_0 rfl (lv_at hl 0 rfl) ?_
  refine lv_iconst (v := 0) hx hb dX12_days_1 (by decide) ?_
  refine pf_X12_0 hx hb hts hown hK hP hD hS dX12_days_2 (fun H locs hP hD hS => ?_)
  refine lv_iload_n hx hb dX12_days_5 rfl (lv_at hl 1 rfl) ?_
  refine lv_if_lt (tgt := 29) hx hb dX12_days_6 (by decide) (fun c9 => ?_) (fun c9 => ?_)
  · replace h := (br h).1 c9
    refine lv_iconst (v := (-1)) hx hb dX12_days_29 (by decide) ?_
    exact retI (fr := fun q => q.1) (fw := fun q => cX12 cy ad q.2) h hx hb hr hlocks hK hP hD hS dX12_days_30
  · replace h := (br h).2 c9
    refine lv_iload_n hx hb dX12_days_9 rfl (lv_at hl 1 rfl) ?_
    refine lv_bipush (v := 99) hx hb dX12_days_10 (by decide) ?_
    refine lv_icmp_gt (tgt := 29) hx hb dX12_days_12 (by decide) (fun c9 => ?_) (fun c9 => ?_)
    · replace h := (br h).1 c9
      refine lv_iconst (v := (-1)) hx hb dX12_days_29 (by decide) ?_
      exact retI (fr := fun q => q.1) (fw := fun q => cX12 cy ad q.2) h hx hb hr hlocks hK hP hD hS dX12_days_30
    · replace h := (br h).2 c9
      refine lv_aload_n hx hb dX12_days_15 rfl (lv_at hl 0 rfl) ?_
      refine gf_X12_32 hx hb hts hown hK hP dX12_days_16 ?_
      refine lv_iconst (v := 0) hx hb dX12_days_19 (by decide) ?_
      refine ld_X12_32 (f := v.2.1 32) (j := 0) hx hb hK hP rfl (vin_dec (by decide)) (by decide) dX12_days_20 ?_
      refine lv_iload_n hx hb dX12_days_21 rfl (lv_at hl 1 rfl) ?_
      refine lv_iadd hx hb dX12_days_22 ?_
      refine lv_sipush (v := 9999) hx hb dX12_days_23 (by decide) ?_
      refine lv_icmp_le (tgt := 31) hx hb dX12_days_26 (by decide) (fun c9 => ?_) (fun c9 => ?_)
      · replace h := (br h).1 c9
        refine lv_iload_n hx hb dX12_days_31 rfl (lv_at hl 1 rfl) ?_
        refine lv_if_le (tgt := 40) hx hb dX12_days_32 (by decide) (fun c9 => ?_) (fun c9 => ?_)
        · replace h := (br h).1 c9
          exact B40 a1 (si v 0 0) _ _ _ h hP hD hS (lv_sub hl [0, 1] rfl)
        · replace h := (br h).2 c9
          refine lv_aload_n hx hb dX12_days_35 rfl (lv_at hl 0 rfl) ?_
          refine lv_iconst (v := 0) hx hb dX12_days_36 (by decide) ?_
          refine pf_X12_49 hx hb hts hown hK hP hD hS dX12_days_37 (fun H locs hP hD hS => ?_)
          exact B40 a1 (si (si v 0 0) 49 0) _ _ _ h hP hD hS (lv_sub hl [0, 1] rfl)
      · replace h := (br h).2 c9
        refine lv_iconst (v := (-1)) hx hb dX12_days_29 (by decide) ?_
        exact retI (fr := fun q => q.1) (fw := fun q => cX12 cy ad q.2) h hx hb hr hlocks hK hP hD hS dX12_days_30
theorem hd_X12_empties : yX12_empties.cls = RX12 ∧ yX12_empties.cls ≠ "java/lang/invoke/MethodHandle" ∧ yX12_empties.cls ≠ "java/lang/invoke/VarHandle" ∧ (parseMethodDescriptor yX12_empties.desc).map (fun d => d.parameters.length) = some 1 := ⟨rfl, by decide +kernel, by decide +kernel, by decide +kernel⟩
def f_X12_empties (N : Nat) (v : VV) (a1 : Int32) : Option (Int32 × VV) :=
  bnd (f_X12_isSitting (si v 0 0) a1) (fun q1 => if q1 = 0 then some ((-1), si v 0 0) else bnd (f_X12_today N (si v 0 0)) (fun q3 => gin (3 + a1) 69 (some ((q3.2.1 3 1) - (q3.2.1 45 ((3 + a1).toNatClampNeg)), q3))))
set_option maxHeartbeats 4000000 in
set_option maxRecDepth 100000 in
theorem k_X12_empties (l : Launch) (G : va_G) (cy : Nat → ClassId) (ev : Nat → Nat) (N : Nat) (ad : Nat → Nat) (v : VV) (a1 : Int32) (res : Int32 × VV) (h : f_X12_empties N v a1 = some res) : MetI l yX12_empties cX12_empties 2 (some .int) 9 222 G cy ev [.ref (ad 0), .int a1] (cX12 cy ad v) res.1 (cX12 cy ad res.2) := by
  refine MetQ.start (by decide +kernel) (Nat.le_of_ble_eq_true rfl) (fun p e s m args below meth c A ls hx hb hr hml hown hts hlocks hK hP hD hA hl hE => ?_)
  have hS : va_S A s.heap s.heap [] := va_S.rf
  have hown : s.vm.findClass RX12 = some m.cls := hown
  have hl : lv_has ls 2 [(0, .ref (ad 0)), (1, .int a1)] := hl
  delta f_X12_empties at h
  refine lv_aload_n hx hb dX12_empties_0 rfl (lv_at hl 0 rfl) ?_
  refine lv_iconst (v := 0) hx hb dX12_empties_1 (by decide) ?_
  refine pf_X12_0 hx hb hts hown hK hP hD hS dX12_empties_2 (fun H locs hP hD hS => ?_)
  refine lv_aload_n hx hb dX12_empties_5 rfl (lv_at hl 0 rfl) ?_
  refine lv_iload_n hx hb dX12_empties_6 rfl (lv_at hl 1 rfl) ?_
  replace h := bd h
  obtain ⟨q1, h2, h⟩ := h
  refine callVi0 (As := [.int a1]) (rest := []) hx hb hml hown hts (k_X12_isSitting l G cy ev ad (si v 0 0) a1 q1 h2) wm_28_12 wm_28_13 wm_28_14 wm_1_5 wm_28_15 hd_X12_isSitting ⟨by decide, by decide⟩ hK hP hD hS hA hE (va_recv hK hP (ci := 12) (q0 := 0) rfl rfl) rfl rfl hl.1 (Nat.le_of_ble_eq_true rfl) dX12_empties_7 (fun H locs hP hD hS => ?_)
  refine lv_if_ne (tgt := 15) hx hb dX12_empties_10 (by decide) (fun c9 => ?_) (fun c9 => ?_)
  · replace h := (br h).2 c9
    refine lv_aload_n hx hb dX12_empties_15 rfl (lv_at hl 0 rfl) ?_
    replace h := bd h
    obtain ⟨q3, h4, h⟩ := h
    refine callVv0 (As := []) (rest := []) hx hb hml hown hts (k_X12_today l G cy ev N ad (si v 0 0) q3 h4) wm_43_11 wm_43_12 wm_43_13 wm_1_5 wm_43_14 hd_X12_today ⟨by decide, by decide⟩ hK hP hD hS hA hE (va_recv hK hP (ci := 12) (q0 := 0) rfl rfl) rfl rfl hl.1 (Nat.le_of_ble_eq_true rfl) dX12_empties_16 (fun H locs hP hD hS => ?_)
    refine lv_aload_n hx hb dX12_empties_19 rfl (lv_at hl 0 rfl) ?_
    refine gf_X12_3 hx hb hts hown hK hP dX12_empties_20 ?_
    refine lv_iconst (v := 1) hx hb dX12_empties_23 (by decide) ?_
    refine ld_X12_3 (f := q3.2.1 3) (j := 1) hx hb hK hP rfl (vin_dec (by decide)) (by decide) dX12_empties_24 ?_
    refine lv_aload_n hx hb dX12_empties_25 rfl (lv_at hl 0 rfl) ?_
    refine gf_X12_45 hx hb hts hown hK hP dX12_empties_26 ?_
    refine lv_iconst (v := 3) hx hb dX12_empties_29 (by decide) ?_
    refine lv_iload_n hx hb dX12_empties_30 rfl (lv_at hl 1 rfl) ?_
    refine lv_iadd hx hb dX12_empties_31 ?_
    replace h := gin_inv h
    obtain ⟨h9, h⟩ := h
    refine ld_X12_45 (f := q3.2.1 45) (j := (3 + a1).toNatClampNeg) hx hb hK hP rfl h9 rfl dX12_empties_32 ?_
    refine lv_isub hx hb dX12_empties_33 ?_
    exact retI (fr := fun q => q.1) (fw := fun q => cX12 cy ad q.2) h hx hb hr hlocks hK hP hD hS dX12_empties_34
  · replace h := (br h).1 c9
    refine lv_iconst (v := (-1)) hx hb dX12_empties_13 (by decide) ?_
    exact retI (fr := fun q => q.1) (fw := fun q => cX12 cy ad q.2) h hx hb hr hlocks hK hP hD hS dX12_empties_14
theorem hd_X12_likes : yX12_likes.cls = RX12 ∧ yX12_likes.cls ≠ "java/lang/invoke/MethodHandle" ∧ yX12_likes.cls ≠ "java/lang/invoke/VarHandle" ∧ (parseMethodDescriptor yX12_likes.desc).map (fun d => d.parameters.length) = some 2 := ⟨rfl, by decide +kernel, by decide +kernel, by decide +kernel⟩
def f_X12_likes (N : Nat) (v : VV) (a1 : Int32) (a2 : Int32) : Option (Int32 × VV) :=
  bnd (f_X12_isParty (si v 0 0) a1) (fun q1 => if q1 = 0 then some ((-1), si v 0 0) else bnd (f_X12_isSitting (si v 0 0) a2) (fun q3 => if q3 = 0 then some ((-1), si v 0 0) else bnd (f_X12_likeOf N (si v 0 0) 0 a1 a2 0) (fun q5 => some (q5.1, q5.2))))
set_option maxHeartbeats 4000000 in
set_option maxRecDepth 100000 in
theorem k_X12_likes (l : Launch) (G : va_G) (cy : Nat → ClassId) (ev : Nat → Nat) (N : Nat) (ad : Nat → Nat) (v : VV) (a1 : Int32) (a2 : Int32) (res : Int32 × VV) (h : f_X12_likes N v a1 a2 = some res) : MetI l yX12_likes cX12_likes 3 (some .int) 5 120 G cy ev [.ref (ad 0), .int a1, .int a2] (cX12 cy ad v) res.1 (cX12 cy ad res.2) := by
  refine MetQ.start (by decide +kernel) (Nat.le_of_ble_eq_true rfl) (fun p e s m args below meth c A ls hx hb hr hml hown hts hlocks hK hP hD hA hl hE => ?_)
  have hS : va_S A s.heap s.heap [] := va_S.rf
  have hown : s.vm.findClass RX12 = some m.cls := hown
  have hl : lv_has ls 3 [(0, .ref (ad 0)), (1, .int a1), (2, .int a2)] := hl
  delta f_X12_likes at h
  refine lv_aload_n hx hb dX12_likes_0 rfl (lv_at hl 0 rfl) ?_
  refine lv_iconst (v := 0) hx hb dX12_likes_1 (by decide) ?_
  refine pf_X12_0 hx hb hts hown hK hP hD hS dX12_likes_2 (fun H locs hP hD hS => ?_)
  refine lv_aload_n hx hb dX12_likes_5 rfl (lv_at hl 0 rfl) ?_
  refine lv_iload_n hx hb dX12_likes_6 rfl (lv_at hl 1 rfl) ?_
  replace h := bd h
  obtain ⟨q1, h2, h⟩ := h
  refine callVi0 (As := [.int a1]) (rest := []) hx hb hml hown hts (k_X12_isParty l G cy ev ad (si v 0 0) a1 q1 h2) wm_26_23 wm_27_0 wm_27_1 wm_1_5 wm_27_2 hd_X12_isParty ⟨by decide, by decide⟩ hK hP hD hS hA hE (va_recv hK hP (ci := 12) (q0 := 0) rfl rfl) rfl rfl hl.1 (Nat.le_of_ble_eq_true rfl) dX12_likes_7 (fun H locs hP hD hS => ?_)
  refine lv_if_eq (tgt := 32) hx hb dX12_likes_10 (by decide) (fun c9 => ?_) (fun c9 => ?_)
  · replace h := (br h).1 c9
    refine lv_iconst (v := (-1)) hx hb dX12_likes_32 (by decide) ?_
    exact retI (fr := fun q => q.1) (fw := fun q => cX12 cy ad q.2) h hx hb hr hlocks hK hP hD hS dX12_likes_33
  · replace h := (br h).2 c9
    refine lv_aload_n hx hb dX12_likes_13 rfl (lv_at hl 0 rfl) ?_
    refine lv_iload_n hx hb dX12_likes_14 rfl (lv_at hl 2 rfl) ?_
    replace h := bd h
    obtain ⟨q3, h4, h⟩ := h
    refine callVi0 (As := [.int a2]) (rest := []) hx hb hml hown hts (k_X12_isSitting l G cy ev ad (si v 0 0) a2 q3 h4) wm_28_12 wm_28_13 wm_28_14 wm_1_5 wm_28_15 hd_X12_isSitting ⟨by decide, by decide⟩ hK hP hD hS hA hE (va_recv hK hP (ci := 12) (q0 := 0) rfl rfl) rfl rfl hl.1 (Nat.le_of_ble_eq_true rfl) dX12_likes_15 (fun H locs hP hD hS => ?_)
    refine lv_if_eq (tgt := 32) hx hb dX12_likes_18 (by decide) (fun c9 => ?_) (fun c9 => ?_)
    · replace h := (br h).1 c9
      refine lv_iconst (v := (-1)) hx hb dX12_likes_32 (by decide) ?_
      exact retI (fr := fun q => q.1) (fw := fun q => cX12 cy ad q.2) h hx hb hr hlocks hK hP hD hS dX12_likes_33
    · replace h := (br h).2 c9
      refine lv_aload_n hx hb dX12_likes_21 rfl (lv_at hl 0 rfl) ?_
      refine lv_iconst (v := 0) hx hb dX12_likes_22 (by decide) ?_
      refine lv_iload_n hx hb dX12_likes_23 rfl (lv_at hl 1 rfl) ?_
      refine lv_iload_n hx hb dX12_likes_24 rfl (lv_at hl 2 rfl) ?_
      refine lv_iconst (v := 0) hx hb dX12_likes_25 (by decide) ?_
      replace h := bd h
      obtain ⟨q5, h6, h⟩ := h
      refine callVi0 (As := [.int 0, .int a1, .int a2, .int 0]) (rest := []) hx hb hml hown hts (k_X12_likeOf l G cy ev N ad (si v 0 0) 0 a1 a2 0 q5 h6) wm_36_9 wm_36_10 wm_36_11 wm_1_5 wm_36_12 hd_X12_likeOf ⟨by decide, by decide⟩ hK hP hD hS hA hE (va_recv hK hP (ci := 12) (q0 := 0) rfl rfl) rfl rfl hl.1 (Nat.le_of_ble_eq_true rfl) dX12_likes_26 (fun H locs hP hD hS => ?_)
      refine lv_goto (tgt := 33) hx hb dX12_likes_29 (by decide) ?_
      exact retI (fr := fun q => q.1) (fw := fun q => cX12 cy ad q.2) h hx hb hr hlocks hK hP hD hS dX12_likes_33
theorem hd_X12_stays : yX12_stays.cls = RX12 ∧ yX12_stays.cls ≠ "java/lang/invoke/MethodHandle" ∧ yX12_stays.cls ≠ "java/lang/invoke/VarHandle" ∧ (parseMethodDescriptor yX12_stays.desc).map (fun d => d.parameters.length) = some 2 := ⟨rfl, by decide +kernel, by decide +kernel, by decide +kernel⟩
def f_X12_stays (N : Nat) (v : VV) (a1 : Int32) (a2 : Int32) : Option (Int32 × VV) :=
  bnd (f_X12_isParty (si v 0 0) a1) (fun q1 => if q1 = 0 then some ((-1), si v 0 0) else bnd (f_X12_isSitting (si v 0 0) a2) (fun q3 => if q3 = 0 then some ((-1), si v 0 0) else bnd (f_X12_stayOf N (si v 0 0) 0 a1 a2 0) (fun q5 => some (q5.1, q5.2))))
set_option maxHeartbeats 4000000 in
set_option maxRecDepth 100000 in
theorem k_X12_stays (l : Launch) (G : va_G) (cy : Nat → ClassId) (ev : Nat → Nat) (N : Nat) (ad : Nat → Nat) (v : VV) (a1 : Int32) (a2 : Int32) (res : Int32 × VV) (h : f_X12_stays N v a1 a2 = some res) : MetI l yX12_stays cX12_stays 3 (some .int) 5 120 G cy ev [.ref (ad 0), .int a1, .int a2] (cX12 cy ad v) res.1 (cX12 cy ad res.2) := by
  refine MetQ.start (by decide +kernel) (Nat.le_of_ble_eq_true rfl) (fun p e s m args below meth c A ls hx hb hr hml hown hts hlocks hK hP hD hA hl hE => ?_)
  have hS : va_S A s.heap s.heap [] := va_S.rf
  have hown : s.vm.findClass RX12 = some m.cls := hown
  have hl : lv_has ls 3 [(0, .ref (ad 0)), (1, .int a1), (2, .int a2)] := hl
  delta f_X12_stays at h
  refine lv_aload_n hx hb dX12_stays_0 rfl (lv_at hl 0 rfl) ?_
  refine lv_iconst (v := 0) hx hb dX12_stays_1 (by decide) ?_
  refine pf_X12_0 hx hb hts hown hK hP hD hS dX12_stays_2 (fun H locs hP hD hS => ?_)
  refine lv_aload_n hx hb dX12_stays_5 rfl (lv_at hl 0 rfl) ?_
  refine lv_iload_n hx hb dX12_stays_6 rfl (lv_at hl 1 rfl) ?_
  replace h := bd h
  obtain ⟨q1, h2, h⟩ := h
  refine callVi0 (As := [.int a1]) (rest := []) hx hb hml hown hts (k_X12_isParty l G cy ev ad (si v 0 0) a1 q1 h2) wm_26_23 wm_27_0 wm_27_1 wm_1_5 wm_27_2 hd_X12_isParty ⟨by decide, by decide⟩ hK hP hD hS hA hE (va_recv hK hP (ci := 12) (q0 := 0) rfl rfl) rfl rfl hl.1 (Nat.le_of_ble_eq_true rfl) dX12_stays_7 (fun H locs hP hD hS => ?_)
  refine lv_if_eq (tgt := 32) hx hb dX12_stays_10 (by decide) (fun c9 => ?_) (fun c9 => ?_)
  · replace h := (br h).1 c9
    refine lv_iconst (v := (-1)) hx hb dX12_stays_32 (by decide) ?_
    exact retI (fr := fun q => q.1) (fw := fun q => cX12 cy ad q.2) h hx hb hr hlocks hK hP hD hS dX12_stays_33
  · replace h := (br h).2 c9
    refine lv_aload_n hx hb dX12_stays_13 rfl (lv_at hl 0 rfl) ?_
    refine lv_iload_n hx hb dX12_stays_14 rfl (lv_at hl 2 rfl) ?_
    replace h := bd h
    obtain ⟨q3, h4, h⟩ := h
    refine callVi0 (As := [.int a2]) (rest := []) hx hb hml hown hts (k_X12_isSitting l G cy ev ad (si v 0 0) a2 q3 h4) wm_28_12 wm_28_13 wm_28_14 wm_1_5 wm_28_15 hd_X12_isSitting ⟨by decide, by decide⟩ hK hP hD hS hA hE (va_recv hK hP (ci := 12) (q0 := 0) rfl rfl) rfl rfl hl.1 (Nat.le_of_ble_eq_true rfl) dX12_stays_15 (fun H locs hP hD hS => ?_)
    refine lv_if_eq (tgt := 32) hx hb dX12_stays_18 (by decide) (fun c9 => ?_) (fun c9 => ?_)
    · replace h := (br h).1 c9
      refine lv_iconst (v := (-1)) hx hb dX12_stays_32 (by decide) ?_
      exact retI (fr := fun q => q.1) (fw := fun q => cX12 cy ad q.2) h hx hb hr hlocks hK hP hD hS dX12_stays_33
    · replace h := (br h).2 c9
      refine lv_aload_n hx hb dX12_stays_21 rfl (lv_at hl 0 rfl) ?_
      refine lv_iconst (v := 0) hx hb dX12_stays_22 (by decide) ?_
      refine lv_iload_n hx hb dX12_stays_23 rfl (lv_at hl 1 rfl) ?_
      refine lv_iload_n hx hb dX12_stays_24 rfl (lv_at hl 2 rfl) ?_
      refine lv_iconst (v := 0) hx hb dX12_stays_25 (by decide) ?_
      replace h := bd h
      obtain ⟨q5, h6, h⟩ := h
      refine callVi0 (As := [.int 0, .int a1, .int a2, .int 0]) (rest := []) hx hb hml hown hts (k_X12_stayOf l G cy ev N ad (si v 0 0) 0 a1 a2 0 q5 h6) wm_36_19 wm_36_20 wm_36_21 wm_1_5 wm_36_22 hd_X12_stayOf ⟨by decide, by decide⟩ hK hP hD hS hA hE (va_recv hK hP (ci := 12) (q0 := 0) rfl rfl) rfl rfl hl.1 (Nat.le_of_ble_eq_true rfl) dX12_stays_26 (fun H locs hP hD hS => ?_)
      refine lv_goto (tgt := 33) hx hb dX12_stays_29 (by decide) ?_
      exact retI (fr := fun q => q.1) (fw := fun q => cX12 cy ad q.2) h hx hb hr hlocks hK hP hD hS dX12_stays_33
theorem hd_X12_misses : yX12_misses.cls = RX12 ∧ yX12_misses.cls ≠ "java/lang/invoke/MethodHandle" ∧ yX12_misses.cls ≠ "java/lang/invoke/VarHandle" ∧ (parseMethodDescriptor yX12_misses.desc).map (fun d => d.parameters.length) = some 2 := ⟨rfl, by decide +kernel, by decide +kernel, by decide +kernel⟩
def f_X12_misses (N : Nat) (v : VV) (a1 : Int32) (a2 : Int32) : Option (Int32 × VV) :=
  bnd (f_X12_isParty (si v 0 0) a1) (fun q1 => if q1 = 0 then some ((-1), si v 0 0) else bnd (f_X12_isSitting (si v 0 0) a2) (fun q3 => if q3 = 0 then some ((-1), si v 0 0) else bnd (f_X12_missOf N (si v 0 0) 0 a1 a2 0) (fun q5 => some (q5.1, q5.2))))
set_option maxHeartbeats 4000000 in
set_option maxRecDepth 100000 in
theorem k_X12_misses (l : Launch) (G : va_G) (cy : Nat → ClassId) (ev : Nat → Nat) (N : Nat) (ad : Nat → Nat) (v : VV) (a1 : Int32) (a2 : Int32) (res : Int32 × VV) (h : f_X12_misses N v a1 a2 = some res) : MetI l yX12_misses cX12_misses 3 (some .int) 5 120 G cy ev [.ref (ad 0), .int a1, .int a2] (cX12 cy ad v) res.1 (cX12 cy ad res.2) := by
  refine MetQ.start (by decide +kernel) (Nat.le_of_ble_eq_true rfl) (fun p e s m args below meth c A ls hx hb hr hml hown hts hlocks hK hP hD hA hl hE => ?_)
  have hS : va_S A s.heap s.heap [] := va_S.rf
  have hown : s.vm.findClass RX12 = some m.cls := hown
  have hl : lv_has ls 3 [(0, .ref (ad 0)), (1, .int a1), (2, .int a2)] := hl
  delta f_X12_misses at h
  refine lv_aload_n hx hb dX12_misses_0 rfl (lv_at hl 0 rfl) ?_
  refine lv_iconst (v := 0) hx hb dX12_misses_1 (by decide) ?_
  refine pf_X12_0 hx hb hts hown hK hP hD hS dX12_misses_2 (fun H locs hP hD hS => ?_)
  refine lv_aload_n hx hb dX12_misses_5 rfl (lv_at hl 0 rfl) ?_
  refine lv_iload_n hx hb dX12_misses_6 rfl (lv_at hl 1 rfl) ?_
  replace h := bd h
  obtain ⟨q1, h2, h⟩ := h
  refine callVi0 (As := [.int a1]) (rest := []) hx hb hml hown hts (k_X12_isParty l G cy ev ad (si v 0 0) a1 q1 h2) wm_26_23 wm_27_0 wm_27_1 wm_1_5 wm_27_2 hd_X12_isParty ⟨by decide, by decide⟩ hK hP hD hS hA hE (va_recv hK hP (ci := 12) (q0 := 0) rfl rfl) rfl rfl hl.1 (Nat.le_of_ble_eq_true rfl) dX12_misses_7 (fun H locs hP hD hS => ?_)
  refine lv_if_eq (tgt := 32) hx hb dX12_misses_10 (by decide) (fun c9 => ?_) (fun c9 => ?_)
  · replace h := (br h).1 c9
    refine lv_iconst (v := (-1)) hx hb dX12_misses_32 (by decide) ?_
    exact retI (fr := fun q => q.1) (fw := fun q => cX12 cy ad q.2) h hx hb hr hlocks hK hP hD hS dX12_misses_33
  · replace h := (br h).2 c9
    refine lv_aload_n hx hb dX12_misses_13 rfl (lv_at hl 0 rfl) ?_
    refine lv_iload_n hx hb dX12_misses_14 rfl (lv_at hl 2 rfl) ?_
    replace h := bd h
    obtain ⟨q3, h4, h⟩ := h
    refine callVi0 (As := [.int a2]) (rest := []) hx hb hml hown hts (k_X12_isSitting l G cy ev ad (si v 0 0) a2 q3 h4) wm_28_12 wm_28_13 wm_28_14 wm_1_5 wm_28_15 hd_X12_isSitting ⟨by decide, by decide⟩ hK hP hD hS hA hE (va_recv hK hP (ci := 12) (q0 := 0) rfl rfl) rfl rfl hl.1 (Nat.le_of_ble_eq_true rfl) dX12_misses_15 (fun H locs hP hD hS => ?_)
    refine lv_if_eq (tgt := 32) hx hb dX12_misses_18 (by decide) (fun c9 => ?_) (fun c9 => ?_)
    · replace h := (br h).1 c9
      refine lv_iconst (v := (-1)) hx hb dX12_misses_32 (by decide) ?_
      exact retI (fr := fun q => q.1) (fw := fun q => cX12 cy ad q.2) h hx hb hr hlocks hK hP hD hS dX12_misses_33
    · replace h := (br h).2 c9
      refine lv_aload_n hx hb dX12_misses_21 rfl (lv_at hl 0 rfl) ?_
      refine lv_iconst (v := 0) hx hb dX12_misses_22 (by decide) ?_
      refine lv_iload_n hx hb dX12_misses_23 rfl (lv_at hl 1 rfl) ?_
      refine lv_iload_n hx hb dX12_misses_24 rfl (lv_at hl 2 rfl) ?_
      refine lv_iconst (v := 0) hx hb dX12_misses_25 (by decide) ?_
      replace h := bd h
      obtain ⟨q5, h6, h⟩ := h
      refine callVi0 (As := [.int 0, .int a1, .int a2, .int 0]) (rest := []) hx hb hml hown hts (k_X12_missOf l G cy ev N ad (si v 0 0) 0 a1 a2 0 q5 h6) wm_36_23 wm_37_0 wm_37_1 wm_1_5 wm_37_2 hd_X12_missOf ⟨by decide, by decide⟩ hK hP hD hS hA hE (va_recv hK hP (ci := 12) (q0 := 0) rfl rfl) rfl rfl hl.1 (Nat.le_of_ble_eq_true rfl) dX12_misses_26 (fun H locs hP hD hS => ?_)
      refine lv_goto (tgt := 33) hx hb dX12_misses_29 (by decide) ?_
      exact retI (fr := fun q => q.1) (fw := fun q => cX12 cy ad q.2) h hx hb hr hlocks hK hP hD hS dX12_misses_33
theorem hd_X12_mostCross : yX12_mostCross.cls = RX12 ∧ yX12_mostCross.cls ≠ "java/lang/invoke/MethodHandle" ∧ yX12_mostCross.cls ≠ "java/lang/invoke/VarHandle" ∧ (parseMethodDescriptor yX12_mostCross.desc).map (fun d => d.parameters.length) = some 1 := ⟨rfl, by decide +kernel, by decide +kernel, by decide +kernel⟩
def f_X12_mostCross_b56 (N : Nat) (v : VV) (x1 : Int32) (x2 : Int32) (x3 : Int32) : Option (((Int32 × Int32 × VV) ⊕ (Int32 × VV))) :=
  some (.inl (x2, x3 + 1, v))
def f_X12_mostCross_s29 (N : Nat) (v : VV) (x1 : Int32) (x2 : Int32) (x3 : Int32) : Option (((Int32 × Int32 × VV) ⊕ (Int32 × VV))) :=
  if v.2.1 3 0 ≤ x3 then inrO (if x1 = 0 then some (x2, v) else gin x2 184 (some (v.2.1 39 x2.toNatClampNeg, v))) else gin x3 184 (gin x2 184 (if v.2.1 39 x3.toNatClampNeg ≤ v.2.1 39 x2.toNatClampNeg then f_X12_mostCross_b56 N v x1 x2 x3 else f_X12_mostCross_b56 N v x1 x3 x3))
def f_X12_mostCross (N : Nat) (v : VV) (a1 : Int32) : Option (Int32 × VV) :=
  if a1 < 0 then some ((-1), si v 0 0) else if (1 : Int32) < a1 then some ((-1), si v 0 0) else if v.2.1 3 0 = 0 then some ((-1), si v 0 0) else itr (fun q : Int32 × Int32 × VV => f_X12_mostCross_s29 N q.2.2 a1 q.1 q.2.1) N (0, 1, si v 0 0)
set_option maxHeartbeats 4000000 in
set_option maxRecDepth 100000 in
theorem k_X12_mostCross (l : Launch) (G : va_G) (cy : Nat → ClassId) (ev : Nat → Nat) (N : Nat) (ad : Nat → Nat) (v : VV) (a1 : Int32) (res : Int32 × VV) (h : f_X12_mostCross N v a1 = some res) : MetI l yX12_mostCross cX12_mostCross 4 (some .int) 0 0 G cy ev [.ref (ad 0), .int a1] (cX12 cy ad v) res.1 (cX12 cy ad res.2) := by
  refine MetQ.start (by decide +kernel) (Nat.le_of_ble_eq_true rfl) (fun p e s m args below meth c A ls hx hb hr hml hown hts hlocks hK hP hD hA hl hE => ?_)
  have hS : va_S A s.heap s.heap [] := va_S.rf
  have hown : s.vm.findClass RX12 = some m.cls := hown
  have hl : lv_has ls 4 [(0, .ref (ad 0)), (1, .int a1)] := hl
  have L29 : ∀ (x1 : Int32) (n : Nat) (x2 : Int32) (x3 : Int32) (v : VV) (H : Heap) (locs : List Loc) (ls : Array Slot), itr (fun q : Int32 × Int32 × VV => f_X12_mostCross_s29 N q.2.2 x1 q.1 q.2.1) n (x2, x3, v) = some res → va_P G vwCl (cX12 cy ad v) H → va_D A (cX12 cy ad v) → va_S A s.heap H locs → lv_has ls 4 [(0, .ref (ad 0)), (1, .int x1), (2, .int x2), (3, .int x3)] → W p l e (rmX 0 0) s m args below meth c H locs 0 0 (MQ below (mQi (res.1) G cy A (cX12 cy ad res.2)) args s 0 0 A) (F0 m 29 ls []) := by
    intro x1 n
    induction n with
    | zero => intro x2 x3 v H locs ls h; exact (itr_zero h).elim
    | succ n ih1 =>
      intro x2 x3 v H locs ls h hP hD hS hl
      obtain ⟨y1, h, hy1⟩ := itr_inv h
      have h : f_X12_mostCross_s29 N v x1 x2 x3 = some y1 := h
      have B56 : ∀ (x2 : Int32) (x3 : Int32) (v : VV) (H : Heap) (locs : List Loc) (ls : Array Slot), f_X12_mostCross_b56 N v x1 x2 x3 = some y1 → va_P G vwCl (cX12 cy ad v) H → va_D A (cX12 cy ad v) → va_S A s.heap H locs → lv_has ls 4 [(0, .ref (ad 0)), (1, .int x1), (2, .int x2), (3, .int x3)] → W p l e (rmX 0 0) s m args below meth c H locs 0 0 (MQ below (mQi (res.1) G cy A (cX12 cy ad res.2)) args s 0 0 A) (F0 m 56 ls []) := by
        intro x2 x3 v H locs ls h hP hD hS hl
        delta f_X12_mostCross_b56 at h
        refine lv_iinc (v := x3 + 1) (lv' := [(3, .int (x3 + 1)), (0, .ref (ad 0)), (1, .int x1), (2, .int x2)]) hx hb dX12_mostCross_56 hl (k := 3) rfl rfl (by decide) rfl (fun ls hl => ?_)
        refine lv_goto (tgt := 29) hx hb dX12_mostCross_59 (by decide) ?_
        replace h := itr_back h hy1
        exact ih1 x2 (x3 + 1) v _ _ _ h hP hD hS (lv_sub hl [1, 2, 3, 0] rfl)
      delta f_X12_mostCross_s29 at h
      refine lv_iload_n hx hb dX12_mostCross_29 rfl (lv_at hl 3 rfl) ?_
      refine lv_aload_n hx hb dX12_mostCross_30 rfl (lv_at hl 0 rfl) ?_
      refine gf_X12_3 hx hb hts hown hK hP dX12_mostCross_31 ?_
      refine lv_iconst (v := 0) hx hb dX12_mostCross_34 (by decide) ?_
      refine ld_X12_3 (f := v.2.1 3) (j := 0) hx hb hK hP rfl (vin_dec (by decide)) (by decide) dX12_mostCross_35 ?_
      refine lv_icmp_ge (tgt := 62) hx hb dX12_mostCross_36 (by decide) (fun c9 => ?_) (fun c9 => ?_)
      · replace h := (br h).1 c9
        replace h := itr_exit h hy1
        refine lv_iload_n hx hb dX12_mostCross_62 rfl (lv_at hl 1 rfl) ?_
        refine lv_if_ne (tgt := 70) hx hb dX12_mostCross_63 (by decide) (fun c9 => ?_) (fun c9 => ?_)
        · replace h := (br h).2 c9
          refine lv_aload_n hx hb dX12_mostCross_70 rfl (lv_at hl 0 rfl) ?_
          refine gf_X12_39 hx hb hts hown hK hP dX12_mostCross_71 ?_
          refine lv_iload_n hx hb dX12_mostCross_74 rfl (lv_at hl 2 rfl) ?_
          replace h := gin_inv h
          obtain ⟨h9, h⟩ := h
          refine ld_X12_39 (f := v.2.1 39) (j := x2.toNatClampNeg) hx hb hK hP rfl h9 rfl dX12_mostCross_75 ?_
          exact retI (fr := fun q => q.1) (fw := fun q => cX12 cy ad q.2) h hx hb hr hlocks hK hP hD hS dX12_mostCross_76
        · replace h := (br h).1 c9
          refine lv_iload_n hx hb dX12_mostCross_66 rfl (lv_at hl 2 rfl) ?_
          refine lv_goto (tgt := 76) hx hb dX12_mostCross_67 (by decide) ?_
          exact retI (fr := fun q => q.1) (fw := fun q => cX12 cy ad q.2) h hx hb hr hlocks hK hP hD hS dX12_mostCross_76
      · replace h := (br h).2 c9
        refine lv_aload_n hx hb dX12_mostCross_39 rfl (lv_at hl 0 rfl) ?_
        refine gf_X12_39 hx hb hts hown hK hP dX12_mostCross_40 ?_
        refine lv_iload_n hx hb dX12_mostCross_43 rfl (lv_at hl 3 rfl) ?_
        replace h := gin_inv h
        obtain ⟨h9, h⟩ := h
        refine ld_X12_39 (f := v.2.1 39) (j := x3.toNatClampNeg) hx hb hK hP rfl h9 rfl dX12_mostCross_44 ?_
        refine lv_aload_n hx hb dX12_mostCross_45 rfl (lv_at hl 0 rfl) ?_
        refine gf_X12_39 hx hb hts hown hK hP dX12_mostCross_46 ?_
        refine lv_iload_n hx hb dX12_mostCross_49 rfl (lv_at hl 2 rfl) ?_
        replace h := gin_inv h
        obtain ⟨h9, h⟩ := h
        refine ld_X12_39 (f := v.2.1 39) (j := x2.toNatClampNeg) hx hb hK hP rfl h9 rfl dX12_mostCross_50 ?_
        refine lv_icmp_le (tgt := 56) hx hb dX12_mostCross_51 (by decide) (fun c9 => ?_) (fun c9 => ?_)
        · replace h := (br h).1 c9
          exact B56 x2 x3 v _ _ _ h hP hD hS (lv_sub hl [0, 1, 2, 3] rfl)
        · replace h := (br h).2 c9
          refine lv_iload_n hx hb dX12_mostCross_54 rfl (lv_at hl 3 rfl) ?_
          refine lv_istore_n (lv' := [(2, .int x3), (0, .ref (ad 0)), (1, .int x1), (3, .int x3)]) hx hb dX12_mostCross_55 rfl hl (by decide) rfl (fun ls hl => ?_)
          exact B56 x3 x3 v _ _ _ h hP hD hS (lv_sub hl [1, 2, 0, 3] rfl)
  delta f_X12_mostCross at h
  refine lv_aload_n hx hb dX12_mostCross_0 rfl (lv_at hl 0 rfl) ?_
  refine lv_iconst (v := 0) hx hb dX12_mostCross_1 (by decide) ?_
  refine pf_X12_0 hx hb hts hown hK hP hD hS dX12_mostCross_2 (fun H locs hP hD hS => ?_)
  refine lv_iload_n hx hb dX12_mostCross_5 rfl (lv_at hl 1 rfl) ?_
  refine lv_if_lt (tgt := 23) hx hb dX12_mostCross_6 (by decide) (fun c9 => ?_) (fun c9 => ?_)
  · replace h := (br h).1 c9
    refine lv_iconst (v := (-1)) hx hb dX12_mostCross_23 (by decide) ?_
    exact retI (fr := fun q => q.1) (fw := fun q => cX12 cy ad q.2) h hx hb hr hlocks hK hP hD hS dX12_mostCross_24
  · replace h := (br h).2 c9
    refine lv_iload_n hx hb dX12_mostCross_9 rfl (lv_at hl 1 rfl) ?_
    refine lv_iconst (v := 1) hx hb dX12_mostCross_10 (by decide) ?_
    refine lv_icmp_gt (tgt := 23) hx hb dX12_mostCross_11 (by decide) (fun c9 => ?_) (fun c9 => ?_)
    · replace h := (br h).1 c9
      refine lv_iconst (v := (-1)) hx hb dX12_mostCross_23 (by decide) ?_
      exact retI (fr := fun q => q.1) (fw := fun q => cX12 cy ad q.2) h hx hb hr hlocks hK hP hD hS dX12_mostCross_24
    · replace h := (br h).2 c9
      refine lv_aload_n hx hb dX12_mostCross_14 rfl (lv_at hl 0 rfl) ?_
      refine gf_X12_3 hx hb hts hown hK hP dX12_mostCross_15 ?_
      refine lv_iconst (v := 0) hx hb dX12_mostCross_18 (by decide) ?_
      refine ld_X12_3 (f := v.2.1 3) (j := 0) hx hb hK hP rfl (vin_dec (by decide)) (by decide) dX12_mostCross_19 ?_
      refine lv_if_ne (tgt := 25) hx hb dX12_mostCross_20 (by decide) (fun c9 => ?_) (fun c9 => ?_)
      · replace h := (br h).2 c9
        refine lv_iconst (v := 0) hx hb dX12_mostCross_25 (by decide) ?_
        refine lv_istore_n (lv' := [(2, .int 0), (0, .ref (ad 0)), (1, .int a1)]) hx hb dX12_mostCross_26 rfl hl (by decide) rfl (fun ls hl => ?_)
        refine lv_iconst (v := 1) hx hb dX12_mostCross_27 (by decide) ?_
        refine lv_istore_n (lv' := [(3, .int 1), (2, .int 0), (0, .ref (ad 0)), (1, .int a1)]) hx hb dX12_mostCross_28 rfl hl (by decide) rfl (fun ls hl => ?_)
        exact L29 a1 N 0 1 (si v 0 0) _ _ _ h hP hD hS (lv_sub hl [2, 3, 1, 0] rfl)
      · replace h := (br h).1 c9
        refine lv_iconst (v := (-1)) hx hb dX12_mostCross_23 (by decide) ?_
        exact retI (fr := fun q => q.1) (fw := fun q => cX12 cy ad q.2) h hx hb hr hlocks hK hP hD hS dX12_mostCross_24
theorem hd_X12_without : yX12_without.cls = RX12 ∧ yX12_without.cls ≠ "java/lang/invoke/MethodHandle" ∧ yX12_without.cls ≠ "java/lang/invoke/VarHandle" ∧ (parseMethodDescriptor yX12_without.desc).map (fun d => d.parameters.length) = some 0 := ⟨rfl, by decide +kernel, by decide +kernel, by decide +kernel⟩
def f_X12_without (N : Nat) (v : VV) : Option (Int32 × VV) :=
  bnd (f_X12_withTicket N (si v 0 0) ((-1))) (fun q1 => some (q1, si v 0 0))
set_option maxHeartbeats 4000000 in
set_option maxRecDepth 100000 in
theorem k_X12_without (l : Launch) (G : va_G) (cy : Nat → ClassId) (ev : Nat → Nat) (N : Nat) (ad : Nat → Nat) (v : VV)  (res : Int32 × VV) (h : f_X12_without N v = some res) : MetI l yX12_without cX12_without 1 (some .int) 1 23 G cy ev [.ref (ad 0)] (cX12 cy ad v) res.1 (cX12 cy ad res.2) := by
  refine MetQ.start (by decide +kernel) (Nat.le_of_ble_eq_true rfl) (fun p e s m args below meth c A ls hx hb hr hml hown hts hlocks hK hP hD hA hl hE => ?_)
  have hS : va_S A s.heap s.heap [] := va_S.rf
  have hown : s.vm.findClass RX12 = some m.cls := hown
  have hl : lv_has ls 1 [(0, .ref (ad 0))] := hl
  delta f_X12_without at h
  refine lv_aload_n hx hb dX12_without_0 rfl (lv_at hl 0 rfl) ?_
  refine lv_iconst (v := 0) hx hb dX12_without_1 (by decide) ?_
  refine pf_X12_0 hx hb hts hown hK hP hD hS dX12_without_2 (fun H locs hP hD hS => ?_)
  refine lv_aload_n hx hb dX12_without_5 rfl (lv_at hl 0 rfl) ?_
  refine lv_iconst (v := (-1)) hx hb dX12_without_6 (by decide) ?_
  replace h := bd h
  obtain ⟨q1, h2, h⟩ := h
  refine callVi0 (As := [.int ((-1))]) (rest := []) hx hb hml hown hts (k_X12_withTicket l G cy ev N ad (si v 0 0) ((-1)) q1 h2) wm_28_16 wm_28_17 wm_28_18 wm_1_5 wm_28_19 hd_X12_withTicket ⟨by decide, by decide⟩ hK hP hD hS hA hE (va_recv hK hP (ci := 12) (q0 := 0) rfl rfl) rfl rfl hl.1 (Nat.le_of_ble_eq_true rfl) dX12_without_7 (fun H locs hP hD hS => ?_)
  exact retI (fr := fun q => q.1) (fw := fun q => cX12 cy ad q.2) h hx hb hr hlocks hK hP hD hS dX12_without_10
