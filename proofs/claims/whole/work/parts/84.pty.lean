def nmP : List String := ["java/lang/RuntimeException", "java/lang/Exception"]
def atI : List Cond := vx_atS RX11 149 "java/lang/IndexOutOfBoundsException" nmP
def atN : List Cond := ns_ws.filter vx_no
/-- the words of a method that may throw -/
def WP : List Cond := WL ++ (atI.filter goodWord ++ atN.filter goodWord)
def fW : List Cond := atI.filter (fun w => !goodWord w) ++ atN.filter (fun w => !goodWord w)
/-- .. and what else is to be known -/
def PX (U : State) : Prop := (∀ w ∈ fW, ∀ a, w.before a U = true) ∧ va_Nc "java/util/NoSuchElementException" "java/lang/IndexOutOfBoundsException" U
theorem fW_face : fW.all (fun w => w.faceAtom && w.onTables) = true := by decide +kernel
theorem PX.alike {s U : State} (h : PX s) (ha : s.vm.Alike U.vm) : PX U := by
  refine ⟨fun w hw a => ?_, va_Nc.moved ha h.2⟩
  have q := List.all_eq_true.mp fW_face w hw
  simp only [Bool.and_eq_true] at q
  exact va_tabs (u := s.setVm U.vm) q.2 rfl (Cond.faceAtom_setVm ha w q.1 (h.1 w hw a))
theorem wp_good : ∀ w ∈ WP, ((w.onTables && w.keeps) = true ∨ ∃ ty, w = .arrayClass ty) := fun w h => by
  rcases List.mem_append.mp h with h | h
  · exact wl_good w h
  · rcases List.mem_append.mp h with h | h
    · exact good_of_word (List.mem_filter.mp h).2
    · exact good_of_word (List.mem_filter.mp h).2
theorem wp_L {w : Cond} (h : w ∈ WL) : w ∈ WP := List.mem_append_left _ h
theorem wp_I {args : Array Value} {s : State} (hts : ∀ w ∈ WP, w.before args s = true) (hX : PX s) : ∀ w ∈ atI, w.before args s = true := fun w hw => by
  by_cases g : goodWord w = true
  · exact hts w (List.mem_append_right _ (List.mem_append_left _ (List.mem_filter.mpr ⟨hw, g⟩)))
  · exact hX.1 w (List.mem_append_left _ (List.mem_filter.mpr ⟨hw, by simpa using g⟩)) args
theorem wp_N {args : Array Value} {s : State} (hts : ∀ w ∈ WP, w.before args s = true) (hX : PX s) : ∀ w ∈ atN, w.before args s = true := fun w hw => by
  by_cases g : goodWord w = true
  · exact hts w (List.mem_append_right _ (List.mem_append_right _ (List.mem_filter.mpr ⟨hw, g⟩)))
  · exact hX.1 w (List.mem_append_right _ (List.mem_filter.mpr ⟨hw, by simpa using g⟩)) args
theorem otI : (Cond.classLink RX11 145 "java/lang/IndexOutOfBoundsException" :: Cond.initialized "java/lang/IndexOutOfBoundsException" :: atI).all vx_ot = true := by decide +kernel
theorem otN : (Cond.classLink RX11 172 "java/util/NoSuchElementException" :: Cond.initialized "java/util/NoSuchElementException" :: atN).all vx_ot = true := by decide +kernel
def rmP : Room := { frames := 8, cells := 1, slots := 6, locals := 200 }
def pQ (res : Int32 × Int32) (G : va_G) (cy : Nat → ClassId) (A : Nat → Prop) (w : va_W) : Array Value → State → Outcome → State → Prop := va_Qi (fun r' (_ : Unit) => res.1 = 0 ∧ r' = res.2) (mB G cy A w) A
def pX (res : Int32 × Int32) (G : va_G) (cy : Nat → ClassId) (A : Nat → Prop) (w : va_W) : String → State → State → Prop := vx_X (fun (_ : Unit) => True) (fun E _ t => ((res.1 = 1 ∧ E = "java/lang/IndexOutOfBoundsException") ∨ (res.1 = 2 ∧ E = "java/util/NoSuchElementException")) ∧ mB G cy A w () t) A
section PTY
variable {p : Program} {l : Launch} {e : Env} {R : Room} {s : State} {m : MethodId} {args : Array Value} {below : List Frame} {meth : Method} {c : Code} {H : Heap} {locs : List Loc} {cc : ByteArray} {pc : Nat} {ls : Array Slot} {A : Nat → Prop} {G : va_G} {cy : Nat → ClassId} {w : va_W} {res : Int32 × Int32}
theorem pr_ret {r : Int32} (h : some ((0 : Int32), r) = some res) (hx : p.tables.exec = Jvm.exec) (hb : c.code = cc) (hr : meth.sig.returnType = some .int) (hlocks : meth.locks = false) (hK : va_K G vwCl (tysX cy) s) (hP : va_P G vwCl w H) (hD : va_D A w) (hS : va_S A s.heap H locs) (hdg : decode cc pc = .ok (.ireturn, 1)) : W p l e R s m args below meth c H locs 0 0 (vx_MQ below (pQ res G cy A w) (pX res G cy A w) args s 1 6 A) (F0 m pc ls [.int r]) := by
  cases h
  refine vx_ret (W.widen (k := 1) (n := 6) (by omega) (by omega) ?_)
  exact W.iret hx hb hr (fun t9 ht hW => ⟨⟨r, (), rfl, ⟨rfl, rfl⟩, by rw [ht]; exact hP, va_K.moved hW.alike hK, hD⟩, hS.F ht⟩) hS.2.2 hdg hlocks
theorem pr_thr {E : String} (hE : (res.1 = 1 ∧ E = "java/lang/IndexOutOfBoundsException") ∨ (res.1 = 2 ∧ E = "java/util/NoSuchElementException")) (hK : va_K G vwCl (tysX cy) s) (hP : va_P G vwCl w H) (hD : va_D A w) (hS : va_S A s.heap H locs) : ∀ t : State, s.vm.Alike t.vm → H.size ≤ t.heap.size → (∀ q : Nat, q < H.size → t.heap[q]? = H[q]?) → pX res G cy A w E s t := fun t ha hz hk =>
  ⟨(), trivial, ⟨hE, hP.kept (fun k q hq => hk q.1 (vx_lt hP hq)), va_K.moved ha hK, hD⟩, Nat.le_trans hS.1 hz, fun q hq hn => by rw [hk q (Nat.lt_of_lt_of_le hq hS.1)]; exact hS.2.1 q hq hn⟩
end PTY
theorem hds_X11_party : yX11_party.cls ≠ "java/lang/invoke/MethodHandle" ∧ yX11_party.cls ≠ "java/lang/invoke/VarHandle" ∧ (parseMethodDescriptor yX11_party.desc).map (fun d => d.parameters.length) = some 2 := ⟨by decide +kernel, by decide +kernel, by decide +kernel⟩
theorem hd_X11_party : yX11_party.cls = RX11 ∧ yX11_party.cls ≠ "java/lang/invoke/MethodHandle" ∧ yX11_party.cls ≠ "java/lang/invoke/VarHandle" ∧ (parseMethodDescriptor yX11_party.desc).map (fun d => d.parameters.length) = some 2 := ⟨rfl, hds_X11_party⟩
set_option maxHeartbeats 4000000 in
set_option maxRecDepth 100000 in
theorem k_X11_party (l : Launch) (htr : l.stackTraces = false) (G : va_G) (cy : Nat → ClassId) (ev : Nat → Nat) (adX : Nat → Nat) (xT xR xIm xTr xC xWa xWb xWo xZ xU xD xE xB : Nat) (X : VV) (adP : Nat → Nat) (xL : Nat) (P : VV) (adS : Nat → Nat) (S : VV) (a1 a2 : Int32) (res : Int32 × Int32) (h : f_X11_party P S a1 a2 = some res) (sz : Nat) :
    vx_Met l yX11_party (.code yX11_party cX11_party 3 (some .int) :: WP) rmP (fun v U => mPre G cy ev [.ref (adX 0), .int a1, .int a2] sz (wj [cX11 cy adX xT xR (adP 0) (adS 0) xIm xTr xC xWa xWb xWo xZ xU xD xE xB X, cX6 cy adP xL P, cX8 cy adS S]) v U ∧ PX U) (pQ res G cy (va_A (wj [cX11 cy adX xT xR (adP 0) (adS 0) xIm xTr xC xWa xWb xWo xZ xU xD xE xB X, cX6 cy adP xL P, cX8 cy adS S]) sz) (wj [cX11 cy adX xT xR (adP 0) (adS 0) xIm xTr xC xWa xWb xWo xZ xU xD xE xB X, cX6 cy adP xL P, cX8 cy adS S])) (pX res G cy (va_A (wj [cX11 cy adX xT xR (adP 0) (adS 0) xIm xTr xC xWa xWb xWo xZ xU xD xE xB X, cX6 cy adP xL P, cX8 cy adS S]) sz) (wj [cX11 cy adX xT xR (adP 0) (adS 0) xIm xTr xC xWa xWb xWo xZ xU xD xE xB X, cX6 cy adP xL P, cX8 cy adS S])) 1 6 (va_A (wj [cX11 cy adX xT xR (adP 0) (adS 0) xIm xTr xC xWa xWb xWo xZ xU xD xE xB X, cX6 cy adP xL P, cX8 cy adS S]) sz) := by
  refine vx_ofW (cc := cX11_party) (maxL := 3) (ret := some .int) (by decide +kernel) rfl ?_
  intro p e s m args below meth c s₁ B hml hout hv
  obtain ⟨⟨rfl, hsz, hP, hK, hD0, hE⟩, hX⟩ := hv
  have hts0 := atoms_spec (ws := .code yX11_party cX11_party 3 (some .int) :: WP) B.pre
  have htsP : ∀ w ∈ WP, w.before _ s = true := fun w h => hts0 w (List.mem_cons_of_mem _ h)
  have hts : ∀ w ∈ WL, w.before _ s = true := fun w h => htsP w (wp_L h)
  have hown : s.vm.findClass RX11 = some m.cls := findClass_of_methodNamed B.named
  subst hsz
  have hD := hD0.self (sz := s.heap.size)
  have hA : ∀ q : Nat, s.heap.size ≤ q → va_A (wj [cX11 cy adX xT xR (adP 0) (adS 0) xIm xTr xC xWa xWb xWo xZ xU xD xE xB X, cX6 cy adP xL P, cX8 cy adS S]) s.heap.size q := fun q h => Or.inr h
  generalize va_A (wj [cX11 cy adX xT xR (adP 0) (adS 0) xIm xTr xC xWa xWb xWo xZ xU xD xE xB X, cX6 cy adP xL P, cX8 cy adS S]) s.heap.size = A at hD hE hA ⊢
  have hl := lv_entry [.ref (adX 0), .int a1, .int a2] (n := 3) (Nat.le_of_ble_eq_true rfl)
  rw [lg_entry_eq]
  generalize (lg_sl ([.ref (adX 0), .int a1, .int a2]) ++ List.replicate (3 - (lg_sl ([.ref (adX 0), .int a1, .int a2])).length) Slot.unset).toArray = ls at hl ⊢
  have hl : lv_has ls 3 [(0, .ref (adX 0)), (1, .int a1), (2, .int a2)] := hl
  show W p l e rmP s m _ below meth c s.heap [] 0 0 _ _
  have hx := B.exec
  have hb := B.bytes
  have hr := B.returns
  have hlocks := B.notSynchronized
  have hS : va_S A s.heap s.heap [] := va_S.rf
  delta f_X11_party at h
  refine lv_aload_n hx hb dX11_party_0 rfl (lv_at hl 0 rfl) ?_
  refine go_11_29 (ci := 0) hx hb hts hown hK hE hP rfl dX11_party_1 ?_
  refine lv_iload_n hx hb dX11_party_4 rfl (lv_at hl 1 rfl) ?_
  replace h := bd h
  obtain ⟨q1, h2, h⟩ := h
  refine callWVi (As := [.int a1]) (rest := []) (cs' := [cX11 cy adX xT xR (adP 0) (adS 0) xIm xTr xC xWa xWb xWo xZ xU xD xE xB X, cX6 cy adP xL P, cX8 cy adS S]) (isC := [1]) (isR := [0, 2]) hx hb hml hown hts (k_X6_hasParty l G cy ev adP xL P a1 q1 h2) wm_26_11 wm_26_12 wm_26_13 wm_1_22 wm_26_14 hd_X6_hasParty ⟨by decide, by decide⟩ hK hP hD hS hA hE rfl rfl rfl (cov_of (n := 3) rfl (by decide)) (by decide) rfl (recvW (ci := 1) hK hP rfl cX6_o rfl) rfl rfl hl.1 (Nat.le_of_ble_eq_true rfl) dX11_party_5 (fun H locs hP hD hS => ?_)
  refine lv_if_ne (tgt := 21) hx hb dX11_party_8 (by decide) (fun c9 => ?_) (fun c9 => ?_)
  · replace h := (br h).2 c9
    refine lv_iload_n hx hb dX11_party_21 rfl (lv_at hl 2 rfl) ?_
    by_cases n0 : a2 = 0
    · replace h := (br h).1 n0
      subst n0
      refine lv_tableIn (off := 50) (tgt := 72) hx hb dX11_party_22 (by decide) (by decide) rfl (by decide) ?_
      refine lv_aload_n hx hb dX11_party_72 rfl (lv_at hl 0 rfl) ?_
      refine go_11_29 (ci := 0) hx hb hts hown hK hE hP rfl dX11_party_73 ?_
      refine lv_iload_n hx hb dX11_party_76 rfl (lv_at hl 1 rfl) ?_
      refine lv_iconst (v := 0) hx hb dX11_party_77 (by decide) ?_
      replace h := bd h
      obtain ⟨q3, h4, h⟩ := h
      refine callWVi (As := [.int a1, .int 0]) (rest := []) (cs' := [cX11 cy adX xT xR (adP 0) (adS 0) xIm xTr xC xWa xWb xWo xZ xU xD xE xB X, cX6 cy adP xL P, cX8 cy adS S]) (isC := [1]) (isR := [0, 2]) hx hb hml hown hts (k_X6_trait l G cy ev adP xL P a1 0 q3 h4) wm_26_15 wm_26_16 wm_26_17 wm_1_22 wm_26_18 hd_X6_trait ⟨by decide, by decide⟩ hK hP hD hS hA hE rfl rfl rfl (cov_of (n := 3) rfl (by decide)) (by decide) rfl (recvW (ci := 1) hK hP rfl cX6_o rfl) rfl rfl hl.1 (Nat.le_of_ble_eq_true rfl) dX11_party_78 (fun H locs hP hD hS => ?_)
      exact pr_ret h hx hb hr hlocks hK hP hD hS dX11_party_81
    replace h := (br h).2 n0
    by_cases n1 : a2 = 1
    · replace h := (br h).1 n1
      subst n1
      refine lv_tableIn (off := 60) (tgt := 82) hx hb dX11_party_22 (by decide) (by decide) rfl (by decide) ?_
      refine lv_aload_n hx hb dX11_party_82 rfl (lv_at hl 0 rfl) ?_
      refine go_11_29 (ci := 0) hx hb hts hown hK hE hP rfl dX11_party_83 ?_
      refine lv_iload_n hx hb dX11_party_86 rfl (lv_at hl 1 rfl) ?_
      refine lv_iconst (v := 4) hx hb dX11_party_87 (by decide) ?_
      replace h := bd h
      obtain ⟨q3, h4, h⟩ := h
      refine callWVi (As := [.int a1, .int 4]) (rest := []) (cs' := [cX11 cy adX xT xR (adP 0) (adS 0) xIm xTr xC xWa xWb xWo xZ xU xD xE xB X, cX6 cy adP xL P, cX8 cy adS S]) (isC := [1]) (isR := [0, 2]) hx hb hml hown hts (k_X6_trait l G cy ev adP xL P a1 4 q3 h4) wm_26_15 wm_26_16 wm_26_17 wm_1_22 wm_26_18 hd_X6_trait ⟨by decide, by decide⟩ hK hP hD hS hA hE rfl rfl rfl (cov_of (n := 3) rfl (by decide)) (by decide) rfl (recvW (ci := 1) hK hP rfl cX6_o rfl) rfl rfl hl.1 (Nat.le_of_ble_eq_true rfl) dX11_party_88 (fun H locs hP hD hS => ?_)
      exact pr_ret h hx hb hr hlocks hK hP hD hS dX11_party_91
    replace h := (br h).2 n1
    by_cases n2 : a2 = 2
    · replace h := (br h).1 n2
      subst n2
      refine lv_tableIn (off := 70) (tgt := 92) hx hb dX11_party_22 (by decide) (by decide) rfl (by decide) ?_
      refine lv_aload_n hx hb dX11_party_92 rfl (lv_at hl 0 rfl) ?_
      refine go_11_29 (ci := 0) hx hb hts hown hK hE hP rfl dX11_party_93 ?_
      refine lv_iload_n hx hb dX11_party_96 rfl (lv_at hl 1 rfl) ?_
      refine lv_iconst (v := 5) hx hb dX11_party_97 (by decide) ?_
      replace h := bd h
      obtain ⟨q3, h4, h⟩ := h
      refine callWVi (As := [.int a1, .int 5]) (rest := []) (cs' := [cX11 cy adX xT xR (adP 0) (adS 0) xIm xTr xC xWa xWb xWo xZ xU xD xE xB X, cX6 cy adP xL P, cX8 cy adS S]) (isC := [1]) (isR := [0, 2]) hx hb hml hown hts (k_X6_trait l G cy ev adP xL P a1 5 q3 h4) wm_26_15 wm_26_16 wm_26_17 wm_1_22 wm_26_18 hd_X6_trait ⟨by decide, by decide⟩ hK hP hD hS hA hE rfl rfl rfl (cov_of (n := 3) rfl (by decide)) (by decide) rfl (recvW (ci := 1) hK hP rfl cX6_o rfl) rfl rfl hl.1 (Nat.le_of_ble_eq_true rfl) dX11_party_98 (fun H locs hP hD hS => ?_)
      exact pr_ret h hx hb hr hlocks hK hP hD hS dX11_party_101
    replace h := (br h).2 n2
    by_cases n3 : a2 = 3
    · replace h := (br h).1 n3
      subst n3
      refine lv_tableIn (off := 80) (tgt := 102) hx hb dX11_party_22 (by decide) (by decide) rfl (by decide) ?_
      refine lv_aload_n hx hb dX11_party_102 rfl (lv_at hl 0 rfl) ?_
      refine go_11_29 (ci := 0) hx hb hts hown hK hE hP rfl dX11_party_103 ?_
      refine lv_iload_n hx hb dX11_party_106 rfl (lv_at hl 1 rfl) ?_
      refine lv_bipush (v := 6) hx hb dX11_party_107 (by decide) ?_
      replace h := bd h
      obtain ⟨q3, h4, h⟩ := h
      refine callWVi (As := [.int a1, .int 6]) (rest := []) (cs' := [cX11 cy adX xT xR (adP 0) (adS 0) xIm xTr xC xWa xWb xWo xZ xU xD xE xB X, cX6 cy adP xL P, cX8 cy adS S]) (isC := [1]) (isR := [0, 2]) hx hb hml hown hts (k_X6_trait l G cy ev adP xL P a1 6 q3 h4) wm_26_15 wm_26_16 wm_26_17 wm_1_22 wm_26_18 hd_X6_trait ⟨by decide, by decide⟩ hK hP hD hS hA hE rfl rfl rfl (cov_of (n := 3) rfl (by decide)) (by decide) rfl (recvW (ci := 1) hK hP rfl cX6_o rfl) rfl rfl hl.1 (Nat.le_of_ble_eq_true rfl) dX11_party_109 (fun H locs hP hD hS => ?_)
      exact pr_ret h hx hb hr hlocks hK hP hD hS dX11_party_112
    replace h := (br h).2 n3
    by_cases n4 : a2 = 4
    · replace h := (br h).1 n4
      subst n4
      refine lv_tableIn (off := 91) (tgt := 113) hx hb dX11_party_22 (by decide) (by decide) rfl (by decide) ?_
      refine lv_aload_n hx hb dX11_party_113 rfl (lv_at hl 0 rfl) ?_
      refine go_11_36 (ci := 0) hx hb hts hown hK hE hP rfl dX11_party_114 ?_
      refine go_11_156 (ci := 2) hx hb hts hown hK hE hP rfl dX11_party_117 ?_
      refine lv_iload_n hx hb dX11_party_120 rfl (lv_at hl 1 rfl) ?_
      replace h := gin_inv h
      obtain ⟨h9, h⟩ := h
      refine ldWI (ci := 2) (k0 := 1) (g := S.2.1 2) (j := a1.toNatClampNeg) hx hb hK hP rfl cX8_a2 rfl h9 rfl dX11_party_121 ?_
      exact pr_ret h hx hb hr hlocks hK hP hD hS dX11_party_122
    replace h := (br h).2 n4
    by_cases n5 : a2 = 5
    · replace h := (br h).1 n5
      subst n5
      refine lv_tableIn (off := 101) (tgt := 123) hx hb dX11_party_22 (by decide) (by decide) rfl (by decide) ?_
      refine lv_aload_n hx hb dX11_party_123 rfl (lv_at hl 0 rfl) ?_
      refine go_11_36 (ci := 0) hx hb hts hown hK hE hP rfl dX11_party_124 ?_
      refine go_11_160 (ci := 2) hx hb hts hown hK hE hP rfl dX11_party_127 ?_
      refine lv_iload_n hx hb dX11_party_130 rfl (lv_at hl 1 rfl) ?_
      replace h := gin_inv h
      obtain ⟨h9, h⟩ := h
      refine ldWI (ci := 2) (k0 := 4) (g := S.2.1 5) (j := a1.toNatClampNeg) hx hb hK hP rfl cX8_a5 rfl h9 rfl dX11_party_131 ?_
      exact pr_ret h hx hb hr hlocks hK hP hD hS dX11_party_132
    replace h := (br h).2 n5
    by_cases n6 : a2 = 6
    · replace h := (br h).1 n6
      subst n6
      refine lv_tableIn (off := 111) (tgt := 133) hx hb dX11_party_22 (by decide) (by decide) rfl (by decide) ?_
      refine lv_aload_n hx hb dX11_party_133 rfl (lv_at hl 0 rfl) ?_
      refine go_11_36 (ci := 0) hx hb hts hown hK hE hP rfl dX11_party_134 ?_
      refine go_11_163 (ci := 2) hx hb hts hown hK hE hP rfl dX11_party_137 ?_
      refine lv_iload_n hx hb dX11_party_140 rfl (lv_at hl 1 rfl) ?_
      replace h := gin_inv h
      obtain ⟨h9, h⟩ := h
      refine ldWI (ci := 2) (k0 := 5) (g := S.2.1 6) (j := a1.toNatClampNeg) hx hb hK hP rfl cX8_a6 rfl h9 rfl dX11_party_141 ?_
      exact pr_ret h hx hb hr hlocks hK hP hD hS dX11_party_142
    replace h := (br h).2 n6
    by_cases n7 : a2 = 7
    · replace h := (br h).1 n7
      subst n7
      refine lv_tableIn (off := 121) (tgt := 143) hx hb dX11_party_22 (by decide) (by decide) rfl (by decide) ?_
      refine lv_aload_n hx hb dX11_party_143 rfl (lv_at hl 0 rfl) ?_
      refine go_11_36 (ci := 0) hx hb hts hown hK hE hP rfl dX11_party_144 ?_
      refine go_11_166 (ci := 2) hx hb hts hown hK hE hP rfl dX11_party_147 ?_
      refine lv_iload_n hx hb dX11_party_150 rfl (lv_at hl 1 rfl) ?_
      replace h := gin_inv h
      obtain ⟨h9, h⟩ := h
      refine ldWI (ci := 2) (k0 := 6) (g := S.2.1 7) (j := a1.toNatClampNeg) hx hb hK hP rfl cX8_a7 rfl h9 rfl dX11_party_151 ?_
      exact pr_ret h hx hb hr hlocks hK hP hD hS dX11_party_152
    replace h := (br h).2 n7
    by_cases n8 : a2 = 8
    · replace h := (br h).1 n8
      subst n8
      refine lv_tableIn (off := 131) (tgt := 153) hx hb dX11_party_22 (by decide) (by decide) rfl (by decide) ?_
      refine lv_aload_n hx hb dX11_party_153 rfl (lv_at hl 0 rfl) ?_
      refine go_11_36 (ci := 0) hx hb hts hown hK hE hP rfl dX11_party_154 ?_
      refine go_11_169 (ci := 2) hx hb hts hown hK hE hP rfl dX11_party_157 ?_
      refine lv_iload_n hx hb dX11_party_160 rfl (lv_at hl 1 rfl) ?_
      replace h := gin_inv h
      obtain ⟨h9, h⟩ := h
      refine ldWI (ci := 2) (k0 := 7) (g := S.2.1 8) (j := a1.toNatClampNeg) hx hb hK hP rfl cX8_a8 rfl h9 rfl dX11_party_161 ?_
      exact pr_ret h hx hb hr hlocks hK hP hD hS dX11_party_162
    replace h := (br h).2 n8
    cases h
    refine lv_tableOut (tgt := 163) hx hb dX11_party_22 (by have := ne_toInt (k := 0) 0 (by decide) n0; have := ne_toInt (k := 1) 1 (by decide) n1; have := ne_toInt (k := 2) 2 (by decide) n2; have := ne_toInt (k := 3) 3 (by decide) n3; have := ne_toInt (k := 4) 4 (by decide) n4; have := ne_toInt (k := 5) 5 (by decide) n5; have := ne_toInt (k := 6) 6 (by decide) n6; have := ne_toInt (k := 7) 7 (by decide) n7; have := ne_toInt (k := 8) 8 (by decide) n8; omega) (by decide) ?_
    exact vy_throwN (text := "no such what") (ik := 172) (is := 174) (sa := ev 12) (A := A) hx hb htr hown (hts _ wm_26_9) (hts _ wm_26_10) (hE.2.2.1.2 2 (by omega)) (wp_N htsP hX) (fun w hw => List.all_eq_true.mp otN w hw) hE.2.2.2.2.1 hE.2.2.2.2.2 hS (hl.1.trans hml.symm) dX11_party_163 dX11_party_166 dX11_party_167 dX11_party_169 dX11_party_172 (fun x hx => (hout x hx).elim) (by decide) (by decide) (by decide) (by decide) hlocks (pr_thr (Or.inr ⟨rfl, rfl⟩) hK hP hD hS) hS.2.2 (by omega) (by omega)
  · replace h := (br h).1 c9
    cases h
    exact vx_throwS (own := RX11) (cls := "java/lang/IndexOutOfBoundsException") (text := "no such party") (names := nmP) (ik := 145) (is := 147) (ic := 149) (sa := ev 11) (A := A) hx hb htr hown (by decide +kernel) (by decide +kernel) (hts _ wm_26_7) (hts _ wm_26_8) (hE.2.2.1.2 1 (by omega)) (wp_I htsP hX) (fun w hw => List.all_eq_true.mp otI w hw) hE.2.2.2.2.1 hE.2.2.2.2.2 hS (hl.1.trans hml.symm) dX11_party_11 dX11_party_14 dX11_party_15 dX11_party_17 dX11_party_20 (fun x hx => (hout x hx).elim) (by decide) (by decide) (by decide) (by decide) hlocks (pr_thr (Or.inl ⟨rfl, rfl⟩) hK hP hD hS) hS.2.2 (by omega) (by omega)
