/-! 'throw new NoSuchElementException("..")' where no stack traces are kept: its constructor hands the text on by an index of its own (13), of which the library's rows of a throw with a text do not speak. Its constructors are taken one by one here. -/
abbrev nsX : String := "java/util/NoSuchElementException"
abbrev nsR : String := "java/lang/RuntimeException"
abbrev nsE : String := "java/lang/Exception"
def rxN : ByteArray := ⟨#[0x2a, 0x2b, 0xb7, 0x00, 0x0d, 0xb1]⟩
theorem rxN_0 : decode rxN 0 = .ok (.aload_n 0, 1) := by decide +kernel
theorem rxN_1 : decode rxN 1 = .ok (.aload_n 1, 1) := by decide +kernel
theorem rxN_2 : decode rxN 2 = .ok (.invokespecial 13, 3) := by decide +kernel
theorem rxN_5 : decode rxN 5 = .ok (.return_, 1) := by decide +kernel
/-- a word of the library's list, told of this class: its constructor's bytes and its link are its own -/
def ns_own (w : Cond) : Cond := if w = .code (Bundle.initS nsX) Bundle.six 2 none then .code (Bundle.initS nsX) rxN 2 none else if w = .methodLink nsX 7 (Bundle.initS nsR) then .methodLink nsX 13 (Bundle.initS nsR) else w
/-- what is to be known where ThreeSittings throws it -/
def ns_ws : List Cond := (Bundle.ownAtoms RX11 176 nsX [nsR, nsE]).map ns_own
theorem ns_w0 : ∀ w ∈ Bundle.throwableAtoms, w ∈ ns_ws := by decide +kernel
theorem ns_wS : ∀ w ∈ Bundle.throwableSAtoms, w ∈ ns_ws := by decide +kernel
theorem ns_w1 : ∀ w ∈ Bundle.passSAtoms nsX nsR 13 rxN, w ∈ ns_ws := by decide +kernel
theorem ns_w2 : ∀ w ∈ Bundle.passSAtoms nsR nsE 7 Bundle.six, w ∈ ns_ws := by decide +kernel
theorem ns_w3 : ∀ w ∈ Bundle.passSAtoms nsE Bundle.tN 7 Bundle.six, w ∈ ns_ws := by decide +kernel
section NSA
variable {s : State} {args : Array Value} {cX : ClassId} {kX : Class}
/-- the three constructors between the throw and Throwable's -/
theorem ns_pass {pl : Platform} (hpl : pl.magicAccessors = ({} : Platform).magicAccessors) {top : MethodId} (htop : s.methodNamed? (Bundle.initS Bundle.tN) = some top) (h : ∀ w ∈ ns_ws, w.before args s = true) :
    ∃ A B C : PassC, (∀ P, P ∈ [A, B, C] → P.LinksS pl s) ∧ s.methodNamed? (Bundle.initS nsX) = some A.m ∧ PassesOn top ([A, B, C].map (·.toPassT)) := by
  obtain ⟨A, lA, mA, sA⟩ := PassC.ofS_atoms (args := args) hpl (X := nsX) (Y := nsR) (by decide +kernel) (by decide) rxN_0 rxN_1 rxN_2 rxN_5 (fun w hw => h w (ns_w1 w hw))
  obtain ⟨B, lB, mB, sB⟩ := PassC.ofS_atoms (args := args) hpl (X := nsR) (Y := nsE) (by decide +kernel) (by decide) Bundle.six_0 Bundle.six_1 Bundle.six_2 Bundle.six_5 (fun w hw => h w (ns_w2 w hw))
  obtain ⟨C, lC, mC, sC⟩ := PassC.ofS_atoms (args := args) hpl (X := nsE) (Y := Bundle.tN) (by decide +kernel) (by decide) Bundle.six_0 Bundle.six_1 Bundle.six_2 Bundle.six_5 (fun w hw => h w (ns_w3 w hw))
  have q : A.sup = B.m ∧ B.sup = C.m ∧ C.sup = top ∧ True := ⟨Option.some.inj (sA.symm.trans mB), Option.some.inj (sB.symm.trans mC), Option.some.inj (sC.symm.trans htop), trivial⟩
  refine ⟨A, B, C, fun P hP => ?_, mA, q⟩
  simp only [List.mem_cons, List.not_mem_nil, or_false] at hP
  rcases hP with hP | hP | hP <;> rw [hP] <;> assumption
/-- a method of Throwable that the class leaves as it is -/
theorem ns_sel {l : Launch} {e : Env} (hl : l.admits e) {t : MethodName} {m : MethodId} (hX : s.vm.findClass nsX = some cX) (hm : s.methodNamed? t = some m) (ht : t.cls ≠ "java/lang/invoke/MethodHandle" ∧ t.cls ≠ "java/lang/invoke/VarHandle") (w : (Cond.selects nsX t t).before args s = true) : selectMethod e.platform s.vm cX m = .method m := by
  obtain ⟨c, r, m', a1, a2, a3, a4, -⟩ := Cond.selects_spec w
  rw [hX, Option.some.injEq] at a1
  rw [State.methodFound?_of_named hm ht, Option.some.injEq] at a2
  rw [hm, Option.some.injEq] at a3
  subst a1; subst a2; subst a3
  exact (Launch.admits_selectMethod hl s.vm cX m).trans a4
/-- a field that the class has of Throwable: what a new object takes there, what it holds there, whose it is -/
theorem ns_field (hX : s.vm.findClass nsX = some cX) (hk : s.vm.classes[cX]? = some kX) (hord : kX.kind = .ordinary) {n d : String} {cD i : Nat} {kD : Class} {f : Field} (hf : s.fieldFound? Bundle.tN n d = some (cD, kD, i, f)) (w : (Cond.lays nsX Bundle.tN n d).before args s = true) :
    (∀ v, fits f.type v = true → Takes s (freshCell cX kX) f v) ∧ (freshCell cX kX).slots[f.slot]? = some (defaultValue f.type) ∧ ∃ q : Class × Field, Jmm.declares? s.vm f.slot (cX + 1) cX = some q ∧ q.2.name = f.name := by
  obtain ⟨ty, q⟩ := Cond.laysAt hX hk hf w
  exact ⟨fun v hv => Takes.of_laid hk hord ty hv, fresh_default ty, q⟩
theorem ns_apart {f g : Field} (a : ∃ q : Class × Field, Jmm.declares? s.vm f.slot (cX + 1) cX = some q ∧ q.2.name = f.name) (b : ∃ q : Class × Field, Jmm.declares? s.vm g.slot (cX + 1) cX = some q ∧ q.2.name = g.name) (hne : f.name ≠ g.name) : f.slot ≠ g.slot := by
  obtain ⟨x, a1, a2⟩ := a
  obtain ⟨y, b1, b2⟩ := b
  exact Cond.laysApart a1 b1 a2 b2 hne
theorem ns_kept {x : Cell} {i j : Nat} {v w : Value} (hne : i ≠ j) (hx : x.slots[i]? = some v) : (x.setSlot j w).slots[i]? = some v := by
  show (x.slots.setIfInBounds j w)[i]? = some v
  rw [Array.getElem?_setIfInBounds_ne (fun h => hne h.symm)]; exact hx
/-- a cell of statics, seen again where nothing old was written -/
theorem ns_static {V : State} {cells slots : Nat} (h : s.sameButNew V [] cells slots) {a : Addr} {x : Cell} (hx : s.heap[a]? = some x) (hi : x.vm.isStatics = true) : ∃ y, V.heap[a]? = some y ∧ y.vm ≠ .unknown ∧ ∀ i : Nat, y.slots[i]? = x.slots[i]? := by
  obtain ⟨y, h1, h2, -, h3⟩ := h.2.2.2.2.2 a x hx
  refine ⟨y, h1, fun hu => ?_, fun i => h3 i List.not_mem_nil⟩
  have hv : y.vm = x.vm := by rw [h2]
  rw [← hv, hu] at hi
  cases hi
end NSA
section NSB
variable {p : Program} {l : Launch} {e : Env} {R : Room} {s : State} {m₀ : MethodId} {args : Array Value} {below : List Frame} {meth : Method} {c : Code} {V : State} {cells slots : Nat} {cX : ClassId} {kX : Class} {a : Addr} {msg : Value} {g : JFrame} {rest : List Value}
/-- the constructor's call, from a new object to what it is behind it -/
theorem ns_made (X : Stand p l e R s m₀ args below meth c V [] cells slots) (hexec : p.tables.exec = Jvm.exec) (htr : e.platform.stackTraces = false) (hown : s.vm.findClass RX11 = some m₀.cls) (h : ∀ w ∈ ns_ws, w.before args s = true)
    (hX : s.vm.findClass nsX = some cX) (hk : s.vm.classes[cX]? = some kX) (ha : V.heap[a]? = some (freshCell cX kX)) (hnew : s.heap.size ≤ a) (hmsg : msg.isRef = true)
    (hg : g.method = m₀) (hsize : g.locals.size = c.maxLocals) (hst : g.stack = msg :: .ref a :: rest) (hd : decode c.code g.pc = .ok (.invokespecial 176, 3))
    (hRf : 5 < R.frames) (hRl : 2 * g.monitorRoom + (rest.map fun v => v.category).sum + 81 ≤ R.locals) :
    ∃ (V' : State) (ce : Cell) (L : List Loc), Stand p l e R s m₀ args below meth c V' L cells slots ∧ (∀ x ∈ L, x.base = a) ∧ V'.heap[a]? = some ce ∧ ce.vm = .none ∧ ce.cls = cX ∧
      ∀ t, Steps p.tables e below (V'.setTop { g with stack := rest, pc := g.pc + 3 }) t → Steps p.tables e below (V.setTop g) t := by
  have pf := X.admits.platform
  have hpl : e.platform.magicAccessors = ({} : Platform).magicAccessors := by rw [pf]
  have hfo : e.platform.frameOwnsMonitors = true := by rw [pf]
  have hfi : e.platform.finalization = false := by rw [pf]
  have k : ∀ w, w ∈ ns_ws → w.holds args s none s [] = true := fun w hw => h w hw
  obtain ⟨T, Z0, L, -, Y⟩ := ThrowableC.of_atoms (args := args) hfo hfi hpl (fun w hw => h w (ns_w0 w hw))
  obtain ⟨Z, M, LZ, LM, hZ⟩ := Init0T.ofS_atoms (args := args) hpl L Y (fun w hw => h w (ns_wS w hw))
  obtain ⟨A, B, C, hP, hA, hon⟩ := ns_pass hpl hZ h
  obtain ⟨cI, kI, i1, i2, hord, -, -, -⟩ := Cond.instantiable_spec (k (.instantiable nsX 6) (by decide +kernel))
  rw [hX, Option.some.injEq] at i1
  subst i1
  rw [hk, Option.some.injEq] at i2
  subst i2
  obtain ⟨iM, hM⟩ := Y.msg
  obtain ⟨ci, ib, fB, b1, b2, b3, b4, -, b5, b6, b7⟩ := Cond.ownField (t := .object "java/lang/Object") Y.found L.cls (by decide +kernel) (k (.fieldLink Bundle.tN 198 Bundle.tN "backtrace" "Ljava/lang/Object;") (by decide +kernel)) (k (.lays Bundle.tN Bundle.tN "backtrace" "Ljava/lang/Object;") (by decide +kernel)) e.platform hpl
  have FC := ns_field (args := args) hX hk hord Y.cause (h _ (by decide +kernel))
  have FS := ns_field (args := args) hX hk hord Y.stack (h _ (by decide +kernel))
  have FP := ns_field (args := args) hX hk hord Y.supp (h _ (by decide +kernel))
  have FM := ns_field (args := args) hX hk hord hM (h _ (by decide +kernel))
  have FB := ns_field (args := args) hX hk hord b7 (h _ (by decide +kernel))
  obtain ⟨x0, hx0, hi0⟩ := Y.statics
  obtain ⟨x1, hx1, hu1, he1⟩ := ns_static X.same hx0 hi0
  obtain ⟨u0, hu0⟩ := Cond.staticRefV Y.unassigned L.unassignedStatic L.statics hx0 hi0 (k _ (by decide +kernel))
  obtain ⟨sen, hsen⟩ := Cond.staticRefV Y.sentinel L.sentinelStatic L.statics hx0 hi0 (k _ (by decide +kernel))
  have hne : T.aS ≠ a := fun hq => absurd (Array.getElem?_eq_some_iff.mp hx0).1 (by rw [hq]; exact Nat.not_lt.mpr hnew)
  have hbk : SkipFacts T e.platform s (fun u => u) u0 ((preparedCellV T.toThrowableT (freshCell cX kX) a u0 sen).withEntry V.cur) := by
    refine ⟨{ ci198 := ci, i198 := ib, fBack := fB }, ⟨b1, b2, b3, b4⟩, ?_, fun _ _ => rfl⟩
    have hn := FB.2.1
    rw [b6] at hn
    exact ns_kept (ns_apart FB.2.2 FP.2.2 (by rw [b5, Y.suppName]; decide)) (ns_kept (ns_apart FB.2.2 FS.2.2 (by rw [b5, Y.stackName]; decide)) (ns_kept (ns_apart FB.2.2 FC.2.2 (by rw [b5, Y.causeName]; decide)) hn))
  obtain ⟨tm, me1, cd1, k1, v1, hm, -, -, -, -, -, -, -, hW, st1⟩ := Steps.initColdS (tb := p.tables) (e := e) (below := below) (s := s) (U := V) X.here hexec X.warmed hpl hown (t := Bundle.initS nsX) rfl rfl (by decide) (k (.methodLink RX11 176 (Bundle.initS nsX)) (by decide +kernel)) (h (.instanceMethod (Bundle.initS nsX)) (by decide +kernel)) (bytes := rxN) (maxL := 2) (h (.code (Bundle.initS nsX) rxN 2 none) (by decide +kernel)) (f := g) hg (a := a) (msg := msg) (rest := rest) hst hd
  rw [hA, Option.some.injEq] at hm
  subst hm
  obtain ⟨v2, X2, st2⟩ := (X.noted hW).ctorMessageOffV hexec (g := { g with stack := rest }) hg hsize T L Z LZ M LM [A, B, C] hP hon (u0 := u0) (sen := sen) (self := a) hmsg (cell := freshCell cX kX) (cellS := x1) ha (fun _ => by simp) (by simp) rfl rfl
    (ns_sel (args := args) X.admits hX Y.fill0 (by decide) (h _ (by decide +kernel))) (ns_sel (args := args) X.admits hX Y.fill (by decide) (h _ (by decide +kernel))) hx1 hne hu1 (by rw [he1]; exact hu0) (by rw [he1]; exact hsen)
    (FC.1 _ (by rw [Y.causeType]; rfl)) (FS.1 _ (by rw [Y.stackType]; exact fits_refV_array _ u0)) (FP.1 _ (by rw [Y.suppType]; exact fits_refV_object _ sen)) (FM.1 _ (by rw [Y.msgType]; exact fits_refV_object _ ⟨msg, hmsg⟩)) Y.objLocals hbk htr [] hd hRf hRl
  refine ⟨_, _, _, X2, fun x hx => ?_, heapAt_setCell_self _ (Array.getElem?_eq_some_iff.mp ha).1, rfl, rfl, fun t ht => st1 t (fun acts => ?_)⟩
  · simp only [List.nil_append, List.mem_cons, List.not_mem_nil, or_false] at hx
    rcases hx with hx | hx | hx | hx | hx <;> rw [hx]
  · rw [doInvoke_state]
    exact st2 t ht
/-- .. and the throw behind it -/
theorem ns_thrown (X : Stand p l e R s m₀ args below meth c V [] cells slots) (hexec : p.tables.exec = Jvm.exec) (htr : e.platform.stackTraces = false) (hown : s.vm.findClass RX11 = some m₀.cls) (h : ∀ w ∈ ns_ws, w.before args s = true)
    (hX : s.vm.findClass nsX = some cX) (hk : s.vm.classes[cX]? = some kX) (ha : V.heap[a]? = some (freshCell cX kX)) (hnew : s.heap.size ≤ a) (hmsg : msg.isRef = true)
    (hg : g.method = m₀) (hsize : g.locals.size = c.maxLocals) (hlk : g.locked = none) (hen : g.entered = []) (hst : g.stack = msg :: .ref a :: .ref a :: rest) (hd : decode c.code g.pc = .ok (.invokespecial 176, 3)) (hd3 : decode c.code (g.pc + 3) = .ok (.athrow, 1)) (hout : ∀ x ∈ c.exceptionTable.toList, covers x (g.pc + 3) = false)
    (hRf : 5 < R.frames) (hRl : 2 * g.monitorRoom + (rest.map fun v => v.category).sum + 82 ≤ R.locals) (hlocks : meth.locks = false) :
    ∃ U : State, Steps p.tables e below (V.setTop g) U ∧ U.status = .running ∧ Ended U below (.threw a) ∧ s.WarmedH U.vm ∧ s.sameButNew ({ U with vm := s.vm } : State) [] cells slots ∧ ∃ ce, U.heap[a]? = some ce ∧ ce.vm = .none ∧ ce.cls = cX := by
  have hcat : ((Value.ref a :: rest).map fun v => v.category).sum = 1 + (rest.map fun v => v.category).sum := by rw [List.map_cons, List.sum_cons]; rfl
  obtain ⟨V', ce, L, Y, hL, h1, h2, h3, st⟩ := ns_made X hexec htr hown h hX hk ha hnew hmsg hg hsize hst hd hRf (by rw [hcat]; omega)
  obtain ⟨w1, w2, w3, w4, w5⟩ := Y.athrowLeaves hexec (g := { g with stack := .ref a :: rest, pc := g.pc + 3 }) hg hlk hen hout (a := a) (rest := rest) rfl hd3 hlocks
  exact ⟨_, st _ w1, w2, w3, w4, w5.weaken (fun y hy hlt => absurd hlt (by rw [hL y hy]; exact Nat.not_lt.mpr hnew)) (Nat.le_refl _) (Nat.le_refl _), ce, h1, h2, h3⟩
end NSB
