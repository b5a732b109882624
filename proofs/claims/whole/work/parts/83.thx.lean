section THX
variable {p : Program} {l : Launch} {e : Env} {R : Room} {s : State} {m : MethodId} {args : Array Value} {below : List Frame} {meth : Method} {c : Code} {H : Heap} {locs : List Loc} {cells slots : Nat}
variable {free : Addr → Prop} {ls : Array Slot} {rest : List Value} {Qc : Array Value → State → Outcome → State → Prop} {XC : String → State → State → Prop}
/-- 'throw new NoSuchElementException("text")' in ThreeSittings (the printed row vx_throwS, turned to this exception) -/
theorem vy_throwN {cc : ByteArray} {pc : Nat} (hexec : p.tables.exec = Jvm.exec) (hb : c.code = cc) (hl : l.stackTraces = false) {text : String} {ik is mc ms sa : Nat} {A : Nat → Prop}
    (hown : s.vm.findClass RX11 = some m.cls) (hk : (Cond.classLink RX11 ik nsX).before args s = true) (hini : (Cond.initialized nsX).before args s = true) (hstr : vk_R RX11 is text sa s) (hat : ∀ w ∈ ns_ws.filter vx_no, w.before args s = true)
    (hgood : ∀ w ∈ Cond.classLink RX11 ik nsX :: Cond.initialized nsX :: ns_ws.filter vx_no, vx_ot w = true)
    (hU : vx_Zq Bundle.tN "UNASSIGNED_STACK" Bundle.steD A s s.heap) (hN : vx_Zq Bundle.tN "SUPPRESSED_SENTINEL" Bundle.listD A s s.heap) (hS : va_S A s.heap H locs) (hsize : ls.size = c.maxLocals)
    (d0 : decode cc pc = .ok (.new ik, 3)) (d3 : decode cc (pc + 3) = .ok (.dup, 1)) (d4 : decode cc (pc + 4) = .ok (.ldc is, 2)) (d6 : decode cc (pc + 6) = .ok (.invokespecial 176, 3)) (d9 : decode cc (pc + 9) = .ok (.athrow, 1))
    (hout : ∀ x ∈ c.exceptionTable.toList, covers x (pc + 9) = false)
    (hRf : 5 < R.frames) (hRl : (rest.map fun v => v.category).sum + 82 ≤ R.locals) (hRc : cells + 1 ≤ R.cells) (hRs : slots + 6 ≤ R.slots) (hlocks : meth.locks = false)
    (hx : ∀ t : State, s.vm.Alike t.vm → H.size ≤ t.heap.size → (∀ q : Nat, q < H.size → t.heap[q]? = H[q]?) → XC nsX s t)
    (hf : ∀ z ∈ locs, free z.base) (hc : cells + 1 ≤ mc) (hs : slots + 6 ≤ ms) :
    W p l e R s m args below meth c H locs cells slots (vx_MQ below Qc XC args s mc ms free) (F0 m pc ls rest) := by
  intro T hT X
  have htr : e.platform.stackTraces = false := (show e.platform.stackTraces = l.stackTraces by rw [X.admits.platform]).trans hl
  have Y := vx_rebase X (R' := { frames := R.frames, locals := R.locals, cells := 1, slots := 6 }) (Nat.le_refl _) (Nat.le_refl _) hRc hRs
  generalize hA : (T.setVm s.vm).setFrames (.invoking m args :: below) = s1 at Y
  have hvm : s1.vm = s.vm := by rw [← hA]; rfl
  have hhp : s1.heap = H := by rw [← hA]; exact hT
  have hW0 : s.WarmedH s1.vm := by rw [hvm]; exact State.WarmedH.refl s
  have ot : ∀ w ∈ Cond.classLink RX11 ik nsX :: Cond.initialized nsX :: ns_ws.filter vx_no, w.before args s = true → w.before args s1 = true := fun w hw h => vx_ot_at hW0 hvm.symm (hgood w hw) h
  have hU1 : vx_Zq Bundle.tN "UNASSIGNED_STACK" Bundle.steD A s1 s1.heap := by rw [hhp]; exact vx_Zq.moved hW0.alike (hU.kept hS.2.1)
  have hN1 : vx_Zq Bundle.tN "SUPPRESSED_SENTINEL" Bundle.listD A s1 s1.heap := by rw [hhp]; exact vx_Zq.moved hW0.alike (hN.kept hS.2.1)
  have h : ∀ w ∈ ns_ws, w.before args s1 = true := vx_own (fun w hw => ot w (List.mem_cons_of_mem _ (List.mem_cons_of_mem _ hw)) (hat w hw)) (vx_isRefq hU1.1) (vx_isRefq hN1.1) hU1.2.word hN1.2.word
  have hown1 : s1.vm.findClass RX11 = some m.cls := by rw [hvm]; exact hown
  obtain ⟨vm1, cX, kX, hfX, hkX, -, -, X1, st1⟩ := Y.newCold hexec (own := RX11) (C := nsX) (index := ik) (n := 6) hown1 (ot _ List.mem_cons_self hk) (h (.instantiable nsX 6) (by decide +kernel)) (ot _ (List.mem_cons_of_mem _ List.mem_cons_self) hini)
    (g := F0 m pc ls rest) rfl (by rw [hb]; exact d0) (Nat.le_refl _) (Nat.le_refl _)
  generalize hT1 : (T.setVm vm1).pushCell { cls := cX, slots := kX.instanceTypes.map defaultValue, vm := .none } = T1 at X1 st1
  have hcA : T1.heap[T.heap.size]? = some (freshCell cX kX) := by rw [← hT1]; exact State.heap_pushCell_size _ _
  have d3' : decode c.code (pc + 3) = .ok (.dup, 1) := by rw [hb]; exact d3
  have hstr1 : vk_R RX11 is text sa s1 := vk_R.warm hW0 hstr
  obtain ⟨U, hsteps, hrun, hend, hW, hsame, ce, hce, hv, hcl0⟩ := ns_thrown X1 hexec htr hown1 h hfX hkX hcA (by rw [hhp, hT]; exact Nat.le_refl _) (msg := .ref sa) rfl
    (g := { method := m, pc := pc + 6, locals := ls, stack := .ref sa :: .ref T.heap.size :: .ref T.heap.size :: rest, locked := none }) rfl hsize rfl rfl (rest := rest) rfl
    (by rw [hb]; exact d6) (by rw [hb]; exact d9) hout hRf (by simpa using hRl) hlocks
  obtain ⟨f1, f2⟩ := vx_frame hsame
  rw [hhp] at f1 f2
  have hWs : s.WarmedH U.vm := State.WarmedH.trans hW0 hW
  have hcl : s.vm.findClass nsX = some ce.cls := by rw [hcl0, ← hvm]; exact hfX
  have hall : s.sameButNew ({ U with vm := s.vm } : State) locs mc ms := by
    subst hA
    obtain ⟨e1, e2⟩ := hsame
    rw [State.setFrames_setFrames] at e1
    have h2 : (T.setVm s.vm).sameButNew ({ U with vm := s.vm } : State) [] (0 + 1) (0 + 6) := ⟨e1, e2⟩
    have h3 := X.same.trans h2
    rw [List.append_nil] at h3
    exact h3.mono hc hs
  refine ⟨U, st1 _ ?_, .threw T.heap.size, hrun, hend, Or.inr ⟨T.heap.size, rfl, nsX, ce, locs, hx U hWs.alike f1 (fun q hq => f2 q hq (fun z hz => nomatch hz)), hce, hv, hcl, hWs, hall, hf⟩⟩
  show Steps p.tables e below (T1.setTop { method := m, pc := pc + 3, locals := ls, stack := .ref T.heap.size :: rest, locked := none }) _
  jvm_step X1.here [X1.here.top, hexec, d3', Value.category]
  exact X1.ldcString hexec (own := RX11) (text := text) (index := is) (a := sa) hown1 hstr1.1 hstr1.2
    (g := { method := m, pc := pc + 4, locals := ls, stack := .ref T.heap.size :: .ref T.heap.size :: rest, locked := none }) rfl (by rw [hb]; exact d4) _ hsteps
end THX
