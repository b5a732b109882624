theorem AOA_moved {t : FieldType} {u U : State} (hvm : u.vm.Alike U.vm) (h : va_AOA t u) : va_AOA t U := by
  simp only [va_AOA, Cond.before, Cond.holds, Cond.value, beq_iff_eq, Option.bind_eq_some_iff, Option.map_eq_some_iff] at h ⊢
  obtain ⟨comp, h1, c, h2, k, h3, h4⟩ := h
  obtain ⟨k', h5, h6⟩ := hvm.2.2 c k h3
  have h7 : k'.kind = k.kind := by rw [h6]
  refine ⟨comp, (hvm.findClass _ _).trans h1, c, (hvm.findIdx?_eqK _ (fun _ => rfl)).trans h2, k', h5, ?_⟩
  rw [h7, hvm.findClass]
  exact h4
section INI
variable {p : Program} {l : Launch} {e : Env} {R : Room} {s : State} {m : MethodId} {args : Array Value} {below : List Frame} {meth : Method} {c : Code} {H : Heap} {locs : List Loc} {Q : State → Prop} {cells slots : Nat}
variable {cc : ByteArray} {pc nL : Nat} {ls : Array Slot} {rest st : List Value} {A : Nat → Prop} {G : va_G} {cy : Nat → ClassId} {ev : Nat → Nat} {cs cs' : List va_W} {ci a : Nat}
theorem wj_push {cs : List va_W} {x : Nat × va_E} : wj cs ++ [x] = wj (cs ++ [[x]]) := by
  unfold wj
  rw [List.flatten_append]
  simp
theorem vk_new {t : Nat} {ty : FieldType} {cA : ClassId} (ht : (tysX cy)[t]? = some (cy t, ty)) (hty : ∀ C, ty ≠ .object C) (h : va_K G vwCl (tysX cy ++ [(cA, ty)]) s) : cA = cy t := by
  have h1 := (h.2 t (cy t, ty) (by rw [List.getElem?_append_left (List.getElem?_eq_some_iff.mp ht).1]; exact ht)).2
  have h2 := (h.2 5 (cA, ty) rfl).2
  cases ty with
  | object C => exact absurd rfl (hty C)
  | _ => exact Option.some.inj (h2.symm.trans h1)
theorem naI {n : Int32} {N' : Nat} (hx : p.tables.exec = Jvm.exec) (hb : c.code = cc) (hts : ∀ w ∈ WL, w.before args s = true) (hK : va_K G vwCl (tysX cy) s) (hP : va_P G vwCl (wj cs) H) (hD : va_D A (wj cs)) (hS : va_S A s.heap H locs) (hA : ∀ q : Nat, s.heap.size ≤ q → A q) (hn : ¬ n < 0) (hN : n.toNatClampNeg = N') (hbytes : N' * componentBytes .int ≤ 536870912) (hc : cells + 1 ≤ R.cells) (hs : slots + N' ≤ R.slots) (hdg : decode cc pc = .ok (.newarray .int, 2)) (kk : ∀ (q : Nat) (H1 : Heap), va_P G vwCl (wj (cs ++ [[(q, .inl (cy 1, N', .inl (fun _ => 0)))]])) H1 → va_D A (wj (cs ++ [[(q, .inl (cy 1, N', .inl (fun _ => 0)))]])) → va_S A s.heap H1 locs → W p l e R s m args below meth c H1 locs (cells + 1) (slots + N') Q (F0 m (pc + 2) ls (.ref q :: rest))) : W p l e R s m args below meth c H locs cells slots Q (F0 m pc ls (.int n :: rest)) := by
  refine va_newa (atype := .int) (a0 := (N', .inl (fun _ => 0))) hx hb (hts _ wm_4_3) rfl hK hP hD hS hA (fun _ => rfl) hn hN hbytes hc hs hdg (fun q cA H1 k1 p1 d1 s1 => ?_)
  have e9 : cA = cy 1 := vk_new (t := 1) rfl (fun _ h => nomatch h) k1
  subst e9
  rw [wj_push] at p1 d1
  exact kk q H1 p1 d1 s1
theorem naZ {n : Int32} {N' : Nat} (hx : p.tables.exec = Jvm.exec) (hb : c.code = cc) (hts : ∀ w ∈ WL, w.before args s = true) (hK : va_K G vwCl (tysX cy) s) (hP : va_P G vwCl (wj cs) H) (hD : va_D A (wj cs)) (hS : va_S A s.heap H locs) (hA : ∀ q : Nat, s.heap.size ≤ q → A q) (hn : ¬ n < 0) (hN : n.toNatClampNeg = N') (hbytes : N' * componentBytes .boolean ≤ 536870912) (hc : cells + 1 ≤ R.cells) (hs : slots + N' ≤ R.slots) (hdg : decode cc pc = .ok (.newarray .boolean, 2)) (kk : ∀ (q : Nat) (H1 : Heap), va_P G vwCl (wj (cs ++ [[(q, .inl (cy 3, N', .inl (fun _ => 0)))]])) H1 → va_D A (wj (cs ++ [[(q, .inl (cy 3, N', .inl (fun _ => 0)))]])) → va_S A s.heap H1 locs → W p l e R s m args below meth c H1 locs (cells + 1) (slots + N') Q (F0 m (pc + 2) ls (.ref q :: rest))) : W p l e R s m args below meth c H locs cells slots Q (F0 m pc ls (.int n :: rest)) := by
  refine va_newa (atype := .boolean) (a0 := (N', .inl (fun _ => 0))) hx hb (hts _ wm_4_20) rfl hK hP hD hS hA (fun _ => rfl) hn hN hbytes hc hs hdg (fun q cA H1 k1 p1 d1 s1 => ?_)
  have e9 : cA = cy 3 := vk_new (t := 3) rfl (fun _ h => nomatch h) k1
  subst e9
  rw [wj_push] at p1 d1
  exact kk q H1 p1 d1 s1
theorem naB {n : Int32} {N' : Nat} (hx : p.tables.exec = Jvm.exec) (hb : c.code = cc) (hts : ∀ w ∈ WL, w.before args s = true) (hK : va_K G vwCl (tysX cy) s) (hP : va_P G vwCl (wj cs) H) (hD : va_D A (wj cs)) (hS : va_S A s.heap H locs) (hA : ∀ q : Nat, s.heap.size ≤ q → A q) (hn : ¬ n < 0) (hN : n.toNatClampNeg = N') (hbytes : N' * componentBytes .byte ≤ 536870912) (hc : cells + 1 ≤ R.cells) (hs : slots + N' ≤ R.slots) (hdg : decode cc pc = .ok (.newarray .byte, 2)) (kk : ∀ (q : Nat) (H1 : Heap), va_P G vwCl (wj (cs ++ [[(q, .inl (cy 0, N', .inl (fun _ => 0)))]])) H1 → va_D A (wj (cs ++ [[(q, .inl (cy 0, N', .inl (fun _ => 0)))]])) → va_S A s.heap H1 locs → W p l e R s m args below meth c H1 locs (cells + 1) (slots + N') Q (F0 m (pc + 2) ls (.ref q :: rest))) : W p l e R s m args below meth c H locs cells slots Q (F0 m pc ls (.int n :: rest)) := by
  refine va_newa (atype := .byte) (a0 := (N', .inl (fun _ => 0))) hx hb (hts _ wm_1_13) rfl hK hP hD hS hA (fun _ => rfl) hn hN hbytes hc hs hdg (fun q cA H1 k1 p1 d1 s1 => ?_)
  have e9 : cA = cy 0 := vk_new (t := 0) rfl (fun _ h => nomatch h) k1
  subst e9
  rw [wj_push] at p1 d1
  exact kk q H1 p1 d1 s1
theorem naJ {n : Int32} {N' : Nat} (hx : p.tables.exec = Jvm.exec) (hb : c.code = cc) (hts : ∀ w ∈ WL, w.before args s = true) (hK : va_K G vwCl (tysX cy) s) (hP : va_P G vwCl (wj cs) H) (hD : va_D A (wj cs)) (hS : va_S A s.heap H locs) (hA : ∀ q : Nat, s.heap.size ≤ q → A q) (hn : ¬ n < 0) (hN : n.toNatClampNeg = N') (hbytes : N' * componentBytes .long ≤ 536870912) (hc : cells + 1 ≤ R.cells) (hs : slots + N' ≤ R.slots) (hdg : decode cc pc = .ok (.newarray .long, 2)) (kk : ∀ (q : Nat) (H1 : Heap), va_P G vwCl (wj (cs ++ [[(q, .inl (cy 2, N', .inr (.inl (fun _ => 0))))]])) H1 → va_D A (wj (cs ++ [[(q, .inl (cy 2, N', .inr (.inl (fun _ => 0))))]])) → va_S A s.heap H1 locs → W p l e R s m args below meth c H1 locs (cells + 1) (slots + N') Q (F0 m (pc + 2) ls (.ref q :: rest))) : W p l e R s m args below meth c H locs cells slots Q (F0 m pc ls (.int n :: rest)) := by
  refine va_newa (atype := .long) (a0 := (N', .inr (.inl (fun _ => 0)))) hx hb (hts _ wm_1_6) rfl hK hP hD hS hA (fun _ => rfl) hn hN hbytes hc hs hdg (fun q cA H1 k1 p1 d1 s1 => ?_)
  have e9 : cA = cy 2 := vk_new (t := 2) rfl (fun _ h => nomatch h) k1
  subst e9
  rw [wj_push] at p1 d1
  exact kk q H1 p1 d1 s1
theorem nwW {own C : String} {T : u_T} {N k index : Nat} {fs : List Value} (hx : p.tables.exec = Jvm.exec) (hb : c.code = cc) (hts : ∀ w ∈ WL, w.before args s = true) (hin : ∀ w ∈ u_ws C T N, w ∈ WL) (ty : Nat → FieldType) (hty : ∀ k, k < N → parseFieldDescriptor (T k).2.2.1 = some (ty k)) (hown : s.vm.findClass own = some m.cls) (hcl : Cond.classLink own index C ∈ WL) (hinst : Cond.instantiable C N ∈ WL) (hini : Cond.initialized C ∈ WL) (hK : va_K G vwCl (tysX cy) s) (hP : va_P G vwCl (wj cs) H) (hD : va_D A (wj cs)) (hS : va_S A s.heap H locs) (hA : ∀ q : Nat, s.heap.size ≤ q → A q) (hk : vwCl[k]? = some (C, T, N)) (hfs : ∀ j, j < N → defaultValue (ty j) = vp_V fs j) (hc : cells + 1 ≤ R.cells) (hs : slots + N ≤ R.slots) (hdg : decode cc pc = .ok (.new index, 3)) (kk : ∀ (q : Nat) (H1 : Heap), va_P G vwCl (wj (cs ++ [[(q, .inr (k, fs))]])) H1 → va_D A (wj (cs ++ [[(q, .inr (k, fs))]])) → va_S A s.heap H1 locs → W p l e R s m args below meth c H1 locs (cells + 1) (slots + N) Q (F0 m (pc + 3) ls (.ref q :: rest))) : W p l e R s m args below meth c H locs cells slots Q (F0 m pc ls rest) := by
  refine va_new (ci := k) (fs := fs) hx hb hts hin ty hty hown (hts _ hcl) (hts _ hinst) (hts _ hini) hK hP hD hS hA hk hfs hc hs hdg (fun q H1 p1 d1 s1 => ?_)
  rw [wj_push] at p1 d1
  exact kk q H1 p1 d1 s1
theorem pfF {own ref C : String} {T : u_T} {N k index j : Nat} {fs fs' : List Value} {v : Value} {ty : FieldType} (hx : p.tables.exec = Jvm.exec) (hb : c.code = cc) (hts : ∀ w ∈ WL, w.before args s = true) (hin : ∀ w ∈ u_ws C T N, w ∈ WL) (ty0 : Nat → FieldType) (hty : ∀ k, k < N → parseFieldDescriptor (T k).2.2.1 = some (ty0 k)) (hnm : ∀ a, a < N → ∀ b, b < N → a ≠ b → (T a).2.1 ≠ (T b).2.1) (hown : s.vm.findClass own = some m.cls) (hK : va_K G vwCl (tysX cy) s) (hP : va_P G vwCl (wj cs) H) (hD : va_D A (wj cs)) (hS : va_S A s.heap H locs) (hi : cs[ci]? = some [(a, .inr (k, fs))]) (hc : vwCl[k]? = some (C, T, N)) (hj : j < N) (hlink : (Cond.fieldLink own index ref (T j).2.1 (T j).2.2.1).before args s = true) (hsame : ∀ x, s.fieldFound? (T j).1 (T j).2.1 (T j).2.2.1 = some x → s.fieldFound? ref (T j).2.1 (T j).2.2.1 = some x) (hin2 : meth.name = "<init>") (hdecl : (T j).1 = own) (hd : parseFieldDescriptor (T j).2.2.1 = some ty) (hn : narrow ty v = v) (hfit : fits ty v = true) (hl : j < fs.length) (hfs : fs.set j v = fs') (hcs : cs.set ci [(a, .inr (k, fs'))] = cs') (hdg : decode cc pc = .ok (.putfield index, 3)) (kk : ∀ (H1 : Heap) (locs1 : List Loc), va_P G vwCl (wj cs') H1 → va_D A (wj cs') → va_S A s.heap H1 locs1 → W p l e R s m args below meth c H1 locs1 cells slots Q (F0 m (pc + 3) ls rest)) : W p l e R s m args below meth c H locs cells slots Q (F0 m pc ls (v :: .ref a :: rest)) := by
  subst hfs
  subst hcs
  have he : ([(a, .inr (k, fs))] : va_W)[0]? = some (a, .inr (k, fs)) := rfl
  by_cases hf : (T j).2.2.2 = true
  · refine va_putF (D := G) (ci := k) (v := v) (ty := ty) (C := C) (T := T) (N := N) hx hb hts hin ty0 hty hnm hown hK hP hD hS _ (wj_get hi he) hc j hj hlink hsame hf hin2 hdecl hd hn hfit hl hdg ?_
    rw [wj_set hi (Nat.le_of_ble_eq_true rfl)]
    exact kk
  · refine va_put (D := G) (ci := k) (v := v) (ty := ty) (C := C) (T := T) (N := N) hx hb hts hin ty0 hty hnm hown hK hP hD hS _ (wj_get hi he) hc j hj hlink hsame (by simpa using hf) hd hn hfit hl hdg ?_
    rw [wj_set hi (Nat.le_of_ble_eq_true rfl)]
    exact kk
/-- a constructor's contract: it makes at most mc cells of ms slots, its world comes as components with their addresses -/
def MetN {σ : Type} (l : Launch) (y : MethodName) (bytes : ByteArray) (maxL f lc mc ms : Nat) (G : va_G) (cy : Nat → ClassId) (ev : Nat → Nat) (av : List Value) (w : va_W) (px : σ → Prop) (wf : σ → List va_W) : Prop :=
  ∀ sz : Nat, Met l y (.code y bytes maxL none :: WL) { frames := f, cells := mc, slots := ms, locals := lc } (fun v U => mPre G cy ev av sz w v U ∧ va_AOA .int U) (va_Qv px (fun u t => va_P G vwCl (wj (wf u)) t.heap ∧ va_K G vwCl (tysX cy) t ∧ va_D (va_A w sz) (wj (wf u))) (va_A w sz)) mc ms (va_A w sz)
theorem MetN.start {σ : Type} {l : Launch} {y : MethodName} {bytes : ByteArray} {maxL f lc mc ms : Nat} {G : va_G} {cy : Nat → ClassId} {ev : Nat → Nat} {av : List Value} {w : va_W} {px : σ → Prop} {wf : σ → List va_W}
    (hy : plainName y.cls = true) (hlen : (lg_sl av).length ≤ maxL) (hnm : y.name = "<init>")
    (K : ∀ (p : Program) (e : Env) (s : State) (m : MethodId) (args : Array Value) (below : List Frame) (meth : Method) (c : Code) (A : Nat → Prop) (ls : Array Slot), p.tables.exec = Jvm.exec → c.code = bytes → meth.sig.returnType = none → c.maxLocals = maxL → s.vm.findClass y.cls = some m.cls → (∀ w ∈ WL, w.before args s = true) → meth.locks = false → meth.name = "<init>" → va_AOA .int s → va_K G vwCl (tysX cy) s → va_P G vwCl w s.heap → va_D A w → (∀ q : Nat, s.heap.size ≤ q → A q) → lv_has ls maxL (lv_args 0 av) → EV ev A s s.heap →
      W p l e { frames := f, cells := mc, slots := ms, locals := lc } s m args below meth c s.heap [] 0 0 (MQ below (va_Qv px (fun u t => va_P G vwCl (wj (wf u)) t.heap ∧ va_K G vwCl (tysX cy) t ∧ va_D A (wj (wf u))) A) args s mc ms A) (F0 m 0 ls [])) : MetN l y bytes maxL f lc mc ms G cy ev av w px wf := by
  intro sz
  refine Met.ofW (cc := bytes) (maxL := maxL) (ret := none) hy rfl ?_
  intro p e s m args below meth c s₁ B hml hv
  obtain ⟨⟨rfl, hsz, hP, hK, hD0, hE⟩, hao⟩ := hv
  have hts0 := atoms_spec (ws := .code y bytes maxL none :: WL) B.pre
  have hown : s.vm.findClass y.cls = some m.cls := findClass_of_methodNamed B.named
  subst hsz
  have hD := hD0.self (sz := s.heap.size)
  have hl := lv_entry av (n := maxL) hlen
  rw [lg_entry_eq]
  exact K p e s m _ below meth c _ _ B.exec B.bytes B.returns hml hown (fun w h => hts0 w (List.mem_cons_of_mem _ h)) B.notSynchronized ((name_of_methodNamed B.named B.method).1.trans hnm) hao hK hP hD (fun q h => Or.inr h) hl hE
theorem retN {σ : Type} {px : σ → Prop} {wf : σ → List va_W} (u : σ) (hu : px u) (hx : p.tables.exec = Jvm.exec) (hb : c.code = cc) (hr : meth.sig.returnType = none) (hlocks : meth.locks = false) (hK : va_K G vwCl (tysX cy) s) (hP : va_P G vwCl (wj (wf u)) H) (hD : va_D A (wj (wf u))) (hS : va_S A s.heap H locs) (hdg : decode cc pc = .ok (.return_, 1)) : W p l e R s m args below meth c H locs cells slots (MQ below (va_Qv px (fun u t => va_P G vwCl (wj (wf u)) t.heap ∧ va_K G vwCl (tysX cy) t ∧ va_D A (wj (wf u))) A) args s cells slots A) (F0 m pc ls []) :=
  W.vret hx hb hr (fun t9 ht hW => ⟨⟨u, rfl, hu, by rw [ht]; exact hP, va_K.moved hW.alike hK, hD⟩, hS.F ht⟩) hS.2.2 hdg hlocks
theorem sel_join2 {A : Nat → Prop} {G : va_G} {cl : List vw_C} {cs ccs ccs' rs : List va_W} {isC isR : List Nat} {H H1 : Heap} (hP : va_P G cl (wj cs) H) (hD : va_D A (wj cs)) (hC : isC.map (fun i => cs[i]?) = ccs.map some) (hR : isR.map (fun i => cs[i]?) = rs.map some) (hnR : va_nd isR = true) (hdis : ∀ i ∈ isR, i ∉ isC)
    (hk : ∀ q : Nat, q < H.size → ¬ va_A (wj ccs) H.size q → H1[q]? = H[q]?) (hF : ∀ q, va_A (wj ccs) H.size q → A q) (hP1 : va_P G cl (wj ccs') H1) (hD1 : va_D (va_A (wj ccs) H.size) (wj ccs')) : va_P G cl (wj (rs ++ ccs')) H1 ∧ va_D A (wj (rs ++ ccs')) := by
  obtain ⟨d1, d2⟩ := wj_D.mp hD
  have apart : ∀ (n : Nat) (q : Nat × va_E), (wj rs)[n]? = some q → q.1 < H.size ∧ ¬ va_A (wj ccs) H.size q.1 := by
    intro n q hq
    obtain ⟨b, k, cb, h1, h2, -⟩ := wj_ix hq
    obtain ⟨i, g1, g2⟩ := sel_at hR h1
    have hl := (wj_P.mp hP i cb g2 k q h2).lt
    refine ⟨hl, fun h => ?_⟩
    rcases h with ⟨n2, e, h⟩ | h
    · obtain ⟨b2, k2, c2, h3, h4, -⟩ := wj_ix h
      obtain ⟨j, g3, g4⟩ := sel_at hC h3
      obtain ⟨e1, -⟩ := d1 i j k k2 cb c2 q (q.1, e) g2 g4 h2 h4 rfl
      subst e1
      exact hdis i (List.mem_iff_getElem?.mpr ⟨b, g1⟩) (List.mem_iff_getElem?.mpr ⟨b2, g3⟩)
    · omega
  have e9 : wj (rs ++ ccs') = wj rs ++ wj ccs' := by unfold wj; rw [List.flatten_append]
  rw [e9]
  refine ⟨va_P.app ((sel_P hR hP).kept (fun n q hq => ?_)) hP1, va_D.app (sel_D hR hnR hD) (hD1.weaken (fun k q _ h => hF q.1 h)) (fun i j x y hx hy hxy => ?_)⟩
  · obtain ⟨a1, a2⟩ := apart n q hq
    exact hk q.1 a1 a2
  · exact (apart i x hx).2 (by rw [hxy]; exact hD1.2 j y hy)
theorem callNI {σ : Type} {own : String} {idx n b maxL f lc mc ms : Nat} {y : MethodName} {bytes : ByteArray} {As : List Value} {ccs rs : List va_W} {isC isR : List Nat} {px : σ → Prop} {wf : σ → List va_W} (hx : p.tables.exec = Jvm.exec) (hb : c.code = cc) (hml : c.maxLocals = nL) (hown : s.vm.findClass own = some m.cls) (hts : ∀ w ∈ WL, w.before args s = true) (hao : va_AOA .int s) (hM : MetN l y bytes maxL f lc mc ms G cy ev (.ref b :: As) (wj ccs) px wf) (hlk : Cond.methodLink own idx y ∈ WL) (hins : Cond.instanceMethod y ∈ WL) (hini : Cond.initialized y.cls ∈ WL) (hcd : Cond.code y bytes maxL none ∈ WL) (hd : y.cls ≠ "java/lang/invoke/MethodHandle" ∧ y.cls ≠ "java/lang/invoke/VarHandle" ∧ (parseMethodDescriptor y.desc).map (fun d => d.parameters.length) = some n) (hnm : y.name = "<init>") (hR : f + 1 ≤ R.frames ∧ 8 + (maxL + 11) + lc ≤ R.locals) (hK : va_K G vwCl (tysX cy) s) (hP : va_P G vwCl (wj cs) H) (hD : va_D A (wj cs)) (hS : va_S A s.heap H locs) (hA : ∀ q : Nat, s.heap.size ≤ q → A q) (hE : EV ev A s s.heap) (hC : isC.map (fun i => cs[i]?) = ccs.map some) (hRr : isR.map (fun i => cs[i]?) = rs.map some) (hnC : va_nd isC = true) (hnR : va_nd isR = true) (hdis : ∀ i ∈ isR, i ∉ isC) (hst : st = As.reverse ++ .ref b :: rest) (hAn : As.length = n) (hsz : ls.size = nL) (hrm : (rest.map fun v => v.category).sum ≤ 8) (hdg : decode cc pc = .ok (.invokespecial idx, 3)) (hf : cells + mc ≤ R.cells ∧ slots + ms ≤ R.slots) (kk : ∀ (u : σ) (H1 : Heap) (locs1 : List Loc), px u → va_P G vwCl (wj (rs ++ wf u)) H1 → va_D A (wj (rs ++ wf u)) → va_S A s.heap H1 locs1 → W p l e R s m args below meth c H1 locs1 (cells + mc) (slots + ms) Q (F0 m (pc + 3) ls rest)) : W p l e R s m args below meth c H locs cells slots Q (F0 m pc ls st) := by
  subst hst
  have hPc : va_P G vwCl (wj ccs) H := sel_P hC hP
  have hDc : va_D A (wj ccs) := sel_D hC hnC hD
  have hFc := sel_F hC hD hS hA
  refine va_callv (va_runI (As := As) (rest := rest) ⟨hx, hb, hml, hown, hts⟩ (hM H.size) (cwI n hts (wl_inW hcd) rfl rfl rfl (hts _ hini) (hts _ hlk) (hts _ hins) hnm hd hR) ⟨fun a U g mk q => by obtain ⟨⟨q0, q1, qP, qK, qD, qE⟩, qa⟩ := q; exact ⟨⟨q0, q1, qP, va_K.moved (u := U) (U := U.calling g mk a) (Vm.Alike.refl U.vm) qK, qD, EV.same (s := U) (U := U.calling g mk a) rfl qE⟩, AOA_moved (u := U) (Vm.Alike.refl U.vm) qa⟩, fun U hU hW => ⟨⟨rfl, by rw [hU], by rw [hU]; exact hPc, va_K.moved hW.alike hK, hDc.weaken (fun _ _ _ _ => trivial), EV.pass hE hS hFc hW hU⟩, AOA_moved hW.alike hao⟩⟩ rfl hAn hsz rfl (lv_room hrm) hdg hf) hS (fun q _ h => hFc q h) hFc (fun u t H1 locs1 ht hvm hw hB hz1 hk1 hS1 => ?_)
  obtain ⟨hP1, hK1, hD1⟩ := hB
  rw [ht] at hP1
  obtain ⟨hP2, hD2⟩ := sel_join2 hP hD hC hRr hnR hdis hk1 hFc hP1 hD1
  exact kk u H1 locs1 hw hP2 hD2 hS1
theorem callNIN {σ : Type} {own host : String} {idx n b maxL f lc mc ms : Nat} {y : MethodName} {bytes : ByteArray} {As : List Value} {ccs rs : List va_W} {isC isR : List Nat} {px : σ → Prop} {wf : σ → List va_W} (hx : p.tables.exec = Jvm.exec) (hb : c.code = cc) (hml : c.maxLocals = nL) (hown : s.vm.findClass own = some m.cls) (hts : ∀ w ∈ WL, w.before args s = true) (hao : va_AOA .int s) (hM : MetN l y bytes maxL f lc mc ms G cy ev (.ref b :: As) (wj ccs) px wf) (hlk : va_Nw (.methodLinkNest own idx y host) s) (hins : Cond.instanceMethod y ∈ WL) (hini : Cond.initialized y.cls ∈ WL) (hcd : Cond.code y bytes maxL none ∈ WL) (hd : y.cls ≠ "java/lang/invoke/MethodHandle" ∧ y.cls ≠ "java/lang/invoke/VarHandle" ∧ (parseMethodDescriptor y.desc).map (fun d => d.parameters.length) = some n) (hnm : y.name = "<init>") (hR : f + 1 ≤ R.frames ∧ 8 + (maxL + 11) + lc ≤ R.locals) (hK : va_K G vwCl (tysX cy) s) (hP : va_P G vwCl (wj cs) H) (hD : va_D A (wj cs)) (hS : va_S A s.heap H locs) (hA : ∀ q : Nat, s.heap.size ≤ q → A q) (hE : EV ev A s s.heap) (hC : isC.map (fun i => cs[i]?) = ccs.map some) (hRr : isR.map (fun i => cs[i]?) = rs.map some) (hnC : va_nd isC = true) (hnR : va_nd isR = true) (hdis : ∀ i ∈ isR, i ∉ isC) (hst : st = As.reverse ++ .ref b :: rest) (hAn : As.length = n) (hsz : ls.size = nL) (hrm : (rest.map fun v => v.category).sum ≤ 8) (hdg : decode cc pc = .ok (.invokespecial idx, 3)) (hf : cells + mc ≤ R.cells ∧ slots + ms ≤ R.slots) (kk : ∀ (u : σ) (H1 : Heap) (locs1 : List Loc), px u → va_P G vwCl (wj (rs ++ wf u)) H1 → va_D A (wj (rs ++ wf u)) → va_S A s.heap H1 locs1 → W p l e R s m args below meth c H1 locs1 (cells + mc) (slots + ms) Q (F0 m (pc + 3) ls rest)) : W p l e R s m args below meth c H locs cells slots Q (F0 m pc ls st) := by
  subst hst
  have hPc : va_P G vwCl (wj ccs) H := sel_P hC hP
  have hDc : va_D A (wj ccs) := sel_D hC hnC hD
  have hFc := sel_F hC hD hS hA
  refine va_callv (va_runIN (As := As) (rest := rest) ⟨hx, hb, hml, hown, hts⟩ (hM H.size) ⟨va_cnB n hts (wl_inW hcd) rfl rfl rfl hlk (hts _ hini) hd hR, hnm, hts _ hins⟩ ⟨fun a U g mk q => by obtain ⟨⟨q0, q1, qP, qK, qD, qE⟩, qa⟩ := q; exact ⟨⟨q0, q1, qP, va_K.moved (u := U) (U := U.calling g mk a) (Vm.Alike.refl U.vm) qK, qD, EV.same (s := U) (U := U.calling g mk a) rfl qE⟩, AOA_moved (u := U) (Vm.Alike.refl U.vm) qa⟩, fun U hU hW => ⟨⟨rfl, by rw [hU], by rw [hU]; exact hPc, va_K.moved hW.alike hK, hDc.weaken (fun _ _ _ _ => trivial), EV.pass hE hS hFc hW hU⟩, AOA_moved hW.alike hao⟩⟩ rfl hAn hsz rfl (lv_room hrm) hdg hf) hS (fun q _ h => hFc q h) hFc (fun u t H1 locs1 ht hvm hw hB hz1 hk1 hS1 => ?_)
  obtain ⟨hP1, hK1, hD1⟩ := hB
  rw [ht] at hP1
  obtain ⟨hP2, hD2⟩ := sel_join2 hP hD hC hRr hnR hdis hk1 hFc hP1 hD1
  exact kk u H1 locs1 hw hP2 hD2 hS1
end INI
