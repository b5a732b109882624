def R_law : String := "ThreeSittingsLaw"
def lw_P (b : Addr) (xs : List Int32) (args : Array Value) (s : State) : Prop := args = #[.ref b] ∧ s.IntsAt b xs ∧ xs.length ≤ 3072 ∧ (Jvm.Cond.and given_1 narrow_1).before args s = true
def lw_Q (_ : Array Value) (s : State) (o : Outcome) (t : State) : Prop := o = .returned (some (.int 1)) ∧ Framed s o t [] 601024 7293034
def lw_Z (below : List Frame) (a : Array Value) (s : State) : State → Prop := fun t => ∃ o, t.status = .running ∧ Ended t below o ∧ lw_Q a s o t
/-- the law's own end, with 1 on the stack, nothing written that was there before, its room as the claim has it -/
theorem lw_ret {p : Program} {l : Launch} {e : Env} {s : State} {m : MethodId} {below : List Frame} {meth : Method} {c : Code} {b : Nat} (hx : p.tables.exec = Jvm.exec) (hb : c.code = code) (hr : meth.sig.returnType = ret) (hlocks : meth.locks = false) {pc : Nat} {H : Heap} {ls : Array Slot} (hdg : decode code pc = .ok (.ireturn, 1)) : W p l e room_1 s m #[Value.ref b] below meth c H [] 601024 7293034 (lw_Z below #[Value.ref b] s) (F0 m pc ls [.int 1]) := by
  intro T hT X
  obtain ⟨fs, hret, hrun, hended, hW, hframe⟩ := X.leave (v := some (.int 1)) (hlocks := hlocks) (fun h => by rw [hr] at h; cases h)
  have hmeth' : T.vm.method? m = some meth := X.method'
  refine ⟨T.setFrames fs, ?_, .returned (some (.int 1)), hrun, hended, rfl, ⟨_, rfl⟩, hW, hframe⟩
  jvm_step X.here [X.here.top, hx, hb, hdg, hmeth', hr, ret, narrow_b1]
  (try refine ⟨rfl, ?_⟩); (try refine ⟨rfl, ?_⟩)
  first | (intro acts; rw [hret _ acts rfl rfl rfl]) | rw [hret _ _ rfl rfl rfl]
  exact Steps.refl _
/-- what holds at the law's entry: the machine, the code, the tables' words (any of lw_tbl by 'hts w (by decide +kernel)'), the script of L ints xs at the cell b, what the Statement gives of the start (any of its parts by flat_of_before) -/
def lw_At (p : Program) (s : State) (m : MethodId) (meth : Method) (c : Code) (b L : Nat) (xs : Nat → Int32) : Prop :=
  p.tables.exec = Jvm.exec ∧ c.code = code ∧ meth.sig.returnType = ret ∧ c.maxLocals = 7 ∧ s.vm.findClass R_law = some m.cls ∧ (∀ w ∈ lw_tbl, w.before #[Value.ref b] s = true) ∧ va_X b L xs s s.heap ∧ b < s.heap.size ∧ meth.locks = false ∧ (Jvm.Cond.and given_1 narrow_1).before #[Value.ref b] s = true
/-- the loop's head, at its k-th turn -/
def LOOPS (p : Program) (l : Launch) (e : Env) (s : State) (m : MethodId) (below : List Frame) (meth : Method) (cd : Code) (b L : Nat) (INV : (Nat → VV) → (Nat → Int32) → (Nat → Int64) → VV → Prop) (G : va_G) (cy : Nat → ClassId) (k : Nat) : Prop :=
  ∀ (u : Nat → Nat → Nat) (adm : Nat → Nat) (qo : Nat) (cv : Nat → VV) (T : Nat → Int32) (B : Nat → Int64) (v : VV) (o : Nat → Int64) (x4 : Int32) (H : Heap) (locs : List Loc) (ls : Array Slot), x4 = nI (6 * k) → INV cv T B v → va_P G vwCl (wj (W22 cy u adm qo cv T B v o)) H → va_D (fun q => s.heap.size ≤ q) (wj (W22 cy u adm qo cv T B v o)) → va_S (fun q => s.heap.size ≤ q) s.heap H locs → lv_has ls 7 [(0, .ref b), (1, .ref (u 0 0)), (2, .ref (adm 0)), (3, .ref qo), (4, .int x4)] → W p l e room_1 s m #[Value.ref b] below meth cd H locs (170 + k) (6921 + 6 * k) (lw_Z below #[Value.ref b] s) (F0 m 23 ls [])
/-- what holds all along the law -/
def LCX (p : Program) (s : State) (m : MethodId) (meth : Method) (cd : Code) (b L : Nat) (xs : Nat → Int32) (G : va_G) (cy : Nat → ClassId) (ev : Nat → Nat) : Prop :=
  p.tables.exec = Jvm.exec ∧ cd.code = cL_law ∧ cd.maxLocals = 7 ∧ s.vm.findClass RL = some m.cls ∧ (∀ w ∈ WL, w.before #[Value.ref b] s = true) ∧ va_K G vwCl (tysX cy) s ∧ EV ev (fun q => s.heap.size ≤ q) s s.heap ∧ va_X b L xs s s.heap ∧ b < s.heap.size ∧ L ≤ 3072
theorem ix_in {k L j : Nat} (hk : 6 * k + 6 ≤ L) (hL : L ≤ 3072) (hj : j < 6) : vp_in (nI (6 * k) + nI j) L := by rw [nI_add]; exact vp_in_nI (by omega) (by omega)
set_option maxHeartbeats 4000000 in
set_option maxRecDepth 100000 in
theorem law_feed {p : Program} {l : Launch} {e : Env} {s : State} {m : MethodId} {below : List Frame} {meth : Method} {cd : Code} {b L : Nat} {xs : Nat → Int32} {N : Nat} {INV : (Nat → VV) → (Nat → Int32) → (Nat → Int64) → VV → Prop} {G : va_G} {cy : Nat → ClassId} {ev : Nat → Nat} (hst : ST_feed N INV) (C : LCX p s m meth cd b L xs G cy ev) (k : Nat) (hk : 6 * k + 6 ≤ L) (ih : LOOPS p l e s m below meth cd b L INV G cy (k + 1)) (u : Nat → Nat → Nat) (adm : Nat → Nat) (qo : Nat) (cv : Nat → VV) (T : Nat → Int32) (B : Nat → Int64) (v : VV) (o : Nat → Int64) (x4 : Int32) (H : Heap) (locs : List Loc) (ls : Array Slot) (hx4 : x4 = nI (6 * k)) (hI : INV cv T B v) (hP : va_P G vwCl (wj (W22 cy u adm qo cv T B v o)) H) (hD : va_D (fun q => s.heap.size ≤ q) (wj (W22 cy u adm qo cv T B v o))) (hS : va_S (fun q => s.heap.size ≤ q) s.heap H locs) (hl : lv_has ls 7 [(0, .ref b), (1, .ref (u 0 0)), (2, .ref (adm 0)), (3, .ref qo), (4, .int x4)]) : W p l e room_1 s m #[Value.ref b] below meth cd H locs (170 + k) (6921 + 6 * k) (lw_Z below #[Value.ref b] s) (F0 m 216 ls []) := by
  obtain ⟨hx, hb, hml, hown, hts, hK, hE, hX, hbl, hL⟩ := C
  have hA : ∀ q : Nat, s.heap.size ≤ q → (fun q : Nat => s.heap.size ≤ q) q := fun _ h => h
  have hbA : ¬ (fun q : Nat => s.heap.size ≤ q) b := Nat.not_le.mpr hbl
  have hin1 : vp_in (x4 + 1) L := by rw [hx4]; exact ix_in (j := 1) hk hL (by decide)
  have hin2 : vp_in (x4 + 2) L := by rw [hx4]; exact ix_in (j := 2) hk hL (by decide)
  have hin3 : vp_in (x4 + 3) L := by rw [hx4]; exact ix_in (j := 3) hk hL (by decide)
  have hin4 : vp_in (x4 + 4) L := by rw [hx4]; exact ix_in (j := 4) hk hL (by decide)
  have hin5 : vp_in (x4 + 5) L := by rw [hx4]; exact ix_in (j := 5) hk hL (by decide)
  refine lv_aload_n hx hb dL_law_216 rfl (lv_at hl 1 rfl) ?_
  refine lv_aload_n hx hb dL_law_217 rfl (lv_at hl 0 rfl) ?_
  refine lv_iload hx hb dL_law_218 (lv_at hl 4 rfl) ?_
  refine lv_iconst (v := 1) hx hb dL_law_220 (by decide) ?_
  refine lv_iadd hx hb dL_law_221 ?_
  refine va_sld hx hb hX hbl hbA hS hin1 dL_law_222 ?_
  refine lv_aload_n hx hb dL_law_223 rfl (lv_at hl 0 rfl) ?_
  refine lv_iload hx hb dL_law_224 (lv_at hl 4 rfl) ?_
  refine lv_iconst (v := 2) hx hb dL_law_226 (by decide) ?_
  refine lv_iadd hx hb dL_law_227 ?_
  refine va_sld hx hb hX hbl hbA hS hin2 dL_law_228 ?_
  refine lv_aload_n hx hb dL_law_229 rfl (lv_at hl 0 rfl) ?_
  refine lv_iload hx hb dL_law_230 (lv_at hl 4 rfl) ?_
  refine lv_iconst (v := 3) hx hb dL_law_232 (by decide) ?_
  refine lv_iadd hx hb dL_law_233 ?_
  refine va_sld hx hb hX hbl hbA hS hin3 dL_law_234 ?_
  refine lv_aload_n hx hb dL_law_235 rfl (lv_at hl 0 rfl) ?_
  refine lv_iload hx hb dL_law_236 (lv_at hl 4 rfl) ?_
  refine lv_iconst (v := 4) hx hb dL_law_238 (by decide) ?_
  refine lv_iadd hx hb dL_law_239 ?_
  refine va_sld hx hb hX hbl hbA hS hin4 dL_law_240 ?_
  refine lv_aload_n hx hb dL_law_241 rfl (lv_at hl 0 rfl) ?_
  refine lv_iload hx hb dL_law_242 (lv_at hl 4 rfl) ?_
  refine lv_iconst (v := 5) hx hb dL_law_244 (by decide) ?_
  refine lv_iadd hx hb dL_law_245 ?_
  refine va_sld hx hb hX hbl hbA hS hin5 dL_law_246 ?_
  obtain ⟨r, n0, n1, v1, hf, hm, hI⟩ := hst cv T B v (xs (x4 + 1).toNatClampNeg) (xs (x4 + 2).toNatClampNeg) (xs (x4 + 3).toNatClampNeg) (xs (x4 + 4).toNatClampNeg) (xs (x4 + 5).toNatClampNeg) hI
  refine callGVi (As := [.int (xs (x4 + 1).toNatClampNeg), .int (xs (x4 + 2).toNatClampNeg), .int (xs (x4 + 3).toNatClampNeg), .int (xs (x4 + 4).toNatClampNeg), .int (xs (x4 + 5).toNatClampNeg)]) (rest := []) (cs' := [cX11 cy (u 0) (u 1 0) (u 2 0) (u 6 0) (u 8 0) (u 9 0) (u 10 0) (u 11 0) (u 12 0) (u 13 0) (u 14 0) (u 15 0) (u 16 0) (u 17 0) (u 18 0) (u 19 0) n0, [(u 1 0, .inl (cy 0, 700, .inl n1))], cX7 cy (u 2) (u 3 0) (u 4 0) (cv 2), cX9 cy (u 3) (cv 3), cX6 cy (u 4) (u 5 0) (cv 4), cX3 cy (u 5) (cv 5), cX6 cy (u 6) (u 7 0) (cv 6), cX3 cy (u 7) (cv 7), cX8 cy (u 8) (cv 8), cX8 cy (u 9) (cv 9), cX8 cy (u 10) (cv 10), cX0 cy (u 11) (cv 11), cX10 cy (u 12) (cv 12), cX10 cy (u 13) (cv 13), cX10 cy (u 14) (cv 14), cX2 cy (u 15) (cv 15), cX5 cy (u 16) (cv 16), cX1 cy (u 17) (cv 17), cX4 cy (u 18) (cv 18), [(u 19 0, .inl (cy 2, 73, .inr (.inl B)))], cX12 cy adm v, [(qo, .inl (cy 2, 1, .inr (.inl o)))]]) (ccs := [cX11 cy (u 0) (u 1 0) (u 2 0) (u 6 0) (u 8 0) (u 9 0) (u 10 0) (u 11 0) (u 12 0) (u 13 0) (u 14 0) (u 15 0) (u 16 0) (u 17 0) (u 18 0) (u 19 0) (cv 0), [(u 1 0, .inl (cy 0, 700, .inl T))]]) (ccs' := [cX11 cy (u 0) (u 1 0) (u 2 0) (u 6 0) (u 8 0) (u 9 0) (u 10 0) (u 11 0) (u 12 0) (u 13 0) (u 14 0) (u 15 0) (u 16 0) (u 17 0) (u 18 0) (u 19 0) n0, [(u 1 0, .inl (cy 0, 700, .inl n1))]]) (isC := [0, 1]) (isR := [2, 3, 4, 5, 6, 7, 8, 9, 10, 11, 12, 13, 14, 15, 16, 17, 18, 19, 20, 21]) hx hb hml hown hts (k_X11_feed l G cy ev N (u 0) (u 2 0) (u 6 0) (u 8 0) (u 9 0) (u 10 0) (u 11 0) (u 12 0) (u 13 0) (u 14 0) (u 15 0) (u 16 0) (u 17 0) (u 18 0) (u 19 0) (cv 0) (u 1 0) T (xs (x4 + 1).toNatClampNeg) (xs (x4 + 2).toNatClampNeg) (xs (x4 + 3).toNatClampNeg) (xs (x4 + 4).toNatClampNeg) (xs (x4 + 5).toNatClampNeg) (r, n0, n1) hf) wm_11_7 wm_11_8 wm_11_9 wm_1_2 wm_11_10 hd_X11_feed ⟨by decide, by decide⟩ rfl rfl (by show _ ≤ 601024; omega) (by show _ ≤ 7293034; omega) hK hP hD hS hA hE rfl rfl rfl (cov_of (n := 22) rfl (by decide)) (by decide) rfl (recvW (ci := 0) hK hP rfl cX11_o rfl) rfl rfl hl.1 (Nat.le_of_ble_eq_true rfl) dL_law_247 (fun H locs hP hD hS => ?_)
  refine lv_aload_n hx hb dL_law_250 rfl (lv_at hl 2 rfl) ?_
  refine lv_aload_n hx hb dL_law_251 rfl (lv_at hl 0 rfl) ?_
  refine lv_iload hx hb dL_law_252 (lv_at hl 4 rfl) ?_
  refine lv_iconst (v := 1) hx hb dL_law_254 (by decide) ?_
  refine lv_iadd hx hb dL_law_255 ?_
  refine va_sld hx hb hX hbl hbA hS hin1 dL_law_256 ?_
  refine lv_aload_n hx hb dL_law_257 rfl (lv_at hl 0 rfl) ?_
  refine lv_iload hx hb dL_law_258 (lv_at hl 4 rfl) ?_
  refine lv_iconst (v := 2) hx hb dL_law_260 (by decide) ?_
  refine lv_iadd hx hb dL_law_261 ?_
  refine va_sld hx hb hX hbl hbA hS hin2 dL_law_262 ?_
  refine lv_aload_n hx hb dL_law_263 rfl (lv_at hl 0 rfl) ?_
  refine lv_iload hx hb dL_law_264 (lv_at hl 4 rfl) ?_
  refine lv_iconst (v := 3) hx hb dL_law_266 (by decide) ?_
  refine lv_iadd hx hb dL_law_267 ?_
  refine va_sld hx hb hX hbl hbA hS hin3 dL_law_268 ?_
  refine lv_aload_n hx hb dL_law_269 rfl (lv_at hl 0 rfl) ?_
  refine lv_iload hx hb dL_law_270 (lv_at hl 4 rfl) ?_
  refine lv_iconst (v := 4) hx hb dL_law_272 (by decide) ?_
  refine lv_iadd hx hb dL_law_273 ?_
  refine va_sld hx hb hX hbl hbA hS hin4 dL_law_274 ?_
  refine lv_aload_n hx hb dL_law_275 rfl (lv_at hl 0 rfl) ?_
  refine lv_iload hx hb dL_law_276 (lv_at hl 4 rfl) ?_
  refine lv_iconst (v := 5) hx hb dL_law_278 (by decide) ?_
  refine lv_iadd hx hb dL_law_279 ?_
  refine va_sld hx hb hX hbl hbA hS hin5 dL_law_280 ?_
  refine callGVi (As := [.int (xs (x4 + 1).toNatClampNeg), .int (xs (x4 + 2).toNatClampNeg), .int (xs (x4 + 3).toNatClampNeg), .int (xs (x4 + 4).toNatClampNeg), .int (xs (x4 + 5).toNatClampNeg)]) (rest := [.int r]) (cs' := [cX11 cy (u 0) (u 1 0) (u 2 0) (u 6 0) (u 8 0) (u 9 0) (u 10 0) (u 11 0) (u 12 0) (u 13 0) (u 14 0) (u 15 0) (u 16 0) (u 17 0) (u 18 0) (u 19 0) n0, [(u 1 0, .inl (cy 0, 700, .inl n1))], cX7 cy (u 2) (u 3 0) (u 4 0) (cv 2), cX9 cy (u 3) (cv 3), cX6 cy (u 4) (u 5 0) (cv 4), cX3 cy (u 5) (cv 5), cX6 cy (u 6) (u 7 0) (cv 6), cX3 cy (u 7) (cv 7), cX8 cy (u 8) (cv 8), cX8 cy (u 9) (cv 9), cX8 cy (u 10) (cv 10), cX0 cy (u 11) (cv 11), cX10 cy (u 12) (cv 12), cX10 cy (u 13) (cv 13), cX10 cy (u 14) (cv 14), cX2 cy (u 15) (cv 15), cX5 cy (u 16) (cv 16), cX1 cy (u 17) (cv 17), cX4 cy (u 18) (cv 18), [(u 19 0, .inl (cy 2, 73, .inr (.inl B)))], cX12 cy adm v1, [(qo, .inl (cy 2, 1, .inr (.inl o)))]]) (ccs := [cX12 cy adm v]) (ccs' := [cX12 cy adm v1]) (isC := [20]) (isR := [0, 1, 2, 3, 4, 5, 6, 7, 8, 9, 10, 11, 12, 13, 14, 15, 16, 17, 18, 19, 21]) hx hb hml hown hts (k_X12_feed l G cy ev N adm v (xs (x4 + 1).toNatClampNeg) (xs (x4 + 2).toNatClampNeg) (xs (x4 + 3).toNatClampNeg) (xs (x4 + 4).toNatClampNeg) (xs (x4 + 5).toNatClampNeg) (r, v1) hm) wm_11_15 wm_11_16 wm_11_17 wm_1_5 wm_11_18 hd_X12_feed ⟨by decide, by decide⟩ wj_one.symm wj_one.symm (by show _ ≤ 601024; omega) (by show _ ≤ 7293034; omega) hK hP hD hS hA hE rfl rfl rfl (cov_of (n := 22) rfl (by decide)) (by decide) rfl (recvW (ci := 20) hK hP rfl (show (cX12 cy adm v)[0]? = some (adm 0, _) from rfl) rfl) rfl rfl hl.1 (Nat.le_of_ble_eq_true rfl) dL_law_281 (fun H locs hP hD hS => ?_)
  refine lv_icmp_eq (tgt := 1493) hx hb dL_law_284 (by decide) (fun _ => ?_) (fun c9 => absurd rfl c9)
  obtain ⟨x5, e5⟩ : ∃ y : Int32, y = x4 + 6 := ⟨_, rfl⟩
  refine lv_iinc (v := x5) (lv' := [(4, .int x5), (0, .ref b), (1, .ref (u 0 0)), (2, .ref (adm 0)), (3, .ref qo)]) hx hb dL_law_1493 hl (k := 4) rfl (by rw [e5]; rfl) (by decide) rfl (fun ls hl => ?_)
  refine lv_goto (tgt := 23) hx hb dL_law_1496 (by decide) ?_
  refine W.widen (k := 170 + (k + 1)) (n := 6921 + 6 * (k + 1)) (by omega) (by omega) ?_
  exact ih (u) adm qo (uc cv 0 n0) n1 B v1 o x5 _ _ ls (by rw [e5, hx4]; exact (nI_add (6 * k) 6).trans (by rw [Nat.mul_succ])) hI hP hD hS (lv_sub hl [1, 2, 3, 4, 0] rfl)
set_option maxHeartbeats 4000000 in
set_option maxRecDepth 100000 in
theorem law_text {p : Program} {l : Launch} {e : Env} {s : State} {m : MethodId} {below : List Frame} {meth : Method} {cd : Code} {b L : Nat} {xs : Nat → Int32} {N : Nat} {INV : (Nat → VV) → (Nat → Int32) → (Nat → Int64) → VV → Prop} {G : va_G} {cy : Nat → ClassId} {ev : Nat → Nat} (hst : ST_text N INV) (C : LCX p s m meth cd b L xs G cy ev) (k : Nat) (hk : 6 * k + 6 ≤ L) (ih : LOOPS p l e s m below meth cd b L INV G cy (k + 1)) (u : Nat → Nat → Nat) (adm : Nat → Nat) (qo : Nat) (cv : Nat → VV) (T : Nat → Int32) (B : Nat → Int64) (v : VV) (o : Nat → Int64) (x4 : Int32) (H : Heap) (locs : List Loc) (ls : Array Slot) (hx4 : x4 = nI (6 * k)) (hI : INV cv T B v) (hP : va_P G vwCl (wj (W22 cy u adm qo cv T B v o)) H) (hD : va_D (fun q => s.heap.size ≤ q) (wj (W22 cy u adm qo cv T B v o))) (hS : va_S (fun q => s.heap.size ≤ q) s.heap H locs) (hl : lv_has ls 7 [(0, .ref b), (1, .ref (u 0 0)), (2, .ref (adm 0)), (3, .ref qo), (4, .int x4)]) : W p l e room_1 s m #[Value.ref b] below meth cd H locs (170 + k) (6921 + 6 * k) (lw_Z below #[Value.ref b] s) (F0 m 289 ls []) := by
  obtain ⟨hx, hb, hml, hown, hts, hK, hE, hX, hbl, hL⟩ := C
  have hA : ∀ q : Nat, s.heap.size ≤ q → (fun q : Nat => s.heap.size ≤ q) q := fun _ h => h
  have hbA : ¬ (fun q : Nat => s.heap.size ≤ q) b := Nat.not_le.mpr hbl
  have hin1 : vp_in (x4 + 1) L := by rw [hx4]; exact ix_in (j := 1) hk hL (by decide)
  have hin2 : vp_in (x4 + 2) L := by rw [hx4]; exact ix_in (j := 2) hk hL (by decide)
  have hin3 : vp_in (x4 + 3) L := by rw [hx4]; exact ix_in (j := 3) hk hL (by decide)
  have hin4 : vp_in (x4 + 4) L := by rw [hx4]; exact ix_in (j := 4) hk hL (by decide)
  have hin5 : vp_in (x4 + 5) L := by rw [hx4]; exact ix_in (j := 5) hk hL (by decide)
  refine lv_aload_n hx hb dL_law_289 rfl (lv_at hl 1 rfl) ?_
  refine lv_aload_n hx hb dL_law_290 rfl (lv_at hl 0 rfl) ?_
  refine lv_iload hx hb dL_law_291 (lv_at hl 4 rfl) ?_
  refine lv_iconst (v := 1) hx hb dL_law_293 (by decide) ?_
  refine lv_iadd hx hb dL_law_294 ?_
  refine va_sld hx hb hX hbl hbA hS hin1 dL_law_295 ?_
  obtain ⟨r, sw, n0, n1, n2, n3, n4, n5, n6, n7, n8, n9, v1, hf, hm, hI⟩ := hst cv T B v (xs (x4 + 1).toNatClampNeg) hI
  cases sw with
  | false =>
    refine callGVi (As := [.int (xs (x4 + 1).toNatClampNeg)]) (rest := []) (cs' := [cX11 cy (u 0) (u 1 0) (u 2 0) (u 6 0) (u 8 0) (u 9 0) (u 10 0) (u 11 0) (u 12 0) (u 13 0) (u 14 0) (u 15 0) (u 16 0) (u 17 0) (u 18 0) (u 19 0) n0, [(u 1 0, .inl (cy 0, 700, .inl T))], cX7 cy (u 2) (u 3 0) (u 4 0) n1, cX9 cy (u 3) n2, cX6 cy (u 4) (u 5 0) n3, cX3 cy (u 5) n4, cX6 cy (u 6) (u 7 0) (cv 6), cX3 cy (u 7) (cv 7), cX8 cy (u 8) n5, cX8 cy (u 9) (cv 9), cX8 cy (u 10) (cv 10), cX0 cy (u 11) (cv 11), cX10 cy (u 12) (cv 12), cX10 cy (u 13) (cv 13), cX10 cy (u 14) (cv 14), cX2 cy (u 15) n6, cX5 cy (u 16) n7, cX1 cy (u 17) n8, cX4 cy (u 18) n9, [(u 19 0, .inl (cy 2, 73, .inr (.inl B)))], cX12 cy adm v, [(qo, .inl (cy 2, 1, .inr (.inl o)))]]) (ccs := [cX11 cy (u 0) (u 1 0) (u 2 0) (u 6 0) (u 8 0) (u 9 0) (u 10 0) (u 11 0) (u 12 0) (u 13 0) (u 14 0) (u 15 0) (u 16 0) (u 17 0) (u 18 0) (u 19 0) (cv 0), [(u 1 0, .inl (cy 0, 700, .inl T))], cX7 cy (u 2) (u 3 0) (u 4 0) (cv 2), cX9 cy (u 3) (cv 3), cX6 cy (u 4) (u 5 0) (cv 4), cX3 cy (u 5) (cv 5), cX8 cy (u 8) (cv 8), cX2 cy (u 15) (cv 15), cX5 cy (u 16) (cv 16), cX1 cy (u 17) (cv 17), cX4 cy (u 18) (cv 18)]) (ccs' := [cX11 cy (u 0) (u 1 0) (u 2 0) (u 6 0) (u 8 0) (u 9 0) (u 10 0) (u 11 0) (u 12 0) (u 13 0) (u 14 0) (u 15 0) (u 16 0) (u 17 0) (u 18 0) (u 19 0) n0, [(u 1 0, .inl (cy 0, 700, .inl T))], cX7 cy (u 2) (u 3 0) (u 4 0) n1, cX9 cy (u 3) n2, cX6 cy (u 4) (u 5 0) n3, cX3 cy (u 5) n4, cX8 cy (u 8) n5, cX2 cy (u 15) n6, cX5 cy (u 16) n7, cX1 cy (u 17) n8, cX4 cy (u 18) n9]) (isC := [0, 1, 2, 3, 4, 5, 8, 15, 16, 17, 18]) (isR := [6, 7, 9, 10, 11, 12, 13, 14, 19, 20, 21]) hx hb hml hown hts (k_X11_text l G cy ev N (u 0) (u 6 0) (u 9 0) (u 10 0) (u 11 0) (u 12 0) (u 13 0) (u 14 0) (u 19 0) (cv 0) (u 1 0) T (u 2) (cv 2) (u 3) (cv 3) (u 4) (cv 4) (u 5) (cv 5) (u 8) (cv 8) (u 15) (cv 15) (u 16) (cv 16) (u 17) (cv 17) (u 18) (cv 18) (xs (x4 + 1).toNatClampNeg) (r, false, n0, n1, n2, n3, n4, n5, n6, n7, n8, n9) hf) wm_11_21 wm_11_22 wm_11_23 wm_1_2 wm_12_0 hd_X11_text ⟨by decide, by decide⟩ rfl rfl (by show _ ≤ 601024; omega) (by show _ ≤ 7293034; omega) hK hP hD hS hA hE rfl rfl rfl (cov_of (n := 22) rfl (by decide)) (by decide) rfl (recvW (ci := 0) hK hP rfl cX11_o rfl) rfl rfl hl.1 (Nat.le_of_ble_eq_true rfl) dL_law_296 (fun H locs hP hD hS => ?_)
    refine lv_aload_n hx hb dL_law_299 rfl (lv_at hl 2 rfl) ?_
    refine lv_aload_n hx hb dL_law_300 rfl (lv_at hl 0 rfl) ?_
    refine lv_iload hx hb dL_law_301 (lv_at hl 4 rfl) ?_
    refine lv_iconst (v := 1) hx hb dL_law_303 (by decide) ?_
    refine lv_iadd hx hb dL_law_304 ?_
    refine va_sld hx hb hX hbl hbA hS hin1 dL_law_305 ?_
    refine callGVi (As := [.int (xs (x4 + 1).toNatClampNeg)]) (rest := [.int r]) (cs' := [cX11 cy (u 0) (u 1 0) (u 2 0) (u 6 0) (u 8 0) (u 9 0) (u 10 0) (u 11 0) (u 12 0) (u 13 0) (u 14 0) (u 15 0) (u 16 0) (u 17 0) (u 18 0) (u 19 0) n0, [(u 1 0, .inl (cy 0, 700, .inl T))], cX7 cy (u 2) (u 3 0) (u 4 0) n1, cX9 cy (u 3) n2, cX6 cy (u 4) (u 5 0) n3, cX3 cy (u 5) n4, cX6 cy (u 6) (u 7 0) (cv 6), cX3 cy (u 7) (cv 7), cX8 cy (u 8) n5, cX8 cy (u 9) (cv 9), cX8 cy (u 10) (cv 10), cX0 cy (u 11) (cv 11), cX10 cy (u 12) (cv 12), cX10 cy (u 13) (cv 13), cX10 cy (u 14) (cv 14), cX2 cy (u 15) n6, cX5 cy (u 16) n7, cX1 cy (u 17) n8, cX4 cy (u 18) n9, [(u 19 0, .inl (cy 2, 73, .inr (.inl B)))], cX12 cy adm v1, [(qo, .inl (cy 2, 1, .inr (.inl o)))]]) (ccs := [cX12 cy adm v]) (ccs' := [cX12 cy adm v1]) (isC := [20]) (isR := [0, 1, 2, 3, 4, 5, 6, 7, 8, 9, 10, 11, 12, 13, 14, 15, 16, 17, 18, 19, 21]) hx hb hml hown hts (k_X12_text l G cy ev N adm v (xs (x4 + 1).toNatClampNeg) (r, v1) hm) wm_19_18 wm_19_19 wm_19_20 wm_1_5 wm_19_21 hd_X12_text ⟨by decide, by decide⟩ wj_one.symm wj_one.symm (by show _ ≤ 601024; omega) (by show _ ≤ 7293034; omega) hK hP hD hS hA hE rfl rfl rfl (cov_of (n := 22) rfl (by decide)) (by decide) rfl (recvW (ci := 20) hK hP rfl (show (cX12 cy adm v)[0]? = some (adm 0, _) from rfl) rfl) rfl rfl hl.1 (Nat.le_of_ble_eq_true rfl) dL_law_306 (fun H locs hP hD hS => ?_)
    refine lv_icmp_eq (tgt := 1493) hx hb dL_law_309 (by decide) (fun _ => ?_) (fun c9 => absurd rfl c9)
    obtain ⟨x5, e5⟩ : ∃ y : Int32, y = x4 + 6 := ⟨_, rfl⟩
    refine lv_iinc (v := x5) (lv' := [(4, .int x5), (0, .ref b), (1, .ref (u 0 0)), (2, .ref (adm 0)), (3, .ref qo)]) hx hb dL_law_1493 hl (k := 4) rfl (by rw [e5]; rfl) (by decide) rfl (fun ls hl => ?_)
    refine lv_goto (tgt := 23) hx hb dL_law_1496 (by decide) ?_
    refine W.widen (k := 170 + (k + 1)) (n := 6921 + 6 * (k + 1)) (by omega) (by omega) ?_
    exact ih (u) adm qo (uc (uc (uc (uc (uc (uc (uc (uc (uc (uc cv 0 n0) 2 n1) 3 n2) 4 n3) 5 n4) 8 n5) 15 n6) 16 n7) 17 n8) 18 n9) T B v1 o x5 _ _ ls (by rw [e5, hx4]; exact (nI_add (6 * k) 6).trans (by rw [Nat.mul_succ])) hI hP hD hS (lv_sub hl [1, 2, 3, 4, 0] rfl)
  | true =>
    refine callGVi (As := [.int (xs (x4 + 1).toNatClampNeg)]) (rest := []) (cs' := [cX11 cy (u 0) (u 1 0) (u 2 0) (u 4 0) (u 8 0) (u 9 0) (u 10 0) (u 11 0) (u 12 0) (u 13 0) (u 14 0) (u 15 0) (u 16 0) (u 17 0) (u 18 0) (u 19 0) n0, [(u 1 0, .inl (cy 0, 700, .inl T))], cX7 cy (u 2) (u 3 0) (u 6 0) n1, cX9 cy (u 3) n2, cX6 cy (u 4) (u 5 0) n3, cX3 cy (u 5) n4, cX6 cy (u 6) (u 7 0) (cv 6), cX3 cy (u 7) (cv 7), cX8 cy (u 8) n5, cX8 cy (u 9) (cv 9), cX8 cy (u 10) (cv 10), cX0 cy (u 11) (cv 11), cX10 cy (u 12) (cv 12), cX10 cy (u 13) (cv 13), cX10 cy (u 14) (cv 14), cX2 cy (u 15) n6, cX5 cy (u 16) n7, cX1 cy (u 17) n8, cX4 cy (u 18) n9, [(u 19 0, .inl (cy 2, 73, .inr (.inl B)))], cX12 cy adm v, [(qo, .inl (cy 2, 1, .inr (.inl o)))]]) (ccs := [cX11 cy (u 0) (u 1 0) (u 2 0) (u 6 0) (u 8 0) (u 9 0) (u 10 0) (u 11 0) (u 12 0) (u 13 0) (u 14 0) (u 15 0) (u 16 0) (u 17 0) (u 18 0) (u 19 0) (cv 0), [(u 1 0, .inl (cy 0, 700, .inl T))], cX7 cy (u 2) (u 3 0) (u 4 0) (cv 2), cX9 cy (u 3) (cv 3), cX6 cy (u 4) (u 5 0) (cv 4), cX3 cy (u 5) (cv 5), cX8 cy (u 8) (cv 8), cX2 cy (u 15) (cv 15), cX5 cy (u 16) (cv 16), cX1 cy (u 17) (cv 17), cX4 cy (u 18) (cv 18)]) (ccs' := [cX11 cy (u 0) (u 1 0) (u 2 0) (u 4 0) (u 8 0) (u 9 0) (u 10 0) (u 11 0) (u 12 0) (u 13 0) (u 14 0) (u 15 0) (u 16 0) (u 17 0) (u 18 0) (u 19 0) n0, [(u 1 0, .inl (cy 0, 700, .inl T))], cX7 cy (u 2) (u 3 0) (u 6 0) n1, cX9 cy (u 3) n2, cX6 cy (u 4) (u 5 0) n3, cX3 cy (u 5) n4, cX8 cy (u 8) n5, cX2 cy (u 15) n6, cX5 cy (u 16) n7, cX1 cy (u 17) n8, cX4 cy (u 18) n9]) (isC := [0, 1, 2, 3, 4, 5, 8, 15, 16, 17, 18]) (isR := [6, 7, 9, 10, 11, 12, 13, 14, 19, 20, 21]) hx hb hml hown hts (k_X11_text l G cy ev N (u 0) (u 6 0) (u 9 0) (u 10 0) (u 11 0) (u 12 0) (u 13 0) (u 14 0) (u 19 0) (cv 0) (u 1 0) T (u 2) (cv 2) (u 3) (cv 3) (u 4) (cv 4) (u 5) (cv 5) (u 8) (cv 8) (u 15) (cv 15) (u 16) (cv 16) (u 17) (cv 17) (u 18) (cv 18) (xs (x4 + 1).toNatClampNeg) (r, true, n0, n1, n2, n3, n4, n5, n6, n7, n8, n9) hf) wm_11_21 wm_11_22 wm_11_23 wm_1_2 wm_12_0 hd_X11_text ⟨by decide, by decide⟩ rfl rfl (by show _ ≤ 601024; omega) (by show _ ≤ 7293034; omega) hK hP hD hS hA hE rfl rfl rfl (cov_of (n := 22) rfl (by decide)) (by decide) rfl (recvW (ci := 0) hK hP rfl cX11_o rfl) rfl rfl hl.1 (Nat.le_of_ble_eq_true rfl) dL_law_296 (fun H locs hP hD hS => ?_)
    refine lv_aload_n hx hb dL_law_299 rfl (lv_at hl 2 rfl) ?_
    refine lv_aload_n hx hb dL_law_300 rfl (lv_at hl 0 rfl) ?_
    refine lv_iload hx hb dL_law_301 (lv_at hl 4 rfl) ?_
    refine lv_iconst (v := 1) hx hb dL_law_303 (by decide) ?_
    refine lv_iadd hx hb dL_law_304 ?_
    refine va_sld hx hb hX hbl hbA hS hin1 dL_law_305 ?_
    refine callGVi (As := [.int (xs (x4 + 1).toNatClampNeg)]) (rest := [.int r]) (cs' := [cX11 cy (u 0) (u 1 0) (u 2 0) (u 4 0) (u 8 0) (u 9 0) (u 10 0) (u 11 0) (u 12 0) (u 13 0) (u 14 0) (u 15 0) (u 16 0) (u 17 0) (u 18 0) (u 19 0) n0, [(u 1 0, .inl (cy 0, 700, .inl T))], cX7 cy (u 2) (u 3 0) (u 6 0) n1, cX9 cy (u 3) n2, cX6 cy (u 4) (u 5 0) n3, cX3 cy (u 5) n4, cX6 cy (u 6) (u 7 0) (cv 6), cX3 cy (u 7) (cv 7), cX8 cy (u 8) n5, cX8 cy (u 9) (cv 9), cX8 cy (u 10) (cv 10), cX0 cy (u 11) (cv 11), cX10 cy (u 12) (cv 12), cX10 cy (u 13) (cv 13), cX10 cy (u 14) (cv 14), cX2 cy (u 15) n6, cX5 cy (u 16) n7, cX1 cy (u 17) n8, cX4 cy (u 18) n9, [(u 19 0, .inl (cy 2, 73, .inr (.inl B)))], cX12 cy adm v1, [(qo, .inl (cy 2, 1, .inr (.inl o)))]]) (ccs := [cX12 cy adm v]) (ccs' := [cX12 cy adm v1]) (isC := [20]) (isR := [0, 1, 2, 3, 4, 5, 6, 7, 8, 9, 10, 11, 12, 13, 14, 15, 16, 17, 18, 19, 21]) hx hb hml hown hts (k_X12_text l G cy ev N adm v (xs (x4 + 1).toNatClampNeg) (r, v1) hm) wm_19_18 wm_19_19 wm_19_20 wm_1_5 wm_19_21 hd_X12_text ⟨by decide, by decide⟩ wj_one.symm wj_one.symm (by show _ ≤ 601024; omega) (by show _ ≤ 7293034; omega) hK hP hD hS hA hE rfl rfl rfl (cov_of (n := 22) rfl (by decide)) (by decide) rfl (recvW (ci := 20) hK hP rfl (show (cX12 cy adm v)[0]? = some (adm 0, _) from rfl) rfl) rfl rfl hl.1 (Nat.le_of_ble_eq_true rfl) dL_law_306 (fun H locs hP hD hS => ?_)
    refine lv_icmp_eq (tgt := 1493) hx hb dL_law_309 (by decide) (fun _ => ?_) (fun c9 => absurd rfl c9)
    obtain ⟨x5, e5⟩ : ∃ y : Int32, y = x4 + 6 := ⟨_, rfl⟩
    refine lv_iinc (v := x5) (lv' := [(4, .int x5), (0, .ref b), (1, .ref (u 0 0)), (2, .ref (adm 0)), (3, .ref qo)]) hx hb dL_law_1493 hl (k := 4) rfl (by rw [e5]; rfl) (by decide) rfl (fun ls hl => ?_)
    refine lv_goto (tgt := 23) hx hb dL_law_1496 (by decide) ?_
    refine W.widen (k := 170 + (k + 1)) (n := 6921 + 6 * (k + 1)) (by omega) (by omega) ?_
    have hP := sel_P (isC := [0, 1, 2, 3, 6, 7, 4, 5, 8, 9, 10, 11, 12, 13, 14, 15, 16, 17, 18, 19, 20, 21]) (ccs := [cX11 cy (u 0) (u 1 0) (u 2 0) (u 4 0) (u 8 0) (u 9 0) (u 10 0) (u 11 0) (u 12 0) (u 13 0) (u 14 0) (u 15 0) (u 16 0) (u 17 0) (u 18 0) (u 19 0) n0, [(u 1 0, .inl (cy 0, 700, .inl T))], cX7 cy (u 2) (u 3 0) (u 6 0) n1, cX9 cy (u 3) n2, cX6 cy (u 6) (u 7 0) (cv 6), cX3 cy (u 7) (cv 7), cX6 cy (u 4) (u 5 0) n3, cX3 cy (u 5) n4, cX8 cy (u 8) n5, cX8 cy (u 9) (cv 9), cX8 cy (u 10) (cv 10), cX0 cy (u 11) (cv 11), cX10 cy (u 12) (cv 12), cX10 cy (u 13) (cv 13), cX10 cy (u 14) (cv 14), cX2 cy (u 15) n6, cX5 cy (u 16) n7, cX1 cy (u 17) n8, cX4 cy (u 18) n9, [(u 19 0, .inl (cy 2, 73, .inr (.inl B)))], cX12 cy adm v1, [(qo, .inl (cy 2, 1, .inr (.inl o)))]]) rfl hP
    have hD := sel_D (isC := [0, 1, 2, 3, 6, 7, 4, 5, 8, 9, 10, 11, 12, 13, 14, 15, 16, 17, 18, 19, 20, 21]) (ccs := [cX11 cy (u 0) (u 1 0) (u 2 0) (u 4 0) (u 8 0) (u 9 0) (u 10 0) (u 11 0) (u 12 0) (u 13 0) (u 14 0) (u 15 0) (u 16 0) (u 17 0) (u 18 0) (u 19 0) n0, [(u 1 0, .inl (cy 0, 700, .inl T))], cX7 cy (u 2) (u 3 0) (u 6 0) n1, cX9 cy (u 3) n2, cX6 cy (u 6) (u 7 0) (cv 6), cX3 cy (u 7) (cv 7), cX6 cy (u 4) (u 5 0) n3, cX3 cy (u 5) n4, cX8 cy (u 8) n5, cX8 cy (u 9) (cv 9), cX8 cy (u 10) (cv 10), cX0 cy (u 11) (cv 11), cX10 cy (u 12) (cv 12), cX10 cy (u 13) (cv 13), cX10 cy (u 14) (cv 14), cX2 cy (u 15) n6, cX5 cy (u 16) n7, cX1 cy (u 17) n8, cX4 cy (u 18) n9, [(u 19 0, .inl (cy 2, 73, .inr (.inl B)))], cX12 cy adm v1, [(qo, .inl (cy 2, 1, .inr (.inl o)))]]) rfl (by decide) hD
    exact ih (swu u) adm qo (swc (uc (uc (uc (uc (uc (uc (uc (uc (uc (uc cv 0 n0) 2 n1) 3 n2) 4 n3) 5 n4) 8 n5) 15 n6) 16 n7) 17 n8) 18 n9)) T B v1 o x5 _ _ ls (by rw [e5, hx4]; exact (nI_add (6 * k) 6).trans (by rw [Nat.mul_succ])) hI hP hD hS (lv_sub hl [1, 2, 3, 4, 0] rfl)
set_option maxHeartbeats 4000000 in
set_option maxRecDepth 100000 in
theorem law_fault {p : Program} {l : Launch} {e : Env} {s : State} {m : MethodId} {below : List Frame} {meth : Method} {cd : Code} {b L : Nat} {xs : Nat → Int32} {N : Nat} {INV : (Nat → VV) → (Nat → Int32) → (Nat → Int64) → VV → Prop} {G : va_G} {cy : Nat → ClassId} {ev : Nat → Nat} (hst : ST_fault N INV) (C : LCX p s m meth cd b L xs G cy ev) (k : Nat) (hk : 6 * k + 6 ≤ L) (ih : LOOPS p l e s m below meth cd b L INV G cy (k + 1)) (u : Nat → Nat → Nat) (adm : Nat → Nat) (qo : Nat) (cv : Nat → VV) (T : Nat → Int32) (B : Nat → Int64) (v : VV) (o : Nat → Int64) (x4 : Int32) (H : Heap) (locs : List Loc) (ls : Array Slot) (hx4 : x4 = nI (6 * k)) (hI : INV cv T B v) (hP : va_P G vwCl (wj (W22 cy u adm qo cv T B v o)) H) (hD : va_D (fun q => s.heap.size ≤ q) (wj (W22 cy u adm qo cv T B v o))) (hS : va_S (fun q => s.heap.size ≤ q) s.heap H locs) (hl : lv_has ls 7 [(0, .ref b), (1, .ref (u 0 0)), (2, .ref (adm 0)), (3, .ref qo), (4, .int x4)]) : W p l e room_1 s m #[Value.ref b] below meth cd H locs (170 + k) (6921 + 6 * k) (lw_Z below #[Value.ref b] s) (F0 m 314 ls []) := by
  obtain ⟨hx, hb, hml, hown, hts, hK, hE, hX, hbl, hL⟩ := C
  have hA : ∀ q : Nat, s.heap.size ≤ q → (fun q : Nat => s.heap.size ≤ q) q := fun _ h => h
  have hbA : ¬ (fun q : Nat => s.heap.size ≤ q) b := Nat.not_le.mpr hbl
  have hin1 : vp_in (x4 + 1) L := by rw [hx4]; exact ix_in (j := 1) hk hL (by decide)
  have hin2 : vp_in (x4 + 2) L := by rw [hx4]; exact ix_in (j := 2) hk hL (by decide)
  have hin3 : vp_in (x4 + 3) L := by rw [hx4]; exact ix_in (j := 3) hk hL (by decide)
  have hin4 : vp_in (x4 + 4) L := by rw [hx4]; exact ix_in (j := 4) hk hL (by decide)
  have hin5 : vp_in (x4 + 5) L := by rw [hx4]; exact ix_in (j := 5) hk hL (by decide)
  refine lv_aload_n hx hb dL_law_314 rfl (lv_at hl 1 rfl) ?_
  refine lv_aload_n hx hb dL_law_315 rfl (lv_at hl 0 rfl) ?_
  refine lv_iload hx hb dL_law_316 (lv_at hl 4 rfl) ?_
  refine lv_iconst (v := 1) hx hb dL_law_318 (by decide) ?_
  refine lv_iadd hx hb dL_law_319 ?_
  refine va_sld hx hb hX hbl hbA hS hin1 dL_law_320 ?_
  obtain ⟨r, v1, hf, hm, hI⟩ := hst cv T B v (xs (x4 + 1).toNatClampNeg) hI
  refine callGVi (As := [.int (xs (x4 + 1).toNatClampNeg)]) (rest := []) (cs' := [cX11 cy (u 0) (u 1 0) (u 2 0) (u 6 0) (u 8 0) (u 9 0) (u 10 0) (u 11 0) (u 12 0) (u 13 0) (u 14 0) (u 15 0) (u 16 0) (u 17 0) (u 18 0) (u 19 0) (cv 0), [(u 1 0, .inl (cy 0, 700, .inl T))], cX7 cy (u 2) (u 3 0) (u 4 0) (cv 2), cX9 cy (u 3) (cv 3), cX6 cy (u 4) (u 5 0) (cv 4), cX3 cy (u 5) (cv 5), cX6 cy (u 6) (u 7 0) (cv 6), cX3 cy (u 7) (cv 7), cX8 cy (u 8) (cv 8), cX8 cy (u 9) (cv 9), cX8 cy (u 10) (cv 10), cX0 cy (u 11) (cv 11), cX10 cy (u 12) (cv 12), cX10 cy (u 13) (cv 13), cX10 cy (u 14) (cv 14), cX2 cy (u 15) (cv 15), cX5 cy (u 16) (cv 16), cX1 cy (u 17) (cv 17), cX4 cy (u 18) (cv 18), [(u 19 0, .inl (cy 2, 73, .inr (.inl B)))], cX12 cy adm v, [(qo, .inl (cy 2, 1, .inr (.inl o)))]]) (ccs := [cX11 cy (u 0) (u 1 0) (u 2 0) (u 6 0) (u 8 0) (u 9 0) (u 10 0) (u 11 0) (u 12 0) (u 13 0) (u 14 0) (u 15 0) (u 16 0) (u 17 0) (u 18 0) (u 19 0) (cv 0), cX7 cy (u 2) (u 3 0) (u 4 0) (cv 2)]) (ccs' := [cX11 cy (u 0) (u 1 0) (u 2 0) (u 6 0) (u 8 0) (u 9 0) (u 10 0) (u 11 0) (u 12 0) (u 13 0) (u 14 0) (u 15 0) (u 16 0) (u 17 0) (u 18 0) (u 19 0) (cv 0), cX7 cy (u 2) (u 3 0) (u 4 0) (cv 2)]) (isC := [0, 2]) (isR := [1, 3, 4, 5, 6, 7, 8, 9, 10, 11, 12, 13, 14, 15, 16, 17, 18, 19, 20, 21]) hx hb hml hown hts (k_X11_fault l G cy ev (u 0) (u 1 0) (u 6 0) (u 8 0) (u 9 0) (u 10 0) (u 11 0) (u 12 0) (u 13 0) (u 14 0) (u 15 0) (u 16 0) (u 17 0) (u 18 0) (u 19 0) (cv 0) (u 2) (u 3 0) (u 4 0) (cv 2) (xs (x4 + 1).toNatClampNeg) r hf) wm_25_4 wm_25_5 wm_25_6 wm_1_2 wm_25_7 hd_X11_fault ⟨by decide, by decide⟩ rfl rfl (by show _ ≤ 601024; omega) (by show _ ≤ 7293034; omega) hK hP hD hS hA hE rfl rfl rfl (cov_of (n := 22) rfl (by decide)) (by decide) rfl (recvW (ci := 0) hK hP rfl cX11_o rfl) rfl rfl hl.1 (Nat.le_of_ble_eq_true rfl) dL_law_321 (fun H locs hP hD hS => ?_)
  refine lv_aload_n hx hb dL_law_324 rfl (lv_at hl 2 rfl) ?_
  refine lv_aload_n hx hb dL_law_325 rfl (lv_at hl 0 rfl) ?_
  refine lv_iload hx hb dL_law_326 (lv_at hl 4 rfl) ?_
  refine lv_iconst (v := 1) hx hb dL_law_328 (by decide) ?_
  refine lv_iadd hx hb dL_law_329 ?_
  refine va_sld hx hb hX hbl hbA hS hin1 dL_law_330 ?_
  refine callGVi (As := [.int (xs (x4 + 1).toNatClampNeg)]) (rest := [.int r]) (cs' := [cX11 cy (u 0) (u 1 0) (u 2 0) (u 6 0) (u 8 0) (u 9 0) (u 10 0) (u 11 0) (u 12 0) (u 13 0) (u 14 0) (u 15 0) (u 16 0) (u 17 0) (u 18 0) (u 19 0) (cv 0), [(u 1 0, .inl (cy 0, 700, .inl T))], cX7 cy (u 2) (u 3 0) (u 4 0) (cv 2), cX9 cy (u 3) (cv 3), cX6 cy (u 4) (u 5 0) (cv 4), cX3 cy (u 5) (cv 5), cX6 cy (u 6) (u 7 0) (cv 6), cX3 cy (u 7) (cv 7), cX8 cy (u 8) (cv 8), cX8 cy (u 9) (cv 9), cX8 cy (u 10) (cv 10), cX0 cy (u 11) (cv 11), cX10 cy (u 12) (cv 12), cX10 cy (u 13) (cv 13), cX10 cy (u 14) (cv 14), cX2 cy (u 15) (cv 15), cX5 cy (u 16) (cv 16), cX1 cy (u 17) (cv 17), cX4 cy (u 18) (cv 18), [(u 19 0, .inl (cy 2, 73, .inr (.inl B)))], cX12 cy adm v1, [(qo, .inl (cy 2, 1, .inr (.inl o)))]]) (ccs := [cX12 cy adm v]) (ccs' := [cX12 cy adm v1]) (isC := [20]) (isR := [0, 1, 2, 3, 4, 5, 6, 7, 8, 9, 10, 11, 12, 13, 14, 15, 16, 17, 18, 19, 21]) hx hb hml hown hts (k_X12_fault l G cy ev adm v (xs (x4 + 1).toNatClampNeg) (r, v1) hm) wm_25_8 wm_25_9 wm_25_10 wm_1_5 wm_25_11 hd_X12_fault ⟨by decide, by decide⟩ wj_one.symm wj_one.symm (by show _ ≤ 601024; omega) (by show _ ≤ 7293034; omega) hK hP hD hS hA hE rfl rfl rfl (cov_of (n := 22) rfl (by decide)) (by decide) rfl (recvW (ci := 20) hK hP rfl (show (cX12 cy adm v)[0]? = some (adm 0, _) from rfl) rfl) rfl rfl hl.1 (Nat.le_of_ble_eq_true rfl) dL_law_331 (fun H locs hP hD hS => ?_)
  refine lv_icmp_eq (tgt := 1493) hx hb dL_law_334 (by decide) (fun _ => ?_) (fun c9 => absurd rfl c9)
  obtain ⟨x5, e5⟩ : ∃ y : Int32, y = x4 + 6 := ⟨_, rfl⟩
  refine lv_iinc (v := x5) (lv' := [(4, .int x5), (0, .ref b), (1, .ref (u 0 0)), (2, .ref (adm 0)), (3, .ref qo)]) hx hb dL_law_1493 hl (k := 4) rfl (by rw [e5]; rfl) (by decide) rfl (fun ls hl => ?_)
  refine lv_goto (tgt := 23) hx hb dL_law_1496 (by decide) ?_
  refine W.widen (k := 170 + (k + 1)) (n := 6921 + 6 * (k + 1)) (by omega) (by omega) ?_
  exact ih (u) adm qo (cv) T B v1 o x5 _ _ ls (by rw [e5, hx4]; exact (nI_add (6 * k) 6).trans (by rw [Nat.mul_succ])) hI hP hD hS (lv_sub hl [1, 2, 3, 4, 0] rfl)
set_option maxHeartbeats 4000000 in
set_option maxRecDepth 100000 in
theorem law_named {p : Program} {l : Launch} {e : Env} {s : State} {m : MethodId} {below : List Frame} {meth : Method} {cd : Code} {b L : Nat} {xs : Nat → Int32} {N : Nat} {INV : (Nat → VV) → (Nat → Int32) → (Nat → Int64) → VV → Prop} {G : va_G} {cy : Nat → ClassId} {ev : Nat → Nat} (hst : ST_named N INV) (C : LCX p s m meth cd b L xs G cy ev) (k : Nat) (hk : 6 * k + 6 ≤ L) (ih : LOOPS p l e s m below meth cd b L INV G cy (k + 1)) (u : Nat → Nat → Nat) (adm : Nat → Nat) (qo : Nat) (cv : Nat → VV) (T : Nat → Int32) (B : Nat → Int64) (v : VV) (o : Nat → Int64) (x4 : Int32) (H : Heap) (locs : List Loc) (ls : Array Slot) (hx4 : x4 = nI (6 * k)) (hI : INV cv T B v) (hP : va_P G vwCl (wj (W22 cy u adm qo cv T B v o)) H) (hD : va_D (fun q => s.heap.size ≤ q) (wj (W22 cy u adm qo cv T B v o))) (hS : va_S (fun q => s.heap.size ≤ q) s.heap H locs) (hl : lv_has ls 7 [(0, .ref b), (1, .ref (u 0 0)), (2, .ref (adm 0)), (3, .ref qo), (4, .int x4)]) : W p l e room_1 s m #[Value.ref b] below meth cd H locs (170 + k) (6921 + 6 * k) (lw_Z below #[Value.ref b] s) (F0 m 339 ls []) := by
  obtain ⟨hx, hb, hml, hown, hts, hK, hE, hX, hbl, hL⟩ := C
  have hA : ∀ q : Nat, s.heap.size ≤ q → (fun q : Nat => s.heap.size ≤ q) q := fun _ h => h
  have hbA : ¬ (fun q : Nat => s.heap.size ≤ q) b := Nat.not_le.mpr hbl
  have hin1 : vp_in (x4 + 1) L := by rw [hx4]; exact ix_in (j := 1) hk hL (by decide)
  have hin2 : vp_in (x4 + 2) L := by rw [hx4]; exact ix_in (j := 2) hk hL (by decide)
  have hin3 : vp_in (x4 + 3) L := by rw [hx4]; exact ix_in (j := 3) hk hL (by decide)
  have hin4 : vp_in (x4 + 4) L := by rw [hx4]; exact ix_in (j := 4) hk hL (by decide)
  have hin5 : vp_in (x4 + 5) L := by rw [hx4]; exact ix_in (j := 5) hk hL (by decide)
  refine lv_aload_n hx hb dL_law_339 rfl (lv_at hl 1 rfl) ?_
  refine lv_aload_n hx hb dL_law_340 rfl (lv_at hl 0 rfl) ?_
  refine lv_iload hx hb dL_law_341 (lv_at hl 4 rfl) ?_
  refine lv_iconst (v := 1) hx hb dL_law_343 (by decide) ?_
  refine lv_iadd hx hb dL_law_344 ?_
  refine va_sld hx hb hX hbl hbA hS hin1 dL_law_345 ?_
  obtain ⟨r, v1, hf, hm, hI⟩ := hst cv T B v (xs (x4 + 1).toNatClampNeg) hI
  refine callGVi (As := [.int (xs (x4 + 1).toNatClampNeg)]) (rest := []) (cs' := [cX11 cy (u 0) (u 1 0) (u 2 0) (u 6 0) (u 8 0) (u 9 0) (u 10 0) (u 11 0) (u 12 0) (u 13 0) (u 14 0) (u 15 0) (u 16 0) (u 17 0) (u 18 0) (u 19 0) (cv 0), [(u 1 0, .inl (cy 0, 700, .inl T))], cX7 cy (u 2) (u 3 0) (u 4 0) (cv 2), cX9 cy (u 3) (cv 3), cX6 cy (u 4) (u 5 0) (cv 4), cX3 cy (u 5) (cv 5), cX6 cy (u 6) (u 7 0) (cv 6), cX3 cy (u 7) (cv 7), cX8 cy (u 8) (cv 8), cX8 cy (u 9) (cv 9), cX8 cy (u 10) (cv 10), cX0 cy (u 11) (cv 11), cX10 cy (u 12) (cv 12), cX10 cy (u 13) (cv 13), cX10 cy (u 14) (cv 14), cX2 cy (u 15) (cv 15), cX5 cy (u 16) (cv 16), cX1 cy (u 17) (cv 17), cX4 cy (u 18) (cv 18), [(u 19 0, .inl (cy 2, 73, .inr (.inl B)))], cX12 cy adm v, [(qo, .inl (cy 2, 1, .inr (.inl o)))]]) (ccs := [cX11 cy (u 0) (u 1 0) (u 2 0) (u 6 0) (u 8 0) (u 9 0) (u 10 0) (u 11 0) (u 12 0) (u 13 0) (u 14 0) (u 15 0) (u 16 0) (u 17 0) (u 18 0) (u 19 0) (cv 0), cX6 cy (u 6) (u 7 0) (cv 6)]) (ccs' := [cX11 cy (u 0) (u 1 0) (u 2 0) (u 6 0) (u 8 0) (u 9 0) (u 10 0) (u 11 0) (u 12 0) (u 13 0) (u 14 0) (u 15 0) (u 16 0) (u 17 0) (u 18 0) (u 19 0) (cv 0), cX6 cy (u 6) (u 7 0) (cv 6)]) (isC := [0, 6]) (isR := [1, 2, 3, 4, 5, 7, 8, 9, 10, 11, 12, 13, 14, 15, 16, 17, 18, 19, 20, 21]) hx hb hml hown hts (k_X11_named l G cy ev N (u 0) (u 1 0) (u 2 0) (u 8 0) (u 9 0) (u 10 0) (u 11 0) (u 12 0) (u 13 0) (u 14 0) (u 15 0) (u 16 0) (u 17 0) (u 18 0) (u 19 0) (cv 0) (u 6) (u 7 0) (cv 6) (xs (x4 + 1).toNatClampNeg) r hf) wm_25_12 wm_25_13 wm_25_14 wm_1_2 wm_25_15 hd_X11_named ⟨by decide, by decide⟩ rfl rfl (by show _ ≤ 601024; omega) (by show _ ≤ 7293034; omega) hK hP hD hS hA hE rfl rfl rfl (cov_of (n := 22) rfl (by decide)) (by decide) rfl (recvW (ci := 0) hK hP rfl cX11_o rfl) rfl rfl hl.1 (Nat.le_of_ble_eq_true rfl) dL_law_346 (fun H locs hP hD hS => ?_)
  refine lv_aload_n hx hb dL_law_349 rfl (lv_at hl 2 rfl) ?_
  refine lv_aload_n hx hb dL_law_350 rfl (lv_at hl 0 rfl) ?_
  refine lv_iload hx hb dL_law_351 (lv_at hl 4 rfl) ?_
  refine lv_iconst (v := 1) hx hb dL_law_353 (by decide) ?_
  refine lv_iadd hx hb dL_law_354 ?_
  refine va_sld hx hb hX hbl hbA hS hin1 dL_law_355 ?_
  refine callGVi (As := [.int (xs (x4 + 1).toNatClampNeg)]) (rest := [.int r]) (cs' := [cX11 cy (u 0) (u 1 0) (u 2 0) (u 6 0) (u 8 0) (u 9 0) (u 10 0) (u 11 0) (u 12 0) (u 13 0) (u 14 0) (u 15 0) (u 16 0) (u 17 0) (u 18 0) (u 19 0) (cv 0), [(u 1 0, .inl (cy 0, 700, .inl T))], cX7 cy (u 2) (u 3 0) (u 4 0) (cv 2), cX9 cy (u 3) (cv 3), cX6 cy (u 4) (u 5 0) (cv 4), cX3 cy (u 5) (cv 5), cX6 cy (u 6) (u 7 0) (cv 6), cX3 cy (u 7) (cv 7), cX8 cy (u 8) (cv 8), cX8 cy (u 9) (cv 9), cX8 cy (u 10) (cv 10), cX0 cy (u 11) (cv 11), cX10 cy (u 12) (cv 12), cX10 cy (u 13) (cv 13), cX10 cy (u 14) (cv 14), cX2 cy (u 15) (cv 15), cX5 cy (u 16) (cv 16), cX1 cy (u 17) (cv 17), cX4 cy (u 18) (cv 18), [(u 19 0, .inl (cy 2, 73, .inr (.inl B)))], cX12 cy adm v1, [(qo, .inl (cy 2, 1, .inr (.inl o)))]]) (ccs := [cX12 cy adm v]) (ccs' := [cX12 cy adm v1]) (isC := [20]) (isR := [0, 1, 2, 3, 4, 5, 6, 7, 8, 9, 10, 11, 12, 13, 14, 15, 16, 17, 18, 19, 21]) hx hb hml hown hts (k_X12_named l G cy ev N adm v (xs (x4 + 1).toNatClampNeg) (r, v1) hm) wm_25_17 wm_25_18 wm_25_19 wm_1_5 wm_25_20 hd_X12_named ⟨by decide, by decide⟩ wj_one.symm wj_one.symm (by show _ ≤ 601024; omega) (by show _ ≤ 7293034; omega) hK hP hD hS hA hE rfl rfl rfl (cov_of (n := 22) rfl (by decide)) (by decide) rfl (recvW (ci := 20) hK hP rfl (show (cX12 cy adm v)[0]? = some (adm 0, _) from rfl) rfl) rfl rfl hl.1 (Nat.le_of_ble_eq_true rfl) dL_law_356 (fun H locs hP hD hS => ?_)
  refine lv_icmp_eq (tgt := 1493) hx hb dL_law_359 (by decide) (fun _ => ?_) (fun c9 => absurd rfl c9)
  obtain ⟨x5, e5⟩ : ∃ y : Int32, y = x4 + 6 := ⟨_, rfl⟩
  refine lv_iinc (v := x5) (lv' := [(4, .int x5), (0, .ref b), (1, .ref (u 0 0)), (2, .ref (adm 0)), (3, .ref qo)]) hx hb dL_law_1493 hl (k := 4) rfl (by rw [e5]; rfl) (by decide) rfl (fun ls hl => ?_)
  refine lv_goto (tgt := 23) hx hb dL_law_1496 (by decide) ?_
  refine W.widen (k := 170 + (k + 1)) (n := 6921 + 6 * (k + 1)) (by omega) (by omega) ?_
  exact ih (u) adm qo (cv) T B v1 o x5 _ _ ls (by rw [e5, hx4]; exact (nI_add (6 * k) 6).trans (by rw [Nat.mul_succ])) hI hP hD hS (lv_sub hl [1, 2, 3, 4, 0] rfl)
set_option maxHeartbeats 4000000 in
set_option maxRecDepth 100000 in
theorem law_wish {p : Program} {l : Launch} {e : Env} {s : State} {m : MethodId} {below : List Frame} {meth : Method} {cd : Code} {b L : Nat} {xs : Nat → Int32} {N : Nat} {INV : (Nat → VV) → (Nat → Int32) → (Nat → Int64) → VV → Prop} {G : va_G} {cy : Nat → ClassId} {ev : Nat → Nat} (hst : ST_wish N INV) (C : LCX p s m meth cd b L xs G cy ev) (k : Nat) (hk : 6 * k + 6 ≤ L) (ih : LOOPS p l e s m below meth cd b L INV G cy (k + 1)) (u : Nat → Nat → Nat) (adm : Nat → Nat) (qo : Nat) (cv : Nat → VV) (T : Nat → Int32) (B : Nat → Int64) (v : VV) (o : Nat → Int64) (x4 : Int32) (H : Heap) (locs : List Loc) (ls : Array Slot) (hx4 : x4 = nI (6 * k)) (hI : INV cv T B v) (hP : va_P G vwCl (wj (W22 cy u adm qo cv T B v o)) H) (hD : va_D (fun q => s.heap.size ≤ q) (wj (W22 cy u adm qo cv T B v o))) (hS : va_S (fun q => s.heap.size ≤ q) s.heap H locs) (hl : lv_has ls 7 [(0, .ref b), (1, .ref (u 0 0)), (2, .ref (adm 0)), (3, .ref qo), (4, .int x4)]) : W p l e room_1 s m #[Value.ref b] below meth cd H locs (170 + k) (6921 + 6 * k) (lw_Z below #[Value.ref b] s) (F0 m 432 ls []) := by
  obtain ⟨hx, hb, hml, hown, hts, hK, hE, hX, hbl, hL⟩ := C
  have hA : ∀ q : Nat, s.heap.size ≤ q → (fun q : Nat => s.heap.size ≤ q) q := fun _ h => h
  have hbA : ¬ (fun q : Nat => s.heap.size ≤ q) b := Nat.not_le.mpr hbl
  have hin1 : vp_in (x4 + 1) L := by rw [hx4]; exact ix_in (j := 1) hk hL (by decide)
  have hin2 : vp_in (x4 + 2) L := by rw [hx4]; exact ix_in (j := 2) hk hL (by decide)
  have hin3 : vp_in (x4 + 3) L := by rw [hx4]; exact ix_in (j := 3) hk hL (by decide)
  have hin4 : vp_in (x4 + 4) L := by rw [hx4]; exact ix_in (j := 4) hk hL (by decide)
  have hin5 : vp_in (x4 + 5) L := by rw [hx4]; exact ix_in (j := 5) hk hL (by decide)
  refine lv_aload_n hx hb dL_law_432 rfl (lv_at hl 1 rfl) ?_
  refine lv_aload_n hx hb dL_law_433 rfl (lv_at hl 0 rfl) ?_
  refine lv_iload hx hb dL_law_434 (lv_at hl 4 rfl) ?_
  refine lv_iconst (v := 1) hx hb dL_law_436 (by decide) ?_
  refine lv_iadd hx hb dL_law_437 ?_
  refine va_sld hx hb hX hbl hbA hS hin1 dL_law_438 ?_
  refine lv_aload_n hx hb dL_law_439 rfl (lv_at hl 0 rfl) ?_
  refine lv_iload hx hb dL_law_440 (lv_at hl 4 rfl) ?_
  refine lv_iconst (v := 2) hx hb dL_law_442 (by decide) ?_
  refine lv_iadd hx hb dL_law_443 ?_
  refine va_sld hx hb hX hbl hbA hS hin2 dL_law_444 ?_
  obtain ⟨r, v1, hf, hm, hI⟩ := hst cv T B v (xs (x4 + 1).toNatClampNeg) (xs (x4 + 2).toNatClampNeg) hI
  refine callGVi (As := [.int (xs (x4 + 1).toNatClampNeg), .int (xs (x4 + 2).toNatClampNeg)]) (rest := []) (cs' := [cX11 cy (u 0) (u 1 0) (u 2 0) (u 6 0) (u 8 0) (u 9 0) (u 10 0) (u 11 0) (u 12 0) (u 13 0) (u 14 0) (u 15 0) (u 16 0) (u 17 0) (u 18 0) (u 19 0) (cv 0), [(u 1 0, .inl (cy 0, 700, .inl T))], cX7 cy (u 2) (u 3 0) (u 4 0) (cv 2), cX9 cy (u 3) (cv 3), cX6 cy (u 4) (u 5 0) (cv 4), cX3 cy (u 5) (cv 5), cX6 cy (u 6) (u 7 0) (cv 6), cX3 cy (u 7) (cv 7), cX8 cy (u 8) (cv 8), cX8 cy (u 9) (cv 9), cX8 cy (u 10) (cv 10), cX0 cy (u 11) (cv 11), cX10 cy (u 12) (cv 12), cX10 cy (u 13) (cv 13), cX10 cy (u 14) (cv 14), cX2 cy (u 15) (cv 15), cX5 cy (u 16) (cv 16), cX1 cy (u 17) (cv 17), cX4 cy (u 18) (cv 18), [(u 19 0, .inl (cy 2, 73, .inr (.inl B)))], cX12 cy adm v, [(qo, .inl (cy 2, 1, .inr (.inl o)))]]) (ccs := [cX11 cy (u 0) (u 1 0) (u 2 0) (u 6 0) (u 8 0) (u 9 0) (u 10 0) (u 11 0) (u 12 0) (u 13 0) (u 14 0) (u 15 0) (u 16 0) (u 17 0) (u 18 0) (u 19 0) (cv 0), cX6 cy (u 6) (u 7 0) (cv 6)]) (ccs' := [cX11 cy (u 0) (u 1 0) (u 2 0) (u 6 0) (u 8 0) (u 9 0) (u 10 0) (u 11 0) (u 12 0) (u 13 0) (u 14 0) (u 15 0) (u 16 0) (u 17 0) (u 18 0) (u 19 0) (cv 0), cX6 cy (u 6) (u 7 0) (cv 6)]) (isC := [0, 6]) (isR := [1, 2, 3, 4, 5, 7, 8, 9, 10, 11, 12, 13, 14, 15, 16, 17, 18, 19, 20, 21]) hx hb hml hown hts (k_X11_wish l G cy ev (u 0) (u 1 0) (u 2 0) (u 8 0) (u 9 0) (u 10 0) (u 11 0) (u 12 0) (u 13 0) (u 14 0) (u 15 0) (u 16 0) (u 17 0) (u 18 0) (u 19 0) (cv 0) (u 6) (u 7 0) (cv 6) (xs (x4 + 1).toNatClampNeg) (xs (x4 + 2).toNatClampNeg) r hf) wm_27_7 wm_27_8 wm_27_9 wm_1_2 wm_27_10 hd_X11_wish ⟨by decide, by decide⟩ rfl rfl (by show _ ≤ 601024; omega) (by show _ ≤ 7293034; omega) hK hP hD hS hA hE rfl rfl rfl (cov_of (n := 22) rfl (by decide)) (by decide) rfl (recvW (ci := 0) hK hP rfl cX11_o rfl) rfl rfl hl.1 (Nat.le_of_ble_eq_true rfl) dL_law_445 (fun H locs hP hD hS => ?_)
  refine lv_aload_n hx hb dL_law_448 rfl (lv_at hl 2 rfl) ?_
  refine lv_aload_n hx hb dL_law_449 rfl (lv_at hl 0 rfl) ?_
  refine lv_iload hx hb dL_law_450 (lv_at hl 4 rfl) ?_
  refine lv_iconst (v := 1) hx hb dL_law_452 (by decide) ?_
  refine lv_iadd hx hb dL_law_453 ?_
  refine va_sld hx hb hX hbl hbA hS hin1 dL_law_454 ?_
  refine lv_aload_n hx hb dL_law_455 rfl (lv_at hl 0 rfl) ?_
  refine lv_iload hx hb dL_law_456 (lv_at hl 4 rfl) ?_
  refine lv_iconst (v := 2) hx hb dL_law_458 (by decide) ?_
  refine lv_iadd hx hb dL_law_459 ?_
  refine va_sld hx hb hX hbl hbA hS hin2 dL_law_460 ?_
  refine callGVi (As := [.int (xs (x4 + 1).toNatClampNeg), .int (xs (x4 + 2).toNatClampNeg)]) (rest := [.int r]) (cs' := [cX11 cy (u 0) (u 1 0) (u 2 0) (u 6 0) (u 8 0) (u 9 0) (u 10 0) (u 11 0) (u 12 0) (u 13 0) (u 14 0) (u 15 0) (u 16 0) (u 17 0) (u 18 0) (u 19 0) (cv 0), [(u 1 0, .inl (cy 0, 700, .inl T))], cX7 cy (u 2) (u 3 0) (u 4 0) (cv 2), cX9 cy (u 3) (cv 3), cX6 cy (u 4) (u 5 0) (cv 4), cX3 cy (u 5) (cv 5), cX6 cy (u 6) (u 7 0) (cv 6), cX3 cy (u 7) (cv 7), cX8 cy (u 8) (cv 8), cX8 cy (u 9) (cv 9), cX8 cy (u 10) (cv 10), cX0 cy (u 11) (cv 11), cX10 cy (u 12) (cv 12), cX10 cy (u 13) (cv 13), cX10 cy (u 14) (cv 14), cX2 cy (u 15) (cv 15), cX5 cy (u 16) (cv 16), cX1 cy (u 17) (cv 17), cX4 cy (u 18) (cv 18), [(u 19 0, .inl (cy 2, 73, .inr (.inl B)))], cX12 cy adm v1, [(qo, .inl (cy 2, 1, .inr (.inl o)))]]) (ccs := [cX12 cy adm v]) (ccs' := [cX12 cy adm v1]) (isC := [20]) (isR := [0, 1, 2, 3, 4, 5, 6, 7, 8, 9, 10, 11, 12, 13, 14, 15, 16, 17, 18, 19, 21]) hx hb hml hown hts (k_X12_wish l G cy ev adm v (xs (x4 + 1).toNatClampNeg) (xs (x4 + 2).toNatClampNeg) (r, v1) hm) wm_27_11 wm_27_12 wm_27_13 wm_1_5 wm_27_14 hd_X12_wish ⟨by decide, by decide⟩ wj_one.symm wj_one.symm (by show _ ≤ 601024; omega) (by show _ ≤ 7293034; omega) hK hP hD hS hA hE rfl rfl rfl (cov_of (n := 22) rfl (by decide)) (by decide) rfl (recvW (ci := 20) hK hP rfl (show (cX12 cy adm v)[0]? = some (adm 0, _) from rfl) rfl) rfl rfl hl.1 (Nat.le_of_ble_eq_true rfl) dL_law_461 (fun H locs hP hD hS => ?_)
  refine lv_icmp_eq (tgt := 1493) hx hb dL_law_464 (by decide) (fun _ => ?_) (fun c9 => absurd rfl c9)
  obtain ⟨x5, e5⟩ : ∃ y : Int32, y = x4 + 6 := ⟨_, rfl⟩
  refine lv_iinc (v := x5) (lv' := [(4, .int x5), (0, .ref b), (1, .ref (u 0 0)), (2, .ref (adm 0)), (3, .ref qo)]) hx hb dL_law_1493 hl (k := 4) rfl (by rw [e5]; rfl) (by decide) rfl (fun ls hl => ?_)
  refine lv_goto (tgt := 23) hx hb dL_law_1496 (by decide) ?_
  refine W.widen (k := 170 + (k + 1)) (n := 6921 + 6 * (k + 1)) (by omega) (by omega) ?_
  exact ih (u) adm qo (cv) T B v1 o x5 _ _ ls (by rw [e5, hx4]; exact (nI_add (6 * k) 6).trans (by rw [Nat.mul_succ])) hI hP hD hS (lv_sub hl [1, 2, 3, 4, 0] rfl)
set_option maxHeartbeats 4000000 in
set_option maxRecDepth 100000 in
theorem law_sitting {p : Program} {l : Launch} {e : Env} {s : State} {m : MethodId} {below : List Frame} {meth : Method} {cd : Code} {b L : Nat} {xs : Nat → Int32} {N : Nat} {INV : (Nat → VV) → (Nat → Int32) → (Nat → Int64) → VV → Prop} {G : va_G} {cy : Nat → ClassId} {ev : Nat → Nat} (hst : ST_sitting N INV) (C : LCX p s m meth cd b L xs G cy ev) (k : Nat) (hk : 6 * k + 6 ≤ L) (ih : LOOPS p l e s m below meth cd b L INV G cy (k + 1)) (u : Nat → Nat → Nat) (adm : Nat → Nat) (qo : Nat) (cv : Nat → VV) (T : Nat → Int32) (B : Nat → Int64) (v : VV) (o : Nat → Int64) (x4 : Int32) (H : Heap) (locs : List Loc) (ls : Array Slot) (hx4 : x4 = nI (6 * k)) (hI : INV cv T B v) (hP : va_P G vwCl (wj (W22 cy u adm qo cv T B v o)) H) (hD : va_D (fun q => s.heap.size ≤ q) (wj (W22 cy u adm qo cv T B v o))) (hS : va_S (fun q => s.heap.size ≤ q) s.heap H locs) (hl : lv_has ls 7 [(0, .ref b), (1, .ref (u 0 0)), (2, .ref (adm 0)), (3, .ref qo), (4, .int x4)]) : W p l e room_1 s m #[Value.ref b] below meth cd H locs (170 + k) (6921 + 6 * k) (lw_Z below #[Value.ref b] s) (F0 m 469 ls []) := by
  obtain ⟨hx, hb, hml, hown, hts, hK, hE, hX, hbl, hL⟩ := C
  have hA : ∀ q : Nat, s.heap.size ≤ q → (fun q : Nat => s.heap.size ≤ q) q := fun _ h => h
  have hbA : ¬ (fun q : Nat => s.heap.size ≤ q) b := Nat.not_le.mpr hbl
  have hin1 : vp_in (x4 + 1) L := by rw [hx4]; exact ix_in (j := 1) hk hL (by decide)
  have hin2 : vp_in (x4 + 2) L := by rw [hx4]; exact ix_in (j := 2) hk hL (by decide)
  have hin3 : vp_in (x4 + 3) L := by rw [hx4]; exact ix_in (j := 3) hk hL (by decide)
  have hin4 : vp_in (x4 + 4) L := by rw [hx4]; exact ix_in (j := 4) hk hL (by decide)
  have hin5 : vp_in (x4 + 5) L := by rw [hx4]; exact ix_in (j := 5) hk hL (by decide)
  refine lv_aload_n hx hb dL_law_469 rfl (lv_at hl 1 rfl) ?_
  refine lv_aload_n hx hb dL_law_470 rfl (lv_at hl 0 rfl) ?_
  refine lv_iload hx hb dL_law_471 (lv_at hl 4 rfl) ?_
  refine lv_iconst (v := 1) hx hb dL_law_473 (by decide) ?_
  refine lv_iadd hx hb dL_law_474 ?_
  refine va_sld hx hb hX hbl hbA hS hin1 dL_law_475 ?_
  refine lv_aload_n hx hb dL_law_476 rfl (lv_at hl 0 rfl) ?_
  refine lv_iload hx hb dL_law_477 (lv_at hl 4 rfl) ?_
  refine lv_iconst (v := 2) hx hb dL_law_479 (by decide) ?_
  refine lv_iadd hx hb dL_law_480 ?_
  refine va_sld hx hb hX hbl hbA hS hin2 dL_law_481 ?_
  obtain ⟨r, v1, hf, hm, hI⟩ := hst cv T B v (xs (x4 + 1).toNatClampNeg) (xs (x4 + 2).toNatClampNeg) hI
  refine callGVi (As := [.int (xs (x4 + 1).toNatClampNeg), .int (xs (x4 + 2).toNatClampNeg)]) (rest := []) (cs' := [cX11 cy (u 0) (u 1 0) (u 2 0) (u 6 0) (u 8 0) (u 9 0) (u 10 0) (u 11 0) (u 12 0) (u 13 0) (u 14 0) (u 15 0) (u 16 0) (u 17 0) (u 18 0) (u 19 0) (cv 0), [(u 1 0, .inl (cy 0, 700, .inl T))], cX7 cy (u 2) (u 3 0) (u 4 0) (cv 2), cX9 cy (u 3) (cv 3), cX6 cy (u 4) (u 5 0) (cv 4), cX3 cy (u 5) (cv 5), cX6 cy (u 6) (u 7 0) (cv 6), cX3 cy (u 7) (cv 7), cX8 cy (u 8) (cv 8), cX8 cy (u 9) (cv 9), cX8 cy (u 10) (cv 10), cX0 cy (u 11) (cv 11), cX10 cy (u 12) (cv 12), cX10 cy (u 13) (cv 13), cX10 cy (u 14) (cv 14), cX2 cy (u 15) (cv 15), cX5 cy (u 16) (cv 16), cX1 cy (u 17) (cv 17), cX4 cy (u 18) (cv 18), [(u 19 0, .inl (cy 2, 73, .inr (.inl B)))], cX12 cy adm v, [(qo, .inl (cy 2, 1, .inr (.inl o)))]]) (ccs := [cX11 cy (u 0) (u 1 0) (u 2 0) (u 6 0) (u 8 0) (u 9 0) (u 10 0) (u 11 0) (u 12 0) (u 13 0) (u 14 0) (u 15 0) (u 16 0) (u 17 0) (u 18 0) (u 19 0) (cv 0), cX6 cy (u 6) (u 7 0) (cv 6), cX8 cy (u 8) (cv 8)]) (ccs' := [cX11 cy (u 0) (u 1 0) (u 2 0) (u 6 0) (u 8 0) (u 9 0) (u 10 0) (u 11 0) (u 12 0) (u 13 0) (u 14 0) (u 15 0) (u 16 0) (u 17 0) (u 18 0) (u 19 0) (cv 0), cX6 cy (u 6) (u 7 0) (cv 6), cX8 cy (u 8) (cv 8)]) (isC := [0, 6, 8]) (isR := [1, 2, 3, 4, 5, 7, 9, 10, 11, 12, 13, 14, 15, 16, 17, 18, 19, 20, 21]) hx hb hml hown hts (k_X11_sitting l G cy ev N (u 0) (u 1 0) (u 2 0) (u 9 0) (u 10 0) (u 11 0) (u 12 0) (u 13 0) (u 14 0) (u 15 0) (u 16 0) (u 17 0) (u 18 0) (u 19 0) (cv 0) (u 6) (u 7 0) (cv 6) (u 8) (cv 8) (xs (x4 + 1).toNatClampNeg) (xs (x4 + 2).toNatClampNeg) r hf) wm_27_15 wm_27_16 wm_27_17 wm_1_2 wm_27_18 hd_X11_sitting ⟨by decide, by decide⟩ rfl rfl (by show _ ≤ 601024; omega) (by show _ ≤ 7293034; omega) hK hP hD hS hA hE rfl rfl rfl (cov_of (n := 22) rfl (by decide)) (by decide) rfl (recvW (ci := 0) hK hP rfl cX11_o rfl) rfl rfl hl.1 (Nat.le_of_ble_eq_true rfl) dL_law_482 (fun H locs hP hD hS => ?_)
  refine lv_aload_n hx hb dL_law_485 rfl (lv_at hl 2 rfl) ?_
  refine lv_aload_n hx hb dL_law_486 rfl (lv_at hl 0 rfl) ?_
  refine lv_iload hx hb dL_law_487 (lv_at hl 4 rfl) ?_
  refine lv_iconst (v := 1) hx hb dL_law_489 (by decide) ?_
  refine lv_iadd hx hb dL_law_490 ?_
  refine va_sld hx hb hX hbl hbA hS hin1 dL_law_491 ?_
  refine lv_aload_n hx hb dL_law_492 rfl (lv_at hl 0 rfl) ?_
  refine lv_iload hx hb dL_law_493 (lv_at hl 4 rfl) ?_
  refine lv_iconst (v := 2) hx hb dL_law_495 (by decide) ?_
  refine lv_iadd hx hb dL_law_496 ?_
  refine va_sld hx hb hX hbl hbA hS hin2 dL_law_497 ?_
  refine callGVi (As := [.int (xs (x4 + 1).toNatClampNeg), .int (xs (x4 + 2).toNatClampNeg)]) (rest := [.int r]) (cs' := [cX11 cy (u 0) (u 1 0) (u 2 0) (u 6 0) (u 8 0) (u 9 0) (u 10 0) (u 11 0) (u 12 0) (u 13 0) (u 14 0) (u 15 0) (u 16 0) (u 17 0) (u 18 0) (u 19 0) (cv 0), [(u 1 0, .inl (cy 0, 700, .inl T))], cX7 cy (u 2) (u 3 0) (u 4 0) (cv 2), cX9 cy (u 3) (cv 3), cX6 cy (u 4) (u 5 0) (cv 4), cX3 cy (u 5) (cv 5), cX6 cy (u 6) (u 7 0) (cv 6), cX3 cy (u 7) (cv 7), cX8 cy (u 8) (cv 8), cX8 cy (u 9) (cv 9), cX8 cy (u 10) (cv 10), cX0 cy (u 11) (cv 11), cX10 cy (u 12) (cv 12), cX10 cy (u 13) (cv 13), cX10 cy (u 14) (cv 14), cX2 cy (u 15) (cv 15), cX5 cy (u 16) (cv 16), cX1 cy (u 17) (cv 17), cX4 cy (u 18) (cv 18), [(u 19 0, .inl (cy 2, 73, .inr (.inl B)))], cX12 cy adm v1, [(qo, .inl (cy 2, 1, .inr (.inl o)))]]) (ccs := [cX12 cy adm v]) (ccs' := [cX12 cy adm v1]) (isC := [20]) (isR := [0, 1, 2, 3, 4, 5, 6, 7, 8, 9, 10, 11, 12, 13, 14, 15, 16, 17, 18, 19, 21]) hx hb hml hown hts (k_X12_sitting l G cy ev N adm v (xs (x4 + 1).toNatClampNeg) (xs (x4 + 2).toNatClampNeg) (r, v1) hm) wm_28_8 wm_28_9 wm_28_10 wm_1_5 wm_28_11 hd_X12_sitting ⟨by decide, by decide⟩ wj_one.symm wj_one.symm (by show _ ≤ 601024; omega) (by show _ ≤ 7293034; omega) hK hP hD hS hA hE rfl rfl rfl (cov_of (n := 22) rfl (by decide)) (by decide) rfl (recvW (ci := 20) hK hP rfl (show (cX12 cy adm v)[0]? = some (adm 0, _) from rfl) rfl) rfl rfl hl.1 (Nat.le_of_ble_eq_true rfl) dL_law_498 (fun H locs hP hD hS => ?_)
  refine lv_icmp_eq (tgt := 1493) hx hb dL_law_501 (by decide) (fun _ => ?_) (fun c9 => absurd rfl c9)
  obtain ⟨x5, e5⟩ : ∃ y : Int32, y = x4 + 6 := ⟨_, rfl⟩
  refine lv_iinc (v := x5) (lv' := [(4, .int x5), (0, .ref b), (1, .ref (u 0 0)), (2, .ref (adm 0)), (3, .ref qo)]) hx hb dL_law_1493 hl (k := 4) rfl (by rw [e5]; rfl) (by decide) rfl (fun ls hl => ?_)
  refine lv_goto (tgt := 23) hx hb dL_law_1496 (by decide) ?_
  refine W.widen (k := 170 + (k + 1)) (n := 6921 + 6 * (k + 1)) (by omega) (by omega) ?_
  exact ih (u) adm qo (cv) T B v1 o x5 _ _ ls (by rw [e5, hx4]; exact (nI_add (6 * k) 6).trans (by rw [Nat.mul_succ])) hI hP hD hS (lv_sub hl [1, 2, 3, 4, 0] rfl)
set_option maxHeartbeats 4000000 in
set_option maxRecDepth 100000 in
theorem law_law {p : Program} {l : Launch} {e : Env} {s : State} {m : MethodId} {below : List Frame} {meth : Method} {cd : Code} {b L : Nat} {xs : Nat → Int32} {N : Nat} {INV : (Nat → VV) → (Nat → Int32) → (Nat → Int64) → VV → Prop} {G : va_G} {cy : Nat → ClassId} {ev : Nat → Nat} (hst : ST_law N INV) (C : LCX p s m meth cd b L xs G cy ev) (k : Nat) (hk : 6 * k + 6 ≤ L) (ih : LOOPS p l e s m below meth cd b L INV G cy (k + 1)) (u : Nat → Nat → Nat) (adm : Nat → Nat) (qo : Nat) (cv : Nat → VV) (T : Nat → Int32) (B : Nat → Int64) (v : VV) (o : Nat → Int64) (x4 : Int32) (H : Heap) (locs : List Loc) (ls : Array Slot) (hx4 : x4 = nI (6 * k)) (hI : INV cv T B v) (hP : va_P G vwCl (wj (W22 cy u adm qo cv T B v o)) H) (hD : va_D (fun q => s.heap.size ≤ q) (wj (W22 cy u adm qo cv T B v o))) (hS : va_S (fun q => s.heap.size ≤ q) s.heap H locs) (hl : lv_has ls 7 [(0, .ref b), (1, .ref (u 0 0)), (2, .ref (adm 0)), (3, .ref qo), (4, .int x4)]) : W p l e room_1 s m #[Value.ref b] below meth cd H locs (170 + k) (6921 + 6 * k) (lw_Z below #[Value.ref b] s) (F0 m 506 ls []) := by
  obtain ⟨hx, hb, hml, hown, hts, hK, hE, hX, hbl, hL⟩ := C
  have hA : ∀ q : Nat, s.heap.size ≤ q → (fun q : Nat => s.heap.size ≤ q) q := fun _ h => h
  have hbA : ¬ (fun q : Nat => s.heap.size ≤ q) b := Nat.not_le.mpr hbl
  have hin1 : vp_in (x4 + 1) L := by rw [hx4]; exact ix_in (j := 1) hk hL (by decide)
  have hin2 : vp_in (x4 + 2) L := by rw [hx4]; exact ix_in (j := 2) hk hL (by decide)
  have hin3 : vp_in (x4 + 3) L := by rw [hx4]; exact ix_in (j := 3) hk hL (by decide)
  have hin4 : vp_in (x4 + 4) L := by rw [hx4]; exact ix_in (j := 4) hk hL (by decide)
  have hin5 : vp_in (x4 + 5) L := by rw [hx4]; exact ix_in (j := 5) hk hL (by decide)
  refine lv_aload_n hx hb dL_law_506 rfl (lv_at hl 1 rfl) ?_
  refine lv_aload_n hx hb dL_law_507 rfl (lv_at hl 0 rfl) ?_
  refine lv_iload hx hb dL_law_508 (lv_at hl 4 rfl) ?_
  refine lv_iconst (v := 1) hx hb dL_law_510 (by decide) ?_
  refine lv_iadd hx hb dL_law_511 ?_
  refine va_sld hx hb hX hbl hbA hS hin1 dL_law_512 ?_
  refine lv_aload_n hx hb dL_law_513 rfl (lv_at hl 0 rfl) ?_
  refine lv_iload hx hb dL_law_514 (lv_at hl 4 rfl) ?_
  refine lv_iconst (v := 2) hx hb dL_law_516 (by decide) ?_
  refine lv_iadd hx hb dL_law_517 ?_
  refine va_sld hx hb hX hbl hbA hS hin2 dL_law_518 ?_
  refine lv_aload_n hx hb dL_law_519 rfl (lv_at hl 0 rfl) ?_
  refine lv_iload hx hb dL_law_520 (lv_at hl 4 rfl) ?_
  refine lv_iconst (v := 3) hx hb dL_law_522 (by decide) ?_
  refine lv_iadd hx hb dL_law_523 ?_
  refine va_sld hx hb hX hbl hbA hS hin3 dL_law_524 ?_
  refine lv_aload_n hx hb dL_law_525 rfl (lv_at hl 0 rfl) ?_
  refine lv_iload hx hb dL_law_526 (lv_at hl 4 rfl) ?_
  refine lv_iconst (v := 4) hx hb dL_law_528 (by decide) ?_
  refine lv_iadd hx hb dL_law_529 ?_
  refine va_sld hx hb hX hbl hbA hS hin4 dL_law_530 ?_
  obtain ⟨r, n0, v1, hf, hm, hI⟩ := hst cv T B v (xs (x4 + 1).toNatClampNeg) (xs (x4 + 2).toNatClampNeg) (xs (x4 + 3).toNatClampNeg) (xs (x4 + 4).toNatClampNeg) hI
  refine callGVl (As := [.int (xs (x4 + 1).toNatClampNeg), .int (xs (x4 + 2).toNatClampNeg), .int (xs (x4 + 3).toNatClampNeg), .int (xs (x4 + 4).toNatClampNeg)]) (rest := []) (cs' := [cX11 cy (u 0) (u 1 0) (u 2 0) (u 6 0) (u 8 0) (u 9 0) (u 10 0) (u 11 0) (u 12 0) (u 13 0) (u 14 0) (u 15 0) (u 16 0) (u 17 0) (u 18 0) (u 19 0) (cv 0), [(u 1 0, .inl (cy 0, 700, .inl T))], cX7 cy (u 2) (u 3 0) (u 4 0) (cv 2), cX9 cy (u 3) (cv 3), cX6 cy (u 4) (u 5 0) (cv 4), cX3 cy (u 5) (cv 5), cX6 cy (u 6) (u 7 0) (cv 6), cX3 cy (u 7) n0, cX8 cy (u 8) (cv 8), cX8 cy (u 9) (cv 9), cX8 cy (u 10) (cv 10), cX0 cy (u 11) (cv 11), cX10 cy (u 12) (cv 12), cX10 cy (u 13) (cv 13), cX10 cy (u 14) (cv 14), cX2 cy (u 15) (cv 15), cX5 cy (u 16) (cv 16), cX1 cy (u 17) (cv 17), cX4 cy (u 18) (cv 18), [(u 19 0, .inl (cy 2, 73, .inr (.inl B)))], cX12 cy adm v, [(qo, .inl (cy 2, 1, .inr (.inl o)))]]) (ccs := [cX11 cy (u 0) (u 1 0) (u 2 0) (u 6 0) (u 8 0) (u 9 0) (u 10 0) (u 11 0) (u 12 0) (u 13 0) (u 14 0) (u 15 0) (u 16 0) (u 17 0) (u 18 0) (u 19 0) (cv 0), cX6 cy (u 6) (u 7 0) (cv 6), cX3 cy (u 7) (cv 7), cX8 cy (u 8) (cv 8), cX10 cy (u 12) (cv 12)]) (ccs' := [cX11 cy (u 0) (u 1 0) (u 2 0) (u 6 0) (u 8 0) (u 9 0) (u 10 0) (u 11 0) (u 12 0) (u 13 0) (u 14 0) (u 15 0) (u 16 0) (u 17 0) (u 18 0) (u 19 0) (cv 0), cX6 cy (u 6) (u 7 0) (cv 6), cX3 cy (u 7) n0, cX8 cy (u 8) (cv 8), cX10 cy (u 12) (cv 12)]) (isC := [0, 6, 7, 8, 12]) (isR := [1, 2, 3, 4, 5, 9, 10, 11, 13, 14, 15, 16, 17, 18, 19, 20, 21]) hx hb hml hown hts (k_X11_law l G cy ev N (u 0) (u 1 0) (u 2 0) (u 9 0) (u 10 0) (u 11 0) (u 13 0) (u 14 0) (u 15 0) (u 16 0) (u 17 0) (u 18 0) (u 19 0) (cv 0) (u 6) (cv 6) (u 7) (cv 7) (u 8) (cv 8) (u 12) (cv 12) (xs (x4 + 1).toNatClampNeg) (xs (x4 + 2).toNatClampNeg) (xs (x4 + 3).toNatClampNeg) (xs (x4 + 4).toNatClampNeg) (r, n0) hf) wm_28_20 wm_28_21 wm_28_22 wm_1_2 wm_28_23 hd_X11_law ⟨by decide, by decide⟩ rfl rfl (by show _ ≤ 601024; omega) (by show _ ≤ 7293034; omega) hK hP hD hS hA hE rfl rfl rfl (cov_of (n := 22) rfl (by decide)) (by decide) rfl (recvW (ci := 0) hK hP rfl cX11_o rfl) rfl rfl hl.1 (Nat.le_of_ble_eq_true rfl) dL_law_531 (fun H locs hP hD hS => ?_)
  refine lv_aload_n hx hb dL_law_534 rfl (lv_at hl 2 rfl) ?_
  refine lv_aload_n hx hb dL_law_535 rfl (lv_at hl 0 rfl) ?_
  refine lv_iload hx hb dL_law_536 (lv_at hl 4 rfl) ?_
  refine lv_iconst (v := 1) hx hb dL_law_538 (by decide) ?_
  refine lv_iadd hx hb dL_law_539 ?_
  refine va_sld hx hb hX hbl hbA hS hin1 dL_law_540 ?_
  refine lv_aload_n hx hb dL_law_541 rfl (lv_at hl 0 rfl) ?_
  refine lv_iload hx hb dL_law_542 (lv_at hl 4 rfl) ?_
  refine lv_iconst (v := 2) hx hb dL_law_544 (by decide) ?_
  refine lv_iadd hx hb dL_law_545 ?_
  refine va_sld hx hb hX hbl hbA hS hin2 dL_law_546 ?_
  refine lv_aload_n hx hb dL_law_547 rfl (lv_at hl 0 rfl) ?_
  refine lv_iload hx hb dL_law_548 (lv_at hl 4 rfl) ?_
  refine lv_iconst (v := 3) hx hb dL_law_550 (by decide) ?_
  refine lv_iadd hx hb dL_law_551 ?_
  refine va_sld hx hb hX hbl hbA hS hin3 dL_law_552 ?_
  refine lv_aload_n hx hb dL_law_553 rfl (lv_at hl 0 rfl) ?_
  refine lv_iload hx hb dL_law_554 (lv_at hl 4 rfl) ?_
  refine lv_iconst (v := 4) hx hb dL_law_556 (by decide) ?_
  refine lv_iadd hx hb dL_law_557 ?_
  refine va_sld hx hb hX hbl hbA hS hin4 dL_law_558 ?_
  refine callGVl (As := [.int (xs (x4 + 1).toNatClampNeg), .int (xs (x4 + 2).toNatClampNeg), .int (xs (x4 + 3).toNatClampNeg), .int (xs (x4 + 4).toNatClampNeg)]) (rest := [.long r]) (cs' := [cX11 cy (u 0) (u 1 0) (u 2 0) (u 6 0) (u 8 0) (u 9 0) (u 10 0) (u 11 0) (u 12 0) (u 13 0) (u 14 0) (u 15 0) (u 16 0) (u 17 0) (u 18 0) (u 19 0) (cv 0), [(u 1 0, .inl (cy 0, 700, .inl T))], cX7 cy (u 2) (u 3 0) (u 4 0) (cv 2), cX9 cy (u 3) (cv 3), cX6 cy (u 4) (u 5 0) (cv 4), cX3 cy (u 5) (cv 5), cX6 cy (u 6) (u 7 0) (cv 6), cX3 cy (u 7) n0, cX8 cy (u 8) (cv 8), cX8 cy (u 9) (cv 9), cX8 cy (u 10) (cv 10), cX0 cy (u 11) (cv 11), cX10 cy (u 12) (cv 12), cX10 cy (u 13) (cv 13), cX10 cy (u 14) (cv 14), cX2 cy (u 15) (cv 15), cX5 cy (u 16) (cv 16), cX1 cy (u 17) (cv 17), cX4 cy (u 18) (cv 18), [(u 19 0, .inl (cy 2, 73, .inr (.inl B)))], cX12 cy adm v1, [(qo, .inl (cy 2, 1, .inr (.inl o)))]]) (ccs := [cX12 cy adm v]) (ccs' := [cX12 cy adm v1]) (isC := [20]) (isR := [0, 1, 2, 3, 4, 5, 6, 7, 8, 9, 10, 11, 12, 13, 14, 15, 16, 17, 18, 19, 21]) hx hb hml hown hts (k_X12_law l G cy ev N adm v (xs (x4 + 1).toNatClampNeg) (xs (x4 + 2).toNatClampNeg) (xs (x4 + 3).toNatClampNeg) (xs (x4 + 4).toNatClampNeg) (r, v1) hm) wm_30_6 wm_30_7 wm_30_8 wm_1_5 wm_30_9 hd_X12_law ⟨by decide, by decide⟩ wj_one.symm wj_one.symm (by show _ ≤ 601024; omega) (by show _ ≤ 7293034; omega) hK hP hD hS hA hE rfl rfl rfl (cov_of (n := 22) rfl (by decide)) (by decide) rfl (recvW (ci := 20) hK hP rfl (show (cX12 cy adm v)[0]? = some (adm 0, _) from rfl) rfl) rfl rfl hl.1 (Nat.le_of_ble_eq_true rfl) dL_law_559 (fun H locs hP hD hS => ?_)
  refine W.lcmp hx hb dL_law_562 ?_
  refine lv_if_eq (tgt := 1493) hx hb dL_law_563 (by decide) (fun _ => ?_) (fun c9 => absurd ((lg_cmp_eq _ _).mpr rfl) c9)
  obtain ⟨x5, e5⟩ : ∃ y : Int32, y = x4 + 6 := ⟨_, rfl⟩
  refine lv_iinc (v := x5) (lv' := [(4, .int x5), (0, .ref b), (1, .ref (u 0 0)), (2, .ref (adm 0)), (3, .ref qo)]) hx hb dL_law_1493 hl (k := 4) rfl (by rw [e5]; rfl) (by decide) rfl (fun ls hl => ?_)
  refine lv_goto (tgt := 23) hx hb dL_law_1496 (by decide) ?_
  refine W.widen (k := 170 + (k + 1)) (n := 6921 + 6 * (k + 1)) (by omega) (by omega) ?_
  exact ih (u) adm qo (uc cv 7 n0) T B v1 o x5 _ _ ls (by rw [e5, hx4]; exact (nI_add (6 * k) 6).trans (by rw [Nat.mul_succ])) hI hP hD hS (lv_sub hl [1, 2, 3, 4, 0] rfl)
set_option maxHeartbeats 4000000 in
set_option maxRecDepth 100000 in
theorem law_give {p : Program} {l : Launch} {e : Env} {s : State} {m : MethodId} {below : List Frame} {meth : Method} {cd : Code} {b L : Nat} {xs : Nat → Int32} {N : Nat} {INV : (Nat → VV) → (Nat → Int32) → (Nat → Int64) → VV → Prop} {G : va_G} {cy : Nat → ClassId} {ev : Nat → Nat} (hst : ST_give N INV) (C : LCX p s m meth cd b L xs G cy ev) (k : Nat) (hk : 6 * k + 6 ≤ L) (ih : LOOPS p l e s m below meth cd b L INV G cy (k + 1)) (u : Nat → Nat → Nat) (adm : Nat → Nat) (qo : Nat) (cv : Nat → VV) (T : Nat → Int32) (B : Nat → Int64) (v : VV) (o : Nat → Int64) (x4 : Int32) (H : Heap) (locs : List Loc) (ls : Array Slot) (hx4 : x4 = nI (6 * k)) (hI : INV cv T B v) (hP : va_P G vwCl (wj (W22 cy u adm qo cv T B v o)) H) (hD : va_D (fun q => s.heap.size ≤ q) (wj (W22 cy u adm qo cv T B v o))) (hS : va_S (fun q => s.heap.size ≤ q) s.heap H locs) (hl : lv_has ls 7 [(0, .ref b), (1, .ref (u 0 0)), (2, .ref (adm 0)), (3, .ref qo), (4, .int x4)]) : W p l e room_1 s m #[Value.ref b] below meth cd H locs (170 + k) (6921 + 6 * k) (lw_Z below #[Value.ref b] s) (F0 m 568 ls []) := by
  obtain ⟨hx, hb, hml, hown, hts, hK, hE, hX, hbl, hL⟩ := C
  have hA : ∀ q : Nat, s.heap.size ≤ q → (fun q : Nat => s.heap.size ≤ q) q := fun _ h => h
  have hbA : ¬ (fun q : Nat => s.heap.size ≤ q) b := Nat.not_le.mpr hbl
  have hin1 : vp_in (x4 + 1) L := by rw [hx4]; exact ix_in (j := 1) hk hL (by decide)
  have hin2 : vp_in (x4 + 2) L := by rw [hx4]; exact ix_in (j := 2) hk hL (by decide)
  have hin3 : vp_in (x4 + 3) L := by rw [hx4]; exact ix_in (j := 3) hk hL (by decide)
  have hin4 : vp_in (x4 + 4) L := by rw [hx4]; exact ix_in (j := 4) hk hL (by decide)
  have hin5 : vp_in (x4 + 5) L := by rw [hx4]; exact ix_in (j := 5) hk hL (by decide)
  refine lv_aload_n hx hb dL_law_568 rfl (lv_at hl 1 rfl) ?_
  refine lv_aload_n hx hb dL_law_569 rfl (lv_at hl 0 rfl) ?_
  refine lv_iload hx hb dL_law_570 (lv_at hl 4 rfl) ?_
  refine lv_iconst (v := 1) hx hb dL_law_572 (by decide) ?_
  refine lv_iadd hx hb dL_law_573 ?_
  refine va_sld hx hb hX hbl hbA hS hin1 dL_law_574 ?_
  refine lv_aload_n hx hb dL_law_575 rfl (lv_at hl 0 rfl) ?_
  refine lv_iload hx hb dL_law_576 (lv_at hl 4 rfl) ?_
  refine lv_iconst (v := 2) hx hb dL_law_578 (by decide) ?_
  refine lv_iadd hx hb dL_law_579 ?_
  refine va_sld hx hb hX hbl hbA hS hin2 dL_law_580 ?_
  obtain ⟨r, n0, n1, v1, hf, hm, hI⟩ := hst cv T B v (xs (x4 + 1).toNatClampNeg) (xs (x4 + 2).toNatClampNeg) hI
  refine callGVi (As := [.int (xs (x4 + 1).toNatClampNeg), .int (xs (x4 + 2).toNatClampNeg)]) (rest := []) (cs' := [cX11 cy (u 0) (u 1 0) (u 2 0) (u 6 0) (u 8 0) (u 9 0) (u 10 0) (u 11 0) (u 12 0) (u 13 0) (u 14 0) (u 15 0) (u 16 0) (u 17 0) (u 18 0) (u 19 0) (cv 0), [(u 1 0, .inl (cy 0, 700, .inl T))], cX7 cy (u 2) (u 3 0) (u 4 0) (cv 2), cX9 cy (u 3) (cv 3), cX6 cy (u 4) (u 5 0) (cv 4), cX3 cy (u 5) (cv 5), cX6 cy (u 6) (u 7 0) (cv 6), cX3 cy (u 7) (cv 7), cX8 cy (u 8) n0, cX8 cy (u 9) (cv 9), cX8 cy (u 10) (cv 10), cX0 cy (u 11) (cv 11), cX10 cy (u 12) (cv 12), cX10 cy (u 13) (cv 13), cX10 cy (u 14) (cv 14), cX2 cy (u 15) n1, cX5 cy (u 16) (cv 16), cX1 cy (u 17) (cv 17), cX4 cy (u 18) (cv 18), [(u 19 0, .inl (cy 2, 73, .inr (.inl B)))], cX12 cy adm v, [(qo, .inl (cy 2, 1, .inr (.inl o)))]]) (ccs := [cX11 cy (u 0) (u 1 0) (u 2 0) (u 6 0) (u 8 0) (u 9 0) (u 10 0) (u 11 0) (u 12 0) (u 13 0) (u 14 0) (u 15 0) (u 16 0) (u 17 0) (u 18 0) (u 19 0) (cv 0), cX6 cy (u 6) (u 7 0) (cv 6), cX8 cy (u 8) (cv 8), cX2 cy (u 15) (cv 15)]) (ccs' := [cX11 cy (u 0) (u 1 0) (u 2 0) (u 6 0) (u 8 0) (u 9 0) (u 10 0) (u 11 0) (u 12 0) (u 13 0) (u 14 0) (u 15 0) (u 16 0) (u 17 0) (u 18 0) (u 19 0) (cv 0), cX6 cy (u 6) (u 7 0) (cv 6), cX8 cy (u 8) n0, cX2 cy (u 15) n1]) (isC := [0, 6, 8, 15]) (isR := [1, 2, 3, 4, 5, 7, 9, 10, 11, 12, 13, 14, 16, 17, 18, 19, 20, 21]) hx hb hml hown hts (k_X11_give l G cy ev N (u 0) (u 1 0) (u 2 0) (u 9 0) (u 10 0) (u 11 0) (u 12 0) (u 13 0) (u 14 0) (u 16 0) (u 17 0) (u 18 0) (u 19 0) (cv 0) (u 6) (u 7 0) (cv 6) (u 8) (cv 8) (u 15) (cv 15) (xs (x4 + 1).toNatClampNeg) (xs (x4 + 2).toNatClampNeg) (r, n0, n1) hf) wm_31_17 wm_31_18 wm_31_19 wm_1_2 wm_31_20 hd_X11_give ⟨by decide, by decide⟩ rfl rfl (by show _ ≤ 601024; omega) (by show _ ≤ 7293034; omega) hK hP hD hS hA hE rfl rfl rfl (cov_of (n := 22) rfl (by decide)) (by decide) rfl (recvW (ci := 0) hK hP rfl cX11_o rfl) rfl rfl hl.1 (Nat.le_of_ble_eq_true rfl) dL_law_581 (fun H locs hP hD hS => ?_)
  refine lv_aload_n hx hb dL_law_584 rfl (lv_at hl 2 rfl) ?_
  refine lv_aload_n hx hb dL_law_585 rfl (lv_at hl 0 rfl) ?_
  refine lv_iload hx hb dL_law_586 (lv_at hl 4 rfl) ?_
  refine lv_iconst (v := 1) hx hb dL_law_588 (by decide) ?_
  refine lv_iadd hx hb dL_law_589 ?_
  refine va_sld hx hb hX hbl hbA hS hin1 dL_law_590 ?_
  refine lv_aload_n hx hb dL_law_591 rfl (lv_at hl 0 rfl) ?_
  refine lv_iload hx hb dL_law_592 (lv_at hl 4 rfl) ?_
  refine lv_iconst (v := 2) hx hb dL_law_594 (by decide) ?_
  refine lv_iadd hx hb dL_law_595 ?_
  refine va_sld hx hb hX hbl hbA hS hin2 dL_law_596 ?_
  refine callGVi (As := [.int (xs (x4 + 1).toNatClampNeg), .int (xs (x4 + 2).toNatClampNeg)]) (rest := [.int r]) (cs' := [cX11 cy (u 0) (u 1 0) (u 2 0) (u 6 0) (u 8 0) (u 9 0) (u 10 0) (u 11 0) (u 12 0) (u 13 0) (u 14 0) (u 15 0) (u 16 0) (u 17 0) (u 18 0) (u 19 0) (cv 0), [(u 1 0, .inl (cy 0, 700, .inl T))], cX7 cy (u 2) (u 3 0) (u 4 0) (cv 2), cX9 cy (u 3) (cv 3), cX6 cy (u 4) (u 5 0) (cv 4), cX3 cy (u 5) (cv 5), cX6 cy (u 6) (u 7 0) (cv 6), cX3 cy (u 7) (cv 7), cX8 cy (u 8) n0, cX8 cy (u 9) (cv 9), cX8 cy (u 10) (cv 10), cX0 cy (u 11) (cv 11), cX10 cy (u 12) (cv 12), cX10 cy (u 13) (cv 13), cX10 cy (u 14) (cv 14), cX2 cy (u 15) n1, cX5 cy (u 16) (cv 16), cX1 cy (u 17) (cv 17), cX4 cy (u 18) (cv 18), [(u 19 0, .inl (cy 2, 73, .inr (.inl B)))], cX12 cy adm v1, [(qo, .inl (cy 2, 1, .inr (.inl o)))]]) (ccs := [cX12 cy adm v]) (ccs' := [cX12 cy adm v1]) (isC := [20]) (isR := [0, 1, 2, 3, 4, 5, 6, 7, 8, 9, 10, 11, 12, 13, 14, 15, 16, 17, 18, 19, 21]) hx hb hml hown hts (k_X12_give l G cy ev N adm v (xs (x4 + 1).toNatClampNeg) (xs (x4 + 2).toNatClampNeg) (r, v1) hm) wm_32_6 wm_32_7 wm_32_8 wm_1_5 wm_32_9 hd_X12_give ⟨by decide, by decide⟩ wj_one.symm wj_one.symm (by show _ ≤ 601024; omega) (by show _ ≤ 7293034; omega) hK hP hD hS hA hE rfl rfl rfl (cov_of (n := 22) rfl (by decide)) (by decide) rfl (recvW (ci := 20) hK hP rfl (show (cX12 cy adm v)[0]? = some (adm 0, _) from rfl) rfl) rfl rfl hl.1 (Nat.le_of_ble_eq_true rfl) dL_law_597 (fun H locs hP hD hS => ?_)
  refine lv_icmp_eq (tgt := 1493) hx hb dL_law_600 (by decide) (fun _ => ?_) (fun c9 => absurd rfl c9)
  obtain ⟨x5, e5⟩ : ∃ y : Int32, y = x4 + 6 := ⟨_, rfl⟩
  refine lv_iinc (v := x5) (lv' := [(4, .int x5), (0, .ref b), (1, .ref (u 0 0)), (2, .ref (adm 0)), (3, .ref qo)]) hx hb dL_law_1493 hl (k := 4) rfl (by rw [e5]; rfl) (by decide) rfl (fun ls hl => ?_)
  refine lv_goto (tgt := 23) hx hb dL_law_1496 (by decide) ?_
  refine W.widen (k := 170 + (k + 1)) (n := 6921 + 6 * (k + 1)) (by omega) (by omega) ?_
  exact ih (u) adm qo (uc (uc cv 8 n0) 15 n1) T B v1 o x5 _ _ ls (by rw [e5, hx4]; exact (nI_add (6 * k) 6).trans (by rw [Nat.mul_succ])) hI hP hD hS (lv_sub hl [1, 2, 3, 4, 0] rfl)
set_option maxHeartbeats 4000000 in
set_option maxRecDepth 100000 in
theorem law_sign {p : Program} {l : Launch} {e : Env} {s : State} {m : MethodId} {below : List Frame} {meth : Method} {cd : Code} {b L : Nat} {xs : Nat → Int32} {N : Nat} {INV : (Nat → VV) → (Nat → Int32) → (Nat → Int64) → VV → Prop} {G : va_G} {cy : Nat → ClassId} {ev : Nat → Nat} (hst : ST_sign N INV) (C : LCX p s m meth cd b L xs G cy ev) (k : Nat) (hk : 6 * k + 6 ≤ L) (ih : LOOPS p l e s m below meth cd b L INV G cy (k + 1)) (u : Nat → Nat → Nat) (adm : Nat → Nat) (qo : Nat) (cv : Nat → VV) (T : Nat → Int32) (B : Nat → Int64) (v : VV) (o : Nat → Int64) (x4 : Int32) (H : Heap) (locs : List Loc) (ls : Array Slot) (hx4 : x4 = nI (6 * k)) (hI : INV cv T B v) (hP : va_P G vwCl (wj (W22 cy u adm qo cv T B v o)) H) (hD : va_D (fun q => s.heap.size ≤ q) (wj (W22 cy u adm qo cv T B v o))) (hS : va_S (fun q => s.heap.size ≤ q) s.heap H locs) (hl : lv_has ls 7 [(0, .ref b), (1, .ref (u 0 0)), (2, .ref (adm 0)), (3, .ref qo), (4, .int x4)]) : W p l e room_1 s m #[Value.ref b] below meth cd H locs (170 + k) (6921 + 6 * k) (lw_Z below #[Value.ref b] s) (F0 m 605 ls []) := by
  obtain ⟨hx, hb, hml, hown, hts, hK, hE, hX, hbl, hL⟩ := C
  have hA : ∀ q : Nat, s.heap.size ≤ q → (fun q : Nat => s.heap.size ≤ q) q := fun _ h => h
  have hbA : ¬ (fun q : Nat => s.heap.size ≤ q) b := Nat.not_le.mpr hbl
  have hin1 : vp_in (x4 + 1) L := by rw [hx4]; exact ix_in (j := 1) hk hL (by decide)
  have hin2 : vp_in (x4 + 2) L := by rw [hx4]; exact ix_in (j := 2) hk hL (by decide)
  have hin3 : vp_in (x4 + 3) L := by rw [hx4]; exact ix_in (j := 3) hk hL (by decide)
  have hin4 : vp_in (x4 + 4) L := by rw [hx4]; exact ix_in (j := 4) hk hL (by decide)
  have hin5 : vp_in (x4 + 5) L := by rw [hx4]; exact ix_in (j := 5) hk hL (by decide)
  refine lv_aload_n hx hb dL_law_605 rfl (lv_at hl 1 rfl) ?_
  refine lv_aload_n hx hb dL_law_606 rfl (lv_at hl 0 rfl) ?_
  refine lv_iload hx hb dL_law_607 (lv_at hl 4 rfl) ?_
  refine lv_iconst (v := 1) hx hb dL_law_609 (by decide) ?_
  refine lv_iadd hx hb dL_law_610 ?_
  refine va_sld hx hb hX hbl hbA hS hin1 dL_law_611 ?_
  refine lv_aload_n hx hb dL_law_612 rfl (lv_at hl 0 rfl) ?_
  refine lv_iload hx hb dL_law_613 (lv_at hl 4 rfl) ?_
  refine lv_iconst (v := 2) hx hb dL_law_615 (by decide) ?_
  refine lv_iadd hx hb dL_law_616 ?_
  refine va_sld hx hb hX hbl hbA hS hin2 dL_law_617 ?_
  obtain ⟨r, n0, n1, v1, hf, hm, hI⟩ := hst cv T B v (xs (x4 + 1).toNatClampNeg) (xs (x4 + 2).toNatClampNeg) hI
  refine callGVi (As := [.int (xs (x4 + 1).toNatClampNeg), .int (xs (x4 + 2).toNatClampNeg)]) (rest := []) (cs' := [cX11 cy (u 0) (u 1 0) (u 2 0) (u 6 0) (u 8 0) (u 9 0) (u 10 0) (u 11 0) (u 12 0) (u 13 0) (u 14 0) (u 15 0) (u 16 0) (u 17 0) (u 18 0) (u 19 0) (cv 0), [(u 1 0, .inl (cy 0, 700, .inl T))], cX7 cy (u 2) (u 3 0) (u 4 0) (cv 2), cX9 cy (u 3) (cv 3), cX6 cy (u 4) (u 5 0) (cv 4), cX3 cy (u 5) (cv 5), cX6 cy (u 6) (u 7 0) (cv 6), cX3 cy (u 7) (cv 7), cX8 cy (u 8) n0, cX8 cy (u 9) (cv 9), cX8 cy (u 10) (cv 10), cX0 cy (u 11) (cv 11), cX10 cy (u 12) (cv 12), cX10 cy (u 13) (cv 13), cX10 cy (u 14) (cv 14), cX2 cy (u 15) n1, cX5 cy (u 16) (cv 16), cX1 cy (u 17) (cv 17), cX4 cy (u 18) (cv 18), [(u 19 0, .inl (cy 2, 73, .inr (.inl B)))], cX12 cy adm v, [(qo, .inl (cy 2, 1, .inr (.inl o)))]]) (ccs := [cX11 cy (u 0) (u 1 0) (u 2 0) (u 6 0) (u 8 0) (u 9 0) (u 10 0) (u 11 0) (u 12 0) (u 13 0) (u 14 0) (u 15 0) (u 16 0) (u 17 0) (u 18 0) (u 19 0) (cv 0), cX6 cy (u 6) (u 7 0) (cv 6), cX8 cy (u 8) (cv 8), cX2 cy (u 15) (cv 15)]) (ccs' := [cX11 cy (u 0) (u 1 0) (u 2 0) (u 6 0) (u 8 0) (u 9 0) (u 10 0) (u 11 0) (u 12 0) (u 13 0) (u 14 0) (u 15 0) (u 16 0) (u 17 0) (u 18 0) (u 19 0) (cv 0), cX6 cy (u 6) (u 7 0) (cv 6), cX8 cy (u 8) n0, cX2 cy (u 15) n1]) (isC := [0, 6, 8, 15]) (isR := [1, 2, 3, 4, 5, 7, 9, 10, 11, 12, 13, 14, 16, 17, 18, 19, 20, 21]) hx hb hml hown hts (k_X11_sign l G cy ev (u 0) (u 1 0) (u 2 0) (u 9 0) (u 10 0) (u 11 0) (u 12 0) (u 13 0) (u 14 0) (u 16 0) (u 17 0) (u 18 0) (u 19 0) (cv 0) (u 6) (u 7 0) (cv 6) (u 8) (cv 8) (u 15) (cv 15) (xs (x4 + 1).toNatClampNeg) (xs (x4 + 2).toNatClampNeg) (r, n0, n1) hf) wm_32_18 wm_32_19 wm_32_20 wm_1_2 wm_32_21 hd_X11_sign ⟨by decide, by decide⟩ rfl rfl (by show _ ≤ 601024; omega) (by show _ ≤ 7293034; omega) hK hP hD hS hA hE rfl rfl rfl (cov_of (n := 22) rfl (by decide)) (by decide) rfl (recvW (ci := 0) hK hP rfl cX11_o rfl) rfl rfl hl.1 (Nat.le_of_ble_eq_true rfl) dL_law_618 (fun H locs hP hD hS => ?_)
  refine lv_aload_n hx hb dL_law_621 rfl (lv_at hl 2 rfl) ?_
  refine lv_aload_n hx hb dL_law_622 rfl (lv_at hl 0 rfl) ?_
  refine lv_iload hx hb dL_law_623 (lv_at hl 4 rfl) ?_
  refine lv_iconst (v := 1) hx hb dL_law_625 (by decide) ?_
  refine lv_iadd hx hb dL_law_626 ?_
  refine va_sld hx hb hX hbl hbA hS hin1 dL_law_627 ?_
  refine lv_aload_n hx hb dL_law_628 rfl (lv_at hl 0 rfl) ?_
  refine lv_iload hx hb dL_law_629 (lv_at hl 4 rfl) ?_
  refine lv_iconst (v := 2) hx hb dL_law_631 (by decide) ?_
  refine lv_iadd hx hb dL_law_632 ?_
  refine va_sld hx hb hX hbl hbA hS hin2 dL_law_633 ?_
  refine callGVi (As := [.int (xs (x4 + 1).toNatClampNeg), .int (xs (x4 + 2).toNatClampNeg)]) (rest := [.int r]) (cs' := [cX11 cy (u 0) (u 1 0) (u 2 0) (u 6 0) (u 8 0) (u 9 0) (u 10 0) (u 11 0) (u 12 0) (u 13 0) (u 14 0) (u 15 0) (u 16 0) (u 17 0) (u 18 0) (u 19 0) (cv 0), [(u 1 0, .inl (cy 0, 700, .inl T))], cX7 cy (u 2) (u 3 0) (u 4 0) (cv 2), cX9 cy (u 3) (cv 3), cX6 cy (u 4) (u 5 0) (cv 4), cX3 cy (u 5) (cv 5), cX6 cy (u 6) (u 7 0) (cv 6), cX3 cy (u 7) (cv 7), cX8 cy (u 8) n0, cX8 cy (u 9) (cv 9), cX8 cy (u 10) (cv 10), cX0 cy (u 11) (cv 11), cX10 cy (u 12) (cv 12), cX10 cy (u 13) (cv 13), cX10 cy (u 14) (cv 14), cX2 cy (u 15) n1, cX5 cy (u 16) (cv 16), cX1 cy (u 17) (cv 17), cX4 cy (u 18) (cv 18), [(u 19 0, .inl (cy 2, 73, .inr (.inl B)))], cX12 cy adm v1, [(qo, .inl (cy 2, 1, .inr (.inl o)))]]) (ccs := [cX12 cy adm v]) (ccs' := [cX12 cy adm v1]) (isC := [20]) (isR := [0, 1, 2, 3, 4, 5, 6, 7, 8, 9, 10, 11, 12, 13, 14, 15, 16, 17, 18, 19, 21]) hx hb hml hown hts (k_X12_sign_ l G cy ev N adm v (xs (x4 + 1).toNatClampNeg) (xs (x4 + 2).toNatClampNeg) (r, v1) hm) wm_32_22 wm_32_23 wm_33_0 wm_1_5 wm_33_1 hd_X12_sign_ ⟨by decide, by decide⟩ wj_one.symm wj_one.symm (by show _ ≤ 601024; omega) (by show _ ≤ 7293034; omega) hK hP hD hS hA hE rfl rfl rfl (cov_of (n := 22) rfl (by decide)) (by decide) rfl (recvW (ci := 20) hK hP rfl (show (cX12 cy adm v)[0]? = some (adm 0, _) from rfl) rfl) rfl rfl hl.1 (Nat.le_of_ble_eq_true rfl) dL_law_634 (fun H locs hP hD hS => ?_)
  refine lv_icmp_eq (tgt := 1493) hx hb dL_law_637 (by decide) (fun _ => ?_) (fun c9 => absurd rfl c9)
  obtain ⟨x5, e5⟩ : ∃ y : Int32, y = x4 + 6 := ⟨_, rfl⟩
  refine lv_iinc (v := x5) (lv' := [(4, .int x5), (0, .ref b), (1, .ref (u 0 0)), (2, .ref (adm 0)), (3, .ref qo)]) hx hb dL_law_1493 hl (k := 4) rfl (by rw [e5]; rfl) (by decide) rfl (fun ls hl => ?_)
  refine lv_goto (tgt := 23) hx hb dL_law_1496 (by decide) ?_
  refine W.widen (k := 170 + (k + 1)) (n := 6921 + 6 * (k + 1)) (by omega) (by omega) ?_
  exact ih (u) adm qo (uc (uc cv 8 n0) 15 n1) T B v1 o x5 _ _ ls (by rw [e5, hx4]; exact (nI_add (6 * k) 6).trans (by rw [Nat.mul_succ])) hI hP hD hS (lv_sub hl [1, 2, 3, 4, 0] rfl)
set_option maxHeartbeats 4000000 in
set_option maxRecDepth 100000 in
theorem law_price {p : Program} {l : Launch} {e : Env} {s : State} {m : MethodId} {below : List Frame} {meth : Method} {cd : Code} {b L : Nat} {xs : Nat → Int32} {N : Nat} {INV : (Nat → VV) → (Nat → Int32) → (Nat → Int64) → VV → Prop} {G : va_G} {cy : Nat → ClassId} {ev : Nat → Nat} (hst : ST_price N INV) (C : LCX p s m meth cd b L xs G cy ev) (k : Nat) (hk : 6 * k + 6 ≤ L) (ih : LOOPS p l e s m below meth cd b L INV G cy (k + 1)) (u : Nat → Nat → Nat) (adm : Nat → Nat) (qo : Nat) (cv : Nat → VV) (T : Nat → Int32) (B : Nat → Int64) (v : VV) (o : Nat → Int64) (x4 : Int32) (H : Heap) (locs : List Loc) (ls : Array Slot) (hx4 : x4 = nI (6 * k)) (hI : INV cv T B v) (hP : va_P G vwCl (wj (W22 cy u adm qo cv T B v o)) H) (hD : va_D (fun q => s.heap.size ≤ q) (wj (W22 cy u adm qo cv T B v o))) (hS : va_S (fun q => s.heap.size ≤ q) s.heap H locs) (hl : lv_has ls 7 [(0, .ref b), (1, .ref (u 0 0)), (2, .ref (adm 0)), (3, .ref qo), (4, .int x4)]) : W p l e room_1 s m #[Value.ref b] below meth cd H locs (170 + k) (6921 + 6 * k) (lw_Z below #[Value.ref b] s) (F0 m 642 ls []) := by
  obtain ⟨hx, hb, hml, hown, hts, hK, hE, hX, hbl, hL⟩ := C
  have hA : ∀ q : Nat, s.heap.size ≤ q → (fun q : Nat => s.heap.size ≤ q) q := fun _ h => h
  have hbA : ¬ (fun q : Nat => s.heap.size ≤ q) b := Nat.not_le.mpr hbl
  have hin1 : vp_in (x4 + 1) L := by rw [hx4]; exact ix_in (j := 1) hk hL (by decide)
  have hin2 : vp_in (x4 + 2) L := by rw [hx4]; exact ix_in (j := 2) hk hL (by decide)
  have hin3 : vp_in (x4 + 3) L := by rw [hx4]; exact ix_in (j := 3) hk hL (by decide)
  have hin4 : vp_in (x4 + 4) L := by rw [hx4]; exact ix_in (j := 4) hk hL (by decide)
  have hin5 : vp_in (x4 + 5) L := by rw [hx4]; exact ix_in (j := 5) hk hL (by decide)
  refine lv_aload_n hx hb dL_law_642 rfl (lv_at hl 1 rfl) ?_
  refine lv_aload_n hx hb dL_law_643 rfl (lv_at hl 0 rfl) ?_
  refine lv_iload hx hb dL_law_644 (lv_at hl 4 rfl) ?_
  refine lv_iconst (v := 1) hx hb dL_law_646 (by decide) ?_
  refine lv_iadd hx hb dL_law_647 ?_
  refine va_sld hx hb hX hbl hbA hS hin1 dL_law_648 ?_
  refine lv_aload_n hx hb dL_law_649 rfl (lv_at hl 0 rfl) ?_
  refine lv_iload hx hb dL_law_650 (lv_at hl 4 rfl) ?_
  refine lv_iconst (v := 2) hx hb dL_law_652 (by decide) ?_
  refine lv_iadd hx hb dL_law_653 ?_
  refine va_sld hx hb hX hbl hbA hS hin2 dL_law_654 ?_
  obtain ⟨r, n0, n1, v1, hf, hm, hI⟩ := hst cv T B v (xs (x4 + 1).toNatClampNeg) (xs (x4 + 2).toNatClampNeg) hI
  refine callGVi (As := [.int (xs (x4 + 1).toNatClampNeg), .int (xs (x4 + 2).toNatClampNeg)]) (rest := []) (cs' := [cX11 cy (u 0) (u 1 0) (u 2 0) (u 6 0) (u 8 0) (u 9 0) (u 10 0) (u 11 0) (u 12 0) (u 13 0) (u 14 0) (u 15 0) (u 16 0) (u 17 0) (u 18 0) (u 19 0) (cv 0), [(u 1 0, .inl (cy 0, 700, .inl T))], cX7 cy (u 2) (u 3 0) (u 4 0) (cv 2), cX9 cy (u 3) (cv 3), cX6 cy (u 4) (u 5 0) (cv 4), cX3 cy (u 5) (cv 5), cX6 cy (u 6) (u 7 0) (cv 6), cX3 cy (u 7) (cv 7), cX8 cy (u 8) n0, cX8 cy (u 9) (cv 9), cX8 cy (u 10) (cv 10), cX0 cy (u 11) (cv 11), cX10 cy (u 12) (cv 12), cX10 cy (u 13) (cv 13), cX10 cy (u 14) (cv 14), cX2 cy (u 15) n1, cX5 cy (u 16) (cv 16), cX1 cy (u 17) (cv 17), cX4 cy (u 18) (cv 18), [(u 19 0, .inl (cy 2, 73, .inr (.inl B)))], cX12 cy adm v, [(qo, .inl (cy 2, 1, .inr (.inl o)))]]) (ccs := [cX11 cy (u 0) (u 1 0) (u 2 0) (u 6 0) (u 8 0) (u 9 0) (u 10 0) (u 11 0) (u 12 0) (u 13 0) (u 14 0) (u 15 0) (u 16 0) (u 17 0) (u 18 0) (u 19 0) (cv 0), cX6 cy (u 6) (u 7 0) (cv 6), cX8 cy (u 8) (cv 8), cX2 cy (u 15) (cv 15)]) (ccs' := [cX11 cy (u 0) (u 1 0) (u 2 0) (u 6 0) (u 8 0) (u 9 0) (u 10 0) (u 11 0) (u 12 0) (u 13 0) (u 14 0) (u 15 0) (u 16 0) (u 17 0) (u 18 0) (u 19 0) (cv 0), cX6 cy (u 6) (u 7 0) (cv 6), cX8 cy (u 8) n0, cX2 cy (u 15) n1]) (isC := [0, 6, 8, 15]) (isR := [1, 2, 3, 4, 5, 7, 9, 10, 11, 12, 13, 14, 16, 17, 18, 19, 20, 21]) hx hb hml hown hts (k_X11_price l G cy ev (u 0) (u 1 0) (u 2 0) (u 9 0) (u 10 0) (u 11 0) (u 12 0) (u 13 0) (u 14 0) (u 16 0) (u 17 0) (u 18 0) (u 19 0) (cv 0) (u 6) (u 7 0) (cv 6) (u 8) (cv 8) (u 15) (cv 15) (xs (x4 + 1).toNatClampNeg) (xs (x4 + 2).toNatClampNeg) (r, n0, n1) hf) wm_33_2 wm_33_3 wm_33_4 wm_1_2 wm_33_5 hd_X11_price ⟨by decide, by decide⟩ rfl rfl (by show _ ≤ 601024; omega) (by show _ ≤ 7293034; omega) hK hP hD hS hA hE rfl rfl rfl (cov_of (n := 22) rfl (by decide)) (by decide) rfl (recvW (ci := 0) hK hP rfl cX11_o rfl) rfl rfl hl.1 (Nat.le_of_ble_eq_true rfl) dL_law_655 (fun H locs hP hD hS => ?_)
  refine lv_aload_n hx hb dL_law_658 rfl (lv_at hl 2 rfl) ?_
  refine lv_aload_n hx hb dL_law_659 rfl (lv_at hl 0 rfl) ?_
  refine lv_iload hx hb dL_law_660 (lv_at hl 4 rfl) ?_
  refine lv_iconst (v := 1) hx hb dL_law_662 (by decide) ?_
  refine lv_iadd hx hb dL_law_663 ?_
  refine va_sld hx hb hX hbl hbA hS hin1 dL_law_664 ?_
  refine lv_aload_n hx hb dL_law_665 rfl (lv_at hl 0 rfl) ?_
  refine lv_iload hx hb dL_law_666 (lv_at hl 4 rfl) ?_
  refine lv_iconst (v := 2) hx hb dL_law_668 (by decide) ?_
  refine lv_iadd hx hb dL_law_669 ?_
  refine va_sld hx hb hX hbl hbA hS hin2 dL_law_670 ?_
  refine callGVi (As := [.int (xs (x4 + 1).toNatClampNeg), .int (xs (x4 + 2).toNatClampNeg)]) (rest := [.int r]) (cs' := [cX11 cy (u 0) (u 1 0) (u 2 0) (u 6 0) (u 8 0) (u 9 0) (u 10 0) (u 11 0) (u 12 0) (u 13 0) (u 14 0) (u 15 0) (u 16 0) (u 17 0) (u 18 0) (u 19 0) (cv 0), [(u 1 0, .inl (cy 0, 700, .inl T))], cX7 cy (u 2) (u 3 0) (u 4 0) (cv 2), cX9 cy (u 3) (cv 3), cX6 cy (u 4) (u 5 0) (cv 4), cX3 cy (u 5) (cv 5), cX6 cy (u 6) (u 7 0) (cv 6), cX3 cy (u 7) (cv 7), cX8 cy (u 8) n0, cX8 cy (u 9) (cv 9), cX8 cy (u 10) (cv 10), cX0 cy (u 11) (cv 11), cX10 cy (u 12) (cv 12), cX10 cy (u 13) (cv 13), cX10 cy (u 14) (cv 14), cX2 cy (u 15) n1, cX5 cy (u 16) (cv 16), cX1 cy (u 17) (cv 17), cX4 cy (u 18) (cv 18), [(u 19 0, .inl (cy 2, 73, .inr (.inl B)))], cX12 cy adm v1, [(qo, .inl (cy 2, 1, .inr (.inl o)))]]) (ccs := [cX12 cy adm v]) (ccs' := [cX12 cy adm v1]) (isC := [20]) (isR := [0, 1, 2, 3, 4, 5, 6, 7, 8, 9, 10, 11, 12, 13, 14, 15, 16, 17, 18, 19, 21]) hx hb hml hown hts (k_X12_price l G cy ev N adm v (xs (x4 + 1).toNatClampNeg) (xs (x4 + 2).toNatClampNeg) (r, v1) hm) wm_33_6 wm_33_7 wm_33_8 wm_1_5 wm_33_9 hd_X12_price ⟨by decide, by decide⟩ wj_one.symm wj_one.symm (by show _ ≤ 601024; omega) (by show _ ≤ 7293034; omega) hK hP hD hS hA hE rfl rfl rfl (cov_of (n := 22) rfl (by decide)) (by decide) rfl (recvW (ci := 20) hK hP rfl (show (cX12 cy adm v)[0]? = some (adm 0, _) from rfl) rfl) rfl rfl hl.1 (Nat.le_of_ble_eq_true rfl) dL_law_671 (fun H locs hP hD hS => ?_)
  refine lv_icmp_eq (tgt := 1493) hx hb dL_law_674 (by decide) (fun _ => ?_) (fun c9 => absurd rfl c9)
  obtain ⟨x5, e5⟩ : ∃ y : Int32, y = x4 + 6 := ⟨_, rfl⟩
  refine lv_iinc (v := x5) (lv' := [(4, .int x5), (0, .ref b), (1, .ref (u 0 0)), (2, .ref (adm 0)), (3, .ref qo)]) hx hb dL_law_1493 hl (k := 4) rfl (by rw [e5]; rfl) (by decide) rfl (fun ls hl => ?_)
  refine lv_goto (tgt := 23) hx hb dL_law_1496 (by decide) ?_
  refine W.widen (k := 170 + (k + 1)) (n := 6921 + 6 * (k + 1)) (by omega) (by omega) ?_
  exact ih (u) adm qo (uc (uc cv 8 n0) 15 n1) T B v1 o x5 _ _ ls (by rw [e5, hx4]; exact (nI_add (6 * k) 6).trans (by rw [Nat.mul_succ])) hI hP hD hS (lv_sub hl [1, 2, 3, 4, 0] rfl)
set_option maxHeartbeats 4000000 in
set_option maxRecDepth 100000 in
theorem law_days {p : Program} {l : Launch} {e : Env} {s : State} {m : MethodId} {below : List Frame} {meth : Method} {cd : Code} {b L : Nat} {xs : Nat → Int32} {N : Nat} {INV : (Nat → VV) → (Nat → Int32) → (Nat → Int64) → VV → Prop} {G : va_G} {cy : Nat → ClassId} {ev : Nat → Nat} (hst : ST_days N INV) (C : LCX p s m meth cd b L xs G cy ev) (k : Nat) (hk : 6 * k + 6 ≤ L) (ih : LOOPS p l e s m below meth cd b L INV G cy (k + 1)) (u : Nat → Nat → Nat) (adm : Nat → Nat) (qo : Nat) (cv : Nat → VV) (T : Nat → Int32) (B : Nat → Int64) (v : VV) (o : Nat → Int64) (x4 : Int32) (H : Heap) (locs : List Loc) (ls : Array Slot) (hx4 : x4 = nI (6 * k)) (hI : INV cv T B v) (hP : va_P G vwCl (wj (W22 cy u adm qo cv T B v o)) H) (hD : va_D (fun q => s.heap.size ≤ q) (wj (W22 cy u adm qo cv T B v o))) (hS : va_S (fun q => s.heap.size ≤ q) s.heap H locs) (hl : lv_has ls 7 [(0, .ref b), (1, .ref (u 0 0)), (2, .ref (adm 0)), (3, .ref qo), (4, .int x4)]) : W p l e room_1 s m #[Value.ref b] below meth cd H locs (170 + k) (6921 + 6 * k) (lw_Z below #[Value.ref b] s) (F0 m 679 ls []) := by
  obtain ⟨hx, hb, hml, hown, hts, hK, hE, hX, hbl, hL⟩ := C
  have hA : ∀ q : Nat, s.heap.size ≤ q → (fun q : Nat => s.heap.size ≤ q) q := fun _ h => h
  have hbA : ¬ (fun q : Nat => s.heap.size ≤ q) b := Nat.not_le.mpr hbl
  have hin1 : vp_in (x4 + 1) L := by rw [hx4]; exact ix_in (j := 1) hk hL (by decide)
  have hin2 : vp_in (x4 + 2) L := by rw [hx4]; exact ix_in (j := 2) hk hL (by decide)
  have hin3 : vp_in (x4 + 3) L := by rw [hx4]; exact ix_in (j := 3) hk hL (by decide)
  have hin4 : vp_in (x4 + 4) L := by rw [hx4]; exact ix_in (j := 4) hk hL (by decide)
  have hin5 : vp_in (x4 + 5) L := by rw [hx4]; exact ix_in (j := 5) hk hL (by decide)
  refine lv_aload_n hx hb dL_law_679 rfl (lv_at hl 1 rfl) ?_
  refine lv_aload_n hx hb dL_law_680 rfl (lv_at hl 0 rfl) ?_
  refine lv_iload hx hb dL_law_681 (lv_at hl 4 rfl) ?_
  refine lv_iconst (v := 1) hx hb dL_law_683 (by decide) ?_
  refine lv_iadd hx hb dL_law_684 ?_
  refine va_sld hx hb hX hbl hbA hS hin1 dL_law_685 ?_
  obtain ⟨r, n0, n1, n2, n3, v1, hf, hm, hI⟩ := hst cv T B v (xs (x4 + 1).toNatClampNeg) hI
  refine callGVi (As := [.int (xs (x4 + 1).toNatClampNeg)]) (rest := []) (cs' := [cX11 cy (u 0) (u 1 0) (u 2 0) (u 6 0) (u 8 0) (u 9 0) (u 10 0) (u 11 0) (u 12 0) (u 13 0) (u 14 0) (u 15 0) (u 16 0) (u 17 0) (u 18 0) (u 19 0) (cv 0), [(u 1 0, .inl (cy 0, 700, .inl T))], cX7 cy (u 2) (u 3 0) (u 4 0) (cv 2), cX9 cy (u 3) (cv 3), cX6 cy (u 4) (u 5 0) (cv 4), cX3 cy (u 5) (cv 5), cX6 cy (u 6) (u 7 0) (cv 6), cX3 cy (u 7) n0, cX8 cy (u 8) n1, cX8 cy (u 9) (cv 9), cX8 cy (u 10) (cv 10), cX0 cy (u 11) n2, cX10 cy (u 12) (cv 12), cX10 cy (u 13) (cv 13), cX10 cy (u 14) (cv 14), cX2 cy (u 15) n3, cX5 cy (u 16) (cv 16), cX1 cy (u 17) (cv 17), cX4 cy (u 18) (cv 18), [(u 19 0, .inl (cy 2, 73, .inr (.inl B)))], cX12 cy adm v, [(qo, .inl (cy 2, 1, .inr (.inl o)))]]) (ccs := [cX11 cy (u 0) (u 1 0) (u 2 0) (u 6 0) (u 8 0) (u 9 0) (u 10 0) (u 11 0) (u 12 0) (u 13 0) (u 14 0) (u 15 0) (u 16 0) (u 17 0) (u 18 0) (u 19 0) (cv 0), cX6 cy (u 6) (u 7 0) (cv 6), cX3 cy (u 7) (cv 7), cX8 cy (u 8) (cv 8), cX0 cy (u 11) (cv 11), cX10 cy (u 13) (cv 13), cX2 cy (u 15) (cv 15)]) (ccs' := [cX11 cy (u 0) (u 1 0) (u 2 0) (u 6 0) (u 8 0) (u 9 0) (u 10 0) (u 11 0) (u 12 0) (u 13 0) (u 14 0) (u 15 0) (u 16 0) (u 17 0) (u 18 0) (u 19 0) (cv 0), cX6 cy (u 6) (u 7 0) (cv 6), cX3 cy (u 7) n0, cX8 cy (u 8) n1, cX0 cy (u 11) n2, cX10 cy (u 13) (cv 13), cX2 cy (u 15) n3]) (isC := [0, 6, 7, 8, 11, 13, 15]) (isR := [1, 2, 3, 4, 5, 9, 10, 12, 14, 16, 17, 18, 19, 20, 21]) hx hb hml hown hts (k_X11_days l G cy ev N (u 0) (u 1 0) (u 2 0) (u 9 0) (u 10 0) (u 12 0) (u 14 0) (u 16 0) (u 17 0) (u 18 0) (u 19 0) (cv 0) (u 6) (cv 6) (u 7) (cv 7) (u 8) (cv 8) (u 11) (cv 11) (u 13) (cv 13) (u 15) (cv 15) (xs (x4 + 1).toNatClampNeg) (r, n0, n1, n2, n3) hf) wm_33_10 wm_33_11 wm_33_12 wm_1_2 wm_33_13 hd_X11_days ⟨by decide, by decide⟩ rfl rfl (by show _ ≤ 601024; omega) (by show _ ≤ 7293034; omega) hK hP hD hS hA hE rfl rfl rfl (cov_of (n := 22) rfl (by decide)) (by decide) rfl (recvW (ci := 0) hK hP rfl cX11_o rfl) rfl rfl hl.1 (Nat.le_of_ble_eq_true rfl) dL_law_686 (fun H locs hP hD hS => ?_)
  refine lv_aload_n hx hb dL_law_689 rfl (lv_at hl 2 rfl) ?_
  refine lv_aload_n hx hb dL_law_690 rfl (lv_at hl 0 rfl) ?_
  refine lv_iload hx hb dL_law_691 (lv_at hl 4 rfl) ?_
  refine lv_iconst (v := 1) hx hb dL_law_693 (by decide) ?_
  refine lv_iadd hx hb dL_law_694 ?_
  refine va_sld hx hb hX hbl hbA hS hin1 dL_law_695 ?_
  refine callGVi (As := [.int (xs (x4 + 1).toNatClampNeg)]) (rest := [.int r]) (cs' := [cX11 cy (u 0) (u 1 0) (u 2 0) (u 6 0) (u 8 0) (u 9 0) (u 10 0) (u 11 0) (u 12 0) (u 13 0) (u 14 0) (u 15 0) (u 16 0) (u 17 0) (u 18 0) (u 19 0) (cv 0), [(u 1 0, .inl (cy 0, 700, .inl T))], cX7 cy (u 2) (u 3 0) (u 4 0) (cv 2), cX9 cy (u 3) (cv 3), cX6 cy (u 4) (u 5 0) (cv 4), cX3 cy (u 5) (cv 5), cX6 cy (u 6) (u 7 0) (cv 6), cX3 cy (u 7) n0, cX8 cy (u 8) n1, cX8 cy (u 9) (cv 9), cX8 cy (u 10) (cv 10), cX0 cy (u 11) n2, cX10 cy (u 12) (cv 12), cX10 cy (u 13) (cv 13), cX10 cy (u 14) (cv 14), cX2 cy (u 15) n3, cX5 cy (u 16) (cv 16), cX1 cy (u 17) (cv 17), cX4 cy (u 18) (cv 18), [(u 19 0, .inl (cy 2, 73, .inr (.inl B)))], cX12 cy adm v1, [(qo, .inl (cy 2, 1, .inr (.inl o)))]]) (ccs := [cX12 cy adm v]) (ccs' := [cX12 cy adm v1]) (isC := [20]) (isR := [0, 1, 2, 3, 4, 5, 6, 7, 8, 9, 10, 11, 12, 13, 14, 15, 16, 17, 18, 19, 21]) hx hb hml hown hts (k_X12_days l G cy ev N adm v (xs (x4 + 1).toNatClampNeg) (r, v1) hm) wm_35_8 wm_35_9 wm_35_10 wm_1_5 wm_35_11 hd_X12_days ⟨by decide, by decide⟩ wj_one.symm wj_one.symm (by show _ ≤ 601024; omega) (by show _ ≤ 7293034; omega) hK hP hD hS hA hE rfl rfl rfl (cov_of (n := 22) rfl (by decide)) (by decide) rfl (recvW (ci := 20) hK hP rfl (show (cX12 cy adm v)[0]? = some (adm 0, _) from rfl) rfl) rfl rfl hl.1 (Nat.le_of_ble_eq_true rfl) dL_law_696 (fun H locs hP hD hS => ?_)
  refine lv_icmp_eq (tgt := 1493) hx hb dL_law_699 (by decide) (fun _ => ?_) (fun c9 => absurd rfl c9)
  obtain ⟨x5, e5⟩ : ∃ y : Int32, y = x4 + 6 := ⟨_, rfl⟩
  refine lv_iinc (v := x5) (lv' := [(4, .int x5), (0, .ref b), (1, .ref (u 0 0)), (2, .ref (adm 0)), (3, .ref qo)]) hx hb dL_law_1493 hl (k := 4) rfl (by rw [e5]; rfl) (by decide) rfl (fun ls hl => ?_)
  refine lv_goto (tgt := 23) hx hb dL_law_1496 (by decide) ?_
  refine W.widen (k := 170 + (k + 1)) (n := 6921 + 6 * (k + 1)) (by omega) (by omega) ?_
  exact ih (u) adm qo (uc (uc (uc (uc cv 7 n0) 8 n1) 11 n2) 15 n3) T B v1 o x5 _ _ ls (by rw [e5, hx4]; exact (nI_add (6 * k) 6).trans (by rw [Nat.mul_succ])) hI hP hD hS (lv_sub hl [1, 2, 3, 4, 0] rfl)
set_option maxHeartbeats 4000000 in
set_option maxRecDepth 100000 in
theorem law_best {p : Program} {l : Launch} {e : Env} {s : State} {m : MethodId} {below : List Frame} {meth : Method} {cd : Code} {b L : Nat} {xs : Nat → Int32} {N : Nat} {INV : (Nat → VV) → (Nat → Int32) → (Nat → Int64) → VV → Prop} {G : va_G} {cy : Nat → ClassId} {ev : Nat → Nat} (hst : ST_best N INV) (C : LCX p s m meth cd b L xs G cy ev) (k : Nat) (hk : 6 * k + 6 ≤ L) (ih : LOOPS p l e s m below meth cd b L INV G cy (k + 1)) (u : Nat → Nat → Nat) (adm : Nat → Nat) (qo : Nat) (cv : Nat → VV) (T : Nat → Int32) (B : Nat → Int64) (v : VV) (o : Nat → Int64) (x4 : Int32) (H : Heap) (locs : List Loc) (ls : Array Slot) (hx4 : x4 = nI (6 * k)) (hI : INV cv T B v) (hP : va_P G vwCl (wj (W22 cy u adm qo cv T B v o)) H) (hD : va_D (fun q => s.heap.size ≤ q) (wj (W22 cy u adm qo cv T B v o))) (hS : va_S (fun q => s.heap.size ≤ q) s.heap H locs) (hl : lv_has ls 7 [(0, .ref b), (1, .ref (u 0 0)), (2, .ref (adm 0)), (3, .ref qo), (4, .int x4)]) : W p l e room_1 s m #[Value.ref b] below meth cd H locs (170 + k) (6921 + 6 * k) (lw_Z below #[Value.ref b] s) (F0 m 704 ls []) := by
  obtain ⟨hx, hb, hml, hown, hts, hK, hE, hX, hbl, hL⟩ := C
  have hA : ∀ q : Nat, s.heap.size ≤ q → (fun q : Nat => s.heap.size ≤ q) q := fun _ h => h
  have hbA : ¬ (fun q : Nat => s.heap.size ≤ q) b := Nat.not_le.mpr hbl
  have hin1 : vp_in (x4 + 1) L := by rw [hx4]; exact ix_in (j := 1) hk hL (by decide)
  have hin2 : vp_in (x4 + 2) L := by rw [hx4]; exact ix_in (j := 2) hk hL (by decide)
  have hin3 : vp_in (x4 + 3) L := by rw [hx4]; exact ix_in (j := 3) hk hL (by decide)
  have hin4 : vp_in (x4 + 4) L := by rw [hx4]; exact ix_in (j := 4) hk hL (by decide)
  have hin5 : vp_in (x4 + 5) L := by rw [hx4]; exact ix_in (j := 5) hk hL (by decide)
  refine lv_aload_n hx hb dL_law_704 rfl (lv_at hl 1 rfl) ?_
  refine lv_aload_n hx hb dL_law_705 rfl (lv_at hl 0 rfl) ?_
  refine lv_iload hx hb dL_law_706 (lv_at hl 4 rfl) ?_
  refine lv_iconst (v := 1) hx hb dL_law_708 (by decide) ?_
  refine lv_iadd hx hb dL_law_709 ?_
  refine va_sld hx hb hX hbl hbA hS hin1 dL_law_710 ?_
  obtain ⟨r, n0, n1, v1, hf, hm, hI⟩ := hst cv T B v (xs (x4 + 1).toNatClampNeg) hI
  refine callGVi (As := [.int (xs (x4 + 1).toNatClampNeg)]) (rest := []) (cs' := [cX11 cy (u 0) (u 1 0) (u 2 0) (u 6 0) (u 8 0) (u 9 0) (u 10 0) (u 11 0) (u 12 0) (u 13 0) (u 14 0) (u 15 0) (u 16 0) (u 17 0) (u 18 0) (u 19 0) (cv 0), [(u 1 0, .inl (cy 0, 700, .inl T))], cX7 cy (u 2) (u 3 0) (u 4 0) (cv 2), cX9 cy (u 3) (cv 3), cX6 cy (u 4) (u 5 0) (cv 4), cX3 cy (u 5) (cv 5), cX6 cy (u 6) (u 7 0) (cv 6), cX3 cy (u 7) n0, cX8 cy (u 8) (cv 8), cX8 cy (u 9) (cv 9), cX8 cy (u 10) (cv 10), cX0 cy (u 11) (cv 11), cX10 cy (u 12) (cv 12), cX10 cy (u 13) (cv 13), cX10 cy (u 14) (cv 14), cX2 cy (u 15) (cv 15), cX5 cy (u 16) (cv 16), cX1 cy (u 17) n1, cX4 cy (u 18) (cv 18), [(u 19 0, .inl (cy 2, 73, .inr (.inl B)))], cX12 cy adm v, [(qo, .inl (cy 2, 1, .inr (.inl o)))]]) (ccs := [cX11 cy (u 0) (u 1 0) (u 2 0) (u 6 0) (u 8 0) (u 9 0) (u 10 0) (u 11 0) (u 12 0) (u 13 0) (u 14 0) (u 15 0) (u 16 0) (u 17 0) (u 18 0) (u 19 0) (cv 0), cX6 cy (u 6) (u 7 0) (cv 6), cX3 cy (u 7) (cv 7), cX8 cy (u 8) (cv 8), cX10 cy (u 12) (cv 12), cX1 cy (u 17) (cv 17)]) (ccs' := [cX11 cy (u 0) (u 1 0) (u 2 0) (u 6 0) (u 8 0) (u 9 0) (u 10 0) (u 11 0) (u 12 0) (u 13 0) (u 14 0) (u 15 0) (u 16 0) (u 17 0) (u 18 0) (u 19 0) (cv 0), cX6 cy (u 6) (u 7 0) (cv 6), cX3 cy (u 7) n0, cX8 cy (u 8) (cv 8), cX10 cy (u 12) (cv 12), cX1 cy (u 17) n1]) (isC := [0, 6, 7, 8, 12, 17]) (isR := [1, 2, 3, 4, 5, 9, 10, 11, 13, 14, 15, 16, 18, 19, 20, 21]) hx hb hml hown hts (k_X11_best l G cy ev N (u 0) (u 1 0) (u 2 0) (u 9 0) (u 10 0) (u 11 0) (u 13 0) (u 14 0) (u 15 0) (u 16 0) (u 18 0) (u 19 0) (cv 0) (u 6) (cv 6) (u 7) (cv 7) (u 8) (cv 8) (u 12) (cv 12) (u 17) (cv 17) (xs (x4 + 1).toNatClampNeg) (r, n0, n1) hf) wm_37_14 wm_37_15 wm_37_16 wm_1_2 wm_37_17 hd_X11_best ⟨by decide, by decide⟩ rfl rfl (by show _ ≤ 601024; omega) (by show _ ≤ 7293034; omega) hK hP hD hS hA hE rfl rfl rfl (cov_of (n := 22) rfl (by decide)) (by decide) rfl (recvW (ci := 0) hK hP rfl cX11_o rfl) rfl rfl hl.1 (Nat.le_of_ble_eq_true rfl) dL_law_711 (fun H locs hP hD hS => ?_)
  refine lv_aload_n hx hb dL_law_714 rfl (lv_at hl 2 rfl) ?_
  refine lv_aload_n hx hb dL_law_715 rfl (lv_at hl 0 rfl) ?_
  refine lv_iload hx hb dL_law_716 (lv_at hl 4 rfl) ?_
  refine lv_iconst (v := 1) hx hb dL_law_718 (by decide) ?_
  refine lv_iadd hx hb dL_law_719 ?_
  refine va_sld hx hb hX hbl hbA hS hin1 dL_law_720 ?_
  refine callGVi (As := [.int (xs (x4 + 1).toNatClampNeg)]) (rest := [.int r]) (cs' := [cX11 cy (u 0) (u 1 0) (u 2 0) (u 6 0) (u 8 0) (u 9 0) (u 10 0) (u 11 0) (u 12 0) (u 13 0) (u 14 0) (u 15 0) (u 16 0) (u 17 0) (u 18 0) (u 19 0) (cv 0), [(u 1 0, .inl (cy 0, 700, .inl T))], cX7 cy (u 2) (u 3 0) (u 4 0) (cv 2), cX9 cy (u 3) (cv 3), cX6 cy (u 4) (u 5 0) (cv 4), cX3 cy (u 5) (cv 5), cX6 cy (u 6) (u 7 0) (cv 6), cX3 cy (u 7) n0, cX8 cy (u 8) (cv 8), cX8 cy (u 9) (cv 9), cX8 cy (u 10) (cv 10), cX0 cy (u 11) (cv 11), cX10 cy (u 12) (cv 12), cX10 cy (u 13) (cv 13), cX10 cy (u 14) (cv 14), cX2 cy (u 15) (cv 15), cX5 cy (u 16) (cv 16), cX1 cy (u 17) n1, cX4 cy (u 18) (cv 18), [(u 19 0, .inl (cy 2, 73, .inr (.inl B)))], cX12 cy adm v1, [(qo, .inl (cy 2, 1, .inr (.inl o)))]]) (ccs := [cX12 cy adm v]) (ccs' := [cX12 cy adm v1]) (isC := [20]) (isR := [0, 1, 2, 3, 4, 5, 6, 7, 8, 9, 10, 11, 12, 13, 14, 15, 16, 17, 18, 19, 21]) hx hb hml hown hts (k_X12_best l G cy ev N adm v (xs (x4 + 1).toNatClampNeg) (r, v1) hm) wm_38_19 wm_38_20 wm_38_21 wm_1_5 wm_38_22 hd_X12_best ⟨by decide, by decide⟩ wj_one.symm wj_one.symm (by show _ ≤ 601024; omega) (by show _ ≤ 7293034; omega) hK hP hD hS hA hE rfl rfl rfl (cov_of (n := 22) rfl (by decide)) (by decide) rfl (recvW (ci := 20) hK hP rfl (show (cX12 cy adm v)[0]? = some (adm 0, _) from rfl) rfl) rfl rfl hl.1 (Nat.le_of_ble_eq_true rfl) dL_law_721 (fun H locs hP hD hS => ?_)
  refine lv_icmp_eq (tgt := 1493) hx hb dL_law_724 (by decide) (fun _ => ?_) (fun c9 => absurd rfl c9)
  obtain ⟨x5, e5⟩ : ∃ y : Int32, y = x4 + 6 := ⟨_, rfl⟩
  refine lv_iinc (v := x5) (lv' := [(4, .int x5), (0, .ref b), (1, .ref (u 0 0)), (2, .ref (adm 0)), (3, .ref qo)]) hx hb dL_law_1493 hl (k := 4) rfl (by rw [e5]; rfl) (by decide) rfl (fun ls hl => ?_)
  refine lv_goto (tgt := 23) hx hb dL_law_1496 (by decide) ?_
  refine W.widen (k := 170 + (k + 1)) (n := 6921 + 6 * (k + 1)) (by omega) (by omega) ?_
  exact ih (u) adm qo (uc (uc cv 7 n0) 17 n1) T B v1 o x5 _ _ ls (by rw [e5, hx4]; exact (nI_add (6 * k) 6).trans (by rw [Nat.mul_succ])) hI hP hD hS (lv_sub hl [1, 2, 3, 4, 0] rfl)
set_option maxHeartbeats 4000000 in
set_option maxRecDepth 100000 in
theorem law_bestSum {p : Program} {l : Launch} {e : Env} {s : State} {m : MethodId} {below : List Frame} {meth : Method} {cd : Code} {b L : Nat} {xs : Nat → Int32} {N : Nat} {INV : (Nat → VV) → (Nat → Int32) → (Nat → Int64) → VV → Prop} {G : va_G} {cy : Nat → ClassId} {ev : Nat → Nat} (hst : ST_bestSum N INV) (C : LCX p s m meth cd b L xs G cy ev) (k : Nat) (hk : 6 * k + 6 ≤ L) (ih : LOOPS p l e s m below meth cd b L INV G cy (k + 1)) (u : Nat → Nat → Nat) (adm : Nat → Nat) (qo : Nat) (cv : Nat → VV) (T : Nat → Int32) (B : Nat → Int64) (v : VV) (o : Nat → Int64) (x4 : Int32) (H : Heap) (locs : List Loc) (ls : Array Slot) (hx4 : x4 = nI (6 * k)) (hI : INV cv T B v) (hP : va_P G vwCl (wj (W22 cy u adm qo cv T B v o)) H) (hD : va_D (fun q => s.heap.size ≤ q) (wj (W22 cy u adm qo cv T B v o))) (hS : va_S (fun q => s.heap.size ≤ q) s.heap H locs) (hl : lv_has ls 7 [(0, .ref b), (1, .ref (u 0 0)), (2, .ref (adm 0)), (3, .ref qo), (4, .int x4)]) : W p l e room_1 s m #[Value.ref b] below meth cd H locs (170 + k) (6921 + 6 * k) (lw_Z below #[Value.ref b] s) (F0 m 729 ls []) := by
  obtain ⟨hx, hb, hml, hown, hts, hK, hE, hX, hbl, hL⟩ := C
  have hA : ∀ q : Nat, s.heap.size ≤ q → (fun q : Nat => s.heap.size ≤ q) q := fun _ h => h
  have hbA : ¬ (fun q : Nat => s.heap.size ≤ q) b := Nat.not_le.mpr hbl
  have hin1 : vp_in (x4 + 1) L := by rw [hx4]; exact ix_in (j := 1) hk hL (by decide)
  have hin2 : vp_in (x4 + 2) L := by rw [hx4]; exact ix_in (j := 2) hk hL (by decide)
  have hin3 : vp_in (x4 + 3) L := by rw [hx4]; exact ix_in (j := 3) hk hL (by decide)
  have hin4 : vp_in (x4 + 4) L := by rw [hx4]; exact ix_in (j := 4) hk hL (by decide)
  have hin5 : vp_in (x4 + 5) L := by rw [hx4]; exact ix_in (j := 5) hk hL (by decide)
  refine lv_aload_n hx hb dL_law_729 rfl (lv_at hl 1 rfl) ?_
  obtain ⟨r, n0, n1, v1, hf, hm, hI⟩ := hst cv T B v  hI
  refine callGVi (As := []) (rest := []) (cs' := [cX11 cy (u 0) (u 1 0) (u 2 0) (u 6 0) (u 8 0) (u 9 0) (u 10 0) (u 11 0) (u 12 0) (u 13 0) (u 14 0) (u 15 0) (u 16 0) (u 17 0) (u 18 0) (u 19 0) (cv 0), [(u 1 0, .inl (cy 0, 700, .inl T))], cX7 cy (u 2) (u 3 0) (u 4 0) (cv 2), cX9 cy (u 3) (cv 3), cX6 cy (u 4) (u 5 0) (cv 4), cX3 cy (u 5) (cv 5), cX6 cy (u 6) (u 7 0) (cv 6), cX3 cy (u 7) n0, cX8 cy (u 8) (cv 8), cX8 cy (u 9) (cv 9), cX8 cy (u 10) (cv 10), cX0 cy (u 11) (cv 11), cX10 cy (u 12) (cv 12), cX10 cy (u 13) (cv 13), cX10 cy (u 14) (cv 14), cX2 cy (u 15) (cv 15), cX5 cy (u 16) (cv 16), cX1 cy (u 17) n1, cX4 cy (u 18) (cv 18), [(u 19 0, .inl (cy 2, 73, .inr (.inl B)))], cX12 cy adm v, [(qo, .inl (cy 2, 1, .inr (.inl o)))]]) (ccs := [cX11 cy (u 0) (u 1 0) (u 2 0) (u 6 0) (u 8 0) (u 9 0) (u 10 0) (u 11 0) (u 12 0) (u 13 0) (u 14 0) (u 15 0) (u 16 0) (u 17 0) (u 18 0) (u 19 0) (cv 0), cX6 cy (u 6) (u 7 0) (cv 6), cX3 cy (u 7) (cv 7), cX8 cy (u 8) (cv 8), cX10 cy (u 12) (cv 12), cX1 cy (u 17) (cv 17)]) (ccs' := [cX11 cy (u 0) (u 1 0) (u 2 0) (u 6 0) (u 8 0) (u 9 0) (u 10 0) (u 11 0) (u 12 0) (u 13 0) (u 14 0) (u 15 0) (u 16 0) (u 17 0) (u 18 0) (u 19 0) (cv 0), cX6 cy (u 6) (u 7 0) (cv 6), cX3 cy (u 7) n0, cX8 cy (u 8) (cv 8), cX10 cy (u 12) (cv 12), cX1 cy (u 17) n1]) (isC := [0, 6, 7, 8, 12, 17]) (isR := [1, 2, 3, 4, 5, 9, 10, 11, 13, 14, 15, 16, 18, 19, 20, 21]) hx hb hml hown hts (k_X11_bestSum l G cy ev N (u 0) (u 1 0) (u 2 0) (u 9 0) (u 10 0) (u 11 0) (u 13 0) (u 14 0) (u 15 0) (u 16 0) (u 18 0) (u 19 0) (cv 0) (u 6) (cv 6) (u 7) (cv 7) (u 8) (cv 8) (u 12) (cv 12) (u 17) (cv 17)  (r, n0, n1) hf) wm_39_12 wm_39_13 wm_39_14 wm_1_2 wm_39_15 hd_X11_bestSum ⟨by decide, by decide⟩ rfl rfl (by show _ ≤ 601024; omega) (by show _ ≤ 7293034; omega) hK hP hD hS hA hE rfl rfl rfl (cov_of (n := 22) rfl (by decide)) (by decide) rfl (recvW (ci := 0) hK hP rfl cX11_o rfl) rfl rfl hl.1 (Nat.le_of_ble_eq_true rfl) dL_law_730 (fun H locs hP hD hS => ?_)
  refine lv_aload_n hx hb dL_law_733 rfl (lv_at hl 2 rfl) ?_
  refine callGVi (As := []) (rest := [.int r]) (cs' := [cX11 cy (u 0) (u 1 0) (u 2 0) (u 6 0) (u 8 0) (u 9 0) (u 10 0) (u 11 0) (u 12 0) (u 13 0) (u 14 0) (u 15 0) (u 16 0) (u 17 0) (u 18 0) (u 19 0) (cv 0), [(u 1 0, .inl (cy 0, 700, .inl T))], cX7 cy (u 2) (u 3 0) (u 4 0) (cv 2), cX9 cy (u 3) (cv 3), cX6 cy (u 4) (u 5 0) (cv 4), cX3 cy (u 5) (cv 5), cX6 cy (u 6) (u 7 0) (cv 6), cX3 cy (u 7) n0, cX8 cy (u 8) (cv 8), cX8 cy (u 9) (cv 9), cX8 cy (u 10) (cv 10), cX0 cy (u 11) (cv 11), cX10 cy (u 12) (cv 12), cX10 cy (u 13) (cv 13), cX10 cy (u 14) (cv 14), cX2 cy (u 15) (cv 15), cX5 cy (u 16) (cv 16), cX1 cy (u 17) n1, cX4 cy (u 18) (cv 18), [(u 19 0, .inl (cy 2, 73, .inr (.inl B)))], cX12 cy adm v1, [(qo, .inl (cy 2, 1, .inr (.inl o)))]]) (ccs := [cX12 cy adm v]) (ccs' := [cX12 cy adm v1]) (isC := [20]) (isR := [0, 1, 2, 3, 4, 5, 6, 7, 8, 9, 10, 11, 12, 13, 14, 15, 16, 17, 18, 19, 21]) hx hb hml hown hts (k_X12_bestSum l G cy ev N adm v  (r, v1) hm) wm_39_16 wm_39_17 wm_39_18 wm_1_5 wm_39_19 hd_X12_bestSum ⟨by decide, by decide⟩ wj_one.symm wj_one.symm (by show _ ≤ 601024; omega) (by show _ ≤ 7293034; omega) hK hP hD hS hA hE rfl rfl rfl (cov_of (n := 22) rfl (by decide)) (by decide) rfl (recvW (ci := 20) hK hP rfl (show (cX12 cy adm v)[0]? = some (adm 0, _) from rfl) rfl) rfl rfl hl.1 (Nat.le_of_ble_eq_true rfl) dL_law_734 (fun H locs hP hD hS => ?_)
  refine lv_icmp_eq (tgt := 1493) hx hb dL_law_737 (by decide) (fun _ => ?_) (fun c9 => absurd rfl c9)
  obtain ⟨x5, e5⟩ : ∃ y : Int32, y = x4 + 6 := ⟨_, rfl⟩
  refine lv_iinc (v := x5) (lv' := [(4, .int x5), (0, .ref b), (1, .ref (u 0 0)), (2, .ref (adm 0)), (3, .ref qo)]) hx hb dL_law_1493 hl (k := 4) rfl (by rw [e5]; rfl) (by decide) rfl (fun ls hl => ?_)
  refine lv_goto (tgt := 23) hx hb dL_law_1496 (by decide) ?_
  refine W.widen (k := 170 + (k + 1)) (n := 6921 + 6 * (k + 1)) (by omega) (by omega) ?_
  exact ih (u) adm qo (uc (uc cv 7 n0) 17 n1) T B v1 o x5 _ _ ls (by rw [e5, hx4]; exact (nI_add (6 * k) 6).trans (by rw [Nat.mul_succ])) hI hP hD hS (lv_sub hl [1, 2, 3, 4, 0] rfl)
set_option maxHeartbeats 4000000 in
set_option maxRecDepth 100000 in
theorem law_choice {p : Program} {l : Launch} {e : Env} {s : State} {m : MethodId} {below : List Frame} {meth : Method} {cd : Code} {b L : Nat} {xs : Nat → Int32} {N : Nat} {INV : (Nat → VV) → (Nat → Int32) → (Nat → Int64) → VV → Prop} {G : va_G} {cy : Nat → ClassId} {ev : Nat → Nat} (hst : ST_choice N INV) (C : LCX p s m meth cd b L xs G cy ev) (k : Nat) (hk : 6 * k + 6 ≤ L) (ih : LOOPS p l e s m below meth cd b L INV G cy (k + 1)) (u : Nat → Nat → Nat) (adm : Nat → Nat) (qo : Nat) (cv : Nat → VV) (T : Nat → Int32) (B : Nat → Int64) (v : VV) (o : Nat → Int64) (x4 : Int32) (H : Heap) (locs : List Loc) (ls : Array Slot) (hx4 : x4 = nI (6 * k)) (hI : INV cv T B v) (hP : va_P G vwCl (wj (W22 cy u adm qo cv T B v o)) H) (hD : va_D (fun q => s.heap.size ≤ q) (wj (W22 cy u adm qo cv T B v o))) (hS : va_S (fun q => s.heap.size ≤ q) s.heap H locs) (hl : lv_has ls 7 [(0, .ref b), (1, .ref (u 0 0)), (2, .ref (adm 0)), (3, .ref qo), (4, .int x4)]) : W p l e room_1 s m #[Value.ref b] below meth cd H locs (170 + k) (6921 + 6 * k) (lw_Z below #[Value.ref b] s) (F0 m 742 ls []) := by
  obtain ⟨hx, hb, hml, hown, hts, hK, hE, hX, hbl, hL⟩ := C
  have hA : ∀ q : Nat, s.heap.size ≤ q → (fun q : Nat => s.heap.size ≤ q) q := fun _ h => h
  have hbA : ¬ (fun q : Nat => s.heap.size ≤ q) b := Nat.not_le.mpr hbl
  have hin1 : vp_in (x4 + 1) L := by rw [hx4]; exact ix_in (j := 1) hk hL (by decide)
  have hin2 : vp_in (x4 + 2) L := by rw [hx4]; exact ix_in (j := 2) hk hL (by decide)
  have hin3 : vp_in (x4 + 3) L := by rw [hx4]; exact ix_in (j := 3) hk hL (by decide)
  have hin4 : vp_in (x4 + 4) L := by rw [hx4]; exact ix_in (j := 4) hk hL (by decide)
  have hin5 : vp_in (x4 + 5) L := by rw [hx4]; exact ix_in (j := 5) hk hL (by decide)
  refine lv_aload_n hx hb dL_law_742 rfl (lv_at hl 1 rfl) ?_
  refine lv_aload_n hx hb dL_law_743 rfl (lv_at hl 0 rfl) ?_
  refine lv_iload hx hb dL_law_744 (lv_at hl 4 rfl) ?_
  refine lv_iconst (v := 1) hx hb dL_law_746 (by decide) ?_
  refine lv_iadd hx hb dL_law_747 ?_
  refine va_sld hx hb hX hbl hbA hS hin1 dL_law_748 ?_
  obtain ⟨r, v1, hf, hm, hI⟩ := hst cv T B v (xs (x4 + 1).toNatClampNeg) hI
  refine callGVi (As := [.int (xs (x4 + 1).toNatClampNeg)]) (rest := []) (cs' := [cX11 cy (u 0) (u 1 0) (u 2 0) (u 6 0) (u 8 0) (u 9 0) (u 10 0) (u 11 0) (u 12 0) (u 13 0) (u 14 0) (u 15 0) (u 16 0) (u 17 0) (u 18 0) (u 19 0) (cv 0), [(u 1 0, .inl (cy 0, 700, .inl T))], cX7 cy (u 2) (u 3 0) (u 4 0) (cv 2), cX9 cy (u 3) (cv 3), cX6 cy (u 4) (u 5 0) (cv 4), cX3 cy (u 5) (cv 5), cX6 cy (u 6) (u 7 0) (cv 6), cX3 cy (u 7) (cv 7), cX8 cy (u 8) (cv 8), cX8 cy (u 9) (cv 9), cX8 cy (u 10) (cv 10), cX0 cy (u 11) (cv 11), cX10 cy (u 12) (cv 12), cX10 cy (u 13) (cv 13), cX10 cy (u 14) (cv 14), cX2 cy (u 15) (cv 15), cX5 cy (u 16) (cv 16), cX1 cy (u 17) (cv 17), cX4 cy (u 18) (cv 18), [(u 19 0, .inl (cy 2, 73, .inr (.inl B)))], cX12 cy adm v, [(qo, .inl (cy 2, 1, .inr (.inl o)))]]) (ccs := [cX11 cy (u 0) (u 1 0) (u 2 0) (u 6 0) (u 8 0) (u 9 0) (u 10 0) (u 11 0) (u 12 0) (u 13 0) (u 14 0) (u 15 0) (u 16 0) (u 17 0) (u 18 0) (u 19 0) (cv 0), cX6 cy (u 6) (u 7 0) (cv 6), cX8 cy (u 8) (cv 8)]) (ccs' := [cX11 cy (u 0) (u 1 0) (u 2 0) (u 6 0) (u 8 0) (u 9 0) (u 10 0) (u 11 0) (u 12 0) (u 13 0) (u 14 0) (u 15 0) (u 16 0) (u 17 0) (u 18 0) (u 19 0) (cv 0), cX6 cy (u 6) (u 7 0) (cv 6), cX8 cy (u 8) (cv 8)]) (isC := [0, 6, 8]) (isR := [1, 2, 3, 4, 5, 7, 9, 10, 11, 12, 13, 14, 15, 16, 17, 18, 19, 20, 21]) hx hb hml hown hts (k_X11_choice l G cy ev N (u 0) (u 1 0) (u 2 0) (u 9 0) (u 10 0) (u 11 0) (u 12 0) (u 13 0) (u 14 0) (u 15 0) (u 16 0) (u 17 0) (u 18 0) (u 19 0) (cv 0) (u 6) (u 7 0) (cv 6) (u 8) (cv 8) (xs (x4 + 1).toNatClampNeg) r hf) wm_39_20 wm_39_21 wm_39_22 wm_1_2 wm_39_23 hd_X11_choice ⟨by decide, by decide⟩ rfl rfl (by show _ ≤ 601024; omega) (by show _ ≤ 7293034; omega) hK hP hD hS hA hE rfl rfl rfl (cov_of (n := 22) rfl (by decide)) (by decide) rfl (recvW (ci := 0) hK hP rfl cX11_o rfl) rfl rfl hl.1 (Nat.le_of_ble_eq_true rfl) dL_law_749 (fun H locs hP hD hS => ?_)
  refine lv_aload_n hx hb dL_law_752 rfl (lv_at hl 2 rfl) ?_
  refine lv_aload_n hx hb dL_law_753 rfl (lv_at hl 0 rfl) ?_
  refine lv_iload hx hb dL_law_754 (lv_at hl 4 rfl) ?_
  refine lv_iconst (v := 1) hx hb dL_law_756 (by decide) ?_
  refine lv_iadd hx hb dL_law_757 ?_
  refine va_sld hx hb hX hbl hbA hS hin1 dL_law_758 ?_
  refine callGVi (As := [.int (xs (x4 + 1).toNatClampNeg)]) (rest := [.int r]) (cs' := [cX11 cy (u 0) (u 1 0) (u 2 0) (u 6 0) (u 8 0) (u 9 0) (u 10 0) (u 11 0) (u 12 0) (u 13 0) (u 14 0) (u 15 0) (u 16 0) (u 17 0) (u 18 0) (u 19 0) (cv 0), [(u 1 0, .inl (cy 0, 700, .inl T))], cX7 cy (u 2) (u 3 0) (u 4 0) (cv 2), cX9 cy (u 3) (cv 3), cX6 cy (u 4) (u 5 0) (cv 4), cX3 cy (u 5) (cv 5), cX6 cy (u 6) (u 7 0) (cv 6), cX3 cy (u 7) (cv 7), cX8 cy (u 8) (cv 8), cX8 cy (u 9) (cv 9), cX8 cy (u 10) (cv 10), cX0 cy (u 11) (cv 11), cX10 cy (u 12) (cv 12), cX10 cy (u 13) (cv 13), cX10 cy (u 14) (cv 14), cX2 cy (u 15) (cv 15), cX5 cy (u 16) (cv 16), cX1 cy (u 17) (cv 17), cX4 cy (u 18) (cv 18), [(u 19 0, .inl (cy 2, 73, .inr (.inl B)))], cX12 cy adm v1, [(qo, .inl (cy 2, 1, .inr (.inl o)))]]) (ccs := [cX12 cy adm v]) (ccs' := [cX12 cy adm v1]) (isC := [20]) (isR := [0, 1, 2, 3, 4, 5, 6, 7, 8, 9, 10, 11, 12, 13, 14, 15, 16, 17, 18, 19, 21]) hx hb hml hown hts (k_X12_choice l G cy ev N adm v (xs (x4 + 1).toNatClampNeg) (r, v1) hm) wm_40_5 wm_40_6 wm_40_7 wm_1_5 wm_40_8 hd_X12_choice ⟨by decide, by decide⟩ wj_one.symm wj_one.symm (by show _ ≤ 601024; omega) (by show _ ≤ 7293034; omega) hK hP hD hS hA hE rfl rfl rfl (cov_of (n := 22) rfl (by decide)) (by decide) rfl (recvW (ci := 20) hK hP rfl (show (cX12 cy adm v)[0]? = some (adm 0, _) from rfl) rfl) rfl rfl hl.1 (Nat.le_of_ble_eq_true rfl) dL_law_759 (fun H locs hP hD hS => ?_)
  refine lv_icmp_eq (tgt := 1493) hx hb dL_law_762 (by decide) (fun _ => ?_) (fun c9 => absurd rfl c9)
  obtain ⟨x5, e5⟩ : ∃ y : Int32, y = x4 + 6 := ⟨_, rfl⟩
  refine lv_iinc (v := x5) (lv' := [(4, .int x5), (0, .ref b), (1, .ref (u 0 0)), (2, .ref (adm 0)), (3, .ref qo)]) hx hb dL_law_1493 hl (k := 4) rfl (by rw [e5]; rfl) (by decide) rfl (fun ls hl => ?_)
  refine lv_goto (tgt := 23) hx hb dL_law_1496 (by decide) ?_
  refine W.widen (k := 170 + (k + 1)) (n := 6921 + 6 * (k + 1)) (by omega) (by omega) ?_
  exact ih (u) adm qo (cv) T B v1 o x5 _ _ ls (by rw [e5, hx4]; exact (nI_add (6 * k) 6).trans (by rw [Nat.mul_succ])) hI hP hD hS (lv_sub hl [1, 2, 3, 4, 0] rfl)
set_option maxHeartbeats 4000000 in
set_option maxRecDepth 100000 in
theorem law_level {p : Program} {l : Launch} {e : Env} {s : State} {m : MethodId} {below : List Frame} {meth : Method} {cd : Code} {b L : Nat} {xs : Nat → Int32} {N : Nat} {INV : (Nat → VV) → (Nat → Int32) → (Nat → Int64) → VV → Prop} {G : va_G} {cy : Nat → ClassId} {ev : Nat → Nat} (hst : ST_level N INV) (C : LCX p s m meth cd b L xs G cy ev) (k : Nat) (hk : 6 * k + 6 ≤ L) (ih : LOOPS p l e s m below meth cd b L INV G cy (k + 1)) (u : Nat → Nat → Nat) (adm : Nat → Nat) (qo : Nat) (cv : Nat → VV) (T : Nat → Int32) (B : Nat → Int64) (v : VV) (o : Nat → Int64) (x4 : Int32) (H : Heap) (locs : List Loc) (ls : Array Slot) (hx4 : x4 = nI (6 * k)) (hI : INV cv T B v) (hP : va_P G vwCl (wj (W22 cy u adm qo cv T B v o)) H) (hD : va_D (fun q => s.heap.size ≤ q) (wj (W22 cy u adm qo cv T B v o))) (hS : va_S (fun q => s.heap.size ≤ q) s.heap H locs) (hl : lv_has ls 7 [(0, .ref b), (1, .ref (u 0 0)), (2, .ref (adm 0)), (3, .ref qo), (4, .int x4)]) : W p l e room_1 s m #[Value.ref b] below meth cd H locs (170 + k) (6921 + 6 * k) (lw_Z below #[Value.ref b] s) (F0 m 767 ls []) := by
  obtain ⟨hx, hb, hml, hown, hts, hK, hE, hX, hbl, hL⟩ := C
  have hA : ∀ q : Nat, s.heap.size ≤ q → (fun q : Nat => s.heap.size ≤ q) q := fun _ h => h
  have hbA : ¬ (fun q : Nat => s.heap.size ≤ q) b := Nat.not_le.mpr hbl
  have hin1 : vp_in (x4 + 1) L := by rw [hx4]; exact ix_in (j := 1) hk hL (by decide)
  have hin2 : vp_in (x4 + 2) L := by rw [hx4]; exact ix_in (j := 2) hk hL (by decide)
  have hin3 : vp_in (x4 + 3) L := by rw [hx4]; exact ix_in (j := 3) hk hL (by decide)
  have hin4 : vp_in (x4 + 4) L := by rw [hx4]; exact ix_in (j := 4) hk hL (by decide)
  have hin5 : vp_in (x4 + 5) L := by rw [hx4]; exact ix_in (j := 5) hk hL (by decide)
  refine lv_aload_n hx hb dL_law_767 rfl (lv_at hl 1 rfl) ?_
  refine lv_aload_n hx hb dL_law_768 rfl (lv_at hl 0 rfl) ?_
  refine lv_iload hx hb dL_law_769 (lv_at hl 4 rfl) ?_
  refine lv_iconst (v := 1) hx hb dL_law_771 (by decide) ?_
  refine lv_iadd hx hb dL_law_772 ?_
  refine va_sld hx hb hX hbl hbA hS hin1 dL_law_773 ?_
  obtain ⟨r, n0, v1, hf, hm, hI⟩ := hst cv T B v (xs (x4 + 1).toNatClampNeg) hI
  refine callGVi (As := [.int (xs (x4 + 1).toNatClampNeg)]) (rest := []) (cs' := [cX11 cy (u 0) (u 1 0) (u 2 0) (u 6 0) (u 8 0) (u 9 0) (u 10 0) (u 11 0) (u 12 0) (u 13 0) (u 14 0) (u 15 0) (u 16 0) (u 17 0) (u 18 0) (u 19 0) (cv 0), [(u 1 0, .inl (cy 0, 700, .inl T))], cX7 cy (u 2) (u 3 0) (u 4 0) (cv 2), cX9 cy (u 3) (cv 3), cX6 cy (u 4) (u 5 0) (cv 4), cX3 cy (u 5) (cv 5), cX6 cy (u 6) (u 7 0) (cv 6), cX3 cy (u 7) (cv 7), cX8 cy (u 8) (cv 8), cX8 cy (u 9) (cv 9), cX8 cy (u 10) (cv 10), cX0 cy (u 11) (cv 11), cX10 cy (u 12) (cv 12), cX10 cy (u 13) (cv 13), cX10 cy (u 14) (cv 14), cX2 cy (u 15) (cv 15), cX5 cy (u 16) (cv 16), cX1 cy (u 17) (cv 17), cX4 cy (u 18) n0, [(u 19 0, .inl (cy 2, 73, .inr (.inl B)))], cX12 cy adm v, [(qo, .inl (cy 2, 1, .inr (.inl o)))]]) (ccs := [cX11 cy (u 0) (u 1 0) (u 2 0) (u 6 0) (u 8 0) (u 9 0) (u 10 0) (u 11 0) (u 12 0) (u 13 0) (u 14 0) (u 15 0) (u 16 0) (u 17 0) (u 18 0) (u 19 0) (cv 0), cX6 cy (u 6) (u 7 0) (cv 6), cX4 cy (u 18) (cv 18)]) (ccs' := [cX11 cy (u 0) (u 1 0) (u 2 0) (u 6 0) (u 8 0) (u 9 0) (u 10 0) (u 11 0) (u 12 0) (u 13 0) (u 14 0) (u 15 0) (u 16 0) (u 17 0) (u 18 0) (u 19 0) (cv 0), cX6 cy (u 6) (u 7 0) (cv 6), cX4 cy (u 18) n0]) (isC := [0, 6, 18]) (isR := [1, 2, 3, 4, 5, 7, 8, 9, 10, 11, 12, 13, 14, 15, 16, 17, 19, 20, 21]) hx hb hml hown hts (k_X11_level l G cy ev N (u 0) (u 1 0) (u 2 0) (u 8 0) (u 9 0) (u 10 0) (u 11 0) (u 12 0) (u 13 0) (u 14 0) (u 15 0) (u 16 0) (u 17 0) (u 19 0) (cv 0) (u 6) (u 7 0) (cv 6) (u 18) (cv 18) (xs (x4 + 1).toNatClampNeg) (r, n0) hf) wm_40_13 wm_40_14 wm_40_15 wm_1_2 wm_40_16 hd_X11_level ⟨by decide, by decide⟩ rfl rfl (by show _ ≤ 601024; omega) (by show _ ≤ 7293034; omega) hK hP hD hS hA hE rfl rfl rfl (cov_of (n := 22) rfl (by decide)) (by decide) rfl (recvW (ci := 0) hK hP rfl cX11_o rfl) rfl rfl hl.1 (Nat.le_of_ble_eq_true rfl) dL_law_774 (fun H locs hP hD hS => ?_)
  refine lv_aload_n hx hb dL_law_777 rfl (lv_at hl 2 rfl) ?_
  refine lv_aload_n hx hb dL_law_778 rfl (lv_at hl 0 rfl) ?_
  refine lv_iload hx hb dL_law_779 (lv_at hl 4 rfl) ?_
  refine lv_iconst (v := 1) hx hb dL_law_781 (by decide) ?_
  refine lv_iadd hx hb dL_law_782 ?_
  refine va_sld hx hb hX hbl hbA hS hin1 dL_law_783 ?_
  refine callGVi (As := [.int (xs (x4 + 1).toNatClampNeg)]) (rest := [.int r]) (cs' := [cX11 cy (u 0) (u 1 0) (u 2 0) (u 6 0) (u 8 0) (u 9 0) (u 10 0) (u 11 0) (u 12 0) (u 13 0) (u 14 0) (u 15 0) (u 16 0) (u 17 0) (u 18 0) (u 19 0) (cv 0), [(u 1 0, .inl (cy 0, 700, .inl T))], cX7 cy (u 2) (u 3 0) (u 4 0) (cv 2), cX9 cy (u 3) (cv 3), cX6 cy (u 4) (u 5 0) (cv 4), cX3 cy (u 5) (cv 5), cX6 cy (u 6) (u 7 0) (cv 6), cX3 cy (u 7) (cv 7), cX8 cy (u 8) (cv 8), cX8 cy (u 9) (cv 9), cX8 cy (u 10) (cv 10), cX0 cy (u 11) (cv 11), cX10 cy (u 12) (cv 12), cX10 cy (u 13) (cv 13), cX10 cy (u 14) (cv 14), cX2 cy (u 15) (cv 15), cX5 cy (u 16) (cv 16), cX1 cy (u 17) (cv 17), cX4 cy (u 18) n0, [(u 19 0, .inl (cy 2, 73, .inr (.inl B)))], cX12 cy adm v1, [(qo, .inl (cy 2, 1, .inr (.inl o)))]]) (ccs := [cX12 cy adm v]) (ccs' := [cX12 cy adm v1]) (isC := [20]) (isR := [0, 1, 2, 3, 4, 5, 6, 7, 8, 9, 10, 11, 12, 13, 14, 15, 16, 17, 18, 19, 21]) hx hb hml hown hts (k_X12_level l G cy ev N adm v (xs (x4 + 1).toNatClampNeg) (r, v1) hm) wm_41_7 wm_41_8 wm_41_9 wm_1_5 wm_41_10 hd_X12_level ⟨by decide, by decide⟩ wj_one.symm wj_one.symm (by show _ ≤ 601024; omega) (by show _ ≤ 7293034; omega) hK hP hD hS hA hE rfl rfl rfl (cov_of (n := 22) rfl (by decide)) (by decide) rfl (recvW (ci := 20) hK hP rfl (show (cX12 cy adm v)[0]? = some (adm 0, _) from rfl) rfl) rfl rfl hl.1 (Nat.le_of_ble_eq_true rfl) dL_law_784 (fun H locs hP hD hS => ?_)
  refine lv_icmp_eq (tgt := 1493) hx hb dL_law_787 (by decide) (fun _ => ?_) (fun c9 => absurd rfl c9)
  obtain ⟨x5, e5⟩ : ∃ y : Int32, y = x4 + 6 := ⟨_, rfl⟩
  refine lv_iinc (v := x5) (lv' := [(4, .int x5), (0, .ref b), (1, .ref (u 0 0)), (2, .ref (adm 0)), (3, .ref qo)]) hx hb dL_law_1493 hl (k := 4) rfl (by rw [e5]; rfl) (by decide) rfl (fun ls hl => ?_)
  refine lv_goto (tgt := 23) hx hb dL_law_1496 (by decide) ?_
  refine W.widen (k := 170 + (k + 1)) (n := 6921 + 6 * (k + 1)) (by omega) (by omega) ?_
  exact ih (u) adm qo (uc cv 18 n0) T B v1 o x5 _ _ ls (by rw [e5, hx4]; exact (nI_add (6 * k) 6).trans (by rw [Nat.mul_succ])) hI hP hD hS (lv_sub hl [1, 2, 3, 4, 0] rfl)
set_option maxHeartbeats 4000000 in
set_option maxRecDepth 100000 in
theorem law_crowd {p : Program} {l : Launch} {e : Env} {s : State} {m : MethodId} {below : List Frame} {meth : Method} {cd : Code} {b L : Nat} {xs : Nat → Int32} {N : Nat} {INV : (Nat → VV) → (Nat → Int32) → (Nat → Int64) → VV → Prop} {G : va_G} {cy : Nat → ClassId} {ev : Nat → Nat} (hst : ST_crowd N INV) (C : LCX p s m meth cd b L xs G cy ev) (k : Nat) (hk : 6 * k + 6 ≤ L) (ih : LOOPS p l e s m below meth cd b L INV G cy (k + 1)) (u : Nat → Nat → Nat) (adm : Nat → Nat) (qo : Nat) (cv : Nat → VV) (T : Nat → Int32) (B : Nat → Int64) (v : VV) (o : Nat → Int64) (x4 : Int32) (H : Heap) (locs : List Loc) (ls : Array Slot) (hx4 : x4 = nI (6 * k)) (hI : INV cv T B v) (hP : va_P G vwCl (wj (W22 cy u adm qo cv T B v o)) H) (hD : va_D (fun q => s.heap.size ≤ q) (wj (W22 cy u adm qo cv T B v o))) (hS : va_S (fun q => s.heap.size ≤ q) s.heap H locs) (hl : lv_has ls 7 [(0, .ref b), (1, .ref (u 0 0)), (2, .ref (adm 0)), (3, .ref qo), (4, .int x4)]) : W p l e room_1 s m #[Value.ref b] below meth cd H locs (170 + k) (6921 + 6 * k) (lw_Z below #[Value.ref b] s) (F0 m 792 ls []) := by
  obtain ⟨hx, hb, hml, hown, hts, hK, hE, hX, hbl, hL⟩ := C
  have hA : ∀ q : Nat, s.heap.size ≤ q → (fun q : Nat => s.heap.size ≤ q) q := fun _ h => h
  have hbA : ¬ (fun q : Nat => s.heap.size ≤ q) b := Nat.not_le.mpr hbl
  have hin1 : vp_in (x4 + 1) L := by rw [hx4]; exact ix_in (j := 1) hk hL (by decide)
  have hin2 : vp_in (x4 + 2) L := by rw [hx4]; exact ix_in (j := 2) hk hL (by decide)
  have hin3 : vp_in (x4 + 3) L := by rw [hx4]; exact ix_in (j := 3) hk hL (by decide)
  have hin4 : vp_in (x4 + 4) L := by rw [hx4]; exact ix_in (j := 4) hk hL (by decide)
  have hin5 : vp_in (x4 + 5) L := by rw [hx4]; exact ix_in (j := 5) hk hL (by decide)
  refine lv_aload_n hx hb dL_law_792 rfl (lv_at hl 1 rfl) ?_
  refine lv_aload_n hx hb dL_law_793 rfl (lv_at hl 0 rfl) ?_
  refine lv_iload hx hb dL_law_794 (lv_at hl 4 rfl) ?_
  refine lv_iconst (v := 1) hx hb dL_law_796 (by decide) ?_
  refine lv_iadd hx hb dL_law_797 ?_
  refine va_sld hx hb hX hbl hbA hS hin1 dL_law_798 ?_
  refine lv_aload_n hx hb dL_law_799 rfl (lv_at hl 0 rfl) ?_
  refine lv_iload hx hb dL_law_800 (lv_at hl 4 rfl) ?_
  refine lv_iconst (v := 2) hx hb dL_law_802 (by decide) ?_
  refine lv_iadd hx hb dL_law_803 ?_
  refine va_sld hx hb hX hbl hbA hS hin2 dL_law_804 ?_
  obtain ⟨r, n0, n1, v1, hf, hm, hI⟩ := hst cv T B v (xs (x4 + 1).toNatClampNeg) (xs (x4 + 2).toNatClampNeg) hI
  refine callGVl (As := [.int (xs (x4 + 1).toNatClampNeg), .int (xs (x4 + 2).toNatClampNeg)]) (rest := []) (cs' := [cX11 cy (u 0) (u 1 0) (u 2 0) (u 6 0) (u 8 0) (u 9 0) (u 10 0) (u 11 0) (u 12 0) (u 13 0) (u 14 0) (u 15 0) (u 16 0) (u 17 0) (u 18 0) (u 19 0) (cv 0), [(u 1 0, .inl (cy 0, 700, .inl T))], cX7 cy (u 2) (u 3 0) (u 4 0) (cv 2), cX9 cy (u 3) (cv 3), cX6 cy (u 4) (u 5 0) (cv 4), cX3 cy (u 5) (cv 5), cX6 cy (u 6) (u 7 0) (cv 6), cX3 cy (u 7) n0, cX8 cy (u 8) (cv 8), cX8 cy (u 9) (cv 9), cX8 cy (u 10) (cv 10), cX0 cy (u 11) (cv 11), cX10 cy (u 12) (cv 12), cX10 cy (u 13) (cv 13), cX10 cy (u 14) (cv 14), cX2 cy (u 15) (cv 15), cX5 cy (u 16) (cv 16), cX1 cy (u 17) (cv 17), cX4 cy (u 18) (cv 18), [(u 19 0, .inl (cy 2, 73, .inr (.inl n1)))], cX12 cy adm v, [(qo, .inl (cy 2, 1, .inr (.inl o)))]]) (ccs := [cX11 cy (u 0) (u 1 0) (u 2 0) (u 6 0) (u 8 0) (u 9 0) (u 10 0) (u 11 0) (u 12 0) (u 13 0) (u 14 0) (u 15 0) (u 16 0) (u 17 0) (u 18 0) (u 19 0) (cv 0), cX6 cy (u 6) (u 7 0) (cv 6), cX3 cy (u 7) (cv 7), cX8 cy (u 8) (cv 8), cX10 cy (u 12) (cv 12), [(u 19 0, .inl (cy 2, 73, .inr (.inl B)))]]) (ccs' := [cX11 cy (u 0) (u 1 0) (u 2 0) (u 6 0) (u 8 0) (u 9 0) (u 10 0) (u 11 0) (u 12 0) (u 13 0) (u 14 0) (u 15 0) (u 16 0) (u 17 0) (u 18 0) (u 19 0) (cv 0), cX6 cy (u 6) (u 7 0) (cv 6), cX3 cy (u 7) n0, cX8 cy (u 8) (cv 8), cX10 cy (u 12) (cv 12), [(u 19 0, .inl (cy 2, 73, .inr (.inl n1)))]]) (isC := [0, 6, 7, 8, 12, 19]) (isR := [1, 2, 3, 4, 5, 9, 10, 11, 13, 14, 15, 16, 17, 18, 20, 21]) hx hb hml hown hts (k_X11_crowd l G cy ev N (u 0) (u 1 0) (u 2 0) (u 9 0) (u 10 0) (u 11 0) (u 13 0) (u 14 0) (u 15 0) (u 16 0) (u 17 0) (u 18 0) (cv 0) (u 6) (cv 6) (u 7) (cv 7) (u 8) (cv 8) (u 12) (cv 12) (u 19 0) B (xs (x4 + 1).toNatClampNeg) (xs (x4 + 2).toNatClampNeg) (r, n0, n1) hf) wm_41_19 wm_41_20 wm_41_21 wm_1_2 wm_41_22 hd_X11_crowd ⟨by decide, by decide⟩ rfl rfl (by show _ ≤ 601024; omega) (by show _ ≤ 7293034; omega) hK hP hD hS hA hE rfl rfl rfl (cov_of (n := 22) rfl (by decide)) (by decide) rfl (recvW (ci := 0) hK hP rfl cX11_o rfl) rfl rfl hl.1 (Nat.le_of_ble_eq_true rfl) dL_law_805 (fun H locs hP hD hS => ?_)
  refine lv_aload_n hx hb dL_law_808 rfl (lv_at hl 2 rfl) ?_
  refine lv_aload_n hx hb dL_law_809 rfl (lv_at hl 0 rfl) ?_
  refine lv_iload hx hb dL_law_810 (lv_at hl 4 rfl) ?_
  refine lv_iconst (v := 1) hx hb dL_law_812 (by decide) ?_
  refine lv_iadd hx hb dL_law_813 ?_
  refine va_sld hx hb hX hbl hbA hS hin1 dL_law_814 ?_
  refine lv_aload_n hx hb dL_law_815 rfl (lv_at hl 0 rfl) ?_
  refine lv_iload hx hb dL_law_816 (lv_at hl 4 rfl) ?_
  refine lv_iconst (v := 2) hx hb dL_law_818 (by decide) ?_
  refine lv_iadd hx hb dL_law_819 ?_
  refine va_sld hx hb hX hbl hbA hS hin2 dL_law_820 ?_
  refine callGVl (As := [.int (xs (x4 + 1).toNatClampNeg), .int (xs (x4 + 2).toNatClampNeg)]) (rest := [.long r]) (cs' := [cX11 cy (u 0) (u 1 0) (u 2 0) (u 6 0) (u 8 0) (u 9 0) (u 10 0) (u 11 0) (u 12 0) (u 13 0) (u 14 0) (u 15 0) (u 16 0) (u 17 0) (u 18 0) (u 19 0) (cv 0), [(u 1 0, .inl (cy 0, 700, .inl T))], cX7 cy (u 2) (u 3 0) (u 4 0) (cv 2), cX9 cy (u 3) (cv 3), cX6 cy (u 4) (u 5 0) (cv 4), cX3 cy (u 5) (cv 5), cX6 cy (u 6) (u 7 0) (cv 6), cX3 cy (u 7) n0, cX8 cy (u 8) (cv 8), cX8 cy (u 9) (cv 9), cX8 cy (u 10) (cv 10), cX0 cy (u 11) (cv 11), cX10 cy (u 12) (cv 12), cX10 cy (u 13) (cv 13), cX10 cy (u 14) (cv 14), cX2 cy (u 15) (cv 15), cX5 cy (u 16) (cv 16), cX1 cy (u 17) (cv 17), cX4 cy (u 18) (cv 18), [(u 19 0, .inl (cy 2, 73, .inr (.inl n1)))], cX12 cy adm v1, [(qo, .inl (cy 2, 1, .inr (.inl o)))]]) (ccs := [cX12 cy adm v]) (ccs' := [cX12 cy adm v1]) (isC := [20]) (isR := [0, 1, 2, 3, 4, 5, 6, 7, 8, 9, 10, 11, 12, 13, 14, 15, 16, 17, 18, 19, 21]) hx hb hml hown hts (k_X12_crowd l G cy ev N adm v (xs (x4 + 1).toNatClampNeg) (xs (x4 + 2).toNatClampNeg) (r, v1) hm) wm_42_9 wm_42_10 wm_42_11 wm_1_5 wm_42_12 hd_X12_crowd ⟨by decide, by decide⟩ wj_one.symm wj_one.symm (by show _ ≤ 601024; omega) (by show _ ≤ 7293034; omega) hK hP hD hS hA hE rfl rfl rfl (cov_of (n := 22) rfl (by decide)) (by decide) rfl (recvW (ci := 20) hK hP rfl (show (cX12 cy adm v)[0]? = some (adm 0, _) from rfl) rfl) rfl rfl hl.1 (Nat.le_of_ble_eq_true rfl) dL_law_821 (fun H locs hP hD hS => ?_)
  refine W.lcmp hx hb dL_law_824 ?_
  refine lv_if_eq (tgt := 1493) hx hb dL_law_825 (by decide) (fun _ => ?_) (fun c9 => absurd ((lg_cmp_eq _ _).mpr rfl) c9)
  obtain ⟨x5, e5⟩ : ∃ y : Int32, y = x4 + 6 := ⟨_, rfl⟩
  refine lv_iinc (v := x5) (lv' := [(4, .int x5), (0, .ref b), (1, .ref (u 0 0)), (2, .ref (adm 0)), (3, .ref qo)]) hx hb dL_law_1493 hl (k := 4) rfl (by rw [e5]; rfl) (by decide) rfl (fun ls hl => ?_)
  refine lv_goto (tgt := 23) hx hb dL_law_1496 (by decide) ?_
  refine W.widen (k := 170 + (k + 1)) (n := 6921 + 6 * (k + 1)) (by omega) (by omega) ?_
  exact ih (u) adm qo (uc cv 7 n0) T n1 v1 o x5 _ _ ls (by rw [e5, hx4]; exact (nI_add (6 * k) 6).trans (by rw [Nat.mul_succ])) hI hP hD hS (lv_sub hl [1, 2, 3, 4, 0] rfl)
set_option maxHeartbeats 4000000 in
set_option maxRecDepth 100000 in
theorem law_late {p : Program} {l : Launch} {e : Env} {s : State} {m : MethodId} {below : List Frame} {meth : Method} {cd : Code} {b L : Nat} {xs : Nat → Int32} {N : Nat} {INV : (Nat → VV) → (Nat → Int32) → (Nat → Int64) → VV → Prop} {G : va_G} {cy : Nat → ClassId} {ev : Nat → Nat} (hst : ST_late N INV) (C : LCX p s m meth cd b L xs G cy ev) (k : Nat) (hk : 6 * k + 6 ≤ L) (ih : LOOPS p l e s m below meth cd b L INV G cy (k + 1)) (u : Nat → Nat → Nat) (adm : Nat → Nat) (qo : Nat) (cv : Nat → VV) (T : Nat → Int32) (B : Nat → Int64) (v : VV) (o : Nat → Int64) (x4 : Int32) (H : Heap) (locs : List Loc) (ls : Array Slot) (hx4 : x4 = nI (6 * k)) (hI : INV cv T B v) (hP : va_P G vwCl (wj (W22 cy u adm qo cv T B v o)) H) (hD : va_D (fun q => s.heap.size ≤ q) (wj (W22 cy u adm qo cv T B v o))) (hS : va_S (fun q => s.heap.size ≤ q) s.heap H locs) (hl : lv_has ls 7 [(0, .ref b), (1, .ref (u 0 0)), (2, .ref (adm 0)), (3, .ref qo), (4, .int x4)]) : W p l e room_1 s m #[Value.ref b] below meth cd H locs (170 + k) (6921 + 6 * k) (lw_Z below #[Value.ref b] s) (F0 m 830 ls []) := by
  obtain ⟨hx, hb, hml, hown, hts, hK, hE, hX, hbl, hL⟩ := C
  have hA : ∀ q : Nat, s.heap.size ≤ q → (fun q : Nat => s.heap.size ≤ q) q := fun _ h => h
  have hbA : ¬ (fun q : Nat => s.heap.size ≤ q) b := Nat.not_le.mpr hbl
  have hin1 : vp_in (x4 + 1) L := by rw [hx4]; exact ix_in (j := 1) hk hL (by decide)
  have hin2 : vp_in (x4 + 2) L := by rw [hx4]; exact ix_in (j := 2) hk hL (by decide)
  have hin3 : vp_in (x4 + 3) L := by rw [hx4]; exact ix_in (j := 3) hk hL (by decide)
  have hin4 : vp_in (x4 + 4) L := by rw [hx4]; exact ix_in (j := 4) hk hL (by decide)
  have hin5 : vp_in (x4 + 5) L := by rw [hx4]; exact ix_in (j := 5) hk hL (by decide)
  refine lv_aload_n hx hb dL_law_830 rfl (lv_at hl 1 rfl) ?_
  refine lv_aload_n hx hb dL_law_831 rfl (lv_at hl 0 rfl) ?_
  refine lv_iload hx hb dL_law_832 (lv_at hl 4 rfl) ?_
  refine lv_iconst (v := 1) hx hb dL_law_834 (by decide) ?_
  refine lv_iadd hx hb dL_law_835 ?_
  refine va_sld hx hb hX hbl hbA hS hin1 dL_law_836 ?_
  obtain ⟨r, n0, n1, n2, v1, hf, hm, hI⟩ := hst cv T B v (xs (x4 + 1).toNatClampNeg) hI
  refine callGVi (As := [.int (xs (x4 + 1).toNatClampNeg)]) (rest := []) (cs' := [cX11 cy (u 0) (u 1 0) (u 2 0) (u 6 0) (u 8 0) (u 9 0) (u 10 0) (u 11 0) (u 12 0) (u 13 0) (u 14 0) (u 15 0) (u 16 0) (u 17 0) (u 18 0) (u 19 0) (cv 0), [(u 1 0, .inl (cy 0, 700, .inl T))], cX7 cy (u 2) (u 3 0) (u 4 0) (cv 2), cX9 cy (u 3) (cv 3), cX6 cy (u 4) (u 5 0) (cv 4), cX3 cy (u 5) (cv 5), cX6 cy (u 6) (u 7 0) (cv 6), cX3 cy (u 7) n0, cX8 cy (u 8) (cv 8), cX8 cy (u 9) (cv 9), cX8 cy (u 10) n1, cX0 cy (u 11) n2, cX10 cy (u 12) (cv 12), cX10 cy (u 13) (cv 13), cX10 cy (u 14) (cv 14), cX2 cy (u 15) (cv 15), cX5 cy (u 16) (cv 16), cX1 cy (u 17) (cv 17), cX4 cy (u 18) (cv 18), [(u 19 0, .inl (cy 2, 73, .inr (.inl B)))], cX12 cy adm v, [(qo, .inl (cy 2, 1, .inr (.inl o)))]]) (ccs := [cX11 cy (u 0) (u 1 0) (u 2 0) (u 6 0) (u 8 0) (u 9 0) (u 10 0) (u 11 0) (u 12 0) (u 13 0) (u 14 0) (u 15 0) (u 16 0) (u 17 0) (u 18 0) (u 19 0) (cv 0), cX6 cy (u 6) (u 7 0) (cv 6), cX3 cy (u 7) (cv 7), cX8 cy (u 8) (cv 8), cX8 cy (u 10) (cv 10), cX0 cy (u 11) (cv 11), cX10 cy (u 12) (cv 12)]) (ccs' := [cX11 cy (u 0) (u 1 0) (u 2 0) (u 6 0) (u 8 0) (u 9 0) (u 10 0) (u 11 0) (u 12 0) (u 13 0) (u 14 0) (u 15 0) (u 16 0) (u 17 0) (u 18 0) (u 19 0) (cv 0), cX6 cy (u 6) (u 7 0) (cv 6), cX3 cy (u 7) n0, cX8 cy (u 8) (cv 8), cX8 cy (u 10) n1, cX0 cy (u 11) n2, cX10 cy (u 12) (cv 12)]) (isC := [0, 6, 7, 8, 10, 11, 12]) (isR := [1, 2, 3, 4, 5, 9, 13, 14, 15, 16, 17, 18, 19, 20, 21]) hx hb hml hown hts (k_X11_late l G cy ev N (u 0) (u 1 0) (u 2 0) (u 9 0) (u 13 0) (u 14 0) (u 15 0) (u 16 0) (u 17 0) (u 18 0) (u 19 0) (cv 0) (u 6) (cv 6) (u 7) (cv 7) (u 8) (cv 8) (u 10) (cv 10) (u 11) (cv 11) (u 12) (cv 12) (xs (x4 + 1).toNatClampNeg) (r, n0, n1, n2) hf) wm_42_18 wm_42_19 wm_42_20 wm_1_2 wm_42_21 hd_X11_late ⟨by decide, by decide⟩ rfl rfl (by show _ ≤ 601024; omega) (by show _ ≤ 7293034; omega) hK hP hD hS hA hE rfl rfl rfl (cov_of (n := 22) rfl (by decide)) (by decide) rfl (recvW (ci := 0) hK hP rfl cX11_o rfl) rfl rfl hl.1 (Nat.le_of_ble_eq_true rfl) dL_law_837 (fun H locs hP hD hS => ?_)
  refine lv_aload_n hx hb dL_law_840 rfl (lv_at hl 2 rfl) ?_
  refine lv_aload_n hx hb dL_law_841 rfl (lv_at hl 0 rfl) ?_
  refine lv_iload hx hb dL_law_842 (lv_at hl 4 rfl) ?_
  refine lv_iconst (v := 1) hx hb dL_law_844 (by decide) ?_
  refine lv_iadd hx hb dL_law_845 ?_
  refine va_sld hx hb hX hbl hbA hS hin1 dL_law_846 ?_
  refine callGVi (As := [.int (xs (x4 + 1).toNatClampNeg)]) (rest := [.int r]) (cs' := [cX11 cy (u 0) (u 1 0) (u 2 0) (u 6 0) (u 8 0) (u 9 0) (u 10 0) (u 11 0) (u 12 0) (u 13 0) (u 14 0) (u 15 0) (u 16 0) (u 17 0) (u 18 0) (u 19 0) (cv 0), [(u 1 0, .inl (cy 0, 700, .inl T))], cX7 cy (u 2) (u 3 0) (u 4 0) (cv 2), cX9 cy (u 3) (cv 3), cX6 cy (u 4) (u 5 0) (cv 4), cX3 cy (u 5) (cv 5), cX6 cy (u 6) (u 7 0) (cv 6), cX3 cy (u 7) n0, cX8 cy (u 8) (cv 8), cX8 cy (u 9) (cv 9), cX8 cy (u 10) n1, cX0 cy (u 11) n2, cX10 cy (u 12) (cv 12), cX10 cy (u 13) (cv 13), cX10 cy (u 14) (cv 14), cX2 cy (u 15) (cv 15), cX5 cy (u 16) (cv 16), cX1 cy (u 17) (cv 17), cX4 cy (u 18) (cv 18), [(u 19 0, .inl (cy 2, 73, .inr (.inl B)))], cX12 cy adm v1, [(qo, .inl (cy 2, 1, .inr (.inl o)))]]) (ccs := [cX12 cy adm v]) (ccs' := [cX12 cy adm v1]) (isC := [20]) (isR := [0, 1, 2, 3, 4, 5, 6, 7, 8, 9, 10, 11, 12, 13, 14, 15, 16, 17, 18, 19, 21]) hx hb hml hown hts (k_X12_late l G cy ev N adm v (xs (x4 + 1).toNatClampNeg) (r, v1) hm) wm_43_7 wm_43_8 wm_43_9 wm_1_5 wm_43_10 hd_X12_late ⟨by decide, by decide⟩ wj_one.symm wj_one.symm (by show _ ≤ 601024; omega) (by show _ ≤ 7293034; omega) hK hP hD hS hA hE rfl rfl rfl (cov_of (n := 22) rfl (by decide)) (by decide) rfl (recvW (ci := 20) hK hP rfl (show (cX12 cy adm v)[0]? = some (adm 0, _) from rfl) rfl) rfl rfl hl.1 (Nat.le_of_ble_eq_true rfl) dL_law_847 (fun H locs hP hD hS => ?_)
  refine lv_icmp_eq (tgt := 1493) hx hb dL_law_850 (by decide) (fun _ => ?_) (fun c9 => absurd rfl c9)
  obtain ⟨x5, e5⟩ : ∃ y : Int32, y = x4 + 6 := ⟨_, rfl⟩
  refine lv_iinc (v := x5) (lv' := [(4, .int x5), (0, .ref b), (1, .ref (u 0 0)), (2, .ref (adm 0)), (3, .ref qo)]) hx hb dL_law_1493 hl (k := 4) rfl (by rw [e5]; rfl) (by decide) rfl (fun ls hl => ?_)
  refine lv_goto (tgt := 23) hx hb dL_law_1496 (by decide) ?_
  refine W.widen (k := 170 + (k + 1)) (n := 6921 + 6 * (k + 1)) (by omega) (by omega) ?_
  exact ih (u) adm qo (uc (uc (uc cv 7 n0) 10 n1) 11 n2) T B v1 o x5 _ _ ls (by rw [e5, hx4]; exact (nI_add (6 * k) 6).trans (by rw [Nat.mul_succ])) hI hP hD hS (lv_sub hl [1, 2, 3, 4, 0] rfl)
set_option maxHeartbeats 4000000 in
set_option maxRecDepth 100000 in
theorem law_catchUp {p : Program} {l : Launch} {e : Env} {s : State} {m : MethodId} {below : List Frame} {meth : Method} {cd : Code} {b L : Nat} {xs : Nat → Int32} {N : Nat} {INV : (Nat → VV) → (Nat → Int32) → (Nat → Int64) → VV → Prop} {G : va_G} {cy : Nat → ClassId} {ev : Nat → Nat} (hst : ST_catchUp N INV) (C : LCX p s m meth cd b L xs G cy ev) (k : Nat) (hk : 6 * k + 6 ≤ L) (ih : LOOPS p l e s m below meth cd b L INV G cy (k + 1)) (u : Nat → Nat → Nat) (adm : Nat → Nat) (qo : Nat) (cv : Nat → VV) (T : Nat → Int32) (B : Nat → Int64) (v : VV) (o : Nat → Int64) (x4 : Int32) (H : Heap) (locs : List Loc) (ls : Array Slot) (hx4 : x4 = nI (6 * k)) (hI : INV cv T B v) (hP : va_P G vwCl (wj (W22 cy u adm qo cv T B v o)) H) (hD : va_D (fun q => s.heap.size ≤ q) (wj (W22 cy u adm qo cv T B v o))) (hS : va_S (fun q => s.heap.size ≤ q) s.heap H locs) (hl : lv_has ls 7 [(0, .ref b), (1, .ref (u 0 0)), (2, .ref (adm 0)), (3, .ref qo), (4, .int x4)]) : W p l e room_1 s m #[Value.ref b] below meth cd H locs (170 + k) (6921 + 6 * k) (lw_Z below #[Value.ref b] s) (F0 m 855 ls []) := by
  obtain ⟨hx, hb, hml, hown, hts, hK, hE, hX, hbl, hL⟩ := C
  have hA : ∀ q : Nat, s.heap.size ≤ q → (fun q : Nat => s.heap.size ≤ q) q := fun _ h => h
  have hbA : ¬ (fun q : Nat => s.heap.size ≤ q) b := Nat.not_le.mpr hbl
  have hin1 : vp_in (x4 + 1) L := by rw [hx4]; exact ix_in (j := 1) hk hL (by decide)
  have hin2 : vp_in (x4 + 2) L := by rw [hx4]; exact ix_in (j := 2) hk hL (by decide)
  have hin3 : vp_in (x4 + 3) L := by rw [hx4]; exact ix_in (j := 3) hk hL (by decide)
  have hin4 : vp_in (x4 + 4) L := by rw [hx4]; exact ix_in (j := 4) hk hL (by decide)
  have hin5 : vp_in (x4 + 5) L := by rw [hx4]; exact ix_in (j := 5) hk hL (by decide)
  refine lv_aload_n hx hb dL_law_855 rfl (lv_at hl 1 rfl) ?_
  refine lv_aload_n hx hb dL_law_856 rfl (lv_at hl 0 rfl) ?_
  refine lv_iload hx hb dL_law_857 (lv_at hl 4 rfl) ?_
  refine lv_iconst (v := 1) hx hb dL_law_859 (by decide) ?_
  refine lv_iadd hx hb dL_law_860 ?_
  refine va_sld hx hb hX hbl hbA hS hin1 dL_law_861 ?_
  obtain ⟨r, n0, n1, n2, v1, hf, hm, hI⟩ := hst cv T B v (xs (x4 + 1).toNatClampNeg) hI
  refine callGVi (As := [.int (xs (x4 + 1).toNatClampNeg)]) (rest := []) (cs' := [cX11 cy (u 0) (u 1 0) (u 2 0) (u 6 0) (u 8 0) (u 9 0) (u 10 0) (u 11 0) (u 12 0) (u 13 0) (u 14 0) (u 15 0) (u 16 0) (u 17 0) (u 18 0) (u 19 0) (cv 0), [(u 1 0, .inl (cy 0, 700, .inl T))], cX7 cy (u 2) (u 3 0) (u 4 0) (cv 2), cX9 cy (u 3) (cv 3), cX6 cy (u 4) (u 5 0) (cv 4), cX3 cy (u 5) (cv 5), cX6 cy (u 6) (u 7 0) (cv 6), cX3 cy (u 7) n0, cX8 cy (u 8) (cv 8), cX8 cy (u 9) (cv 9), cX8 cy (u 10) n1, cX0 cy (u 11) n2, cX10 cy (u 12) (cv 12), cX10 cy (u 13) (cv 13), cX10 cy (u 14) (cv 14), cX2 cy (u 15) (cv 15), cX5 cy (u 16) (cv 16), cX1 cy (u 17) (cv 17), cX4 cy (u 18) (cv 18), [(u 19 0, .inl (cy 2, 73, .inr (.inl B)))], cX12 cy adm v, [(qo, .inl (cy 2, 1, .inr (.inl o)))]]) (ccs := [cX11 cy (u 0) (u 1 0) (u 2 0) (u 6 0) (u 8 0) (u 9 0) (u 10 0) (u 11 0) (u 12 0) (u 13 0) (u 14 0) (u 15 0) (u 16 0) (u 17 0) (u 18 0) (u 19 0) (cv 0), cX6 cy (u 6) (u 7 0) (cv 6), cX3 cy (u 7) (cv 7), cX8 cy (u 8) (cv 8), cX8 cy (u 10) (cv 10), cX0 cy (u 11) (cv 11), cX10 cy (u 12) (cv 12)]) (ccs' := [cX11 cy (u 0) (u 1 0) (u 2 0) (u 6 0) (u 8 0) (u 9 0) (u 10 0) (u 11 0) (u 12 0) (u 13 0) (u 14 0) (u 15 0) (u 16 0) (u 17 0) (u 18 0) (u 19 0) (cv 0), cX6 cy (u 6) (u 7 0) (cv 6), cX3 cy (u 7) n0, cX8 cy (u 8) (cv 8), cX8 cy (u 10) n1, cX0 cy (u 11) n2, cX10 cy (u 12) (cv 12)]) (isC := [0, 6, 7, 8, 10, 11, 12]) (isR := [1, 2, 3, 4, 5, 9, 13, 14, 15, 16, 17, 18, 19, 20, 21]) hx hb hml hown hts (k_X11_catchUp l G cy ev N (u 0) (u 1 0) (u 2 0) (u 9 0) (u 13 0) (u 14 0) (u 15 0) (u 16 0) (u 17 0) (u 18 0) (u 19 0) (cv 0) (u 6) (cv 6) (u 7) (cv 7) (u 8) (cv 8) (u 10) (cv 10) (u 11) (cv 11) (u 12) (cv 12) (xs (x4 + 1).toNatClampNeg) (r, n0, n1, n2) hf) wm_43_19 wm_43_20 wm_43_21 wm_1_2 wm_43_22 hd_X11_catchUp ⟨by decide, by decide⟩ rfl rfl (by show _ ≤ 601024; omega) (by show _ ≤ 7293034; omega) hK hP hD hS hA hE rfl rfl rfl (cov_of (n := 22) rfl (by decide)) (by decide) rfl (recvW (ci := 0) hK hP rfl cX11_o rfl) rfl rfl hl.1 (Nat.le_of_ble_eq_true rfl) dL_law_862 (fun H locs hP hD hS => ?_)
  refine lv_aload_n hx hb dL_law_865 rfl (lv_at hl 2 rfl) ?_
  refine lv_aload_n hx hb dL_law_866 rfl (lv_at hl 0 rfl) ?_
  refine lv_iload hx hb dL_law_867 (lv_at hl 4 rfl) ?_
  refine lv_iconst (v := 1) hx hb dL_law_869 (by decide) ?_
  refine lv_iadd hx hb dL_law_870 ?_
  refine va_sld hx hb hX hbl hbA hS hin1 dL_law_871 ?_
  refine callGVi (As := [.int (xs (x4 + 1).toNatClampNeg)]) (rest := [.int r]) (cs' := [cX11 cy (u 0) (u 1 0) (u 2 0) (u 6 0) (u 8 0) (u 9 0) (u 10 0) (u 11 0) (u 12 0) (u 13 0) (u 14 0) (u 15 0) (u 16 0) (u 17 0) (u 18 0) (u 19 0) (cv 0), [(u 1 0, .inl (cy 0, 700, .inl T))], cX7 cy (u 2) (u 3 0) (u 4 0) (cv 2), cX9 cy (u 3) (cv 3), cX6 cy (u 4) (u 5 0) (cv 4), cX3 cy (u 5) (cv 5), cX6 cy (u 6) (u 7 0) (cv 6), cX3 cy (u 7) n0, cX8 cy (u 8) (cv 8), cX8 cy (u 9) (cv 9), cX8 cy (u 10) n1, cX0 cy (u 11) n2, cX10 cy (u 12) (cv 12), cX10 cy (u 13) (cv 13), cX10 cy (u 14) (cv 14), cX2 cy (u 15) (cv 15), cX5 cy (u 16) (cv 16), cX1 cy (u 17) (cv 17), cX4 cy (u 18) (cv 18), [(u 19 0, .inl (cy 2, 73, .inr (.inl B)))], cX12 cy adm v1, [(qo, .inl (cy 2, 1, .inr (.inl o)))]]) (ccs := [cX12 cy adm v]) (ccs' := [cX12 cy adm v1]) (isC := [20]) (isR := [0, 1, 2, 3, 4, 5, 6, 7, 8, 9, 10, 11, 12, 13, 14, 15, 16, 17, 18, 19, 21]) hx hb hml hown hts (k_X12_catchUp l G cy ev N adm v (xs (x4 + 1).toNatClampNeg) (r, v1) hm) wm_43_23 wm_44_0 wm_44_1 wm_1_5 wm_44_2 hd_X12_catchUp ⟨by decide, by decide⟩ wj_one.symm wj_one.symm (by show _ ≤ 601024; omega) (by show _ ≤ 7293034; omega) hK hP hD hS hA hE rfl rfl rfl (cov_of (n := 22) rfl (by decide)) (by decide) rfl (recvW (ci := 20) hK hP rfl (show (cX12 cy adm v)[0]? = some (adm 0, _) from rfl) rfl) rfl rfl hl.1 (Nat.le_of_ble_eq_true rfl) dL_law_872 (fun H locs hP hD hS => ?_)
  refine lv_icmp_eq (tgt := 1493) hx hb dL_law_875 (by decide) (fun _ => ?_) (fun c9 => absurd rfl c9)
  obtain ⟨x5, e5⟩ : ∃ y : Int32, y = x4 + 6 := ⟨_, rfl⟩
  refine lv_iinc (v := x5) (lv' := [(4, .int x5), (0, .ref b), (1, .ref (u 0 0)), (2, .ref (adm 0)), (3, .ref qo)]) hx hb dL_law_1493 hl (k := 4) rfl (by rw [e5]; rfl) (by decide) rfl (fun ls hl => ?_)
  refine lv_goto (tgt := 23) hx hb dL_law_1496 (by decide) ?_
  refine W.widen (k := 170 + (k + 1)) (n := 6921 + 6 * (k + 1)) (by omega) (by omega) ?_
  exact ih (u) adm qo (uc (uc (uc cv 7 n0) 10 n1) 11 n2) T B v1 o x5 _ _ ls (by rw [e5, hx4]; exact (nI_add (6 * k) 6).trans (by rw [Nat.mul_succ])) hI hP hD hS (lv_sub hl [1, 2, 3, 4, 0] rfl)
set_option maxHeartbeats 4000000 in
set_option maxRecDepth 100000 in
theorem law_hands {p : Program} {l : Launch} {e : Env} {s : State} {m : MethodId} {below : List Frame} {meth : Method} {cd : Code} {b L : Nat} {xs : Nat → Int32} {N : Nat} {INV : (Nat → VV) → (Nat → Int32) → (Nat → Int64) → VV → Prop} {G : va_G} {cy : Nat → ClassId} {ev : Nat → Nat} (hst : ST_hands N INV) (C : LCX p s m meth cd b L xs G cy ev) (k : Nat) (hk : 6 * k + 6 ≤ L) (ih : LOOPS p l e s m below meth cd b L INV G cy (k + 1)) (u : Nat → Nat → Nat) (adm : Nat → Nat) (qo : Nat) (cv : Nat → VV) (T : Nat → Int32) (B : Nat → Int64) (v : VV) (o : Nat → Int64) (x4 : Int32) (H : Heap) (locs : List Loc) (ls : Array Slot) (hx4 : x4 = nI (6 * k)) (hI : INV cv T B v) (hP : va_P G vwCl (wj (W22 cy u adm qo cv T B v o)) H) (hD : va_D (fun q => s.heap.size ≤ q) (wj (W22 cy u adm qo cv T B v o))) (hS : va_S (fun q => s.heap.size ≤ q) s.heap H locs) (hl : lv_has ls 7 [(0, .ref b), (1, .ref (u 0 0)), (2, .ref (adm 0)), (3, .ref qo), (4, .int x4)]) : W p l e room_1 s m #[Value.ref b] below meth cd H locs (170 + k) (6921 + 6 * k) (lw_Z below #[Value.ref b] s) (F0 m 880 ls []) := by
  obtain ⟨hx, hb, hml, hown, hts, hK, hE, hX, hbl, hL⟩ := C
  have hA : ∀ q : Nat, s.heap.size ≤ q → (fun q : Nat => s.heap.size ≤ q) q := fun _ h => h
  have hbA : ¬ (fun q : Nat => s.heap.size ≤ q) b := Nat.not_le.mpr hbl
  have hin1 : vp_in (x4 + 1) L := by rw [hx4]; exact ix_in (j := 1) hk hL (by decide)
  have hin2 : vp_in (x4 + 2) L := by rw [hx4]; exact ix_in (j := 2) hk hL (by decide)
  have hin3 : vp_in (x4 + 3) L := by rw [hx4]; exact ix_in (j := 3) hk hL (by decide)
  have hin4 : vp_in (x4 + 4) L := by rw [hx4]; exact ix_in (j := 4) hk hL (by decide)
  have hin5 : vp_in (x4 + 5) L := by rw [hx4]; exact ix_in (j := 5) hk hL (by decide)
  refine lv_aload_n hx hb dL_law_880 rfl (lv_at hl 1 rfl) ?_
  obtain ⟨r, n0, n1, n2, n3, v1, hf, hm, hI⟩ := hst cv T B v  hI
  refine callGVi (As := []) (rest := []) (cs' := [cX11 cy (u 0) (u 1 0) (u 2 0) (u 6 0) (u 8 0) (u 9 0) (u 10 0) (u 11 0) (u 12 0) (u 13 0) (u 14 0) (u 15 0) (u 16 0) (u 17 0) (u 18 0) (u 19 0) (cv 0), [(u 1 0, .inl (cy 0, 700, .inl T))], cX7 cy (u 2) (u 3 0) (u 4 0) (cv 2), cX9 cy (u 3) (cv 3), cX6 cy (u 4) (u 5 0) (cv 4), cX3 cy (u 5) (cv 5), cX6 cy (u 6) (u 7 0) (cv 6), cX3 cy (u 7) n0, cX8 cy (u 8) (cv 8), cX8 cy (u 9) (cv 9), cX8 cy (u 10) n1, cX0 cy (u 11) n2, cX10 cy (u 12) (cv 12), cX10 cy (u 13) (cv 13), cX10 cy (u 14) n3, cX2 cy (u 15) (cv 15), cX5 cy (u 16) (cv 16), cX1 cy (u 17) (cv 17), cX4 cy (u 18) (cv 18), [(u 19 0, .inl (cy 2, 73, .inr (.inl B)))], cX12 cy adm v, [(qo, .inl (cy 2, 1, .inr (.inl o)))]]) (ccs := [cX11 cy (u 0) (u 1 0) (u 2 0) (u 6 0) (u 8 0) (u 9 0) (u 10 0) (u 11 0) (u 12 0) (u 13 0) (u 14 0) (u 15 0) (u 16 0) (u 17 0) (u 18 0) (u 19 0) (cv 0), cX6 cy (u 6) (u 7 0) (cv 6), cX3 cy (u 7) (cv 7), cX8 cy (u 8) (cv 8), cX8 cy (u 10) (cv 10), cX0 cy (u 11) (cv 11), cX10 cy (u 14) (cv 14)]) (ccs' := [cX11 cy (u 0) (u 1 0) (u 2 0) (u 6 0) (u 8 0) (u 9 0) (u 10 0) (u 11 0) (u 12 0) (u 13 0) (u 14 0) (u 15 0) (u 16 0) (u 17 0) (u 18 0) (u 19 0) (cv 0), cX6 cy (u 6) (u 7 0) (cv 6), cX3 cy (u 7) n0, cX8 cy (u 8) (cv 8), cX8 cy (u 10) n1, cX0 cy (u 11) n2, cX10 cy (u 14) n3]) (isC := [0, 6, 7, 8, 10, 11, 14]) (isR := [1, 2, 3, 4, 5, 9, 12, 13, 15, 16, 17, 18, 19, 20, 21]) hx hb hml hown hts (k_X11_hands l G cy ev N (u 0) (u 1 0) (u 2 0) (u 9 0) (u 12 0) (u 13 0) (u 15 0) (u 16 0) (u 17 0) (u 18 0) (u 19 0) (cv 0) (u 6) (cv 6) (u 7) (cv 7) (u 8) (cv 8) (u 10) (cv 10) (u 11) (cv 11) (u 14) (cv 14)  (r, n0, n1, n2, n3) hf) wm_44_3 wm_44_4 wm_44_5 wm_1_2 wm_44_6 hd_X11_hands ⟨by decide, by decide⟩ rfl rfl (by show _ ≤ 601024; omega) (by show _ ≤ 7293034; omega) hK hP hD hS hA hE rfl rfl rfl (cov_of (n := 22) rfl (by decide)) (by decide) rfl (recvW (ci := 0) hK hP rfl cX11_o rfl) rfl rfl hl.1 (Nat.le_of_ble_eq_true rfl) dL_law_881 (fun H locs hP hD hS => ?_)
  refine lv_aload_n hx hb dL_law_884 rfl (lv_at hl 2 rfl) ?_
  refine callGVi (As := []) (rest := [.int r]) (cs' := [cX11 cy (u 0) (u 1 0) (u 2 0) (u 6 0) (u 8 0) (u 9 0) (u 10 0) (u 11 0) (u 12 0) (u 13 0) (u 14 0) (u 15 0) (u 16 0) (u 17 0) (u 18 0) (u 19 0) (cv 0), [(u 1 0, .inl (cy 0, 700, .inl T))], cX7 cy (u 2) (u 3 0) (u 4 0) (cv 2), cX9 cy (u 3) (cv 3), cX6 cy (u 4) (u 5 0) (cv 4), cX3 cy (u 5) (cv 5), cX6 cy (u 6) (u 7 0) (cv 6), cX3 cy (u 7) n0, cX8 cy (u 8) (cv 8), cX8 cy (u 9) (cv 9), cX8 cy (u 10) n1, cX0 cy (u 11) n2, cX10 cy (u 12) (cv 12), cX10 cy (u 13) (cv 13), cX10 cy (u 14) n3, cX2 cy (u 15) (cv 15), cX5 cy (u 16) (cv 16), cX1 cy (u 17) (cv 17), cX4 cy (u 18) (cv 18), [(u 19 0, .inl (cy 2, 73, .inr (.inl B)))], cX12 cy adm v1, [(qo, .inl (cy 2, 1, .inr (.inl o)))]]) (ccs := [cX12 cy adm v]) (ccs' := [cX12 cy adm v1]) (isC := [20]) (isR := [0, 1, 2, 3, 4, 5, 6, 7, 8, 9, 10, 11, 12, 13, 14, 15, 16, 17, 18, 19, 21]) hx hb hml hown hts (k_X12_hands l G cy ev N adm v  (r, v1) hm) wm_44_15 wm_44_16 wm_44_17 wm_1_5 wm_44_18 hd_X12_hands ⟨by decide, by decide⟩ wj_one.symm wj_one.symm (by show _ ≤ 601024; omega) (by show _ ≤ 7293034; omega) hK hP hD hS hA hE rfl rfl rfl (cov_of (n := 22) rfl (by decide)) (by decide) rfl (recvW (ci := 20) hK hP rfl (show (cX12 cy adm v)[0]? = some (adm 0, _) from rfl) rfl) rfl rfl hl.1 (Nat.le_of_ble_eq_true rfl) dL_law_885 (fun H locs hP hD hS => ?_)
  refine lv_icmp_eq (tgt := 1493) hx hb dL_law_888 (by decide) (fun _ => ?_) (fun c9 => absurd rfl c9)
  obtain ⟨x5, e5⟩ : ∃ y : Int32, y = x4 + 6 := ⟨_, rfl⟩
  refine lv_iinc (v := x5) (lv' := [(4, .int x5), (0, .ref b), (1, .ref (u 0 0)), (2, .ref (adm 0)), (3, .ref qo)]) hx hb dL_law_1493 hl (k := 4) rfl (by rw [e5]; rfl) (by decide) rfl (fun ls hl => ?_)
  refine lv_goto (tgt := 23) hx hb dL_law_1496 (by decide) ?_
  refine W.widen (k := 170 + (k + 1)) (n := 6921 + 6 * (k + 1)) (by omega) (by omega) ?_
  exact ih (u) adm qo (uc (uc (uc (uc cv 7 n0) 10 n1) 11 n2) 14 n3) T B v1 o x5 _ _ ls (by rw [e5, hx4]; exact (nI_add (6 * k) 6).trans (by rw [Nat.mul_succ])) hI hP hD hS (lv_sub hl [1, 2, 3, 4, 0] rfl)
set_option maxHeartbeats 4000000 in
set_option maxRecDepth 100000 in
theorem law_empties {p : Program} {l : Launch} {e : Env} {s : State} {m : MethodId} {below : List Frame} {meth : Method} {cd : Code} {b L : Nat} {xs : Nat → Int32} {N : Nat} {INV : (Nat → VV) → (Nat → Int32) → (Nat → Int64) → VV → Prop} {G : va_G} {cy : Nat → ClassId} {ev : Nat → Nat} (hst : ST_empties N INV) (C : LCX p s m meth cd b L xs G cy ev) (k : Nat) (hk : 6 * k + 6 ≤ L) (ih : LOOPS p l e s m below meth cd b L INV G cy (k + 1)) (u : Nat → Nat → Nat) (adm : Nat → Nat) (qo : Nat) (cv : Nat → VV) (T : Nat → Int32) (B : Nat → Int64) (v : VV) (o : Nat → Int64) (x4 : Int32) (H : Heap) (locs : List Loc) (ls : Array Slot) (hx4 : x4 = nI (6 * k)) (hI : INV cv T B v) (hP : va_P G vwCl (wj (W22 cy u adm qo cv T B v o)) H) (hD : va_D (fun q => s.heap.size ≤ q) (wj (W22 cy u adm qo cv T B v o))) (hS : va_S (fun q => s.heap.size ≤ q) s.heap H locs) (hl : lv_has ls 7 [(0, .ref b), (1, .ref (u 0 0)), (2, .ref (adm 0)), (3, .ref qo), (4, .int x4)]) : W p l e room_1 s m #[Value.ref b] below meth cd H locs (170 + k) (6921 + 6 * k) (lw_Z below #[Value.ref b] s) (F0 m 893 ls []) := by
  obtain ⟨hx, hb, hml, hown, hts, hK, hE, hX, hbl, hL⟩ := C
  have hA : ∀ q : Nat, s.heap.size ≤ q → (fun q : Nat => s.heap.size ≤ q) q := fun _ h => h
  have hbA : ¬ (fun q : Nat => s.heap.size ≤ q) b := Nat.not_le.mpr hbl
  have hin1 : vp_in (x4 + 1) L := by rw [hx4]; exact ix_in (j := 1) hk hL (by decide)
  have hin2 : vp_in (x4 + 2) L := by rw [hx4]; exact ix_in (j := 2) hk hL (by decide)
  have hin3 : vp_in (x4 + 3) L := by rw [hx4]; exact ix_in (j := 3) hk hL (by decide)
  have hin4 : vp_in (x4 + 4) L := by rw [hx4]; exact ix_in (j := 4) hk hL (by decide)
  have hin5 : vp_in (x4 + 5) L := by rw [hx4]; exact ix_in (j := 5) hk hL (by decide)
  refine lv_aload_n hx hb dL_law_893 rfl (lv_at hl 1 rfl) ?_
  refine lv_aload_n hx hb dL_law_894 rfl (lv_at hl 0 rfl) ?_
  refine lv_iload hx hb dL_law_895 (lv_at hl 4 rfl) ?_
  refine lv_iconst (v := 1) hx hb dL_law_897 (by decide) ?_
  refine lv_iadd hx hb dL_law_898 ?_
  refine va_sld hx hb hX hbl hbA hS hin1 dL_law_899 ?_
  obtain ⟨r, n0, n1, n2, v1, hf, hm, hI⟩ := hst cv T B v (xs (x4 + 1).toNatClampNeg) hI
  refine callGVi (As := [.int (xs (x4 + 1).toNatClampNeg)]) (rest := []) (cs' := [cX11 cy (u 0) (u 1 0) (u 2 0) (u 6 0) (u 8 0) (u 9 0) (u 10 0) (u 11 0) (u 12 0) (u 13 0) (u 14 0) (u 15 0) (u 16 0) (u 17 0) (u 18 0) (u 19 0) (cv 0), [(u 1 0, .inl (cy 0, 700, .inl T))], cX7 cy (u 2) (u 3 0) (u 4 0) (cv 2), cX9 cy (u 3) (cv 3), cX6 cy (u 4) (u 5 0) (cv 4), cX3 cy (u 5) (cv 5), cX6 cy (u 6) (u 7 0) (cv 6), cX3 cy (u 7) n0, cX8 cy (u 8) (cv 8), cX8 cy (u 9) (cv 9), cX8 cy (u 10) n1, cX0 cy (u 11) n2, cX10 cy (u 12) (cv 12), cX10 cy (u 13) (cv 13), cX10 cy (u 14) (cv 14), cX2 cy (u 15) (cv 15), cX5 cy (u 16) (cv 16), cX1 cy (u 17) (cv 17), cX4 cy (u 18) (cv 18), [(u 19 0, .inl (cy 2, 73, .inr (.inl B)))], cX12 cy adm v, [(qo, .inl (cy 2, 1, .inr (.inl o)))]]) (ccs := [cX11 cy (u 0) (u 1 0) (u 2 0) (u 6 0) (u 8 0) (u 9 0) (u 10 0) (u 11 0) (u 12 0) (u 13 0) (u 14 0) (u 15 0) (u 16 0) (u 17 0) (u 18 0) (u 19 0) (cv 0), cX6 cy (u 6) (u 7 0) (cv 6), cX3 cy (u 7) (cv 7), cX8 cy (u 8) (cv 8), cX8 cy (u 10) (cv 10), cX0 cy (u 11) (cv 11), cX10 cy (u 12) (cv 12)]) (ccs' := [cX11 cy (u 0) (u 1 0) (u 2 0) (u 6 0) (u 8 0) (u 9 0) (u 10 0) (u 11 0) (u 12 0) (u 13 0) (u 14 0) (u 15 0) (u 16 0) (u 17 0) (u 18 0) (u 19 0) (cv 0), cX6 cy (u 6) (u 7 0) (cv 6), cX3 cy (u 7) n0, cX8 cy (u 8) (cv 8), cX8 cy (u 10) n1, cX0 cy (u 11) n2, cX10 cy (u 12) (cv 12)]) (isC := [0, 6, 7, 8, 10, 11, 12]) (isR := [1, 2, 3, 4, 5, 9, 13, 14, 15, 16, 17, 18, 19, 20, 21]) hx hb hml hown hts (k_X11_empties l G cy ev N (u 0) (u 1 0) (u 2 0) (u 9 0) (u 13 0) (u 14 0) (u 15 0) (u 16 0) (u 17 0) (u 18 0) (u 19 0) (cv 0) (u 6) (cv 6) (u 7) (cv 7) (u 8) (cv 8) (u 10) (cv 10) (u 11) (cv 11) (u 12) (cv 12) (xs (x4 + 1).toNatClampNeg) (r, n0, n1, n2) hf) wm_44_23 wm_45_0 wm_45_1 wm_1_2 wm_45_2 hd_X11_empties ⟨by decide, by decide⟩ rfl rfl (by show _ ≤ 601024; omega) (by show _ ≤ 7293034; omega) hK hP hD hS hA hE rfl rfl rfl (cov_of (n := 22) rfl (by decide)) (by decide) rfl (recvW (ci := 0) hK hP rfl cX11_o rfl) rfl rfl hl.1 (Nat.le_of_ble_eq_true rfl) dL_law_900 (fun H locs hP hD hS => ?_)
  refine lv_aload_n hx hb dL_law_903 rfl (lv_at hl 2 rfl) ?_
  refine lv_aload_n hx hb dL_law_904 rfl (lv_at hl 0 rfl) ?_
  refine lv_iload hx hb dL_law_905 (lv_at hl 4 rfl) ?_
  refine lv_iconst (v := 1) hx hb dL_law_907 (by decide) ?_
  refine lv_iadd hx hb dL_law_908 ?_
  refine va_sld hx hb hX hbl hbA hS hin1 dL_law_909 ?_
  refine callGVi (As := [.int (xs (x4 + 1).toNatClampNeg)]) (rest := [.int r]) (cs' := [cX11 cy (u 0) (u 1 0) (u 2 0) (u 6 0) (u 8 0) (u 9 0) (u 10 0) (u 11 0) (u 12 0) (u 13 0) (u 14 0) (u 15 0) (u 16 0) (u 17 0) (u 18 0) (u 19 0) (cv 0), [(u 1 0, .inl (cy 0, 700, .inl T))], cX7 cy (u 2) (u 3 0) (u 4 0) (cv 2), cX9 cy (u 3) (cv 3), cX6 cy (u 4) (u 5 0) (cv 4), cX3 cy (u 5) (cv 5), cX6 cy (u 6) (u 7 0) (cv 6), cX3 cy (u 7) n0, cX8 cy (u 8) (cv 8), cX8 cy (u 9) (cv 9), cX8 cy (u 10) n1, cX0 cy (u 11) n2, cX10 cy (u 12) (cv 12), cX10 cy (u 13) (cv 13), cX10 cy (u 14) (cv 14), cX2 cy (u 15) (cv 15), cX5 cy (u 16) (cv 16), cX1 cy (u 17) (cv 17), cX4 cy (u 18) (cv 18), [(u 19 0, .inl (cy 2, 73, .inr (.inl B)))], cX12 cy adm v1, [(qo, .inl (cy 2, 1, .inr (.inl o)))]]) (ccs := [cX12 cy adm v]) (ccs' := [cX12 cy adm v1]) (isC := [20]) (isR := [0, 1, 2, 3, 4, 5, 6, 7, 8, 9, 10, 11, 12, 13, 14, 15, 16, 17, 18, 19, 21]) hx hb hml hown hts (k_X12_empties l G cy ev N adm v (xs (x4 + 1).toNatClampNeg) (r, v1) hm) wm_45_3 wm_45_4 wm_45_5 wm_1_5 wm_45_6 hd_X12_empties ⟨by decide, by decide⟩ wj_one.symm wj_one.symm (by show _ ≤ 601024; omega) (by show _ ≤ 7293034; omega) hK hP hD hS hA hE rfl rfl rfl (cov_of (n := 22) rfl (by decide)) (by decide) rfl (recvW (ci := 20) hK hP rfl (show (cX12 cy adm v)[0]? = some (adm 0, _) from rfl) rfl) rfl rfl hl.1 (Nat.le_of_ble_eq_true rfl) dL_law_910 (fun H locs hP hD hS => ?_)
  refine lv_icmp_eq (tgt := 1493) hx hb dL_law_913 (by decide) (fun _ => ?_) (fun c9 => absurd rfl c9)
  obtain ⟨x5, e5⟩ : ∃ y : Int32, y = x4 + 6 := ⟨_, rfl⟩
  refine lv_iinc (v := x5) (lv' := [(4, .int x5), (0, .ref b), (1, .ref (u 0 0)), (2, .ref (adm 0)), (3, .ref qo)]) hx hb dL_law_1493 hl (k := 4) rfl (by rw [e5]; rfl) (by decide) rfl (fun ls hl => ?_)
  refine lv_goto (tgt := 23) hx hb dL_law_1496 (by decide) ?_
  refine W.widen (k := 170 + (k + 1)) (n := 6921 + 6 * (k + 1)) (by omega) (by omega) ?_
  exact ih (u) adm qo (uc (uc (uc cv 7 n0) 10 n1) 11 n2) T B v1 o x5 _ _ ls (by rw [e5, hx4]; exact (nI_add (6 * k) 6).trans (by rw [Nat.mul_succ])) hI hP hD hS (lv_sub hl [1, 2, 3, 4, 0] rfl)
set_option maxHeartbeats 4000000 in
set_option maxRecDepth 100000 in
theorem law_likes {p : Program} {l : Launch} {e : Env} {s : State} {m : MethodId} {below : List Frame} {meth : Method} {cd : Code} {b L : Nat} {xs : Nat → Int32} {N : Nat} {INV : (Nat → VV) → (Nat → Int32) → (Nat → Int64) → VV → Prop} {G : va_G} {cy : Nat → ClassId} {ev : Nat → Nat} (hst : ST_likes N INV) (C : LCX p s m meth cd b L xs G cy ev) (k : Nat) (hk : 6 * k + 6 ≤ L) (ih : LOOPS p l e s m below meth cd b L INV G cy (k + 1)) (u : Nat → Nat → Nat) (adm : Nat → Nat) (qo : Nat) (cv : Nat → VV) (T : Nat → Int32) (B : Nat → Int64) (v : VV) (o : Nat → Int64) (x4 : Int32) (H : Heap) (locs : List Loc) (ls : Array Slot) (hx4 : x4 = nI (6 * k)) (hI : INV cv T B v) (hP : va_P G vwCl (wj (W22 cy u adm qo cv T B v o)) H) (hD : va_D (fun q => s.heap.size ≤ q) (wj (W22 cy u adm qo cv T B v o))) (hS : va_S (fun q => s.heap.size ≤ q) s.heap H locs) (hl : lv_has ls 7 [(0, .ref b), (1, .ref (u 0 0)), (2, .ref (adm 0)), (3, .ref qo), (4, .int x4)]) : W p l e room_1 s m #[Value.ref b] below meth cd H locs (170 + k) (6921 + 6 * k) (lw_Z below #[Value.ref b] s) (F0 m 918 ls []) := by
  obtain ⟨hx, hb, hml, hown, hts, hK, hE, hX, hbl, hL⟩ := C
  have hA : ∀ q : Nat, s.heap.size ≤ q → (fun q : Nat => s.heap.size ≤ q) q := fun _ h => h
  have hbA : ¬ (fun q : Nat => s.heap.size ≤ q) b := Nat.not_le.mpr hbl
  have hin1 : vp_in (x4 + 1) L := by rw [hx4]; exact ix_in (j := 1) hk hL (by decide)
  have hin2 : vp_in (x4 + 2) L := by rw [hx4]; exact ix_in (j := 2) hk hL (by decide)
  have hin3 : vp_in (x4 + 3) L := by rw [hx4]; exact ix_in (j := 3) hk hL (by decide)
  have hin4 : vp_in (x4 + 4) L := by rw [hx4]; exact ix_in (j := 4) hk hL (by decide)
  have hin5 : vp_in (x4 + 5) L := by rw [hx4]; exact ix_in (j := 5) hk hL (by decide)
  refine lv_aload_n hx hb dL_law_918 rfl (lv_at hl 1 rfl) ?_
  refine lv_aload_n hx hb dL_law_919 rfl (lv_at hl 0 rfl) ?_
  refine lv_iload hx hb dL_law_920 (lv_at hl 4 rfl) ?_
  refine lv_iconst (v := 1) hx hb dL_law_922 (by decide) ?_
  refine lv_iadd hx hb dL_law_923 ?_
  refine va_sld hx hb hX hbl hbA hS hin1 dL_law_924 ?_
  refine lv_aload_n hx hb dL_law_925 rfl (lv_at hl 0 rfl) ?_
  refine lv_iload hx hb dL_law_926 (lv_at hl 4 rfl) ?_
  refine lv_iconst (v := 2) hx hb dL_law_928 (by decide) ?_
  refine lv_iadd hx hb dL_law_929 ?_
  refine va_sld hx hb hX hbl hbA hS hin2 dL_law_930 ?_
  obtain ⟨r, n0, v1, hf, hm, hI⟩ := hst cv T B v (xs (x4 + 1).toNatClampNeg) (xs (x4 + 2).toNatClampNeg) hI
  refine callGVi (As := [.int (xs (x4 + 1).toNatClampNeg), .int (xs (x4 + 2).toNatClampNeg)]) (rest := []) (cs' := [cX11 cy (u 0) (u 1 0) (u 2 0) (u 6 0) (u 8 0) (u 9 0) (u 10 0) (u 11 0) (u 12 0) (u 13 0) (u 14 0) (u 15 0) (u 16 0) (u 17 0) (u 18 0) (u 19 0) (cv 0), [(u 1 0, .inl (cy 0, 700, .inl T))], cX7 cy (u 2) (u 3 0) (u 4 0) (cv 2), cX9 cy (u 3) (cv 3), cX6 cy (u 4) (u 5 0) (cv 4), cX3 cy (u 5) (cv 5), cX6 cy (u 6) (u 7 0) (cv 6), cX3 cy (u 7) n0, cX8 cy (u 8) (cv 8), cX8 cy (u 9) (cv 9), cX8 cy (u 10) (cv 10), cX0 cy (u 11) (cv 11), cX10 cy (u 12) (cv 12), cX10 cy (u 13) (cv 13), cX10 cy (u 14) (cv 14), cX2 cy (u 15) (cv 15), cX5 cy (u 16) (cv 16), cX1 cy (u 17) (cv 17), cX4 cy (u 18) (cv 18), [(u 19 0, .inl (cy 2, 73, .inr (.inl B)))], cX12 cy adm v, [(qo, .inl (cy 2, 1, .inr (.inl o)))]]) (ccs := [cX11 cy (u 0) (u 1 0) (u 2 0) (u 6 0) (u 8 0) (u 9 0) (u 10 0) (u 11 0) (u 12 0) (u 13 0) (u 14 0) (u 15 0) (u 16 0) (u 17 0) (u 18 0) (u 19 0) (cv 0), cX6 cy (u 6) (u 7 0) (cv 6), cX3 cy (u 7) (cv 7), cX8 cy (u 8) (cv 8), cX10 cy (u 12) (cv 12)]) (ccs' := [cX11 cy (u 0) (u 1 0) (u 2 0) (u 6 0) (u 8 0) (u 9 0) (u 10 0) (u 11 0) (u 12 0) (u 13 0) (u 14 0) (u 15 0) (u 16 0) (u 17 0) (u 18 0) (u 19 0) (cv 0), cX6 cy (u 6) (u 7 0) (cv 6), cX3 cy (u 7) n0, cX8 cy (u 8) (cv 8), cX10 cy (u 12) (cv 12)]) (isC := [0, 6, 7, 8, 12]) (isR := [1, 2, 3, 4, 5, 9, 10, 11, 13, 14, 15, 16, 17, 18, 19, 20, 21]) hx hb hml hown hts (k_X11_likes l G cy ev N (u 0) (u 1 0) (u 2 0) (u 9 0) (u 10 0) (u 11 0) (u 13 0) (u 14 0) (u 15 0) (u 16 0) (u 17 0) (u 18 0) (u 19 0) (cv 0) (u 6) (cv 6) (u 7) (cv 7) (u 8) (cv 8) (u 12) (cv 12) (xs (x4 + 1).toNatClampNeg) (xs (x4 + 2).toNatClampNeg) (r, n0) hf) wm_45_7 wm_45_8 wm_45_9 wm_1_2 wm_45_10 hd_X11_likes ⟨by decide, by decide⟩ rfl rfl (by show _ ≤ 601024; omega) (by show _ ≤ 7293034; omega) hK hP hD hS hA hE rfl rfl rfl (cov_of (n := 22) rfl (by decide)) (by decide) rfl (recvW (ci := 0) hK hP rfl cX11_o rfl) rfl rfl hl.1 (Nat.le_of_ble_eq_true rfl) dL_law_931 (fun H locs hP hD hS => ?_)
  refine lv_aload_n hx hb dL_law_934 rfl (lv_at hl 2 rfl) ?_
  refine lv_aload_n hx hb dL_law_935 rfl (lv_at hl 0 rfl) ?_
  refine lv_iload hx hb dL_law_936 (lv_at hl 4 rfl) ?_
  refine lv_iconst (v := 1) hx hb dL_law_938 (by decide) ?_
  refine lv_iadd hx hb dL_law_939 ?_
  refine va_sld hx hb hX hbl hbA hS hin1 dL_law_940 ?_
  refine lv_aload_n hx hb dL_law_941 rfl (lv_at hl 0 rfl) ?_
  refine lv_iload hx hb dL_law_942 (lv_at hl 4 rfl) ?_
  refine lv_iconst (v := 2) hx hb dL_law_944 (by decide) ?_
  refine lv_iadd hx hb dL_law_945 ?_
  refine va_sld hx hb hX hbl hbA hS hin2 dL_law_946 ?_
  refine callGVi (As := [.int (xs (x4 + 1).toNatClampNeg), .int (xs (x4 + 2).toNatClampNeg)]) (rest := [.int r]) (cs' := [cX11 cy (u 0) (u 1 0) (u 2 0) (u 6 0) (u 8 0) (u 9 0) (u 10 0) (u 11 0) (u 12 0) (u 13 0) (u 14 0) (u 15 0) (u 16 0) (u 17 0) (u 18 0) (u 19 0) (cv 0), [(u 1 0, .inl (cy 0, 700, .inl T))], cX7 cy (u 2) (u 3 0) (u 4 0) (cv 2), cX9 cy (u 3) (cv 3), cX6 cy (u 4) (u 5 0) (cv 4), cX3 cy (u 5) (cv 5), cX6 cy (u 6) (u 7 0) (cv 6), cX3 cy (u 7) n0, cX8 cy (u 8) (cv 8), cX8 cy (u 9) (cv 9), cX8 cy (u 10) (cv 10), cX0 cy (u 11) (cv 11), cX10 cy (u 12) (cv 12), cX10 cy (u 13) (cv 13), cX10 cy (u 14) (cv 14), cX2 cy (u 15) (cv 15), cX5 cy (u 16) (cv 16), cX1 cy (u 17) (cv 17), cX4 cy (u 18) (cv 18), [(u 19 0, .inl (cy 2, 73, .inr (.inl B)))], cX12 cy adm v1, [(qo, .inl (cy 2, 1, .inr (.inl o)))]]) (ccs := [cX12 cy adm v]) (ccs' := [cX12 cy adm v1]) (isC := [20]) (isR := [0, 1, 2, 3, 4, 5, 6, 7, 8, 9, 10, 11, 12, 13, 14, 15, 16, 17, 18, 19, 21]) hx hb hml hown hts (k_X12_likes l G cy ev N adm v (xs (x4 + 1).toNatClampNeg) (xs (x4 + 2).toNatClampNeg) (r, v1) hm) wm_45_11 wm_45_12 wm_45_13 wm_1_5 wm_45_14 hd_X12_likes ⟨by decide, by decide⟩ wj_one.symm wj_one.symm (by show _ ≤ 601024; omega) (by show _ ≤ 7293034; omega) hK hP hD hS hA hE rfl rfl rfl (cov_of (n := 22) rfl (by decide)) (by decide) rfl (recvW (ci := 20) hK hP rfl (show (cX12 cy adm v)[0]? = some (adm 0, _) from rfl) rfl) rfl rfl hl.1 (Nat.le_of_ble_eq_true rfl) dL_law_947 (fun H locs hP hD hS => ?_)
  refine lv_icmp_eq (tgt := 1493) hx hb dL_law_950 (by decide) (fun _ => ?_) (fun c9 => absurd rfl c9)
  obtain ⟨x5, e5⟩ : ∃ y : Int32, y = x4 + 6 := ⟨_, rfl⟩
  refine lv_iinc (v := x5) (lv' := [(4, .int x5), (0, .ref b), (1, .ref (u 0 0)), (2, .ref (adm 0)), (3, .ref qo)]) hx hb dL_law_1493 hl (k := 4) rfl (by rw [e5]; rfl) (by decide) rfl (fun ls hl => ?_)
  refine lv_goto (tgt := 23) hx hb dL_law_1496 (by decide) ?_
  refine W.widen (k := 170 + (k + 1)) (n := 6921 + 6 * (k + 1)) (by omega) (by omega) ?_
  exact ih (u) adm qo (uc cv 7 n0) T B v1 o x5 _ _ ls (by rw [e5, hx4]; exact (nI_add (6 * k) 6).trans (by rw [Nat.mul_succ])) hI hP hD hS (lv_sub hl [1, 2, 3, 4, 0] rfl)
set_option maxHeartbeats 4000000 in
set_option maxRecDepth 100000 in
theorem law_stays {p : Program} {l : Launch} {e : Env} {s : State} {m : MethodId} {below : List Frame} {meth : Method} {cd : Code} {b L : Nat} {xs : Nat → Int32} {N : Nat} {INV : (Nat → VV) → (Nat → Int32) → (Nat → Int64) → VV → Prop} {G : va_G} {cy : Nat → ClassId} {ev : Nat → Nat} (hst : ST_stays N INV) (C : LCX p s m meth cd b L xs G cy ev) (k : Nat) (hk : 6 * k + 6 ≤ L) (ih : LOOPS p l e s m below meth cd b L INV G cy (k + 1)) (u : Nat → Nat → Nat) (adm : Nat → Nat) (qo : Nat) (cv : Nat → VV) (T : Nat → Int32) (B : Nat → Int64) (v : VV) (o : Nat → Int64) (x4 : Int32) (H : Heap) (locs : List Loc) (ls : Array Slot) (hx4 : x4 = nI (6 * k)) (hI : INV cv T B v) (hP : va_P G vwCl (wj (W22 cy u adm qo cv T B v o)) H) (hD : va_D (fun q => s.heap.size ≤ q) (wj (W22 cy u adm qo cv T B v o))) (hS : va_S (fun q => s.heap.size ≤ q) s.heap H locs) (hl : lv_has ls 7 [(0, .ref b), (1, .ref (u 0 0)), (2, .ref (adm 0)), (3, .ref qo), (4, .int x4)]) : W p l e room_1 s m #[Value.ref b] below meth cd H locs (170 + k) (6921 + 6 * k) (lw_Z below #[Value.ref b] s) (F0 m 955 ls []) := by
  obtain ⟨hx, hb, hml, hown, hts, hK, hE, hX, hbl, hL⟩ := C
  have hA : ∀ q : Nat, s.heap.size ≤ q → (fun q : Nat => s.heap.size ≤ q) q := fun _ h => h
  have hbA : ¬ (fun q : Nat => s.heap.size ≤ q) b := Nat.not_le.mpr hbl
  have hin1 : vp_in (x4 + 1) L := by rw [hx4]; exact ix_in (j := 1) hk hL (by decide)
  have hin2 : vp_in (x4 + 2) L := by rw [hx4]; exact ix_in (j := 2) hk hL (by decide)
  have hin3 : vp_in (x4 + 3) L := by rw [hx4]; exact ix_in (j := 3) hk hL (by decide)
  have hin4 : vp_in (x4 + 4) L := by rw [hx4]; exact ix_in (j := 4) hk hL (by decide)
  have hin5 : vp_in (x4 + 5) L := by rw [hx4]; exact ix_in (j := 5) hk hL (by decide)
  refine lv_aload_n hx hb dL_law_955 rfl (lv_at hl 1 rfl) ?_
  refine lv_aload_n hx hb dL_law_956 rfl (lv_at hl 0 rfl) ?_
  refine lv_iload hx hb dL_law_957 (lv_at hl 4 rfl) ?_
  refine lv_iconst (v := 1) hx hb dL_law_959 (by decide) ?_
  refine lv_iadd hx hb dL_law_960 ?_
  refine va_sld hx hb hX hbl hbA hS hin1 dL_law_961 ?_
  refine lv_aload_n hx hb dL_law_962 rfl (lv_at hl 0 rfl) ?_
  refine lv_iload hx hb dL_law_963 (lv_at hl 4 rfl) ?_
  refine lv_iconst (v := 2) hx hb dL_law_965 (by decide) ?_
  refine lv_iadd hx hb dL_law_966 ?_
  refine va_sld hx hb hX hbl hbA hS hin2 dL_law_967 ?_
  obtain ⟨r, n0, v1, hf, hm, hI⟩ := hst cv T B v (xs (x4 + 1).toNatClampNeg) (xs (x4 + 2).toNatClampNeg) hI
  refine callGVi (As := [.int (xs (x4 + 1).toNatClampNeg), .int (xs (x4 + 2).toNatClampNeg)]) (rest := []) (cs' := [cX11 cy (u 0) (u 1 0) (u 2 0) (u 6 0) (u 8 0) (u 9 0) (u 10 0) (u 11 0) (u 12 0) (u 13 0) (u 14 0) (u 15 0) (u 16 0) (u 17 0) (u 18 0) (u 19 0) (cv 0), [(u 1 0, .inl (cy 0, 700, .inl T))], cX7 cy (u 2) (u 3 0) (u 4 0) (cv 2), cX9 cy (u 3) (cv 3), cX6 cy (u 4) (u 5 0) (cv 4), cX3 cy (u 5) (cv 5), cX6 cy (u 6) (u 7 0) (cv 6), cX3 cy (u 7) n0, cX8 cy (u 8) (cv 8), cX8 cy (u 9) (cv 9), cX8 cy (u 10) (cv 10), cX0 cy (u 11) (cv 11), cX10 cy (u 12) (cv 12), cX10 cy (u 13) (cv 13), cX10 cy (u 14) (cv 14), cX2 cy (u 15) (cv 15), cX5 cy (u 16) (cv 16), cX1 cy (u 17) (cv 17), cX4 cy (u 18) (cv 18), [(u 19 0, .inl (cy 2, 73, .inr (.inl B)))], cX12 cy adm v, [(qo, .inl (cy 2, 1, .inr (.inl o)))]]) (ccs := [cX11 cy (u 0) (u 1 0) (u 2 0) (u 6 0) (u 8 0) (u 9 0) (u 10 0) (u 11 0) (u 12 0) (u 13 0) (u 14 0) (u 15 0) (u 16 0) (u 17 0) (u 18 0) (u 19 0) (cv 0), cX6 cy (u 6) (u 7 0) (cv 6), cX3 cy (u 7) (cv 7), cX8 cy (u 8) (cv 8), cX10 cy (u 12) (cv 12)]) (ccs' := [cX11 cy (u 0) (u 1 0) (u 2 0) (u 6 0) (u 8 0) (u 9 0) (u 10 0) (u 11 0) (u 12 0) (u 13 0) (u 14 0) (u 15 0) (u 16 0) (u 17 0) (u 18 0) (u 19 0) (cv 0), cX6 cy (u 6) (u 7 0) (cv 6), cX3 cy (u 7) n0, cX8 cy (u 8) (cv 8), cX10 cy (u 12) (cv 12)]) (isC := [0, 6, 7, 8, 12]) (isR := [1, 2, 3, 4, 5, 9, 10, 11, 13, 14, 15, 16, 17, 18, 19, 20, 21]) hx hb hml hown hts (k_X11_stays l G cy ev N (u 0) (u 1 0) (u 2 0) (u 9 0) (u 10 0) (u 11 0) (u 13 0) (u 14 0) (u 15 0) (u 16 0) (u 17 0) (u 18 0) (u 19 0) (cv 0) (u 6) (cv 6) (u 7) (cv 7) (u 8) (cv 8) (u 12) (cv 12) (xs (x4 + 1).toNatClampNeg) (xs (x4 + 2).toNatClampNeg) (r, n0) hf) wm_45_15 wm_45_16 wm_45_17 wm_1_2 wm_45_18 hd_X11_stays ⟨by decide, by decide⟩ rfl rfl (by show _ ≤ 601024; omega) (by show _ ≤ 7293034; omega) hK hP hD hS hA hE rfl rfl rfl (cov_of (n := 22) rfl (by decide)) (by decide) rfl (recvW (ci := 0) hK hP rfl cX11_o rfl) rfl rfl hl.1 (Nat.le_of_ble_eq_true rfl) dL_law_968 (fun H locs hP hD hS => ?_)
  refine lv_aload_n hx hb dL_law_971 rfl (lv_at hl 2 rfl) ?_
  refine lv_aload_n hx hb dL_law_972 rfl (lv_at hl 0 rfl) ?_
  refine lv_iload hx hb dL_law_973 (lv_at hl 4 rfl) ?_
  refine lv_iconst (v := 1) hx hb dL_law_975 (by decide) ?_
  refine lv_iadd hx hb dL_law_976 ?_
  refine va_sld hx hb hX hbl hbA hS hin1 dL_law_977 ?_
  refine lv_aload_n hx hb dL_law_978 rfl (lv_at hl 0 rfl) ?_
  refine lv_iload hx hb dL_law_979 (lv_at hl 4 rfl) ?_
  refine lv_iconst (v := 2) hx hb dL_law_981 (by decide) ?_
  refine lv_iadd hx hb dL_law_982 ?_
  refine va_sld hx hb hX hbl hbA hS hin2 dL_law_983 ?_
  refine callGVi (As := [.int (xs (x4 + 1).toNatClampNeg), .int (xs (x4 + 2).toNatClampNeg)]) (rest := [.int r]) (cs' := [cX11 cy (u 0) (u 1 0) (u 2 0) (u 6 0) (u 8 0) (u 9 0) (u 10 0) (u 11 0) (u 12 0) (u 13 0) (u 14 0) (u 15 0) (u 16 0) (u 17 0) (u 18 0) (u 19 0) (cv 0), [(u 1 0, .inl (cy 0, 700, .inl T))], cX7 cy (u 2) (u 3 0) (u 4 0) (cv 2), cX9 cy (u 3) (cv 3), cX6 cy (u 4) (u 5 0) (cv 4), cX3 cy (u 5) (cv 5), cX6 cy (u 6) (u 7 0) (cv 6), cX3 cy (u 7) n0, cX8 cy (u 8) (cv 8), cX8 cy (u 9) (cv 9), cX8 cy (u 10) (cv 10), cX0 cy (u 11) (cv 11), cX10 cy (u 12) (cv 12), cX10 cy (u 13) (cv 13), cX10 cy (u 14) (cv 14), cX2 cy (u 15) (cv 15), cX5 cy (u 16) (cv 16), cX1 cy (u 17) (cv 17), cX4 cy (u 18) (cv 18), [(u 19 0, .inl (cy 2, 73, .inr (.inl B)))], cX12 cy adm v1, [(qo, .inl (cy 2, 1, .inr (.inl o)))]]) (ccs := [cX12 cy adm v]) (ccs' := [cX12 cy adm v1]) (isC := [20]) (isR := [0, 1, 2, 3, 4, 5, 6, 7, 8, 9, 10, 11, 12, 13, 14, 15, 16, 17, 18, 19, 21]) hx hb hml hown hts (k_X12_stays l G cy ev N adm v (xs (x4 + 1).toNatClampNeg) (xs (x4 + 2).toNatClampNeg) (r, v1) hm) wm_45_19 wm_45_20 wm_45_21 wm_1_5 wm_45_22 hd_X12_stays ⟨by decide, by decide⟩ wj_one.symm wj_one.symm (by show _ ≤ 601024; omega) (by show _ ≤ 7293034; omega) hK hP hD hS hA hE rfl rfl rfl (cov_of (n := 22) rfl (by decide)) (by decide) rfl (recvW (ci := 20) hK hP rfl (show (cX12 cy adm v)[0]? = some (adm 0, _) from rfl) rfl) rfl rfl hl.1 (Nat.le_of_ble_eq_true rfl) dL_law_984 (fun H locs hP hD hS => ?_)
  refine lv_icmp_eq (tgt := 1493) hx hb dL_law_987 (by decide) (fun _ => ?_) (fun c9 => absurd rfl c9)
  obtain ⟨x5, e5⟩ : ∃ y : Int32, y = x4 + 6 := ⟨_, rfl⟩
  refine lv_iinc (v := x5) (lv' := [(4, .int x5), (0, .ref b), (1, .ref (u 0 0)), (2, .ref (adm 0)), (3, .ref qo)]) hx hb dL_law_1493 hl (k := 4) rfl (by rw [e5]; rfl) (by decide) rfl (fun ls hl => ?_)
  refine lv_goto (tgt := 23) hx hb dL_law_1496 (by decide) ?_
  refine W.widen (k := 170 + (k + 1)) (n := 6921 + 6 * (k + 1)) (by omega) (by omega) ?_
  exact ih (u) adm qo (uc cv 7 n0) T B v1 o x5 _ _ ls (by rw [e5, hx4]; exact (nI_add (6 * k) 6).trans (by rw [Nat.mul_succ])) hI hP hD hS (lv_sub hl [1, 2, 3, 4, 0] rfl)
set_option maxHeartbeats 4000000 in
set_option maxRecDepth 100000 in
theorem law_misses {p : Program} {l : Launch} {e : Env} {s : State} {m : MethodId} {below : List Frame} {meth : Method} {cd : Code} {b L : Nat} {xs : Nat → Int32} {N : Nat} {INV : (Nat → VV) → (Nat → Int32) → (Nat → Int64) → VV → Prop} {G : va_G} {cy : Nat → ClassId} {ev : Nat → Nat} (hst : ST_misses N INV) (C : LCX p s m meth cd b L xs G cy ev) (k : Nat) (hk : 6 * k + 6 ≤ L) (ih : LOOPS p l e s m below meth cd b L INV G cy (k + 1)) (u : Nat → Nat → Nat) (adm : Nat → Nat) (qo : Nat) (cv : Nat → VV) (T : Nat → Int32) (B : Nat → Int64) (v : VV) (o : Nat → Int64) (x4 : Int32) (H : Heap) (locs : List Loc) (ls : Array Slot) (hx4 : x4 = nI (6 * k)) (hI : INV cv T B v) (hP : va_P G vwCl (wj (W22 cy u adm qo cv T B v o)) H) (hD : va_D (fun q => s.heap.size ≤ q) (wj (W22 cy u adm qo cv T B v o))) (hS : va_S (fun q => s.heap.size ≤ q) s.heap H locs) (hl : lv_has ls 7 [(0, .ref b), (1, .ref (u 0 0)), (2, .ref (adm 0)), (3, .ref qo), (4, .int x4)]) : W p l e room_1 s m #[Value.ref b] below meth cd H locs (170 + k) (6921 + 6 * k) (lw_Z below #[Value.ref b] s) (F0 m 992 ls []) := by
  obtain ⟨hx, hb, hml, hown, hts, hK, hE, hX, hbl, hL⟩ := C
  have hA : ∀ q : Nat, s.heap.size ≤ q → (fun q : Nat => s.heap.size ≤ q) q := fun _ h => h
  have hbA : ¬ (fun q : Nat => s.heap.size ≤ q) b := Nat.not_le.mpr hbl
  have hin1 : vp_in (x4 + 1) L := by rw [hx4]; exact ix_in (j := 1) hk hL (by decide)
  have hin2 : vp_in (x4 + 2) L := by rw [hx4]; exact ix_in (j := 2) hk hL (by decide)
  have hin3 : vp_in (x4 + 3) L := by rw [hx4]; exact ix_in (j := 3) hk hL (by decide)
  have hin4 : vp_in (x4 + 4) L := by rw [hx4]; exact ix_in (j := 4) hk hL (by decide)
  have hin5 : vp_in (x4 + 5) L := by rw [hx4]; exact ix_in (j := 5) hk hL (by decide)
  refine lv_aload_n hx hb dL_law_992 rfl (lv_at hl 1 rfl) ?_
  refine lv_aload_n hx hb dL_law_993 rfl (lv_at hl 0 rfl) ?_
  refine lv_iload hx hb dL_law_994 (lv_at hl 4 rfl) ?_
  refine lv_iconst (v := 1) hx hb dL_law_996 (by decide) ?_
  refine lv_iadd hx hb dL_law_997 ?_
  refine va_sld hx hb hX hbl hbA hS hin1 dL_law_998 ?_
  refine lv_aload_n hx hb dL_law_999 rfl (lv_at hl 0 rfl) ?_
  refine lv_iload hx hb dL_law_1000 (lv_at hl 4 rfl) ?_
  refine lv_iconst (v := 2) hx hb dL_law_1002 (by decide) ?_
  refine lv_iadd hx hb dL_law_1003 ?_
  refine va_sld hx hb hX hbl hbA hS hin2 dL_law_1004 ?_
  obtain ⟨r, n0, v1, hf, hm, hI⟩ := hst cv T B v (xs (x4 + 1).toNatClampNeg) (xs (x4 + 2).toNatClampNeg) hI
  refine callGVi (As := [.int (xs (x4 + 1).toNatClampNeg), .int (xs (x4 + 2).toNatClampNeg)]) (rest := []) (cs' := [cX11 cy (u 0) (u 1 0) (u 2 0) (u 6 0) (u 8 0) (u 9 0) (u 10 0) (u 11 0) (u 12 0) (u 13 0) (u 14 0) (u 15 0) (u 16 0) (u 17 0) (u 18 0) (u 19 0) (cv 0), [(u 1 0, .inl (cy 0, 700, .inl T))], cX7 cy (u 2) (u 3 0) (u 4 0) (cv 2), cX9 cy (u 3) (cv 3), cX6 cy (u 4) (u 5 0) (cv 4), cX3 cy (u 5) (cv 5), cX6 cy (u 6) (u 7 0) (cv 6), cX3 cy (u 7) n0, cX8 cy (u 8) (cv 8), cX8 cy (u 9) (cv 9), cX8 cy (u 10) (cv 10), cX0 cy (u 11) (cv 11), cX10 cy (u 12) (cv 12), cX10 cy (u 13) (cv 13), cX10 cy (u 14) (cv 14), cX2 cy (u 15) (cv 15), cX5 cy (u 16) (cv 16), cX1 cy (u 17) (cv 17), cX4 cy (u 18) (cv 18), [(u 19 0, .inl (cy 2, 73, .inr (.inl B)))], cX12 cy adm v, [(qo, .inl (cy 2, 1, .inr (.inl o)))]]) (ccs := [cX11 cy (u 0) (u 1 0) (u 2 0) (u 6 0) (u 8 0) (u 9 0) (u 10 0) (u 11 0) (u 12 0) (u 13 0) (u 14 0) (u 15 0) (u 16 0) (u 17 0) (u 18 0) (u 19 0) (cv 0), cX6 cy (u 6) (u 7 0) (cv 6), cX3 cy (u 7) (cv 7), cX8 cy (u 8) (cv 8), cX10 cy (u 12) (cv 12)]) (ccs' := [cX11 cy (u 0) (u 1 0) (u 2 0) (u 6 0) (u 8 0) (u 9 0) (u 10 0) (u 11 0) (u 12 0) (u 13 0) (u 14 0) (u 15 0) (u 16 0) (u 17 0) (u 18 0) (u 19 0) (cv 0), cX6 cy (u 6) (u 7 0) (cv 6), cX3 cy (u 7) n0, cX8 cy (u 8) (cv 8), cX10 cy (u 12) (cv 12)]) (isC := [0, 6, 7, 8, 12]) (isR := [1, 2, 3, 4, 5, 9, 10, 11, 13, 14, 15, 16, 17, 18, 19, 20, 21]) hx hb hml hown hts (k_X11_misses l G cy ev N (u 0) (u 1 0) (u 2 0) (u 9 0) (u 10 0) (u 11 0) (u 13 0) (u 14 0) (u 15 0) (u 16 0) (u 17 0) (u 18 0) (u 19 0) (cv 0) (u 6) (cv 6) (u 7) (cv 7) (u 8) (cv 8) (u 12) (cv 12) (xs (x4 + 1).toNatClampNeg) (xs (x4 + 2).toNatClampNeg) (r, n0) hf) wm_45_23 wm_46_0 wm_46_1 wm_1_2 wm_46_2 hd_X11_misses ⟨by decide, by decide⟩ rfl rfl (by show _ ≤ 601024; omega) (by show _ ≤ 7293034; omega) hK hP hD hS hA hE rfl rfl rfl (cov_of (n := 22) rfl (by decide)) (by decide) rfl (recvW (ci := 0) hK hP rfl cX11_o rfl) rfl rfl hl.1 (Nat.le_of_ble_eq_true rfl) dL_law_1005 (fun H locs hP hD hS => ?_)
  refine lv_aload_n hx hb dL_law_1008 rfl (lv_at hl 2 rfl) ?_
  refine lv_aload_n hx hb dL_law_1009 rfl (lv_at hl 0 rfl) ?_
  refine lv_iload hx hb dL_law_1010 (lv_at hl 4 rfl) ?_
  refine lv_iconst (v := 1) hx hb dL_law_1012 (by decide) ?_
  refine lv_iadd hx hb dL_law_1013 ?_
  refine va_sld hx hb hX hbl hbA hS hin1 dL_law_1014 ?_
  refine lv_aload_n hx hb dL_law_1015 rfl (lv_at hl 0 rfl) ?_
  refine lv_iload hx hb dL_law_1016 (lv_at hl 4 rfl) ?_
  refine lv_iconst (v := 2) hx hb dL_law_1018 (by decide) ?_
  refine lv_iadd hx hb dL_law_1019 ?_
  refine va_sld hx hb hX hbl hbA hS hin2 dL_law_1020 ?_
  refine callGVi (As := [.int (xs (x4 + 1).toNatClampNeg), .int (xs (x4 + 2).toNatClampNeg)]) (rest := [.int r]) (cs' := [cX11 cy (u 0) (u 1 0) (u 2 0) (u 6 0) (u 8 0) (u 9 0) (u 10 0) (u 11 0) (u 12 0) (u 13 0) (u 14 0) (u 15 0) (u 16 0) (u 17 0) (u 18 0) (u 19 0) (cv 0), [(u 1 0, .inl (cy 0, 700, .inl T))], cX7 cy (u 2) (u 3 0) (u 4 0) (cv 2), cX9 cy (u 3) (cv 3), cX6 cy (u 4) (u 5 0) (cv 4), cX3 cy (u 5) (cv 5), cX6 cy (u 6) (u 7 0) (cv 6), cX3 cy (u 7) n0, cX8 cy (u 8) (cv 8), cX8 cy (u 9) (cv 9), cX8 cy (u 10) (cv 10), cX0 cy (u 11) (cv 11), cX10 cy (u 12) (cv 12), cX10 cy (u 13) (cv 13), cX10 cy (u 14) (cv 14), cX2 cy (u 15) (cv 15), cX5 cy (u 16) (cv 16), cX1 cy (u 17) (cv 17), cX4 cy (u 18) (cv 18), [(u 19 0, .inl (cy 2, 73, .inr (.inl B)))], cX12 cy adm v1, [(qo, .inl (cy 2, 1, .inr (.inl o)))]]) (ccs := [cX12 cy adm v]) (ccs' := [cX12 cy adm v1]) (isC := [20]) (isR := [0, 1, 2, 3, 4, 5, 6, 7, 8, 9, 10, 11, 12, 13, 14, 15, 16, 17, 18, 19, 21]) hx hb hml hown hts (k_X12_misses l G cy ev N adm v (xs (x4 + 1).toNatClampNeg) (xs (x4 + 2).toNatClampNeg) (r, v1) hm) wm_46_3 wm_46_4 wm_46_5 wm_1_5 wm_46_6 hd_X12_misses ⟨by decide, by decide⟩ wj_one.symm wj_one.symm (by show _ ≤ 601024; omega) (by show _ ≤ 7293034; omega) hK hP hD hS hA hE rfl rfl rfl (cov_of (n := 22) rfl (by decide)) (by decide) rfl (recvW (ci := 20) hK hP rfl (show (cX12 cy adm v)[0]? = some (adm 0, _) from rfl) rfl) rfl rfl hl.1 (Nat.le_of_ble_eq_true rfl) dL_law_1021 (fun H locs hP hD hS => ?_)
  refine lv_icmp_eq (tgt := 1493) hx hb dL_law_1024 (by decide) (fun _ => ?_) (fun c9 => absurd rfl c9)
  obtain ⟨x5, e5⟩ : ∃ y : Int32, y = x4 + 6 := ⟨_, rfl⟩
  refine lv_iinc (v := x5) (lv' := [(4, .int x5), (0, .ref b), (1, .ref (u 0 0)), (2, .ref (adm 0)), (3, .ref qo)]) hx hb dL_law_1493 hl (k := 4) rfl (by rw [e5]; rfl) (by decide) rfl (fun ls hl => ?_)
  refine lv_goto (tgt := 23) hx hb dL_law_1496 (by decide) ?_
  refine W.widen (k := 170 + (k + 1)) (n := 6921 + 6 * (k + 1)) (by omega) (by omega) ?_
  exact ih (u) adm qo (uc cv 7 n0) T B v1 o x5 _ _ ls (by rw [e5, hx4]; exact (nI_add (6 * k) 6).trans (by rw [Nat.mul_succ])) hI hP hD hS (lv_sub hl [1, 2, 3, 4, 0] rfl)
set_option maxHeartbeats 4000000 in
set_option maxRecDepth 100000 in
theorem law_mostCross {p : Program} {l : Launch} {e : Env} {s : State} {m : MethodId} {below : List Frame} {meth : Method} {cd : Code} {b L : Nat} {xs : Nat → Int32} {N : Nat} {INV : (Nat → VV) → (Nat → Int32) → (Nat → Int64) → VV → Prop} {G : va_G} {cy : Nat → ClassId} {ev : Nat → Nat} (hst : ST_mostCross N INV) (C : LCX p s m meth cd b L xs G cy ev) (k : Nat) (hk : 6 * k + 6 ≤ L) (ih : LOOPS p l e s m below meth cd b L INV G cy (k + 1)) (u : Nat → Nat → Nat) (adm : Nat → Nat) (qo : Nat) (cv : Nat → VV) (T : Nat → Int32) (B : Nat → Int64) (v : VV) (o : Nat → Int64) (x4 : Int32) (H : Heap) (locs : List Loc) (ls : Array Slot) (hx4 : x4 = nI (6 * k)) (hI : INV cv T B v) (hP : va_P G vwCl (wj (W22 cy u adm qo cv T B v o)) H) (hD : va_D (fun q => s.heap.size ≤ q) (wj (W22 cy u adm qo cv T B v o))) (hS : va_S (fun q => s.heap.size ≤ q) s.heap H locs) (hl : lv_has ls 7 [(0, .ref b), (1, .ref (u 0 0)), (2, .ref (adm 0)), (3, .ref qo), (4, .int x4)]) : W p l e room_1 s m #[Value.ref b] below meth cd H locs (170 + k) (6921 + 6 * k) (lw_Z below #[Value.ref b] s) (F0 m 1029 ls []) := by
  obtain ⟨hx, hb, hml, hown, hts, hK, hE, hX, hbl, hL⟩ := C
  have hA : ∀ q : Nat, s.heap.size ≤ q → (fun q : Nat => s.heap.size ≤ q) q := fun _ h => h
  have hbA : ¬ (fun q : Nat => s.heap.size ≤ q) b := Nat.not_le.mpr hbl
  have hin1 : vp_in (x4 + 1) L := by rw [hx4]; exact ix_in (j := 1) hk hL (by decide)
  have hin2 : vp_in (x4 + 2) L := by rw [hx4]; exact ix_in (j := 2) hk hL (by decide)
  have hin3 : vp_in (x4 + 3) L := by rw [hx4]; exact ix_in (j := 3) hk hL (by decide)
  have hin4 : vp_in (x4 + 4) L := by rw [hx4]; exact ix_in (j := 4) hk hL (by decide)
  have hin5 : vp_in (x4 + 5) L := by rw [hx4]; exact ix_in (j := 5) hk hL (by decide)
  refine lv_aload_n hx hb dL_law_1029 rfl (lv_at hl 1 rfl) ?_
  refine lv_aload_n hx hb dL_law_1030 rfl (lv_at hl 0 rfl) ?_
  refine lv_iload hx hb dL_law_1031 (lv_at hl 4 rfl) ?_
  refine lv_iconst (v := 1) hx hb dL_law_1033 (by decide) ?_
  refine lv_iadd hx hb dL_law_1034 ?_
  refine va_sld hx hb hX hbl hbA hS hin1 dL_law_1035 ?_
  obtain ⟨r, v1, hf, hm, hI⟩ := hst cv T B v (xs (x4 + 1).toNatClampNeg) hI
  refine callGVi (As := [.int (xs (x4 + 1).toNatClampNeg)]) (rest := []) (cs' := [cX11 cy (u 0) (u 1 0) (u 2 0) (u 6 0) (u 8 0) (u 9 0) (u 10 0) (u 11 0) (u 12 0) (u 13 0) (u 14 0) (u 15 0) (u 16 0) (u 17 0) (u 18 0) (u 19 0) (cv 0), [(u 1 0, .inl (cy 0, 700, .inl T))], cX7 cy (u 2) (u 3 0) (u 4 0) (cv 2), cX9 cy (u 3) (cv 3), cX6 cy (u 4) (u 5 0) (cv 4), cX3 cy (u 5) (cv 5), cX6 cy (u 6) (u 7 0) (cv 6), cX3 cy (u 7) (cv 7), cX8 cy (u 8) (cv 8), cX8 cy (u 9) (cv 9), cX8 cy (u 10) (cv 10), cX0 cy (u 11) (cv 11), cX10 cy (u 12) (cv 12), cX10 cy (u 13) (cv 13), cX10 cy (u 14) (cv 14), cX2 cy (u 15) (cv 15), cX5 cy (u 16) (cv 16), cX1 cy (u 17) (cv 17), cX4 cy (u 18) (cv 18), [(u 19 0, .inl (cy 2, 73, .inr (.inl B)))], cX12 cy adm v, [(qo, .inl (cy 2, 1, .inr (.inl o)))]]) (ccs := [cX11 cy (u 0) (u 1 0) (u 2 0) (u 6 0) (u 8 0) (u 9 0) (u 10 0) (u 11 0) (u 12 0) (u 13 0) (u 14 0) (u 15 0) (u 16 0) (u 17 0) (u 18 0) (u 19 0) (cv 0), cX6 cy (u 6) (u 7 0) (cv 6), cX8 cy (u 8) (cv 8)]) (ccs' := [cX11 cy (u 0) (u 1 0) (u 2 0) (u 6 0) (u 8 0) (u 9 0) (u 10 0) (u 11 0) (u 12 0) (u 13 0) (u 14 0) (u 15 0) (u 16 0) (u 17 0) (u 18 0) (u 19 0) (cv 0), cX6 cy (u 6) (u 7 0) (cv 6), cX8 cy (u 8) (cv 8)]) (isC := [0, 6, 8]) (isR := [1, 2, 3, 4, 5, 7, 9, 10, 11, 12, 13, 14, 15, 16, 17, 18, 19, 20, 21]) hx hb hml hown hts (k_X11_mostCross l G cy ev N (u 0) (u 1 0) (u 2 0) (u 9 0) (u 10 0) (u 11 0) (u 12 0) (u 13 0) (u 14 0) (u 15 0) (u 16 0) (u 17 0) (u 18 0) (u 19 0) (cv 0) (u 6) (u 7 0) (cv 6) (u 8) (cv 8) (xs (x4 + 1).toNatClampNeg) r hf) wm_46_7 wm_46_8 wm_46_9 wm_1_2 wm_46_10 hd_X11_mostCross ⟨by decide, by decide⟩ rfl rfl (by show _ ≤ 601024; omega) (by show _ ≤ 7293034; omega) hK hP hD hS hA hE rfl rfl rfl (cov_of (n := 22) rfl (by decide)) (by decide) rfl (recvW (ci := 0) hK hP rfl cX11_o rfl) rfl rfl hl.1 (Nat.le_of_ble_eq_true rfl) dL_law_1036 (fun H locs hP hD hS => ?_)
  refine lv_aload_n hx hb dL_law_1039 rfl (lv_at hl 2 rfl) ?_
  refine lv_aload_n hx hb dL_law_1040 rfl (lv_at hl 0 rfl) ?_
  refine lv_iload hx hb dL_law_1041 (lv_at hl 4 rfl) ?_
  refine lv_iconst (v := 1) hx hb dL_law_1043 (by decide) ?_
  refine lv_iadd hx hb dL_law_1044 ?_
  refine va_sld hx hb hX hbl hbA hS hin1 dL_law_1045 ?_
  refine callGVi (As := [.int (xs (x4 + 1).toNatClampNeg)]) (rest := [.int r]) (cs' := [cX11 cy (u 0) (u 1 0) (u 2 0) (u 6 0) (u 8 0) (u 9 0) (u 10 0) (u 11 0) (u 12 0) (u 13 0) (u 14 0) (u 15 0) (u 16 0) (u 17 0) (u 18 0) (u 19 0) (cv 0), [(u 1 0, .inl (cy 0, 700, .inl T))], cX7 cy (u 2) (u 3 0) (u 4 0) (cv 2), cX9 cy (u 3) (cv 3), cX6 cy (u 4) (u 5 0) (cv 4), cX3 cy (u 5) (cv 5), cX6 cy (u 6) (u 7 0) (cv 6), cX3 cy (u 7) (cv 7), cX8 cy (u 8) (cv 8), cX8 cy (u 9) (cv 9), cX8 cy (u 10) (cv 10), cX0 cy (u 11) (cv 11), cX10 cy (u 12) (cv 12), cX10 cy (u 13) (cv 13), cX10 cy (u 14) (cv 14), cX2 cy (u 15) (cv 15), cX5 cy (u 16) (cv 16), cX1 cy (u 17) (cv 17), cX4 cy (u 18) (cv 18), [(u 19 0, .inl (cy 2, 73, .inr (.inl B)))], cX12 cy adm v1, [(qo, .inl (cy 2, 1, .inr (.inl o)))]]) (ccs := [cX12 cy adm v]) (ccs' := [cX12 cy adm v1]) (isC := [20]) (isR := [0, 1, 2, 3, 4, 5, 6, 7, 8, 9, 10, 11, 12, 13, 14, 15, 16, 17, 18, 19, 21]) hx hb hml hown hts (k_X12_mostCross l G cy ev N adm v (xs (x4 + 1).toNatClampNeg) (r, v1) hm) wm_46_11 wm_46_12 wm_46_13 wm_1_5 wm_46_14 hd_X12_mostCross ⟨by decide, by decide⟩ wj_one.symm wj_one.symm (by show _ ≤ 601024; omega) (by show _ ≤ 7293034; omega) hK hP hD hS hA hE rfl rfl rfl (cov_of (n := 22) rfl (by decide)) (by decide) rfl (recvW (ci := 20) hK hP rfl (show (cX12 cy adm v)[0]? = some (adm 0, _) from rfl) rfl) rfl rfl hl.1 (Nat.le_of_ble_eq_true rfl) dL_law_1046 (fun H locs hP hD hS => ?_)
  refine lv_icmp_eq (tgt := 1493) hx hb dL_law_1049 (by decide) (fun _ => ?_) (fun c9 => absurd rfl c9)
  obtain ⟨x5, e5⟩ : ∃ y : Int32, y = x4 + 6 := ⟨_, rfl⟩
  refine lv_iinc (v := x5) (lv' := [(4, .int x5), (0, .ref b), (1, .ref (u 0 0)), (2, .ref (adm 0)), (3, .ref qo)]) hx hb dL_law_1493 hl (k := 4) rfl (by rw [e5]; rfl) (by decide) rfl (fun ls hl => ?_)
  refine lv_goto (tgt := 23) hx hb dL_law_1496 (by decide) ?_
  refine W.widen (k := 170 + (k + 1)) (n := 6921 + 6 * (k + 1)) (by omega) (by omega) ?_
  exact ih (u) adm qo (cv) T B v1 o x5 _ _ ls (by rw [e5, hx4]; exact (nI_add (6 * k) 6).trans (by rw [Nat.mul_succ])) hI hP hD hS (lv_sub hl [1, 2, 3, 4, 0] rfl)
set_option maxHeartbeats 4000000 in
set_option maxRecDepth 100000 in
theorem law_without {p : Program} {l : Launch} {e : Env} {s : State} {m : MethodId} {below : List Frame} {meth : Method} {cd : Code} {b L : Nat} {xs : Nat → Int32} {N : Nat} {INV : (Nat → VV) → (Nat → Int32) → (Nat → Int64) → VV → Prop} {G : va_G} {cy : Nat → ClassId} {ev : Nat → Nat} (hst : ST_without N INV) (C : LCX p s m meth cd b L xs G cy ev) (k : Nat) (hk : 6 * k + 6 ≤ L) (ih : LOOPS p l e s m below meth cd b L INV G cy (k + 1)) (u : Nat → Nat → Nat) (adm : Nat → Nat) (qo : Nat) (cv : Nat → VV) (T : Nat → Int32) (B : Nat → Int64) (v : VV) (o : Nat → Int64) (x4 : Int32) (H : Heap) (locs : List Loc) (ls : Array Slot) (hx4 : x4 = nI (6 * k)) (hI : INV cv T B v) (hP : va_P G vwCl (wj (W22 cy u adm qo cv T B v o)) H) (hD : va_D (fun q => s.heap.size ≤ q) (wj (W22 cy u adm qo cv T B v o))) (hS : va_S (fun q => s.heap.size ≤ q) s.heap H locs) (hl : lv_has ls 7 [(0, .ref b), (1, .ref (u 0 0)), (2, .ref (adm 0)), (3, .ref qo), (4, .int x4)]) : W p l e room_1 s m #[Value.ref b] below meth cd H locs (170 + k) (6921 + 6 * k) (lw_Z below #[Value.ref b] s) (F0 m 1054 ls []) := by
  obtain ⟨hx, hb, hml, hown, hts, hK, hE, hX, hbl, hL⟩ := C
  have hA : ∀ q : Nat, s.heap.size ≤ q → (fun q : Nat => s.heap.size ≤ q) q := fun _ h => h
  have hbA : ¬ (fun q : Nat => s.heap.size ≤ q) b := Nat.not_le.mpr hbl
  have hin1 : vp_in (x4 + 1) L := by rw [hx4]; exact ix_in (j := 1) hk hL (by decide)
  have hin2 : vp_in (x4 + 2) L := by rw [hx4]; exact ix_in (j := 2) hk hL (by decide)
  have hin3 : vp_in (x4 + 3) L := by rw [hx4]; exact ix_in (j := 3) hk hL (by decide)
  have hin4 : vp_in (x4 + 4) L := by rw [hx4]; exact ix_in (j := 4) hk hL (by decide)
  have hin5 : vp_in (x4 + 5) L := by rw [hx4]; exact ix_in (j := 5) hk hL (by decide)
  refine lv_aload_n hx hb dL_law_1054 rfl (lv_at hl 1 rfl) ?_
  obtain ⟨r, v1, hf, hm, hI⟩ := hst cv T B v  hI
  refine callGVi (As := []) (rest := []) (cs' := [cX11 cy (u 0) (u 1 0) (u 2 0) (u 6 0) (u 8 0) (u 9 0) (u 10 0) (u 11 0) (u 12 0) (u 13 0) (u 14 0) (u 15 0) (u 16 0) (u 17 0) (u 18 0) (u 19 0) (cv 0), [(u 1 0, .inl (cy 0, 700, .inl T))], cX7 cy (u 2) (u 3 0) (u 4 0) (cv 2), cX9 cy (u 3) (cv 3), cX6 cy (u 4) (u 5 0) (cv 4), cX3 cy (u 5) (cv 5), cX6 cy (u 6) (u 7 0) (cv 6), cX3 cy (u 7) (cv 7), cX8 cy (u 8) (cv 8), cX8 cy (u 9) (cv 9), cX8 cy (u 10) (cv 10), cX0 cy (u 11) (cv 11), cX10 cy (u 12) (cv 12), cX10 cy (u 13) (cv 13), cX10 cy (u 14) (cv 14), cX2 cy (u 15) (cv 15), cX5 cy (u 16) (cv 16), cX1 cy (u 17) (cv 17), cX4 cy (u 18) (cv 18), [(u 19 0, .inl (cy 2, 73, .inr (.inl B)))], cX12 cy adm v, [(qo, .inl (cy 2, 1, .inr (.inl o)))]]) (ccs := [cX11 cy (u 0) (u 1 0) (u 2 0) (u 6 0) (u 8 0) (u 9 0) (u 10 0) (u 11 0) (u 12 0) (u 13 0) (u 14 0) (u 15 0) (u 16 0) (u 17 0) (u 18 0) (u 19 0) (cv 0), cX6 cy (u 6) (u 7 0) (cv 6), cX8 cy (u 8) (cv 8)]) (ccs' := [cX11 cy (u 0) (u 1 0) (u 2 0) (u 6 0) (u 8 0) (u 9 0) (u 10 0) (u 11 0) (u 12 0) (u 13 0) (u 14 0) (u 15 0) (u 16 0) (u 17 0) (u 18 0) (u 19 0) (cv 0), cX6 cy (u 6) (u 7 0) (cv 6), cX8 cy (u 8) (cv 8)]) (isC := [0, 6, 8]) (isR := [1, 2, 3, 4, 5, 7, 9, 10, 11, 12, 13, 14, 15, 16, 17, 18, 19, 20, 21]) hx hb hml hown hts (k_X11_without l G cy ev N (u 0) (u 1 0) (u 2 0) (u 9 0) (u 10 0) (u 11 0) (u 12 0) (u 13 0) (u 14 0) (u 15 0) (u 16 0) (u 17 0) (u 18 0) (u 19 0) (cv 0) (u 6) (u 7 0) (cv 6) (u 8) (cv 8)  r hf) wm_46_15 wm_46_16 wm_46_17 wm_1_2 wm_46_18 hd_X11_without ⟨by decide, by decide⟩ rfl rfl (by show _ ≤ 601024; omega) (by show _ ≤ 7293034; omega) hK hP hD hS hA hE rfl rfl rfl (cov_of (n := 22) rfl (by decide)) (by decide) rfl (recvW (ci := 0) hK hP rfl cX11_o rfl) rfl rfl hl.1 (Nat.le_of_ble_eq_true rfl) dL_law_1055 (fun H locs hP hD hS => ?_)
  refine lv_aload_n hx hb dL_law_1058 rfl (lv_at hl 2 rfl) ?_
  refine callGVi (As := []) (rest := [.int r]) (cs' := [cX11 cy (u 0) (u 1 0) (u 2 0) (u 6 0) (u 8 0) (u 9 0) (u 10 0) (u 11 0) (u 12 0) (u 13 0) (u 14 0) (u 15 0) (u 16 0) (u 17 0) (u 18 0) (u 19 0) (cv 0), [(u 1 0, .inl (cy 0, 700, .inl T))], cX7 cy (u 2) (u 3 0) (u 4 0) (cv 2), cX9 cy (u 3) (cv 3), cX6 cy (u 4) (u 5 0) (cv 4), cX3 cy (u 5) (cv 5), cX6 cy (u 6) (u 7 0) (cv 6), cX3 cy (u 7) (cv 7), cX8 cy (u 8) (cv 8), cX8 cy (u 9) (cv 9), cX8 cy (u 10) (cv 10), cX0 cy (u 11) (cv 11), cX10 cy (u 12) (cv 12), cX10 cy (u 13) (cv 13), cX10 cy (u 14) (cv 14), cX2 cy (u 15) (cv 15), cX5 cy (u 16) (cv 16), cX1 cy (u 17) (cv 17), cX4 cy (u 18) (cv 18), [(u 19 0, .inl (cy 2, 73, .inr (.inl B)))], cX12 cy adm v1, [(qo, .inl (cy 2, 1, .inr (.inl o)))]]) (ccs := [cX12 cy adm v]) (ccs' := [cX12 cy adm v1]) (isC := [20]) (isR := [0, 1, 2, 3, 4, 5, 6, 7, 8, 9, 10, 11, 12, 13, 14, 15, 16, 17, 18, 19, 21]) hx hb hml hown hts (k_X12_without l G cy ev N adm v  (r, v1) hm) wm_46_19 wm_46_20 wm_46_21 wm_1_5 wm_46_22 hd_X12_without ⟨by decide, by decide⟩ wj_one.symm wj_one.symm (by show _ ≤ 601024; omega) (by show _ ≤ 7293034; omega) hK hP hD hS hA hE rfl rfl rfl (cov_of (n := 22) rfl (by decide)) (by decide) rfl (recvW (ci := 20) hK hP rfl (show (cX12 cy adm v)[0]? = some (adm 0, _) from rfl) rfl) rfl rfl hl.1 (Nat.le_of_ble_eq_true rfl) dL_law_1059 (fun H locs hP hD hS => ?_)
  refine lv_icmp_eq (tgt := 1493) hx hb dL_law_1062 (by decide) (fun _ => ?_) (fun c9 => absurd rfl c9)
  obtain ⟨x5, e5⟩ : ∃ y : Int32, y = x4 + 6 := ⟨_, rfl⟩
  refine lv_iinc (v := x5) (lv' := [(4, .int x5), (0, .ref b), (1, .ref (u 0 0)), (2, .ref (adm 0)), (3, .ref qo)]) hx hb dL_law_1493 hl (k := 4) rfl (by rw [e5]; rfl) (by decide) rfl (fun ls hl => ?_)
  refine lv_goto (tgt := 23) hx hb dL_law_1496 (by decide) ?_
  refine W.widen (k := 170 + (k + 1)) (n := 6921 + 6 * (k + 1)) (by omega) (by omega) ?_
  exact ih (u) adm qo (cv) T B v1 o x5 _ _ ls (by rw [e5, hx4]; exact (nI_add (6 * k) 6).trans (by rw [Nat.mul_succ])) hI hP hD hS (lv_sub hl [1, 2, 3, 4, 0] rfl)
set_option maxHeartbeats 4000000 in
set_option maxRecDepth 100000 in
theorem law_swap {p : Program} {l : Launch} {e : Env} {s : State} {m : MethodId} {below : List Frame} {meth : Method} {cd : Code} {b L : Nat} {xs : Nat → Int32} {N : Nat} {INV : (Nat → VV) → (Nat → Int32) → (Nat → Int64) → VV → Prop} {G : va_G} {cy : Nat → ClassId} {ev : Nat → Nat} (hst : ST_swap N INV) (C : LCX p s m meth cd b L xs G cy ev) (k : Nat) (hk : 6 * k + 6 ≤ L) (ih : LOOPS p l e s m below meth cd b L INV G cy (k + 1)) (u : Nat → Nat → Nat) (adm : Nat → Nat) (qo : Nat) (cv : Nat → VV) (T : Nat → Int32) (B : Nat → Int64) (v : VV) (o : Nat → Int64) (x4 : Int32) (H : Heap) (locs : List Loc) (ls : Array Slot) (hx4 : x4 = nI (6 * k)) (hI : INV cv T B v) (hP : va_P G vwCl (wj (W22 cy u adm qo cv T B v o)) H) (hD : va_D (fun q => s.heap.size ≤ q) (wj (W22 cy u adm qo cv T B v o))) (hS : va_S (fun q => s.heap.size ≤ q) s.heap H locs) (hl : lv_has ls 7 [(0, .ref b), (1, .ref (u 0 0)), (2, .ref (adm 0)), (3, .ref qo), (4, .int x4)]) : W p l e room_1 s m #[Value.ref b] below meth cd H locs (170 + k) (6921 + 6 * k) (lw_Z below #[Value.ref b] s) (F0 m 1067 ls []) := by
  obtain ⟨hx, hb, hml, hown, hts, hK, hE, hX, hbl, hL⟩ := C
  have hA : ∀ q : Nat, s.heap.size ≤ q → (fun q : Nat => s.heap.size ≤ q) q := fun _ h => h
  have hbA : ¬ (fun q : Nat => s.heap.size ≤ q) b := Nat.not_le.mpr hbl
  have hin1 : vp_in (x4 + 1) L := by rw [hx4]; exact ix_in (j := 1) hk hL (by decide)
  have hin2 : vp_in (x4 + 2) L := by rw [hx4]; exact ix_in (j := 2) hk hL (by decide)
  have hin3 : vp_in (x4 + 3) L := by rw [hx4]; exact ix_in (j := 3) hk hL (by decide)
  have hin4 : vp_in (x4 + 4) L := by rw [hx4]; exact ix_in (j := 4) hk hL (by decide)
  have hin5 : vp_in (x4 + 5) L := by rw [hx4]; exact ix_in (j := 5) hk hL (by decide)
  refine lv_aload_n hx hb dL_law_1067 rfl (lv_at hl 1 rfl) ?_
  refine lv_aload_n hx hb dL_law_1068 rfl (lv_at hl 0 rfl) ?_
  refine lv_iload hx hb dL_law_1069 (lv_at hl 4 rfl) ?_
  refine lv_iconst (v := 1) hx hb dL_law_1071 (by decide) ?_
  refine lv_iadd hx hb dL_law_1072 ?_
  refine va_sld hx hb hX hbl hbA hS hin1 dL_law_1073 ?_
  obtain ⟨r, n0, v1, hf, hm, hI⟩ := hst cv T B v (xs (x4 + 1).toNatClampNeg) hI
  refine callGVi (As := [.int (xs (x4 + 1).toNatClampNeg)]) (rest := []) (cs' := [cX11 cy (u 0) (u 1 0) (u 2 0) (u 6 0) (u 8 0) (u 9 0) (u 10 0) (u 11 0) (u 12 0) (u 13 0) (u 14 0) (u 15 0) (u 16 0) (u 17 0) (u 18 0) (u 19 0) (cv 0), [(u 1 0, .inl (cy 0, 700, .inl T))], cX7 cy (u 2) (u 3 0) (u 4 0) (cv 2), cX9 cy (u 3) (cv 3), cX6 cy (u 4) (u 5 0) (cv 4), cX3 cy (u 5) (cv 5), cX6 cy (u 6) (u 7 0) (cv 6), cX3 cy (u 7) n0, cX8 cy (u 8) (cv 8), cX8 cy (u 9) (cv 9), cX8 cy (u 10) (cv 10), cX0 cy (u 11) (cv 11), cX10 cy (u 12) (cv 12), cX10 cy (u 13) (cv 13), cX10 cy (u 14) (cv 14), cX2 cy (u 15) (cv 15), cX5 cy (u 16) (cv 16), cX1 cy (u 17) (cv 17), cX4 cy (u 18) (cv 18), [(u 19 0, .inl (cy 2, 73, .inr (.inl B)))], cX12 cy adm v, [(qo, .inl (cy 2, 1, .inr (.inl o)))]]) (ccs := [cX11 cy (u 0) (u 1 0) (u 2 0) (u 6 0) (u 8 0) (u 9 0) (u 10 0) (u 11 0) (u 12 0) (u 13 0) (u 14 0) (u 15 0) (u 16 0) (u 17 0) (u 18 0) (u 19 0) (cv 0), cX6 cy (u 6) (u 7 0) (cv 6), cX3 cy (u 7) (cv 7), cX8 cy (u 8) (cv 8), cX10 cy (u 12) (cv 12)]) (ccs' := [cX11 cy (u 0) (u 1 0) (u 2 0) (u 6 0) (u 8 0) (u 9 0) (u 10 0) (u 11 0) (u 12 0) (u 13 0) (u 14 0) (u 15 0) (u 16 0) (u 17 0) (u 18 0) (u 19 0) (cv 0), cX6 cy (u 6) (u 7 0) (cv 6), cX3 cy (u 7) n0, cX8 cy (u 8) (cv 8), cX10 cy (u 12) (cv 12)]) (isC := [0, 6, 7, 8, 12]) (isR := [1, 2, 3, 4, 5, 9, 10, 11, 13, 14, 15, 16, 17, 18, 19, 20, 21]) hx hb hml hown hts (k_X11_swap l G cy ev N (u 0) (u 1 0) (u 2 0) (u 9 0) (u 10 0) (u 11 0) (u 13 0) (u 14 0) (u 15 0) (u 16 0) (u 17 0) (u 18 0) (u 19 0) (cv 0) (u 6) (cv 6) (u 7) (cv 7) (u 8) (cv 8) (u 12) (cv 12) (xs (x4 + 1).toNatClampNeg) (r, n0) hf) wm_46_23 wm_47_0 wm_47_1 wm_1_2 wm_47_2 hd_X11_swap ⟨by decide, by decide⟩ rfl rfl (by show _ ≤ 601024; omega) (by show _ ≤ 7293034; omega) hK hP hD hS hA hE rfl rfl rfl (cov_of (n := 22) rfl (by decide)) (by decide) rfl (recvW (ci := 0) hK hP rfl cX11_o rfl) rfl rfl hl.1 (Nat.le_of_ble_eq_true rfl) dL_law_1074 (fun H locs hP hD hS => ?_)
  refine lv_aload_n hx hb dL_law_1077 rfl (lv_at hl 2 rfl) ?_
  refine lv_aload_n hx hb dL_law_1078 rfl (lv_at hl 0 rfl) ?_
  refine lv_iload hx hb dL_law_1079 (lv_at hl 4 rfl) ?_
  refine lv_iconst (v := 1) hx hb dL_law_1081 (by decide) ?_
  refine lv_iadd hx hb dL_law_1082 ?_
  refine va_sld hx hb hX hbl hbA hS hin1 dL_law_1083 ?_
  refine callGVi (As := [.int (xs (x4 + 1).toNatClampNeg)]) (rest := [.int r]) (cs' := [cX11 cy (u 0) (u 1 0) (u 2 0) (u 6 0) (u 8 0) (u 9 0) (u 10 0) (u 11 0) (u 12 0) (u 13 0) (u 14 0) (u 15 0) (u 16 0) (u 17 0) (u 18 0) (u 19 0) (cv 0), [(u 1 0, .inl (cy 0, 700, .inl T))], cX7 cy (u 2) (u 3 0) (u 4 0) (cv 2), cX9 cy (u 3) (cv 3), cX6 cy (u 4) (u 5 0) (cv 4), cX3 cy (u 5) (cv 5), cX6 cy (u 6) (u 7 0) (cv 6), cX3 cy (u 7) n0, cX8 cy (u 8) (cv 8), cX8 cy (u 9) (cv 9), cX8 cy (u 10) (cv 10), cX0 cy (u 11) (cv 11), cX10 cy (u 12) (cv 12), cX10 cy (u 13) (cv 13), cX10 cy (u 14) (cv 14), cX2 cy (u 15) (cv 15), cX5 cy (u 16) (cv 16), cX1 cy (u 17) (cv 17), cX4 cy (u 18) (cv 18), [(u 19 0, .inl (cy 2, 73, .inr (.inl B)))], cX12 cy adm v1, [(qo, .inl (cy 2, 1, .inr (.inl o)))]]) (ccs := [cX12 cy adm v]) (ccs' := [cX12 cy adm v1]) (isC := [20]) (isR := [0, 1, 2, 3, 4, 5, 6, 7, 8, 9, 10, 11, 12, 13, 14, 15, 16, 17, 18, 19, 21]) hx hb hml hown hts (k_X12_swap l G cy ev N adm v (xs (x4 + 1).toNatClampNeg) (r, v1) hm) wm_47_7 wm_47_8 wm_47_9 wm_1_5 wm_47_10 hd_X12_swap ⟨by decide, by decide⟩ wj_one.symm wj_one.symm (by show _ ≤ 601024; omega) (by show _ ≤ 7293034; omega) hK hP hD hS hA hE rfl rfl rfl (cov_of (n := 22) rfl (by decide)) (by decide) rfl (recvW (ci := 20) hK hP rfl (show (cX12 cy adm v)[0]? = some (adm 0, _) from rfl) rfl) rfl rfl hl.1 (Nat.le_of_ble_eq_true rfl) dL_law_1084 (fun H locs hP hD hS => ?_)
  refine lv_icmp_eq (tgt := 1493) hx hb dL_law_1087 (by decide) (fun _ => ?_) (fun c9 => absurd rfl c9)
  obtain ⟨x5, e5⟩ : ∃ y : Int32, y = x4 + 6 := ⟨_, rfl⟩
  refine lv_iinc (v := x5) (lv' := [(4, .int x5), (0, .ref b), (1, .ref (u 0 0)), (2, .ref (adm 0)), (3, .ref qo)]) hx hb dL_law_1493 hl (k := 4) rfl (by rw [e5]; rfl) (by decide) rfl (fun ls hl => ?_)
  refine lv_goto (tgt := 23) hx hb dL_law_1496 (by decide) ?_
  refine W.widen (k := 170 + (k + 1)) (n := 6921 + 6 * (k + 1)) (by omega) (by omega) ?_
  exact ih (u) adm qo (uc cv 7 n0) T B v1 o x5 _ _ ls (by rw [e5, hx4]; exact (nI_add (6 * k) 6).trans (by rw [Nat.mul_succ])) hI hP hD hS (lv_sub hl [1, 2, 3, 4, 0] rfl)
set_option maxHeartbeats 4000000 in
set_option maxRecDepth 100000 in
theorem law_later {p : Program} {l : Launch} {e : Env} {s : State} {m : MethodId} {below : List Frame} {meth : Method} {cd : Code} {b L : Nat} {xs : Nat → Int32} {N : Nat} {INV : (Nat → VV) → (Nat → Int32) → (Nat → Int64) → VV → Prop} {G : va_G} {cy : Nat → ClassId} {ev : Nat → Nat} (hst : ST_later N INV) (C : LCX p s m meth cd b L xs G cy ev) (k : Nat) (hk : 6 * k + 6 ≤ L) (ih : LOOPS p l e s m below meth cd b L INV G cy (k + 1)) (u : Nat → Nat → Nat) (adm : Nat → Nat) (qo : Nat) (cv : Nat → VV) (T : Nat → Int32) (B : Nat → Int64) (v : VV) (o : Nat → Int64) (x4 : Int32) (H : Heap) (locs : List Loc) (ls : Array Slot) (hx4 : x4 = nI (6 * k)) (hI : INV cv T B v) (hP : va_P G vwCl (wj (W22 cy u adm qo cv T B v o)) H) (hD : va_D (fun q => s.heap.size ≤ q) (wj (W22 cy u adm qo cv T B v o))) (hS : va_S (fun q => s.heap.size ≤ q) s.heap H locs) (hl : lv_has ls 7 [(0, .ref b), (1, .ref (u 0 0)), (2, .ref (adm 0)), (3, .ref qo), (4, .int x4)]) : W p l e room_1 s m #[Value.ref b] below meth cd H locs (170 + k) (6921 + 6 * k) (lw_Z below #[Value.ref b] s) (F0 m 1092 ls []) := by
  obtain ⟨hx, hb, hml, hown, hts, hK, hE, hX, hbl, hL⟩ := C
  have hA : ∀ q : Nat, s.heap.size ≤ q → (fun q : Nat => s.heap.size ≤ q) q := fun _ h => h
  have hbA : ¬ (fun q : Nat => s.heap.size ≤ q) b := Nat.not_le.mpr hbl
  have hin1 : vp_in (x4 + 1) L := by rw [hx4]; exact ix_in (j := 1) hk hL (by decide)
  have hin2 : vp_in (x4 + 2) L := by rw [hx4]; exact ix_in (j := 2) hk hL (by decide)
  have hin3 : vp_in (x4 + 3) L := by rw [hx4]; exact ix_in (j := 3) hk hL (by decide)
  have hin4 : vp_in (x4 + 4) L := by rw [hx4]; exact ix_in (j := 4) hk hL (by decide)
  have hin5 : vp_in (x4 + 5) L := by rw [hx4]; exact ix_in (j := 5) hk hL (by decide)
  refine lv_aload_n hx hb dL_law_1092 rfl (lv_at hl 1 rfl) ?_
  refine lv_aload_n hx hb dL_law_1093 rfl (lv_at hl 0 rfl) ?_
  refine lv_iload hx hb dL_law_1094 (lv_at hl 4 rfl) ?_
  refine lv_iconst (v := 1) hx hb dL_law_1096 (by decide) ?_
  refine lv_iadd hx hb dL_law_1097 ?_
  refine va_sld hx hb hX hbl hbA hS hin1 dL_law_1098 ?_
  obtain ⟨r, n0, n1, n2, n3, v1, hf, hm, hI⟩ := hst cv T B v (xs (x4 + 1).toNatClampNeg) hI
  refine callGVi (As := [.int (xs (x4 + 1).toNatClampNeg)]) (rest := []) (cs' := [cX11 cy (u 0) (u 1 0) (u 2 0) (u 6 0) (u 8 0) (u 9 0) (u 10 0) (u 11 0) (u 12 0) (u 13 0) (u 14 0) (u 15 0) (u 16 0) (u 17 0) (u 18 0) (u 19 0) (cv 0), [(u 1 0, .inl (cy 0, 700, .inl T))], cX7 cy (u 2) (u 3 0) (u 4 0) (cv 2), cX9 cy (u 3) (cv 3), cX6 cy (u 4) (u 5 0) (cv 4), cX3 cy (u 5) (cv 5), cX6 cy (u 6) (u 7 0) (cv 6), cX3 cy (u 7) n0, cX8 cy (u 8) (cv 8), cX8 cy (u 9) (cv 9), cX8 cy (u 10) n1, cX0 cy (u 11) n2, cX10 cy (u 12) (cv 12), cX10 cy (u 13) (cv 13), cX10 cy (u 14) n3, cX2 cy (u 15) (cv 15), cX5 cy (u 16) (cv 16), cX1 cy (u 17) (cv 17), cX4 cy (u 18) (cv 18), [(u 19 0, .inl (cy 2, 73, .inr (.inl B)))], cX12 cy adm v, [(qo, .inl (cy 2, 1, .inr (.inl o)))]]) (ccs := [cX11 cy (u 0) (u 1 0) (u 2 0) (u 6 0) (u 8 0) (u 9 0) (u 10 0) (u 11 0) (u 12 0) (u 13 0) (u 14 0) (u 15 0) (u 16 0) (u 17 0) (u 18 0) (u 19 0) (cv 0), cX6 cy (u 6) (u 7 0) (cv 6), cX3 cy (u 7) (cv 7), cX8 cy (u 8) (cv 8), cX8 cy (u 10) (cv 10), cX0 cy (u 11) (cv 11), cX10 cy (u 14) (cv 14)]) (ccs' := [cX11 cy (u 0) (u 1 0) (u 2 0) (u 6 0) (u 8 0) (u 9 0) (u 10 0) (u 11 0) (u 12 0) (u 13 0) (u 14 0) (u 15 0) (u 16 0) (u 17 0) (u 18 0) (u 19 0) (cv 0), cX6 cy (u 6) (u 7 0) (cv 6), cX3 cy (u 7) n0, cX8 cy (u 8) (cv 8), cX8 cy (u 10) n1, cX0 cy (u 11) n2, cX10 cy (u 14) n3]) (isC := [0, 6, 7, 8, 10, 11, 14]) (isR := [1, 2, 3, 4, 5, 9, 12, 13, 15, 16, 17, 18, 19, 20, 21]) hx hb hml hown hts (k_X11_later l G cy ev N (u 0) (u 1 0) (u 2 0) (u 9 0) (u 12 0) (u 13 0) (u 15 0) (u 16 0) (u 17 0) (u 18 0) (u 19 0) (cv 0) (u 6) (cv 6) (u 7) (cv 7) (u 8) (cv 8) (u 10) (cv 10) (u 11) (cv 11) (u 14) (cv 14) (xs (x4 + 1).toNatClampNeg) (r, n0, n1, n2, n3) hf) wm_47_19 wm_47_20 wm_47_21 wm_1_2 wm_47_22 hd_X11_later ⟨by decide, by decide⟩ rfl rfl (by show _ ≤ 601024; omega) (by show _ ≤ 7293034; omega) hK hP hD hS hA hE rfl rfl rfl (cov_of (n := 22) rfl (by decide)) (by decide) rfl (recvW (ci := 0) hK hP rfl cX11_o rfl) rfl rfl hl.1 (Nat.le_of_ble_eq_true rfl) dL_law_1099 (fun H locs hP hD hS => ?_)
  refine lv_aload_n hx hb dL_law_1102 rfl (lv_at hl 2 rfl) ?_
  refine lv_aload_n hx hb dL_law_1103 rfl (lv_at hl 0 rfl) ?_
  refine lv_iload hx hb dL_law_1104 (lv_at hl 4 rfl) ?_
  refine lv_iconst (v := 1) hx hb dL_law_1106 (by decide) ?_
  refine lv_iadd hx hb dL_law_1107 ?_
  refine va_sld hx hb hX hbl hbA hS hin1 dL_law_1108 ?_
  refine callGVi (As := [.int (xs (x4 + 1).toNatClampNeg)]) (rest := [.int r]) (cs' := [cX11 cy (u 0) (u 1 0) (u 2 0) (u 6 0) (u 8 0) (u 9 0) (u 10 0) (u 11 0) (u 12 0) (u 13 0) (u 14 0) (u 15 0) (u 16 0) (u 17 0) (u 18 0) (u 19 0) (cv 0), [(u 1 0, .inl (cy 0, 700, .inl T))], cX7 cy (u 2) (u 3 0) (u 4 0) (cv 2), cX9 cy (u 3) (cv 3), cX6 cy (u 4) (u 5 0) (cv 4), cX3 cy (u 5) (cv 5), cX6 cy (u 6) (u 7 0) (cv 6), cX3 cy (u 7) n0, cX8 cy (u 8) (cv 8), cX8 cy (u 9) (cv 9), cX8 cy (u 10) n1, cX0 cy (u 11) n2, cX10 cy (u 12) (cv 12), cX10 cy (u 13) (cv 13), cX10 cy (u 14) n3, cX2 cy (u 15) (cv 15), cX5 cy (u 16) (cv 16), cX1 cy (u 17) (cv 17), cX4 cy (u 18) (cv 18), [(u 19 0, .inl (cy 2, 73, .inr (.inl B)))], cX12 cy adm v1, [(qo, .inl (cy 2, 1, .inr (.inl o)))]]) (ccs := [cX12 cy adm v]) (ccs' := [cX12 cy adm v1]) (isC := [20]) (isR := [0, 1, 2, 3, 4, 5, 6, 7, 8, 9, 10, 11, 12, 13, 14, 15, 16, 17, 18, 19, 21]) hx hb hml hown hts (k_X12_later l G cy ev N adm v (xs (x4 + 1).toNatClampNeg) (r, v1) hm) wm_47_23 wm_48_0 wm_48_1 wm_1_5 wm_48_2 hd_X12_later ⟨by decide, by decide⟩ wj_one.symm wj_one.symm (by show _ ≤ 601024; omega) (by show _ ≤ 7293034; omega) hK hP hD hS hA hE rfl rfl rfl (cov_of (n := 22) rfl (by decide)) (by decide) rfl (recvW (ci := 20) hK hP rfl (show (cX12 cy adm v)[0]? = some (adm 0, _) from rfl) rfl) rfl rfl hl.1 (Nat.le_of_ble_eq_true rfl) dL_law_1109 (fun H locs hP hD hS => ?_)
  refine lv_icmp_eq (tgt := 1493) hx hb dL_law_1112 (by decide) (fun _ => ?_) (fun c9 => absurd rfl c9)
  obtain ⟨x5, e5⟩ : ∃ y : Int32, y = x4 + 6 := ⟨_, rfl⟩
  refine lv_iinc (v := x5) (lv' := [(4, .int x5), (0, .ref b), (1, .ref (u 0 0)), (2, .ref (adm 0)), (3, .ref qo)]) hx hb dL_law_1493 hl (k := 4) rfl (by rw [e5]; rfl) (by decide) rfl (fun ls hl => ?_)
  refine lv_goto (tgt := 23) hx hb dL_law_1496 (by decide) ?_
  refine W.widen (k := 170 + (k + 1)) (n := 6921 + 6 * (k + 1)) (by omega) (by omega) ?_
  exact ih (u) adm qo (uc (uc (uc (uc cv 7 n0) 10 n1) 11 n2) 14 n3) T B v1 o x5 _ _ ls (by rw [e5, hx4]; exact (nI_add (6 * k) 6).trans (by rw [Nat.mul_succ])) hI hP hD hS (lv_sub hl [1, 2, 3, 4, 0] rfl)
set_option maxHeartbeats 4000000 in
set_option maxRecDepth 100000 in
theorem law_rests {p : Program} {l : Launch} {e : Env} {s : State} {m : MethodId} {below : List Frame} {meth : Method} {cd : Code} {b L : Nat} {xs : Nat → Int32} {N : Nat} {INV : (Nat → VV) → (Nat → Int32) → (Nat → Int64) → VV → Prop} {G : va_G} {cy : Nat → ClassId} {ev : Nat → Nat} (hst : ST_rests N INV) (C : LCX p s m meth cd b L xs G cy ev) (k : Nat) (hk : 6 * k + 6 ≤ L) (ih : LOOPS p l e s m below meth cd b L INV G cy (k + 1)) (u : Nat → Nat → Nat) (adm : Nat → Nat) (qo : Nat) (cv : Nat → VV) (T : Nat → Int32) (B : Nat → Int64) (v : VV) (o : Nat → Int64) (x4 : Int32) (H : Heap) (locs : List Loc) (ls : Array Slot) (hx4 : x4 = nI (6 * k)) (hI : INV cv T B v) (hP : va_P G vwCl (wj (W22 cy u adm qo cv T B v o)) H) (hD : va_D (fun q => s.heap.size ≤ q) (wj (W22 cy u adm qo cv T B v o))) (hS : va_S (fun q => s.heap.size ≤ q) s.heap H locs) (hl : lv_has ls 7 [(0, .ref b), (1, .ref (u 0 0)), (2, .ref (adm 0)), (3, .ref qo), (4, .int x4)]) : W p l e room_1 s m #[Value.ref b] below meth cd H locs (170 + k) (6921 + 6 * k) (lw_Z below #[Value.ref b] s) (F0 m 1117 ls []) := by
  obtain ⟨hx, hb, hml, hown, hts, hK, hE, hX, hbl, hL⟩ := C
  have hA : ∀ q : Nat, s.heap.size ≤ q → (fun q : Nat => s.heap.size ≤ q) q := fun _ h => h
  have hbA : ¬ (fun q : Nat => s.heap.size ≤ q) b := Nat.not_le.mpr hbl
  have hin1 : vp_in (x4 + 1) L := by rw [hx4]; exact ix_in (j := 1) hk hL (by decide)
  have hin2 : vp_in (x4 + 2) L := by rw [hx4]; exact ix_in (j := 2) hk hL (by decide)
  have hin3 : vp_in (x4 + 3) L := by rw [hx4]; exact ix_in (j := 3) hk hL (by decide)
  have hin4 : vp_in (x4 + 4) L := by rw [hx4]; exact ix_in (j := 4) hk hL (by decide)
  have hin5 : vp_in (x4 + 5) L := by rw [hx4]; exact ix_in (j := 5) hk hL (by decide)
  refine lv_aload_n hx hb dL_law_1117 rfl (lv_at hl 1 rfl) ?_
  refine lv_aload_n hx hb dL_law_1118 rfl (lv_at hl 0 rfl) ?_
  refine lv_iload hx hb dL_law_1119 (lv_at hl 4 rfl) ?_
  refine lv_iconst (v := 1) hx hb dL_law_1121 (by decide) ?_
  refine lv_iadd hx hb dL_law_1122 ?_
  refine va_sld hx hb hX hbl hbA hS hin1 dL_law_1123 ?_
  refine lv_aload_n hx hb dL_law_1124 rfl (lv_at hl 0 rfl) ?_
  refine lv_iload hx hb dL_law_1125 (lv_at hl 4 rfl) ?_
  refine lv_iconst (v := 2) hx hb dL_law_1127 (by decide) ?_
  refine lv_iadd hx hb dL_law_1128 ?_
  refine va_sld hx hb hX hbl hbA hS hin2 dL_law_1129 ?_
  obtain ⟨r, v1, hf, hm, hI⟩ := hst cv T B v (xs (x4 + 1).toNatClampNeg) (xs (x4 + 2).toNatClampNeg) hI
  refine callGVi (As := [.int (xs (x4 + 1).toNatClampNeg), .int (xs (x4 + 2).toNatClampNeg)]) (rest := []) (cs' := [cX11 cy (u 0) (u 1 0) (u 2 0) (u 6 0) (u 8 0) (u 9 0) (u 10 0) (u 11 0) (u 12 0) (u 13 0) (u 14 0) (u 15 0) (u 16 0) (u 17 0) (u 18 0) (u 19 0) (cv 0), [(u 1 0, .inl (cy 0, 700, .inl T))], cX7 cy (u 2) (u 3 0) (u 4 0) (cv 2), cX9 cy (u 3) (cv 3), cX6 cy (u 4) (u 5 0) (cv 4), cX3 cy (u 5) (cv 5), cX6 cy (u 6) (u 7 0) (cv 6), cX3 cy (u 7) (cv 7), cX8 cy (u 8) (cv 8), cX8 cy (u 9) (cv 9), cX8 cy (u 10) (cv 10), cX0 cy (u 11) (cv 11), cX10 cy (u 12) (cv 12), cX10 cy (u 13) (cv 13), cX10 cy (u 14) (cv 14), cX2 cy (u 15) (cv 15), cX5 cy (u 16) (cv 16), cX1 cy (u 17) (cv 17), cX4 cy (u 18) (cv 18), [(u 19 0, .inl (cy 2, 73, .inr (.inl B)))], cX12 cy adm v, [(qo, .inl (cy 2, 1, .inr (.inl o)))]]) (ccs := [cX11 cy (u 0) (u 1 0) (u 2 0) (u 6 0) (u 8 0) (u 9 0) (u 10 0) (u 11 0) (u 12 0) (u 13 0) (u 14 0) (u 15 0) (u 16 0) (u 17 0) (u 18 0) (u 19 0) (cv 0), cX6 cy (u 6) (u 7 0) (cv 6)]) (ccs' := [cX11 cy (u 0) (u 1 0) (u 2 0) (u 6 0) (u 8 0) (u 9 0) (u 10 0) (u 11 0) (u 12 0) (u 13 0) (u 14 0) (u 15 0) (u 16 0) (u 17 0) (u 18 0) (u 19 0) (cv 0), cX6 cy (u 6) (u 7 0) (cv 6)]) (isC := [0, 6]) (isR := [1, 2, 3, 4, 5, 7, 8, 9, 10, 11, 12, 13, 14, 15, 16, 17, 18, 19, 20, 21]) hx hb hml hown hts (k_X11_rests l G cy ev N (u 0) (u 1 0) (u 2 0) (u 8 0) (u 9 0) (u 10 0) (u 11 0) (u 12 0) (u 13 0) (u 14 0) (u 15 0) (u 16 0) (u 17 0) (u 18 0) (u 19 0) (cv 0) (u 6) (u 7 0) (cv 6) (xs (x4 + 1).toNatClampNeg) (xs (x4 + 2).toNatClampNeg) r hf) wm_48_3 wm_48_4 wm_48_5 wm_1_2 wm_48_6 hd_X11_rests ⟨by decide, by decide⟩ rfl rfl (by show _ ≤ 601024; omega) (by show _ ≤ 7293034; omega) hK hP hD hS hA hE rfl rfl rfl (cov_of (n := 22) rfl (by decide)) (by decide) rfl (recvW (ci := 0) hK hP rfl cX11_o rfl) rfl rfl hl.1 (Nat.le_of_ble_eq_true rfl) dL_law_1130 (fun H locs hP hD hS => ?_)
  refine lv_aload_n hx hb dL_law_1133 rfl (lv_at hl 2 rfl) ?_
  refine lv_aload_n hx hb dL_law_1134 rfl (lv_at hl 0 rfl) ?_
  refine lv_iload hx hb dL_law_1135 (lv_at hl 4 rfl) ?_
  refine lv_iconst (v := 1) hx hb dL_law_1137 (by decide) ?_
  refine lv_iadd hx hb dL_law_1138 ?_
  refine va_sld hx hb hX hbl hbA hS hin1 dL_law_1139 ?_
  refine lv_aload_n hx hb dL_law_1140 rfl (lv_at hl 0 rfl) ?_
  refine lv_iload hx hb dL_law_1141 (lv_at hl 4 rfl) ?_
  refine lv_iconst (v := 2) hx hb dL_law_1143 (by decide) ?_
  refine lv_iadd hx hb dL_law_1144 ?_
  refine va_sld hx hb hX hbl hbA hS hin2 dL_law_1145 ?_
  refine callGVi (As := [.int (xs (x4 + 1).toNatClampNeg), .int (xs (x4 + 2).toNatClampNeg)]) (rest := [.int r]) (cs' := [cX11 cy (u 0) (u 1 0) (u 2 0) (u 6 0) (u 8 0) (u 9 0) (u 10 0) (u 11 0) (u 12 0) (u 13 0) (u 14 0) (u 15 0) (u 16 0) (u 17 0) (u 18 0) (u 19 0) (cv 0), [(u 1 0, .inl (cy 0, 700, .inl T))], cX7 cy (u 2) (u 3 0) (u 4 0) (cv 2), cX9 cy (u 3) (cv 3), cX6 cy (u 4) (u 5 0) (cv 4), cX3 cy (u 5) (cv 5), cX6 cy (u 6) (u 7 0) (cv 6), cX3 cy (u 7) (cv 7), cX8 cy (u 8) (cv 8), cX8 cy (u 9) (cv 9), cX8 cy (u 10) (cv 10), cX0 cy (u 11) (cv 11), cX10 cy (u 12) (cv 12), cX10 cy (u 13) (cv 13), cX10 cy (u 14) (cv 14), cX2 cy (u 15) (cv 15), cX5 cy (u 16) (cv 16), cX1 cy (u 17) (cv 17), cX4 cy (u 18) (cv 18), [(u 19 0, .inl (cy 2, 73, .inr (.inl B)))], cX12 cy adm v1, [(qo, .inl (cy 2, 1, .inr (.inl o)))]]) (ccs := [cX12 cy adm v]) (ccs' := [cX12 cy adm v1]) (isC := [20]) (isR := [0, 1, 2, 3, 4, 5, 6, 7, 8, 9, 10, 11, 12, 13, 14, 15, 16, 17, 18, 19, 21]) hx hb hml hown hts (k_X12_rests l G cy ev N adm v (xs (x4 + 1).toNatClampNeg) (xs (x4 + 2).toNatClampNeg) (r, v1) hm) wm_48_17 wm_48_18 wm_48_19 wm_1_5 wm_48_20 hd_X12_rests ⟨by decide, by decide⟩ wj_one.symm wj_one.symm (by show _ ≤ 601024; omega) (by show _ ≤ 7293034; omega) hK hP hD hS hA hE rfl rfl rfl (cov_of (n := 22) rfl (by decide)) (by decide) rfl (recvW (ci := 20) hK hP rfl (show (cX12 cy adm v)[0]? = some (adm 0, _) from rfl) rfl) rfl rfl hl.1 (Nat.le_of_ble_eq_true rfl) dL_law_1146 (fun H locs hP hD hS => ?_)
  refine lv_icmp_eq (tgt := 1493) hx hb dL_law_1149 (by decide) (fun _ => ?_) (fun c9 => absurd rfl c9)
  obtain ⟨x5, e5⟩ : ∃ y : Int32, y = x4 + 6 := ⟨_, rfl⟩
  refine lv_iinc (v := x5) (lv' := [(4, .int x5), (0, .ref b), (1, .ref (u 0 0)), (2, .ref (adm 0)), (3, .ref qo)]) hx hb dL_law_1493 hl (k := 4) rfl (by rw [e5]; rfl) (by decide) rfl (fun ls hl => ?_)
  refine lv_goto (tgt := 23) hx hb dL_law_1496 (by decide) ?_
  refine W.widen (k := 170 + (k + 1)) (n := 6921 + 6 * (k + 1)) (by omega) (by omega) ?_
  exact ih (u) adm qo (cv) T B v1 o x5 _ _ ls (by rw [e5, hx4]; exact (nI_add (6 * k) 6).trans (by rw [Nat.mul_succ])) hI hP hD hS (lv_sub hl [1, 2, 3, 4, 0] rfl)
set_option maxHeartbeats 4000000 in
set_option maxRecDepth 100000 in
theorem law_rest {p : Program} {l : Launch} {e : Env} {s : State} {m : MethodId} {below : List Frame} {meth : Method} {cd : Code} {b L : Nat} {xs : Nat → Int32} {N : Nat} {INV : (Nat → VV) → (Nat → Int32) → (Nat → Int64) → VV → Prop} {G : va_G} {cy : Nat → ClassId} {ev : Nat → Nat} (hst : ST_rest N INV) (C : LCX p s m meth cd b L xs G cy ev) (k : Nat) (hk : 6 * k + 6 ≤ L) (ih : LOOPS p l e s m below meth cd b L INV G cy (k + 1)) (u : Nat → Nat → Nat) (adm : Nat → Nat) (qo : Nat) (cv : Nat → VV) (T : Nat → Int32) (B : Nat → Int64) (v : VV) (o : Nat → Int64) (x4 : Int32) (H : Heap) (locs : List Loc) (ls : Array Slot) (hx4 : x4 = nI (6 * k)) (hI : INV cv T B v) (hP : va_P G vwCl (wj (W22 cy u adm qo cv T B v o)) H) (hD : va_D (fun q => s.heap.size ≤ q) (wj (W22 cy u adm qo cv T B v o))) (hS : va_S (fun q => s.heap.size ≤ q) s.heap H locs) (hl : lv_has ls 7 [(0, .ref b), (1, .ref (u 0 0)), (2, .ref (adm 0)), (3, .ref qo), (4, .int x4)]) : W p l e room_1 s m #[Value.ref b] below meth cd H locs (170 + k) (6921 + 6 * k) (lw_Z below #[Value.ref b] s) (F0 m 1154 ls []) := by
  obtain ⟨hx, hb, hml, hown, hts, hK, hE, hX, hbl, hL⟩ := C
  have hA : ∀ q : Nat, s.heap.size ≤ q → (fun q : Nat => s.heap.size ≤ q) q := fun _ h => h
  have hbA : ¬ (fun q : Nat => s.heap.size ≤ q) b := Nat.not_le.mpr hbl
  have hin1 : vp_in (x4 + 1) L := by rw [hx4]; exact ix_in (j := 1) hk hL (by decide)
  have hin2 : vp_in (x4 + 2) L := by rw [hx4]; exact ix_in (j := 2) hk hL (by decide)
  have hin3 : vp_in (x4 + 3) L := by rw [hx4]; exact ix_in (j := 3) hk hL (by decide)
  have hin4 : vp_in (x4 + 4) L := by rw [hx4]; exact ix_in (j := 4) hk hL (by decide)
  have hin5 : vp_in (x4 + 5) L := by rw [hx4]; exact ix_in (j := 5) hk hL (by decide)
  refine lv_aload_n hx hb dL_law_1154 rfl (lv_at hl 1 rfl) ?_
  refine lv_aload_n hx hb dL_law_1155 rfl (lv_at hl 0 rfl) ?_
  refine lv_iload hx hb dL_law_1156 (lv_at hl 4 rfl) ?_
  refine lv_iconst (v := 1) hx hb dL_law_1158 (by decide) ?_
  refine lv_iadd hx hb dL_law_1159 ?_
  refine va_sld hx hb hX hbl hbA hS hin1 dL_law_1160 ?_
  refine lv_aload_n hx hb dL_law_1161 rfl (lv_at hl 0 rfl) ?_
  refine lv_iload hx hb dL_law_1162 (lv_at hl 4 rfl) ?_
  refine lv_iconst (v := 2) hx hb dL_law_1164 (by decide) ?_
  refine lv_iadd hx hb dL_law_1165 ?_
  refine va_sld hx hb hX hbl hbA hS hin2 dL_law_1166 ?_
  refine lv_aload_n hx hb dL_law_1167 rfl (lv_at hl 0 rfl) ?_
  refine lv_iload hx hb dL_law_1168 (lv_at hl 4 rfl) ?_
  refine lv_iconst (v := 3) hx hb dL_law_1170 (by decide) ?_
  refine lv_iadd hx hb dL_law_1171 ?_
  refine va_sld hx hb hX hbl hbA hS hin3 dL_law_1172 ?_
  obtain ⟨r, v1, hf, hm, hI⟩ := hst cv T B v (xs (x4 + 1).toNatClampNeg) (xs (x4 + 2).toNatClampNeg) (xs (x4 + 3).toNatClampNeg) hI
  refine callGVi (As := [.int (xs (x4 + 1).toNatClampNeg), .int (xs (x4 + 2).toNatClampNeg), .int (xs (x4 + 3).toNatClampNeg)]) (rest := []) (cs' := [cX11 cy (u 0) (u 1 0) (u 2 0) (u 6 0) (u 8 0) (u 9 0) (u 10 0) (u 11 0) (u 12 0) (u 13 0) (u 14 0) (u 15 0) (u 16 0) (u 17 0) (u 18 0) (u 19 0) (cv 0), [(u 1 0, .inl (cy 0, 700, .inl T))], cX7 cy (u 2) (u 3 0) (u 4 0) (cv 2), cX9 cy (u 3) (cv 3), cX6 cy (u 4) (u 5 0) (cv 4), cX3 cy (u 5) (cv 5), cX6 cy (u 6) (u 7 0) (cv 6), cX3 cy (u 7) (cv 7), cX8 cy (u 8) (cv 8), cX8 cy (u 9) (cv 9), cX8 cy (u 10) (cv 10), cX0 cy (u 11) (cv 11), cX10 cy (u 12) (cv 12), cX10 cy (u 13) (cv 13), cX10 cy (u 14) (cv 14), cX2 cy (u 15) (cv 15), cX5 cy (u 16) (cv 16), cX1 cy (u 17) (cv 17), cX4 cy (u 18) (cv 18), [(u 19 0, .inl (cy 2, 73, .inr (.inl B)))], cX12 cy adm v, [(qo, .inl (cy 2, 1, .inr (.inl o)))]]) (ccs := [cX11 cy (u 0) (u 1 0) (u 2 0) (u 6 0) (u 8 0) (u 9 0) (u 10 0) (u 11 0) (u 12 0) (u 13 0) (u 14 0) (u 15 0) (u 16 0) (u 17 0) (u 18 0) (u 19 0) (cv 0), cX6 cy (u 6) (u 7 0) (cv 6)]) (ccs' := [cX11 cy (u 0) (u 1 0) (u 2 0) (u 6 0) (u 8 0) (u 9 0) (u 10 0) (u 11 0) (u 12 0) (u 13 0) (u 14 0) (u 15 0) (u 16 0) (u 17 0) (u 18 0) (u 19 0) (cv 0), cX6 cy (u 6) (u 7 0) (cv 6)]) (isC := [0, 6]) (isR := [1, 2, 3, 4, 5, 7, 8, 9, 10, 11, 12, 13, 14, 15, 16, 17, 18, 19, 20, 21]) hx hb hml hown hts (k_X11_rest l G cy ev N (u 0) (u 1 0) (u 2 0) (u 8 0) (u 9 0) (u 10 0) (u 11 0) (u 12 0) (u 13 0) (u 14 0) (u 15 0) (u 16 0) (u 17 0) (u 18 0) (u 19 0) (cv 0) (u 6) (u 7 0) (cv 6) (xs (x4 + 1).toNatClampNeg) (xs (x4 + 2).toNatClampNeg) (xs (x4 + 3).toNatClampNeg) r hf) wm_49_13 wm_49_14 wm_49_15 wm_1_2 wm_49_16 hd_X11_rest ⟨by decide, by decide⟩ rfl rfl (by show _ ≤ 601024; omega) (by show _ ≤ 7293034; omega) hK hP hD hS hA hE rfl rfl rfl (cov_of (n := 22) rfl (by decide)) (by decide) rfl (recvW (ci := 0) hK hP rfl cX11_o rfl) rfl rfl hl.1 (Nat.le_of_ble_eq_true rfl) dL_law_1173 (fun H locs hP hD hS => ?_)
  refine lv_aload_n hx hb dL_law_1176 rfl (lv_at hl 2 rfl) ?_
  refine lv_aload_n hx hb dL_law_1177 rfl (lv_at hl 0 rfl) ?_
  refine lv_iload hx hb dL_law_1178 (lv_at hl 4 rfl) ?_
  refine lv_iconst (v := 1) hx hb dL_law_1180 (by decide) ?_
  refine lv_iadd hx hb dL_law_1181 ?_
  refine va_sld hx hb hX hbl hbA hS hin1 dL_law_1182 ?_
  refine lv_aload_n hx hb dL_law_1183 rfl (lv_at hl 0 rfl) ?_
  refine lv_iload hx hb dL_law_1184 (lv_at hl 4 rfl) ?_
  refine lv_iconst (v := 2) hx hb dL_law_1186 (by decide) ?_
  refine lv_iadd hx hb dL_law_1187 ?_
  refine va_sld hx hb hX hbl hbA hS hin2 dL_law_1188 ?_
  refine lv_aload_n hx hb dL_law_1189 rfl (lv_at hl 0 rfl) ?_
  refine lv_iload hx hb dL_law_1190 (lv_at hl 4 rfl) ?_
  refine lv_iconst (v := 3) hx hb dL_law_1192 (by decide) ?_
  refine lv_iadd hx hb dL_law_1193 ?_
  refine va_sld hx hb hX hbl hbA hS hin3 dL_law_1194 ?_
  refine callGVi (As := [.int (xs (x4 + 1).toNatClampNeg), .int (xs (x4 + 2).toNatClampNeg), .int (xs (x4 + 3).toNatClampNeg)]) (rest := [.int r]) (cs' := [cX11 cy (u 0) (u 1 0) (u 2 0) (u 6 0) (u 8 0) (u 9 0) (u 10 0) (u 11 0) (u 12 0) (u 13 0) (u 14 0) (u 15 0) (u 16 0) (u 17 0) (u 18 0) (u 19 0) (cv 0), [(u 1 0, .inl (cy 0, 700, .inl T))], cX7 cy (u 2) (u 3 0) (u 4 0) (cv 2), cX9 cy (u 3) (cv 3), cX6 cy (u 4) (u 5 0) (cv 4), cX3 cy (u 5) (cv 5), cX6 cy (u 6) (u 7 0) (cv 6), cX3 cy (u 7) (cv 7), cX8 cy (u 8) (cv 8), cX8 cy (u 9) (cv 9), cX8 cy (u 10) (cv 10), cX0 cy (u 11) (cv 11), cX10 cy (u 12) (cv 12), cX10 cy (u 13) (cv 13), cX10 cy (u 14) (cv 14), cX2 cy (u 15) (cv 15), cX5 cy (u 16) (cv 16), cX1 cy (u 17) (cv 17), cX4 cy (u 18) (cv 18), [(u 19 0, .inl (cy 2, 73, .inr (.inl B)))], cX12 cy adm v1, [(qo, .inl (cy 2, 1, .inr (.inl o)))]]) (ccs := [cX12 cy adm v]) (ccs' := [cX12 cy adm v1]) (isC := [20]) (isR := [0, 1, 2, 3, 4, 5, 6, 7, 8, 9, 10, 11, 12, 13, 14, 15, 16, 17, 18, 19, 21]) hx hb hml hown hts (k_X12_rest l G cy ev N adm v (xs (x4 + 1).toNatClampNeg) (xs (x4 + 2).toNatClampNeg) (xs (x4 + 3).toNatClampNeg) (r, v1) hm) wm_49_17 wm_49_18 wm_49_19 wm_1_5 wm_49_20 hd_X12_rest ⟨by decide, by decide⟩ wj_one.symm wj_one.symm (by show _ ≤ 601024; omega) (by show _ ≤ 7293034; omega) hK hP hD hS hA hE rfl rfl rfl (cov_of (n := 22) rfl (by decide)) (by decide) rfl (recvW (ci := 20) hK hP rfl (show (cX12 cy adm v)[0]? = some (adm 0, _) from rfl) rfl) rfl rfl hl.1 (Nat.le_of_ble_eq_true rfl) dL_law_1195 (fun H locs hP hD hS => ?_)
  refine lv_icmp_eq (tgt := 1493) hx hb dL_law_1198 (by decide) (fun _ => ?_) (fun c9 => absurd rfl c9)
  obtain ⟨x5, e5⟩ : ∃ y : Int32, y = x4 + 6 := ⟨_, rfl⟩
  refine lv_iinc (v := x5) (lv' := [(4, .int x5), (0, .ref b), (1, .ref (u 0 0)), (2, .ref (adm 0)), (3, .ref qo)]) hx hb dL_law_1493 hl (k := 4) rfl (by rw [e5]; rfl) (by decide) rfl (fun ls hl => ?_)
  refine lv_goto (tgt := 23) hx hb dL_law_1496 (by decide) ?_
  refine W.widen (k := 170 + (k + 1)) (n := 6921 + 6 * (k + 1)) (by omega) (by omega) ?_
  exact ih (u) adm qo (cv) T B v1 o x5 _ _ ls (by rw [e5, hx4]; exact (nI_add (6 * k) 6).trans (by rw [Nat.mul_succ])) hI hP hD hS (lv_sub hl [1, 2, 3, 4, 0] rfl)
set_option maxHeartbeats 4000000 in
set_option maxRecDepth 100000 in
theorem law_note {p : Program} {l : Launch} {e : Env} {s : State} {m : MethodId} {below : List Frame} {meth : Method} {cd : Code} {b L : Nat} {xs : Nat → Int32} {N : Nat} {INV : (Nat → VV) → (Nat → Int32) → (Nat → Int64) → VV → Prop} {G : va_G} {cy : Nat → ClassId} {ev : Nat → Nat} (hst : ST_note N INV) (C : LCX p s m meth cd b L xs G cy ev) (k : Nat) (hk : 6 * k + 6 ≤ L) (ih : LOOPS p l e s m below meth cd b L INV G cy (k + 1)) (u : Nat → Nat → Nat) (adm : Nat → Nat) (qo : Nat) (cv : Nat → VV) (T : Nat → Int32) (B : Nat → Int64) (v : VV) (o : Nat → Int64) (x4 : Int32) (H : Heap) (locs : List Loc) (ls : Array Slot) (hx4 : x4 = nI (6 * k)) (hI : INV cv T B v) (hP : va_P G vwCl (wj (W22 cy u adm qo cv T B v o)) H) (hD : va_D (fun q => s.heap.size ≤ q) (wj (W22 cy u adm qo cv T B v o))) (hS : va_S (fun q => s.heap.size ≤ q) s.heap H locs) (hl : lv_has ls 7 [(0, .ref b), (1, .ref (u 0 0)), (2, .ref (adm 0)), (3, .ref qo), (4, .int x4)]) : W p l e room_1 s m #[Value.ref b] below meth cd H locs (170 + k) (6921 + 6 * k) (lw_Z below #[Value.ref b] s) (F0 m 1203 ls []) := by
  obtain ⟨hx, hb, hml, hown, hts, hK, hE, hX, hbl, hL⟩ := C
  have hA : ∀ q : Nat, s.heap.size ≤ q → (fun q : Nat => s.heap.size ≤ q) q := fun _ h => h
  have hbA : ¬ (fun q : Nat => s.heap.size ≤ q) b := Nat.not_le.mpr hbl
  have hin1 : vp_in (x4 + 1) L := by rw [hx4]; exact ix_in (j := 1) hk hL (by decide)
  have hin2 : vp_in (x4 + 2) L := by rw [hx4]; exact ix_in (j := 2) hk hL (by decide)
  have hin3 : vp_in (x4 + 3) L := by rw [hx4]; exact ix_in (j := 3) hk hL (by decide)
  have hin4 : vp_in (x4 + 4) L := by rw [hx4]; exact ix_in (j := 4) hk hL (by decide)
  have hin5 : vp_in (x4 + 5) L := by rw [hx4]; exact ix_in (j := 5) hk hL (by decide)
  refine lv_aload_n hx hb dL_law_1203 rfl (lv_at hl 1 rfl) ?_
  refine lv_aload_n hx hb dL_law_1204 rfl (lv_at hl 0 rfl) ?_
  refine lv_iload hx hb dL_law_1205 (lv_at hl 4 rfl) ?_
  refine lv_iconst (v := 1) hx hb dL_law_1207 (by decide) ?_
  refine lv_iadd hx hb dL_law_1208 ?_
  refine va_sld hx hb hX hbl hbA hS hin1 dL_law_1209 ?_
  refine lv_aload_n hx hb dL_law_1210 rfl (lv_at hl 0 rfl) ?_
  refine lv_iload hx hb dL_law_1211 (lv_at hl 4 rfl) ?_
  refine lv_iconst (v := 2) hx hb dL_law_1213 (by decide) ?_
  refine lv_iadd hx hb dL_law_1214 ?_
  refine va_sld hx hb hX hbl hbA hS hin2 dL_law_1215 ?_
  refine lv_aload_n hx hb dL_law_1216 rfl (lv_at hl 0 rfl) ?_
  refine lv_iload hx hb dL_law_1217 (lv_at hl 4 rfl) ?_
  refine lv_iconst (v := 3) hx hb dL_law_1219 (by decide) ?_
  refine lv_iadd hx hb dL_law_1220 ?_
  refine va_sld hx hb hX hbl hbA hS hin3 dL_law_1221 ?_
  refine lv_if_eq (tgt := 1229) hx hb dL_law_1222 (by decide) (fun c8 => ?_) (fun c8 => ?_)
  · refine lv_iconst (v := 0) hx hb dL_law_1229 (by decide) ?_
    obtain ⟨r, n0, v1, hf, hm, hI⟩ := hst cv T B v (xs (x4 + 1).toNatClampNeg) (xs (x4 + 2).toNatClampNeg) 0 hI (Or.inl rfl)
    refine callGVi (As := [.int (xs (x4 + 1).toNatClampNeg), .int (xs (x4 + 2).toNatClampNeg), .int 0]) (rest := []) (cs' := [cX11 cy (u 0) (u 1 0) (u 2 0) (u 6 0) (u 8 0) (u 9 0) (u 10 0) (u 11 0) (u 12 0) (u 13 0) (u 14 0) (u 15 0) (u 16 0) (u 17 0) (u 18 0) (u 19 0) (cv 0), [(u 1 0, .inl (cy 0, 700, .inl T))], cX7 cy (u 2) (u 3 0) (u 4 0) (cv 2), cX9 cy (u 3) (cv 3), cX6 cy (u 4) (u 5 0) (cv 4), cX3 cy (u 5) (cv 5), cX6 cy (u 6) (u 7 0) (cv 6), cX3 cy (u 7) (cv 7), cX8 cy (u 8) (cv 8), cX8 cy (u 9) (cv 9), cX8 cy (u 10) (cv 10), cX0 cy (u 11) (cv 11), cX10 cy (u 12) (cv 12), cX10 cy (u 13) (cv 13), cX10 cy (u 14) (cv 14), cX2 cy (u 15) (cv 15), cX5 cy (u 16) n0, cX1 cy (u 17) (cv 17), cX4 cy (u 18) (cv 18), [(u 19 0, .inl (cy 2, 73, .inr (.inl B)))], cX12 cy adm v, [(qo, .inl (cy 2, 1, .inr (.inl o)))]]) (ccs := [cX11 cy (u 0) (u 1 0) (u 2 0) (u 6 0) (u 8 0) (u 9 0) (u 10 0) (u 11 0) (u 12 0) (u 13 0) (u 14 0) (u 15 0) (u 16 0) (u 17 0) (u 18 0) (u 19 0) (cv 0), cX6 cy (u 6) (u 7 0) (cv 6), cX5 cy (u 16) (cv 16)]) (ccs' := [cX11 cy (u 0) (u 1 0) (u 2 0) (u 6 0) (u 8 0) (u 9 0) (u 10 0) (u 11 0) (u 12 0) (u 13 0) (u 14 0) (u 15 0) (u 16 0) (u 17 0) (u 18 0) (u 19 0) (cv 0), cX6 cy (u 6) (u 7 0) (cv 6), cX5 cy (u 16) n0]) (isC := [0, 6, 16]) (isR := [1, 2, 3, 4, 5, 7, 8, 9, 10, 11, 12, 13, 14, 15, 17, 18, 19, 20, 21]) hx hb hml hown hts (k_X11_note l G cy ev (u 0) (u 1 0) (u 2 0) (u 8 0) (u 9 0) (u 10 0) (u 11 0) (u 12 0) (u 13 0) (u 14 0) (u 15 0) (u 17 0) (u 18 0) (u 19 0) (cv 0) (u 6) (u 7 0) (cv 6) (u 16) (cv 16) (xs (x4 + 1).toNatClampNeg) (xs (x4 + 2).toNatClampNeg) 0 (r, n0) hf) wm_49_21 wm_49_22 wm_49_23 wm_1_2 wm_50_0 hd_X11_note ⟨by decide, by decide⟩ rfl rfl (by show _ ≤ 601024; omega) (by show _ ≤ 7293034; omega) hK hP hD hS hA hE rfl rfl rfl (cov_of (n := 22) rfl (by decide)) (by decide) rfl (recvW (ci := 0) hK hP rfl cX11_o rfl) rfl rfl hl.1 (Nat.le_of_ble_eq_true rfl) dL_law_1230 (fun H locs hP hD hS => ?_)
    refine lv_aload_n hx hb dL_law_1233 rfl (lv_at hl 2 rfl) ?_
    refine lv_aload_n hx hb dL_law_1234 rfl (lv_at hl 0 rfl) ?_
    refine lv_iload hx hb dL_law_1235 (lv_at hl 4 rfl) ?_
    refine lv_iconst (v := 1) hx hb dL_law_1237 (by decide) ?_
    refine lv_iadd hx hb dL_law_1238 ?_
    refine va_sld hx hb hX hbl hbA hS hin1 dL_law_1239 ?_
    refine lv_aload_n hx hb dL_law_1240 rfl (lv_at hl 0 rfl) ?_
    refine lv_iload hx hb dL_law_1241 (lv_at hl 4 rfl) ?_
    refine lv_iconst (v := 2) hx hb dL_law_1243 (by decide) ?_
    refine lv_iadd hx hb dL_law_1244 ?_
    refine va_sld hx hb hX hbl hbA hS hin2 dL_law_1245 ?_
    refine lv_aload_n hx hb dL_law_1246 rfl (lv_at hl 0 rfl) ?_
    refine lv_iload hx hb dL_law_1247 (lv_at hl 4 rfl) ?_
    refine lv_iconst (v := 3) hx hb dL_law_1249 (by decide) ?_
    refine lv_iadd hx hb dL_law_1250 ?_
    refine va_sld hx hb hX hbl hbA hS hin3 dL_law_1251 ?_
    refine lv_if_eq (tgt := 1259) hx hb dL_law_1252 (by decide) (fun _ => ?_) (fun c9 => absurd c8 c9)
    refine lv_iconst (v := 0) hx hb dL_law_1259 (by decide) ?_
    refine callGVi (As := [.int (xs (x4 + 1).toNatClampNeg), .int (xs (x4 + 2).toNatClampNeg), .int 0]) (rest := [.int r]) (cs' := [cX11 cy (u 0) (u 1 0) (u 2 0) (u 6 0) (u 8 0) (u 9 0) (u 10 0) (u 11 0) (u 12 0) (u 13 0) (u 14 0) (u 15 0) (u 16 0) (u 17 0) (u 18 0) (u 19 0) (cv 0), [(u 1 0, .inl (cy 0, 700, .inl T))], cX7 cy (u 2) (u 3 0) (u 4 0) (cv 2), cX9 cy (u 3) (cv 3), cX6 cy (u 4) (u 5 0) (cv 4), cX3 cy (u 5) (cv 5), cX6 cy (u 6) (u 7 0) (cv 6), cX3 cy (u 7) (cv 7), cX8 cy (u 8) (cv 8), cX8 cy (u 9) (cv 9), cX8 cy (u 10) (cv 10), cX0 cy (u 11) (cv 11), cX10 cy (u 12) (cv 12), cX10 cy (u 13) (cv 13), cX10 cy (u 14) (cv 14), cX2 cy (u 15) (cv 15), cX5 cy (u 16) n0, cX1 cy (u 17) (cv 17), cX4 cy (u 18) (cv 18), [(u 19 0, .inl (cy 2, 73, .inr (.inl B)))], cX12 cy adm v1, [(qo, .inl (cy 2, 1, .inr (.inl o)))]]) (ccs := [cX12 cy adm v]) (ccs' := [cX12 cy adm v1]) (isC := [20]) (isR := [0, 1, 2, 3, 4, 5, 6, 7, 8, 9, 10, 11, 12, 13, 14, 15, 16, 17, 18, 19, 21]) hx hb hml hown hts (k_X12_note l G cy ev adm v (xs (x4 + 1).toNatClampNeg) (xs (x4 + 2).toNatClampNeg) 0 (r, v1) hm) wm_50_5 wm_50_6 wm_50_7 wm_1_5 wm_50_8 hd_X12_note ⟨by decide, by decide⟩ wj_one.symm wj_one.symm (by show _ ≤ 601024; omega) (by show _ ≤ 7293034; omega) hK hP hD hS hA hE rfl rfl rfl (cov_of (n := 22) rfl (by decide)) (by decide) rfl (recvW (ci := 20) hK hP rfl (show (cX12 cy adm v)[0]? = some (adm 0, _) from rfl) rfl) rfl rfl hl.1 (Nat.le_of_ble_eq_true rfl) dL_law_1260 (fun H locs hP hD hS => ?_)
    refine lv_icmp_eq (tgt := 1493) hx hb dL_law_1263 (by decide) (fun _ => ?_) (fun c9 => absurd rfl c9)
    obtain ⟨x5, e5⟩ : ∃ y : Int32, y = x4 + 6 := ⟨_, rfl⟩
    refine lv_iinc (v := x5) (lv' := [(4, .int x5), (0, .ref b), (1, .ref (u 0 0)), (2, .ref (adm 0)), (3, .ref qo)]) hx hb dL_law_1493 hl (k := 4) rfl (by rw [e5]; rfl) (by decide) rfl (fun ls hl => ?_)
    refine lv_goto (tgt := 23) hx hb dL_law_1496 (by decide) ?_
    refine W.widen (k := 170 + (k + 1)) (n := 6921 + 6 * (k + 1)) (by omega) (by omega) ?_
    exact ih (u) adm qo (uc cv 16 n0) T B v1 o x5 _ _ ls (by rw [e5, hx4]; exact (nI_add (6 * k) 6).trans (by rw [Nat.mul_succ])) hI hP hD hS (lv_sub hl [1, 2, 3, 4, 0] rfl)
  · refine lv_iconst (v := 1) hx hb dL_law_1225 (by decide) ?_
    refine lv_goto (tgt := 1230) hx hb dL_law_1226 (by decide) ?_
    obtain ⟨r, n0, v1, hf, hm, hI⟩ := hst cv T B v (xs (x4 + 1).toNatClampNeg) (xs (x4 + 2).toNatClampNeg) 1 hI (Or.inr rfl)
    refine callGVi (As := [.int (xs (x4 + 1).toNatClampNeg), .int (xs (x4 + 2).toNatClampNeg), .int 1]) (rest := []) (cs' := [cX11 cy (u 0) (u 1 0) (u 2 0) (u 6 0) (u 8 0) (u 9 0) (u 10 0) (u 11 0) (u 12 0) (u 13 0) (u 14 0) (u 15 0) (u 16 0) (u 17 0) (u 18 0) (u 19 0) (cv 0), [(u 1 0, .inl (cy 0, 700, .inl T))], cX7 cy (u 2) (u 3 0) (u 4 0) (cv 2), cX9 cy (u 3) (cv 3), cX6 cy (u 4) (u 5 0) (cv 4), cX3 cy (u 5) (cv 5), cX6 cy (u 6) (u 7 0) (cv 6), cX3 cy (u 7) (cv 7), cX8 cy (u 8) (cv 8), cX8 cy (u 9) (cv 9), cX8 cy (u 10) (cv 10), cX0 cy (u 11) (cv 11), cX10 cy (u 12) (cv 12), cX10 cy (u 13) (cv 13), cX10 cy (u 14) (cv 14), cX2 cy (u 15) (cv 15), cX5 cy (u 16) n0, cX1 cy (u 17) (cv 17), cX4 cy (u 18) (cv 18), [(u 19 0, .inl (cy 2, 73, .inr (.inl B)))], cX12 cy adm v, [(qo, .inl (cy 2, 1, .inr (.inl o)))]]) (ccs := [cX11 cy (u 0) (u 1 0) (u 2 0) (u 6 0) (u 8 0) (u 9 0) (u 10 0) (u 11 0) (u 12 0) (u 13 0) (u 14 0) (u 15 0) (u 16 0) (u 17 0) (u 18 0) (u 19 0) (cv 0), cX6 cy (u 6) (u 7 0) (cv 6), cX5 cy (u 16) (cv 16)]) (ccs' := [cX11 cy (u 0) (u 1 0) (u 2 0) (u 6 0) (u 8 0) (u 9 0) (u 10 0) (u 11 0) (u 12 0) (u 13 0) (u 14 0) (u 15 0) (u 16 0) (u 17 0) (u 18 0) (u 19 0) (cv 0), cX6 cy (u 6) (u 7 0) (cv 6), cX5 cy (u 16) n0]) (isC := [0, 6, 16]) (isR := [1, 2, 3, 4, 5, 7, 8, 9, 10, 11, 12, 13, 14, 15, 17, 18, 19, 20, 21]) hx hb hml hown hts (k_X11_note l G cy ev (u 0) (u 1 0) (u 2 0) (u 8 0) (u 9 0) (u 10 0) (u 11 0) (u 12 0) (u 13 0) (u 14 0) (u 15 0) (u 17 0) (u 18 0) (u 19 0) (cv 0) (u 6) (u 7 0) (cv 6) (u 16) (cv 16) (xs (x4 + 1).toNatClampNeg) (xs (x4 + 2).toNatClampNeg) 1 (r, n0) hf) wm_49_21 wm_49_22 wm_49_23 wm_1_2 wm_50_0 hd_X11_note ⟨by decide, by decide⟩ rfl rfl (by show _ ≤ 601024; omega) (by show _ ≤ 7293034; omega) hK hP hD hS hA hE rfl rfl rfl (cov_of (n := 22) rfl (by decide)) (by decide) rfl (recvW (ci := 0) hK hP rfl cX11_o rfl) rfl rfl hl.1 (Nat.le_of_ble_eq_true rfl) dL_law_1230 (fun H locs hP hD hS => ?_)
    refine lv_aload_n hx hb dL_law_1233 rfl (lv_at hl 2 rfl) ?_
    refine lv_aload_n hx hb dL_law_1234 rfl (lv_at hl 0 rfl) ?_
    refine lv_iload hx hb dL_law_1235 (lv_at hl 4 rfl) ?_
    refine lv_iconst (v := 1) hx hb dL_law_1237 (by decide) ?_
    refine lv_iadd hx hb dL_law_1238 ?_
    refine va_sld hx hb hX hbl hbA hS hin1 dL_law_1239 ?_
    refine lv_aload_n hx hb dL_law_1240 rfl (lv_at hl 0 rfl) ?_
    refine lv_iload hx hb dL_law_1241 (lv_at hl 4 rfl) ?_
    refine lv_iconst (v := 2) hx hb dL_law_1243 (by decide) ?_
    refine lv_iadd hx hb dL_law_1244 ?_
    refine va_sld hx hb hX hbl hbA hS hin2 dL_law_1245 ?_
    refine lv_aload_n hx hb dL_law_1246 rfl (lv_at hl 0 rfl) ?_
    refine lv_iload hx hb dL_law_1247 (lv_at hl 4 rfl) ?_
    refine lv_iconst (v := 3) hx hb dL_law_1249 (by decide) ?_
    refine lv_iadd hx hb dL_law_1250 ?_
    refine va_sld hx hb hX hbl hbA hS hin3 dL_law_1251 ?_
    refine lv_if_eq (tgt := 1259) hx hb dL_law_1252 (by decide) (fun c9 => absurd c9 c8) (fun _ => ?_)
    refine lv_iconst (v := 1) hx hb dL_law_1255 (by decide) ?_
    refine lv_goto (tgt := 1260) hx hb dL_law_1256 (by decide) ?_
    refine callGVi (As := [.int (xs (x4 + 1).toNatClampNeg), .int (xs (x4 + 2).toNatClampNeg), .int 1]) (rest := [.int r]) (cs' := [cX11 cy (u 0) (u 1 0) (u 2 0) (u 6 0) (u 8 0) (u 9 0) (u 10 0) (u 11 0) (u 12 0) (u 13 0) (u 14 0) (u 15 0) (u 16 0) (u 17 0) (u 18 0) (u 19 0) (cv 0), [(u 1 0, .inl (cy 0, 700, .inl T))], cX7 cy (u 2) (u 3 0) (u 4 0) (cv 2), cX9 cy (u 3) (cv 3), cX6 cy (u 4) (u 5 0) (cv 4), cX3 cy (u 5) (cv 5), cX6 cy (u 6) (u 7 0) (cv 6), cX3 cy (u 7) (cv 7), cX8 cy (u 8) (cv 8), cX8 cy (u 9) (cv 9), cX8 cy (u 10) (cv 10), cX0 cy (u 11) (cv 11), cX10 cy (u 12) (cv 12), cX10 cy (u 13) (cv 13), cX10 cy (u 14) (cv 14), cX2 cy (u 15) (cv 15), cX5 cy (u 16) n0, cX1 cy (u 17) (cv 17), cX4 cy (u 18) (cv 18), [(u 19 0, .inl (cy 2, 73, .inr (.inl B)))], cX12 cy adm v1, [(qo, .inl (cy 2, 1, .inr (.inl o)))]]) (ccs := [cX12 cy adm v]) (ccs' := [cX12 cy adm v1]) (isC := [20]) (isR := [0, 1, 2, 3, 4, 5, 6, 7, 8, 9, 10, 11, 12, 13, 14, 15, 16, 17, 18, 19, 21]) hx hb hml hown hts (k_X12_note l G cy ev adm v (xs (x4 + 1).toNatClampNeg) (xs (x4 + 2).toNatClampNeg) 1 (r, v1) hm) wm_50_5 wm_50_6 wm_50_7 wm_1_5 wm_50_8 hd_X12_note ⟨by decide, by decide⟩ wj_one.symm wj_one.symm (by show _ ≤ 601024; omega) (by show _ ≤ 7293034; omega) hK hP hD hS hA hE rfl rfl rfl (cov_of (n := 22) rfl (by decide)) (by decide) rfl (recvW (ci := 20) hK hP rfl (show (cX12 cy adm v)[0]? = some (adm 0, _) from rfl) rfl) rfl rfl hl.1 (Nat.le_of_ble_eq_true rfl) dL_law_1260 (fun H locs hP hD hS => ?_)
    refine lv_icmp_eq (tgt := 1493) hx hb dL_law_1263 (by decide) (fun _ => ?_) (fun c9 => absurd rfl c9)
    obtain ⟨x5, e5⟩ : ∃ y : Int32, y = x4 + 6 := ⟨_, rfl⟩
    refine lv_iinc (v := x5) (lv' := [(4, .int x5), (0, .ref b), (1, .ref (u 0 0)), (2, .ref (adm 0)), (3, .ref qo)]) hx hb dL_law_1493 hl (k := 4) rfl (by rw [e5]; rfl) (by decide) rfl (fun ls hl => ?_)
    refine lv_goto (tgt := 23) hx hb dL_law_1496 (by decide) ?_
    refine W.widen (k := 170 + (k + 1)) (n := 6921 + 6 * (k + 1)) (by omega) (by omega) ?_
    exact ih (u) adm qo (uc cv 16 n0) T B v1 o x5 _ _ ls (by rw [e5, hx4]; exact (nI_add (6 * k) 6).trans (by rw [Nat.mul_succ])) hI hP hD hS (lv_sub hl [1, 2, 3, 4, 0] rfl)
set_option maxHeartbeats 4000000 in
set_option maxRecDepth 100000 in
theorem law_out {p : Program} {l : Launch} {e : Env} {s : State} {m : MethodId} {below : List Frame} {meth : Method} {cd : Code} {b L : Nat} {xs : Nat → Int32} {N : Nat} {INV : (Nat → VV) → (Nat → Int32) → (Nat → Int64) → VV → Prop} {G : va_G} {cy : Nat → ClassId} {ev : Nat → Nat} (hst : ST_out N INV) (C : LCX p s m meth cd b L xs G cy ev) (k : Nat) (hk : 6 * k + 6 ≤ L) (ih : LOOPS p l e s m below meth cd b L INV G cy (k + 1)) (u : Nat → Nat → Nat) (adm : Nat → Nat) (qo : Nat) (cv : Nat → VV) (T : Nat → Int32) (B : Nat → Int64) (v : VV) (o : Nat → Int64) (x4 : Int32) (H : Heap) (locs : List Loc) (ls : Array Slot) (hx4 : x4 = nI (6 * k)) (hI : INV cv T B v) (hP : va_P G vwCl (wj (W22 cy u adm qo cv T B v o)) H) (hD : va_D (fun q => s.heap.size ≤ q) (wj (W22 cy u adm qo cv T B v o))) (hS : va_S (fun q => s.heap.size ≤ q) s.heap H locs) (hl : lv_has ls 7 [(0, .ref b), (1, .ref (u 0 0)), (2, .ref (adm 0)), (3, .ref qo), (4, .int x4)]) : W p l e room_1 s m #[Value.ref b] below meth cd H locs (170 + k) (6921 + 6 * k) (lw_Z below #[Value.ref b] s) (F0 m 1268 ls []) := by
  obtain ⟨hx, hb, hml, hown, hts, hK, hE, hX, hbl, hL⟩ := C
  have hA : ∀ q : Nat, s.heap.size ≤ q → (fun q : Nat => s.heap.size ≤ q) q := fun _ h => h
  have hbA : ¬ (fun q : Nat => s.heap.size ≤ q) b := Nat.not_le.mpr hbl
  have hin1 : vp_in (x4 + 1) L := by rw [hx4]; exact ix_in (j := 1) hk hL (by decide)
  have hin2 : vp_in (x4 + 2) L := by rw [hx4]; exact ix_in (j := 2) hk hL (by decide)
  have hin3 : vp_in (x4 + 3) L := by rw [hx4]; exact ix_in (j := 3) hk hL (by decide)
  have hin4 : vp_in (x4 + 4) L := by rw [hx4]; exact ix_in (j := 4) hk hL (by decide)
  have hin5 : vp_in (x4 + 5) L := by rw [hx4]; exact ix_in (j := 5) hk hL (by decide)
  refine lv_aload_n hx hb dL_law_1268 rfl (lv_at hl 1 rfl) ?_
  refine lv_aload_n hx hb dL_law_1269 rfl (lv_at hl 0 rfl) ?_
  refine lv_iload hx hb dL_law_1270 (lv_at hl 4 rfl) ?_
  refine lv_iconst (v := 1) hx hb dL_law_1272 (by decide) ?_
  refine lv_iadd hx hb dL_law_1273 ?_
  refine va_sld hx hb hX hbl hbA hS hin1 dL_law_1274 ?_
  obtain ⟨r, n0, v1, hf, hm, hI⟩ := hst cv T B v (xs (x4 + 1).toNatClampNeg) hI
  refine callGVi (As := [.int (xs (x4 + 1).toNatClampNeg)]) (rest := []) (cs' := [cX11 cy (u 0) (u 1 0) (u 2 0) (u 6 0) (u 8 0) (u 9 0) (u 10 0) (u 11 0) (u 12 0) (u 13 0) (u 14 0) (u 15 0) (u 16 0) (u 17 0) (u 18 0) (u 19 0) (cv 0), [(u 1 0, .inl (cy 0, 700, .inl T))], cX7 cy (u 2) (u 3 0) (u 4 0) (cv 2), cX9 cy (u 3) (cv 3), cX6 cy (u 4) (u 5 0) (cv 4), cX3 cy (u 5) (cv 5), cX6 cy (u 6) (u 7 0) (cv 6), cX3 cy (u 7) (cv 7), cX8 cy (u 8) (cv 8), cX8 cy (u 9) (cv 9), cX8 cy (u 10) (cv 10), cX0 cy (u 11) (cv 11), cX10 cy (u 12) (cv 12), cX10 cy (u 13) (cv 13), cX10 cy (u 14) (cv 14), cX2 cy (u 15) (cv 15), cX5 cy (u 16) n0, cX1 cy (u 17) (cv 17), cX4 cy (u 18) (cv 18), [(u 19 0, .inl (cy 2, 73, .inr (.inl B)))], cX12 cy adm v, [(qo, .inl (cy 2, 1, .inr (.inl o)))]]) (ccs := [cX11 cy (u 0) (u 1 0) (u 2 0) (u 6 0) (u 8 0) (u 9 0) (u 10 0) (u 11 0) (u 12 0) (u 13 0) (u 14 0) (u 15 0) (u 16 0) (u 17 0) (u 18 0) (u 19 0) (cv 0), cX5 cy (u 16) (cv 16)]) (ccs' := [cX11 cy (u 0) (u 1 0) (u 2 0) (u 6 0) (u 8 0) (u 9 0) (u 10 0) (u 11 0) (u 12 0) (u 13 0) (u 14 0) (u 15 0) (u 16 0) (u 17 0) (u 18 0) (u 19 0) (cv 0), cX5 cy (u 16) n0]) (isC := [0, 16]) (isR := [1, 2, 3, 4, 5, 6, 7, 8, 9, 10, 11, 12, 13, 14, 15, 17, 18, 19, 20, 21]) hx hb hml hown hts (k_X11_out l G cy ev (u 0) (u 1 0) (u 2 0) (u 6 0) (u 8 0) (u 9 0) (u 10 0) (u 11 0) (u 12 0) (u 13 0) (u 14 0) (u 15 0) (u 17 0) (u 18 0) (u 19 0) (cv 0) (u 16) (cv 16) (xs (x4 + 1).toNatClampNeg) (r, n0) hf) wm_50_9 wm_50_10 wm_50_11 wm_1_2 wm_50_12 hd_X11_out ⟨by decide, by decide⟩ rfl rfl (by show _ ≤ 601024; omega) (by show _ ≤ 7293034; omega) hK hP hD hS hA hE rfl rfl rfl (cov_of (n := 22) rfl (by decide)) (by decide) rfl (recvW (ci := 0) hK hP rfl cX11_o rfl) rfl rfl hl.1 (Nat.le_of_ble_eq_true rfl) dL_law_1275 (fun H locs hP hD hS => ?_)
  refine lv_aload_n hx hb dL_law_1278 rfl (lv_at hl 2 rfl) ?_
  refine lv_aload_n hx hb dL_law_1279 rfl (lv_at hl 0 rfl) ?_
  refine lv_iload hx hb dL_law_1280 (lv_at hl 4 rfl) ?_
  refine lv_iconst (v := 1) hx hb dL_law_1282 (by decide) ?_
  refine lv_iadd hx hb dL_law_1283 ?_
  refine va_sld hx hb hX hbl hbA hS hin1 dL_law_1284 ?_
  refine callGVi (As := [.int (xs (x4 + 1).toNatClampNeg)]) (rest := [.int r]) (cs' := [cX11 cy (u 0) (u 1 0) (u 2 0) (u 6 0) (u 8 0) (u 9 0) (u 10 0) (u 11 0) (u 12 0) (u 13 0) (u 14 0) (u 15 0) (u 16 0) (u 17 0) (u 18 0) (u 19 0) (cv 0), [(u 1 0, .inl (cy 0, 700, .inl T))], cX7 cy (u 2) (u 3 0) (u 4 0) (cv 2), cX9 cy (u 3) (cv 3), cX6 cy (u 4) (u 5 0) (cv 4), cX3 cy (u 5) (cv 5), cX6 cy (u 6) (u 7 0) (cv 6), cX3 cy (u 7) (cv 7), cX8 cy (u 8) (cv 8), cX8 cy (u 9) (cv 9), cX8 cy (u 10) (cv 10), cX0 cy (u 11) (cv 11), cX10 cy (u 12) (cv 12), cX10 cy (u 13) (cv 13), cX10 cy (u 14) (cv 14), cX2 cy (u 15) (cv 15), cX5 cy (u 16) n0, cX1 cy (u 17) (cv 17), cX4 cy (u 18) (cv 18), [(u 19 0, .inl (cy 2, 73, .inr (.inl B)))], cX12 cy adm v1, [(qo, .inl (cy 2, 1, .inr (.inl o)))]]) (ccs := [cX12 cy adm v]) (ccs' := [cX12 cy adm v1]) (isC := [20]) (isR := [0, 1, 2, 3, 4, 5, 6, 7, 8, 9, 10, 11, 12, 13, 14, 15, 16, 17, 18, 19, 21]) hx hb hml hown hts (k_X12_out l G cy ev adm v (xs (x4 + 1).toNatClampNeg) (r, v1) hm) wm_50_17 wm_50_18 wm_50_19 wm_1_5 wm_50_20 hd_X12_out ⟨by decide, by decide⟩ wj_one.symm wj_one.symm (by show _ ≤ 601024; omega) (by show _ ≤ 7293034; omega) hK hP hD hS hA hE rfl rfl rfl (cov_of (n := 22) rfl (by decide)) (by decide) rfl (recvW (ci := 20) hK hP rfl (show (cX12 cy adm v)[0]? = some (adm 0, _) from rfl) rfl) rfl rfl hl.1 (Nat.le_of_ble_eq_true rfl) dL_law_1285 (fun H locs hP hD hS => ?_)
  refine lv_icmp_eq (tgt := 1493) hx hb dL_law_1288 (by decide) (fun _ => ?_) (fun c9 => absurd rfl c9)
  obtain ⟨x5, e5⟩ : ∃ y : Int32, y = x4 + 6 := ⟨_, rfl⟩
  refine lv_iinc (v := x5) (lv' := [(4, .int x5), (0, .ref b), (1, .ref (u 0 0)), (2, .ref (adm 0)), (3, .ref qo)]) hx hb dL_law_1493 hl (k := 4) rfl (by rw [e5]; rfl) (by decide) rfl (fun ls hl => ?_)
  refine lv_goto (tgt := 23) hx hb dL_law_1496 (by decide) ?_
  refine W.widen (k := 170 + (k + 1)) (n := 6921 + 6 * (k + 1)) (by omega) (by omega) ?_
  exact ih (u) adm qo (uc cv 16 n0) T B v1 o x5 _ _ ls (by rw [e5, hx4]; exact (nI_add (6 * k) 6).trans (by rw [Nat.mul_succ])) hI hP hD hS (lv_sub hl [1, 2, 3, 4, 0] rfl)
set_option maxHeartbeats 4000000 in
set_option maxRecDepth 100000 in
theorem law_known {p : Program} {l : Launch} {e : Env} {s : State} {m : MethodId} {below : List Frame} {meth : Method} {cd : Code} {b L : Nat} {xs : Nat → Int32} {N : Nat} {INV : (Nat → VV) → (Nat → Int32) → (Nat → Int64) → VV → Prop} {G : va_G} {cy : Nat → ClassId} {ev : Nat → Nat} (hst : ST_known N INV) (C : LCX p s m meth cd b L xs G cy ev) (k : Nat) (hk : 6 * k + 6 ≤ L) (ih : LOOPS p l e s m below meth cd b L INV G cy (k + 1)) (u : Nat → Nat → Nat) (adm : Nat → Nat) (qo : Nat) (cv : Nat → VV) (T : Nat → Int32) (B : Nat → Int64) (v : VV) (o : Nat → Int64) (x4 : Int32) (H : Heap) (locs : List Loc) (ls : Array Slot) (hx4 : x4 = nI (6 * k)) (hI : INV cv T B v) (hP : va_P G vwCl (wj (W22 cy u adm qo cv T B v o)) H) (hD : va_D (fun q => s.heap.size ≤ q) (wj (W22 cy u adm qo cv T B v o))) (hS : va_S (fun q => s.heap.size ≤ q) s.heap H locs) (hl : lv_has ls 7 [(0, .ref b), (1, .ref (u 0 0)), (2, .ref (adm 0)), (3, .ref qo), (4, .int x4)]) : W p l e room_1 s m #[Value.ref b] below meth cd H locs (170 + k) (6921 + 6 * k) (lw_Z below #[Value.ref b] s) (F0 m 1293 ls []) := by
  obtain ⟨hx, hb, hml, hown, hts, hK, hE, hX, hbl, hL⟩ := C
  have hA : ∀ q : Nat, s.heap.size ≤ q → (fun q : Nat => s.heap.size ≤ q) q := fun _ h => h
  have hbA : ¬ (fun q : Nat => s.heap.size ≤ q) b := Nat.not_le.mpr hbl
  have hin1 : vp_in (x4 + 1) L := by rw [hx4]; exact ix_in (j := 1) hk hL (by decide)
  have hin2 : vp_in (x4 + 2) L := by rw [hx4]; exact ix_in (j := 2) hk hL (by decide)
  have hin3 : vp_in (x4 + 3) L := by rw [hx4]; exact ix_in (j := 3) hk hL (by decide)
  have hin4 : vp_in (x4 + 4) L := by rw [hx4]; exact ix_in (j := 4) hk hL (by decide)
  have hin5 : vp_in (x4 + 5) L := by rw [hx4]; exact ix_in (j := 5) hk hL (by decide)
  refine lv_aload_n hx hb dL_law_1293 rfl (lv_at hl 1 rfl) ?_
  refine lv_aload_n hx hb dL_law_1294 rfl (lv_at hl 0 rfl) ?_
  refine lv_iload hx hb dL_law_1295 (lv_at hl 4 rfl) ?_
  refine lv_iconst (v := 1) hx hb dL_law_1297 (by decide) ?_
  refine lv_iadd hx hb dL_law_1298 ?_
  refine va_sld hx hb hX hbl hbA hS hin1 dL_law_1299 ?_
  obtain ⟨r, n0, v1, hf, hm, hI⟩ := hst cv T B v (xs (x4 + 1).toNatClampNeg) hI
  refine callGVi (As := [.int (xs (x4 + 1).toNatClampNeg)]) (rest := []) (cs' := [cX11 cy (u 0) (u 1 0) (u 2 0) (u 6 0) (u 8 0) (u 9 0) (u 10 0) (u 11 0) (u 12 0) (u 13 0) (u 14 0) (u 15 0) (u 16 0) (u 17 0) (u 18 0) (u 19 0) (cv 0), [(u 1 0, .inl (cy 0, 700, .inl T))], cX7 cy (u 2) (u 3 0) (u 4 0) (cv 2), cX9 cy (u 3) (cv 3), cX6 cy (u 4) (u 5 0) (cv 4), cX3 cy (u 5) (cv 5), cX6 cy (u 6) (u 7 0) (cv 6), cX3 cy (u 7) (cv 7), cX8 cy (u 8) (cv 8), cX8 cy (u 9) (cv 9), cX8 cy (u 10) (cv 10), cX0 cy (u 11) (cv 11), cX10 cy (u 12) (cv 12), cX10 cy (u 13) (cv 13), cX10 cy (u 14) (cv 14), cX2 cy (u 15) (cv 15), cX5 cy (u 16) n0, cX1 cy (u 17) (cv 17), cX4 cy (u 18) (cv 18), [(u 19 0, .inl (cy 2, 73, .inr (.inl B)))], cX12 cy adm v, [(qo, .inl (cy 2, 1, .inr (.inl o)))]]) (ccs := [cX11 cy (u 0) (u 1 0) (u 2 0) (u 6 0) (u 8 0) (u 9 0) (u 10 0) (u 11 0) (u 12 0) (u 13 0) (u 14 0) (u 15 0) (u 16 0) (u 17 0) (u 18 0) (u 19 0) (cv 0), cX5 cy (u 16) (cv 16)]) (ccs' := [cX11 cy (u 0) (u 1 0) (u 2 0) (u 6 0) (u 8 0) (u 9 0) (u 10 0) (u 11 0) (u 12 0) (u 13 0) (u 14 0) (u 15 0) (u 16 0) (u 17 0) (u 18 0) (u 19 0) (cv 0), cX5 cy (u 16) n0]) (isC := [0, 16]) (isR := [1, 2, 3, 4, 5, 6, 7, 8, 9, 10, 11, 12, 13, 14, 15, 17, 18, 19, 20, 21]) hx hb hml hown hts (k_X11_known l G cy ev (u 0) (u 1 0) (u 2 0) (u 6 0) (u 8 0) (u 9 0) (u 10 0) (u 11 0) (u 12 0) (u 13 0) (u 14 0) (u 15 0) (u 17 0) (u 18 0) (u 19 0) (cv 0) (u 16) (cv 16) (xs (x4 + 1).toNatClampNeg) (r, n0) hf) wm_50_21 wm_50_22 wm_50_23 wm_1_2 wm_51_0 hd_X11_known ⟨by decide, by decide⟩ rfl rfl (by show _ ≤ 601024; omega) (by show _ ≤ 7293034; omega) hK hP hD hS hA hE rfl rfl rfl (cov_of (n := 22) rfl (by decide)) (by decide) rfl (recvW (ci := 0) hK hP rfl cX11_o rfl) rfl rfl hl.1 (Nat.le_of_ble_eq_true rfl) dL_law_1300 (fun H locs hP hD hS => ?_)
  refine lv_aload_n hx hb dL_law_1303 rfl (lv_at hl 2 rfl) ?_
  refine lv_aload_n hx hb dL_law_1304 rfl (lv_at hl 0 rfl) ?_
  refine lv_iload hx hb dL_law_1305 (lv_at hl 4 rfl) ?_
  refine lv_iconst (v := 1) hx hb dL_law_1307 (by decide) ?_
  refine lv_iadd hx hb dL_law_1308 ?_
  refine va_sld hx hb hX hbl hbA hS hin1 dL_law_1309 ?_
  refine callGVi (As := [.int (xs (x4 + 1).toNatClampNeg)]) (rest := [.int r]) (cs' := [cX11 cy (u 0) (u 1 0) (u 2 0) (u 6 0) (u 8 0) (u 9 0) (u 10 0) (u 11 0) (u 12 0) (u 13 0) (u 14 0) (u 15 0) (u 16 0) (u 17 0) (u 18 0) (u 19 0) (cv 0), [(u 1 0, .inl (cy 0, 700, .inl T))], cX7 cy (u 2) (u 3 0) (u 4 0) (cv 2), cX9 cy (u 3) (cv 3), cX6 cy (u 4) (u 5 0) (cv 4), cX3 cy (u 5) (cv 5), cX6 cy (u 6) (u 7 0) (cv 6), cX3 cy (u 7) (cv 7), cX8 cy (u 8) (cv 8), cX8 cy (u 9) (cv 9), cX8 cy (u 10) (cv 10), cX0 cy (u 11) (cv 11), cX10 cy (u 12) (cv 12), cX10 cy (u 13) (cv 13), cX10 cy (u 14) (cv 14), cX2 cy (u 15) (cv 15), cX5 cy (u 16) n0, cX1 cy (u 17) (cv 17), cX4 cy (u 18) (cv 18), [(u 19 0, .inl (cy 2, 73, .inr (.inl B)))], cX12 cy adm v1, [(qo, .inl (cy 2, 1, .inr (.inl o)))]]) (ccs := [cX12 cy adm v]) (ccs' := [cX12 cy adm v1]) (isC := [20]) (isR := [0, 1, 2, 3, 4, 5, 6, 7, 8, 9, 10, 11, 12, 13, 14, 15, 16, 17, 18, 19, 21]) hx hb hml hown hts (k_X12_known l G cy ev adm v (xs (x4 + 1).toNatClampNeg) (r, v1) hm) wm_51_1 wm_51_2 wm_51_3 wm_1_5 wm_51_4 hd_X12_known ⟨by decide, by decide⟩ wj_one.symm wj_one.symm (by show _ ≤ 601024; omega) (by show _ ≤ 7293034; omega) hK hP hD hS hA hE rfl rfl rfl (cov_of (n := 22) rfl (by decide)) (by decide) rfl (recvW (ci := 20) hK hP rfl (show (cX12 cy adm v)[0]? = some (adm 0, _) from rfl) rfl) rfl rfl hl.1 (Nat.le_of_ble_eq_true rfl) dL_law_1310 (fun H locs hP hD hS => ?_)
  refine lv_icmp_eq (tgt := 1493) hx hb dL_law_1313 (by decide) (fun _ => ?_) (fun c9 => absurd rfl c9)
  obtain ⟨x5, e5⟩ : ∃ y : Int32, y = x4 + 6 := ⟨_, rfl⟩
  refine lv_iinc (v := x5) (lv' := [(4, .int x5), (0, .ref b), (1, .ref (u 0 0)), (2, .ref (adm 0)), (3, .ref qo)]) hx hb dL_law_1493 hl (k := 4) rfl (by rw [e5]; rfl) (by decide) rfl (fun ls hl => ?_)
  refine lv_goto (tgt := 23) hx hb dL_law_1496 (by decide) ?_
  refine W.widen (k := 170 + (k + 1)) (n := 6921 + 6 * (k + 1)) (by omega) (by omega) ?_
  exact ih (u) adm qo (uc cv 16 n0) T B v1 o x5 _ _ ls (by rw [e5, hx4]; exact (nI_add (6 * k) 6).trans (by rw [Nat.mul_succ])) hI hP hD hS (lv_sub hl [1, 2, 3, 4, 0] rfl)
set_option maxHeartbeats 4000000 in
set_option maxRecDepth 100000 in
theorem law_lingered {p : Program} {l : Launch} {e : Env} {s : State} {m : MethodId} {below : List Frame} {meth : Method} {cd : Code} {b L : Nat} {xs : Nat → Int32} {N : Nat} {INV : (Nat → VV) → (Nat → Int32) → (Nat → Int64) → VV → Prop} {G : va_G} {cy : Nat → ClassId} {ev : Nat → Nat} (hst : ST_lingered N INV) (C : LCX p s m meth cd b L xs G cy ev) (k : Nat) (hk : 6 * k + 6 ≤ L) (ih : LOOPS p l e s m below meth cd b L INV G cy (k + 1)) (u : Nat → Nat → Nat) (adm : Nat → Nat) (qo : Nat) (cv : Nat → VV) (T : Nat → Int32) (B : Nat → Int64) (v : VV) (o : Nat → Int64) (x4 : Int32) (H : Heap) (locs : List Loc) (ls : Array Slot) (hx4 : x4 = nI (6 * k)) (hI : INV cv T B v) (hP : va_P G vwCl (wj (W22 cy u adm qo cv T B v o)) H) (hD : va_D (fun q => s.heap.size ≤ q) (wj (W22 cy u adm qo cv T B v o))) (hS : va_S (fun q => s.heap.size ≤ q) s.heap H locs) (hl : lv_has ls 7 [(0, .ref b), (1, .ref (u 0 0)), (2, .ref (adm 0)), (3, .ref qo), (4, .int x4)]) : W p l e room_1 s m #[Value.ref b] below meth cd H locs (170 + k) (6921 + 6 * k) (lw_Z below #[Value.ref b] s) (F0 m 1318 ls []) := by
  obtain ⟨hx, hb, hml, hown, hts, hK, hE, hX, hbl, hL⟩ := C
  have hA : ∀ q : Nat, s.heap.size ≤ q → (fun q : Nat => s.heap.size ≤ q) q := fun _ h => h
  have hbA : ¬ (fun q : Nat => s.heap.size ≤ q) b := Nat.not_le.mpr hbl
  have hin1 : vp_in (x4 + 1) L := by rw [hx4]; exact ix_in (j := 1) hk hL (by decide)
  have hin2 : vp_in (x4 + 2) L := by rw [hx4]; exact ix_in (j := 2) hk hL (by decide)
  have hin3 : vp_in (x4 + 3) L := by rw [hx4]; exact ix_in (j := 3) hk hL (by decide)
  have hin4 : vp_in (x4 + 4) L := by rw [hx4]; exact ix_in (j := 4) hk hL (by decide)
  have hin5 : vp_in (x4 + 5) L := by rw [hx4]; exact ix_in (j := 5) hk hL (by decide)
  refine lv_aload_n hx hb dL_law_1318 rfl (lv_at hl 1 rfl) ?_
  obtain ⟨r, n0, n1, n2, n3, n4, v1, hf, hm, hI⟩ := hst cv T B v  hI
  refine callGVi (As := []) (rest := []) (cs' := [cX11 cy (u 0) (u 1 0) (u 2 0) (u 6 0) (u 8 0) (u 9 0) (u 10 0) (u 11 0) (u 12 0) (u 13 0) (u 14 0) (u 15 0) (u 16 0) (u 17 0) (u 18 0) (u 19 0) (cv 0), [(u 1 0, .inl (cy 0, 700, .inl T))], cX7 cy (u 2) (u 3 0) (u 4 0) (cv 2), cX9 cy (u 3) (cv 3), cX6 cy (u 4) (u 5 0) (cv 4), cX3 cy (u 5) (cv 5), cX6 cy (u 6) (u 7 0) (cv 6), cX3 cy (u 7) n0, cX8 cy (u 8) (cv 8), cX8 cy (u 9) (cv 9), cX8 cy (u 10) n1, cX0 cy (u 11) n2, cX10 cy (u 12) (cv 12), cX10 cy (u 13) (cv 13), cX10 cy (u 14) n3, cX2 cy (u 15) (cv 15), cX5 cy (u 16) n4, cX1 cy (u 17) (cv 17), cX4 cy (u 18) (cv 18), [(u 19 0, .inl (cy 2, 73, .inr (.inl B)))], cX12 cy adm v, [(qo, .inl (cy 2, 1, .inr (.inl o)))]]) (ccs := [cX11 cy (u 0) (u 1 0) (u 2 0) (u 6 0) (u 8 0) (u 9 0) (u 10 0) (u 11 0) (u 12 0) (u 13 0) (u 14 0) (u 15 0) (u 16 0) (u 17 0) (u 18 0) (u 19 0) (cv 0), cX6 cy (u 6) (u 7 0) (cv 6), cX3 cy (u 7) (cv 7), cX8 cy (u 8) (cv 8), cX8 cy (u 10) (cv 10), cX0 cy (u 11) (cv 11), cX10 cy (u 14) (cv 14), cX5 cy (u 16) (cv 16)]) (ccs' := [cX11 cy (u 0) (u 1 0) (u 2 0) (u 6 0) (u 8 0) (u 9 0) (u 10 0) (u 11 0) (u 12 0) (u 13 0) (u 14 0) (u 15 0) (u 16 0) (u 17 0) (u 18 0) (u 19 0) (cv 0), cX6 cy (u 6) (u 7 0) (cv 6), cX3 cy (u 7) n0, cX8 cy (u 8) (cv 8), cX8 cy (u 10) n1, cX0 cy (u 11) n2, cX10 cy (u 14) n3, cX5 cy (u 16) n4]) (isC := [0, 6, 7, 8, 10, 11, 14, 16]) (isR := [1, 2, 3, 4, 5, 9, 12, 13, 15, 17, 18, 19, 20, 21]) hx hb hml hown hts (k_X11_lingered l G cy ev N (u 0) (u 1 0) (u 2 0) (u 9 0) (u 12 0) (u 13 0) (u 15 0) (u 17 0) (u 18 0) (u 19 0) (cv 0) (u 6) (cv 6) (u 7) (cv 7) (u 8) (cv 8) (u 10) (cv 10) (u 11) (cv 11) (u 14) (cv 14) (u 16) (cv 16)  (r, n0, n1, n2, n3, n4) hf) wm_51_5 wm_51_6 wm_51_7 wm_1_2 wm_51_8 hd_X11_lingered ⟨by decide, by decide⟩ rfl rfl (by show _ ≤ 601024; omega) (by show _ ≤ 7293034; omega) hK hP hD hS hA hE rfl rfl rfl (cov_of (n := 22) rfl (by decide)) (by decide) rfl (recvW (ci := 0) hK hP rfl cX11_o rfl) rfl rfl hl.1 (Nat.le_of_ble_eq_true rfl) dL_law_1319 (fun H locs hP hD hS => ?_)
  refine lv_aload_n hx hb dL_law_1322 rfl (lv_at hl 2 rfl) ?_
  refine callGVi (As := []) (rest := [.int r]) (cs' := [cX11 cy (u 0) (u 1 0) (u 2 0) (u 6 0) (u 8 0) (u 9 0) (u 10 0) (u 11 0) (u 12 0) (u 13 0) (u 14 0) (u 15 0) (u 16 0) (u 17 0) (u 18 0) (u 19 0) (cv 0), [(u 1 0, .inl (cy 0, 700, .inl T))], cX7 cy (u 2) (u 3 0) (u 4 0) (cv 2), cX9 cy (u 3) (cv 3), cX6 cy (u 4) (u 5 0) (cv 4), cX3 cy (u 5) (cv 5), cX6 cy (u 6) (u 7 0) (cv 6), cX3 cy (u 7) n0, cX8 cy (u 8) (cv 8), cX8 cy (u 9) (cv 9), cX8 cy (u 10) n1, cX0 cy (u 11) n2, cX10 cy (u 12) (cv 12), cX10 cy (u 13) (cv 13), cX10 cy (u 14) n3, cX2 cy (u 15) (cv 15), cX5 cy (u 16) n4, cX1 cy (u 17) (cv 17), cX4 cy (u 18) (cv 18), [(u 19 0, .inl (cy 2, 73, .inr (.inl B)))], cX12 cy adm v1, [(qo, .inl (cy 2, 1, .inr (.inl o)))]]) (ccs := [cX12 cy adm v]) (ccs' := [cX12 cy adm v1]) (isC := [20]) (isR := [0, 1, 2, 3, 4, 5, 6, 7, 8, 9, 10, 11, 12, 13, 14, 15, 16, 17, 18, 19, 21]) hx hb hml hown hts (k_X12_lingered l G cy ev N adm v  (r, v1) hm) wm_51_23 wm_52_0 wm_52_1 wm_1_5 wm_52_2 hd_X12_lingered ⟨by decide, by decide⟩ wj_one.symm wj_one.symm (by show _ ≤ 601024; omega) (by show _ ≤ 7293034; omega) hK hP hD hS hA hE rfl rfl rfl (cov_of (n := 22) rfl (by decide)) (by decide) rfl (recvW (ci := 20) hK hP rfl (show (cX12 cy adm v)[0]? = some (adm 0, _) from rfl) rfl) rfl rfl hl.1 (Nat.le_of_ble_eq_true rfl) dL_law_1323 (fun H locs hP hD hS => ?_)
  refine lv_icmp_eq (tgt := 1493) hx hb dL_law_1326 (by decide) (fun _ => ?_) (fun c9 => absurd rfl c9)
  obtain ⟨x5, e5⟩ : ∃ y : Int32, y = x4 + 6 := ⟨_, rfl⟩
  refine lv_iinc (v := x5) (lv' := [(4, .int x5), (0, .ref b), (1, .ref (u 0 0)), (2, .ref (adm 0)), (3, .ref qo)]) hx hb dL_law_1493 hl (k := 4) rfl (by rw [e5]; rfl) (by decide) rfl (fun ls hl => ?_)
  refine lv_goto (tgt := 23) hx hb dL_law_1496 (by decide) ?_
  refine W.widen (k := 170 + (k + 1)) (n := 6921 + 6 * (k + 1)) (by omega) (by omega) ?_
  exact ih (u) adm qo (uc (uc (uc (uc (uc cv 7 n0) 10 n1) 11 n2) 14 n3) 16 n4) T B v1 o x5 _ _ ls (by rw [e5, hx4]; exact (nI_add (6 * k) 6).trans (by rw [Nat.mul_succ])) hI hP hD hS (lv_sub hl [1, 2, 3, 4, 0] rfl)
set_option maxHeartbeats 4000000 in
set_option maxRecDepth 100000 in
theorem law_chance {p : Program} {l : Launch} {e : Env} {s : State} {m : MethodId} {below : List Frame} {meth : Method} {cd : Code} {b L : Nat} {xs : Nat → Int32} {N : Nat} {INV : (Nat → VV) → (Nat → Int32) → (Nat → Int64) → VV → Prop} {G : va_G} {cy : Nat → ClassId} {ev : Nat → Nat} (hst : ST_chance N INV) (C : LCX p s m meth cd b L xs G cy ev) (k : Nat) (hk : 6 * k + 6 ≤ L) (ih : LOOPS p l e s m below meth cd b L INV G cy (k + 1)) (u : Nat → Nat → Nat) (adm : Nat → Nat) (qo : Nat) (cv : Nat → VV) (T : Nat → Int32) (B : Nat → Int64) (v : VV) (o : Nat → Int64) (x4 : Int32) (H : Heap) (locs : List Loc) (ls : Array Slot) (hx4 : x4 = nI (6 * k)) (hI : INV cv T B v) (hP : va_P G vwCl (wj (W22 cy u adm qo cv T B v o)) H) (hD : va_D (fun q => s.heap.size ≤ q) (wj (W22 cy u adm qo cv T B v o))) (hS : va_S (fun q => s.heap.size ≤ q) s.heap H locs) (hl : lv_has ls 7 [(0, .ref b), (1, .ref (u 0 0)), (2, .ref (adm 0)), (3, .ref qo), (4, .int x4)]) : W p l e room_1 s m #[Value.ref b] below meth cd H locs (170 + k) (6921 + 6 * k) (lw_Z below #[Value.ref b] s) (F0 m 1331 ls []) := by
  obtain ⟨hx, hb, hml, hown, hts, hK, hE, hX, hbl, hL⟩ := C
  have hA : ∀ q : Nat, s.heap.size ≤ q → (fun q : Nat => s.heap.size ≤ q) q := fun _ h => h
  have hbA : ¬ (fun q : Nat => s.heap.size ≤ q) b := Nat.not_le.mpr hbl
  have hin1 : vp_in (x4 + 1) L := by rw [hx4]; exact ix_in (j := 1) hk hL (by decide)
  have hin2 : vp_in (x4 + 2) L := by rw [hx4]; exact ix_in (j := 2) hk hL (by decide)
  have hin3 : vp_in (x4 + 3) L := by rw [hx4]; exact ix_in (j := 3) hk hL (by decide)
  have hin4 : vp_in (x4 + 4) L := by rw [hx4]; exact ix_in (j := 4) hk hL (by decide)
  have hin5 : vp_in (x4 + 5) L := by rw [hx4]; exact ix_in (j := 5) hk hL (by decide)
  refine lv_aload_n hx hb dL_law_1331 rfl (lv_at hl 1 rfl) ?_
  refine lv_aload_n hx hb dL_law_1332 rfl (lv_at hl 0 rfl) ?_
  refine lv_iload hx hb dL_law_1333 (lv_at hl 4 rfl) ?_
  refine lv_iconst (v := 1) hx hb dL_law_1335 (by decide) ?_
  refine lv_iadd hx hb dL_law_1336 ?_
  refine va_sld hx hb hX hbl hbA hS hin1 dL_law_1337 ?_
  refine lv_aload_n hx hb dL_law_1338 rfl (lv_at hl 0 rfl) ?_
  refine lv_iload hx hb dL_law_1339 (lv_at hl 4 rfl) ?_
  refine lv_iconst (v := 2) hx hb dL_law_1341 (by decide) ?_
  refine lv_iadd hx hb dL_law_1342 ?_
  refine va_sld hx hb hX hbl hbA hS hin2 dL_law_1343 ?_
  refine lv_aload_n hx hb dL_law_1344 rfl (lv_at hl 0 rfl) ?_
  refine lv_iload hx hb dL_law_1345 (lv_at hl 4 rfl) ?_
  refine lv_iconst (v := 3) hx hb dL_law_1347 (by decide) ?_
  refine lv_iadd hx hb dL_law_1348 ?_
  refine va_sld hx hb hX hbl hbA hS hin3 dL_law_1349 ?_
  obtain ⟨r, n0, n1, n2, v1, hf, hm, hI⟩ := hst cv T B v (xs (x4 + 1).toNatClampNeg) (xs (x4 + 2).toNatClampNeg) (xs (x4 + 3).toNatClampNeg) hI
  refine callGVi (As := [.int (xs (x4 + 1).toNatClampNeg), .int (xs (x4 + 2).toNatClampNeg), .int (xs (x4 + 3).toNatClampNeg)]) (rest := []) (cs' := [cX11 cy (u 0) (u 1 0) (u 2 0) (u 6 0) (u 8 0) (u 9 0) (u 10 0) (u 11 0) (u 12 0) (u 13 0) (u 14 0) (u 15 0) (u 16 0) (u 17 0) (u 18 0) (u 19 0) (cv 0), [(u 1 0, .inl (cy 0, 700, .inl T))], cX7 cy (u 2) (u 3 0) (u 4 0) (cv 2), cX9 cy (u 3) (cv 3), cX6 cy (u 4) (u 5 0) (cv 4), cX3 cy (u 5) (cv 5), cX6 cy (u 6) (u 7 0) (cv 6), cX3 cy (u 7) n0, cX8 cy (u 8) (cv 8), cX8 cy (u 9) (cv 9), cX8 cy (u 10) n1, cX0 cy (u 11) n2, cX10 cy (u 12) (cv 12), cX10 cy (u 13) (cv 13), cX10 cy (u 14) (cv 14), cX2 cy (u 15) (cv 15), cX5 cy (u 16) (cv 16), cX1 cy (u 17) (cv 17), cX4 cy (u 18) (cv 18), [(u 19 0, .inl (cy 2, 73, .inr (.inl B)))], cX12 cy adm v, [(qo, .inl (cy 2, 1, .inr (.inl o)))]]) (ccs := [cX11 cy (u 0) (u 1 0) (u 2 0) (u 6 0) (u 8 0) (u 9 0) (u 10 0) (u 11 0) (u 12 0) (u 13 0) (u 14 0) (u 15 0) (u 16 0) (u 17 0) (u 18 0) (u 19 0) (cv 0), cX6 cy (u 6) (u 7 0) (cv 6), cX3 cy (u 7) (cv 7), cX8 cy (u 8) (cv 8), cX8 cy (u 10) (cv 10), cX0 cy (u 11) (cv 11), cX10 cy (u 13) (cv 13)]) (ccs' := [cX11 cy (u 0) (u 1 0) (u 2 0) (u 6 0) (u 8 0) (u 9 0) (u 10 0) (u 11 0) (u 12 0) (u 13 0) (u 14 0) (u 15 0) (u 16 0) (u 17 0) (u 18 0) (u 19 0) (cv 0), cX6 cy (u 6) (u 7 0) (cv 6), cX3 cy (u 7) n0, cX8 cy (u 8) (cv 8), cX8 cy (u 10) n1, cX0 cy (u 11) n2, cX10 cy (u 13) (cv 13)]) (isC := [0, 6, 7, 8, 10, 11, 13]) (isR := [1, 2, 3, 4, 5, 9, 12, 14, 15, 16, 17, 18, 19, 20, 21]) hx hb hml hown hts (k_X11_chance l G cy ev N (u 0) (u 1 0) (u 2 0) (u 9 0) (u 12 0) (u 14 0) (u 15 0) (u 16 0) (u 17 0) (u 18 0) (u 19 0) (cv 0) (u 6) (cv 6) (u 7) (cv 7) (u 8) (cv 8) (u 10) (cv 10) (u 11) (cv 11) (u 13) (cv 13) (xs (x4 + 1).toNatClampNeg) (xs (x4 + 2).toNatClampNeg) (xs (x4 + 3).toNatClampNeg) (r, n0, n1, n2) hf) wm_52_11 wm_52_12 wm_52_13 wm_1_2 wm_52_14 hd_X11_chance ⟨by decide, by decide⟩ rfl rfl (by show _ ≤ 601024; omega) (by show _ ≤ 7293034; omega) hK hP hD hS hA hE rfl rfl rfl (cov_of (n := 22) rfl (by decide)) (by decide) rfl (recvW (ci := 0) hK hP rfl cX11_o rfl) rfl rfl hl.1 (Nat.le_of_ble_eq_true rfl) dL_law_1350 (fun H locs hP hD hS => ?_)
  refine lv_aload_n hx hb dL_law_1353 rfl (lv_at hl 2 rfl) ?_
  refine lv_aload_n hx hb dL_law_1354 rfl (lv_at hl 0 rfl) ?_
  refine lv_iload hx hb dL_law_1355 (lv_at hl 4 rfl) ?_
  refine lv_iconst (v := 1) hx hb dL_law_1357 (by decide) ?_
  refine lv_iadd hx hb dL_law_1358 ?_
  refine va_sld hx hb hX hbl hbA hS hin1 dL_law_1359 ?_
  refine lv_aload_n hx hb dL_law_1360 rfl (lv_at hl 0 rfl) ?_
  refine lv_iload hx hb dL_law_1361 (lv_at hl 4 rfl) ?_
  refine lv_iconst (v := 2) hx hb dL_law_1363 (by decide) ?_
  refine lv_iadd hx hb dL_law_1364 ?_
  refine va_sld hx hb hX hbl hbA hS hin2 dL_law_1365 ?_
  refine lv_aload_n hx hb dL_law_1366 rfl (lv_at hl 0 rfl) ?_
  refine lv_iload hx hb dL_law_1367 (lv_at hl 4 rfl) ?_
  refine lv_iconst (v := 3) hx hb dL_law_1369 (by decide) ?_
  refine lv_iadd hx hb dL_law_1370 ?_
  refine va_sld hx hb hX hbl hbA hS hin3 dL_law_1371 ?_
  refine callGVi (As := [.int (xs (x4 + 1).toNatClampNeg), .int (xs (x4 + 2).toNatClampNeg), .int (xs (x4 + 3).toNatClampNeg)]) (rest := [.int r]) (cs' := [cX11 cy (u 0) (u 1 0) (u 2 0) (u 6 0) (u 8 0) (u 9 0) (u 10 0) (u 11 0) (u 12 0) (u 13 0) (u 14 0) (u 15 0) (u 16 0) (u 17 0) (u 18 0) (u 19 0) (cv 0), [(u 1 0, .inl (cy 0, 700, .inl T))], cX7 cy (u 2) (u 3 0) (u 4 0) (cv 2), cX9 cy (u 3) (cv 3), cX6 cy (u 4) (u 5 0) (cv 4), cX3 cy (u 5) (cv 5), cX6 cy (u 6) (u 7 0) (cv 6), cX3 cy (u 7) n0, cX8 cy (u 8) (cv 8), cX8 cy (u 9) (cv 9), cX8 cy (u 10) n1, cX0 cy (u 11) n2, cX10 cy (u 12) (cv 12), cX10 cy (u 13) (cv 13), cX10 cy (u 14) (cv 14), cX2 cy (u 15) (cv 15), cX5 cy (u 16) (cv 16), cX1 cy (u 17) (cv 17), cX4 cy (u 18) (cv 18), [(u 19 0, .inl (cy 2, 73, .inr (.inl B)))], cX12 cy adm v1, [(qo, .inl (cy 2, 1, .inr (.inl o)))]]) (ccs := [cX12 cy adm v]) (ccs' := [cX12 cy adm v1]) (isC := [20]) (isR := [0, 1, 2, 3, 4, 5, 6, 7, 8, 9, 10, 11, 12, 13, 14, 15, 16, 17, 18, 19, 21]) hx hb hml hown hts (k_X12_chance l G cy ev N adm v (xs (x4 + 1).toNatClampNeg) (xs (x4 + 2).toNatClampNeg) (xs (x4 + 3).toNatClampNeg) (r, v1) hm) wm_52_15 wm_52_16 wm_52_17 wm_1_5 wm_52_18 hd_X12_chance ⟨by decide, by decide⟩ wj_one.symm wj_one.symm (by show _ ≤ 601024; omega) (by show _ ≤ 7293034; omega) hK hP hD hS hA hE rfl rfl rfl (cov_of (n := 22) rfl (by decide)) (by decide) rfl (recvW (ci := 20) hK hP rfl (show (cX12 cy adm v)[0]? = some (adm 0, _) from rfl) rfl) rfl rfl hl.1 (Nat.le_of_ble_eq_true rfl) dL_law_1372 (fun H locs hP hD hS => ?_)
  refine lv_icmp_eq (tgt := 1493) hx hb dL_law_1375 (by decide) (fun _ => ?_) (fun c9 => absurd rfl c9)
  obtain ⟨x5, e5⟩ : ∃ y : Int32, y = x4 + 6 := ⟨_, rfl⟩
  refine lv_iinc (v := x5) (lv' := [(4, .int x5), (0, .ref b), (1, .ref (u 0 0)), (2, .ref (adm 0)), (3, .ref qo)]) hx hb dL_law_1493 hl (k := 4) rfl (by rw [e5]; rfl) (by decide) rfl (fun ls hl => ?_)
  refine lv_goto (tgt := 23) hx hb dL_law_1496 (by decide) ?_
  refine W.widen (k := 170 + (k + 1)) (n := 6921 + 6 * (k + 1)) (by omega) (by omega) ?_
  exact ih (u) adm qo (uc (uc (uc cv 7 n0) 10 n1) 11 n2) T B v1 o x5 _ _ ls (by rw [e5, hx4]; exact (nI_add (6 * k) 6).trans (by rw [Nat.mul_succ])) hI hP hD hS (lv_sub hl [1, 2, 3, 4, 0] rfl)
set_option maxHeartbeats 4000000 in
set_option maxRecDepth 100000 in
theorem law_tried {p : Program} {l : Launch} {e : Env} {s : State} {m : MethodId} {below : List Frame} {meth : Method} {cd : Code} {b L : Nat} {xs : Nat → Int32} {N : Nat} {INV : (Nat → VV) → (Nat → Int32) → (Nat → Int64) → VV → Prop} {G : va_G} {cy : Nat → ClassId} {ev : Nat → Nat} (hst : ST_tried N INV) (C : LCX p s m meth cd b L xs G cy ev) (k : Nat) (hk : 6 * k + 6 ≤ L) (ih : LOOPS p l e s m below meth cd b L INV G cy (k + 1)) (u : Nat → Nat → Nat) (adm : Nat → Nat) (qo : Nat) (cv : Nat → VV) (T : Nat → Int32) (B : Nat → Int64) (v : VV) (o : Nat → Int64) (x4 : Int32) (H : Heap) (locs : List Loc) (ls : Array Slot) (hx4 : x4 = nI (6 * k)) (hI : INV cv T B v) (hP : va_P G vwCl (wj (W22 cy u adm qo cv T B v o)) H) (hD : va_D (fun q => s.heap.size ≤ q) (wj (W22 cy u adm qo cv T B v o))) (hS : va_S (fun q => s.heap.size ≤ q) s.heap H locs) (hl : lv_has ls 7 [(0, .ref b), (1, .ref (u 0 0)), (2, .ref (adm 0)), (3, .ref qo), (4, .int x4)]) : W p l e room_1 s m #[Value.ref b] below meth cd H locs (170 + k) (6921 + 6 * k) (lw_Z below #[Value.ref b] s) (F0 m 1380 ls []) := by
  obtain ⟨hx, hb, hml, hown, hts, hK, hE, hX, hbl, hL⟩ := C
  have hA : ∀ q : Nat, s.heap.size ≤ q → (fun q : Nat => s.heap.size ≤ q) q := fun _ h => h
  have hbA : ¬ (fun q : Nat => s.heap.size ≤ q) b := Nat.not_le.mpr hbl
  have hin1 : vp_in (x4 + 1) L := by rw [hx4]; exact ix_in (j := 1) hk hL (by decide)
  have hin2 : vp_in (x4 + 2) L := by rw [hx4]; exact ix_in (j := 2) hk hL (by decide)
  have hin3 : vp_in (x4 + 3) L := by rw [hx4]; exact ix_in (j := 3) hk hL (by decide)
  have hin4 : vp_in (x4 + 4) L := by rw [hx4]; exact ix_in (j := 4) hk hL (by decide)
  have hin5 : vp_in (x4 + 5) L := by rw [hx4]; exact ix_in (j := 5) hk hL (by decide)
  refine lv_aload_n hx hb dL_law_1380 rfl (lv_at hl 1 rfl) ?_
  refine lv_aload_n hx hb dL_law_1381 rfl (lv_at hl 0 rfl) ?_
  refine lv_iload hx hb dL_law_1382 (lv_at hl 4 rfl) ?_
  refine lv_iconst (v := 1) hx hb dL_law_1384 (by decide) ?_
  refine lv_iadd hx hb dL_law_1385 ?_
  refine va_sld hx hb hX hbl hbA hS hin1 dL_law_1386 ?_
  refine lv_aload_n hx hb dL_law_1387 rfl (lv_at hl 0 rfl) ?_
  refine lv_iload hx hb dL_law_1388 (lv_at hl 4 rfl) ?_
  refine lv_iconst (v := 2) hx hb dL_law_1390 (by decide) ?_
  refine lv_iadd hx hb dL_law_1391 ?_
  refine va_sld hx hb hX hbl hbA hS hin2 dL_law_1392 ?_
  refine lv_aload_n hx hb dL_law_1393 rfl (lv_at hl 0 rfl) ?_
  refine lv_iload hx hb dL_law_1394 (lv_at hl 4 rfl) ?_
  refine lv_iconst (v := 3) hx hb dL_law_1396 (by decide) ?_
  refine lv_iadd hx hb dL_law_1397 ?_
  refine va_sld hx hb hX hbl hbA hS hin3 dL_law_1398 ?_
  obtain ⟨r, n0, n1, n2, n3, v1, hf, hm, hI⟩ := hst cv T B v (xs (x4 + 1).toNatClampNeg) (xs (x4 + 2).toNatClampNeg) (xs (x4 + 3).toNatClampNeg) hI
  refine callGVi (As := [.int (xs (x4 + 1).toNatClampNeg), .int (xs (x4 + 2).toNatClampNeg), .int (xs (x4 + 3).toNatClampNeg)]) (rest := []) (cs' := [cX11 cy (u 0) (u 1 0) (u 2 0) (u 6 0) (u 8 0) (u 9 0) (u 10 0) (u 11 0) (u 12 0) (u 13 0) (u 14 0) (u 15 0) (u 16 0) (u 17 0) (u 18 0) (u 19 0) (cv 0), [(u 1 0, .inl (cy 0, 700, .inl T))], cX7 cy (u 2) (u 3 0) (u 4 0) (cv 2), cX9 cy (u 3) (cv 3), cX6 cy (u 4) (u 5 0) (cv 4), cX3 cy (u 5) (cv 5), cX6 cy (u 6) (u 7 0) (cv 6), cX3 cy (u 7) n0, cX8 cy (u 8) (cv 8), cX8 cy (u 9) (cv 9), cX8 cy (u 10) n1, cX0 cy (u 11) n2, cX10 cy (u 12) (cv 12), cX10 cy (u 13) (cv 13), cX10 cy (u 14) n3, cX2 cy (u 15) (cv 15), cX5 cy (u 16) (cv 16), cX1 cy (u 17) (cv 17), cX4 cy (u 18) (cv 18), [(u 19 0, .inl (cy 2, 73, .inr (.inl B)))], cX12 cy adm v, [(qo, .inl (cy 2, 1, .inr (.inl o)))]]) (ccs := [cX11 cy (u 0) (u 1 0) (u 2 0) (u 6 0) (u 8 0) (u 9 0) (u 10 0) (u 11 0) (u 12 0) (u 13 0) (u 14 0) (u 15 0) (u 16 0) (u 17 0) (u 18 0) (u 19 0) (cv 0), cX6 cy (u 6) (u 7 0) (cv 6), cX3 cy (u 7) (cv 7), cX8 cy (u 8) (cv 8), cX8 cy (u 10) (cv 10), cX0 cy (u 11) (cv 11), cX10 cy (u 14) (cv 14)]) (ccs' := [cX11 cy (u 0) (u 1 0) (u 2 0) (u 6 0) (u 8 0) (u 9 0) (u 10 0) (u 11 0) (u 12 0) (u 13 0) (u 14 0) (u 15 0) (u 16 0) (u 17 0) (u 18 0) (u 19 0) (cv 0), cX6 cy (u 6) (u 7 0) (cv 6), cX3 cy (u 7) n0, cX8 cy (u 8) (cv 8), cX8 cy (u 10) n1, cX0 cy (u 11) n2, cX10 cy (u 14) n3]) (isC := [0, 6, 7, 8, 10, 11, 14]) (isR := [1, 2, 3, 4, 5, 9, 12, 13, 15, 16, 17, 18, 19, 20, 21]) hx hb hml hown hts (k_X11_tried l G cy ev N (u 0) (u 1 0) (u 2 0) (u 9 0) (u 12 0) (u 13 0) (u 15 0) (u 16 0) (u 17 0) (u 18 0) (u 19 0) (cv 0) (u 6) (cv 6) (u 7) (cv 7) (u 8) (cv 8) (u 10) (cv 10) (u 11) (cv 11) (u 14) (cv 14) (xs (x4 + 1).toNatClampNeg) (xs (x4 + 2).toNatClampNeg) (xs (x4 + 3).toNatClampNeg) (r, n0, n1, n2, n3) hf) wm_52_19 wm_52_20 wm_52_21 wm_1_2 wm_52_22 hd_X11_tried ⟨by decide, by decide⟩ rfl rfl (by show _ ≤ 601024; omega) (by show _ ≤ 7293034; omega) hK hP hD hS hA hE rfl rfl rfl (cov_of (n := 22) rfl (by decide)) (by decide) rfl (recvW (ci := 0) hK hP rfl cX11_o rfl) rfl rfl hl.1 (Nat.le_of_ble_eq_true rfl) dL_law_1399 (fun H locs hP hD hS => ?_)
  refine lv_aload_n hx hb dL_law_1402 rfl (lv_at hl 2 rfl) ?_
  refine lv_aload_n hx hb dL_law_1403 rfl (lv_at hl 0 rfl) ?_
  refine lv_iload hx hb dL_law_1404 (lv_at hl 4 rfl) ?_
  refine lv_iconst (v := 1) hx hb dL_law_1406 (by decide) ?_
  refine lv_iadd hx hb dL_law_1407 ?_
  refine va_sld hx hb hX hbl hbA hS hin1 dL_law_1408 ?_
  refine lv_aload_n hx hb dL_law_1409 rfl (lv_at hl 0 rfl) ?_
  refine lv_iload hx hb dL_law_1410 (lv_at hl 4 rfl) ?_
  refine lv_iconst (v := 2) hx hb dL_law_1412 (by decide) ?_
  refine lv_iadd hx hb dL_law_1413 ?_
  refine va_sld hx hb hX hbl hbA hS hin2 dL_law_1414 ?_
  refine lv_aload_n hx hb dL_law_1415 rfl (lv_at hl 0 rfl) ?_
  refine lv_iload hx hb dL_law_1416 (lv_at hl 4 rfl) ?_
  refine lv_iconst (v := 3) hx hb dL_law_1418 (by decide) ?_
  refine lv_iadd hx hb dL_law_1419 ?_
  refine va_sld hx hb hX hbl hbA hS hin3 dL_law_1420 ?_
  refine callGVi (As := [.int (xs (x4 + 1).toNatClampNeg), .int (xs (x4 + 2).toNatClampNeg), .int (xs (x4 + 3).toNatClampNeg)]) (rest := [.int r]) (cs' := [cX11 cy (u 0) (u 1 0) (u 2 0) (u 6 0) (u 8 0) (u 9 0) (u 10 0) (u 11 0) (u 12 0) (u 13 0) (u 14 0) (u 15 0) (u 16 0) (u 17 0) (u 18 0) (u 19 0) (cv 0), [(u 1 0, .inl (cy 0, 700, .inl T))], cX7 cy (u 2) (u 3 0) (u 4 0) (cv 2), cX9 cy (u 3) (cv 3), cX6 cy (u 4) (u 5 0) (cv 4), cX3 cy (u 5) (cv 5), cX6 cy (u 6) (u 7 0) (cv 6), cX3 cy (u 7) n0, cX8 cy (u 8) (cv 8), cX8 cy (u 9) (cv 9), cX8 cy (u 10) n1, cX0 cy (u 11) n2, cX10 cy (u 12) (cv 12), cX10 cy (u 13) (cv 13), cX10 cy (u 14) n3, cX2 cy (u 15) (cv 15), cX5 cy (u 16) (cv 16), cX1 cy (u 17) (cv 17), cX4 cy (u 18) (cv 18), [(u 19 0, .inl (cy 2, 73, .inr (.inl B)))], cX12 cy adm v1, [(qo, .inl (cy 2, 1, .inr (.inl o)))]]) (ccs := [cX12 cy adm v]) (ccs' := [cX12 cy adm v1]) (isC := [20]) (isR := [0, 1, 2, 3, 4, 5, 6, 7, 8, 9, 10, 11, 12, 13, 14, 15, 16, 17, 18, 19, 21]) hx hb hml hown hts (k_X12_tried l G cy ev N adm v (xs (x4 + 1).toNatClampNeg) (xs (x4 + 2).toNatClampNeg) (xs (x4 + 3).toNatClampNeg) (r, v1) hm) wm_53_3 wm_53_4 wm_53_5 wm_1_5 wm_53_6 hd_X12_tried ⟨by decide, by decide⟩ wj_one.symm wj_one.symm (by show _ ≤ 601024; omega) (by show _ ≤ 7293034; omega) hK hP hD hS hA hE rfl rfl rfl (cov_of (n := 22) rfl (by decide)) (by decide) rfl (recvW (ci := 20) hK hP rfl (show (cX12 cy adm v)[0]? = some (adm 0, _) from rfl) rfl) rfl rfl hl.1 (Nat.le_of_ble_eq_true rfl) dL_law_1421 (fun H locs hP hD hS => ?_)
  refine lv_icmp_eq (tgt := 1493) hx hb dL_law_1424 (by decide) (fun _ => ?_) (fun c9 => absurd rfl c9)
  obtain ⟨x5, e5⟩ : ∃ y : Int32, y = x4 + 6 := ⟨_, rfl⟩
  refine lv_iinc (v := x5) (lv' := [(4, .int x5), (0, .ref b), (1, .ref (u 0 0)), (2, .ref (adm 0)), (3, .ref qo)]) hx hb dL_law_1493 hl (k := 4) rfl (by rw [e5]; rfl) (by decide) rfl (fun ls hl => ?_)
  refine lv_goto (tgt := 23) hx hb dL_law_1496 (by decide) ?_
  refine W.widen (k := 170 + (k + 1)) (n := 6921 + 6 * (k + 1)) (by omega) (by omega) ?_
  exact ih (u) adm qo (uc (uc (uc (uc cv 7 n0) 10 n1) 11 n2) 14 n3) T B v1 o x5 _ _ ls (by rw [e5, hx4]; exact (nI_add (6 * k) 6).trans (by rw [Nat.mul_succ])) hI hP hD hS (lv_sub hl [1, 2, 3, 4, 0] rfl)
set_option maxHeartbeats 4000000 in
set_option maxRecDepth 100000 in
theorem law_undo {p : Program} {l : Launch} {e : Env} {s : State} {m : MethodId} {below : List Frame} {meth : Method} {cd : Code} {b L : Nat} {xs : Nat → Int32} {N : Nat} {INV : (Nat → VV) → (Nat → Int32) → (Nat → Int64) → VV → Prop} {G : va_G} {cy : Nat → ClassId} {ev : Nat → Nat} (hst : ST_undo N INV) (C : LCX p s m meth cd b L xs G cy ev) (k : Nat) (hk : 6 * k + 6 ≤ L) (ih : LOOPS p l e s m below meth cd b L INV G cy (k + 1)) (u : Nat → Nat → Nat) (adm : Nat → Nat) (qo : Nat) (cv : Nat → VV) (T : Nat → Int32) (B : Nat → Int64) (v : VV) (o : Nat → Int64) (x4 : Int32) (H : Heap) (locs : List Loc) (ls : Array Slot) (hx4 : x4 = nI (6 * k)) (hI : INV cv T B v) (hP : va_P G vwCl (wj (W22 cy u adm qo cv T B v o)) H) (hD : va_D (fun q => s.heap.size ≤ q) (wj (W22 cy u adm qo cv T B v o))) (hS : va_S (fun q => s.heap.size ≤ q) s.heap H locs) (hl : lv_has ls 7 [(0, .ref b), (1, .ref (u 0 0)), (2, .ref (adm 0)), (3, .ref qo), (4, .int x4)]) : W p l e room_1 s m #[Value.ref b] below meth cd H locs (170 + k) (6921 + 6 * k) (lw_Z below #[Value.ref b] s) (F0 m 1429 ls []) := by
  obtain ⟨hx, hb, hml, hown, hts, hK, hE, hX, hbl, hL⟩ := C
  have hA : ∀ q : Nat, s.heap.size ≤ q → (fun q : Nat => s.heap.size ≤ q) q := fun _ h => h
  have hbA : ¬ (fun q : Nat => s.heap.size ≤ q) b := Nat.not_le.mpr hbl
  have hin1 : vp_in (x4 + 1) L := by rw [hx4]; exact ix_in (j := 1) hk hL (by decide)
  have hin2 : vp_in (x4 + 2) L := by rw [hx4]; exact ix_in (j := 2) hk hL (by decide)
  have hin3 : vp_in (x4 + 3) L := by rw [hx4]; exact ix_in (j := 3) hk hL (by decide)
  have hin4 : vp_in (x4 + 4) L := by rw [hx4]; exact ix_in (j := 4) hk hL (by decide)
  have hin5 : vp_in (x4 + 5) L := by rw [hx4]; exact ix_in (j := 5) hk hL (by decide)
  refine lv_aload_n hx hb dL_law_1429 rfl (lv_at hl 1 rfl) ?_
  obtain ⟨r, n0, n1, v1, hf, hm, hI⟩ := hst cv T B v  hI
  refine callGVi (As := []) (rest := []) (cs' := [cX11 cy (u 0) (u 1 0) (u 2 0) (u 6 0) (u 8 0) (u 9 0) (u 10 0) (u 11 0) (u 12 0) (u 13 0) (u 14 0) (u 15 0) (u 16 0) (u 17 0) (u 18 0) (u 19 0) (cv 0), [(u 1 0, .inl (cy 0, 700, .inl T))], cX7 cy (u 2) (u 3 0) (u 4 0) (cv 2), cX9 cy (u 3) (cv 3), cX6 cy (u 4) (u 5 0) (cv 4), cX3 cy (u 5) (cv 5), cX6 cy (u 6) (u 7 0) (cv 6), cX3 cy (u 7) (cv 7), cX8 cy (u 8) n0, cX8 cy (u 9) (cv 9), cX8 cy (u 10) (cv 10), cX0 cy (u 11) (cv 11), cX10 cy (u 12) (cv 12), cX10 cy (u 13) (cv 13), cX10 cy (u 14) (cv 14), cX2 cy (u 15) n1, cX5 cy (u 16) (cv 16), cX1 cy (u 17) (cv 17), cX4 cy (u 18) (cv 18), [(u 19 0, .inl (cy 2, 73, .inr (.inl B)))], cX12 cy adm v, [(qo, .inl (cy 2, 1, .inr (.inl o)))]]) (ccs := [cX11 cy (u 0) (u 1 0) (u 2 0) (u 6 0) (u 8 0) (u 9 0) (u 10 0) (u 11 0) (u 12 0) (u 13 0) (u 14 0) (u 15 0) (u 16 0) (u 17 0) (u 18 0) (u 19 0) (cv 0), cX8 cy (u 8) (cv 8), cX2 cy (u 15) (cv 15)]) (ccs' := [cX11 cy (u 0) (u 1 0) (u 2 0) (u 6 0) (u 8 0) (u 9 0) (u 10 0) (u 11 0) (u 12 0) (u 13 0) (u 14 0) (u 15 0) (u 16 0) (u 17 0) (u 18 0) (u 19 0) (cv 0), cX8 cy (u 8) n0, cX2 cy (u 15) n1]) (isC := [0, 8, 15]) (isR := [1, 2, 3, 4, 5, 6, 7, 9, 10, 11, 12, 13, 14, 16, 17, 18, 19, 20, 21]) hx hb hml hown hts (k_X11_undo l G cy ev (u 0) (u 1 0) (u 2 0) (u 6 0) (u 9 0) (u 10 0) (u 11 0) (u 12 0) (u 13 0) (u 14 0) (u 16 0) (u 17 0) (u 18 0) (u 19 0) (cv 0) (u 8) (cv 8) (u 15) (cv 15)  (r, n0, n1) hf) wm_53_7 wm_53_8 wm_53_9 wm_1_2 wm_53_10 hd_X11_undo ⟨by decide, by decide⟩ rfl rfl (by show _ ≤ 601024; omega) (by show _ ≤ 7293034; omega) hK hP hD hS hA hE rfl rfl rfl (cov_of (n := 22) rfl (by decide)) (by decide) rfl (recvW (ci := 0) hK hP rfl cX11_o rfl) rfl rfl hl.1 (Nat.le_of_ble_eq_true rfl) dL_law_1430 (fun H locs hP hD hS => ?_)
  refine lv_aload_n hx hb dL_law_1433 rfl (lv_at hl 2 rfl) ?_
  refine callGVi (As := []) (rest := [.int r]) (cs' := [cX11 cy (u 0) (u 1 0) (u 2 0) (u 6 0) (u 8 0) (u 9 0) (u 10 0) (u 11 0) (u 12 0) (u 13 0) (u 14 0) (u 15 0) (u 16 0) (u 17 0) (u 18 0) (u 19 0) (cv 0), [(u 1 0, .inl (cy 0, 700, .inl T))], cX7 cy (u 2) (u 3 0) (u 4 0) (cv 2), cX9 cy (u 3) (cv 3), cX6 cy (u 4) (u 5 0) (cv 4), cX3 cy (u 5) (cv 5), cX6 cy (u 6) (u 7 0) (cv 6), cX3 cy (u 7) (cv 7), cX8 cy (u 8) n0, cX8 cy (u 9) (cv 9), cX8 cy (u 10) (cv 10), cX0 cy (u 11) (cv 11), cX10 cy (u 12) (cv 12), cX10 cy (u 13) (cv 13), cX10 cy (u 14) (cv 14), cX2 cy (u 15) n1, cX5 cy (u 16) (cv 16), cX1 cy (u 17) (cv 17), cX4 cy (u 18) (cv 18), [(u 19 0, .inl (cy 2, 73, .inr (.inl B)))], cX12 cy adm v1, [(qo, .inl (cy 2, 1, .inr (.inl o)))]]) (ccs := [cX12 cy adm v]) (ccs' := [cX12 cy adm v1]) (isC := [20]) (isR := [0, 1, 2, 3, 4, 5, 6, 7, 8, 9, 10, 11, 12, 13, 14, 15, 16, 17, 18, 19, 21]) hx hb hml hown hts (k_X12_undo l G cy ev N adm v  (r, v1) hm) wm_53_15 wm_53_16 wm_53_17 wm_1_5 wm_53_18 hd_X12_undo ⟨by decide, by decide⟩ wj_one.symm wj_one.symm (by show _ ≤ 601024; omega) (by show _ ≤ 7293034; omega) hK hP hD hS hA hE rfl rfl rfl (cov_of (n := 22) rfl (by decide)) (by decide) rfl (recvW (ci := 20) hK hP rfl (show (cX12 cy adm v)[0]? = some (adm 0, _) from rfl) rfl) rfl rfl hl.1 (Nat.le_of_ble_eq_true rfl) dL_law_1434 (fun H locs hP hD hS => ?_)
  refine lv_icmp_eq (tgt := 1493) hx hb dL_law_1437 (by decide) (fun _ => ?_) (fun c9 => absurd rfl c9)
  obtain ⟨x5, e5⟩ : ∃ y : Int32, y = x4 + 6 := ⟨_, rfl⟩
  refine lv_iinc (v := x5) (lv' := [(4, .int x5), (0, .ref b), (1, .ref (u 0 0)), (2, .ref (adm 0)), (3, .ref qo)]) hx hb dL_law_1493 hl (k := 4) rfl (by rw [e5]; rfl) (by decide) rfl (fun ls hl => ?_)
  refine lv_goto (tgt := 23) hx hb dL_law_1496 (by decide) ?_
  refine W.widen (k := 170 + (k + 1)) (n := 6921 + 6 * (k + 1)) (by omega) (by omega) ?_
  exact ih (u) adm qo (uc (uc cv 8 n0) 15 n1) T B v1 o x5 _ _ ls (by rw [e5, hx4]; exact (nI_add (6 * k) 6).trans (by rw [Nat.mul_succ])) hI hP hD hS (lv_sub hl [1, 2, 3, 4, 0] rfl)
set_option maxHeartbeats 4000000 in
set_option maxRecDepth 100000 in
theorem law_keep {p : Program} {l : Launch} {e : Env} {s : State} {m : MethodId} {below : List Frame} {meth : Method} {cd : Code} {b L : Nat} {xs : Nat → Int32} {N : Nat} {INV : (Nat → VV) → (Nat → Int32) → (Nat → Int64) → VV → Prop} {G : va_G} {cy : Nat → ClassId} {ev : Nat → Nat} (hst : ST_keep N INV) (C : LCX p s m meth cd b L xs G cy ev) (k : Nat) (hk : 6 * k + 6 ≤ L) (ih : LOOPS p l e s m below meth cd b L INV G cy (k + 1)) (u : Nat → Nat → Nat) (adm : Nat → Nat) (qo : Nat) (cv : Nat → VV) (T : Nat → Int32) (B : Nat → Int64) (v : VV) (o : Nat → Int64) (x4 : Int32) (H : Heap) (locs : List Loc) (ls : Array Slot) (hx4 : x4 = nI (6 * k)) (hI : INV cv T B v) (hP : va_P G vwCl (wj (W22 cy u adm qo cv T B v o)) H) (hD : va_D (fun q => s.heap.size ≤ q) (wj (W22 cy u adm qo cv T B v o))) (hS : va_S (fun q => s.heap.size ≤ q) s.heap H locs) (hl : lv_has ls 7 [(0, .ref b), (1, .ref (u 0 0)), (2, .ref (adm 0)), (3, .ref qo), (4, .int x4)]) : W p l e room_1 s m #[Value.ref b] below meth cd H locs (170 + k) (6921 + 6 * k) (lw_Z below #[Value.ref b] s) (F0 m 1442 ls []) := by
  obtain ⟨hx, hb, hml, hown, hts, hK, hE, hX, hbl, hL⟩ := C
  have hA : ∀ q : Nat, s.heap.size ≤ q → (fun q : Nat => s.heap.size ≤ q) q := fun _ h => h
  have hbA : ¬ (fun q : Nat => s.heap.size ≤ q) b := Nat.not_le.mpr hbl
  have hin1 : vp_in (x4 + 1) L := by rw [hx4]; exact ix_in (j := 1) hk hL (by decide)
  have hin2 : vp_in (x4 + 2) L := by rw [hx4]; exact ix_in (j := 2) hk hL (by decide)
  have hin3 : vp_in (x4 + 3) L := by rw [hx4]; exact ix_in (j := 3) hk hL (by decide)
  have hin4 : vp_in (x4 + 4) L := by rw [hx4]; exact ix_in (j := 4) hk hL (by decide)
  have hin5 : vp_in (x4 + 5) L := by rw [hx4]; exact ix_in (j := 5) hk hL (by decide)
  refine lv_aload_n hx hb dL_law_1442 rfl (lv_at hl 1 rfl) ?_
  obtain ⟨r, n0, n1, v1, hf, hm, hI⟩ := hst cv T B v  hI
  refine callGVi (As := []) (rest := []) (cs' := [cX11 cy (u 0) (u 1 0) (u 2 0) (u 6 0) (u 8 0) (u 9 0) (u 10 0) (u 11 0) (u 12 0) (u 13 0) (u 14 0) (u 15 0) (u 16 0) (u 17 0) (u 18 0) (u 19 0) n0, [(u 1 0, .inl (cy 0, 700, .inl T))], cX7 cy (u 2) (u 3 0) (u 4 0) (cv 2), cX9 cy (u 3) (cv 3), cX6 cy (u 4) (u 5 0) (cv 4), cX3 cy (u 5) (cv 5), cX6 cy (u 6) (u 7 0) (cv 6), cX3 cy (u 7) (cv 7), cX8 cy (u 8) (cv 8), cX8 cy (u 9) n1, cX8 cy (u 10) (cv 10), cX0 cy (u 11) (cv 11), cX10 cy (u 12) (cv 12), cX10 cy (u 13) (cv 13), cX10 cy (u 14) (cv 14), cX2 cy (u 15) (cv 15), cX5 cy (u 16) (cv 16), cX1 cy (u 17) (cv 17), cX4 cy (u 18) (cv 18), [(u 19 0, .inl (cy 2, 73, .inr (.inl B)))], cX12 cy adm v, [(qo, .inl (cy 2, 1, .inr (.inl o)))]]) (ccs := [cX11 cy (u 0) (u 1 0) (u 2 0) (u 6 0) (u 8 0) (u 9 0) (u 10 0) (u 11 0) (u 12 0) (u 13 0) (u 14 0) (u 15 0) (u 16 0) (u 17 0) (u 18 0) (u 19 0) (cv 0), cX8 cy (u 8) (cv 8), cX8 cy (u 9) (cv 9)]) (ccs' := [cX11 cy (u 0) (u 1 0) (u 2 0) (u 6 0) (u 8 0) (u 9 0) (u 10 0) (u 11 0) (u 12 0) (u 13 0) (u 14 0) (u 15 0) (u 16 0) (u 17 0) (u 18 0) (u 19 0) n0, cX8 cy (u 8) (cv 8), cX8 cy (u 9) n1]) (isC := [0, 8, 9]) (isR := [1, 2, 3, 4, 5, 6, 7, 10, 11, 12, 13, 14, 15, 16, 17, 18, 19, 20, 21]) hx hb hml hown hts (k_X11_keep l G cy ev (u 0) (u 1 0) (u 2 0) (u 6 0) (u 10 0) (u 11 0) (u 12 0) (u 13 0) (u 14 0) (u 15 0) (u 16 0) (u 17 0) (u 18 0) (u 19 0) (cv 0) (u 8) (cv 8) (u 9) (cv 9)  (r, n0, n1) hf) wm_53_19 wm_53_20 wm_53_21 wm_1_2 wm_53_22 hd_X11_keep ⟨by decide, by decide⟩ rfl rfl (by show _ ≤ 601024; omega) (by show _ ≤ 7293034; omega) hK hP hD hS hA hE rfl rfl rfl (cov_of (n := 22) rfl (by decide)) (by decide) rfl (recvW (ci := 0) hK hP rfl cX11_o rfl) rfl rfl hl.1 (Nat.le_of_ble_eq_true rfl) dL_law_1443 (fun H locs hP hD hS => ?_)
  refine lv_aload_n hx hb dL_law_1446 rfl (lv_at hl 2 rfl) ?_
  refine callGVi (As := []) (rest := [.int r]) (cs' := [cX11 cy (u 0) (u 1 0) (u 2 0) (u 6 0) (u 8 0) (u 9 0) (u 10 0) (u 11 0) (u 12 0) (u 13 0) (u 14 0) (u 15 0) (u 16 0) (u 17 0) (u 18 0) (u 19 0) n0, [(u 1 0, .inl (cy 0, 700, .inl T))], cX7 cy (u 2) (u 3 0) (u 4 0) (cv 2), cX9 cy (u 3) (cv 3), cX6 cy (u 4) (u 5 0) (cv 4), cX3 cy (u 5) (cv 5), cX6 cy (u 6) (u 7 0) (cv 6), cX3 cy (u 7) (cv 7), cX8 cy (u 8) (cv 8), cX8 cy (u 9) n1, cX8 cy (u 10) (cv 10), cX0 cy (u 11) (cv 11), cX10 cy (u 12) (cv 12), cX10 cy (u 13) (cv 13), cX10 cy (u 14) (cv 14), cX2 cy (u 15) (cv 15), cX5 cy (u 16) (cv 16), cX1 cy (u 17) (cv 17), cX4 cy (u 18) (cv 18), [(u 19 0, .inl (cy 2, 73, .inr (.inl B)))], cX12 cy adm v1, [(qo, .inl (cy 2, 1, .inr (.inl o)))]]) (ccs := [cX12 cy adm v]) (ccs' := [cX12 cy adm v1]) (isC := [20]) (isR := [0, 1, 2, 3, 4, 5, 6, 7, 8, 9, 10, 11, 12, 13, 14, 15, 16, 17, 18, 19, 21]) hx hb hml hown hts (k_X12_keep l G cy ev N adm v  (r, v1) hm) wm_53_23 wm_54_0 wm_54_1 wm_1_5 wm_54_2 hd_X12_keep ⟨by decide, by decide⟩ wj_one.symm wj_one.symm (by show _ ≤ 601024; omega) (by show _ ≤ 7293034; omega) hK hP hD hS hA hE rfl rfl rfl (cov_of (n := 22) rfl (by decide)) (by decide) rfl (recvW (ci := 20) hK hP rfl (show (cX12 cy adm v)[0]? = some (adm 0, _) from rfl) rfl) rfl rfl hl.1 (Nat.le_of_ble_eq_true rfl) dL_law_1447 (fun H locs hP hD hS => ?_)
  refine lv_icmp_eq (tgt := 1493) hx hb dL_law_1450 (by decide) (fun _ => ?_) (fun c9 => absurd rfl c9)
  obtain ⟨x5, e5⟩ : ∃ y : Int32, y = x4 + 6 := ⟨_, rfl⟩
  refine lv_iinc (v := x5) (lv' := [(4, .int x5), (0, .ref b), (1, .ref (u 0 0)), (2, .ref (adm 0)), (3, .ref qo)]) hx hb dL_law_1493 hl (k := 4) rfl (by rw [e5]; rfl) (by decide) rfl (fun ls hl => ?_)
  refine lv_goto (tgt := 23) hx hb dL_law_1496 (by decide) ?_
  refine W.widen (k := 170 + (k + 1)) (n := 6921 + 6 * (k + 1)) (by omega) (by omega) ?_
  exact ih (u) adm qo (uc (uc cv 0 n0) 9 n1) T B v1 o x5 _ _ ls (by rw [e5, hx4]; exact (nI_add (6 * k) 6).trans (by rw [Nat.mul_succ])) hI hP hD hS (lv_sub hl [1, 2, 3, 4, 0] rfl)
set_option maxHeartbeats 4000000 in
set_option maxRecDepth 100000 in
theorem law_back {p : Program} {l : Launch} {e : Env} {s : State} {m : MethodId} {below : List Frame} {meth : Method} {cd : Code} {b L : Nat} {xs : Nat → Int32} {N : Nat} {INV : (Nat → VV) → (Nat → Int32) → (Nat → Int64) → VV → Prop} {G : va_G} {cy : Nat → ClassId} {ev : Nat → Nat} (hst : ST_back N INV) (C : LCX p s m meth cd b L xs G cy ev) (k : Nat) (hk : 6 * k + 6 ≤ L) (ih : LOOPS p l e s m below meth cd b L INV G cy (k + 1)) (u : Nat → Nat → Nat) (adm : Nat → Nat) (qo : Nat) (cv : Nat → VV) (T : Nat → Int32) (B : Nat → Int64) (v : VV) (o : Nat → Int64) (x4 : Int32) (H : Heap) (locs : List Loc) (ls : Array Slot) (hx4 : x4 = nI (6 * k)) (hI : INV cv T B v) (hP : va_P G vwCl (wj (W22 cy u adm qo cv T B v o)) H) (hD : va_D (fun q => s.heap.size ≤ q) (wj (W22 cy u adm qo cv T B v o))) (hS : va_S (fun q => s.heap.size ≤ q) s.heap H locs) (hl : lv_has ls 7 [(0, .ref b), (1, .ref (u 0 0)), (2, .ref (adm 0)), (3, .ref qo), (4, .int x4)]) : W p l e room_1 s m #[Value.ref b] below meth cd H locs (170 + k) (6921 + 6 * k) (lw_Z below #[Value.ref b] s) (F0 m 1455 ls []) := by
  obtain ⟨hx, hb, hml, hown, hts, hK, hE, hX, hbl, hL⟩ := C
  have hA : ∀ q : Nat, s.heap.size ≤ q → (fun q : Nat => s.heap.size ≤ q) q := fun _ h => h
  have hbA : ¬ (fun q : Nat => s.heap.size ≤ q) b := Nat.not_le.mpr hbl
  have hin1 : vp_in (x4 + 1) L := by rw [hx4]; exact ix_in (j := 1) hk hL (by decide)
  have hin2 : vp_in (x4 + 2) L := by rw [hx4]; exact ix_in (j := 2) hk hL (by decide)
  have hin3 : vp_in (x4 + 3) L := by rw [hx4]; exact ix_in (j := 3) hk hL (by decide)
  have hin4 : vp_in (x4 + 4) L := by rw [hx4]; exact ix_in (j := 4) hk hL (by decide)
  have hin5 : vp_in (x4 + 5) L := by rw [hx4]; exact ix_in (j := 5) hk hL (by decide)
  refine lv_aload_n hx hb dL_law_1455 rfl (lv_at hl 1 rfl) ?_
  obtain ⟨r, n0, n1, v1, hf, hm, hI⟩ := hst cv T B v  hI
  refine callGVi (As := []) (rest := []) (cs' := [cX11 cy (u 0) (u 1 0) (u 2 0) (u 6 0) (u 8 0) (u 9 0) (u 10 0) (u 11 0) (u 12 0) (u 13 0) (u 14 0) (u 15 0) (u 16 0) (u 17 0) (u 18 0) (u 19 0) (cv 0), [(u 1 0, .inl (cy 0, 700, .inl T))], cX7 cy (u 2) (u 3 0) (u 4 0) (cv 2), cX9 cy (u 3) (cv 3), cX6 cy (u 4) (u 5 0) (cv 4), cX3 cy (u 5) (cv 5), cX6 cy (u 6) (u 7 0) (cv 6), cX3 cy (u 7) (cv 7), cX8 cy (u 8) n0, cX8 cy (u 9) (cv 9), cX8 cy (u 10) (cv 10), cX0 cy (u 11) (cv 11), cX10 cy (u 12) (cv 12), cX10 cy (u 13) (cv 13), cX10 cy (u 14) (cv 14), cX2 cy (u 15) n1, cX5 cy (u 16) (cv 16), cX1 cy (u 17) (cv 17), cX4 cy (u 18) (cv 18), [(u 19 0, .inl (cy 2, 73, .inr (.inl B)))], cX12 cy adm v, [(qo, .inl (cy 2, 1, .inr (.inl o)))]]) (ccs := [cX11 cy (u 0) (u 1 0) (u 2 0) (u 6 0) (u 8 0) (u 9 0) (u 10 0) (u 11 0) (u 12 0) (u 13 0) (u 14 0) (u 15 0) (u 16 0) (u 17 0) (u 18 0) (u 19 0) (cv 0), cX8 cy (u 8) (cv 8), cX8 cy (u 9) (cv 9), cX2 cy (u 15) (cv 15)]) (ccs' := [cX11 cy (u 0) (u 1 0) (u 2 0) (u 6 0) (u 8 0) (u 9 0) (u 10 0) (u 11 0) (u 12 0) (u 13 0) (u 14 0) (u 15 0) (u 16 0) (u 17 0) (u 18 0) (u 19 0) (cv 0), cX8 cy (u 8) n0, cX8 cy (u 9) (cv 9), cX2 cy (u 15) n1]) (isC := [0, 8, 9, 15]) (isR := [1, 2, 3, 4, 5, 6, 7, 10, 11, 12, 13, 14, 16, 17, 18, 19, 20, 21]) hx hb hml hown hts (k_X11_back l G cy ev (u 0) (u 1 0) (u 2 0) (u 6 0) (u 10 0) (u 11 0) (u 12 0) (u 13 0) (u 14 0) (u 16 0) (u 17 0) (u 18 0) (u 19 0) (cv 0) (u 8) (cv 8) (u 9) (cv 9) (u 15) (cv 15)  (r, n0, n1) hf) wm_54_3 wm_54_4 wm_54_5 wm_1_2 wm_54_6 hd_X11_back ⟨by decide, by decide⟩ rfl rfl (by show _ ≤ 601024; omega) (by show _ ≤ 7293034; omega) hK hP hD hS hA hE rfl rfl rfl (cov_of (n := 22) rfl (by decide)) (by decide) rfl (recvW (ci := 0) hK hP rfl cX11_o rfl) rfl rfl hl.1 (Nat.le_of_ble_eq_true rfl) dL_law_1456 (fun H locs hP hD hS => ?_)
  refine lv_aload_n hx hb dL_law_1459 rfl (lv_at hl 2 rfl) ?_
  refine callGVi (As := []) (rest := [.int r]) (cs' := [cX11 cy (u 0) (u 1 0) (u 2 0) (u 6 0) (u 8 0) (u 9 0) (u 10 0) (u 11 0) (u 12 0) (u 13 0) (u 14 0) (u 15 0) (u 16 0) (u 17 0) (u 18 0) (u 19 0) (cv 0), [(u 1 0, .inl (cy 0, 700, .inl T))], cX7 cy (u 2) (u 3 0) (u 4 0) (cv 2), cX9 cy (u 3) (cv 3), cX6 cy (u 4) (u 5 0) (cv 4), cX3 cy (u 5) (cv 5), cX6 cy (u 6) (u 7 0) (cv 6), cX3 cy (u 7) (cv 7), cX8 cy (u 8) n0, cX8 cy (u 9) (cv 9), cX8 cy (u 10) (cv 10), cX0 cy (u 11) (cv 11), cX10 cy (u 12) (cv 12), cX10 cy (u 13) (cv 13), cX10 cy (u 14) (cv 14), cX2 cy (u 15) n1, cX5 cy (u 16) (cv 16), cX1 cy (u 17) (cv 17), cX4 cy (u 18) (cv 18), [(u 19 0, .inl (cy 2, 73, .inr (.inl B)))], cX12 cy adm v1, [(qo, .inl (cy 2, 1, .inr (.inl o)))]]) (ccs := [cX12 cy adm v]) (ccs' := [cX12 cy adm v1]) (isC := [20]) (isR := [0, 1, 2, 3, 4, 5, 6, 7, 8, 9, 10, 11, 12, 13, 14, 15, 16, 17, 18, 19, 21]) hx hb hml hown hts (k_X12_back l G cy ev N adm v  (r, v1) hm) wm_54_7 wm_54_8 wm_54_9 wm_1_5 wm_54_10 hd_X12_back ⟨by decide, by decide⟩ wj_one.symm wj_one.symm (by show _ ≤ 601024; omega) (by show _ ≤ 7293034; omega) hK hP hD hS hA hE rfl rfl rfl (cov_of (n := 22) rfl (by decide)) (by decide) rfl (recvW (ci := 20) hK hP rfl (show (cX12 cy adm v)[0]? = some (adm 0, _) from rfl) rfl) rfl rfl hl.1 (Nat.le_of_ble_eq_true rfl) dL_law_1460 (fun H locs hP hD hS => ?_)
  refine lv_icmp_eq (tgt := 1493) hx hb dL_law_1463 (by decide) (fun _ => ?_) (fun c9 => absurd rfl c9)
  obtain ⟨x5, e5⟩ : ∃ y : Int32, y = x4 + 6 := ⟨_, rfl⟩
  refine lv_iinc (v := x5) (lv' := [(4, .int x5), (0, .ref b), (1, .ref (u 0 0)), (2, .ref (adm 0)), (3, .ref qo)]) hx hb dL_law_1493 hl (k := 4) rfl (by rw [e5]; rfl) (by decide) rfl (fun ls hl => ?_)
  refine lv_goto (tgt := 23) hx hb dL_law_1496 (by decide) ?_
  refine W.widen (k := 170 + (k + 1)) (n := 6921 + 6 * (k + 1)) (by omega) (by omega) ?_
  exact ih (u) adm qo (uc (uc cv 8 n0) 15 n1) T B v1 o x5 _ _ ls (by rw [e5, hx4]; exact (nI_add (6 * k) 6).trans (by rw [Nat.mul_succ])) hI hP hD hS (lv_sub hl [1, 2, 3, 4, 0] rfl)
set_option maxHeartbeats 4000000 in
set_option maxRecDepth 100000 in
theorem law_count {p : Program} {l : Launch} {e : Env} {s : State} {m : MethodId} {below : List Frame} {meth : Method} {cd : Code} {b L : Nat} {xs : Nat → Int32} {N : Nat} {INV : (Nat → VV) → (Nat → Int32) → (Nat → Int64) → VV → Prop} {G : va_G} {cy : Nat → ClassId} {ev : Nat → Nat} (hst : ST_count N INV) (C : LCX p s m meth cd b L xs G cy ev) (k : Nat) (hk : 6 * k + 6 ≤ L) (ih : LOOPS p l e s m below meth cd b L INV G cy (k + 1)) (u : Nat → Nat → Nat) (adm : Nat → Nat) (qo : Nat) (cv : Nat → VV) (T : Nat → Int32) (B : Nat → Int64) (v : VV) (o : Nat → Int64) (x4 : Int32) (H : Heap) (locs : List Loc) (ls : Array Slot) (hx4 : x4 = nI (6 * k)) (hI : INV cv T B v) (hP : va_P G vwCl (wj (W22 cy u adm qo cv T B v o)) H) (hD : va_D (fun q => s.heap.size ≤ q) (wj (W22 cy u adm qo cv T B v o))) (hS : va_S (fun q => s.heap.size ≤ q) s.heap H locs) (hl : lv_has ls 7 [(0, .ref b), (1, .ref (u 0 0)), (2, .ref (adm 0)), (3, .ref qo), (4, .int x4)]) : W p l e room_1 s m #[Value.ref b] below meth cd H locs (170 + k) (6921 + 6 * k) (lw_Z below #[Value.ref b] s) (F0 m 1468 ls []) := by
  obtain ⟨hx, hb, hml, hown, hts, hK, hE, hX, hbl, hL⟩ := C
  have hA : ∀ q : Nat, s.heap.size ≤ q → (fun q : Nat => s.heap.size ≤ q) q := fun _ h => h
  have hbA : ¬ (fun q : Nat => s.heap.size ≤ q) b := Nat.not_le.mpr hbl
  have hin1 : vp_in (x4 + 1) L := by rw [hx4]; exact ix_in (j := 1) hk hL (by decide)
  have hin2 : vp_in (x4 + 2) L := by rw [hx4]; exact ix_in (j := 2) hk hL (by decide)
  have hin3 : vp_in (x4 + 3) L := by rw [hx4]; exact ix_in (j := 3) hk hL (by decide)
  have hin4 : vp_in (x4 + 4) L := by rw [hx4]; exact ix_in (j := 4) hk hL (by decide)
  have hin5 : vp_in (x4 + 5) L := by rw [hx4]; exact ix_in (j := 5) hk hL (by decide)
  refine lv_aload_n hx hb dL_law_1468 rfl (lv_at hl 1 rfl) ?_
  refine lv_aload_n hx hb dL_law_1469 rfl (lv_at hl 0 rfl) ?_
  refine lv_iload hx hb dL_law_1470 (lv_at hl 4 rfl) ?_
  refine lv_iconst (v := 1) hx hb dL_law_1472 (by decide) ?_
  refine lv_iadd hx hb dL_law_1473 ?_
  refine va_sld hx hb hX hbl hbA hS hin1 dL_law_1474 ?_
  obtain ⟨r, v1, hf, hm, hI⟩ := hst cv T B v (xs (x4 + 1).toNatClampNeg) hI
  refine callGVi (As := [.int (xs (x4 + 1).toNatClampNeg)]) (rest := []) (cs' := [cX11 cy (u 0) (u 1 0) (u 2 0) (u 6 0) (u 8 0) (u 9 0) (u 10 0) (u 11 0) (u 12 0) (u 13 0) (u 14 0) (u 15 0) (u 16 0) (u 17 0) (u 18 0) (u 19 0) (cv 0), [(u 1 0, .inl (cy 0, 700, .inl T))], cX7 cy (u 2) (u 3 0) (u 4 0) (cv 2), cX9 cy (u 3) (cv 3), cX6 cy (u 4) (u 5 0) (cv 4), cX3 cy (u 5) (cv 5), cX6 cy (u 6) (u 7 0) (cv 6), cX3 cy (u 7) (cv 7), cX8 cy (u 8) (cv 8), cX8 cy (u 9) (cv 9), cX8 cy (u 10) (cv 10), cX0 cy (u 11) (cv 11), cX10 cy (u 12) (cv 12), cX10 cy (u 13) (cv 13), cX10 cy (u 14) (cv 14), cX2 cy (u 15) (cv 15), cX5 cy (u 16) (cv 16), cX1 cy (u 17) (cv 17), cX4 cy (u 18) (cv 18), [(u 19 0, .inl (cy 2, 73, .inr (.inl B)))], cX12 cy adm v, [(qo, .inl (cy 2, 1, .inr (.inl o)))]]) (ccs := [cX11 cy (u 0) (u 1 0) (u 2 0) (u 6 0) (u 8 0) (u 9 0) (u 10 0) (u 11 0) (u 12 0) (u 13 0) (u 14 0) (u 15 0) (u 16 0) (u 17 0) (u 18 0) (u 19 0) (cv 0), cX6 cy (u 6) (u 7 0) (cv 6), cX3 cy (u 7) (cv 7), cX8 cy (u 8) (cv 8), cX2 cy (u 15) (cv 15), cX5 cy (u 16) (cv 16)]) (ccs' := [cX11 cy (u 0) (u 1 0) (u 2 0) (u 6 0) (u 8 0) (u 9 0) (u 10 0) (u 11 0) (u 12 0) (u 13 0) (u 14 0) (u 15 0) (u 16 0) (u 17 0) (u 18 0) (u 19 0) (cv 0), cX6 cy (u 6) (u 7 0) (cv 6), cX3 cy (u 7) (cv 7), cX8 cy (u 8) (cv 8), cX2 cy (u 15) (cv 15), cX5 cy (u 16) (cv 16)]) (isC := [0, 6, 7, 8, 15, 16]) (isR := [1, 2, 3, 4, 5, 9, 10, 11, 12, 13, 14, 17, 18, 19, 20, 21]) hx hb hml hown hts (k_X11_count l G cy ev N (u 0) (u 1 0) (u 2 0) (u 9 0) (u 10 0) (u 11 0) (u 12 0) (u 13 0) (u 14 0) (u 17 0) (u 18 0) (u 19 0) (cv 0) (u 6) (cv 6) (u 7) (cv 7) (u 8) (cv 8) (u 15) (cv 15) (u 16) (cv 16) (xs (x4 + 1).toNatClampNeg) r hf) wm_54_11 wm_54_12 wm_54_13 wm_1_2 wm_54_14 hd_X11_count ⟨by decide, by decide⟩ rfl rfl (by show _ ≤ 601024; omega) (by show _ ≤ 7293034; omega) hK hP hD hS hA hE rfl rfl rfl (cov_of (n := 22) rfl (by decide)) (by decide) rfl (recvW (ci := 0) hK hP rfl cX11_o rfl) rfl rfl hl.1 (Nat.le_of_ble_eq_true rfl) dL_law_1475 (fun H locs hP hD hS => ?_)
  refine lv_aload_n hx hb dL_law_1478 rfl (lv_at hl 2 rfl) ?_
  refine lv_aload_n hx hb dL_law_1479 rfl (lv_at hl 0 rfl) ?_
  refine lv_iload hx hb dL_law_1480 (lv_at hl 4 rfl) ?_
  refine lv_iconst (v := 1) hx hb dL_law_1482 (by decide) ?_
  refine lv_iadd hx hb dL_law_1483 ?_
  refine va_sld hx hb hX hbl hbA hS hin1 dL_law_1484 ?_
  refine callGVi (As := [.int (xs (x4 + 1).toNatClampNeg)]) (rest := [.int r]) (cs' := [cX11 cy (u 0) (u 1 0) (u 2 0) (u 6 0) (u 8 0) (u 9 0) (u 10 0) (u 11 0) (u 12 0) (u 13 0) (u 14 0) (u 15 0) (u 16 0) (u 17 0) (u 18 0) (u 19 0) (cv 0), [(u 1 0, .inl (cy 0, 700, .inl T))], cX7 cy (u 2) (u 3 0) (u 4 0) (cv 2), cX9 cy (u 3) (cv 3), cX6 cy (u 4) (u 5 0) (cv 4), cX3 cy (u 5) (cv 5), cX6 cy (u 6) (u 7 0) (cv 6), cX3 cy (u 7) (cv 7), cX8 cy (u 8) (cv 8), cX8 cy (u 9) (cv 9), cX8 cy (u 10) (cv 10), cX0 cy (u 11) (cv 11), cX10 cy (u 12) (cv 12), cX10 cy (u 13) (cv 13), cX10 cy (u 14) (cv 14), cX2 cy (u 15) (cv 15), cX5 cy (u 16) (cv 16), cX1 cy (u 17) (cv 17), cX4 cy (u 18) (cv 18), [(u 19 0, .inl (cy 2, 73, .inr (.inl B)))], cX12 cy adm v1, [(qo, .inl (cy 2, 1, .inr (.inl o)))]]) (ccs := [cX12 cy adm v]) (ccs' := [cX12 cy adm v1]) (isC := [20]) (isR := [0, 1, 2, 3, 4, 5, 6, 7, 8, 9, 10, 11, 12, 13, 14, 15, 16, 17, 18, 19, 21]) hx hb hml hown hts (k_X12_count l G cy ev N adm v (xs (x4 + 1).toNatClampNeg) (r, v1) hm) wm_55_0 wm_55_1 wm_55_2 wm_1_5 wm_55_3 hd_X12_count ⟨by decide, by decide⟩ wj_one.symm wj_one.symm (by show _ ≤ 601024; omega) (by show _ ≤ 7293034; omega) hK hP hD hS hA hE rfl rfl rfl (cov_of (n := 22) rfl (by decide)) (by decide) rfl (recvW (ci := 20) hK hP rfl (show (cX12 cy adm v)[0]? = some (adm 0, _) from rfl) rfl) rfl rfl hl.1 (Nat.le_of_ble_eq_true rfl) dL_law_1485 (fun H locs hP hD hS => ?_)
  refine lv_icmp_eq (tgt := 1493) hx hb dL_law_1488 (by decide) (fun _ => ?_) (fun c9 => absurd rfl c9)
  obtain ⟨x5, e5⟩ : ∃ y : Int32, y = x4 + 6 := ⟨_, rfl⟩
  refine lv_iinc (v := x5) (lv' := [(4, .int x5), (0, .ref b), (1, .ref (u 0 0)), (2, .ref (adm 0)), (3, .ref qo)]) hx hb dL_law_1493 hl (k := 4) rfl (by rw [e5]; rfl) (by decide) rfl (fun ls hl => ?_)
  refine lv_goto (tgt := 23) hx hb dL_law_1496 (by decide) ?_
  refine W.widen (k := 170 + (k + 1)) (n := 6921 + 6 * (k + 1)) (by omega) (by omega) ?_
  exact ih (u) adm qo (cv) T B v1 o x5 _ _ ls (by rw [e5, hx4]; exact (nI_add (6 * k) 6).trans (by rw [Nat.mul_succ])) hI hP hD hS (lv_sub hl [1, 2, 3, 4, 0] rfl)
