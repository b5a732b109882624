theorem ka_of {s : State} {args : Array Value} {ty : FieldType} (hty : ∀ C, ty ≠ .object C) (h : (Cond.arrayClass ty).before args s = true) : ∃ c, ArrOfT s c ty ∧ va_RA s c ty := by
  obtain ⟨c, k, comp, h1, h2, h3⟩ := Cond.arrayClass_spec h
  refine ⟨c, fun n z => ⟨(fun k h => by cases h), k, h2, comp, h3⟩, ?_⟩
  cases ty <;> first | exact h1 | exact absurd rfl (hty _)
theorem kb_of {s : State} (h : va_AOA .int s) : ∃ c, ArrOfT s c (.array .int) ∧ va_RA s c (.array .int) := by
  simp only [va_AOA, Cond.before, Cond.holds, Cond.value, beq_iff_eq, Option.bind_eq_some_iff, Option.map_eq_some_iff] at h
  obtain ⟨comp, -, c, -, k, h3, h4⟩ := h
  split at h4
  · rename_i comp' ty hkd
    simp only [Bool.and_eq_true, decide_eq_true_eq] at h4
    obtain ⟨rfl, h5⟩ := h4
    exact ⟨c, fun n z => ⟨(fun k h => by cases h), k, h3, comp', hkd⟩, h5⟩
  · cases h4
theorem known_all {s : State} {args : Array Value} (hts : ∀ w ∈ WL, w.before args s = true) (hao : va_AOA .int s) : ∃ (G : va_G) (cy : Nat → ClassId), va_K G vwCl (tysX cy) s := by
  obtain ⟨c0, i0, k0⟩ := u_known (C := RX0) (T := TX0) (N := 1) (n := 1) hts inW0 (hts _ wm_2_8)
  obtain ⟨c1, i1, k1⟩ := u_known (C := RX1) (T := TX1) (N := 7) (n := 7) hts inW1 (hts _ wm_3_2)
  obtain ⟨c2, i2, k2⟩ := u_known (C := RX2) (T := TX2) (N := 4) (n := 4) hts inW2 (hts _ wm_2_18)
  obtain ⟨c3, i3, k3⟩ := u_known (C := RX3) (T := TX3) (N := 8) (n := 8) hts inW3 (hts _ wm_4_23)
  obtain ⟨c4, i4, k4⟩ := u_known (C := RX4) (T := TX4) (N := 4) (n := 4) hts inW4 (hts _ wm_3_6)
  obtain ⟨c5, i5, k5⟩ := u_known (C := RX5) (T := TX5) (N := 6) (n := 6) hts inW5 (hts _ wm_2_22)
  obtain ⟨c6, i6, k6⟩ := u_known (C := RX6) (T := TX6) (N := 9) (n := 9) hts inW6 (hts _ wm_1_21)
  obtain ⟨c7, i7, k7⟩ := u_known (C := RX7) (T := TX7) (N := 7) (n := 7) hts inW7 (hts _ wm_1_17)
  obtain ⟨c8, i8, k8⟩ := u_known (C := RX8) (T := TX8) (N := 18) (n := 18) hts inW8 (hts _ wm_2_1)
  obtain ⟨c9, i9, k9⟩ := u_known (C := RX9) (T := TX9) (N := 4) (n := 4) hts inW9 (hts _ wm_3_14)
  obtain ⟨c10, i10, k10⟩ := u_known (C := RX10) (T := TX10) (N := 8) (n := 8) hts inW10 (hts _ wm_2_12)
  obtain ⟨c11, i11, k11⟩ := u_known (C := RX11) (T := TX11) (N := 17) (n := 17) hts inW11 (hts _ wm_1_1)
  obtain ⟨c12, i12, k12⟩ := u_known (C := RX12) (T := TX12) (N := 71) (n := 71) hts inW12 (hts _ wm_1_4)
  obtain ⟨a0, b0⟩ := ka_of (ty := .byte) (fun _ h => nomatch h) (hts _ wm_1_13)
  obtain ⟨a1, b1⟩ := ka_of (ty := .int) (fun _ h => nomatch h) (hts _ wm_4_3)
  obtain ⟨a2, b2⟩ := ka_of (ty := .long) (fun _ h => nomatch h) (hts _ wm_1_6)
  obtain ⟨a3, b3⟩ := ka_of (ty := .boolean) (fun _ h => nomatch h) (hts _ wm_4_20)
  obtain ⟨a4, b4⟩ := kb_of hao
  refine ⟨(fun k => if k = 0 then c0 else if k = 1 then c1 else if k = 2 then c2 else if k = 3 then c3 else if k = 4 then c4 else if k = 5 then c5 else if k = 6 then c6 else if k = 7 then c7 else if k = 8 then c8 else if k = 9 then c9 else if k = 10 then c10 else if k = 11 then c11 else c12, fun k => if k = 0 then i0 else if k = 1 then i1 else if k = 2 then i2 else if k = 3 then i3 else if k = 4 then i4 else if k = 5 then i5 else if k = 6 then i6 else if k = 7 then i7 else if k = 8 then i8 else if k = 9 then i9 else if k = 10 then i10 else if k = 11 then i11 else i12), fun k => if k = 0 then a0 else if k = 1 then a1 else if k = 2 then a2 else if k = 3 then a3 else a4, fun k q hq => ?_, fun k q hq => ?_⟩
  · match k, hq with
    | 0, hq => cases hq; exact k0
    | 1, hq => cases hq; exact k1
    | 2, hq => cases hq; exact k2
    | 3, hq => cases hq; exact k3
    | 4, hq => cases hq; exact k4
    | 5, hq => cases hq; exact k5
    | 6, hq => cases hq; exact k6
    | 7, hq => cases hq; exact k7
    | 8, hq => cases hq; exact k8
    | 9, hq => cases hq; exact k9
    | 10, hq => cases hq; exact k10
    | 11, hq => cases hq; exact k11
    | 12, hq => cases hq; exact k12
    | k + 13, hq => simp [vwCl] at hq
  · match k, hq with
    | 0, hq => cases hq; exact b0
    | 1, hq => cases hq; exact b1
    | 2, hq => cases hq; exact b2
    | 3, hq => cases hq; exact b3
    | 4, hq => cases hq; exact b4
    | k + 5, hq => simp [tysX] at hq
set_option maxHeartbeats 4000000 in
set_option maxRecDepth 100000 in
theorem whole_start {p : Program} {e : Env} {s : State} {m : MethodId} {below : List Frame} {meth : Method} {c : Code} (l : Launch) (htr : l.stackTraces = false) {b L : Nat} {xs : Nat → Int32} (hL : L ≤ 3072) (C0 : lw_At p s m meth c b L xs) : W p l e room_1 s m #[Value.ref b] below meth c s.heap [] 0 0 (lw_Z below #[Value.ref b] s) (entryFrame m ([Value.ref b] : List Value).toArray 7) := by
  obtain ⟨hx, hb, hr, hml, hown, hts0, hX, hbl, hlocks, hgv⟩ := id C0
  have hb : c.code = cL_law := hb
  have hA : ∀ q : Nat, s.heap.size ≤ q → (fun q : Nat => s.heap.size ≤ q) q := fun _ h => h
  have htsP : ∀ w ∈ WP, w.before #[Value.ref b] s = true := fun w h => hts0 w (wp_tbl w h)
  have hts : ∀ w ∈ WL, w.before #[Value.ref b] s = true := fun w h => hts0 w (wl_tbl w h)
  obtain ⟨ev, hE, hPX, hao⟩ := ev_start hts0 hgv
  obtain ⟨G, cy, hK⟩ := known_all hts hao
  obtain ⟨S1, v1, f1, f2, hI⟩ := inv_start 3000 (by decide)
  have hown : s.vm.findClass RL = some m.cls := hown
  have hS : va_S (fun q : Nat => s.heap.size ≤ q) s.heap s.heap [] := va_S.rf
  have hP : va_P G vwCl (wj []) s.heap := fun k q h => by simp [wj] at h
  have hD : va_D (fun q : Nat => s.heap.size ≤ q) (wj []) := ⟨fun i j p q h => by simp [wj] at h, fun k q h => by simp [wj] at h⟩
  have hl := lv_entry ([.ref b]) (n := 7) (Nat.le_of_ble_eq_true rfl)
  rw [lg_entry_eq]
  generalize (lg_sl ([.ref b]) ++ List.replicate (7 - (lg_sl ([.ref b])).length) Slot.unset).toArray = ls at hl ⊢
  have hl : lv_has ls 7 [(0, .ref b)] := hl
  refine nwW (k := 11) (fs := [.null, .int 0, .null, .null, .null, .null, .int 0, .null, .null, .null, .null, .null, .null, .null, .null, .null, .null]) hx hb hts inW11 tyX11 tyX11_ok hown wm_1_0 wm_1_1 wm_1_2 hK hP hD hS hA rfl (by decide +kernel) (by decide) (by decide) dL_law_0 (fun q0 Ha hPa hDa hSa => ?_)
  refine lv_dup hx hb dL_law_3 rfl ?_
  refine callNI (As := []) (rest := [.ref q0]) (rs := []) (isC := [0]) (isR := []) hx hb hml hown hts hao (k_X11_init l G cy ev 3000 S1 f1 q0) wm_1_7 wm_1_8 wm_1_2 wm_1_9 hds_X11_init rfl ⟨by decide, by decide⟩ hK hPa hDa hSa hA hE rfl rfl rfl rfl (by decide) rfl rfl hl.1 (Nat.le_of_ble_eq_true rfl) dL_law_4 ⟨by decide, by decide⟩ (fun u Hb locsb hu hPb hDb hSb => ?_)
  have hu : u 0 0 = q0 := hu
  clear hPa hDa hSa
  subst hu
  refine lv_astore_n (lv' := [(1, .ref (u 0 0)), (0, .ref b)]) hx hb dL_law_7 rfl hl (by decide) rfl (fun ls hl => ?_)
  have hP : va_P G vwCl (wj [cX11 cy (u 0) (u 1 0) (u 2 0) (u 6 0) (u 8 0) (u 9 0) (u 10 0) (u 11 0) (u 12 0) (u 13 0) (u 14 0) (u 15 0) (u 16 0) (u 17 0) (u 18 0) (u 19 0) vX11, [(u 1 0, .inl (cy 0, 700, .inl (fun _ => 0)))], cX7 cy (u 2) (u 3 0) (u 4 0) vX7, cX9 cy (u 3) vX9, cX6 cy (u 4) (u 5 0) vX6, cX3 cy (u 5) vX3, cX6 cy (u 6) (u 7 0) vX6, cX3 cy (u 7) vX3, cX8 cy (u 8) S1, cX8 cy (u 9) vX8, cX8 cy (u 10) vX8, cX0 cy (u 11) vX0, cX10 cy (u 12) vX10, cX10 cy (u 13) (si vX10 0 1), cX10 cy (u 14) vX10, cX2 cy (u 15) vX2, cX5 cy (u 16) vX5, cX1 cy (u 17) vX1, cX4 cy (u 18) vX4, [(u 19 0, .inl (cy 2, 73, .inr (.inl (fun _ => 0))))]]) Hb := hPb
  have hD : va_D (fun q : Nat => s.heap.size ≤ q) (wj [cX11 cy (u 0) (u 1 0) (u 2 0) (u 6 0) (u 8 0) (u 9 0) (u 10 0) (u 11 0) (u 12 0) (u 13 0) (u 14 0) (u 15 0) (u 16 0) (u 17 0) (u 18 0) (u 19 0) vX11, [(u 1 0, .inl (cy 0, 700, .inl (fun _ => 0)))], cX7 cy (u 2) (u 3 0) (u 4 0) vX7, cX9 cy (u 3) vX9, cX6 cy (u 4) (u 5 0) vX6, cX3 cy (u 5) vX3, cX6 cy (u 6) (u 7 0) vX6, cX3 cy (u 7) vX3, cX8 cy (u 8) S1, cX8 cy (u 9) vX8, cX8 cy (u 10) vX8, cX0 cy (u 11) vX0, cX10 cy (u 12) vX10, cX10 cy (u 13) (si vX10 0 1), cX10 cy (u 14) vX10, cX2 cy (u 15) vX2, cX5 cy (u 16) vX5, cX1 cy (u 17) vX1, cX4 cy (u 18) vX4, [(u 19 0, .inl (cy 2, 73, .inr (.inl (fun _ => 0))))]]) := hDb
  refine nwW (k := 12) (fs := [.int 0, .null, .int 0, .null, .null, .null, .null, .null, .null, .null, .null, .null, .null, .null, .null, .null, .int 0, .int 0, .int 0, .int 0, .int 0, .int 0, .int 0, .int 0, .int 0, .int 0, .int 0, .int 0, .int 0, .null, .null, .int 0, .null, .null, .null, .null, .null, .null, .null, .null, .null, .null, .null, .null, .null, .null, .null, .null, .int 0, .int 0, .int 0, .int 0, .int 0, .int 0, .null, .int 0, .int 0, .int 0, .null, .null, .null, .int 0, .null, .null, .int 0, .int 0, .null, .null, .null, .null, .null]) hx hb hts inW12 tyX12 tyX12_ok hown wm_1_3 wm_1_4 wm_1_5 hK hP hD hSb hA rfl (by decide +kernel) (by decide) (by decide) dL_law_8 (fun q1 Hc hPc hDc hSc => ?_)
  refine lv_dup hx hb dL_law_11 rfl ?_
  refine callNI (As := []) (rest := [.ref q1]) (rs := [cX11 cy (u 0) (u 1 0) (u 2 0) (u 6 0) (u 8 0) (u 9 0) (u 10 0) (u 11 0) (u 12 0) (u 13 0) (u 14 0) (u 15 0) (u 16 0) (u 17 0) (u 18 0) (u 19 0) vX11, [(u 1 0, .inl (cy 0, 700, .inl (fun _ => 0)))], cX7 cy (u 2) (u 3 0) (u 4 0) vX7, cX9 cy (u 3) vX9, cX6 cy (u 4) (u 5 0) vX6, cX3 cy (u 5) vX3, cX6 cy (u 6) (u 7 0) vX6, cX3 cy (u 7) vX3, cX8 cy (u 8) S1, cX8 cy (u 9) vX8, cX8 cy (u 10) vX8, cX0 cy (u 11) vX0, cX10 cy (u 12) vX10, cX10 cy (u 13) (si vX10 0 1), cX10 cy (u 14) vX10, cX2 cy (u 15) vX2, cX5 cy (u 16) vX5, cX1 cy (u 17) vX1, cX4 cy (u 18) vX4, [(u 19 0, .inl (cy 2, 73, .inr (.inl (fun _ => 0))))]]) (isC := [20]) (isR := [0, 1, 2, 3, 4, 5, 6, 7, 8, 9, 10, 11, 12, 13, 14, 15, 16, 17, 18, 19]) hx hb hml hown hts hao (k_X12_init l G cy ev 3000 v1 f2 q1) wm_9_0 wm_9_1 wm_1_5 wm_9_2 hds_X12_init rfl ⟨by decide, by decide⟩ hK hPc hDc hSc hA hE rfl rfl rfl rfl (by decide) rfl rfl hl.1 (Nat.le_of_ble_eq_true rfl) dL_law_12 ⟨by decide, by decide⟩ (fun adm Hd locsd hu hPd hDd hSd => ?_)
  have hu : adm 0 = q1 := hu
  clear hPc hDc hSc
  subst hu
  refine lv_astore_n (lv' := [(2, .ref (adm 0)), (1, .ref (u 0 0)), (0, .ref b)]) hx hb dL_law_15 rfl hl (by decide) rfl (fun ls hl => ?_)
  refine lv_iconst (v := 1) hx hb dL_law_16 (by decide) ?_
  refine naJ (n := 1) (N' := 1) hx hb hts hK hPd hDd hSd hA (by decide) (by decide) (by decide) (by decide) (by decide) dL_law_17 (fun qo He hPe hDe hSe => ?_)
  refine lv_astore_n (lv' := [(3, .ref qo), (2, .ref (adm 0)), (1, .ref (u 0 0)), (0, .ref b)]) hx hb dL_law_19 rfl hl (by decide) rfl (fun ls hl => ?_)
  refine lv_iconst (v := 0) hx hb dL_law_20 (by decide) ?_
  refine lv_istore (lv' := [(4, .int 0), (3, .ref qo), (2, .ref (adm 0)), (1, .ref (u 0 0)), (0, .ref b)]) hx hb dL_law_21 hl (by decide) rfl (fun ls hl => ?_)
  have C : LCX p s m meth c b L xs G cy ev := ⟨hx, hb, hml, hown, hts, hK, hE, hX, hbl, hL⟩
  have hst := steps_all 3000 (by decide)
  exact law_all C hst (law_party hst.2.2.2.2.1 C htr htsP hPX) hr hlocks (L + 1) 0 (by omega) (by omega) u adm qo (cv0 S1) (fun _ => 0) (fun _ => 0) v1 (fun _ => 0) 0 _ _ ls rfl hI hPe hDe hSe (lv_sub hl [4, 3, 2, 1, 0] rfl)
