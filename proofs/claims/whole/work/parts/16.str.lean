theorem hd_J0_length_8abf5 : yJ0_length_8abf5.cls = RJ0 ∧ yJ0_length_8abf5.cls ≠ "java/lang/invoke/MethodHandle" ∧ yJ0_length_8abf5.cls ≠ "java/lang/invoke/VarHandle" ∧ (parseMethodDescriptor yJ0_length_8abf5.desc).map (fun d => d.parameters.length) = some 0 := ⟨rfl, by decide +kernel, by decide +kernel, by decide +kernel⟩
theorem hd_J0_charAt_5068e : yJ0_charAt_5068e.cls = RJ0 ∧ yJ0_charAt_5068e.cls ≠ "java/lang/invoke/MethodHandle" ∧ yJ0_charAt_5068e.cls ≠ "java/lang/invoke/VarHandle" ∧ (parseMethodDescriptor yJ0_charAt_5068e.desc).map (fun d => d.parameters.length) = some 1 := ⟨rfl, by decide +kernel, by decide +kernel, by decide +kernel⟩
theorem hd_J0_coder_7d493 : yJ0_coder_7d493.cls = RJ0 ∧ yJ0_coder_7d493.cls ≠ "java/lang/invoke/MethodHandle" ∧ yJ0_coder_7d493.cls ≠ "java/lang/invoke/VarHandle" ∧ (parseMethodDescriptor yJ0_coder_7d493.desc).map (fun d => d.parameters.length) = some 0 := ⟨rfl, by decide +kernel, by decide +kernel, by decide +kernel⟩
theorem hd_J0_isLatin1_aae02 : yJ0_isLatin1_aae02.cls = RJ0 ∧ yJ0_isLatin1_aae02.cls ≠ "java/lang/invoke/MethodHandle" ∧ yJ0_isLatin1_aae02.cls ≠ "java/lang/invoke/VarHandle" ∧ (parseMethodDescriptor yJ0_isLatin1_aae02.desc).map (fun d => d.parameters.length) = some 0 := ⟨rfl, by decide +kernel, by decide +kernel, by decide +kernel⟩
theorem hds_J1_charAt_3b067 : yJ1_charAt_3b067.cls ≠ "java/lang/invoke/MethodHandle" ∧ yJ1_charAt_3b067.cls ≠ "java/lang/invoke/VarHandle" ∧ (parseMethodDescriptor yJ1_charAt_3b067.desc).map (fun d => d.parameters.length) = some 2 := ⟨by decide +kernel, by decide +kernel, by decide +kernel⟩
theorem hds_J0_checkIndex_df160 : yJ0_checkIndex_df160.cls ≠ "java/lang/invoke/MethodHandle" ∧ yJ0_checkIndex_df160.cls ≠ "java/lang/invoke/VarHandle" ∧ (parseMethodDescriptor yJ0_checkIndex_df160.desc).map (fun d => d.parameters.length) = some 2 := ⟨by decide +kernel, by decide +kernel, by decide +kernel⟩
theorem hds_J3_checkIndex_8e157 : yJ3_checkIndex_8e157.cls ≠ "java/lang/invoke/MethodHandle" ∧ yJ3_checkIndex_8e157.cls ≠ "java/lang/invoke/VarHandle" ∧ (parseMethodDescriptor yJ3_checkIndex_8e157.desc).map (fun d => d.parameters.length) = some 3 := ⟨by decide +kernel, by decide +kernel, by decide +kernel⟩
def stc (j n : Nat) : Int32 := (evSb.getD j []).getD n 0
theorem stc_all : ∀ j, j < 4 → ∀ b ∈ evSb.getD j [], b &&& 255 = b := by decide +kernel
theorem stc_255 {j : Nat} (hj : j < 4) (n : Nat) : stc j n &&& 255 = stc j n := by
  unfold stc
  rw [List.getD_eq_getElem?_getD]
  cases hq : (evSb.getD j [])[n]? with
  | none => decide
  | some b => exact stc_all j hj b (List.mem_of_getElem? hq)
theorem stc_nar : ∀ j, j < 4 → ∀ b ∈ evSb.getD j [], narrow .char (.int b) = .int b := by decide +kernel
theorem stc_char {j : Nat} (hj : j < 4) (n : Nat) : narrow .char (.int (stc j n)) = .int (stc j n) := by
  unfold stc
  rw [List.getD_eq_getElem?_getD]
  cases hq : (evSb.getD j [])[n]? with
  | none => decide +kernel
  | some b => exact stc_nar j hj b (List.mem_of_getElem? hq)
set_option maxHeartbeats 4000000 in
set_option maxRecDepth 100000 in
theorem k_J0_coder (l : Launch) (G : va_G) (cy : Nat → ClassId) (ev : Nat → Nat) (w : va_W) (j : Nat) (hj : j < 4) : MetI l yJ0_coder_7d493 cJ0_coder_7d493 1 (some .byte) 0 0 G cy ev [.ref (ev (10 + j))] w 0 w := by
  refine MetQ.start (by decide +kernel) (Nat.le_of_ble_eq_true rfl) (fun p e s m args below meth c A ls hx hb hr hml hown hts hlocks hK hP hD hA hl hE => ?_)
  have hS : va_S A s.heap s.heap [] := va_S.rf
  have hl : lv_has ls 1 [(0, .ref (ev (10 + j)))] := hl
  refine va_gets hx hb hE.2.1.1 hS hown (hts _ wm_14_0) (fun _ h9 => h9) dJ0_coder_7d493_0 ?_
  refine lv_if_eq (tgt := 13) hx hb dJ0_coder_7d493_3 (by decide) (fun c9 => absurd c9 (by decide)) (fun _ => ?_)
  refine lv_aload_n hx hb dJ0_coder_7d493_6 rfl (lv_at hl 0 rfl) ?_
  refine vk_getf hx hb (hE.2.2.1.1.1 j hj).2.1 hS hown (hts _ wm_14_1) (fun _ h9 => h9) dJ0_coder_7d493_7 ?_
  refine lv_goto (tgt := 14) hx hb dJ0_coder_7d493_10 (by decide) ?_
  exact retZ (t := ()) (res := ()) (fr := fun _ => 0) (fw := fun _ => w) rfl hx hb hr (by decide +kernel) hlocks hK hP hD hS dJ0_coder_7d493_14
set_option maxHeartbeats 4000000 in
set_option maxRecDepth 100000 in
theorem k_J0_isLatin1 (l : Launch) (G : va_G) (cy : Nat → ClassId) (ev : Nat → Nat) (w : va_W) (j : Nat) (hj : j < 4) : MetI l yJ0_isLatin1_aae02 cJ0_isLatin1_aae02 1 (some .boolean) 0 0 G cy ev [.ref (ev (10 + j))] w 1 w := by
  refine MetQ.start (by decide +kernel) (Nat.le_of_ble_eq_true rfl) (fun p e s m args below meth c A ls hx hb hr hml hown hts hlocks hK hP hD hA hl hE => ?_)
  have hS : va_S A s.heap s.heap [] := va_S.rf
  have hl : lv_has ls 1 [(0, .ref (ev (10 + j)))] := hl
  refine va_gets hx hb hE.2.1.1 hS hown (hts _ wm_14_0) (fun _ h9 => h9) dJ0_isLatin1_aae02_0 ?_
  refine lv_if_eq (tgt := 17) hx hb dJ0_isLatin1_aae02_3 (by decide) (fun c9 => absurd c9 (by decide)) (fun _ => ?_)
  refine lv_aload_n hx hb dJ0_isLatin1_aae02_6 rfl (lv_at hl 0 rfl) ?_
  refine vk_getf hx hb (hE.2.2.1.1.1 j hj).2.1 hS hown (hts _ wm_14_1) (fun _ h9 => h9) dJ0_isLatin1_aae02_7 ?_
  refine lv_if_ne (tgt := 17) hx hb dJ0_isLatin1_aae02_10 (by decide) (fun c9 => absurd rfl c9) (fun _ => ?_)
  refine lv_iconst (v := 1) hx hb dJ0_isLatin1_aae02_13 (by decide) ?_
  refine lv_goto (tgt := 18) hx hb dJ0_isLatin1_aae02_14 (by decide) ?_
  exact retZ (t := ()) (res := ()) (fr := fun _ => 1) (fw := fun _ => w) rfl hx hb hr (by decide +kernel) hlocks hK hP hD hS dJ0_isLatin1_aae02_18
set_option maxHeartbeats 4000000 in
set_option maxRecDepth 100000 in
theorem k_J0_length (l : Launch) (G : va_G) (cy : Nat → ClassId) (ev : Nat → Nat) (w : va_W) (j : Nat) (hj : j < 4) : MetI l yJ0_length_8abf5 cJ0_length_8abf5 1 (some .int) 1 20 G cy ev [.ref (ev (10 + j))] w (Int32.ofNat (evSl.getD j 0)) w := by
  refine MetQ.start (by decide +kernel) (Nat.le_of_ble_eq_true rfl) (fun p e s m args below meth c A ls hx hb hr hml hown hts hlocks hK hP hD hA hl hE => ?_)
  have hS : va_S A s.heap s.heap [] := va_S.rf
  have hl : lv_has ls 1 [(0, .ref (ev (10 + j)))] := hl
  have hown : s.vm.findClass RJ0 = some m.cls := hown
  refine lv_aload_n hx hb dJ0_length_8abf5_0 rfl (lv_at hl 0 rfl) ?_
  refine vk_getf hx hb (hE.2.2.1.1.1 j hj).2.2.1 hS hown (hts _ wm_13_19) (fun _ h9 => h9) dJ0_length_8abf5_1 ?_
  refine va_tlen hx hb (hE.2.2.1.1.1 j hj).2.2.2 hS rfl dJ0_length_8abf5_4 ?_
  refine lv_aload_n hx hb dJ0_length_8abf5_5 rfl (lv_at hl 0 rfl) ?_
  refine callVi0 (As := []) (rest := [.int (Int32.ofNat (evSl.getD j 0))]) hx hb hml hown hts (k_J0_coder l G cy ev w j hj) wm_13_20 wm_13_21 wm_13_22 wm_13_17 wm_13_23 hd_J0_coder_7d493 ⟨by decide, by decide⟩ hK hP hD hS hA hE (vk_recv (i := j) (adK := fun i => ev (10 + i)) hE.2.2.1.1 hj hS) rfl rfl hl.1 (Nat.le_of_ble_eq_true rfl) dJ0_length_8abf5_6 (fun H locs hP hD hS => ?_)
  refine lv_ishr hx hb dJ0_length_8abf5_9 ?_
  rw [sb_shr0]
  exact retI (t := ()) (res := ()) (fr := fun _ => Int32.ofNat (evSl.getD j 0)) (fw := fun _ => w) rfl hx hb hr hlocks hK hP hD hS dJ0_length_8abf5_10
set_option maxHeartbeats 4000000 in
set_option maxRecDepth 100000 in
theorem k_J3_checkIndex (l : Launch) (G : va_G) (cy : Nat → ClassId) (ev : Nat → Nat) (w : va_W) (i n : Int32) (fv : Value) (hf : fv = .null ∨ ∃ t, fv = .ref t) (h0 : ¬ i < 0) (h1 : i < n) : MetI l yJ3_checkIndex_8e157 cJ3_checkIndex_8e157 3 (some .int) 0 0 G cy ev [.int i, .int n, fv] w i w := by
  refine MetQ.start (by decide +kernel) (by rcases hf with rfl | ⟨t, rfl⟩ <;> exact Nat.le_of_ble_eq_true rfl) (fun p e s m args below meth c A ls hx hb hr hml hown hts hlocks hK hP hD hA hl hE => ?_)
  have hS : va_S A s.heap s.heap [] := va_S.rf
  have hl : lv_has ls 3 [(0, .int i), (1, .int n), (2, fv)] := hl
  refine lv_iload_n hx hb dJ3_checkIndex_8e157_0 rfl (lv_at hl 0 rfl) ?_
  refine lv_if_lt (tgt := 9) hx hb dJ3_checkIndex_8e157_1 (by decide) (fun c9 => absurd c9 h0) (fun _ => ?_)
  refine lv_iload_n hx hb dJ3_checkIndex_8e157_4 rfl (lv_at hl 0 rfl) ?_
  refine lv_iload_n hx hb dJ3_checkIndex_8e157_5 rfl (lv_at hl 1 rfl) ?_
  refine lv_icmp_lt (tgt := 16) hx hb dJ3_checkIndex_8e157_6 (by decide) (fun _ => ?_) (fun c9 => absurd h1 c9)
  refine lv_iload_n hx hb dJ3_checkIndex_8e157_16 rfl (lv_at hl 0 rfl) ?_
  exact retI (t := ()) (res := ()) (fr := fun _ => i) (fw := fun _ => w) rfl hx hb hr hlocks hK hP hD hS dJ3_checkIndex_8e157_17
set_option maxHeartbeats 4000000 in
set_option maxRecDepth 100000 in
theorem k_J0_checkIndex (l : Launch) (G : va_G) (cy : Nat → ClassId) (ev : Nat → Nat) (w : va_W) (i n : Int32) (h0 : ¬ i < 0) (h1 : i < n) : MetV l yJ0_checkIndex_df160 cJ0_checkIndex_df160 2 none 1 22 G cy ev [.int i, .int n] w w := by
  refine MetQ.start (by decide +kernel) (Nat.le_of_ble_eq_true rfl) (fun p e s m args below meth c A ls hx hb hr hml hown hts hlocks hK hP hD hA hl hE => ?_)
  have hS : va_S A s.heap s.heap [] := va_S.rf
  have hl : lv_has ls 2 [(0, .int i), (1, .int n)] := hl
  have hown : s.vm.findClass RJ0 = some m.cls := hown
  refine lv_iload_n hx hb dJ0_checkIndex_df160_0 rfl (lv_at hl 0 rfl) ?_
  refine lv_iload_n hx hb dJ0_checkIndex_df160_1 rfl (lv_at hl 1 rfl) ?_
  obtain ⟨fv, hf, hZ⟩ : ∃ fv : Value, (fv = .null ∨ ∃ t, fv = .ref t) ∧ va_Z "jdk/internal/util/Preconditions" "SIOOBE_FORMATTER" "Ljava/util/function/BiFunction;" fv A s s.heap := by
    rcases hE.2.1.2 with h | ⟨t, h⟩
    · exact ⟨_, Or.inl rfl, h⟩
    · exact ⟨_, Or.inr ⟨t, rfl⟩, h⟩
  refine va_gets hx hb hZ hS hown (hts _ wm_14_17) (fun _ h9 => h9) dJ0_checkIndex_df160_2 ?_
  refine callSXi0 (As := [.int i, .int n, fv]) (rest := []) hx hb hml hown hts (k_J3_checkIndex l G cy ev w i n fv hf h0 h1) wm_14_18 wm_14_19 wm_14_20 wm_14_21 hds_J3_checkIndex_8e157 ⟨by decide, by decide⟩ hK hP hD hS hA hE rfl rfl hl.1 (Nat.le_of_ble_eq_true rfl) dJ0_checkIndex_df160_5 (fun H locs hP hD hS => ?_)
  refine lv_pop hx hb dJ0_checkIndex_df160_8 rfl ?_
  exact retV (t := ()) (res := ()) (fw := fun _ => w) rfl hx hb hr hlocks hK hP hD hS dJ0_checkIndex_df160_9
theorem vin_lt {i : Int32} {n : Nat} (h : vp_in i n) (hn : n < 2 ^ 31) : ¬ i < 0 ∧ i < Int32.ofNat n := by
  obtain ⟨j, hj, rfl⟩ := vp_in_of h hn
  exact ⟨nI_pos (by omega), nI_lt hj hn⟩
theorem evSl_lt : ∀ j, j < 4 → evSl.getD j 0 < 2 ^ 31 := by decide
set_option maxHeartbeats 4000000 in
set_option maxRecDepth 100000 in
theorem k_J1_charAt (l : Launch) (G : va_G) (cy : Nat → ClassId) (ev : Nat → Nat) (w : va_W) (j : Nat) (hj : j < 4) (i : Int32) (hi : vp_in i (evSl.getD j 0)) : MetI l yJ1_charAt_3b067 cJ1_charAt_3b067 2 (some .char) 2 43 G cy ev [.ref (ev (20 + j)), .int i] w (stc j i.toNatClampNeg) w := by
  refine MetQ.start (by decide +kernel) (Nat.le_of_ble_eq_true rfl) (fun p e s m args below meth c A ls hx hb hr hml hown hts hlocks hK hP hD hA hl hE => ?_)
  have hS : va_S A s.heap s.heap [] := va_S.rf
  have hl : lv_has ls 2 [(0, .ref (ev (20 + j))), (1, .int i)] := hl
  have hown : s.vm.findClass RJ1 = some m.cls := hown
  obtain ⟨h0, h1⟩ := vin_lt hi (evSl_lt j hj)
  refine lv_iload_n hx hb dJ1_charAt_3b067_0 rfl (lv_at hl 1 rfl) ?_
  refine lv_aload_n hx hb dJ1_charAt_3b067_1 rfl (lv_at hl 0 rfl) ?_
  refine va_tlen hx hb (hE.2.2.1.1.1 j hj).2.2.2 hS rfl dJ1_charAt_3b067_2 ?_
  refine callSXv0 (As := [.int i, .int (Int32.ofNat (evSl.getD j 0))]) (rest := []) hx hb hml hown hts (k_J0_checkIndex l G cy ev w i _ h0 h1) wm_14_14 wm_14_15 wm_13_17 wm_14_16 hds_J0_checkIndex_df160 ⟨by decide, by decide⟩ hK hP hD hS hA hE rfl rfl hl.1 (Nat.le_of_ble_eq_true rfl) dJ1_charAt_3b067_3 (fun H locs hP hD hS => ?_)
  refine lv_aload_n hx hb dJ1_charAt_3b067_6 rfl (lv_at hl 0 rfl) ?_
  refine lv_iload_n hx hb dJ1_charAt_3b067_7 rfl (lv_at hl 1 rfl) ?_
  refine va_tb hx hb (hE.2.2.1.1.1 j hj).2.2.2 hS hi rfl dJ1_charAt_3b067_8 ?_
  refine lv_sipush (v := 255) hx hb dJ1_charAt_3b067_9 (by decide) ?_
  refine lv_iand hx hb dJ1_charAt_3b067_12 ?_
  refine lv_i2c (v := stc j i.toNatClampNeg) hx hb dJ1_charAt_3b067_13 (by rw [sc_c2]; exact stc_255 hj _) ?_
  exact retZ (t := ()) (res := ()) (fr := fun _ => stc j i.toNatClampNeg) (fw := fun _ => w) rfl hx hb hr (stc_char hj _) hlocks hK hP hD hS dJ1_charAt_3b067_14
set_option maxHeartbeats 4000000 in
set_option maxRecDepth 100000 in
theorem k_J0_charAt (l : Launch) (G : va_G) (cy : Nat → ClassId) (ev : Nat → Nat) (w : va_W) (j : Nat) (hj : j < 4) (i : Int32) (hi : vp_in i (evSl.getD j 0)) : MetI l yJ0_charAt_5068e cJ0_charAt_5068e 2 (some .char) 3 64 G cy ev [.ref (ev (10 + j)), .int i] w (stc j i.toNatClampNeg) w := by
  refine MetQ.start (by decide +kernel) (Nat.le_of_ble_eq_true rfl) (fun p e s m args below meth c A ls hx hb hr hml hown hts hlocks hK hP hD hA hl hE => ?_)
  have hS : va_S A s.heap s.heap [] := va_S.rf
  have hl : lv_has ls 2 [(0, .ref (ev (10 + j))), (1, .int i)] := hl
  have hown : s.vm.findClass RJ0 = some m.cls := hown
  refine lv_aload_n hx hb dJ0_charAt_5068e_0 rfl (lv_at hl 0 rfl) ?_
  refine callVi0 (As := []) (rest := []) hx hb hml hown hts (k_J0_isLatin1 l G cy ev w j hj) wm_14_6 wm_14_7 wm_14_8 wm_13_17 wm_14_9 hd_J0_isLatin1_aae02 ⟨by decide, by decide⟩ hK hP hD hS hA hE (vk_recv (i := j) (adK := fun i => ev (10 + i)) hE.2.2.1.1 hj hS) rfl rfl hl.1 (Nat.le_of_ble_eq_true rfl) dJ0_charAt_5068e_1 (fun H locs hP hD hS => ?_)
  refine lv_if_eq (tgt := 16) hx hb dJ0_charAt_5068e_4 (by decide) (fun c9 => absurd c9 (by decide)) (fun _ => ?_)
  refine lv_aload_n hx hb dJ0_charAt_5068e_7 rfl (lv_at hl 0 rfl) ?_
  refine vk_getf hx hb (hE.2.2.1.1.1 j hj).2.2.1 hS hown (hts _ wm_13_19) (fun _ h9 => h9) dJ0_charAt_5068e_8 ?_
  refine lv_iload_n hx hb dJ0_charAt_5068e_11 rfl (lv_at hl 1 rfl) ?_
  refine callSXi0 (As := [.ref (ev (20 + j)), .int i]) (rest := []) hx hb hml hown hts (k_J1_charAt l G cy ev w j hj i hi) wm_14_10 wm_14_11 wm_14_12 wm_14_13 hds_J1_charAt_3b067 ⟨by decide, by decide⟩ hK hP hD hS hA hE rfl rfl hl.1 (Nat.le_of_ble_eq_true rfl) dJ0_charAt_5068e_12 (fun H locs hP hD hS => ?_)
  exact retZ (t := ()) (res := ()) (fr := fun _ => stc j i.toNatClampNeg) (fw := fun _ => w) rfl hx hb hr (stc_char hj _) hlocks hK hP hD hS dJ0_charAt_5068e_15
