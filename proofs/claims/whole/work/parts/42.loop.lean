theorem lgt {L k : Nat} (hL : L ≤ 3072) (hk : 6 * k ≤ L) : (nI L - 6 < nI (6 * k)) ↔ L < 6 * k + 6 := by
  rw [Int32.lt_iff_toInt_lt, show (6 : Int32) = nI 6 from rfl, pk_sub_toInt (by omega) (by omega), nI_toInt (by omega)]
  omega
/-- what the case of party owes -/
def LPARTY (p : Program) (l : Launch) (e : Env) (s : State) (m : MethodId) (below : List Frame) (meth : Method) (cd : Code) (b L : Nat) (INV : (Nat → VV) → (Nat → Int32) → (Nat → Int64) → VV → Prop) (G : va_G) (cy : Nat → ClassId) : Prop := ∀ k : Nat, 6 * k + 6 ≤ L → LOOPS p l e s m below meth cd b L INV G cy (k + 1) → ∀ (u : Nat → Nat → Nat) (adm : Nat → Nat) (qo : Nat) (cv : Nat → VV) (T : Nat → Int32) (B : Nat → Int64) (v : VV) (o : Nat → Int64) (x4 : Int32) (H : Heap) (locs : List Loc) (ls : Array Slot), x4 = nI (6 * k) → INV cv T B v → va_P G vwCl (wj (W22 cy u adm qo cv T B v o)) H → va_D (fun q => s.heap.size ≤ q) (wj (W22 cy u adm qo cv T B v o)) → va_S (fun q => s.heap.size ≤ q) s.heap H locs → lv_has ls 7 [(0, .ref b), (1, .ref (u 0 0)), (2, .ref (adm 0)), (3, .ref qo), (4, .int x4)] → W p l e room_1 s m #[Value.ref b] below meth cd H locs (170 + k) (6921 + 6 * k) (lw_Z below #[Value.ref b] s) (F0 m 364 ls [])
set_option maxHeartbeats 4000000 in
set_option maxRecDepth 100000 in
theorem law_all {p : Program} {l : Launch} {e : Env} {s : State} {m : MethodId} {below : List Frame} {meth : Method} {cd : Code} {b L : Nat} {xs : Nat → Int32} {N : Nat} {INV : (Nat → VV) → (Nat → Int32) → (Nat → Int64) → VV → Prop} {G : va_G} {cy : Nat → ClassId} {ev : Nat → Nat} (C : LCX p s m meth cd b L xs G cy ev) (hst : STEPS N INV) (hpt : LPARTY p l e s m below meth cd b L INV G cy) (hr : meth.sig.returnType = ret) (hlocks : meth.locks = false) : ∀ (n k : Nat), 6 * k ≤ L → L < 6 * (k + n) → LOOPS p l e s m below meth cd b L INV G cy k := by
  intro n
  induction n with
  | zero => intro k h1 h2; omega
  | succ n ihn =>
    intro k hk1 hk2 u adm qo cv T B v o x4 H locs ls hx4 hI hP hD hS hl
    obtain ⟨hx, hb, hml, hown, hts, hK, hE, hX, hbl, hL⟩ := id C
    have hbA : ¬ (fun q : Nat => s.heap.size ≤ q) b := Nat.not_le.mpr hbl
    refine lv_iload hx hb dL_law_23 (lv_at hl 4 rfl) ?_
    refine lv_aload_n hx hb dL_law_25 rfl (lv_at hl 0 rfl) ?_
    refine va_slen hx hb hX hbl hbA hS dL_law_26 ?_
    refine lv_bipush (v := 6) hx hb dL_law_27 (by decide) ?_
    refine lv_isub hx hb dL_law_29 ?_
    refine lv_icmp_gt (tgt := 1499) hx hb dL_law_30 (by decide) (fun c9 => ?_) (fun c9 => ?_)
    · refine lv_iconst (v := 1) hx hb dL_law_1499 (by decide) ?_
      refine va_forget (fun q hq => hS.2.2 q hq) ?_
      refine W.widen (k := 601024) (n := 7293034) (by omega) (by omega) ?_
      exact lw_ret hx hb hr hlocks dL_law_1500
    · have hk : 6 * k + 6 ≤ L := by
        rw [hx4] at c9
        have := (not_congr (lgt hL hk1)).mp c9
        omega
      have ih : LOOPS p l e s m below meth cd b L INV G cy (k + 1) := ihn (k + 1) (by omega) (by omega)
      have hin0 : vp_in x4 L := by rw [hx4]; exact vp_in_nI (by omega) (by omega)
      refine lv_aload_n hx hb dL_law_33 rfl (lv_at hl 0 rfl) ?_
      refine lv_iload hx hb dL_law_34 (lv_at hl 4 rfl) ?_
      refine va_sld hx hb hX hbl hbA hS hin0 dL_law_36 ?_
      refine lv_bipush (v := 63) hx hb dL_law_37 (by decide) ?_
      refine lv_iand hx hb dL_law_39 ?_
      refine lv_topi (fun w ew => ?_)
      by_cases n0 : w = 0
      · rw [n0]
        refine lv_tableIn (off := 176) (tgt := 216) hx hb dL_law_40 (by decide) (by decide) rfl (by decide) ?_
        exact law_feed hst.1 C k hk ih u adm qo cv T B v o x4 H locs ls hx4 hI hP hD hS hl
      by_cases n1 : w = 1
      · rw [n1]
        refine lv_tableIn (off := 249) (tgt := 289) hx hb dL_law_40 (by decide) (by decide) rfl (by decide) ?_
        exact law_text hst.2.1 C k hk ih u adm qo cv T B v o x4 H locs ls hx4 hI hP hD hS hl
      by_cases n2 : w = 2
      · rw [n2]
        refine lv_tableIn (off := 274) (tgt := 314) hx hb dL_law_40 (by decide) (by decide) rfl (by decide) ?_
        exact law_fault hst.2.2.1 C k hk ih u adm qo cv T B v o x4 H locs ls hx4 hI hP hD hS hl
      by_cases n3 : w = 3
      · rw [n3]
        refine lv_tableIn (off := 299) (tgt := 339) hx hb dL_law_40 (by decide) (by decide) rfl (by decide) ?_
        exact law_named hst.2.2.2.1 C k hk ih u adm qo cv T B v o x4 H locs ls hx4 hI hP hD hS hl
      by_cases n4 : w = 4
      · rw [n4]
        refine lv_tableIn (off := 324) (tgt := 364) hx hb dL_law_40 (by decide) (by decide) rfl (by decide) ?_
        exact hpt k hk ih u adm qo cv T B v o x4 H locs ls hx4 hI hP hD hS hl
      by_cases n5 : w = 5
      · rw [n5]
        refine lv_tableIn (off := 392) (tgt := 432) hx hb dL_law_40 (by decide) (by decide) rfl (by decide) ?_
        exact law_wish hst.2.2.2.2.2.1 C k hk ih u adm qo cv T B v o x4 H locs ls hx4 hI hP hD hS hl
      by_cases n6 : w = 6
      · rw [n6]
        refine lv_tableIn (off := 429) (tgt := 469) hx hb dL_law_40 (by decide) (by decide) rfl (by decide) ?_
        exact law_sitting hst.2.2.2.2.2.2.1 C k hk ih u adm qo cv T B v o x4 H locs ls hx4 hI hP hD hS hl
      by_cases n7 : w = 7
      · rw [n7]
        refine lv_tableIn (off := 466) (tgt := 506) hx hb dL_law_40 (by decide) (by decide) rfl (by decide) ?_
        exact law_law hst.2.2.2.2.2.2.2.1 C k hk ih u adm qo cv T B v o x4 H locs ls hx4 hI hP hD hS hl
      by_cases n8 : w = 8
      · rw [n8]
        refine lv_tableIn (off := 528) (tgt := 568) hx hb dL_law_40 (by decide) (by decide) rfl (by decide) ?_
        exact law_give hst.2.2.2.2.2.2.2.2.1 C k hk ih u adm qo cv T B v o x4 H locs ls hx4 hI hP hD hS hl
      by_cases n9 : w = 9
      · rw [n9]
        refine lv_tableIn (off := 565) (tgt := 605) hx hb dL_law_40 (by decide) (by decide) rfl (by decide) ?_
        exact law_sign hst.2.2.2.2.2.2.2.2.2.1 C k hk ih u adm qo cv T B v o x4 H locs ls hx4 hI hP hD hS hl
      by_cases n10 : w = 10
      · rw [n10]
        refine lv_tableIn (off := 602) (tgt := 642) hx hb dL_law_40 (by decide) (by decide) rfl (by decide) ?_
        exact law_price hst.2.2.2.2.2.2.2.2.2.2.1 C k hk ih u adm qo cv T B v o x4 H locs ls hx4 hI hP hD hS hl
      by_cases n11 : w = 11
      · rw [n11]
        refine lv_tableIn (off := 639) (tgt := 679) hx hb dL_law_40 (by decide) (by decide) rfl (by decide) ?_
        exact law_days hst.2.2.2.2.2.2.2.2.2.2.2.1 C k hk ih u adm qo cv T B v o x4 H locs ls hx4 hI hP hD hS hl
      by_cases n12 : w = 12
      · rw [n12]
        refine lv_tableIn (off := 664) (tgt := 704) hx hb dL_law_40 (by decide) (by decide) rfl (by decide) ?_
        exact law_best hst.2.2.2.2.2.2.2.2.2.2.2.2.1 C k hk ih u adm qo cv T B v o x4 H locs ls hx4 hI hP hD hS hl
      by_cases n13 : w = 13
      · rw [n13]
        refine lv_tableIn (off := 689) (tgt := 729) hx hb dL_law_40 (by decide) (by decide) rfl (by decide) ?_
        exact law_bestSum hst.2.2.2.2.2.2.2.2.2.2.2.2.2.1 C k hk ih u adm qo cv T B v o x4 H locs ls hx4 hI hP hD hS hl
      by_cases n14 : w = 14
      · rw [n14]
        refine lv_tableIn (off := 702) (tgt := 742) hx hb dL_law_40 (by decide) (by decide) rfl (by decide) ?_
        exact law_choice hst.2.2.2.2.2.2.2.2.2.2.2.2.2.2.1 C k hk ih u adm qo cv T B v o x4 H locs ls hx4 hI hP hD hS hl
      by_cases n15 : w = 15
      · rw [n15]
        refine lv_tableIn (off := 727) (tgt := 767) hx hb dL_law_40 (by decide) (by decide) rfl (by decide) ?_
        exact law_level hst.2.2.2.2.2.2.2.2.2.2.2.2.2.2.2.1 C k hk ih u adm qo cv T B v o x4 H locs ls hx4 hI hP hD hS hl
      by_cases n16 : w = 16
      · rw [n16]
        refine lv_tableIn (off := 752) (tgt := 792) hx hb dL_law_40 (by decide) (by decide) rfl (by decide) ?_
        exact law_crowd hst.2.2.2.2.2.2.2.2.2.2.2.2.2.2.2.2.1 C k hk ih u adm qo cv T B v o x4 H locs ls hx4 hI hP hD hS hl
      by_cases n17 : w = 17
      · rw [n17]
        refine lv_tableIn (off := 790) (tgt := 830) hx hb dL_law_40 (by decide) (by decide) rfl (by decide) ?_
        exact law_late hst.2.2.2.2.2.2.2.2.2.2.2.2.2.2.2.2.2.1 C k hk ih u adm qo cv T B v o x4 H locs ls hx4 hI hP hD hS hl
      by_cases n18 : w = 18
      · rw [n18]
        refine lv_tableIn (off := 815) (tgt := 855) hx hb dL_law_40 (by decide) (by decide) rfl (by decide) ?_
        exact law_catchUp hst.2.2.2.2.2.2.2.2.2.2.2.2.2.2.2.2.2.2.1 C k hk ih u adm qo cv T B v o x4 H locs ls hx4 hI hP hD hS hl
      by_cases n19 : w = 19
      · rw [n19]
        refine lv_tableIn (off := 840) (tgt := 880) hx hb dL_law_40 (by decide) (by decide) rfl (by decide) ?_
        exact law_hands hst.2.2.2.2.2.2.2.2.2.2.2.2.2.2.2.2.2.2.2.1 C k hk ih u adm qo cv T B v o x4 H locs ls hx4 hI hP hD hS hl
      by_cases n20 : w = 20
      · rw [n20]
        refine lv_tableIn (off := 853) (tgt := 893) hx hb dL_law_40 (by decide) (by decide) rfl (by decide) ?_
        exact law_empties hst.2.2.2.2.2.2.2.2.2.2.2.2.2.2.2.2.2.2.2.2.1 C k hk ih u adm qo cv T B v o x4 H locs ls hx4 hI hP hD hS hl
      by_cases n21 : w = 21
      · rw [n21]
        refine lv_tableIn (off := 878) (tgt := 918) hx hb dL_law_40 (by decide) (by decide) rfl (by decide) ?_
        exact law_likes hst.2.2.2.2.2.2.2.2.2.2.2.2.2.2.2.2.2.2.2.2.2.1 C k hk ih u adm qo cv T B v o x4 H locs ls hx4 hI hP hD hS hl
      by_cases n22 : w = 22
      · rw [n22]
        refine lv_tableIn (off := 915) (tgt := 955) hx hb dL_law_40 (by decide) (by decide) rfl (by decide) ?_
        exact law_stays hst.2.2.2.2.2.2.2.2.2.2.2.2.2.2.2.2.2.2.2.2.2.2.1 C k hk ih u adm qo cv T B v o x4 H locs ls hx4 hI hP hD hS hl
      by_cases n23 : w = 23
      · rw [n23]
        refine lv_tableIn (off := 952) (tgt := 992) hx hb dL_law_40 (by decide) (by decide) rfl (by decide) ?_
        exact law_misses hst.2.2.2.2.2.2.2.2.2.2.2.2.2.2.2.2.2.2.2.2.2.2.2.1 C k hk ih u adm qo cv T B v o x4 H locs ls hx4 hI hP hD hS hl
      by_cases n24 : w = 24
      · rw [n24]
        refine lv_tableIn (off := 989) (tgt := 1029) hx hb dL_law_40 (by decide) (by decide) rfl (by decide) ?_
        exact law_mostCross hst.2.2.2.2.2.2.2.2.2.2.2.2.2.2.2.2.2.2.2.2.2.2.2.2.1 C k hk ih u adm qo cv T B v o x4 H locs ls hx4 hI hP hD hS hl
      by_cases n25 : w = 25
      · rw [n25]
        refine lv_tableIn (off := 1014) (tgt := 1054) hx hb dL_law_40 (by decide) (by decide) rfl (by decide) ?_
        exact law_without hst.2.2.2.2.2.2.2.2.2.2.2.2.2.2.2.2.2.2.2.2.2.2.2.2.2.1 C k hk ih u adm qo cv T B v o x4 H locs ls hx4 hI hP hD hS hl
      by_cases n26 : w = 26
      · rw [n26]
        refine lv_tableIn (off := 1027) (tgt := 1067) hx hb dL_law_40 (by decide) (by decide) rfl (by decide) ?_
        exact law_swap hst.2.2.2.2.2.2.2.2.2.2.2.2.2.2.2.2.2.2.2.2.2.2.2.2.2.2.1 C k hk ih u adm qo cv T B v o x4 H locs ls hx4 hI hP hD hS hl
      by_cases n27 : w = 27
      · rw [n27]
        refine lv_tableIn (off := 1052) (tgt := 1092) hx hb dL_law_40 (by decide) (by decide) rfl (by decide) ?_
        exact law_later hst.2.2.2.2.2.2.2.2.2.2.2.2.2.2.2.2.2.2.2.2.2.2.2.2.2.2.2.1 C k hk ih u adm qo cv T B v o x4 H locs ls hx4 hI hP hD hS hl
      by_cases n28 : w = 28
      · rw [n28]
        refine lv_tableIn (off := 1077) (tgt := 1117) hx hb dL_law_40 (by decide) (by decide) rfl (by decide) ?_
        exact law_rests hst.2.2.2.2.2.2.2.2.2.2.2.2.2.2.2.2.2.2.2.2.2.2.2.2.2.2.2.2.1 C k hk ih u adm qo cv T B v o x4 H locs ls hx4 hI hP hD hS hl
      by_cases n29 : w = 29
      · rw [n29]
        refine lv_tableIn (off := 1114) (tgt := 1154) hx hb dL_law_40 (by decide) (by decide) rfl (by decide) ?_
        exact law_rest hst.2.2.2.2.2.2.2.2.2.2.2.2.2.2.2.2.2.2.2.2.2.2.2.2.2.2.2.2.2.1 C k hk ih u adm qo cv T B v o x4 H locs ls hx4 hI hP hD hS hl
      by_cases n30 : w = 30
      · rw [n30]
        refine lv_tableIn (off := 1163) (tgt := 1203) hx hb dL_law_40 (by decide) (by decide) rfl (by decide) ?_
        exact law_note hst.2.2.2.2.2.2.2.2.2.2.2.2.2.2.2.2.2.2.2.2.2.2.2.2.2.2.2.2.2.2.1 C k hk ih u adm qo cv T B v o x4 H locs ls hx4 hI hP hD hS hl
      by_cases n31 : w = 31
      · rw [n31]
        refine lv_tableIn (off := 1228) (tgt := 1268) hx hb dL_law_40 (by decide) (by decide) rfl (by decide) ?_
        exact law_out hst.2.2.2.2.2.2.2.2.2.2.2.2.2.2.2.2.2.2.2.2.2.2.2.2.2.2.2.2.2.2.2.1 C k hk ih u adm qo cv T B v o x4 H locs ls hx4 hI hP hD hS hl
      by_cases n32 : w = 32
      · rw [n32]
        refine lv_tableIn (off := 1253) (tgt := 1293) hx hb dL_law_40 (by decide) (by decide) rfl (by decide) ?_
        exact law_known hst.2.2.2.2.2.2.2.2.2.2.2.2.2.2.2.2.2.2.2.2.2.2.2.2.2.2.2.2.2.2.2.2.1 C k hk ih u adm qo cv T B v o x4 H locs ls hx4 hI hP hD hS hl
      by_cases n33 : w = 33
      · rw [n33]
        refine lv_tableIn (off := 1278) (tgt := 1318) hx hb dL_law_40 (by decide) (by decide) rfl (by decide) ?_
        exact law_lingered hst.2.2.2.2.2.2.2.2.2.2.2.2.2.2.2.2.2.2.2.2.2.2.2.2.2.2.2.2.2.2.2.2.2.1 C k hk ih u adm qo cv T B v o x4 H locs ls hx4 hI hP hD hS hl
      by_cases n34 : w = 34
      · rw [n34]
        refine lv_tableIn (off := 1291) (tgt := 1331) hx hb dL_law_40 (by decide) (by decide) rfl (by decide) ?_
        exact law_chance hst.2.2.2.2.2.2.2.2.2.2.2.2.2.2.2.2.2.2.2.2.2.2.2.2.2.2.2.2.2.2.2.2.2.2.1 C k hk ih u adm qo cv T B v o x4 H locs ls hx4 hI hP hD hS hl
      by_cases n35 : w = 35
      · rw [n35]
        refine lv_tableIn (off := 1340) (tgt := 1380) hx hb dL_law_40 (by decide) (by decide) rfl (by decide) ?_
        exact law_tried hst.2.2.2.2.2.2.2.2.2.2.2.2.2.2.2.2.2.2.2.2.2.2.2.2.2.2.2.2.2.2.2.2.2.2.2.1 C k hk ih u adm qo cv T B v o x4 H locs ls hx4 hI hP hD hS hl
      by_cases n36 : w = 36
      · rw [n36]
        refine lv_tableIn (off := 1389) (tgt := 1429) hx hb dL_law_40 (by decide) (by decide) rfl (by decide) ?_
        exact law_undo hst.2.2.2.2.2.2.2.2.2.2.2.2.2.2.2.2.2.2.2.2.2.2.2.2.2.2.2.2.2.2.2.2.2.2.2.2.1 C k hk ih u adm qo cv T B v o x4 H locs ls hx4 hI hP hD hS hl
      by_cases n37 : w = 37
      · rw [n37]
        refine lv_tableIn (off := 1402) (tgt := 1442) hx hb dL_law_40 (by decide) (by decide) rfl (by decide) ?_
        exact law_keep hst.2.2.2.2.2.2.2.2.2.2.2.2.2.2.2.2.2.2.2.2.2.2.2.2.2.2.2.2.2.2.2.2.2.2.2.2.2.1 C k hk ih u adm qo cv T B v o x4 H locs ls hx4 hI hP hD hS hl
      by_cases n38 : w = 38
      · rw [n38]
        refine lv_tableIn (off := 1415) (tgt := 1455) hx hb dL_law_40 (by decide) (by decide) rfl (by decide) ?_
        exact law_back hst.2.2.2.2.2.2.2.2.2.2.2.2.2.2.2.2.2.2.2.2.2.2.2.2.2.2.2.2.2.2.2.2.2.2.2.2.2.2.1 C k hk ih u adm qo cv T B v o x4 H locs ls hx4 hI hP hD hS hl
      by_cases n39 : w = 39
      · rw [n39]
        refine lv_tableIn (off := 1428) (tgt := 1468) hx hb dL_law_40 (by decide) (by decide) rfl (by decide) ?_
        exact law_count hst.2.2.2.2.2.2.2.2.2.2.2.2.2.2.2.2.2.2.2.2.2.2.2.2.2.2.2.2.2.2.2.2.2.2.2.2.2.2.2 C k hk ih u adm qo cv T B v o x4 H locs ls hx4 hI hP hD hS hl
      refine lv_tableOut (tgt := 1493) hx hb dL_law_40 (by have := ne_toInt (k := 0) 0 (by decide) n0; have := ne_toInt (k := 1) 1 (by decide) n1; have := ne_toInt (k := 2) 2 (by decide) n2; have := ne_toInt (k := 3) 3 (by decide) n3; have := ne_toInt (k := 4) 4 (by decide) n4; have := ne_toInt (k := 5) 5 (by decide) n5; have := ne_toInt (k := 6) 6 (by decide) n6; have := ne_toInt (k := 7) 7 (by decide) n7; have := ne_toInt (k := 8) 8 (by decide) n8; have := ne_toInt (k := 9) 9 (by decide) n9; have := ne_toInt (k := 10) 10 (by decide) n10; have := ne_toInt (k := 11) 11 (by decide) n11; have := ne_toInt (k := 12) 12 (by decide) n12; have := ne_toInt (k := 13) 13 (by decide) n13; have := ne_toInt (k := 14) 14 (by decide) n14; have := ne_toInt (k := 15) 15 (by decide) n15; have := ne_toInt (k := 16) 16 (by decide) n16; have := ne_toInt (k := 17) 17 (by decide) n17; have := ne_toInt (k := 18) 18 (by decide) n18; have := ne_toInt (k := 19) 19 (by decide) n19; have := ne_toInt (k := 20) 20 (by decide) n20; have := ne_toInt (k := 21) 21 (by decide) n21; have := ne_toInt (k := 22) 22 (by decide) n22; have := ne_toInt (k := 23) 23 (by decide) n23; have := ne_toInt (k := 24) 24 (by decide) n24; have := ne_toInt (k := 25) 25 (by decide) n25; have := ne_toInt (k := 26) 26 (by decide) n26; have := ne_toInt (k := 27) 27 (by decide) n27; have := ne_toInt (k := 28) 28 (by decide) n28; have := ne_toInt (k := 29) 29 (by decide) n29; have := ne_toInt (k := 30) 30 (by decide) n30; have := ne_toInt (k := 31) 31 (by decide) n31; have := ne_toInt (k := 32) 32 (by decide) n32; have := ne_toInt (k := 33) 33 (by decide) n33; have := ne_toInt (k := 34) 34 (by decide) n34; have := ne_toInt (k := 35) 35 (by decide) n35; have := ne_toInt (k := 36) 36 (by decide) n36; have := ne_toInt (k := 37) 37 (by decide) n37; have := ne_toInt (k := 38) 38 (by decide) n38; have := ne_toInt (k := 39) 39 (by decide) n39; omega) (by decide) ?_
      obtain ⟨x5, e5⟩ : ∃ y : Int32, y = x4 + 6 := ⟨_, rfl⟩
      refine lv_iinc (v := x5) (lv' := [(4, .int x5), (0, .ref b), (1, .ref (u 0 0)), (2, .ref (adm 0)), (3, .ref qo)]) hx hb dL_law_1493 hl (k := 4) rfl (by rw [e5]; rfl) (by decide) rfl (fun ls hl => ?_)
      refine lv_goto (tgt := 23) hx hb dL_law_1496 (by decide) ?_
      refine W.widen (k := 170 + (k + 1)) (n := 6921 + 6 * (k + 1)) (by omega) (by omega) ?_
      exact ih u adm qo cv T B v o x5 _ _ ls (by rw [e5, hx4]; exact (nI_add (6 * k) 6).trans (by rw [Nat.mul_succ])) hI hP hD hS (lv_sub hl [1, 2, 3, 4, 0] rfl)
