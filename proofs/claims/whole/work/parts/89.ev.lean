def fN : List Cond := flatC (Jvm.Cond.and given_1 narrow_1)
def stT (i : Nat) : Term := .string (evSo i).1 (evSo i).2.1
def tbT (j : Nat) : Term := .static "ThreeSittings" (evN j) "[I"
def vaT (i : Nat) : Term := .field (stT i) "java/lang/String" "value" "[B"
def nwT : List Cond := (List.range 6).map (fun j => Cond.arrayOf (tbT j) .int) ++ (List.range 6).map (fun j => Cond.eq (.length (tbT j)) (.int (Int32.ofNat (evL j))))
def nwE (j : Nat) : List Cond := (List.range (evL j)).map (fun i => Cond.eq (.elem (tbT j) (.int (Int32.ofNat i))) (.int ((evC j).getD i 0)))
def nwZ : List Cond := [.eq (.static "java/lang/String" "COMPACT_STRINGS" "Z") (.int 1), .isRef (.static "jdk/internal/util/Preconditions" "SIOOBE_FORMATTER" "Ljava/util/function/BiFunction;"), .isRef (.static "java/lang/Throwable" "UNASSIGNED_STACK" "[Ljava/lang/StackTraceElement;"), .isRef (.static "java/lang/Throwable" "SUPPRESSED_SENTINEL" "Ljava/util/List;"), .not (.castable "java/util/NoSuchElementException" "java/lang/IndexOutOfBoundsException")]
def nwS : List Cond := (List.range 4).map (fun i => Cond.exactly (stT i) "java/lang/String") ++ (List.range 4).map (fun i => Cond.eq (.field (stT i) "java/lang/String" "coder" "B") (.int 0)) ++ (List.range 4).map (fun i => Cond.arrayOf (vaT i) .byte) ++ (List.range 4).map (fun i => Cond.eq (.length (vaT i)) (.int (Int32.ofNat (evSl.getD i 0))))
def nwB (i : Nat) : List Cond := (List.range (evSl.getD i 0)).map (fun j => Cond.eq (.elem (vaT i) (.int (Int32.ofNat j))) (.int ((evSb.getD i []).getD j 0)))
def nwN : List Cond := [.not (.eq (stT 0) (stT 1)), .not (.eq (stT 0) (stT 2)), .not (.eq (stT 0) (stT 3)), .not (.eq (stT 1) (stT 2)), .not (.eq (stT 1) (stT 3)), .not (.eq (stT 2) (stT 3))]
def nwK : List Cond := (List.range 6).map (fun j => Cond.laysStatic "ThreeSittings" (evN j) "[I") ++ [.initialized "ThreeSittings", .initialized "java/lang/String", .initialized "jdk/internal/util/Preconditions", .initialized "java/lang/Throwable", .laysStatic "java/lang/String" "COMPACT_STRINGS" "Z", .laysStatic "jdk/internal/util/Preconditions" "SIOOBE_FORMATTER" "Ljava/util/function/BiFunction;", .laysStatic "java/lang/Throwable" "UNASSIGNED_STACK" "[Ljava/lang/StackTraceElement;", .laysStatic "java/lang/Throwable" "SUPPRESSED_SENTINEL" "Ljava/util/List;"] ++ (List.range 4).map (fun i => Cond.stringRef (evSo i).1 (evSo i).2.1 (evSo i).2.2) ++ [.arrayOver (.array .int), .arrayClass .byte, .arrayClass .int, .arrayClass .long, .arrayClass .boolean]
def nwF : List Cond := evF.map (fun q => Cond.fieldLinkNest q.1 q.2.1 q.2.2.1 q.2.2.2.1 q.2.2.2.2.1 q.2.2.2.2.2)
def nwM : List Cond := evM.map (fun q => Cond.methodLinkNest q.1 q.2.1 q.2.2.1 q.2.2.2)
theorem fe_nwT : nwT = [19, 29, 39, 48, 5, 57, 20, 30, 40, 49, 6, 58].filterMap (fun i => fN[i]?) := by decide +kernel
theorem fe_nwE0 : nwE 0 = [21, 22, 23, 24, 25, 26, 27].filterMap (fun i => fN[i]?) := by decide +kernel
theorem fe_nwE1 : nwE 1 = [31, 32, 33, 34, 35, 36, 37].filterMap (fun i => fN[i]?) := by decide +kernel
theorem fe_nwE2 : nwE 2 = [41, 42, 43, 44, 45, 46].filterMap (fun i => fN[i]?) := by decide +kernel
theorem fe_nwE3 : nwE 3 = [50, 51, 52, 53, 54, 55].filterMap (fun i => fN[i]?) := by decide +kernel
theorem fe_nwE4 : nwE 4 = [7, 8, 9, 10, 11, 12].filterMap (fun i => fN[i]?) := by decide +kernel
theorem fe_nwE5 : nwE 5 = [59, 60, 61].filterMap (fun i => fN[i]?) := by decide +kernel
theorem fe_nwZ : nwZ = [13, 14, 62, 63, 77].filterMap (fun i => fN[i]?) := by decide +kernel
theorem fe_nwS : nwS = [92, 211, 229, 247, 93, 212, 230, 248, 94, 213, 231, 249, 95, 214, 232, 250].filterMap (fun i => fN[i]?) := by decide +kernel
theorem fe_nwB0 : nwB 0 = [96, 97, 98, 99, 100, 101, 102, 103, 104, 105, 106, 107, 108, 109, 110, 111, 112, 113, 114, 115, 116, 117, 118, 119, 120, 121, 122, 123, 124, 125, 126, 127, 128, 129, 130, 131, 132, 133, 134, 135, 136, 137, 138, 139, 140, 141, 142, 143, 144, 145, 146, 147, 148, 149, 150, 151, 152, 153, 154, 155, 156, 157, 158, 159, 160, 161, 162, 163, 164, 165, 166, 167, 168, 169, 170, 171, 172, 173, 174, 175, 176, 177, 178, 179, 180, 181, 182, 183, 184, 185, 186, 187, 188, 189, 190, 191, 192, 193, 194, 195, 196, 197, 198, 199, 200, 201, 202, 203, 204, 205, 206, 207, 208, 209, 210].filterMap (fun i => fN[i]?) := by decide +kernel
theorem fe_nwB1 : nwB 1 = [215, 216, 217, 218, 219, 220, 221, 222, 223, 224, 225, 226, 227].filterMap (fun i => fN[i]?) := by decide +kernel
theorem fe_nwB2 : nwB 2 = [233, 234, 235, 236, 237, 238, 239, 240, 241, 242, 243, 244].filterMap (fun i => fN[i]?) := by decide +kernel
theorem fe_nwB3 : nwB 3 = [251, 252, 253, 254, 255, 256, 257, 258, 259, 260, 261, 262, 263, 264, 265, 266, 267, 268, 269, 270, 271, 272, 273, 274, 275, 276, 277, 278, 279, 280, 281, 282, 283, 284, 285, 286, 287, 288, 289, 290, 291, 292, 293, 294, 295, 296, 297, 298, 299, 300, 301, 302, 303, 304, 305, 306, 307, 308, 309, 310, 311, 312, 313, 314, 315, 316, 317, 318, 319, 320, 321, 322, 323, 324, 325, 326, 327, 328, 329, 330, 331, 332, 333, 334, 335, 336, 337, 338, 339, 340, 341, 342, 343, 344, 345, 346, 347, 348, 349, 350, 351, 352, 353, 354, 355, 356, 357, 358, 359, 360, 361, 362, 363, 364, 365].filterMap (fun i => fN[i]?) := by decide +kernel
theorem fe_nwN : nwN = [228, 245, 366, 246, 367, 368].filterMap (fun i => fN[i]?) := by decide +kernel
theorem fe_nwK : nwK = [749, 751, 800, 802, 206, 928, 97, 112, 114, 116, 658, 674, 1221, 1223, 648, 1234, 1269, 1531, 167, 158, 159, 204, 203].filterMap (fun i => lw_tbl[i]?) := by decide +kernel
theorem fe_nwF : nwF = [222, 211, 325, 331, 299, 337, 227, 425, 340, 343, 346, 352, 305, 322, 349, 422, 236, 415, 411, 409, 420, 316, 334, 313, 328, 320, 413, 309, 242, 184, 927, 417, 859, 212, 223, 304, 308, 312, 213, 235, 205, 148, 142, 146, 144, 215, 748, 750, 220, 218, 224, 229, 232, 240, 799, 801, 237, 244, 177, 179, 234, 231, 214, 408, 266, 454, 507, 533, 270, 272, 274, 306, 317, 319, 323, 326, 228, 314, 310, 338, 341, 344, 347, 350, 353, 243, 300, 502, 505, 216, 225, 238, 423, 426, 475, 477, 418, 302, 332, 329, 180, 335].filterMap (fun i => lw_tbl[i]?) := by decide +kernel
theorem fe_nwM : nwM = [170, 137, 131, 294, 393, 403, 446, 466, 493, 525].filterMap (fun i => lw_tbl[i]?) := by decide +kernel
theorem j6 {j : Nat} (h : j < 6) : j = 0 ∨ j = 1 ∨ j = 2 ∨ j = 3 ∨ j = 4 ∨ j = 5 := by omega
theorem j4 {j : Nat} (h : j < 4) : j = 0 ∨ j = 1 ∨ j = 2 ∨ j = 3 := by omega
theorem in_nwE {j : Nat} (hj : j < 6) {w : Cond} (h : w ∈ nwE j) : w ∈ fN := by
  rcases j6 hj with rfl | rfl | rfl | rfl | rfl | rfl
  · rw [fe_nwE0] at h; exact fm_mem h
  · rw [fe_nwE1] at h; exact fm_mem h
  · rw [fe_nwE2] at h; exact fm_mem h
  · rw [fe_nwE3] at h; exact fm_mem h
  · rw [fe_nwE4] at h; exact fm_mem h
  · rw [fe_nwE5] at h; exact fm_mem h
theorem in_nwB {j : Nat} (hj : j < 4) {w : Cond} (h : w ∈ nwB j) : w ∈ fN := by
  rcases j4 hj with rfl | rfl | rfl | rfl
  · rw [fe_nwB0] at h; exact fm_mem h
  · rw [fe_nwB1] at h; exact fm_mem h
  · rw [fe_nwB2] at h; exact fm_mem h
  · rw [fe_nwB3] at h; exact fm_mem h
theorem in_f {l : List Cond} {is : List Nat} (h : l = is.filterMap (fun i => fN[i]?)) {w : Cond} (hw : w ∈ l) : w ∈ fN := by rw [h] at hw; exact fm_mem hw
theorem in_t {l : List Cond} {is : List Nat} (h : l = is.filterMap (fun i => lw_tbl[i]?)) {w : Cond} (hw : w ∈ l) : w ∈ lw_tbl := by rw [h] at hw; exact fm_mem hw
theorem rm_in {f : Nat → Cond} {n j : Nat} (h : j < n) : f j ∈ (List.range n).map f := List.mem_map.mpr ⟨j, List.mem_range.mpr h, rfl⟩
theorem ev_start {s : State} {args : Array Value} (hts : ∀ w ∈ lw_tbl, w.before args s = true) (hg : (Jvm.Cond.and given_1 narrow_1).before args s = true) : ∃ ev, EV ev (fun q => s.heap.size ≤ q) s s.heap ∧ PX s ∧ va_AOA .int s := by
  have hn : ∀ w ∈ fN, w.before args s = true := flat_of_before _ hg
  have hA : ∀ a : Nat, a < s.heap.size → ¬ (fun q : Nat => s.heap.size ≤ q) a := fun a h => Nat.not_le.mpr h
  have kW : ∀ (i : Nat) (w : Cond), nwK[i]? = some w → w.before args s = true := fun i w h => hts w (in_t fe_nwK (List.mem_of_getElem? h))
  have zW : ∀ (i : Nat) (w : Cond), nwZ[i]? = some w → w.before args s = true := fun i w h => hn w (in_f fe_nwZ (List.mem_of_getElem? h))
  have hTab : ∀ j, ∃ t : Nat, j < 6 → va_Z "ThreeSittings" (evN j) "[I" (.ref t) (fun q => s.heap.size ≤ q) s s.heap ∧ va_T .int t (evL j) (fun i => .int ((evC j).getD i 0)) (fun q => s.heap.size ≤ q) s s.heap := by
    intro j
    by_cases hj : j < 6
    · obtain ⟨t, e, hT⟩ := va_Tof (args := args) (tm := tbT j) (ty := .int) (N := evL j) (f := fun i => .int ((evC j).getD i 0)) (by rcases j6 hj with rfl | rfl | rfl | rfl | rfl | rfl <;> decide) (hn _ (in_f fe_nwT (List.mem_append_left _ (rm_in (f := fun j => Cond.arrayOf (tbT j) .int) hj)))) (va_eqv (hn _ (in_f fe_nwT (List.mem_append_right _ (rm_in (f := fun j => Cond.eq (.length (tbT j)) (.int (Int32.ofNat (evL j)))) hj)))) rfl) (fun i hi => va_eqv (hn _ (in_nwE hj (rm_in (f := fun i => Cond.eq (.elem (tbT j) (.int (Int32.ofNat i))) (.int ((evC j).getD i 0))) hi))) rfl) hA
      refine ⟨t, fun _ => ⟨va_Zof (args := args) ?_ (kW 6 _ rfl) e hA, hT⟩⟩
      exact hts _ (in_t fe_nwK (List.mem_append_left _ (List.mem_append_left _ (List.mem_append_left _ (rm_in (f := fun j => Cond.laysStatic "ThreeSittings" (evN j) "[I") hj)))))
    · exact ⟨0, fun h => absurd h hj⟩
  obtain ⟨tab, htab⟩ : ∃ tab : Nat → Nat, ∀ j, j < 6 → va_Z "ThreeSittings" (evN j) "[I" (.ref (tab j)) (fun q => s.heap.size ≤ q) s s.heap ∧ va_T .int (tab j) (evL j) (fun i => .int ((evC j).getD i 0)) (fun q => s.heap.size ≤ q) s s.heap := ⟨fun j => (hTab j).choose, fun j hj => (hTab j).choose_spec hj⟩
  have nn : ∀ (i : Nat) (w : Cond), nwN[i]? = some w → w.before args s = true := fun i w h => hn w (in_f fe_nwN (List.mem_of_getElem? h))
  obtain ⟨adK, adV, hS, hk⟩ := vk_Sof (args := args) (s := s) (N := 4) (tm := stT) (len := evSl) (byt := evSb) (A := fun q => s.heap.size ≤ q) (fun i hi => by rcases j4 hi with rfl | rfl | rfl | rfl <;> decide)
    (fun i hi => hn _ (in_f fe_nwS (List.mem_append_left _ (List.mem_append_left _ (List.mem_append_left _ (rm_in (f := fun i => Cond.exactly (stT i) "java/lang/String") hi))))))
    (fun i hi => hn _ (in_f fe_nwS (List.mem_append_left _ (List.mem_append_left _ (List.mem_append_right _ (rm_in (f := fun i => Cond.eq (.field (stT i) "java/lang/String" "coder" "B") (.int 0)) hi))))))
    (fun i hi => hn _ (in_f fe_nwS (List.mem_append_left _ (List.mem_append_right _ (rm_in (f := fun i => Cond.arrayOf (vaT i) .byte) hi)))))
    (fun i hi => hn _ (in_f fe_nwS (List.mem_append_right _ (rm_in (f := fun i => Cond.eq (.length (vaT i)) (.int (Int32.ofNat (evSl.getD i 0)))) hi))))
    (fun i hi j hj => hn _ (in_nwB hi (rm_in (f := fun j => Cond.eq (.elem (vaT i) (.int (Int32.ofNat j))) (.int ((evSb.getD i []).getD j 0))) hj)))
    (fun i j hi hj hne => by
      rcases j4 hi with rfl | rfl | rfl | rfl <;> rcases j4 hj with rfl | rfl | rfl | rfl
      · exact absurd rfl hne
      · exact Or.inl (nn 0 _ rfl)
      · exact Or.inl (nn 1 _ rfl)
      · exact Or.inl (nn 2 _ rfl)
      · exact Or.inr (nn 0 _ rfl)
      · exact absurd rfl hne
      · exact Or.inl (nn 3 _ rfl)
      · exact Or.inl (nn 4 _ rfl)
      · exact Or.inr (nn 1 _ rfl)
      · exact Or.inr (nn 3 _ rfl)
      · exact absurd rfl hne
      · exact Or.inl (nn 5 _ rfl)
      · exact Or.inr (nn 2 _ rfl)
      · exact Or.inr (nn 4 _ rfl)
      · exact Or.inr (nn 5 _ rfl)
      · exact absurd rfl hne) hA
  obtain ⟨ev, e0, e1, e2⟩ : ∃ ev : Nat → Nat, (∀ j, j < 6 → ev j = tab j) ∧ (∀ i, i < 4 → ev (10 + i) = adK i) ∧ (∀ i, i < 4 → ev (20 + i) = adV i) := by
    refine ⟨fun k => if k < 6 then tab k else if k < 20 then adK (k - 10) else adV (k - 20), fun j hj => if_pos hj, fun i hi => ?_, fun i hi => ?_⟩
    · show (if 10 + i < 6 then tab (10 + i) else if 10 + i < 20 then adK (10 + i - 10) else adV (10 + i - 20)) = _
      rw [if_neg (by omega), if_pos (by omega), show 10 + i - 10 = i by omega]
    · show (if 20 + i < 6 then tab (20 + i) else if 20 + i < 20 then adK (20 + i - 10) else adV (20 + i - 20)) = _
      rw [if_neg (by omega), if_neg (by omega), show 20 + i - 20 = i by omega]
  refine ⟨ev, ⟨fun j hj => ?_, ⟨?_, ?_⟩, ⟨⟨fun i hi => ?_, fun i j hi hj e => ?_⟩, fun i hi => ?_⟩, ⟨fun q hq => ?_, fun q hq => ?_⟩, ?_, ?_⟩, ⟨fun w hw a => ?_, ?_⟩, ?_⟩
  · rw [e0 j hj]; exact htab j hj
  · exact va_Zof (args := args) (kW 10 _ rfl) (kW 7 _ rfl) (va_eqv (zW 0 _ rfl) rfl) hA
  · exact va_Zqof (args := args) (kW 11 _ rfl) (kW 8 _ rfl) (zW 1 _ rfl) hA
  · have h := hS.1 i hi
    simp only [e1 i hi, e2 i hi]
    exact h
  · simp only [e1 i hi, e1 j hj] at e
    exact hS.2 i j hi hj e
  · rw [e1 i hi]
    exact vk_R.of (hts _ (in_t fe_nwK (List.mem_append_left _ (List.mem_append_right _ (rm_in (f := fun i => Cond.stringRef (evSo i).1 (evSo i).2.1 (evSo i).2.2) hi))))) (hk i hi)
  · exact va_Nw.of rfl (hts _ (in_t fe_nwF (List.mem_map.mpr ⟨q, hq, rfl⟩)))
  · exact va_Nw.of rfl (hts _ (in_t fe_nwM (List.mem_map.mpr ⟨q, hq, rfl⟩)))
  · exact vx_Zqof (args := args) (kW 12 _ rfl) (kW 9 _ rfl) (zW 2 _ rfl) hA
  · exact vx_Zqof (args := args) (kW 13 _ rfl) (kW 9 _ rfl) (zW 3 _ rfl) hA
  · have q := List.all_eq_true.mp fW_face w hw
    simp only [Bool.and_eq_true] at q
    exact va_tabs q.2 rfl (hts w (fw_tbl w hw))
  · exact va_Nc.of (zW 4 _ rfl)
  · exact kW 18 _ rfl
