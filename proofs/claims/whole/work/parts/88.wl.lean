theorem wt_wsX110 : wsX110 = [568, 570, 572, 574, 576, 578, 580, 582, 584, 586, 588, 590, 592, 594, 596, 598, 600].filterMap (fun i => lw_tbl[i]?) := by decide +kernel
theorem wu_wsX110 : ∀ w ∈ wsX110, w ∈ lw_tbl := fun w h => by rw [wt_wsX110] at h; exact fm_mem h
theorem wt_wsX120 : wsX120 = [1357, 1359, 1361, 1363, 1365, 1367, 1369, 1371, 1373, 1375, 1377, 1379, 1381, 1383, 1385, 1387, 1389, 1391, 1393, 1395, 1397, 1399, 1401, 1403, 1405, 1407, 1409, 1411, 1413, 1415, 1417, 1419, 1421, 1423, 1425, 1427, 1429, 1431, 1433, 1435, 1437, 1439, 1441, 1443, 1445, 1447, 1449, 1451, 1453, 1455, 1457, 1459, 1461, 1463, 1465, 1467, 1469, 1471, 1473, 1475, 1477, 1479, 1481, 1483, 1485, 1487, 1489, 1491, 1493, 1495, 1497].filterMap (fun i => lw_tbl[i]?) := by decide +kernel
theorem wu_wsX120 : ∀ w ∈ wsX120, w ∈ lw_tbl := fun w h => by rw [wt_wsX120] at h; exact fm_mem h
theorem wt_wsX70 : wsX70 = [275, 277, 279, 281, 283, 285, 287].filterMap (fun i => lw_tbl[i]?) := by decide +kernel
theorem wu_wsX70 : ∀ w ∈ wsX70, w ∈ lw_tbl := fun w h => by rw [wt_wsX70] at h; exact fm_mem h
theorem wt_wsX60 : wsX60 = [245, 247, 249, 251, 253, 255, 257, 259, 261].filterMap (fun i => lw_tbl[i]?) := by decide +kernel
theorem wu_wsX60 : ∀ w ∈ wsX60, w ∈ lw_tbl := fun w h => by rw [wt_wsX60] at h; exact fm_mem h
theorem wt_wsX80 : wsX80 = [354, 356, 358, 360, 362, 364, 366, 368, 370, 372, 374, 376, 378, 380, 382, 384, 386, 388].filterMap (fun i => lw_tbl[i]?) := by decide +kernel
theorem wu_wsX80 : ∀ w ∈ wsX80, w ∈ lw_tbl := fun w h => by rw [wt_wsX80] at h; exact fm_mem h
theorem wt_wsX00 : wsX00 = [398].filterMap (fun i => lw_tbl[i]?) := by decide +kernel
theorem wu_wsX00 : ∀ w ∈ wsX00, w ∈ lw_tbl := fun w h => by rw [wt_wsX00] at h; exact fm_mem h
theorem wt_wsX100 : wsX100 = [427, 429, 431, 433, 435, 437, 439, 441].filterMap (fun i => lw_tbl[i]?) := by decide +kernel
theorem wu_wsX100 : ∀ w ∈ wsX100, w ∈ lw_tbl := fun w h => by rw [wt_wsX100] at h; exact fm_mem h
theorem wt_wsX20 : wsX20 = [455, 457, 459, 461].filterMap (fun i => lw_tbl[i]?) := by decide +kernel
theorem wu_wsX20 : ∀ w ∈ wsX20, w ∈ lw_tbl := fun w h => by rw [wt_wsX20] at h; exact fm_mem h
theorem wt_wsX50 : wsX50 = [478, 480, 482, 484, 486, 488].filterMap (fun i => lw_tbl[i]?) := by decide +kernel
theorem wu_wsX50 : ∀ w ∈ wsX50, w ∈ lw_tbl := fun w h => by rw [wt_wsX50] at h; exact fm_mem h
theorem wt_wsX10 : wsX10 = [508, 510, 512, 514, 516, 518, 520].filterMap (fun i => lw_tbl[i]?) := by decide +kernel
theorem wu_wsX10 : ∀ w ∈ wsX10, w ∈ lw_tbl := fun w h => by rw [wt_wsX10] at h; exact fm_mem h
theorem wt_wsX40 : wsX40 = [534, 536, 538, 540].filterMap (fun i => lw_tbl[i]?) := by decide +kernel
theorem wu_wsX40 : ∀ w ∈ wsX40, w ∈ lw_tbl := fun w h => by rw [wt_wsX40] at h; exact fm_mem h
theorem wt_wsX90 : wsX90 = [149, 151, 153, 155].filterMap (fun i => lw_tbl[i]?) := by decide +kernel
theorem wu_wsX90 : ∀ w ∈ wsX90, w ∈ lw_tbl := fun w h => by rw [wt_wsX90] at h; exact fm_mem h
theorem wt_wsX30 : wsX30 = [186, 188, 190, 192, 194, 196, 198, 200].filterMap (fun i => lw_tbl[i]?) := by decide +kernel
theorem wu_wsX30 : ∀ w ∈ wsX30, w ∈ lw_tbl := fun w h => by rw [wt_wsX30] at h; exact fm_mem h
theorem wu_1 : ∀ w ∈ wsL_law0_r1, w ∈ lw_tbl := fun w h => by rw [wt_1] at h; exact fm_mem h
theorem wu_2 : ∀ w ∈ wsL_law0_r2, w ∈ lw_tbl := fun w h => by rw [wt_2] at h; exact fm_mem h
theorem wu_3 : ∀ w ∈ wsL_law0_r3, w ∈ lw_tbl := fun w h => by rw [wt_3] at h; exact fm_mem h
theorem wu_4 : ∀ w ∈ wsL_law0_r4, w ∈ lw_tbl := fun w h => by rw [wt_4] at h; exact fm_mem h
theorem wu_5 : ∀ w ∈ wsL_law0_r5, w ∈ lw_tbl := fun w h => by rw [wt_5] at h; exact fm_mem h
theorem wu_6 : ∀ w ∈ wsL_law0_r6, w ∈ lw_tbl := fun w h => by rw [wt_6] at h; exact fm_mem h
theorem wu_7 : ∀ w ∈ wsL_law0_r7, w ∈ lw_tbl := fun w h => by rw [wt_7] at h; exact fm_mem h
theorem wu_8 : ∀ w ∈ wsL_law0_r8, w ∈ lw_tbl := fun w h => by rw [wt_8] at h; exact fm_mem h
theorem wu_9 : ∀ w ∈ wsL_law0_r9, w ∈ lw_tbl := fun w h => by rw [wt_9] at h; exact fm_mem h
theorem wu_10 : ∀ w ∈ wsL_law0_r10, w ∈ lw_tbl := fun w h => by rw [wt_10] at h; exact fm_mem h
theorem wu_11 : ∀ w ∈ wsL_law0_r11, w ∈ lw_tbl := fun w h => by rw [wt_11] at h; exact fm_mem h
theorem wu_12 : ∀ w ∈ wsL_law0_r12, w ∈ lw_tbl := fun w h => by rw [wt_12] at h; exact fm_mem h
theorem wu_13 : ∀ w ∈ wsL_law0_r13, w ∈ lw_tbl := fun w h => by rw [wt_13] at h; exact fm_mem h
theorem wu_14 : ∀ w ∈ wsL_law0_r14, w ∈ lw_tbl := fun w h => by rw [wt_14] at h; exact fm_mem h
theorem wu_15 : ∀ w ∈ wsL_law0_r15, w ∈ lw_tbl := fun w h => by rw [wt_15] at h; exact fm_mem h
theorem wu_16 : ∀ w ∈ wsL_law0_r16, w ∈ lw_tbl := fun w h => by rw [wt_16] at h; exact fm_mem h
theorem wu_17 : ∀ w ∈ wsL_law0_r17, w ∈ lw_tbl := fun w h => by rw [wt_17] at h; exact fm_mem h
theorem wu_18 : ∀ w ∈ wsL_law0_r18, w ∈ lw_tbl := fun w h => by rw [wt_18] at h; exact fm_mem h
theorem wu_19 : ∀ w ∈ wsL_law0_r19, w ∈ lw_tbl := fun w h => by rw [wt_19] at h; exact fm_mem h
theorem wu_20 : ∀ w ∈ wsL_law0_r20, w ∈ lw_tbl := fun w h => by rw [wt_20] at h; exact fm_mem h
theorem wu_21 : ∀ w ∈ wsL_law0_r21, w ∈ lw_tbl := fun w h => by rw [wt_21] at h; exact fm_mem h
theorem wu_22 : ∀ w ∈ wsL_law0_r22, w ∈ lw_tbl := fun w h => by rw [wt_22] at h; exact fm_mem h
theorem wu_23 : ∀ w ∈ wsL_law0_r23, w ∈ lw_tbl := fun w h => by rw [wt_23] at h; exact fm_mem h
theorem wu_24 : ∀ w ∈ wsL_law0_r24, w ∈ lw_tbl := fun w h => by rw [wt_24] at h; exact fm_mem h
theorem wu_25 : ∀ w ∈ wsL_law0_r25, w ∈ lw_tbl := fun w h => by rw [wt_25] at h; exact fm_mem h
theorem wu_26 : ∀ w ∈ wsL_law0_r26, w ∈ lw_tbl := fun w h => by rw [wt_26] at h; exact fm_mem h
theorem wu_27 : ∀ w ∈ wsL_law0_r27, w ∈ lw_tbl := fun w h => by rw [wt_27] at h; exact fm_mem h
theorem wu_28 : ∀ w ∈ wsL_law0_r28, w ∈ lw_tbl := fun w h => by rw [wt_28] at h; exact fm_mem h
theorem wu_29 : ∀ w ∈ wsL_law0_r29, w ∈ lw_tbl := fun w h => by rw [wt_29] at h; exact fm_mem h
theorem wu_30 : ∀ w ∈ wsL_law0_r30, w ∈ lw_tbl := fun w h => by rw [wt_30] at h; exact fm_mem h
theorem wu_31 : ∀ w ∈ wsL_law0_r31, w ∈ lw_tbl := fun w h => by rw [wt_31] at h; exact fm_mem h
theorem wu_32 : ∀ w ∈ wsL_law0_r32, w ∈ lw_tbl := fun w h => by rw [wt_32] at h; exact fm_mem h
theorem wu_33 : ∀ w ∈ wsL_law0_r33, w ∈ lw_tbl := fun w h => by rw [wt_33] at h; exact fm_mem h
theorem wu_34 : ∀ w ∈ wsL_law0_r34, w ∈ lw_tbl := fun w h => by rw [wt_34] at h; exact fm_mem h
theorem wu_35 : ∀ w ∈ wsL_law0_r35, w ∈ lw_tbl := fun w h => by rw [wt_35] at h; exact fm_mem h
theorem wu_36 : ∀ w ∈ wsL_law0_r36, w ∈ lw_tbl := fun w h => by rw [wt_36] at h; exact fm_mem h
theorem wu_37 : ∀ w ∈ wsL_law0_r37, w ∈ lw_tbl := fun w h => by rw [wt_37] at h; exact fm_mem h
theorem wu_38 : ∀ w ∈ wsL_law0_r38, w ∈ lw_tbl := fun w h => by rw [wt_38] at h; exact fm_mem h
theorem wu_39 : ∀ w ∈ wsL_law0_r39, w ∈ lw_tbl := fun w h => by rw [wt_39] at h; exact fm_mem h
theorem wu_40 : ∀ w ∈ wsL_law0_r40, w ∈ lw_tbl := fun w h => by rw [wt_40] at h; exact fm_mem h
theorem wu_41 : ∀ w ∈ wsL_law0_r41, w ∈ lw_tbl := fun w h => by rw [wt_41] at h; exact fm_mem h
theorem wu_42 : ∀ w ∈ wsL_law0_r42, w ∈ lw_tbl := fun w h => by rw [wt_42] at h; exact fm_mem h
theorem wu_43 : ∀ w ∈ wsL_law0_r43, w ∈ lw_tbl := fun w h => by rw [wt_43] at h; exact fm_mem h
theorem wu_44 : ∀ w ∈ wsL_law0_r44, w ∈ lw_tbl := fun w h => by rw [wt_44] at h; exact fm_mem h
theorem wu_45 : ∀ w ∈ wsL_law0_r45, w ∈ lw_tbl := fun w h => by rw [wt_45] at h; exact fm_mem h
theorem wu_46 : ∀ w ∈ wsL_law0_r46, w ∈ lw_tbl := fun w h => by rw [wt_46] at h; exact fm_mem h
theorem wu_47 : ∀ w ∈ wsL_law0_r47, w ∈ lw_tbl := fun w h => by rw [wt_47] at h; exact fm_mem h
theorem wu_48 : ∀ w ∈ wsL_law0_r48, w ∈ lw_tbl := fun w h => by rw [wt_48] at h; exact fm_mem h
theorem wu_49 : ∀ w ∈ wsL_law0_r49, w ∈ lw_tbl := fun w h => by rw [wt_49] at h; exact fm_mem h
theorem wu_50 : ∀ w ∈ wsL_law0_r50, w ∈ lw_tbl := fun w h => by rw [wt_50] at h; exact fm_mem h
theorem wu_51 : ∀ w ∈ wsL_law0_r51, w ∈ lw_tbl := fun w h => by rw [wt_51] at h; exact fm_mem h
theorem wu_52 : ∀ w ∈ wsL_law0_r52, w ∈ lw_tbl := fun w h => by rw [wt_52] at h; exact fm_mem h
theorem wu_53 : ∀ w ∈ wsL_law0_r53, w ∈ lw_tbl := fun w h => by rw [wt_53] at h; exact fm_mem h
theorem wu_54 : ∀ w ∈ wsL_law0_r54, w ∈ lw_tbl := fun w h => by rw [wt_54] at h; exact fm_mem h
theorem wu_55 : ∀ w ∈ wsL_law0_r55, w ∈ lw_tbl := fun w h => by rw [wt_55] at h; exact fm_mem h
theorem wl_tbl : ∀ w ∈ WL, w ∈ lw_tbl := by
  intro w h
  have h : w ∈ wsL_law0 := h
  unfold wsL_law0 at h
  rcases List.mem_append.mp h with h | h
  rotate_left
  · cases h
  rcases List.mem_append.mp h with h | h
  rotate_left
  · exact wu_wsX30 w h
  rcases List.mem_append.mp h with h | h
  rotate_left
  · exact wu_wsX90 w h
  rcases List.mem_append.mp h with h | h
  rotate_left
  · exact wu_wsX40 w h
  rcases List.mem_append.mp h with h | h
  rotate_left
  · exact wu_wsX10 w h
  rcases List.mem_append.mp h with h | h
  rotate_left
  · exact wu_wsX50 w h
  rcases List.mem_append.mp h with h | h
  rotate_left
  · exact wu_wsX20 w h
  rcases List.mem_append.mp h with h | h
  rotate_left
  · exact wu_wsX100 w h
  rcases List.mem_append.mp h with h | h
  rotate_left
  · exact wu_wsX00 w h
  rcases List.mem_append.mp h with h | h
  rotate_left
  · exact wu_wsX80 w h
  rcases List.mem_append.mp h with h | h
  rotate_left
  · exact wu_wsX60 w h
  rcases List.mem_append.mp h with h | h
  rotate_left
  · exact wu_wsX70 w h
  rcases List.mem_append.mp h with h | h
  rotate_left
  · exact wu_wsX120 w h
  rcases List.mem_append.mp h with h | h
  rotate_left
  · exact wu_wsX110 w h
  rcases List.mem_append.mp h with h | h
  · exact wu_1 w h
  rcases List.mem_append.mp h with h | h
  · exact wu_2 w h
  rcases List.mem_append.mp h with h | h
  · exact wu_3 w h
  rcases List.mem_append.mp h with h | h
  · exact wu_4 w h
  rcases List.mem_append.mp h with h | h
  · exact wu_5 w h
  rcases List.mem_append.mp h with h | h
  · exact wu_6 w h
  rcases List.mem_append.mp h with h | h
  · exact wu_7 w h
  rcases List.mem_append.mp h with h | h
  · exact wu_8 w h
  rcases List.mem_append.mp h with h | h
  · exact wu_9 w h
  rcases List.mem_append.mp h with h | h
  · exact wu_10 w h
  rcases List.mem_append.mp h with h | h
  · exact wu_11 w h
  rcases List.mem_append.mp h with h | h
  · exact wu_12 w h
  rcases List.mem_append.mp h with h | h
  · exact wu_13 w h
  rcases List.mem_append.mp h with h | h
  · exact wu_14 w h
  rcases List.mem_append.mp h with h | h
  · exact wu_15 w h
  rcases List.mem_append.mp h with h | h
  · exact wu_16 w h
  rcases List.mem_append.mp h with h | h
  · exact wu_17 w h
  rcases List.mem_append.mp h with h | h
  · exact wu_18 w h
  rcases List.mem_append.mp h with h | h
  · exact wu_19 w h
  rcases List.mem_append.mp h with h | h
  · exact wu_20 w h
  rcases List.mem_append.mp h with h | h
  · exact wu_21 w h
  rcases List.mem_append.mp h with h | h
  · exact wu_22 w h
  rcases List.mem_append.mp h with h | h
  · exact wu_23 w h
  rcases List.mem_append.mp h with h | h
  · exact wu_24 w h
  rcases List.mem_append.mp h with h | h
  · exact wu_25 w h
  rcases List.mem_append.mp h with h | h
  · exact wu_26 w h
  rcases List.mem_append.mp h with h | h
  · exact wu_27 w h
  rcases List.mem_append.mp h with h | h
  · exact wu_28 w h
  rcases List.mem_append.mp h with h | h
  · exact wu_29 w h
  rcases List.mem_append.mp h with h | h
  · exact wu_30 w h
  rcases List.mem_append.mp h with h | h
  · exact wu_31 w h
  rcases List.mem_append.mp h with h | h
  · exact wu_32 w h
  rcases List.mem_append.mp h with h | h
  · exact wu_33 w h
  rcases List.mem_append.mp h with h | h
  · exact wu_34 w h
  rcases List.mem_append.mp h with h | h
  · exact wu_35 w h
  rcases List.mem_append.mp h with h | h
  · exact wu_36 w h
  rcases List.mem_append.mp h with h | h
  · exact wu_37 w h
  rcases List.mem_append.mp h with h | h
  · exact wu_38 w h
  rcases List.mem_append.mp h with h | h
  · exact wu_39 w h
  rcases List.mem_append.mp h with h | h
  · exact wu_40 w h
  rcases List.mem_append.mp h with h | h
  · exact wu_41 w h
  rcases List.mem_append.mp h with h | h
  · exact wu_42 w h
  rcases List.mem_append.mp h with h | h
  · exact wu_43 w h
  rcases List.mem_append.mp h with h | h
  · exact wu_44 w h
  rcases List.mem_append.mp h with h | h
  · exact wu_45 w h
  rcases List.mem_append.mp h with h | h
  · exact wu_46 w h
  rcases List.mem_append.mp h with h | h
  · exact wu_47 w h
  rcases List.mem_append.mp h with h | h
  · exact wu_48 w h
  rcases List.mem_append.mp h with h | h
  · exact wu_49 w h
  rcases List.mem_append.mp h with h | h
  · exact wu_50 w h
  rcases List.mem_append.mp h with h | h
  · exact wu_51 w h
  rcases List.mem_append.mp h with h | h
  · exact wu_52 w h
  rcases List.mem_append.mp h with h | h
  · exact wu_53 w h
  rcases List.mem_append.mp h with h | h
  · exact wu_54 w h
  exact wu_55 w h
theorem wp_tbl : ∀ w ∈ WP, w ∈ lw_tbl := fun w h => by
  rcases List.mem_append.mp h with h | h
  · exact wl_tbl w h
  · rcases List.mem_append.mp h with h | h
    · rw [wt_I] at h; exact fm_mem h
    · rw [wt_N] at h; exact fm_mem h
theorem fw_tbl : ∀ w ∈ fW, w ∈ lw_tbl := fun w h => by rw [wt_F] at h; exact fm_mem h
