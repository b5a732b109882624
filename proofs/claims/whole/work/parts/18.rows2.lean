theorem dX11_init_0 : decode cX11_init 0 = .ok (.aload_n 0, 1) := by decide +kernel
theorem dX11_init_1 : decode cX11_init 1 = .ok (.invokespecial 5, 3) := by decide +kernel
theorem dX11_init_4 : decode cX11_init 4 = .ok (.aload_n 0, 1) := by decide +kernel
theorem dX11_init_5 : decode cX11_init 5 = .ok (.sipush 700, 3) := by decide +kernel
theorem dX11_init_8 : decode cX11_init 8 = .ok (.newarray .byte, 2) := by decide +kernel
theorem dX11_init_10 : decode cX11_init 10 = .ok (.putfield 11, 3) := by decide +kernel
theorem dX11_init_13 : decode cX11_init 13 = .ok (.aload_n 0, 1) := by decide +kernel
theorem dX11_init_14 : decode cX11_init 14 = .ok (.iconst 0, 1) := by decide +kernel
theorem dX11_init_15 : decode cX11_init 15 = .ok (.putfield 15, 3) := by decide +kernel
theorem dX11_init_18 : decode cX11_init 18 = .ok (.aload_n 0, 1) := by decide +kernel
theorem dX11_init_19 : decode cX11_init 19 = .ok (.new 19, 3) := by decide +kernel
theorem dX11_init_22 : decode cX11_init 22 = .ok (.dup, 1) := by decide +kernel
theorem dX11_init_23 : decode cX11_init 23 = .ok (.invokespecial 21, 3) := by decide +kernel
theorem dX11_init_26 : decode cX11_init 26 = .ok (.putfield 22, 3) := by decide +kernel
theorem dX11_init_29 : decode cX11_init 29 = .ok (.aload_n 0, 1) := by decide +kernel
theorem dX11_init_30 : decode cX11_init 30 = .ok (.new 26, 3) := by decide +kernel
theorem dX11_init_33 : decode cX11_init 33 = .ok (.dup, 1) := by decide +kernel
theorem dX11_init_34 : decode cX11_init 34 = .ok (.invokespecial 28, 3) := by decide +kernel
theorem dX11_init_37 : decode cX11_init 37 = .ok (.putfield 29, 3) := by decide +kernel
theorem dX11_init_40 : decode cX11_init 40 = .ok (.aload_n 0, 1) := by decide +kernel
theorem dX11_init_41 : decode cX11_init 41 = .ok (.new 33, 3) := by decide +kernel
theorem dX11_init_44 : decode cX11_init 44 = .ok (.dup, 1) := by decide +kernel
theorem dX11_init_45 : decode cX11_init 45 = .ok (.invokespecial 35, 3) := by decide +kernel
theorem dX11_init_48 : decode cX11_init 48 = .ok (.putfield 36, 3) := by decide +kernel
theorem dX11_init_51 : decode cX11_init 51 = .ok (.aload_n 0, 1) := by decide +kernel
theorem dX11_init_52 : decode cX11_init 52 = .ok (.new 33, 3) := by decide +kernel
theorem dX11_init_55 : decode cX11_init 55 = .ok (.dup, 1) := by decide +kernel
theorem dX11_init_56 : decode cX11_init 56 = .ok (.invokespecial 35, 3) := by decide +kernel
theorem dX11_init_59 : decode cX11_init 59 = .ok (.putfield 40, 3) := by decide +kernel
theorem dX11_init_62 : decode cX11_init 62 = .ok (.aload_n 0, 1) := by decide +kernel
theorem dX11_init_63 : decode cX11_init 63 = .ok (.iconst 0, 1) := by decide +kernel
theorem dX11_init_64 : decode cX11_init 64 = .ok (.putfield 43, 3) := by decide +kernel
theorem dX11_init_67 : decode cX11_init 67 = .ok (.aload_n 0, 1) := by decide +kernel
theorem dX11_init_68 : decode cX11_init 68 = .ok (.new 33, 3) := by decide +kernel
theorem dX11_init_71 : decode cX11_init 71 = .ok (.dup, 1) := by decide +kernel
theorem dX11_init_72 : decode cX11_init 72 = .ok (.invokespecial 35, 3) := by decide +kernel
theorem dX11_init_75 : decode cX11_init 75 = .ok (.putfield 47, 3) := by decide +kernel
theorem dX11_init_78 : decode cX11_init 78 = .ok (.aload_n 0, 1) := by decide +kernel
theorem dX11_init_79 : decode cX11_init 79 = .ok (.new 50, 3) := by decide +kernel
theorem dX11_init_82 : decode cX11_init 82 = .ok (.dup, 1) := by decide +kernel
theorem dX11_init_83 : decode cX11_init 83 = .ok (.invokespecial 52, 3) := by decide +kernel
theorem dX11_init_86 : decode cX11_init 86 = .ok (.putfield 53, 3) := by decide +kernel
theorem dX11_init_89 : decode cX11_init 89 = .ok (.aload_n 0, 1) := by decide +kernel
theorem dX11_init_90 : decode cX11_init 90 = .ok (.new 57, 3) := by decide +kernel
theorem dX11_init_93 : decode cX11_init 93 = .ok (.dup, 1) := by decide +kernel
theorem dX11_init_94 : decode cX11_init 94 = .ok (.invokespecial 59, 3) := by decide +kernel
theorem dX11_init_97 : decode cX11_init 97 = .ok (.putfield 60, 3) := by decide +kernel
theorem dX11_init_100 : decode cX11_init 100 = .ok (.aload_n 0, 1) := by decide +kernel
theorem dX11_init_101 : decode cX11_init 101 = .ok (.new 57, 3) := by decide +kernel
theorem dX11_init_104 : decode cX11_init 104 = .ok (.dup, 1) := by decide +kernel
theorem dX11_init_105 : decode cX11_init 105 = .ok (.invokespecial 59, 3) := by decide +kernel
theorem dX11_init_108 : decode cX11_init 108 = .ok (.putfield 64, 3) := by decide +kernel
theorem dX11_init_111 : decode cX11_init 111 = .ok (.aload_n 0, 1) := by decide +kernel
theorem dX11_init_112 : decode cX11_init 112 = .ok (.new 57, 3) := by decide +kernel
theorem dX11_init_115 : decode cX11_init 115 = .ok (.dup, 1) := by decide +kernel
theorem dX11_init_116 : decode cX11_init 116 = .ok (.invokespecial 59, 3) := by decide +kernel
theorem dX11_init_119 : decode cX11_init 119 = .ok (.putfield 67, 3) := by decide +kernel
theorem dX11_init_122 : decode cX11_init 122 = .ok (.aload_n 0, 1) := by decide +kernel
theorem dX11_init_123 : decode cX11_init 123 = .ok (.new 70, 3) := by decide +kernel
theorem dX11_init_126 : decode cX11_init 126 = .ok (.dup, 1) := by decide +kernel
theorem dX11_init_127 : decode cX11_init 127 = .ok (.invokespecial 72, 3) := by decide +kernel
theorem dX11_init_130 : decode cX11_init 130 = .ok (.putfield 73, 3) := by decide +kernel
theorem dX11_init_133 : decode cX11_init 133 = .ok (.aload_n 0, 1) := by decide +kernel
theorem dX11_init_134 : decode cX11_init 134 = .ok (.new 77, 3) := by decide +kernel
theorem dX11_init_137 : decode cX11_init 137 = .ok (.dup, 1) := by decide +kernel
theorem dX11_init_138 : decode cX11_init 138 = .ok (.invokespecial 79, 3) := by decide +kernel
theorem dX11_init_141 : decode cX11_init 141 = .ok (.putfield 80, 3) := by decide +kernel
theorem dX11_init_144 : decode cX11_init 144 = .ok (.aload_n 0, 1) := by decide +kernel
theorem dX11_init_145 : decode cX11_init 145 = .ok (.new 84, 3) := by decide +kernel
theorem dX11_init_148 : decode cX11_init 148 = .ok (.dup, 1) := by decide +kernel
theorem dX11_init_149 : decode cX11_init 149 = .ok (.invokespecial 86, 3) := by decide +kernel
theorem dX11_init_152 : decode cX11_init 152 = .ok (.putfield 87, 3) := by decide +kernel
theorem dX11_init_155 : decode cX11_init 155 = .ok (.aload_n 0, 1) := by decide +kernel
theorem dX11_init_156 : decode cX11_init 156 = .ok (.new 91, 3) := by decide +kernel
theorem dX11_init_159 : decode cX11_init 159 = .ok (.dup, 1) := by decide +kernel
theorem dX11_init_160 : decode cX11_init 160 = .ok (.invokespecial 93, 3) := by decide +kernel
theorem dX11_init_163 : decode cX11_init 163 = .ok (.putfield 94, 3) := by decide +kernel
theorem dX11_init_166 : decode cX11_init 166 = .ok (.aload_n 0, 1) := by decide +kernel
theorem dX11_init_167 : decode cX11_init 167 = .ok (.bipush 73, 2) := by decide +kernel
theorem dX11_init_169 : decode cX11_init 169 = .ok (.newarray .long, 2) := by decide +kernel
theorem dX11_init_171 : decode cX11_init 171 = .ok (.putfield 98, 3) := by decide +kernel
theorem dX11_init_174 : decode cX11_init 174 = .ok (.aload_n 0, 1) := by decide +kernel
theorem dX11_init_175 : decode cX11_init 175 = .ok (.getfield 64, 3) := by decide +kernel
theorem dX11_init_178 : decode cX11_init 178 = .ok (.iconst 1, 1) := by decide +kernel
theorem dX11_init_179 : decode cX11_init 179 = .ok (.putfield 102, 3) := by decide +kernel
theorem dX11_init_182 : decode cX11_init 182 = .ok (.aload_n 0, 1) := by decide +kernel
theorem dX11_init_183 : decode cX11_init 183 = .ok (.getfield 36, 3) := by decide +kernel
theorem dX11_init_186 : decode cX11_init 186 = .ok (.aload_n 0, 1) := by decide +kernel
theorem dX11_init_187 : decode cX11_init 187 = .ok (.getfield 29, 3) := by decide +kernel
theorem dX11_init_190 : decode cX11_init 190 = .ok (.invokevirtual 105, 3) := by decide +kernel
theorem dX11_init_193 : decode cX11_init 193 = .ok (.return_, 1) := by decide +kernel
theorem dX11_feed_0 : decode cX11_feed 0 = .ok (.aload_n 0, 1) := by decide +kernel
theorem dX11_feed_1 : decode cX11_feed 1 = .ok (.getfield 15, 3) := by decide +kernel
theorem dX11_feed_4 : decode cX11_feed 4 = .ok (.bipush 20, 2) := by decide +kernel
theorem dX11_feed_6 : decode cX11_feed 6 = .ok (.iadd, 1) := by decide +kernel
theorem dX11_feed_7 : decode cX11_feed 7 = .ok (.sipush 700, 3) := by decide +kernel
theorem dX11_feed_10 : decode cX11_feed 10 = .ok (.if_icmp .le 5, 3) := by decide +kernel
theorem dX11_feed_13 : decode cX11_feed 13 = .ok (.iconst (-1), 1) := by decide +kernel
theorem dX11_feed_14 : decode cX11_feed 14 = .ok (.ireturn, 1) := by decide +kernel
theorem dX11_feed_15 : decode cX11_feed 15 = .ok (.aload_n 0, 1) := by decide +kernel
theorem dX11_feed_16 : decode cX11_feed 16 = .ok (.iload_n 1, 1) := by decide +kernel
theorem dX11_feed_17 : decode cX11_feed 17 = .ok (.invokevirtual 109, 3) := by decide +kernel
theorem dX11_feed_20 : decode cX11_feed 20 = .ok (.aload_n 0, 1) := by decide +kernel
theorem dX11_feed_21 : decode cX11_feed 21 = .ok (.iload_n 2, 1) := by decide +kernel
theorem dX11_feed_22 : decode cX11_feed 22 = .ok (.invokevirtual 109, 3) := by decide +kernel
theorem dX11_feed_25 : decode cX11_feed 25 = .ok (.aload_n 0, 1) := by decide +kernel
theorem dX11_feed_26 : decode cX11_feed 26 = .ok (.iload_n 3, 1) := by decide +kernel
theorem dX11_feed_27 : decode cX11_feed 27 = .ok (.invokevirtual 109, 3) := by decide +kernel
theorem dX11_feed_30 : decode cX11_feed 30 = .ok (.aload_n 0, 1) := by decide +kernel
theorem dX11_feed_31 : decode cX11_feed 31 = .ok (.iload 4, 2) := by decide +kernel
theorem dX11_feed_33 : decode cX11_feed 33 = .ok (.invokevirtual 109, 3) := by decide +kernel
theorem dX11_feed_36 : decode cX11_feed 36 = .ok (.aload_n 0, 1) := by decide +kernel
theorem dX11_feed_37 : decode cX11_feed 37 = .ok (.iload 5, 2) := by decide +kernel
theorem dX11_feed_39 : decode cX11_feed 39 = .ok (.invokevirtual 109, 3) := by decide +kernel
theorem dX11_feed_42 : decode cX11_feed 42 = .ok (.aload_n 0, 1) := by decide +kernel
theorem dX11_feed_43 : decode cX11_feed 43 = .ok (.getfield 15, 3) := by decide +kernel
theorem dX11_feed_46 : decode cX11_feed 46 = .ok (.ireturn, 1) := by decide +kernel
theorem dX11_append_0 : decode cX11_append 0 = .ok (.bipush 24, 2) := by decide +kernel
theorem dX11_append_2 : decode cX11_append 2 = .ok (.istore_n 2, 1) := by decide +kernel
theorem dX11_append_3 : decode cX11_append 3 = .ok (.iload_n 2, 1) := by decide +kernel
theorem dX11_append_4 : decode cX11_append 4 = .ok (.ifCond .lt 42, 3) := by decide +kernel
theorem dX11_append_7 : decode cX11_append 7 = .ok (.aload_n 0, 1) := by decide +kernel
theorem dX11_append_8 : decode cX11_append 8 = .ok (.getfield 15, 3) := by decide +kernel
theorem dX11_append_11 : decode cX11_append 11 = .ok (.sipush 700, 3) := by decide +kernel
theorem dX11_append_14 : decode cX11_append 14 = .ok (.if_icmp .ge 26, 3) := by decide +kernel
theorem dX11_append_17 : decode cX11_append 17 = .ok (.aload_n 0, 1) := by decide +kernel
theorem dX11_append_18 : decode cX11_append 18 = .ok (.getfield 11, 3) := by decide +kernel
theorem dX11_append_21 : decode cX11_append 21 = .ok (.aload_n 0, 1) := by decide +kernel
theorem dX11_append_22 : decode cX11_append 22 = .ok (.getfield 15, 3) := by decide +kernel
theorem dX11_append_25 : decode cX11_append 25 = .ok (.iload_n 1, 1) := by decide +kernel
theorem dX11_append_26 : decode cX11_append 26 = .ok (.iload_n 2, 1) := by decide +kernel
theorem dX11_append_27 : decode cX11_append 27 = .ok (.ishr, 1) := by decide +kernel
theorem dX11_append_28 : decode cX11_append 28 = .ok (.i2b, 1) := by decide +kernel
theorem dX11_append_29 : decode cX11_append 29 = .ok (.bastore, 1) := by decide +kernel
theorem dX11_append_30 : decode cX11_append 30 = .ok (.aload_n 0, 1) := by decide +kernel
theorem dX11_append_31 : decode cX11_append 31 = .ok (.dup, 1) := by decide +kernel
theorem dX11_append_32 : decode cX11_append 32 = .ok (.getfield 15, 3) := by decide +kernel
theorem dX11_append_35 : decode cX11_append 35 = .ok (.iconst 1, 1) := by decide +kernel
theorem dX11_append_36 : decode cX11_append 36 = .ok (.iadd, 1) := by decide +kernel
theorem dX11_append_37 : decode cX11_append 37 = .ok (.putfield 15, 3) := by decide +kernel
theorem dX11_append_40 : decode cX11_append 40 = .ok (.iinc 2 (-8), 3) := by decide +kernel
theorem dX11_append_43 : decode cX11_append 43 = .ok (.goto (-40), 3) := by decide +kernel
theorem dX11_append_46 : decode cX11_append 46 = .ok (.return_, 1) := by decide +kernel
theorem dX11_text_0 : decode cX11_text 0 = .ok (.iload_n 1, 1) := by decide +kernel
theorem dX11_text_1 : decode cX11_text 1 = .ok (.ifCond .lt 11, 3) := by decide +kernel
theorem dX11_text_4 : decode cX11_text 4 = .ok (.iload_n 1, 1) := by decide +kernel
theorem dX11_text_5 : decode cX11_text 5 = .ok (.aload_n 0, 1) := by decide +kernel
theorem dX11_text_6 : decode cX11_text 6 = .ok (.getfield 15, 3) := by decide +kernel
theorem dX11_text_9 : decode cX11_text 9 = .ok (.if_icmp .le 6, 3) := by decide +kernel
theorem dX11_text_12 : decode cX11_text 12 = .ok (.bipush (-2), 2) := by decide +kernel
theorem dX11_text_14 : decode cX11_text 14 = .ok (.ireturn, 1) := by decide +kernel
theorem dX11_text_15 : decode cX11_text 15 = .ok (.aload_n 0, 1) := by decide +kernel
theorem dX11_text_16 : decode cX11_text 16 = .ok (.iconst 0, 1) := by decide +kernel
theorem dX11_text_17 : decode cX11_text 17 = .ok (.putfield 15, 3) := by decide +kernel
theorem dX11_text_20 : decode cX11_text 20 = .ok (.aload_n 0, 1) := by decide +kernel
theorem dX11_text_21 : decode cX11_text 21 = .ok (.getfield 22, 3) := by decide +kernel
theorem dX11_text_24 : decode cX11_text 24 = .ok (.aload_n 0, 1) := by decide +kernel
theorem dX11_text_25 : decode cX11_text 25 = .ok (.getfield 11, 3) := by decide +kernel
theorem dX11_text_28 : decode cX11_text 28 = .ok (.iload_n 1, 1) := by decide +kernel
theorem dX11_text_29 : decode cX11_text 29 = .ok (.invokevirtual 113, 3) := by decide +kernel
theorem dX11_text_32 : decode cX11_text 32 = .ok (.ifCond .ne 5, 3) := by decide +kernel
theorem dX11_text_35 : decode cX11_text 35 = .ok (.iconst (-1), 1) := by decide +kernel
theorem dX11_text_36 : decode cX11_text 36 = .ok (.ireturn, 1) := by decide +kernel
theorem dX11_text_37 : decode cX11_text 37 = .ok (.aload_n 0, 1) := by decide +kernel
theorem dX11_text_38 : decode cX11_text 38 = .ok (.getfield 29, 3) := by decide +kernel
theorem dX11_text_41 : decode cX11_text 41 = .ok (.astore_n 2, 1) := by decide +kernel
theorem dX11_text_42 : decode cX11_text 42 = .ok (.aload_n 0, 1) := by decide +kernel
theorem dX11_text_43 : decode cX11_text 43 = .ok (.aload_n 0, 1) := by decide +kernel
theorem dX11_text_44 : decode cX11_text 44 = .ok (.getfield 22, 3) := by decide +kernel
theorem dX11_text_47 : decode cX11_text 47 = .ok (.getfield 117, 3) := by decide +kernel
theorem dX11_text_50 : decode cX11_text 50 = .ok (.putfield 29, 3) := by decide +kernel
theorem dX11_text_53 : decode cX11_text 53 = .ok (.aload_n 0, 1) := by decide +kernel
theorem dX11_text_54 : decode cX11_text 54 = .ok (.getfield 22, 3) := by decide +kernel
theorem dX11_text_57 : decode cX11_text 57 = .ok (.aload_n 2, 1) := by decide +kernel
theorem dX11_text_58 : decode cX11_text 58 = .ok (.putfield 117, 3) := by decide +kernel
theorem dX11_text_61 : decode cX11_text 61 = .ok (.aload_n 0, 1) := by decide +kernel
theorem dX11_text_62 : decode cX11_text 62 = .ok (.getfield 36, 3) := by decide +kernel
theorem dX11_text_65 : decode cX11_text 65 = .ok (.aload_n 0, 1) := by decide +kernel
theorem dX11_text_66 : decode cX11_text 66 = .ok (.getfield 29, 3) := by decide +kernel
theorem dX11_text_69 : decode cX11_text 69 = .ok (.invokevirtual 105, 3) := by decide +kernel
theorem dX11_text_72 : decode cX11_text 72 = .ok (.aload_n 0, 1) := by decide +kernel
theorem dX11_text_73 : decode cX11_text 73 = .ok (.iconst 0, 1) := by decide +kernel
theorem dX11_text_74 : decode cX11_text 74 = .ok (.putfield 43, 3) := by decide +kernel
theorem dX11_text_77 : decode cX11_text 77 = .ok (.aload_n 0, 1) := by decide +kernel
theorem dX11_text_78 : decode cX11_text 78 = .ok (.getfield 73, 3) := by decide +kernel
theorem dX11_text_81 : decode cX11_text 81 = .ok (.iconst 0, 1) := by decide +kernel
theorem dX11_text_82 : decode cX11_text 82 = .ok (.putfield 118, 3) := by decide +kernel
theorem dX11_text_85 : decode cX11_text 85 = .ok (.aload_n 0, 1) := by decide +kernel
theorem dX11_text_86 : decode cX11_text 86 = .ok (.getfield 80, 3) := by decide +kernel
theorem dX11_text_89 : decode cX11_text 89 = .ok (.invokevirtual 121, 3) := by decide +kernel
theorem dX11_text_92 : decode cX11_text 92 = .ok (.aload_n 0, 1) := by decide +kernel
theorem dX11_text_93 : decode cX11_text 93 = .ok (.getfield 87, 3) := by decide +kernel
theorem dX11_text_96 : decode cX11_text 96 = .ok (.iconst 0, 1) := by decide +kernel
theorem dX11_text_97 : decode cX11_text 97 = .ok (.putfield 124, 3) := by decide +kernel
theorem dX11_text_100 : decode cX11_text 100 = .ok (.aload_n 0, 1) := by decide +kernel
theorem dX11_text_101 : decode cX11_text 101 = .ok (.getfield 94, 3) := by decide +kernel
theorem dX11_text_104 : decode cX11_text 104 = .ok (.iconst 0, 1) := by decide +kernel
theorem dX11_text_105 : decode cX11_text 105 = .ok (.putfield 127, 3) := by decide +kernel
theorem dX11_text_108 : decode cX11_text 108 = .ok (.aload_n 0, 1) := by decide +kernel
theorem dX11_text_109 : decode cX11_text 109 = .ok (.getfield 22, 3) := by decide +kernel
theorem dX11_text_112 : decode cX11_text 112 = .ok (.getfield 128, 3) := by decide +kernel
theorem dX11_text_115 : decode cX11_text 115 = .ok (.ireturn, 1) := by decide +kernel
theorem dX11_fault_0 : decode cX11_fault 0 = .ok (.iload_n 1, 1) := by decide +kernel
theorem dX11_fault_1 : decode cX11_fault 1 = .ok (.ifCond .ne 11, 3) := by decide +kernel
theorem dX11_fault_4 : decode cX11_fault 4 = .ok (.aload_n 0, 1) := by decide +kernel
theorem dX11_fault_5 : decode cX11_fault 5 = .ok (.getfield 22, 3) := by decide +kernel
theorem dX11_fault_8 : decode cX11_fault 8 = .ok (.getfield 131, 3) := by decide +kernel
theorem dX11_fault_11 : decode cX11_fault 11 = .ok (.ireturn, 1) := by decide +kernel
theorem dX11_fault_12 : decode cX11_fault 12 = .ok (.iload_n 1, 1) := by decide +kernel
theorem dX11_fault_13 : decode cX11_fault 13 = .ok (.iconst 1, 1) := by decide +kernel
theorem dX11_fault_14 : decode cX11_fault 14 = .ok (.if_icmp .ne 13, 3) := by decide +kernel
theorem dX11_fault_17 : decode cX11_fault 17 = .ok (.aload_n 0, 1) := by decide +kernel
theorem dX11_fault_18 : decode cX11_fault 18 = .ok (.getfield 22, 3) := by decide +kernel
theorem dX11_fault_21 : decode cX11_fault 21 = .ok (.getfield 134, 3) := by decide +kernel
theorem dX11_fault_24 : decode cX11_fault 24 = .ok (.goto 4, 3) := by decide +kernel
theorem dX11_fault_27 : decode cX11_fault 27 = .ok (.iconst (-1), 1) := by decide +kernel
theorem dX11_fault_28 : decode cX11_fault 28 = .ok (.ireturn, 1) := by decide +kernel
theorem dX11_named_0 : decode cX11_named 0 = .ok (.aload_n 0, 1) := by decide +kernel
theorem dX11_named_1 : decode cX11_named 1 = .ok (.getfield 29, 3) := by decide +kernel
theorem dX11_named_4 : decode cX11_named 4 = .ok (.iload_n 1, 1) := by decide +kernel
theorem dX11_named_5 : decode cX11_named 5 = .ok (.invokevirtual 137, 3) := by decide +kernel
theorem dX11_named_8 : decode cX11_named 8 = .ok (.ireturn, 1) := by decide +kernel
theorem dX11_party_0 : decode cX11_party 0 = .ok (.aload_n 0, 1) := by decide +kernel
theorem dX11_party_1 : decode cX11_party 1 = .ok (.getfield 29, 3) := by decide +kernel
theorem dX11_party_4 : decode cX11_party 4 = .ok (.iload_n 1, 1) := by decide +kernel
theorem dX11_party_5 : decode cX11_party 5 = .ok (.invokevirtual 141, 3) := by decide +kernel
theorem dX11_party_8 : decode cX11_party 8 = .ok (.ifCond .ne 13, 3) := by decide +kernel
theorem dX11_party_11 : decode cX11_party 11 = .ok (.new 145, 3) := by decide +kernel
theorem dX11_party_14 : decode cX11_party 14 = .ok (.dup, 1) := by decide +kernel
theorem dX11_party_15 : decode cX11_party 15 = .ok (.ldc 147, 2) := by decide +kernel
theorem dX11_party_17 : decode cX11_party 17 = .ok (.invokespecial 149, 3) := by decide +kernel
theorem dX11_party_20 : decode cX11_party 20 = .ok (.athrow, 1) := by decide +kernel
theorem dX11_party_21 : decode cX11_party 21 = .ok (.iload_n 2, 1) := by decide +kernel
theorem dX11_party_22 : decode cX11_party 22 = .ok (.tableswitch 141 0 8 #[50, 60, 70, 80, 91, 101, 111, 121, 131], 50) := by decide +kernel
theorem dX11_party_72 : decode cX11_party 72 = .ok (.aload_n 0, 1) := by decide +kernel
theorem dX11_party_73 : decode cX11_party 73 = .ok (.getfield 29, 3) := by decide +kernel
theorem dX11_party_76 : decode cX11_party 76 = .ok (.iload_n 1, 1) := by decide +kernel
theorem dX11_party_77 : decode cX11_party 77 = .ok (.iconst 0, 1) := by decide +kernel
theorem dX11_party_78 : decode cX11_party 78 = .ok (.invokevirtual 152, 3) := by decide +kernel
theorem dX11_party_81 : decode cX11_party 81 = .ok (.ireturn, 1) := by decide +kernel
theorem dX11_party_82 : decode cX11_party 82 = .ok (.aload_n 0, 1) := by decide +kernel
theorem dX11_party_83 : decode cX11_party 83 = .ok (.getfield 29, 3) := by decide +kernel
theorem dX11_party_86 : decode cX11_party 86 = .ok (.iload_n 1, 1) := by decide +kernel
theorem dX11_party_87 : decode cX11_party 87 = .ok (.iconst 4, 1) := by decide +kernel
theorem dX11_party_88 : decode cX11_party 88 = .ok (.invokevirtual 152, 3) := by decide +kernel
theorem dX11_party_91 : decode cX11_party 91 = .ok (.ireturn, 1) := by decide +kernel
theorem dX11_party_92 : decode cX11_party 92 = .ok (.aload_n 0, 1) := by decide +kernel
theorem dX11_party_93 : decode cX11_party 93 = .ok (.getfield 29, 3) := by decide +kernel
theorem dX11_party_96 : decode cX11_party 96 = .ok (.iload_n 1, 1) := by decide +kernel
theorem dX11_party_97 : decode cX11_party 97 = .ok (.iconst 5, 1) := by decide +kernel
theorem dX11_party_98 : decode cX11_party 98 = .ok (.invokevirtual 152, 3) := by decide +kernel
theorem dX11_party_101 : decode cX11_party 101 = .ok (.ireturn, 1) := by decide +kernel
theorem dX11_party_102 : decode cX11_party 102 = .ok (.aload_n 0, 1) := by decide +kernel
theorem dX11_party_103 : decode cX11_party 103 = .ok (.getfield 29, 3) := by decide +kernel
theorem dX11_party_106 : decode cX11_party 106 = .ok (.iload_n 1, 1) := by decide +kernel
theorem dX11_party_107 : decode cX11_party 107 = .ok (.bipush 6, 2) := by decide +kernel
theorem dX11_party_109 : decode cX11_party 109 = .ok (.invokevirtual 152, 3) := by decide +kernel
theorem dX11_party_112 : decode cX11_party 112 = .ok (.ireturn, 1) := by decide +kernel
theorem dX11_party_113 : decode cX11_party 113 = .ok (.aload_n 0, 1) := by decide +kernel
theorem dX11_party_114 : decode cX11_party 114 = .ok (.getfield 36, 3) := by decide +kernel
theorem dX11_party_117 : decode cX11_party 117 = .ok (.getfield 156, 3) := by decide +kernel
theorem dX11_party_120 : decode cX11_party 120 = .ok (.iload_n 1, 1) := by decide +kernel
theorem dX11_party_121 : decode cX11_party 121 = .ok (.iaload, 1) := by decide +kernel
theorem dX11_party_122 : decode cX11_party 122 = .ok (.ireturn, 1) := by decide +kernel
theorem dX11_party_123 : decode cX11_party 123 = .ok (.aload_n 0, 1) := by decide +kernel
theorem dX11_party_124 : decode cX11_party 124 = .ok (.getfield 36, 3) := by decide +kernel
theorem dX11_party_127 : decode cX11_party 127 = .ok (.getfield 160, 3) := by decide +kernel
theorem dX11_party_130 : decode cX11_party 130 = .ok (.iload_n 1, 1) := by decide +kernel
theorem dX11_party_131 : decode cX11_party 131 = .ok (.iaload, 1) := by decide +kernel
theorem dX11_party_132 : decode cX11_party 132 = .ok (.ireturn, 1) := by decide +kernel
theorem dX11_party_133 : decode cX11_party 133 = .ok (.aload_n 0, 1) := by decide +kernel
theorem dX11_party_134 : decode cX11_party 134 = .ok (.getfield 36, 3) := by decide +kernel
theorem dX11_party_137 : decode cX11_party 137 = .ok (.getfield 163, 3) := by decide +kernel
theorem dX11_party_140 : decode cX11_party 140 = .ok (.iload_n 1, 1) := by decide +kernel
theorem dX11_party_141 : decode cX11_party 141 = .ok (.iaload, 1) := by decide +kernel
theorem dX11_party_142 : decode cX11_party 142 = .ok (.ireturn, 1) := by decide +kernel
theorem dX11_party_143 : decode cX11_party 143 = .ok (.aload_n 0, 1) := by decide +kernel
theorem dX11_party_144 : decode cX11_party 144 = .ok (.getfield 36, 3) := by decide +kernel
theorem dX11_party_147 : decode cX11_party 147 = .ok (.getfield 166, 3) := by decide +kernel
theorem dX11_party_150 : decode cX11_party 150 = .ok (.iload_n 1, 1) := by decide +kernel
theorem dX11_party_151 : decode cX11_party 151 = .ok (.iaload, 1) := by decide +kernel
theorem dX11_party_152 : decode cX11_party 152 = .ok (.ireturn, 1) := by decide +kernel
theorem dX11_party_153 : decode cX11_party 153 = .ok (.aload_n 0, 1) := by decide +kernel
theorem dX11_party_154 : decode cX11_party 154 = .ok (.getfield 36, 3) := by decide +kernel
theorem dX11_party_157 : decode cX11_party 157 = .ok (.getfield 169, 3) := by decide +kernel
theorem dX11_party_160 : decode cX11_party 160 = .ok (.iload_n 1, 1) := by decide +kernel
theorem dX11_party_161 : decode cX11_party 161 = .ok (.iaload, 1) := by decide +kernel
theorem dX11_party_162 : decode cX11_party 162 = .ok (.ireturn, 1) := by decide +kernel
theorem dX11_party_163 : decode cX11_party 163 = .ok (.new 172, 3) := by decide +kernel
theorem dX11_party_166 : decode cX11_party 166 = .ok (.dup, 1) := by decide +kernel
theorem dX11_party_167 : decode cX11_party 167 = .ok (.ldc 174, 2) := by decide +kernel
theorem dX11_party_169 : decode cX11_party 169 = .ok (.invokespecial 176, 3) := by decide +kernel
theorem dX11_party_172 : decode cX11_party 172 = .ok (.athrow, 1) := by decide +kernel
theorem dX11_wish_0 : decode cX11_wish 0 = .ok (.aload_n 0, 1) := by decide +kernel
theorem dX11_wish_1 : decode cX11_wish 1 = .ok (.getfield 29, 3) := by decide +kernel
theorem dX11_wish_4 : decode cX11_wish 4 = .ok (.iload_n 1, 1) := by decide +kernel
theorem dX11_wish_5 : decode cX11_wish 5 = .ok (.invokevirtual 141, 3) := by decide +kernel
theorem dX11_wish_8 : decode cX11_wish 8 = .ok (.ifCond .eq 12, 3) := by decide +kernel
theorem dX11_wish_11 : decode cX11_wish 11 = .ok (.iload_n 2, 1) := by decide +kernel
theorem dX11_wish_12 : decode cX11_wish 12 = .ok (.ifCond .lt 8, 3) := by decide +kernel
theorem dX11_wish_15 : decode cX11_wish 15 = .ok (.iload_n 2, 1) := by decide +kernel
theorem dX11_wish_16 : decode cX11_wish 16 = .ok (.iconst 3, 1) := by decide +kernel
theorem dX11_wish_17 : decode cX11_wish 17 = .ok (.if_icmp .lt 5, 3) := by decide +kernel
theorem dX11_wish_20 : decode cX11_wish 20 = .ok (.iconst (-1), 1) := by decide +kernel
theorem dX11_wish_21 : decode cX11_wish 21 = .ok (.ireturn, 1) := by decide +kernel
theorem dX11_wish_22 : decode cX11_wish 22 = .ok (.aload_n 0, 1) := by decide +kernel
theorem dX11_wish_23 : decode cX11_wish 23 = .ok (.getfield 29, 3) := by decide +kernel
theorem dX11_wish_26 : decode cX11_wish 26 = .ok (.iload_n 1, 1) := by decide +kernel
theorem dX11_wish_27 : decode cX11_wish 27 = .ok (.iconst 1, 1) := by decide +kernel
theorem dX11_wish_28 : decode cX11_wish 28 = .ok (.iload_n 2, 1) := by decide +kernel
theorem dX11_wish_29 : decode cX11_wish 29 = .ok (.iadd, 1) := by decide +kernel
theorem dX11_wish_30 : decode cX11_wish 30 = .ok (.invokevirtual 152, 3) := by decide +kernel
theorem dX11_wish_33 : decode cX11_wish 33 = .ok (.ireturn, 1) := by decide +kernel
theorem dX11_sitting_0 : decode cX11_sitting 0 = .ok (.aload_n 0, 1) := by decide +kernel
theorem dX11_sitting_1 : decode cX11_sitting 1 = .ok (.getfield 29, 3) := by decide +kernel
theorem dX11_sitting_4 : decode cX11_sitting 4 = .ok (.iload_n 1, 1) := by decide +kernel
theorem dX11_sitting_5 : decode cX11_sitting 5 = .ok (.invokevirtual 177, 3) := by decide +kernel
theorem dX11_sitting_8 : decode cX11_sitting 8 = .ok (.ifCond .ne 5, 3) := by decide +kernel
theorem dX11_sitting_11 : decode cX11_sitting 11 = .ok (.iconst (-1), 1) := by decide +kernel
theorem dX11_sitting_12 : decode cX11_sitting 12 = .ok (.ireturn, 1) := by decide +kernel
theorem dX11_sitting_13 : decode cX11_sitting 13 = .ok (.iload_n 2, 1) := by decide +kernel
theorem dX11_sitting_14 : decode cX11_sitting 14 = .ok (.tableswitch 73 0 3 #[30, 40, 50, 60], 30) := by decide +kernel
theorem dX11_sitting_44 : decode cX11_sitting 44 = .ok (.aload_n 0, 1) := by decide +kernel
theorem dX11_sitting_45 : decode cX11_sitting 45 = .ok (.getfield 29, 3) := by decide +kernel
theorem dX11_sitting_48 : decode cX11_sitting 48 = .ok (.getfield 180, 3) := by decide +kernel
theorem dX11_sitting_51 : decode cX11_sitting 51 = .ok (.iload_n 1, 1) := by decide +kernel
theorem dX11_sitting_52 : decode cX11_sitting 52 = .ok (.iaload, 1) := by decide +kernel
theorem dX11_sitting_53 : decode cX11_sitting 53 = .ok (.ireturn, 1) := by decide +kernel
theorem dX11_sitting_54 : decode cX11_sitting 54 = .ok (.aload_n 0, 1) := by decide +kernel
theorem dX11_sitting_55 : decode cX11_sitting 55 = .ok (.getfield 36, 3) := by decide +kernel
theorem dX11_sitting_58 : decode cX11_sitting 58 = .ok (.getfield 183, 3) := by decide +kernel
theorem dX11_sitting_61 : decode cX11_sitting 61 = .ok (.iload_n 1, 1) := by decide +kernel
theorem dX11_sitting_62 : decode cX11_sitting 62 = .ok (.iaload, 1) := by decide +kernel
theorem dX11_sitting_63 : decode cX11_sitting 63 = .ok (.ireturn, 1) := by decide +kernel
theorem dX11_sitting_64 : decode cX11_sitting 64 = .ok (.aload_n 0, 1) := by decide +kernel
theorem dX11_sitting_65 : decode cX11_sitting 65 = .ok (.getfield 36, 3) := by decide +kernel
theorem dX11_sitting_68 : decode cX11_sitting 68 = .ok (.getfield 186, 3) := by decide +kernel
theorem dX11_sitting_71 : decode cX11_sitting 71 = .ok (.iload_n 1, 1) := by decide +kernel
theorem dX11_sitting_72 : decode cX11_sitting 72 = .ok (.iaload, 1) := by decide +kernel
theorem dX11_sitting_73 : decode cX11_sitting 73 = .ok (.ireturn, 1) := by decide +kernel
theorem dX11_sitting_74 : decode cX11_sitting 74 = .ok (.aload_n 0, 1) := by decide +kernel
theorem dX11_sitting_75 : decode cX11_sitting 75 = .ok (.getfield 36, 3) := by decide +kernel
theorem dX11_sitting_78 : decode cX11_sitting 78 = .ok (.iload_n 1, 1) := by decide +kernel
theorem dX11_sitting_79 : decode cX11_sitting 79 = .ok (.aload_n 0, 1) := by decide +kernel
theorem dX11_sitting_80 : decode cX11_sitting 80 = .ok (.getfield 29, 3) := by decide +kernel
theorem dX11_sitting_83 : decode cX11_sitting 83 = .ok (.invokevirtual 189, 3) := by decide +kernel
theorem dX11_sitting_86 : decode cX11_sitting 86 = .ok (.ireturn, 1) := by decide +kernel
theorem dX11_sitting_87 : decode cX11_sitting 87 = .ok (.aload_n 0, 1) := by decide +kernel
theorem dX11_sitting_88 : decode cX11_sitting 88 = .ok (.getfield 36, 3) := by decide +kernel
theorem dX11_sitting_91 : decode cX11_sitting 91 = .ok (.getfield 193, 3) := by decide +kernel
theorem dX11_sitting_94 : decode cX11_sitting 94 = .ok (.ifCond .eq 12, 3) := by decide +kernel
theorem dX11_sitting_97 : decode cX11_sitting 97 = .ok (.aload_n 0, 1) := by decide +kernel
theorem dX11_sitting_98 : decode cX11_sitting 98 = .ok (.iload_n 1, 1) := by decide +kernel
theorem dX11_sitting_99 : decode cX11_sitting 99 = .ok (.iload_n 2, 1) := by decide +kernel
theorem dX11_sitting_100 : decode cX11_sitting 100 = .ok (.invokevirtual 196, 3) := by decide +kernel
theorem dX11_sitting_103 : decode cX11_sitting 103 = .ok (.goto 4, 3) := by decide +kernel
theorem dX11_sitting_106 : decode cX11_sitting 106 = .ok (.iconst (-1), 1) := by decide +kernel
theorem dX11_sitting_107 : decode cX11_sitting 107 = .ok (.ireturn, 1) := by decide +kernel
theorem dX11_ofLatestDay_0 : decode cX11_ofLatestDay 0 = .ok (.aload_n 0, 1) := by decide +kernel
theorem dX11_ofLatestDay_1 : decode cX11_ofLatestDay 1 = .ok (.getfield 29, 3) := by decide +kernel
theorem dX11_ofLatestDay_4 : decode cX11_ofLatestDay 4 = .ok (.iload_n 1, 1) := by decide +kernel
theorem dX11_ofLatestDay_5 : decode cX11_ofLatestDay 5 = .ok (.invokevirtual 177, 3) := by decide +kernel
theorem dX11_ofLatestDay_8 : decode cX11_ofLatestDay 8 = .ok (.ifCond .ne 5, 3) := by decide +kernel
theorem dX11_ofLatestDay_11 : decode cX11_ofLatestDay 11 = .ok (.iconst (-1), 1) := by decide +kernel
theorem dX11_ofLatestDay_12 : decode cX11_ofLatestDay 12 = .ok (.ireturn, 1) := by decide +kernel
theorem dX11_ofLatestDay_13 : decode cX11_ofLatestDay 13 = .ok (.iload_n 2, 1) := by decide +kernel
theorem dX11_ofLatestDay_14 : decode cX11_ofLatestDay 14 = .ok (.tableswitch 84 4 8 #[34, 44, 54, 64, 74], 34) := by decide +kernel
theorem dX11_ofLatestDay_48 : decode cX11_ofLatestDay 48 = .ok (.aload_n 0, 1) := by decide +kernel
theorem dX11_ofLatestDay_49 : decode cX11_ofLatestDay 49 = .ok (.getfield 36, 3) := by decide +kernel
theorem dX11_ofLatestDay_52 : decode cX11_ofLatestDay 52 = .ok (.getfield 199, 3) := by decide +kernel
theorem dX11_ofLatestDay_55 : decode cX11_ofLatestDay 55 = .ok (.iload_n 1, 1) := by decide +kernel
theorem dX11_ofLatestDay_56 : decode cX11_ofLatestDay 56 = .ok (.iaload, 1) := by decide +kernel
theorem dX11_ofLatestDay_57 : decode cX11_ofLatestDay 57 = .ok (.ireturn, 1) := by decide +kernel
theorem dX11_ofLatestDay_58 : decode cX11_ofLatestDay 58 = .ok (.aload_n 0, 1) := by decide +kernel
theorem dX11_ofLatestDay_59 : decode cX11_ofLatestDay 59 = .ok (.getfield 36, 3) := by decide +kernel
theorem dX11_ofLatestDay_62 : decode cX11_ofLatestDay 62 = .ok (.getfield 202, 3) := by decide +kernel
theorem dX11_ofLatestDay_65 : decode cX11_ofLatestDay 65 = .ok (.iload_n 1, 1) := by decide +kernel
theorem dX11_ofLatestDay_66 : decode cX11_ofLatestDay 66 = .ok (.iaload, 1) := by decide +kernel
theorem dX11_ofLatestDay_67 : decode cX11_ofLatestDay 67 = .ok (.ireturn, 1) := by decide +kernel
theorem dX11_ofLatestDay_68 : decode cX11_ofLatestDay 68 = .ok (.aload_n 0, 1) := by decide +kernel
theorem dX11_ofLatestDay_69 : decode cX11_ofLatestDay 69 = .ok (.getfield 36, 3) := by decide +kernel
theorem dX11_ofLatestDay_72 : decode cX11_ofLatestDay 72 = .ok (.getfield 205, 3) := by decide +kernel
theorem dX11_ofLatestDay_75 : decode cX11_ofLatestDay 75 = .ok (.iload_n 1, 1) := by decide +kernel
theorem dX11_ofLatestDay_76 : decode cX11_ofLatestDay 76 = .ok (.iaload, 1) := by decide +kernel
theorem dX11_ofLatestDay_77 : decode cX11_ofLatestDay 77 = .ok (.ireturn, 1) := by decide +kernel
theorem dX11_ofLatestDay_78 : decode cX11_ofLatestDay 78 = .ok (.aload_n 0, 1) := by decide +kernel
theorem dX11_ofLatestDay_79 : decode cX11_ofLatestDay 79 = .ok (.getfield 36, 3) := by decide +kernel
theorem dX11_ofLatestDay_82 : decode cX11_ofLatestDay 82 = .ok (.getfield 208, 3) := by decide +kernel
theorem dX11_ofLatestDay_85 : decode cX11_ofLatestDay 85 = .ok (.iload_n 1, 1) := by decide +kernel
theorem dX11_ofLatestDay_86 : decode cX11_ofLatestDay 86 = .ok (.iaload, 1) := by decide +kernel
theorem dX11_ofLatestDay_87 : decode cX11_ofLatestDay 87 = .ok (.ireturn, 1) := by decide +kernel
theorem dX11_ofLatestDay_88 : decode cX11_ofLatestDay 88 = .ok (.aload_n 0, 1) := by decide +kernel
theorem dX11_ofLatestDay_89 : decode cX11_ofLatestDay 89 = .ok (.getfield 36, 3) := by decide +kernel
theorem dX11_ofLatestDay_92 : decode cX11_ofLatestDay 92 = .ok (.getfield 211, 3) := by decide +kernel
theorem dX11_ofLatestDay_95 : decode cX11_ofLatestDay 95 = .ok (.iload_n 1, 1) := by decide +kernel
theorem dX11_ofLatestDay_96 : decode cX11_ofLatestDay 96 = .ok (.iaload, 1) := by decide +kernel
theorem dX11_ofLatestDay_97 : decode cX11_ofLatestDay 97 = .ok (.ireturn, 1) := by decide +kernel
theorem dX11_ofLatestDay_98 : decode cX11_ofLatestDay 98 = .ok (.iconst (-1), 1) := by decide +kernel
theorem dX11_ofLatestDay_99 : decode cX11_ofLatestDay 99 = .ok (.ireturn, 1) := by decide +kernel
theorem dX11_law_0 : decode cX11_law 0 = .ok (.iload_n 1, 1) := by decide +kernel
theorem dX11_law_1 : decode cX11_law 1 = .ok (.ifCond .lt 30, 3) := by decide +kernel
theorem dX11_law_4 : decode cX11_law 4 = .ok (.iload_n 1, 1) := by decide +kernel
theorem dX11_law_5 : decode cX11_law 5 = .ok (.iconst 3, 1) := by decide +kernel
theorem dX11_law_6 : decode cX11_law 6 = .ok (.if_icmp .ge 25, 3) := by decide +kernel
theorem dX11_law_9 : decode cX11_law 9 = .ok (.aload_n 0, 1) := by decide +kernel
theorem dX11_law_10 : decode cX11_law 10 = .ok (.iload_n 2, 1) := by decide +kernel
theorem dX11_law_11 : decode cX11_law 11 = .ok (.iload_n 3, 1) := by decide +kernel
theorem dX11_law_12 : decode cX11_law 12 = .ok (.invokevirtual 214, 3) := by decide +kernel
theorem dX11_law_15 : decode cX11_law 15 = .ok (.ifCond .eq 16, 3) := by decide +kernel
theorem dX11_law_18 : decode cX11_law 18 = .ok (.iload 4, 2) := by decide +kernel
theorem dX11_law_20 : decode cX11_law 20 = .ok (.ifCond .lt 11, 3) := by decide +kernel
theorem dX11_law_23 : decode cX11_law 23 = .ok (.iload 4, 2) := by decide +kernel
theorem dX11_law_25 : decode cX11_law 25 = .ok (.sipush 999, 3) := by decide +kernel
theorem dX11_law_28 : decode cX11_law 28 = .ok (.if_icmp .le 7, 3) := by decide +kernel
theorem dX11_law_31 : decode cX11_law 31 = .ok (.ldc2_w 218, 3) := by decide +kernel
theorem dX11_law_34 : decode cX11_law 34 = .ok (.lreturn, 1) := by decide +kernel
theorem dX11_law_35 : decode cX11_law 35 = .ok (.aload_n 0, 1) := by decide +kernel
theorem dX11_law_36 : decode cX11_law 36 = .ok (.getfield 29, 3) := by decide +kernel
theorem dX11_law_39 : decode cX11_law 39 = .ok (.aload_n 0, 1) := by decide +kernel
theorem dX11_law_40 : decode cX11_law 40 = .ok (.getfield 36, 3) := by decide +kernel
theorem dX11_law_43 : decode cX11_law 43 = .ok (.aload_n 0, 1) := by decide +kernel
theorem dX11_law_44 : decode cX11_law 44 = .ok (.getfield 60, 3) := by decide +kernel
theorem dX11_law_47 : decode cX11_law 47 = .ok (.iload_n 2, 1) := by decide +kernel
theorem dX11_law_48 : decode cX11_law 48 = .ok (.iload_n 3, 1) := by decide +kernel
theorem dX11_law_49 : decode cX11_law 49 = .ok (.iload 4, 2) := by decide +kernel
theorem dX11_law_51 : decode cX11_law 51 = .ok (.invokestatic 220, 3) := by decide +kernel
theorem dX11_law_54 : decode cX11_law 54 = .ok (.aload_n 0, 1) := by decide +kernel
theorem dX11_law_55 : decode cX11_law 55 = .ok (.getfield 29, 3) := by decide +kernel
theorem dX11_law_58 : decode cX11_law 58 = .ok (.getfield 224, 3) := by decide +kernel
theorem dX11_law_61 : decode cX11_law 61 = .ok (.iload_n 1, 1) := by decide +kernel
theorem dX11_law_62 : decode cX11_law 62 = .ok (.invokevirtual 228, 3) := by decide +kernel
theorem dX11_law_65 : decode cX11_law 65 = .ok (.lreturn, 1) := by decide +kernel
theorem dX11_areSuch_0 : decode cX11_areSuch 0 = .ok (.aload_n 0, 1) := by decide +kernel
theorem dX11_areSuch_1 : decode cX11_areSuch 1 = .ok (.getfield 29, 3) := by decide +kernel
theorem dX11_areSuch_4 : decode cX11_areSuch 4 = .ok (.iload_n 1, 1) := by decide +kernel
theorem dX11_areSuch_5 : decode cX11_areSuch 5 = .ok (.invokevirtual 141, 3) := by decide +kernel
theorem dX11_areSuch_8 : decode cX11_areSuch 8 = .ok (.ifCond .eq 18, 3) := by decide +kernel
theorem dX11_areSuch_11 : decode cX11_areSuch 11 = .ok (.aload_n 0, 1) := by decide +kernel
theorem dX11_areSuch_12 : decode cX11_areSuch 12 = .ok (.getfield 29, 3) := by decide +kernel
theorem dX11_areSuch_15 : decode cX11_areSuch 15 = .ok (.iload_n 2, 1) := by decide +kernel
theorem dX11_areSuch_16 : decode cX11_areSuch 16 = .ok (.invokevirtual 177, 3) := by decide +kernel
theorem dX11_areSuch_19 : decode cX11_areSuch 19 = .ok (.ifCond .eq 7, 3) := by decide +kernel
theorem dX11_areSuch_22 : decode cX11_areSuch 22 = .ok (.iconst 1, 1) := by decide +kernel
theorem dX11_areSuch_23 : decode cX11_areSuch 23 = .ok (.goto 4, 3) := by decide +kernel
theorem dX11_areSuch_26 : decode cX11_areSuch 26 = .ok (.iconst 0, 1) := by decide +kernel
theorem dX11_areSuch_27 : decode cX11_areSuch 27 = .ok (.ireturn, 1) := by decide +kernel
theorem dX11_give_0 : decode cX11_give 0 = .ok (.aload_n 0, 1) := by decide +kernel
theorem dX11_give_1 : decode cX11_give 1 = .ok (.getfield 29, 3) := by decide +kernel
theorem dX11_give_4 : decode cX11_give 4 = .ok (.iload_n 1, 1) := by decide +kernel
theorem dX11_give_5 : decode cX11_give 5 = .ok (.invokevirtual 141, 3) := by decide +kernel
theorem dX11_give_8 : decode cX11_give 8 = .ok (.ifCond .eq 19, 3) := by decide +kernel
theorem dX11_give_11 : decode cX11_give 11 = .ok (.iload_n 2, 1) := by decide +kernel
theorem dX11_give_12 : decode cX11_give 12 = .ok (.iconst (-1), 1) := by decide +kernel
theorem dX11_give_13 : decode cX11_give 13 = .ok (.if_icmp .eq 16, 3) := by decide +kernel
theorem dX11_give_16 : decode cX11_give 16 = .ok (.aload_n 0, 1) := by decide +kernel
theorem dX11_give_17 : decode cX11_give 17 = .ok (.getfield 29, 3) := by decide +kernel
theorem dX11_give_20 : decode cX11_give 20 = .ok (.iload_n 2, 1) := by decide +kernel
theorem dX11_give_21 : decode cX11_give 21 = .ok (.invokevirtual 177, 3) := by decide +kernel
theorem dX11_give_24 : decode cX11_give 24 = .ok (.ifCond .ne 5, 3) := by decide +kernel
theorem dX11_give_27 : decode cX11_give 27 = .ok (.iconst 0, 1) := by decide +kernel
theorem dX11_give_28 : decode cX11_give 28 = .ok (.ireturn, 1) := by decide +kernel
theorem dX11_give_29 : decode cX11_give 29 = .ok (.aload_n 0, 1) := by decide +kernel
theorem dX11_give_30 : decode cX11_give 30 = .ok (.getfield 36, 3) := by decide +kernel
theorem dX11_give_33 : decode cX11_give 33 = .ok (.getfield 156, 3) := by decide +kernel
theorem dX11_give_36 : decode cX11_give 36 = .ok (.iload_n 1, 1) := by decide +kernel
theorem dX11_give_37 : decode cX11_give 37 = .ok (.iaload, 1) := by decide +kernel
theorem dX11_give_38 : decode cX11_give 38 = .ok (.istore_n 3, 1) := by decide +kernel
theorem dX11_give_39 : decode cX11_give 39 = .ok (.iload_n 3, 1) := by decide +kernel
theorem dX11_give_40 : decode cX11_give 40 = .ok (.iload_n 2, 1) := by decide +kernel
theorem dX11_give_41 : decode cX11_give 41 = .ok (.if_icmp .ne 5, 3) := by decide +kernel
theorem dX11_give_44 : decode cX11_give 44 = .ok (.iconst 0, 1) := by decide +kernel
theorem dX11_give_45 : decode cX11_give 45 = .ok (.ireturn, 1) := by decide +kernel
theorem dX11_give_46 : decode cX11_give 46 = .ok (.iload_n 2, 1) := by decide +kernel
theorem dX11_give_47 : decode cX11_give 47 = .ok (.iconst (-1), 1) := by decide +kernel
theorem dX11_give_48 : decode cX11_give 48 = .ok (.if_icmp .eq 37, 3) := by decide +kernel
theorem dX11_give_51 : decode cX11_give 51 = .ok (.aload_n 0, 1) := by decide +kernel
theorem dX11_give_52 : decode cX11_give 52 = .ok (.getfield 36, 3) := by decide +kernel
theorem dX11_give_55 : decode cX11_give 55 = .ok (.iload_n 2, 1) := by decide +kernel
theorem dX11_give_56 : decode cX11_give 56 = .ok (.aload_n 0, 1) := by decide +kernel
theorem dX11_give_57 : decode cX11_give 57 = .ok (.getfield 29, 3) := by decide +kernel
theorem dX11_give_60 : decode cX11_give 60 = .ok (.invokevirtual 189, 3) := by decide +kernel
theorem dX11_give_63 : decode cX11_give 63 = .ok (.aload_n 0, 1) := by decide +kernel
theorem dX11_give_64 : decode cX11_give 64 = .ok (.getfield 29, 3) := by decide +kernel
theorem dX11_give_67 : decode cX11_give 67 = .ok (.iload_n 1, 1) := by decide +kernel
theorem dX11_give_68 : decode cX11_give 68 = .ok (.iconst 0, 1) := by decide +kernel
theorem dX11_give_69 : decode cX11_give 69 = .ok (.invokevirtual 152, 3) := by decide +kernel
theorem dX11_give_72 : decode cX11_give 72 = .ok (.iadd, 1) := by decide +kernel
theorem dX11_give_73 : decode cX11_give 73 = .ok (.aload_n 0, 1) := by decide +kernel
theorem dX11_give_74 : decode cX11_give 74 = .ok (.getfield 29, 3) := by decide +kernel
theorem dX11_give_77 : decode cX11_give 77 = .ok (.invokevirtual 234, 3) := by decide +kernel
theorem dX11_give_80 : decode cX11_give 80 = .ok (.if_icmp .le 5, 3) := by decide +kernel
theorem dX11_give_83 : decode cX11_give 83 = .ok (.iconst 0, 1) := by decide +kernel
theorem dX11_give_84 : decode cX11_give 84 = .ok (.ireturn, 1) := by decide +kernel
theorem dX11_give_85 : decode cX11_give 85 = .ok (.aload_n 0, 1) := by decide +kernel
theorem dX11_give_86 : decode cX11_give 86 = .ok (.getfield 73, 3) := by decide +kernel
theorem dX11_give_89 : decode cX11_give 89 = .ok (.iconst 0, 1) := by decide +kernel
theorem dX11_give_90 : decode cX11_give 90 = .ok (.iload_n 1, 1) := by decide +kernel
theorem dX11_give_91 : decode cX11_give 91 = .ok (.iload_n 3, 1) := by decide +kernel
theorem dX11_give_92 : decode cX11_give 92 = .ok (.invokevirtual 238, 3) := by decide +kernel
theorem dX11_give_95 : decode cX11_give 95 = .ok (.aload_n 0, 1) := by decide +kernel
theorem dX11_give_96 : decode cX11_give 96 = .ok (.getfield 36, 3) := by decide +kernel
theorem dX11_give_99 : decode cX11_give 99 = .ok (.getfield 156, 3) := by decide +kernel
theorem dX11_give_102 : decode cX11_give 102 = .ok (.iload_n 1, 1) := by decide +kernel
theorem dX11_give_103 : decode cX11_give 103 = .ok (.iload_n 2, 1) := by decide +kernel
theorem dX11_give_104 : decode cX11_give 104 = .ok (.iastore, 1) := by decide +kernel
theorem dX11_give_105 : decode cX11_give 105 = .ok (.iconst 1, 1) := by decide +kernel
theorem dX11_give_106 : decode cX11_give 106 = .ok (.ireturn, 1) := by decide +kernel
theorem dX11_sign_0 : decode cX11_sign 0 = .ok (.aload_n 0, 1) := by decide +kernel
theorem dX11_sign_1 : decode cX11_sign 1 = .ok (.getfield 29, 3) := by decide +kernel
theorem dX11_sign_4 : decode cX11_sign 4 = .ok (.iload_n 1, 1) := by decide +kernel
theorem dX11_sign_5 : decode cX11_sign 5 = .ok (.invokevirtual 177, 3) := by decide +kernel
theorem dX11_sign_8 : decode cX11_sign 8 = .ok (.ifCond .eq 25, 3) := by decide +kernel
theorem dX11_sign_11 : decode cX11_sign 11 = .ok (.iload_n 2, 1) := by decide +kernel
theorem dX11_sign_12 : decode cX11_sign 12 = .ok (.ifCond .lt 21, 3) := by decide +kernel
theorem dX11_sign_15 : decode cX11_sign 15 = .ok (.iload_n 2, 1) := by decide +kernel
theorem dX11_sign_16 : decode cX11_sign 16 = .ok (.iconst 3, 1) := by decide +kernel
theorem dX11_sign_17 : decode cX11_sign 17 = .ok (.if_icmp .gt 16, 3) := by decide +kernel
theorem dX11_sign_20 : decode cX11_sign 20 = .ok (.aload_n 0, 1) := by decide +kernel
theorem dX11_sign_21 : decode cX11_sign 21 = .ok (.getfield 36, 3) := by decide +kernel
theorem dX11_sign_24 : decode cX11_sign 24 = .ok (.getfield 186, 3) := by decide +kernel
theorem dX11_sign_27 : decode cX11_sign 27 = .ok (.iload_n 1, 1) := by decide +kernel
theorem dX11_sign_28 : decode cX11_sign 28 = .ok (.iaload, 1) := by decide +kernel
theorem dX11_sign_29 : decode cX11_sign 29 = .ok (.iload_n 2, 1) := by decide +kernel
theorem dX11_sign_30 : decode cX11_sign 30 = .ok (.if_icmp .ne 5, 3) := by decide +kernel
theorem dX11_sign_33 : decode cX11_sign 33 = .ok (.iconst 0, 1) := by decide +kernel
theorem dX11_sign_34 : decode cX11_sign 34 = .ok (.ireturn, 1) := by decide +kernel
theorem dX11_sign_35 : decode cX11_sign 35 = .ok (.aload_n 0, 1) := by decide +kernel
theorem dX11_sign_36 : decode cX11_sign 36 = .ok (.getfield 73, 3) := by decide +kernel
theorem dX11_sign_39 : decode cX11_sign 39 = .ok (.iconst 1, 1) := by decide +kernel
theorem dX11_sign_40 : decode cX11_sign 40 = .ok (.iload_n 1, 1) := by decide +kernel
theorem dX11_sign_41 : decode cX11_sign 41 = .ok (.aload_n 0, 1) := by decide +kernel
theorem dX11_sign_42 : decode cX11_sign 42 = .ok (.getfield 36, 3) := by decide +kernel
theorem dX11_sign_45 : decode cX11_sign 45 = .ok (.getfield 186, 3) := by decide +kernel
theorem dX11_sign_48 : decode cX11_sign 48 = .ok (.iload_n 1, 1) := by decide +kernel
theorem dX11_sign_49 : decode cX11_sign 49 = .ok (.iaload, 1) := by decide +kernel
theorem dX11_sign_50 : decode cX11_sign 50 = .ok (.invokevirtual 238, 3) := by decide +kernel
theorem dX11_sign_53 : decode cX11_sign 53 = .ok (.aload_n 0, 1) := by decide +kernel
theorem dX11_sign_54 : decode cX11_sign 54 = .ok (.getfield 36, 3) := by decide +kernel
theorem dX11_sign_57 : decode cX11_sign 57 = .ok (.getfield 186, 3) := by decide +kernel
theorem dX11_sign_60 : decode cX11_sign 60 = .ok (.iload_n 1, 1) := by decide +kernel
theorem dX11_sign_61 : decode cX11_sign 61 = .ok (.iload_n 2, 1) := by decide +kernel
theorem dX11_sign_62 : decode cX11_sign 62 = .ok (.iastore, 1) := by decide +kernel
theorem dX11_sign_63 : decode cX11_sign 63 = .ok (.iconst 1, 1) := by decide +kernel
theorem dX11_sign_64 : decode cX11_sign 64 = .ok (.ireturn, 1) := by decide +kernel
theorem dX11_price_0 : decode cX11_price 0 = .ok (.aload_n 0, 1) := by decide +kernel
theorem dX11_price_1 : decode cX11_price 1 = .ok (.getfield 29, 3) := by decide +kernel
theorem dX11_price_4 : decode cX11_price 4 = .ok (.iload_n 1, 1) := by decide +kernel
theorem dX11_price_5 : decode cX11_price 5 = .ok (.invokevirtual 177, 3) := by decide +kernel
theorem dX11_price_8 : decode cX11_price 8 = .ok (.ifCond .eq 26, 3) := by decide +kernel
theorem dX11_price_11 : decode cX11_price 11 = .ok (.iload_n 2, 1) := by decide +kernel
theorem dX11_price_12 : decode cX11_price 12 = .ok (.ifCond .lt 22, 3) := by decide +kernel
theorem dX11_price_15 : decode cX11_price 15 = .ok (.iload_n 2, 1) := by decide +kernel
theorem dX11_price_16 : decode cX11_price 16 = .ok (.bipush 99, 2) := by decide +kernel
theorem dX11_price_18 : decode cX11_price 18 = .ok (.if_icmp .gt 16, 3) := by decide +kernel
theorem dX11_price_21 : decode cX11_price 21 = .ok (.aload_n 0, 1) := by decide +kernel
theorem dX11_price_22 : decode cX11_price 22 = .ok (.getfield 36, 3) := by decide +kernel
theorem dX11_price_25 : decode cX11_price 25 = .ok (.getfield 183, 3) := by decide +kernel
theorem dX11_price_28 : decode cX11_price 28 = .ok (.iload_n 1, 1) := by decide +kernel
theorem dX11_price_29 : decode cX11_price 29 = .ok (.iaload, 1) := by decide +kernel
theorem dX11_price_30 : decode cX11_price 30 = .ok (.iload_n 2, 1) := by decide +kernel
theorem dX11_price_31 : decode cX11_price 31 = .ok (.if_icmp .ne 5, 3) := by decide +kernel
theorem dX11_price_34 : decode cX11_price 34 = .ok (.iconst 0, 1) := by decide +kernel
theorem dX11_price_35 : decode cX11_price 35 = .ok (.ireturn, 1) := by decide +kernel
theorem dX11_price_36 : decode cX11_price 36 = .ok (.aload_n 0, 1) := by decide +kernel
theorem dX11_price_37 : decode cX11_price 37 = .ok (.getfield 73, 3) := by decide +kernel
theorem dX11_price_40 : decode cX11_price 40 = .ok (.iconst 2, 1) := by decide +kernel
theorem dX11_price_41 : decode cX11_price 41 = .ok (.iload_n 1, 1) := by decide +kernel
theorem dX11_price_42 : decode cX11_price 42 = .ok (.aload_n 0, 1) := by decide +kernel
theorem dX11_price_43 : decode cX11_price 43 = .ok (.getfield 36, 3) := by decide +kernel
theorem dX11_price_46 : decode cX11_price 46 = .ok (.getfield 183, 3) := by decide +kernel
theorem dX11_price_49 : decode cX11_price 49 = .ok (.iload_n 1, 1) := by decide +kernel
theorem dX11_price_50 : decode cX11_price 50 = .ok (.iaload, 1) := by decide +kernel
theorem dX11_price_51 : decode cX11_price 51 = .ok (.invokevirtual 238, 3) := by decide +kernel
theorem dX11_price_54 : decode cX11_price 54 = .ok (.aload_n 0, 1) := by decide +kernel
theorem dX11_price_55 : decode cX11_price 55 = .ok (.getfield 36, 3) := by decide +kernel
theorem dX11_price_58 : decode cX11_price 58 = .ok (.getfield 183, 3) := by decide +kernel
theorem dX11_price_61 : decode cX11_price 61 = .ok (.iload_n 1, 1) := by decide +kernel
theorem dX11_price_62 : decode cX11_price 62 = .ok (.iload_n 2, 1) := by decide +kernel
theorem dX11_price_63 : decode cX11_price 63 = .ok (.iastore, 1) := by decide +kernel
theorem dX11_price_64 : decode cX11_price 64 = .ok (.iconst 1, 1) := by decide +kernel
theorem dX11_price_65 : decode cX11_price 65 = .ok (.ireturn, 1) := by decide +kernel
theorem dX11_days_0 : decode cX11_days 0 = .ok (.iload_n 1, 1) := by decide +kernel
theorem dX11_days_1 : decode cX11_days 1 = .ok (.ifCond .lt 24, 3) := by decide +kernel
theorem dX11_days_4 : decode cX11_days 4 = .ok (.iload_n 1, 1) := by decide +kernel
theorem dX11_days_5 : decode cX11_days 5 = .ok (.bipush 99, 2) := by decide +kernel
theorem dX11_days_7 : decode cX11_days 7 = .ok (.if_icmp .gt 18, 3) := by decide +kernel
theorem dX11_days_10 : decode cX11_days 10 = .ok (.aload_n 0, 1) := by decide +kernel
theorem dX11_days_11 : decode cX11_days 11 = .ok (.getfield 36, 3) := by decide +kernel
theorem dX11_days_14 : decode cX11_days 14 = .ok (.getfield 242, 3) := by decide +kernel
theorem dX11_days_17 : decode cX11_days 17 = .ok (.iload_n 1, 1) := by decide +kernel
theorem dX11_days_18 : decode cX11_days 18 = .ok (.iadd, 1) := by decide +kernel
theorem dX11_days_19 : decode cX11_days 19 = .ok (.sipush 9999, 3) := by decide +kernel
theorem dX11_days_22 : decode cX11_days 22 = .ok (.if_icmp .le 5, 3) := by decide +kernel
theorem dX11_days_25 : decode cX11_days 25 = .ok (.iconst (-1), 1) := by decide +kernel
theorem dX11_days_26 : decode cX11_days 26 = .ok (.ireturn, 1) := by decide +kernel
theorem dX11_days_27 : decode cX11_days 27 = .ok (.iconst 0, 1) := by decide +kernel
theorem dX11_days_28 : decode cX11_days 28 = .ok (.istore_n 2, 1) := by decide +kernel
theorem dX11_days_29 : decode cX11_days 29 = .ok (.iload_n 2, 1) := by decide +kernel
theorem dX11_days_30 : decode cX11_days 30 = .ok (.iload_n 1, 1) := by decide +kernel
theorem dX11_days_31 : decode cX11_days 31 = .ok (.if_icmp .ge 36, 3) := by decide +kernel
theorem dX11_days_34 : decode cX11_days 34 = .ok (.aload_n 0, 1) := by decide +kernel
theorem dX11_days_35 : decode cX11_days 35 = .ok (.getfield 53, 3) := by decide +kernel
theorem dX11_days_38 : decode cX11_days 38 = .ok (.aload_n 0, 1) := by decide +kernel
theorem dX11_days_39 : decode cX11_days 39 = .ok (.getfield 29, 3) := by decide +kernel
theorem dX11_days_42 : decode cX11_days 42 = .ok (.aload_n 0, 1) := by decide +kernel
theorem dX11_days_43 : decode cX11_days 43 = .ok (.getfield 36, 3) := by decide +kernel
theorem dX11_days_46 : decode cX11_days 46 = .ok (.aload_n 0, 1) := by decide +kernel
theorem dX11_days_47 : decode cX11_days 47 = .ok (.getfield 64, 3) := by decide +kernel
theorem dX11_days_50 : decode cX11_days 50 = .ok (.invokevirtual 245, 3) := by decide +kernel
theorem dX11_days_53 : decode cX11_days 53 = .ok (.aload_n 0, 1) := by decide +kernel
theorem dX11_days_54 : decode cX11_days 54 = .ok (.getfield 73, 3) := by decide +kernel
theorem dX11_days_57 : decode cX11_days 57 = .ok (.iconst 0, 1) := by decide +kernel
theorem dX11_days_58 : decode cX11_days 58 = .ok (.putfield 118, 3) := by decide +kernel
theorem dX11_days_61 : decode cX11_days 61 = .ok (.iinc 2 1, 3) := by decide +kernel
theorem dX11_days_64 : decode cX11_days 64 = .ok (.goto (-35), 3) := by decide +kernel
theorem dX11_days_67 : decode cX11_days 67 = .ok (.aload_n 0, 1) := by decide +kernel
theorem dX11_days_68 : decode cX11_days 68 = .ok (.getfield 36, 3) := by decide +kernel
theorem dX11_days_71 : decode cX11_days 71 = .ok (.getfield 242, 3) := by decide +kernel
theorem dX11_days_74 : decode cX11_days 74 = .ok (.ireturn, 1) := by decide +kernel
theorem dX11_best_0 : decode cX11_best 0 = .ok (.aload_n 0, 1) := by decide +kernel
theorem dX11_best_1 : decode cX11_best 1 = .ok (.getfield 29, 3) := by decide +kernel
theorem dX11_best_4 : decode cX11_best 4 = .ok (.iload_n 1, 1) := by decide +kernel
theorem dX11_best_5 : decode cX11_best 5 = .ok (.invokevirtual 141, 3) := by decide +kernel
theorem dX11_best_8 : decode cX11_best 8 = .ok (.ifCond .ne 5, 3) := by decide +kernel
theorem dX11_best_11 : decode cX11_best 11 = .ok (.iconst (-1), 1) := by decide +kernel
theorem dX11_best_12 : decode cX11_best 12 = .ok (.ireturn, 1) := by decide +kernel
theorem dX11_best_13 : decode cX11_best 13 = .ok (.aload_n 0, 1) := by decide +kernel
theorem dX11_best_14 : decode cX11_best 14 = .ok (.invokevirtual 249, 3) := by decide +kernel
theorem dX11_best_17 : decode cX11_best 17 = .ok (.aload_n 0, 1) := by decide +kernel
theorem dX11_best_18 : decode cX11_best 18 = .ok (.getfield 87, 3) := by decide +kernel
theorem dX11_best_21 : decode cX11_best 21 = .ok (.getfield 252, 3) := by decide +kernel
theorem dX11_best_24 : decode cX11_best 24 = .ok (.iload_n 1, 1) := by decide +kernel
theorem dX11_best_25 : decode cX11_best 25 = .ok (.iaload, 1) := by decide +kernel
theorem dX11_best_26 : decode cX11_best 26 = .ok (.istore_n 2, 1) := by decide +kernel
theorem dX11_best_27 : decode cX11_best 27 = .ok (.iload_n 2, 1) := by decide +kernel
theorem dX11_best_28 : decode cX11_best 28 = .ok (.iconst (-1), 1) := by decide +kernel
theorem dX11_best_29 : decode cX11_best 29 = .ok (.if_icmp .ne 8, 3) := by decide +kernel
theorem dX11_best_32 : decode cX11_best 32 = .ok (.bipush (-2), 2) := by decide +kernel
theorem dX11_best_34 : decode cX11_best 34 = .ok (.goto 4, 3) := by decide +kernel
theorem dX11_best_37 : decode cX11_best 37 = .ok (.iload_n 2, 1) := by decide +kernel
theorem dX11_best_38 : decode cX11_best 38 = .ok (.ireturn, 1) := by decide +kernel
theorem dX11_bestSum_0 : decode cX11_bestSum 0 = .ok (.aload_n 0, 1) := by decide +kernel
theorem dX11_bestSum_1 : decode cX11_bestSum 1 = .ok (.invokevirtual 249, 3) := by decide +kernel
theorem dX11_bestSum_4 : decode cX11_bestSum 4 = .ok (.aload_n 0, 1) := by decide +kernel
theorem dX11_bestSum_5 : decode cX11_bestSum 5 = .ok (.getfield 87, 3) := by decide +kernel
theorem dX11_bestSum_8 : decode cX11_bestSum 8 = .ok (.getfield 255, 3) := by decide +kernel
theorem dX11_bestSum_11 : decode cX11_bestSum 11 = .ok (.ireturn, 1) := by decide +kernel
theorem dX11_findBest_0 : decode cX11_findBest 0 = .ok (.iconst 0, 1) := by decide +kernel
theorem dX11_findBest_1 : decode cX11_findBest 1 = .ok (.istore_n 1, 1) := by decide +kernel
theorem dX11_findBest_2 : decode cX11_findBest 2 = .ok (.iload_n 1, 1) := by decide +kernel
theorem dX11_findBest_3 : decode cX11_findBest 3 = .ok (.aload_n 0, 1) := by decide +kernel
theorem dX11_findBest_4 : decode cX11_findBest 4 = .ok (.getfield 29, 3) := by decide +kernel
theorem dX11_findBest_7 : decode cX11_findBest 7 = .ok (.getfield 258, 3) := by decide +kernel
theorem dX11_findBest_10 : decode cX11_findBest 10 = .ok (.if_icmp .ge 102, 3) := by decide +kernel
theorem dX11_findBest_13 : decode cX11_findBest 13 = .ok (.iconst 0, 1) := by decide +kernel
theorem dX11_findBest_14 : decode cX11_findBest 14 = .ok (.istore_n 2, 1) := by decide +kernel
theorem dX11_findBest_15 : decode cX11_findBest 15 = .ok (.iload_n 2, 1) := by decide +kernel
theorem dX11_findBest_16 : decode cX11_findBest 16 = .ok (.aload_n 0, 1) := by decide +kernel
theorem dX11_findBest_17 : decode cX11_findBest 17 = .ok (.getfield 29, 3) := by decide +kernel
theorem dX11_findBest_20 : decode cX11_findBest 20 = .ok (.getfield 261, 3) := by decide +kernel
theorem dX11_findBest_23 : decode cX11_findBest 23 = .ok (.if_icmp .ge 83, 3) := by decide +kernel
theorem dX11_findBest_26 : decode cX11_findBest 26 = .ok (.aload_n 0, 1) := by decide +kernel
theorem dX11_findBest_27 : decode cX11_findBest 27 = .ok (.getfield 29, 3) := by decide +kernel
theorem dX11_findBest_30 : decode cX11_findBest 30 = .ok (.getfield 180, 3) := by decide +kernel
theorem dX11_findBest_33 : decode cX11_findBest 33 = .ok (.iload_n 2, 1) := by decide +kernel
theorem dX11_findBest_34 : decode cX11_findBest 34 = .ok (.iaload, 1) := by decide +kernel
theorem dX11_findBest_35 : decode cX11_findBest 35 = .ok (.aload_n 0, 1) := by decide +kernel
theorem dX11_findBest_36 : decode cX11_findBest 36 = .ok (.getfield 29, 3) := by decide +kernel
theorem dX11_findBest_39 : decode cX11_findBest 39 = .ok (.getfield 264, 3) := by decide +kernel
theorem dX11_findBest_42 : decode cX11_findBest 42 = .ok (.iconst 1, 1) := by decide +kernel
theorem dX11_findBest_43 : decode cX11_findBest 43 = .ok (.iaload, 1) := by decide +kernel
theorem dX11_findBest_44 : decode cX11_findBest 44 = .ok (.iadd, 1) := by decide +kernel
theorem dX11_findBest_45 : decode cX11_findBest 45 = .ok (.aload_n 0, 1) := by decide +kernel
theorem dX11_findBest_46 : decode cX11_findBest 46 = .ok (.getfield 29, 3) := by decide +kernel
theorem dX11_findBest_49 : decode cX11_findBest 49 = .ok (.iload_n 1, 1) := by decide +kernel
theorem dX11_findBest_50 : decode cX11_findBest 50 = .ok (.iconst 4, 1) := by decide +kernel
theorem dX11_findBest_51 : decode cX11_findBest 51 = .ok (.invokevirtual 152, 3) := by decide +kernel
theorem dX11_findBest_54 : decode cX11_findBest 54 = .ok (.if_icmp .gt 7, 3) := by decide +kernel
theorem dX11_findBest_57 : decode cX11_findBest 57 = .ok (.iconst 1, 1) := by decide +kernel
theorem dX11_findBest_58 : decode cX11_findBest 58 = .ok (.goto 4, 3) := by decide +kernel
theorem dX11_findBest_61 : decode cX11_findBest 61 = .ok (.iconst 0, 1) := by decide +kernel
theorem dX11_findBest_62 : decode cX11_findBest 62 = .ok (.istore_n 3, 1) := by decide +kernel
theorem dX11_findBest_63 : decode cX11_findBest 63 = .ok (.iload_n 3, 1) := by decide +kernel
theorem dX11_findBest_64 : decode cX11_findBest 64 = .ok (.ifCond .eq 22, 3) := by decide +kernel
theorem dX11_findBest_67 : decode cX11_findBest 67 = .ok (.aload_n 0, 1) := by decide +kernel
theorem dX11_findBest_68 : decode cX11_findBest 68 = .ok (.iload_n 1, 1) := by decide +kernel
theorem dX11_findBest_69 : decode cX11_findBest 69 = .ok (.iload_n 2, 1) := by decide +kernel
theorem dX11_findBest_70 : decode cX11_findBest 70 = .ok (.invokevirtual 267, 3) := by decide +kernel
theorem dX11_findBest_73 : decode cX11_findBest 73 = .ok (.aload_n 0, 1) := by decide +kernel
theorem dX11_findBest_74 : decode cX11_findBest 74 = .ok (.getfield 29, 3) := by decide +kernel
theorem dX11_findBest_77 : decode cX11_findBest 77 = .ok (.iload_n 1, 1) := by decide +kernel
theorem dX11_findBest_78 : decode cX11_findBest 78 = .ok (.iconst 0, 1) := by decide +kernel
theorem dX11_findBest_79 : decode cX11_findBest 79 = .ok (.invokevirtual 152, 3) := by decide +kernel
theorem dX11_findBest_82 : decode cX11_findBest 82 = .ok (.imul, 1) := by decide +kernel
theorem dX11_findBest_83 : decode cX11_findBest 83 = .ok (.goto 4, 3) := by decide +kernel
theorem dX11_findBest_86 : decode cX11_findBest 86 = .ok (.iconst (-1), 1) := by decide +kernel
theorem dX11_findBest_87 : decode cX11_findBest 87 = .ok (.istore 4, 2) := by decide +kernel
theorem dX11_findBest_89 : decode cX11_findBest 89 = .ok (.aload_n 0, 1) := by decide +kernel
theorem dX11_findBest_90 : decode cX11_findBest 90 = .ok (.getfield 87, 3) := by decide +kernel
theorem dX11_findBest_93 : decode cX11_findBest 93 = .ok (.iload_n 1, 1) := by decide +kernel
theorem dX11_findBest_94 : decode cX11_findBest 94 = .ok (.iload_n 2, 1) := by decide +kernel
theorem dX11_findBest_95 : decode cX11_findBest 95 = .ok (.iload 4, 2) := by decide +kernel
theorem dX11_findBest_97 : decode cX11_findBest 97 = .ok (.invokevirtual 270, 3) := by decide +kernel
theorem dX11_findBest_100 : decode cX11_findBest 100 = .ok (.iinc 2 1, 3) := by decide +kernel
theorem dX11_findBest_103 : decode cX11_findBest 103 = .ok (.goto (-88), 3) := by decide +kernel
theorem dX11_findBest_106 : decode cX11_findBest 106 = .ok (.iinc 1 1, 3) := by decide +kernel
theorem dX11_findBest_109 : decode cX11_findBest 109 = .ok (.goto (-107), 3) := by decide +kernel
theorem dX11_findBest_112 : decode cX11_findBest 112 = .ok (.aload_n 0, 1) := by decide +kernel
theorem dX11_findBest_113 : decode cX11_findBest 113 = .ok (.getfield 87, 3) := by decide +kernel
theorem dX11_findBest_116 : decode cX11_findBest 116 = .ok (.aload_n 0, 1) := by decide +kernel
theorem dX11_findBest_117 : decode cX11_findBest 117 = .ok (.getfield 29, 3) := by decide +kernel
theorem dX11_findBest_120 : decode cX11_findBest 120 = .ok (.invokevirtual 273, 3) := by decide +kernel
theorem dX11_findBest_123 : decode cX11_findBest 123 = .ok (.return_, 1) := by decide +kernel
theorem dX11_likeNow_0 : decode cX11_likeNow 0 = .ok (.iconst 0, 1) := by decide +kernel
theorem dX11_likeNow_1 : decode cX11_likeNow 1 = .ok (.aload_n 0, 1) := by decide +kernel
theorem dX11_likeNow_2 : decode cX11_likeNow 2 = .ok (.getfield 29, 3) := by decide +kernel
theorem dX11_likeNow_5 : decode cX11_likeNow 5 = .ok (.aload_n 0, 1) := by decide +kernel
theorem dX11_likeNow_6 : decode cX11_likeNow 6 = .ok (.getfield 36, 3) := by decide +kernel
theorem dX11_likeNow_9 : decode cX11_likeNow 9 = .ok (.aload_n 0, 1) := by decide +kernel
theorem dX11_likeNow_10 : decode cX11_likeNow 10 = .ok (.getfield 60, 3) := by decide +kernel
theorem dX11_likeNow_13 : decode cX11_likeNow 13 = .ok (.iload_n 1, 1) := by decide +kernel
theorem dX11_likeNow_14 : decode cX11_likeNow 14 = .ok (.iload_n 2, 1) := by decide +kernel
theorem dX11_likeNow_15 : decode cX11_likeNow 15 = .ok (.iconst 0, 1) := by decide +kernel
theorem dX11_likeNow_16 : decode cX11_likeNow 16 = .ok (.invokestatic 276, 3) := by decide +kernel
theorem dX11_likeNow_19 : decode cX11_likeNow 19 = .ok (.ireturn, 1) := by decide +kernel
theorem dX11_choice_0 : decode cX11_choice 0 = .ok (.aload_n 0, 1) := by decide +kernel
theorem dX11_choice_1 : decode cX11_choice 1 = .ok (.getfield 29, 3) := by decide +kernel
theorem dX11_choice_4 : decode cX11_choice 4 = .ok (.iload_n 1, 1) := by decide +kernel
theorem dX11_choice_5 : decode cX11_choice 5 = .ok (.invokevirtual 141, 3) := by decide +kernel
theorem dX11_choice_8 : decode cX11_choice 8 = .ok (.ifCond .ne 5, 3) := by decide +kernel
theorem dX11_choice_11 : decode cX11_choice 11 = .ok (.iconst (-1), 1) := by decide +kernel
theorem dX11_choice_12 : decode cX11_choice 12 = .ok (.ireturn, 1) := by decide +kernel
theorem dX11_choice_13 : decode cX11_choice 13 = .ok (.aload_n 0, 1) := by decide +kernel
theorem dX11_choice_14 : decode cX11_choice 14 = .ok (.getfield 29, 3) := by decide +kernel
theorem dX11_choice_17 : decode cX11_choice 17 = .ok (.iload_n 1, 1) := by decide +kernel
theorem dX11_choice_18 : decode cX11_choice 18 = .ok (.aload_n 0, 1) := by decide +kernel
theorem dX11_choice_19 : decode cX11_choice 19 = .ok (.getfield 36, 3) := by decide +kernel
theorem dX11_choice_22 : decode cX11_choice 22 = .ok (.getfield 183, 3) := by decide +kernel
theorem dX11_choice_25 : decode cX11_choice 25 = .ok (.invokevirtual 280, 3) := by decide +kernel
theorem dX11_choice_28 : decode cX11_choice 28 = .ok (.istore_n 2, 1) := by decide +kernel
theorem dX11_choice_29 : decode cX11_choice 29 = .ok (.iload_n 2, 1) := by decide +kernel
theorem dX11_choice_30 : decode cX11_choice 30 = .ok (.iconst (-1), 1) := by decide +kernel
theorem dX11_choice_31 : decode cX11_choice 31 = .ok (.if_icmp .ne 8, 3) := by decide +kernel
theorem dX11_choice_34 : decode cX11_choice 34 = .ok (.bipush (-2), 2) := by decide +kernel
theorem dX11_choice_36 : decode cX11_choice 36 = .ok (.goto 4, 3) := by decide +kernel
theorem dX11_choice_39 : decode cX11_choice 39 = .ok (.iload_n 2, 1) := by decide +kernel
theorem dX11_choice_40 : decode cX11_choice 40 = .ok (.ireturn, 1) := by decide +kernel
theorem dX11_level_0 : decode cX11_level 0 = .ok (.aload_n 0, 1) := by decide +kernel
theorem dX11_level_1 : decode cX11_level 1 = .ok (.getfield 29, 3) := by decide +kernel
theorem dX11_level_4 : decode cX11_level 4 = .ok (.iload_n 1, 1) := by decide +kernel
theorem dX11_level_5 : decode cX11_level 5 = .ok (.invokevirtual 177, 3) := by decide +kernel
theorem dX11_level_8 : decode cX11_level 8 = .ok (.ifCond .eq 18, 3) := by decide +kernel
theorem dX11_level_11 : decode cX11_level 11 = .ok (.aload_n 0, 1) := by decide +kernel
theorem dX11_level_12 : decode cX11_level 12 = .ok (.getfield 94, 3) := by decide +kernel
theorem dX11_level_15 : decode cX11_level 15 = .ok (.iload_n 1, 1) := by decide +kernel
theorem dX11_level_16 : decode cX11_level 16 = .ok (.aload_n 0, 1) := by decide +kernel
theorem dX11_level_17 : decode cX11_level 17 = .ok (.getfield 29, 3) := by decide +kernel
theorem dX11_level_20 : decode cX11_level 20 = .ok (.invokevirtual 284, 3) := by decide +kernel
theorem dX11_level_23 : decode cX11_level 23 = .ok (.goto 4, 3) := by decide +kernel
theorem dX11_level_26 : decode cX11_level 26 = .ok (.iconst (-1), 1) := by decide +kernel
theorem dX11_level_27 : decode cX11_level 27 = .ok (.ireturn, 1) := by decide +kernel
theorem dX11_crowd_0 : decode cX11_crowd 0 = .ok (.aload_n 0, 1) := by decide +kernel
theorem dX11_crowd_1 : decode cX11_crowd 1 = .ok (.getfield 29, 3) := by decide +kernel
theorem dX11_crowd_4 : decode cX11_crowd 4 = .ok (.iload_n 1, 1) := by decide +kernel
theorem dX11_crowd_5 : decode cX11_crowd 5 = .ok (.invokevirtual 177, 3) := by decide +kernel
theorem dX11_crowd_8 : decode cX11_crowd 8 = .ok (.ifCond .eq 12, 3) := by decide +kernel
theorem dX11_crowd_11 : decode cX11_crowd 11 = .ok (.iload_n 2, 1) := by decide +kernel
theorem dX11_crowd_12 : decode cX11_crowd 12 = .ok (.ifCond .lt 8, 3) := by decide +kernel
theorem dX11_crowd_15 : decode cX11_crowd 15 = .ok (.iload_n 2, 1) := by decide +kernel
theorem dX11_crowd_16 : decode cX11_crowd 16 = .ok (.iconst 1, 1) := by decide +kernel
theorem dX11_crowd_17 : decode cX11_crowd 17 = .ok (.if_icmp .le 7, 3) := by decide +kernel
theorem dX11_crowd_20 : decode cX11_crowd 20 = .ok (.ldc2_w 287, 3) := by decide +kernel
theorem dX11_crowd_23 : decode cX11_crowd 23 = .ok (.lreturn, 1) := by decide +kernel
theorem dX11_crowd_24 : decode cX11_crowd 24 = .ok (.iconst 0, 1) := by decide +kernel
theorem dX11_crowd_25 : decode cX11_crowd 25 = .ok (.istore_n 3, 1) := by decide +kernel
theorem dX11_crowd_26 : decode cX11_crowd 26 = .ok (.iload_n 3, 1) := by decide +kernel
theorem dX11_crowd_27 : decode cX11_crowd 27 = .ok (.bipush 72, 2) := by decide +kernel
theorem dX11_crowd_29 : decode cX11_crowd 29 = .ok (.if_icmp .gt 24, 3) := by decide +kernel
theorem dX11_crowd_32 : decode cX11_crowd 32 = .ok (.aload_n 0, 1) := by decide +kernel
theorem dX11_crowd_33 : decode cX11_crowd 33 = .ok (.getfield 98, 3) := by decide +kernel
theorem dX11_crowd_36 : decode cX11_crowd 36 = .ok (.iload_n 3, 1) := by decide +kernel
theorem dX11_crowd_37 : decode cX11_crowd 37 = .ok (.iload_n 3, 1) := by decide +kernel
theorem dX11_crowd_38 : decode cX11_crowd 38 = .ok (.ifCond .ne 7, 3) := by decide +kernel
theorem dX11_crowd_41 : decode cX11_crowd 41 = .ok (.lconst 1, 1) := by decide +kernel
theorem dX11_crowd_42 : decode cX11_crowd 42 = .ok (.goto 4, 3) := by decide +kernel
theorem dX11_crowd_45 : decode cX11_crowd 45 = .ok (.lconst 0, 1) := by decide +kernel
theorem dX11_crowd_46 : decode cX11_crowd 46 = .ok (.lastore, 1) := by decide +kernel
theorem dX11_crowd_47 : decode cX11_crowd 47 = .ok (.iinc 3 1, 3) := by decide +kernel
theorem dX11_crowd_50 : decode cX11_crowd 50 = .ok (.goto (-24), 3) := by decide +kernel
theorem dX11_crowd_53 : decode cX11_crowd 53 = .ok (.lconst 1, 1) := by decide +kernel
theorem dX11_crowd_54 : decode cX11_crowd 54 = .ok (.lstore_n 3, 1) := by decide +kernel
theorem dX11_crowd_55 : decode cX11_crowd 55 = .ok (.iconst 0, 1) := by decide +kernel
theorem dX11_crowd_56 : decode cX11_crowd 56 = .ok (.istore 5, 2) := by decide +kernel
theorem dX11_crowd_58 : decode cX11_crowd 58 = .ok (.iload 5, 2) := by decide +kernel
theorem dX11_crowd_60 : decode cX11_crowd 60 = .ok (.aload_n 0, 1) := by decide +kernel
theorem dX11_crowd_61 : decode cX11_crowd 61 = .ok (.getfield 29, 3) := by decide +kernel
theorem dX11_crowd_64 : decode cX11_crowd 64 = .ok (.getfield 258, 3) := by decide +kernel
theorem dX11_crowd_67 : decode cX11_crowd 67 = .ok (.if_icmp .ge 63, 3) := by decide +kernel
theorem dX11_crowd_70 : decode cX11_crowd 70 = .ok (.aload_n 0, 1) := by decide +kernel
theorem dX11_crowd_71 : decode cX11_crowd 71 = .ok (.getfield 36, 3) := by decide +kernel
theorem dX11_crowd_74 : decode cX11_crowd 74 = .ok (.getfield 156, 3) := by decide +kernel
theorem dX11_crowd_77 : decode cX11_crowd 77 = .ok (.iload 5, 2) := by decide +kernel
theorem dX11_crowd_79 : decode cX11_crowd 79 = .ok (.iaload, 1) := by decide +kernel
theorem dX11_crowd_80 : decode cX11_crowd 80 = .ok (.iload_n 1, 1) := by decide +kernel
theorem dX11_crowd_81 : decode cX11_crowd 81 = .ok (.if_icmp .ne 43, 3) := by decide +kernel
theorem dX11_crowd_84 : decode cX11_crowd 84 = .ok (.aload_n 0, 1) := by decide +kernel
theorem dX11_crowd_85 : decode cX11_crowd 85 = .ok (.aload_n 0, 1) := by decide +kernel
theorem dX11_crowd_86 : decode cX11_crowd 86 = .ok (.getfield 29, 3) := by decide +kernel
theorem dX11_crowd_89 : decode cX11_crowd 89 = .ok (.iload 5, 2) := by decide +kernel
theorem dX11_crowd_91 : decode cX11_crowd 91 = .ok (.iconst 0, 1) := by decide +kernel
theorem dX11_crowd_92 : decode cX11_crowd 92 = .ok (.invokevirtual 152, 3) := by decide +kernel
theorem dX11_crowd_95 : decode cX11_crowd 95 = .ok (.iconst 2, 1) := by decide +kernel
theorem dX11_crowd_96 : decode cX11_crowd 96 = .ok (.aload_n 0, 1) := by decide +kernel
theorem dX11_crowd_97 : decode cX11_crowd 97 = .ok (.getfield 29, 3) := by decide +kernel
theorem dX11_crowd_100 : decode cX11_crowd 100 = .ok (.aload_n 0, 1) := by decide +kernel
theorem dX11_crowd_101 : decode cX11_crowd 101 = .ok (.getfield 36, 3) := by decide +kernel
theorem dX11_crowd_104 : decode cX11_crowd 104 = .ok (.aload_n 0, 1) := by decide +kernel
theorem dX11_crowd_105 : decode cX11_crowd 105 = .ok (.getfield 60, 3) := by decide +kernel
theorem dX11_crowd_108 : decode cX11_crowd 108 = .ok (.iload 5, 2) := by decide +kernel
theorem dX11_crowd_110 : decode cX11_crowd 110 = .ok (.iload_n 1, 1) := by decide +kernel
theorem dX11_crowd_111 : decode cX11_crowd 111 = .ok (.iconst 0, 1) := by decide +kernel
theorem dX11_crowd_112 : decode cX11_crowd 112 = .ok (.invokestatic 276, 3) := by decide +kernel
theorem dX11_crowd_115 : decode cX11_crowd 115 = .ok (.invokevirtual 289, 3) := by decide +kernel
theorem dX11_crowd_118 : decode cX11_crowd 118 = .ok (.lload_n 3, 1) := by decide +kernel
theorem dX11_crowd_119 : decode cX11_crowd 119 = .ok (.ldc2_w 293, 3) := by decide +kernel
theorem dX11_crowd_122 : decode cX11_crowd 122 = .ok (.lmul, 1) := by decide +kernel
theorem dX11_crowd_123 : decode cX11_crowd 123 = .ok (.lstore_n 3, 1) := by decide +kernel
theorem dX11_crowd_124 : decode cX11_crowd 124 = .ok (.iinc 5 1, 3) := by decide +kernel
theorem dX11_crowd_127 : decode cX11_crowd 127 = .ok (.goto (-69), 3) := by decide +kernel
theorem dX11_crowd_130 : decode cX11_crowd 130 = .ok (.lconst 0, 1) := by decide +kernel
theorem dX11_crowd_131 : decode cX11_crowd 131 = .ok (.lstore 5, 2) := by decide +kernel
theorem dX11_crowd_133 : decode cX11_crowd 133 = .ok (.aload_n 0, 1) := by decide +kernel
theorem dX11_crowd_134 : decode cX11_crowd 134 = .ok (.getfield 29, 3) := by decide +kernel
theorem dX11_crowd_137 : decode cX11_crowd 137 = .ok (.getfield 264, 3) := by decide +kernel
theorem dX11_crowd_140 : decode cX11_crowd 140 = .ok (.iconst 0, 1) := by decide +kernel
theorem dX11_crowd_141 : decode cX11_crowd 141 = .ok (.iaload, 1) := by decide +kernel
theorem dX11_crowd_142 : decode cX11_crowd 142 = .ok (.iconst 1, 1) := by decide +kernel
theorem dX11_crowd_143 : decode cX11_crowd 143 = .ok (.iadd, 1) := by decide +kernel
theorem dX11_crowd_144 : decode cX11_crowd 144 = .ok (.iconst 0, 1) := by decide +kernel
theorem dX11_crowd_145 : decode cX11_crowd 145 = .ok (.invokestatic 295, 3) := by decide +kernel
theorem dX11_crowd_148 : decode cX11_crowd 148 = .ok (.istore 7, 2) := by decide +kernel
theorem dX11_crowd_150 : decode cX11_crowd 150 = .ok (.iload 7, 2) := by decide +kernel
theorem dX11_crowd_152 : decode cX11_crowd 152 = .ok (.bipush 72, 2) := by decide +kernel
theorem dX11_crowd_154 : decode cX11_crowd 154 = .ok (.if_icmp .gt 21, 3) := by decide +kernel
theorem dX11_crowd_157 : decode cX11_crowd 157 = .ok (.lload 5, 2) := by decide +kernel
theorem dX11_crowd_159 : decode cX11_crowd 159 = .ok (.aload_n 0, 1) := by decide +kernel
theorem dX11_crowd_160 : decode cX11_crowd 160 = .ok (.getfield 98, 3) := by decide +kernel
theorem dX11_crowd_163 : decode cX11_crowd 163 = .ok (.iload 7, 2) := by decide +kernel
theorem dX11_crowd_165 : decode cX11_crowd 165 = .ok (.laload, 1) := by decide +kernel
theorem dX11_crowd_166 : decode cX11_crowd 166 = .ok (.ladd, 1) := by decide +kernel
theorem dX11_crowd_167 : decode cX11_crowd 167 = .ok (.lstore 5, 2) := by decide +kernel
theorem dX11_crowd_169 : decode cX11_crowd 169 = .ok (.iinc 7 1, 3) := by decide +kernel
theorem dX11_crowd_172 : decode cX11_crowd 172 = .ok (.goto (-22), 3) := by decide +kernel
theorem dX11_crowd_175 : decode cX11_crowd 175 = .ok (.lload_n 3, 1) := by decide +kernel
theorem dX11_crowd_176 : decode cX11_crowd 176 = .ok (.lload 5, 2) := by decide +kernel
theorem dX11_crowd_178 : decode cX11_crowd 178 = .ok (.invokestatic 300, 3) := by decide +kernel
theorem dX11_crowd_181 : decode cX11_crowd 181 = .ok (.lstore 7, 2) := by decide +kernel
theorem dX11_crowd_183 : decode cX11_crowd 183 = .ok (.iload_n 2, 1) := by decide +kernel
theorem dX11_crowd_184 : decode cX11_crowd 184 = .ok (.ifCond .ne 8, 3) := by decide +kernel
theorem dX11_crowd_187 : decode cX11_crowd 187 = .ok (.lload 5, 2) := by decide +kernel
theorem dX11_crowd_189 : decode cX11_crowd 189 = .ok (.goto 4, 3) := by decide +kernel
theorem dX11_crowd_192 : decode cX11_crowd 192 = .ok (.lload_n 3, 1) := by decide +kernel
theorem dX11_crowd_193 : decode cX11_crowd 193 = .ok (.lstore 9, 2) := by decide +kernel
theorem dX11_crowd_195 : decode cX11_crowd 195 = .ok (.lload 7, 2) := by decide +kernel
theorem dX11_crowd_197 : decode cX11_crowd 197 = .ok (.lconst 0, 1) := by decide +kernel
theorem dX11_crowd_198 : decode cX11_crowd 198 = .ok (.lcmp, 1) := by decide +kernel
theorem dX11_crowd_199 : decode cX11_crowd 199 = .ok (.ifCond .le 11, 3) := by decide +kernel
theorem dX11_crowd_202 : decode cX11_crowd 202 = .ok (.lload 9, 2) := by decide +kernel
theorem dX11_crowd_204 : decode cX11_crowd 204 = .ok (.lload 7, 2) := by decide +kernel
theorem dX11_crowd_206 : decode cX11_crowd 206 = .ok (.ldiv, 1) := by decide +kernel
theorem dX11_crowd_207 : decode cX11_crowd 207 = .ok (.goto 5, 3) := by decide +kernel
theorem dX11_crowd_210 : decode cX11_crowd 210 = .ok (.lload 9, 2) := by decide +kernel
theorem dX11_crowd_212 : decode cX11_crowd 212 = .ok (.lreturn, 1) := by decide +kernel
theorem dX11_mayCome_0 : decode cX11_mayCome 0 = .ok (.bipush 72, 2) := by decide +kernel
theorem dX11_mayCome_2 : decode cX11_mayCome 2 = .ok (.istore_n 3, 1) := by decide +kernel
theorem dX11_mayCome_3 : decode cX11_mayCome 3 = .ok (.iload_n 3, 1) := by decide +kernel
theorem dX11_mayCome_4 : decode cX11_mayCome 4 = .ok (.ifCond .lt 56, 3) := by decide +kernel
theorem dX11_mayCome_7 : decode cX11_mayCome 7 = .ok (.iload_n 1, 1) := by decide +kernel
theorem dX11_mayCome_8 : decode cX11_mayCome 8 = .ok (.ifCond .lt 25, 3) := by decide +kernel
theorem dX11_mayCome_11 : decode cX11_mayCome 11 = .ok (.iload_n 3, 1) := by decide +kernel
theorem dX11_mayCome_12 : decode cX11_mayCome 12 = .ok (.iload_n 1, 1) := by decide +kernel
theorem dX11_mayCome_13 : decode cX11_mayCome 13 = .ok (.if_icmp .lt 20, 3) := by decide +kernel
theorem dX11_mayCome_16 : decode cX11_mayCome 16 = .ok (.aload_n 0, 1) := by decide +kernel
theorem dX11_mayCome_17 : decode cX11_mayCome 17 = .ok (.getfield 98, 3) := by decide +kernel
theorem dX11_mayCome_20 : decode cX11_mayCome 20 = .ok (.iload_n 3, 1) := by decide +kernel
theorem dX11_mayCome_21 : decode cX11_mayCome 21 = .ok (.iload_n 1, 1) := by decide +kernel
theorem dX11_mayCome_22 : decode cX11_mayCome 22 = .ok (.isub, 1) := by decide +kernel
theorem dX11_mayCome_23 : decode cX11_mayCome 23 = .ok (.laload, 1) := by decide +kernel
theorem dX11_mayCome_24 : decode cX11_mayCome 24 = .ok (.bipush 100, 2) := by decide +kernel
theorem dX11_mayCome_26 : decode cX11_mayCome 26 = .ok (.iload_n 2, 1) := by decide +kernel
theorem dX11_mayCome_27 : decode cX11_mayCome 27 = .ok (.isub, 1) := by decide +kernel
theorem dX11_mayCome_28 : decode cX11_mayCome 28 = .ok (.i2l, 1) := by decide +kernel
theorem dX11_mayCome_29 : decode cX11_mayCome 29 = .ok (.lmul, 1) := by decide +kernel
theorem dX11_mayCome_30 : decode cX11_mayCome 30 = .ok (.goto 4, 3) := by decide +kernel
theorem dX11_mayCome_33 : decode cX11_mayCome 33 = .ok (.lconst 0, 1) := by decide +kernel
theorem dX11_mayCome_34 : decode cX11_mayCome 34 = .ok (.lstore 4, 2) := by decide +kernel
theorem dX11_mayCome_36 : decode cX11_mayCome 36 = .ok (.aload_n 0, 1) := by decide +kernel
theorem dX11_mayCome_37 : decode cX11_mayCome 37 = .ok (.getfield 98, 3) := by decide +kernel
theorem dX11_mayCome_40 : decode cX11_mayCome 40 = .ok (.iload_n 3, 1) := by decide +kernel
theorem dX11_mayCome_41 : decode cX11_mayCome 41 = .ok (.aload_n 0, 1) := by decide +kernel
theorem dX11_mayCome_42 : decode cX11_mayCome 42 = .ok (.getfield 98, 3) := by decide +kernel
theorem dX11_mayCome_45 : decode cX11_mayCome 45 = .ok (.iload_n 3, 1) := by decide +kernel
theorem dX11_mayCome_46 : decode cX11_mayCome 46 = .ok (.laload, 1) := by decide +kernel
theorem dX11_mayCome_47 : decode cX11_mayCome 47 = .ok (.iload_n 2, 1) := by decide +kernel
theorem dX11_mayCome_48 : decode cX11_mayCome 48 = .ok (.i2l, 1) := by decide +kernel
theorem dX11_mayCome_49 : decode cX11_mayCome 49 = .ok (.lmul, 1) := by decide +kernel
theorem dX11_mayCome_50 : decode cX11_mayCome 50 = .ok (.lload 4, 2) := by decide +kernel
theorem dX11_mayCome_52 : decode cX11_mayCome 52 = .ok (.ladd, 1) := by decide +kernel
theorem dX11_mayCome_53 : decode cX11_mayCome 53 = .ok (.lastore, 1) := by decide +kernel
theorem dX11_mayCome_54 : decode cX11_mayCome 54 = .ok (.iinc 3 (-1), 3) := by decide +kernel
theorem dX11_mayCome_57 : decode cX11_mayCome 57 = .ok (.goto (-54), 3) := by decide +kernel
theorem dX11_mayCome_60 : decode cX11_mayCome 60 = .ok (.return_, 1) := by decide +kernel
theorem dX11_commonDivisor_0 : decode cX11_commonDivisor 0 = .ok (.lload_n 0, 1) := by decide +kernel
theorem dX11_commonDivisor_1 : decode cX11_commonDivisor 1 = .ok (.lstore 4, 2) := by decide +kernel
theorem dX11_commonDivisor_3 : decode cX11_commonDivisor 3 = .ok (.lload_n 2, 1) := by decide +kernel
theorem dX11_commonDivisor_4 : decode cX11_commonDivisor 4 = .ok (.lstore 6, 2) := by decide +kernel
theorem dX11_commonDivisor_6 : decode cX11_commonDivisor 6 = .ok (.iconst 0, 1) := by decide +kernel
theorem dX11_commonDivisor_7 : decode cX11_commonDivisor 7 = .ok (.istore 8, 2) := by decide +kernel
theorem dX11_commonDivisor_9 : decode cX11_commonDivisor 9 = .ok (.iload 8, 2) := by decide +kernel
theorem dX11_commonDivisor_11 : decode cX11_commonDivisor 11 = .ok (.bipush 100, 2) := by decide +kernel
theorem dX11_commonDivisor_13 : decode cX11_commonDivisor 13 = .ok (.if_icmp .ge 31, 3) := by decide +kernel
theorem dX11_commonDivisor_16 : decode cX11_commonDivisor 16 = .ok (.lload 6, 2) := by decide +kernel
theorem dX11_commonDivisor_18 : decode cX11_commonDivisor 18 = .ok (.lconst 0, 1) := by decide +kernel
theorem dX11_commonDivisor_19 : decode cX11_commonDivisor 19 = .ok (.lcmp, 1) := by decide +kernel
theorem dX11_commonDivisor_20 : decode cX11_commonDivisor 20 = .ok (.ifCond .eq 24, 3) := by decide +kernel
theorem dX11_commonDivisor_23 : decode cX11_commonDivisor 23 = .ok (.lload 4, 2) := by decide +kernel
theorem dX11_commonDivisor_25 : decode cX11_commonDivisor 25 = .ok (.lload 6, 2) := by decide +kernel
theorem dX11_commonDivisor_27 : decode cX11_commonDivisor 27 = .ok (.lrem, 1) := by decide +kernel
theorem dX11_commonDivisor_28 : decode cX11_commonDivisor 28 = .ok (.lstore 9, 2) := by decide +kernel
theorem dX11_commonDivisor_30 : decode cX11_commonDivisor 30 = .ok (.lload 6, 2) := by decide +kernel
theorem dX11_commonDivisor_32 : decode cX11_commonDivisor 32 = .ok (.lstore 4, 2) := by decide +kernel
theorem dX11_commonDivisor_34 : decode cX11_commonDivisor 34 = .ok (.lload 9, 2) := by decide +kernel
theorem dX11_commonDivisor_36 : decode cX11_commonDivisor 36 = .ok (.lstore 6, 2) := by decide +kernel
theorem dX11_commonDivisor_38 : decode cX11_commonDivisor 38 = .ok (.iinc 8 1, 3) := by decide +kernel
theorem dX11_commonDivisor_41 : decode cX11_commonDivisor 41 = .ok (.goto (-32), 3) := by decide +kernel
theorem dX11_commonDivisor_44 : decode cX11_commonDivisor 44 = .ok (.lload 4, 2) := by decide +kernel
theorem dX11_commonDivisor_46 : decode cX11_commonDivisor 46 = .ok (.lreturn, 1) := by decide +kernel
theorem dX11_late_0 : decode cX11_late 0 = .ok (.aload_n 0, 1) := by decide +kernel
theorem dX11_late_1 : decode cX11_late 1 = .ok (.getfield 29, 3) := by decide +kernel
theorem dX11_late_4 : decode cX11_late 4 = .ok (.iload_n 1, 1) := by decide +kernel
theorem dX11_late_5 : decode cX11_late 5 = .ok (.invokevirtual 177, 3) := by decide +kernel
theorem dX11_late_8 : decode cX11_late 8 = .ok (.ifCond .ne 5, 3) := by decide +kernel
theorem dX11_late_11 : decode cX11_late 11 = .ok (.iconst (-1), 1) := by decide +kernel
theorem dX11_late_12 : decode cX11_late 12 = .ok (.ireturn, 1) := by decide +kernel
theorem dX11_late_13 : decode cX11_late 13 = .ok (.aload_n 0, 1) := by decide +kernel
theorem dX11_late_14 : decode cX11_late 14 = .ok (.aload_n 0, 1) := by decide +kernel
theorem dX11_late_15 : decode cX11_late 15 = .ok (.getfield 60, 3) := by decide +kernel
theorem dX11_late_18 : decode cX11_late 18 = .ok (.invokevirtual 304, 3) := by decide +kernel
theorem dX11_late_21 : decode cX11_late 21 = .ok (.aload_n 0, 1) := by decide +kernel
theorem dX11_late_22 : decode cX11_late 22 = .ok (.getfield 47, 3) := by decide +kernel
theorem dX11_late_25 : decode cX11_late 25 = .ok (.getfield 202, 3) := by decide +kernel
theorem dX11_late_28 : decode cX11_late 28 = .ok (.iload_n 1, 1) := by decide +kernel
theorem dX11_late_29 : decode cX11_late 29 = .ok (.iaload, 1) := by decide +kernel
theorem dX11_late_30 : decode cX11_late 30 = .ok (.ireturn, 1) := by decide +kernel
theorem dX11_tryToday_0 : decode cX11_tryToday 0 = .ok (.aload_n 0, 1) := by decide +kernel
theorem dX11_tryToday_1 : decode cX11_tryToday 1 = .ok (.getfield 47, 3) := by decide +kernel
theorem dX11_tryToday_4 : decode cX11_tryToday 4 = .ok (.aload_n 0, 1) := by decide +kernel
theorem dX11_tryToday_5 : decode cX11_tryToday 5 = .ok (.getfield 36, 3) := by decide +kernel
theorem dX11_tryToday_8 : decode cX11_tryToday 8 = .ok (.invokevirtual 308, 3) := by decide +kernel
theorem dX11_tryToday_11 : decode cX11_tryToday 11 = .ok (.aload_n 0, 1) := by decide +kernel
theorem dX11_tryToday_12 : decode cX11_tryToday 12 = .ok (.getfield 53, 3) := by decide +kernel
theorem dX11_tryToday_15 : decode cX11_tryToday 15 = .ok (.aload_n 0, 1) := by decide +kernel
theorem dX11_tryToday_16 : decode cX11_tryToday 16 = .ok (.getfield 29, 3) := by decide +kernel
theorem dX11_tryToday_19 : decode cX11_tryToday 19 = .ok (.aload_n 0, 1) := by decide +kernel
theorem dX11_tryToday_20 : decode cX11_tryToday 20 = .ok (.getfield 47, 3) := by decide +kernel
theorem dX11_tryToday_23 : decode cX11_tryToday 23 = .ok (.aload_n 1, 1) := by decide +kernel
theorem dX11_tryToday_24 : decode cX11_tryToday 24 = .ok (.invokevirtual 245, 3) := by decide +kernel
theorem dX11_tryToday_27 : decode cX11_tryToday 27 = .ok (.return_, 1) := by decide +kernel
theorem dX11_catchUp_0 : decode cX11_catchUp 0 = .ok (.iload_n 1, 1) := by decide +kernel
theorem dX11_catchUp_1 : decode cX11_catchUp 1 = .ok (.iconst 1, 1) := by decide +kernel
theorem dX11_catchUp_2 : decode cX11_catchUp 2 = .ok (.if_icmp .lt 14, 3) := by decide +kernel
theorem dX11_catchUp_5 : decode cX11_catchUp 5 = .ok (.aload_n 0, 1) := by decide +kernel
theorem dX11_catchUp_6 : decode cX11_catchUp 6 = .ok (.getfield 29, 3) := by decide +kernel
theorem dX11_catchUp_9 : decode cX11_catchUp 9 = .ok (.iload_n 1, 1) := by decide +kernel
theorem dX11_catchUp_10 : decode cX11_catchUp 10 = .ok (.invokevirtual 177, 3) := by decide +kernel
theorem dX11_catchUp_13 : decode cX11_catchUp 13 = .ok (.ifCond .ne 5, 3) := by decide +kernel
theorem dX11_catchUp_16 : decode cX11_catchUp 16 = .ok (.iconst (-1), 1) := by decide +kernel
theorem dX11_catchUp_17 : decode cX11_catchUp 17 = .ok (.ireturn, 1) := by decide +kernel
theorem dX11_catchUp_18 : decode cX11_catchUp 18 = .ok (.iconst 0, 1) := by decide +kernel
theorem dX11_catchUp_19 : decode cX11_catchUp 19 = .ok (.istore_n 2, 1) := by decide +kernel
theorem dX11_catchUp_20 : decode cX11_catchUp 20 = .ok (.iload_n 2, 1) := by decide +kernel
theorem dX11_catchUp_21 : decode cX11_catchUp 21 = .ok (.iconst 3, 1) := by decide +kernel
theorem dX11_catchUp_22 : decode cX11_catchUp 22 = .ok (.if_icmp .gt 65, 3) := by decide +kernel
theorem dX11_catchUp_25 : decode cX11_catchUp 25 = .ok (.aload_n 0, 1) := by decide +kernel
theorem dX11_catchUp_26 : decode cX11_catchUp 26 = .ok (.getfield 47, 3) := by decide +kernel
theorem dX11_catchUp_29 : decode cX11_catchUp 29 = .ok (.aload_n 0, 1) := by decide +kernel
theorem dX11_catchUp_30 : decode cX11_catchUp 30 = .ok (.getfield 36, 3) := by decide +kernel
theorem dX11_catchUp_33 : decode cX11_catchUp 33 = .ok (.invokevirtual 308, 3) := by decide +kernel
theorem dX11_catchUp_36 : decode cX11_catchUp 36 = .ok (.aload_n 0, 1) := by decide +kernel
theorem dX11_catchUp_37 : decode cX11_catchUp 37 = .ok (.getfield 47, 3) := by decide +kernel
theorem dX11_catchUp_40 : decode cX11_catchUp 40 = .ok (.getfield 186, 3) := by decide +kernel
theorem dX11_catchUp_43 : decode cX11_catchUp 43 = .ok (.iload_n 1, 1) := by decide +kernel
theorem dX11_catchUp_44 : decode cX11_catchUp 44 = .ok (.iconst 1, 1) := by decide +kernel
theorem dX11_catchUp_45 : decode cX11_catchUp 45 = .ok (.isub, 1) := by decide +kernel
theorem dX11_catchUp_46 : decode cX11_catchUp 46 = .ok (.iload_n 2, 1) := by decide +kernel
theorem dX11_catchUp_47 : decode cX11_catchUp 47 = .ok (.iastore, 1) := by decide +kernel
theorem dX11_catchUp_48 : decode cX11_catchUp 48 = .ok (.aload_n 0, 1) := by decide +kernel
theorem dX11_catchUp_49 : decode cX11_catchUp 49 = .ok (.getfield 53, 3) := by decide +kernel
theorem dX11_catchUp_52 : decode cX11_catchUp 52 = .ok (.aload_n 0, 1) := by decide +kernel
theorem dX11_catchUp_53 : decode cX11_catchUp 53 = .ok (.getfield 29, 3) := by decide +kernel
theorem dX11_catchUp_56 : decode cX11_catchUp 56 = .ok (.aload_n 0, 1) := by decide +kernel
theorem dX11_catchUp_57 : decode cX11_catchUp 57 = .ok (.getfield 47, 3) := by decide +kernel
theorem dX11_catchUp_60 : decode cX11_catchUp 60 = .ok (.aload_n 0, 1) := by decide +kernel
theorem dX11_catchUp_61 : decode cX11_catchUp 61 = .ok (.getfield 60, 3) := by decide +kernel
theorem dX11_catchUp_64 : decode cX11_catchUp 64 = .ok (.invokevirtual 245, 3) := by decide +kernel
theorem dX11_catchUp_67 : decode cX11_catchUp 67 = .ok (.aload_n 0, 1) := by decide +kernel
theorem dX11_catchUp_68 : decode cX11_catchUp 68 = .ok (.getfield 47, 3) := by decide +kernel
theorem dX11_catchUp_71 : decode cX11_catchUp 71 = .ok (.getfield 202, 3) := by decide +kernel
theorem dX11_catchUp_74 : decode cX11_catchUp 74 = .ok (.iload_n 1, 1) := by decide +kernel
theorem dX11_catchUp_75 : decode cX11_catchUp 75 = .ok (.iaload, 1) := by decide +kernel
theorem dX11_catchUp_76 : decode cX11_catchUp 76 = .ok (.ifCond .ne 5, 3) := by decide +kernel
theorem dX11_catchUp_79 : decode cX11_catchUp 79 = .ok (.iload_n 2, 1) := by decide +kernel
theorem dX11_catchUp_80 : decode cX11_catchUp 80 = .ok (.ireturn, 1) := by decide +kernel
theorem dX11_catchUp_81 : decode cX11_catchUp 81 = .ok (.iinc 2 1, 3) := by decide +kernel
theorem dX11_catchUp_84 : decode cX11_catchUp 84 = .ok (.goto (-64), 3) := by decide +kernel
theorem dX11_catchUp_87 : decode cX11_catchUp 87 = .ok (.bipush (-2), 2) := by decide +kernel
theorem dX11_catchUp_89 : decode cX11_catchUp 89 = .ok (.ireturn, 1) := by decide +kernel
theorem dX11_hands_0 : decode cX11_hands 0 = .ok (.iconst 1, 1) := by decide +kernel
theorem dX11_hands_1 : decode cX11_hands 1 = .ok (.istore_n 1, 1) := by decide +kernel
theorem dX11_hands_2 : decode cX11_hands 2 = .ok (.iload_n 1, 1) := by decide +kernel
theorem dX11_hands_3 : decode cX11_hands 3 = .ok (.bipush 9, 2) := by decide +kernel
theorem dX11_hands_5 : decode cX11_hands 5 = .ok (.if_icmp .gt 51, 3) := by decide +kernel
theorem dX11_hands_8 : decode cX11_hands 8 = .ok (.aload_n 0, 1) := by decide +kernel
theorem dX11_hands_9 : decode cX11_hands 9 = .ok (.getfield 67, 3) := by decide +kernel
theorem dX11_hands_12 : decode cX11_hands 12 = .ok (.invokevirtual 312, 3) := by decide +kernel
theorem dX11_hands_15 : decode cX11_hands 15 = .ok (.aload_n 0, 1) := by decide +kernel
theorem dX11_hands_16 : decode cX11_hands 16 = .ok (.getfield 67, 3) := by decide +kernel
theorem dX11_hands_19 : decode cX11_hands 19 = .ok (.iload_n 1, 1) := by decide +kernel
theorem dX11_hands_20 : decode cX11_hands 20 = .ok (.putfield 315, 3) := by decide +kernel
theorem dX11_hands_23 : decode cX11_hands 23 = .ok (.aload_n 0, 1) := by decide +kernel
theorem dX11_hands_24 : decode cX11_hands 24 = .ok (.aload_n 0, 1) := by decide +kernel
theorem dX11_hands_25 : decode cX11_hands 25 = .ok (.getfield 67, 3) := by decide +kernel
theorem dX11_hands_28 : decode cX11_hands 28 = .ok (.invokevirtual 304, 3) := by decide +kernel
theorem dX11_hands_31 : decode cX11_hands 31 = .ok (.aload_n 0, 1) := by decide +kernel
theorem dX11_hands_32 : decode cX11_hands 32 = .ok (.getfield 47, 3) := by decide +kernel
theorem dX11_hands_35 : decode cX11_hands 35 = .ok (.aload_n 0, 1) := by decide +kernel
theorem dX11_hands_36 : decode cX11_hands 36 = .ok (.getfield 29, 3) := by decide +kernel
theorem dX11_hands_39 : decode cX11_hands 39 = .ok (.getfield 261, 3) := by decide +kernel
theorem dX11_hands_42 : decode cX11_hands 42 = .ok (.invokevirtual 318, 3) := by decide +kernel
theorem dX11_hands_45 : decode cX11_hands 45 = .ok (.ifCond .ne 5, 3) := by decide +kernel
theorem dX11_hands_48 : decode cX11_hands 48 = .ok (.iload_n 1, 1) := by decide +kernel
theorem dX11_hands_49 : decode cX11_hands 49 = .ok (.ireturn, 1) := by decide +kernel
theorem dX11_hands_50 : decode cX11_hands 50 = .ok (.iinc 1 1, 3) := by decide +kernel
theorem dX11_hands_53 : decode cX11_hands 53 = .ok (.goto (-51), 3) := by decide +kernel
theorem dX11_hands_56 : decode cX11_hands 56 = .ok (.bipush (-2), 2) := by decide +kernel
theorem dX11_hands_58 : decode cX11_hands 58 = .ok (.ireturn, 1) := by decide +kernel
theorem dX11_empties_0 : decode cX11_empties 0 = .ok (.aload_n 0, 1) := by decide +kernel
theorem dX11_empties_1 : decode cX11_empties 1 = .ok (.getfield 29, 3) := by decide +kernel
theorem dX11_empties_4 : decode cX11_empties 4 = .ok (.iload_n 1, 1) := by decide +kernel
theorem dX11_empties_5 : decode cX11_empties 5 = .ok (.invokevirtual 177, 3) := by decide +kernel
theorem dX11_empties_8 : decode cX11_empties 8 = .ok (.ifCond .ne 5, 3) := by decide +kernel
theorem dX11_empties_11 : decode cX11_empties 11 = .ok (.iconst (-1), 1) := by decide +kernel
theorem dX11_empties_12 : decode cX11_empties 12 = .ok (.ireturn, 1) := by decide +kernel
theorem dX11_empties_13 : decode cX11_empties 13 = .ok (.aload_n 0, 1) := by decide +kernel
theorem dX11_empties_14 : decode cX11_empties 14 = .ok (.aload_n 0, 1) := by decide +kernel
theorem dX11_empties_15 : decode cX11_empties 15 = .ok (.getfield 60, 3) := by decide +kernel
theorem dX11_empties_18 : decode cX11_empties 18 = .ok (.invokevirtual 304, 3) := by decide +kernel
theorem dX11_empties_21 : decode cX11_empties 21 = .ok (.aload_n 0, 1) := by decide +kernel
theorem dX11_empties_22 : decode cX11_empties 22 = .ok (.getfield 29, 3) := by decide +kernel
theorem dX11_empties_25 : decode cX11_empties 25 = .ok (.getfield 264, 3) := by decide +kernel
theorem dX11_empties_28 : decode cX11_empties 28 = .ok (.iconst 0, 1) := by decide +kernel
theorem dX11_empties_29 : decode cX11_empties 29 = .ok (.iaload, 1) := by decide +kernel
theorem dX11_empties_30 : decode cX11_empties 30 = .ok (.aload_n 0, 1) := by decide +kernel
theorem dX11_empties_31 : decode cX11_empties 31 = .ok (.getfield 47, 3) := by decide +kernel
theorem dX11_empties_34 : decode cX11_empties 34 = .ok (.getfield 205, 3) := by decide +kernel
theorem dX11_empties_37 : decode cX11_empties 37 = .ok (.iload_n 1, 1) := by decide +kernel
theorem dX11_empties_38 : decode cX11_empties 38 = .ok (.iaload, 1) := by decide +kernel
theorem dX11_empties_39 : decode cX11_empties 39 = .ok (.isub, 1) := by decide +kernel
theorem dX11_empties_40 : decode cX11_empties 40 = .ok (.ireturn, 1) := by decide +kernel
theorem dX11_likes_0 : decode cX11_likes 0 = .ok (.aload_n 0, 1) := by decide +kernel
theorem dX11_likes_1 : decode cX11_likes 1 = .ok (.iload_n 1, 1) := by decide +kernel
theorem dX11_likes_2 : decode cX11_likes 2 = .ok (.iload_n 2, 1) := by decide +kernel
theorem dX11_likes_3 : decode cX11_likes 3 = .ok (.invokevirtual 214, 3) := by decide +kernel
theorem dX11_likes_6 : decode cX11_likes 6 = .ok (.ifCond .eq 12, 3) := by decide +kernel
theorem dX11_likes_9 : decode cX11_likes 9 = .ok (.aload_n 0, 1) := by decide +kernel
theorem dX11_likes_10 : decode cX11_likes 10 = .ok (.iload_n 1, 1) := by decide +kernel
theorem dX11_likes_11 : decode cX11_likes 11 = .ok (.iload_n 2, 1) := by decide +kernel
theorem dX11_likes_12 : decode cX11_likes 12 = .ok (.invokevirtual 267, 3) := by decide +kernel
theorem dX11_likes_15 : decode cX11_likes 15 = .ok (.goto 4, 3) := by decide +kernel
theorem dX11_likes_18 : decode cX11_likes 18 = .ok (.iconst (-1), 1) := by decide +kernel
theorem dX11_likes_19 : decode cX11_likes 19 = .ok (.ireturn, 1) := by decide +kernel
theorem dX11_stays_0 : decode cX11_stays 0 = .ok (.aload_n 0, 1) := by decide +kernel
theorem dX11_stays_1 : decode cX11_stays 1 = .ok (.iload_n 1, 1) := by decide +kernel
theorem dX11_stays_2 : decode cX11_stays 2 = .ok (.iload_n 2, 1) := by decide +kernel
theorem dX11_stays_3 : decode cX11_stays 3 = .ok (.invokevirtual 214, 3) := by decide +kernel
theorem dX11_stays_6 : decode cX11_stays 6 = .ok (.ifCond .eq 25, 3) := by decide +kernel
theorem dX11_stays_9 : decode cX11_stays 9 = .ok (.iconst 1, 1) := by decide +kernel
theorem dX11_stays_10 : decode cX11_stays 10 = .ok (.aload_n 0, 1) := by decide +kernel
theorem dX11_stays_11 : decode cX11_stays 11 = .ok (.getfield 29, 3) := by decide +kernel
theorem dX11_stays_14 : decode cX11_stays 14 = .ok (.aload_n 0, 1) := by decide +kernel
theorem dX11_stays_15 : decode cX11_stays 15 = .ok (.getfield 36, 3) := by decide +kernel
theorem dX11_stays_18 : decode cX11_stays 18 = .ok (.aload_n 0, 1) := by decide +kernel
theorem dX11_stays_19 : decode cX11_stays 19 = .ok (.getfield 60, 3) := by decide +kernel
theorem dX11_stays_22 : decode cX11_stays 22 = .ok (.iload_n 1, 1) := by decide +kernel
theorem dX11_stays_23 : decode cX11_stays 23 = .ok (.iload_n 2, 1) := by decide +kernel
theorem dX11_stays_24 : decode cX11_stays 24 = .ok (.iconst 0, 1) := by decide +kernel
theorem dX11_stays_25 : decode cX11_stays 25 = .ok (.invokestatic 276, 3) := by decide +kernel
theorem dX11_stays_28 : decode cX11_stays 28 = .ok (.goto 4, 3) := by decide +kernel
theorem dX11_stays_31 : decode cX11_stays 31 = .ok (.iconst (-1), 1) := by decide +kernel
theorem dX11_stays_32 : decode cX11_stays 32 = .ok (.ireturn, 1) := by decide +kernel
theorem dX11_misses_0 : decode cX11_misses 0 = .ok (.aload_n 0, 1) := by decide +kernel
theorem dX11_misses_1 : decode cX11_misses 1 = .ok (.iload_n 1, 1) := by decide +kernel
theorem dX11_misses_2 : decode cX11_misses 2 = .ok (.iload_n 2, 1) := by decide +kernel
theorem dX11_misses_3 : decode cX11_misses 3 = .ok (.invokevirtual 214, 3) := by decide +kernel
theorem dX11_misses_6 : decode cX11_misses 6 = .ok (.ifCond .eq 25, 3) := by decide +kernel
theorem dX11_misses_9 : decode cX11_misses 9 = .ok (.iconst 2, 1) := by decide +kernel
theorem dX11_misses_10 : decode cX11_misses 10 = .ok (.aload_n 0, 1) := by decide +kernel
theorem dX11_misses_11 : decode cX11_misses 11 = .ok (.getfield 29, 3) := by decide +kernel
theorem dX11_misses_14 : decode cX11_misses 14 = .ok (.aload_n 0, 1) := by decide +kernel
theorem dX11_misses_15 : decode cX11_misses 15 = .ok (.getfield 36, 3) := by decide +kernel
theorem dX11_misses_18 : decode cX11_misses 18 = .ok (.aload_n 0, 1) := by decide +kernel
theorem dX11_misses_19 : decode cX11_misses 19 = .ok (.getfield 60, 3) := by decide +kernel
theorem dX11_misses_22 : decode cX11_misses 22 = .ok (.iload_n 1, 1) := by decide +kernel
theorem dX11_misses_23 : decode cX11_misses 23 = .ok (.iload_n 2, 1) := by decide +kernel
theorem dX11_misses_24 : decode cX11_misses 24 = .ok (.iconst 0, 1) := by decide +kernel
theorem dX11_misses_25 : decode cX11_misses 25 = .ok (.invokestatic 276, 3) := by decide +kernel
theorem dX11_misses_28 : decode cX11_misses 28 = .ok (.goto 4, 3) := by decide +kernel
theorem dX11_misses_31 : decode cX11_misses 31 = .ok (.iconst (-1), 1) := by decide +kernel
theorem dX11_misses_32 : decode cX11_misses 32 = .ok (.ireturn, 1) := by decide +kernel
theorem dX11_mostCross_0 : decode cX11_mostCross 0 = .ok (.iload_n 1, 1) := by decide +kernel
theorem dX11_mostCross_1 : decode cX11_mostCross 1 = .ok (.ifCond .lt 18, 3) := by decide +kernel
theorem dX11_mostCross_4 : decode cX11_mostCross 4 = .ok (.iload_n 1, 1) := by decide +kernel
theorem dX11_mostCross_5 : decode cX11_mostCross 5 = .ok (.iconst 1, 1) := by decide +kernel
theorem dX11_mostCross_6 : decode cX11_mostCross 6 = .ok (.if_icmp .gt 13, 3) := by decide +kernel
theorem dX11_mostCross_9 : decode cX11_mostCross 9 = .ok (.aload_n 0, 1) := by decide +kernel
theorem dX11_mostCross_10 : decode cX11_mostCross 10 = .ok (.getfield 29, 3) := by decide +kernel
theorem dX11_mostCross_13 : decode cX11_mostCross 13 = .ok (.getfield 258, 3) := by decide +kernel
theorem dX11_mostCross_16 : decode cX11_mostCross 16 = .ok (.ifCond .ne 5, 3) := by decide +kernel
theorem dX11_mostCross_19 : decode cX11_mostCross 19 = .ok (.iconst (-1), 1) := by decide +kernel
theorem dX11_mostCross_20 : decode cX11_mostCross 20 = .ok (.ireturn, 1) := by decide +kernel
theorem dX11_mostCross_21 : decode cX11_mostCross 21 = .ok (.iconst 0, 1) := by decide +kernel
theorem dX11_mostCross_22 : decode cX11_mostCross 22 = .ok (.istore_n 2, 1) := by decide +kernel
theorem dX11_mostCross_23 : decode cX11_mostCross 23 = .ok (.iconst 1, 1) := by decide +kernel
theorem dX11_mostCross_24 : decode cX11_mostCross 24 = .ok (.istore_n 3, 1) := by decide +kernel
theorem dX11_mostCross_25 : decode cX11_mostCross 25 = .ok (.iload_n 3, 1) := by decide +kernel
theorem dX11_mostCross_26 : decode cX11_mostCross 26 = .ok (.aload_n 0, 1) := by decide +kernel
theorem dX11_mostCross_27 : decode cX11_mostCross 27 = .ok (.getfield 29, 3) := by decide +kernel
theorem dX11_mostCross_30 : decode cX11_mostCross 30 = .ok (.getfield 258, 3) := by decide +kernel
theorem dX11_mostCross_33 : decode cX11_mostCross 33 = .ok (.if_icmp .ge 32, 3) := by decide +kernel
theorem dX11_mostCross_36 : decode cX11_mostCross 36 = .ok (.aload_n 0, 1) := by decide +kernel
theorem dX11_mostCross_37 : decode cX11_mostCross 37 = .ok (.getfield 36, 3) := by decide +kernel
theorem dX11_mostCross_40 : decode cX11_mostCross 40 = .ok (.getfield 163, 3) := by decide +kernel
theorem dX11_mostCross_43 : decode cX11_mostCross 43 = .ok (.iload_n 3, 1) := by decide +kernel
theorem dX11_mostCross_44 : decode cX11_mostCross 44 = .ok (.iaload, 1) := by decide +kernel
theorem dX11_mostCross_45 : decode cX11_mostCross 45 = .ok (.aload_n 0, 1) := by decide +kernel
theorem dX11_mostCross_46 : decode cX11_mostCross 46 = .ok (.getfield 36, 3) := by decide +kernel
theorem dX11_mostCross_49 : decode cX11_mostCross 49 = .ok (.getfield 163, 3) := by decide +kernel
theorem dX11_mostCross_52 : decode cX11_mostCross 52 = .ok (.iload_n 2, 1) := by decide +kernel
theorem dX11_mostCross_53 : decode cX11_mostCross 53 = .ok (.iaload, 1) := by decide +kernel
theorem dX11_mostCross_54 : decode cX11_mostCross 54 = .ok (.if_icmp .le 5, 3) := by decide +kernel
theorem dX11_mostCross_57 : decode cX11_mostCross 57 = .ok (.iload_n 3, 1) := by decide +kernel
theorem dX11_mostCross_58 : decode cX11_mostCross 58 = .ok (.istore_n 2, 1) := by decide +kernel
theorem dX11_mostCross_59 : decode cX11_mostCross 59 = .ok (.iinc 3 1, 3) := by decide +kernel
theorem dX11_mostCross_62 : decode cX11_mostCross 62 = .ok (.goto (-37), 3) := by decide +kernel
theorem dX11_mostCross_65 : decode cX11_mostCross 65 = .ok (.iload_n 1, 1) := by decide +kernel
theorem dX11_mostCross_66 : decode cX11_mostCross 66 = .ok (.ifCond .ne 7, 3) := by decide +kernel
theorem dX11_mostCross_69 : decode cX11_mostCross 69 = .ok (.iload_n 2, 1) := by decide +kernel
theorem dX11_mostCross_70 : decode cX11_mostCross 70 = .ok (.goto 12, 3) := by decide +kernel
theorem dX11_mostCross_73 : decode cX11_mostCross 73 = .ok (.aload_n 0, 1) := by decide +kernel
theorem dX11_mostCross_74 : decode cX11_mostCross 74 = .ok (.getfield 36, 3) := by decide +kernel
theorem dX11_mostCross_77 : decode cX11_mostCross 77 = .ok (.getfield 163, 3) := by decide +kernel
theorem dX11_mostCross_80 : decode cX11_mostCross 80 = .ok (.iload_n 2, 1) := by decide +kernel
theorem dX11_mostCross_81 : decode cX11_mostCross 81 = .ok (.iaload, 1) := by decide +kernel
theorem dX11_mostCross_82 : decode cX11_mostCross 82 = .ok (.ireturn, 1) := by decide +kernel
theorem dX11_without_0 : decode cX11_without 0 = .ok (.aload_n 0, 1) := by decide +kernel
theorem dX11_without_1 : decode cX11_without 1 = .ok (.getfield 36, 3) := by decide +kernel
theorem dX11_without_4 : decode cX11_without 4 = .ok (.iconst (-1), 1) := by decide +kernel
theorem dX11_without_5 : decode cX11_without 5 = .ok (.aload_n 0, 1) := by decide +kernel
theorem dX11_without_6 : decode cX11_without 6 = .ok (.getfield 29, 3) := by decide +kernel
theorem dX11_without_9 : decode cX11_without 9 = .ok (.invokevirtual 189, 3) := by decide +kernel
theorem dX11_without_12 : decode cX11_without 12 = .ok (.ireturn, 1) := by decide +kernel
theorem dX11_swap_0 : decode cX11_swap 0 = .ok (.iload_n 1, 1) := by decide +kernel
theorem dX11_swap_1 : decode cX11_swap 1 = .ok (.ifCond .lt 8, 3) := by decide +kernel
theorem dX11_swap_4 : decode cX11_swap 4 = .ok (.iload_n 1, 1) := by decide +kernel
theorem dX11_swap_5 : decode cX11_swap 5 = .ok (.iconst 1, 1) := by decide +kernel
theorem dX11_swap_6 : decode cX11_swap 6 = .ok (.if_icmp .le 5, 3) := by decide +kernel
theorem dX11_swap_9 : decode cX11_swap 9 = .ok (.iconst (-1), 1) := by decide +kernel
theorem dX11_swap_10 : decode cX11_swap 10 = .ok (.ireturn, 1) := by decide +kernel
theorem dX11_swap_11 : decode cX11_swap 11 = .ok (.iconst 0, 1) := by decide +kernel
theorem dX11_swap_12 : decode cX11_swap 12 = .ok (.istore_n 2, 1) := by decide +kernel
theorem dX11_swap_13 : decode cX11_swap 13 = .ok (.iload_n 2, 1) := by decide +kernel
theorem dX11_swap_14 : decode cX11_swap 14 = .ok (.aload_n 0, 1) := by decide +kernel
theorem dX11_swap_15 : decode cX11_swap 15 = .ok (.getfield 29, 3) := by decide +kernel
theorem dX11_swap_18 : decode cX11_swap 18 = .ok (.getfield 258, 3) := by decide +kernel
theorem dX11_swap_21 : decode cX11_swap 21 = .ok (.if_icmp .ge 49, 3) := by decide +kernel
theorem dX11_swap_24 : decode cX11_swap 24 = .ok (.iload_n 2, 1) := by decide +kernel
theorem dX11_swap_25 : decode cX11_swap 25 = .ok (.iconst 1, 1) := by decide +kernel
theorem dX11_swap_26 : decode cX11_swap 26 = .ok (.iadd, 1) := by decide +kernel
theorem dX11_swap_27 : decode cX11_swap 27 = .ok (.istore_n 3, 1) := by decide +kernel
theorem dX11_swap_28 : decode cX11_swap 28 = .ok (.iload_n 3, 1) := by decide +kernel
theorem dX11_swap_29 : decode cX11_swap 29 = .ok (.aload_n 0, 1) := by decide +kernel
theorem dX11_swap_30 : decode cX11_swap 30 = .ok (.getfield 29, 3) := by decide +kernel
theorem dX11_swap_33 : decode cX11_swap 33 = .ok (.getfield 258, 3) := by decide +kernel
theorem dX11_swap_36 : decode cX11_swap 36 = .ok (.if_icmp .ge 28, 3) := by decide +kernel
theorem dX11_swap_39 : decode cX11_swap 39 = .ok (.aload_n 0, 1) := by decide +kernel
theorem dX11_swap_40 : decode cX11_swap 40 = .ok (.iload_n 2, 1) := by decide +kernel
theorem dX11_swap_41 : decode cX11_swap 41 = .ok (.iload_n 3, 1) := by decide +kernel
theorem dX11_swap_42 : decode cX11_swap 42 = .ok (.invokevirtual 321, 3) := by decide +kernel
theorem dX11_swap_45 : decode cX11_swap 45 = .ok (.ifCond .eq 13, 3) := by decide +kernel
theorem dX11_swap_48 : decode cX11_swap 48 = .ok (.iload_n 1, 1) := by decide +kernel
theorem dX11_swap_49 : decode cX11_swap 49 = .ok (.ifCond .ne 7, 3) := by decide +kernel
theorem dX11_swap_52 : decode cX11_swap 52 = .ok (.iload_n 2, 1) := by decide +kernel
theorem dX11_swap_53 : decode cX11_swap 53 = .ok (.goto 4, 3) := by decide +kernel
theorem dX11_swap_56 : decode cX11_swap 56 = .ok (.iload_n 3, 1) := by decide +kernel
theorem dX11_swap_57 : decode cX11_swap 57 = .ok (.ireturn, 1) := by decide +kernel
theorem dX11_swap_58 : decode cX11_swap 58 = .ok (.iinc 3 1, 3) := by decide +kernel
theorem dX11_swap_61 : decode cX11_swap 61 = .ok (.goto (-33), 3) := by decide +kernel
theorem dX11_swap_64 : decode cX11_swap 64 = .ok (.iinc 2 1, 3) := by decide +kernel
theorem dX11_swap_67 : decode cX11_swap 67 = .ok (.goto (-54), 3) := by decide +kernel
theorem dX11_swap_70 : decode cX11_swap 70 = .ok (.bipush (-2), 2) := by decide +kernel
theorem dX11_swap_72 : decode cX11_swap 72 = .ok (.ireturn, 1) := by decide +kernel
theorem dX11_wouldSwap_0 : decode cX11_wouldSwap 0 = .ok (.aload_n 0, 1) := by decide +kernel
theorem dX11_wouldSwap_1 : decode cX11_wouldSwap 1 = .ok (.getfield 29, 3) := by decide +kernel
theorem dX11_wouldSwap_4 : decode cX11_wouldSwap 4 = .ok (.iload_n 1, 1) := by decide +kernel
theorem dX11_wouldSwap_5 : decode cX11_wouldSwap 5 = .ok (.invokevirtual 141, 3) := by decide +kernel
theorem dX11_wouldSwap_8 : decode cX11_wouldSwap 8 = .ok (.ifCond .eq 14, 3) := by decide +kernel
theorem dX11_wouldSwap_11 : decode cX11_wouldSwap 11 = .ok (.aload_n 0, 1) := by decide +kernel
theorem dX11_wouldSwap_12 : decode cX11_wouldSwap 12 = .ok (.getfield 29, 3) := by decide +kernel
theorem dX11_wouldSwap_15 : decode cX11_wouldSwap 15 = .ok (.iload_n 2, 1) := by decide +kernel
theorem dX11_wouldSwap_16 : decode cX11_wouldSwap 16 = .ok (.invokevirtual 141, 3) := by decide +kernel
theorem dX11_wouldSwap_19 : decode cX11_wouldSwap 19 = .ok (.ifCond .ne 5, 3) := by decide +kernel
theorem dX11_wouldSwap_22 : decode cX11_wouldSwap 22 = .ok (.iconst 0, 1) := by decide +kernel
theorem dX11_wouldSwap_23 : decode cX11_wouldSwap 23 = .ok (.ireturn, 1) := by decide +kernel
theorem dX11_wouldSwap_24 : decode cX11_wouldSwap 24 = .ok (.aload_n 0, 1) := by decide +kernel
theorem dX11_wouldSwap_25 : decode cX11_wouldSwap 25 = .ok (.getfield 36, 3) := by decide +kernel
theorem dX11_wouldSwap_28 : decode cX11_wouldSwap 28 = .ok (.getfield 156, 3) := by decide +kernel
theorem dX11_wouldSwap_31 : decode cX11_wouldSwap 31 = .ok (.iload_n 1, 1) := by decide +kernel
theorem dX11_wouldSwap_32 : decode cX11_wouldSwap 32 = .ok (.iaload, 1) := by decide +kernel
theorem dX11_wouldSwap_33 : decode cX11_wouldSwap 33 = .ok (.istore_n 3, 1) := by decide +kernel
theorem dX11_wouldSwap_34 : decode cX11_wouldSwap 34 = .ok (.aload_n 0, 1) := by decide +kernel
theorem dX11_wouldSwap_35 : decode cX11_wouldSwap 35 = .ok (.getfield 36, 3) := by decide +kernel
theorem dX11_wouldSwap_38 : decode cX11_wouldSwap 38 = .ok (.getfield 156, 3) := by decide +kernel
theorem dX11_wouldSwap_41 : decode cX11_wouldSwap 41 = .ok (.iload_n 2, 1) := by decide +kernel
theorem dX11_wouldSwap_42 : decode cX11_wouldSwap 42 = .ok (.iaload, 1) := by decide +kernel
theorem dX11_wouldSwap_43 : decode cX11_wouldSwap 43 = .ok (.istore 4, 2) := by decide +kernel
theorem dX11_wouldSwap_45 : decode cX11_wouldSwap 45 = .ok (.iload_n 3, 1) := by decide +kernel
theorem dX11_wouldSwap_46 : decode cX11_wouldSwap 46 = .ok (.iconst (-1), 1) := by decide +kernel
theorem dX11_wouldSwap_47 : decode cX11_wouldSwap 47 = .ok (.if_icmp .eq 15, 3) := by decide +kernel
theorem dX11_wouldSwap_50 : decode cX11_wouldSwap 50 = .ok (.iload 4, 2) := by decide +kernel
theorem dX11_wouldSwap_52 : decode cX11_wouldSwap 52 = .ok (.iconst (-1), 1) := by decide +kernel
theorem dX11_wouldSwap_53 : decode cX11_wouldSwap 53 = .ok (.if_icmp .eq 9, 3) := by decide +kernel
theorem dX11_wouldSwap_56 : decode cX11_wouldSwap 56 = .ok (.iload_n 3, 1) := by decide +kernel
theorem dX11_wouldSwap_57 : decode cX11_wouldSwap 57 = .ok (.iload 4, 2) := by decide +kernel
theorem dX11_wouldSwap_59 : decode cX11_wouldSwap 59 = .ok (.if_icmp .ne 5, 3) := by decide +kernel
theorem dX11_wouldSwap_62 : decode cX11_wouldSwap 62 = .ok (.iconst 0, 1) := by decide +kernel
theorem dX11_wouldSwap_63 : decode cX11_wouldSwap 63 = .ok (.ireturn, 1) := by decide +kernel
theorem dX11_wouldSwap_64 : decode cX11_wouldSwap 64 = .ok (.aload_n 0, 1) := by decide +kernel
theorem dX11_wouldSwap_65 : decode cX11_wouldSwap 65 = .ok (.iload_n 1, 1) := by decide +kernel
theorem dX11_wouldSwap_66 : decode cX11_wouldSwap 66 = .ok (.iload 4, 2) := by decide +kernel
theorem dX11_wouldSwap_68 : decode cX11_wouldSwap 68 = .ok (.invokevirtual 267, 3) := by decide +kernel
theorem dX11_wouldSwap_71 : decode cX11_wouldSwap 71 = .ok (.aload_n 0, 1) := by decide +kernel
theorem dX11_wouldSwap_72 : decode cX11_wouldSwap 72 = .ok (.iload_n 1, 1) := by decide +kernel
theorem dX11_wouldSwap_73 : decode cX11_wouldSwap 73 = .ok (.iload_n 3, 1) := by decide +kernel
theorem dX11_wouldSwap_74 : decode cX11_wouldSwap 74 = .ok (.invokevirtual 267, 3) := by decide +kernel
theorem dX11_wouldSwap_77 : decode cX11_wouldSwap 77 = .ok (.if_icmp .le 19, 3) := by decide +kernel
theorem dX11_wouldSwap_80 : decode cX11_wouldSwap 80 = .ok (.aload_n 0, 1) := by decide +kernel
theorem dX11_wouldSwap_81 : decode cX11_wouldSwap 81 = .ok (.iload_n 2, 1) := by decide +kernel
theorem dX11_wouldSwap_82 : decode cX11_wouldSwap 82 = .ok (.iload_n 3, 1) := by decide +kernel
theorem dX11_wouldSwap_83 : decode cX11_wouldSwap 83 = .ok (.invokevirtual 267, 3) := by decide +kernel
theorem dX11_wouldSwap_86 : decode cX11_wouldSwap 86 = .ok (.aload_n 0, 1) := by decide +kernel
theorem dX11_wouldSwap_87 : decode cX11_wouldSwap 87 = .ok (.iload_n 2, 1) := by decide +kernel
theorem dX11_wouldSwap_88 : decode cX11_wouldSwap 88 = .ok (.iload 4, 2) := by decide +kernel
theorem dX11_wouldSwap_90 : decode cX11_wouldSwap 90 = .ok (.invokevirtual 267, 3) := by decide +kernel
theorem dX11_wouldSwap_93 : decode cX11_wouldSwap 93 = .ok (.if_icmp .gt 5, 3) := by decide +kernel
theorem dX11_wouldSwap_96 : decode cX11_wouldSwap 96 = .ok (.iconst 0, 1) := by decide +kernel
theorem dX11_wouldSwap_97 : decode cX11_wouldSwap 97 = .ok (.ireturn, 1) := by decide +kernel
theorem dX11_wouldSwap_98 : decode cX11_wouldSwap 98 = .ok (.aload_n 0, 1) := by decide +kernel
theorem dX11_wouldSwap_99 : decode cX11_wouldSwap 99 = .ok (.getfield 29, 3) := by decide +kernel
theorem dX11_wouldSwap_102 : decode cX11_wouldSwap 102 = .ok (.iload_n 2, 1) := by decide +kernel
theorem dX11_wouldSwap_103 : decode cX11_wouldSwap 103 = .ok (.iconst 0, 1) := by decide +kernel
theorem dX11_wouldSwap_104 : decode cX11_wouldSwap 104 = .ok (.invokevirtual 152, 3) := by decide +kernel
theorem dX11_wouldSwap_107 : decode cX11_wouldSwap 107 = .ok (.aload_n 0, 1) := by decide +kernel
theorem dX11_wouldSwap_108 : decode cX11_wouldSwap 108 = .ok (.getfield 29, 3) := by decide +kernel
theorem dX11_wouldSwap_111 : decode cX11_wouldSwap 111 = .ok (.iload_n 1, 1) := by decide +kernel
theorem dX11_wouldSwap_112 : decode cX11_wouldSwap 112 = .ok (.iconst 0, 1) := by decide +kernel
theorem dX11_wouldSwap_113 : decode cX11_wouldSwap 113 = .ok (.invokevirtual 152, 3) := by decide +kernel
theorem dX11_wouldSwap_116 : decode cX11_wouldSwap 116 = .ok (.isub, 1) := by decide +kernel
theorem dX11_wouldSwap_117 : decode cX11_wouldSwap 117 = .ok (.istore 5, 2) := by decide +kernel
theorem dX11_wouldSwap_119 : decode cX11_wouldSwap 119 = .ok (.aload_n 0, 1) := by decide +kernel
theorem dX11_wouldSwap_120 : decode cX11_wouldSwap 120 = .ok (.getfield 36, 3) := by decide +kernel
theorem dX11_wouldSwap_123 : decode cX11_wouldSwap 123 = .ok (.iload_n 3, 1) := by decide +kernel
theorem dX11_wouldSwap_124 : decode cX11_wouldSwap 124 = .ok (.aload_n 0, 1) := by decide +kernel
theorem dX11_wouldSwap_125 : decode cX11_wouldSwap 125 = .ok (.getfield 29, 3) := by decide +kernel
theorem dX11_wouldSwap_128 : decode cX11_wouldSwap 128 = .ok (.invokevirtual 189, 3) := by decide +kernel
theorem dX11_wouldSwap_131 : decode cX11_wouldSwap 131 = .ok (.iload 5, 2) := by decide +kernel
theorem dX11_wouldSwap_133 : decode cX11_wouldSwap 133 = .ok (.iadd, 1) := by decide +kernel
theorem dX11_wouldSwap_134 : decode cX11_wouldSwap 134 = .ok (.aload_n 0, 1) := by decide +kernel
theorem dX11_wouldSwap_135 : decode cX11_wouldSwap 135 = .ok (.getfield 29, 3) := by decide +kernel
theorem dX11_wouldSwap_138 : decode cX11_wouldSwap 138 = .ok (.invokevirtual 234, 3) := by decide +kernel
theorem dX11_wouldSwap_141 : decode cX11_wouldSwap 141 = .ok (.if_icmp .gt 33, 3) := by decide +kernel
theorem dX11_wouldSwap_144 : decode cX11_wouldSwap 144 = .ok (.aload_n 0, 1) := by decide +kernel
theorem dX11_wouldSwap_145 : decode cX11_wouldSwap 145 = .ok (.getfield 36, 3) := by decide +kernel
theorem dX11_wouldSwap_148 : decode cX11_wouldSwap 148 = .ok (.iload 4, 2) := by decide +kernel
theorem dX11_wouldSwap_150 : decode cX11_wouldSwap 150 = .ok (.aload_n 0, 1) := by decide +kernel
theorem dX11_wouldSwap_151 : decode cX11_wouldSwap 151 = .ok (.getfield 29, 3) := by decide +kernel
theorem dX11_wouldSwap_154 : decode cX11_wouldSwap 154 = .ok (.invokevirtual 189, 3) := by decide +kernel
theorem dX11_wouldSwap_157 : decode cX11_wouldSwap 157 = .ok (.iload 5, 2) := by decide +kernel
theorem dX11_wouldSwap_159 : decode cX11_wouldSwap 159 = .ok (.isub, 1) := by decide +kernel
theorem dX11_wouldSwap_160 : decode cX11_wouldSwap 160 = .ok (.aload_n 0, 1) := by decide +kernel
theorem dX11_wouldSwap_161 : decode cX11_wouldSwap 161 = .ok (.getfield 29, 3) := by decide +kernel
theorem dX11_wouldSwap_164 : decode cX11_wouldSwap 164 = .ok (.invokevirtual 234, 3) := by decide +kernel
theorem dX11_wouldSwap_167 : decode cX11_wouldSwap 167 = .ok (.if_icmp .gt 7, 3) := by decide +kernel
theorem dX11_wouldSwap_170 : decode cX11_wouldSwap 170 = .ok (.iconst 1, 1) := by decide +kernel
theorem dX11_wouldSwap_171 : decode cX11_wouldSwap 171 = .ok (.goto 4, 3) := by decide +kernel
theorem dX11_wouldSwap_174 : decode cX11_wouldSwap 174 = .ok (.iconst 0, 1) := by decide +kernel
theorem dX11_wouldSwap_175 : decode cX11_wouldSwap 175 = .ok (.ireturn, 1) := by decide +kernel
theorem dX11_later_0 : decode cX11_later 0 = .ok (.aload_n 0, 1) := by decide +kernel
theorem dX11_later_1 : decode cX11_later 1 = .ok (.getfield 29, 3) := by decide +kernel
theorem dX11_later_4 : decode cX11_later 4 = .ok (.iload_n 1, 1) := by decide +kernel
theorem dX11_later_5 : decode cX11_later 5 = .ok (.invokevirtual 177, 3) := by decide +kernel
theorem dX11_later_8 : decode cX11_later 8 = .ok (.ifCond .ne 5, 3) := by decide +kernel
theorem dX11_later_11 : decode cX11_later 11 = .ok (.iconst (-1), 1) := by decide +kernel
theorem dX11_later_12 : decode cX11_later 12 = .ok (.ireturn, 1) := by decide +kernel
theorem dX11_later_13 : decode cX11_later 13 = .ok (.aload_n 0, 1) := by decide +kernel
theorem dX11_later_14 : decode cX11_later 14 = .ok (.getfield 67, 3) := by decide +kernel
theorem dX11_later_17 : decode cX11_later 17 = .ok (.invokevirtual 312, 3) := by decide +kernel
theorem dX11_later_20 : decode cX11_later 20 = .ok (.iconst 1, 1) := by decide +kernel
theorem dX11_later_21 : decode cX11_later 21 = .ok (.istore_n 2, 1) := by decide +kernel
theorem dX11_later_22 : decode cX11_later 22 = .ok (.iload_n 2, 1) := by decide +kernel
theorem dX11_later_23 : decode cX11_later 23 = .ok (.iload_n 1, 1) := by decide +kernel
theorem dX11_later_24 : decode cX11_later 24 = .ok (.if_icmp .gt 35, 3) := by decide +kernel
theorem dX11_later_27 : decode cX11_later 27 = .ok (.aload_n 0, 1) := by decide +kernel
theorem dX11_later_28 : decode cX11_later 28 = .ok (.aload_n 0, 1) := by decide +kernel
theorem dX11_later_29 : decode cX11_later 29 = .ok (.getfield 67, 3) := by decide +kernel
theorem dX11_later_32 : decode cX11_later 32 = .ok (.invokevirtual 304, 3) := by decide +kernel
theorem dX11_later_35 : decode cX11_later 35 = .ok (.aload_n 0, 1) := by decide +kernel
theorem dX11_later_36 : decode cX11_later 36 = .ok (.getfield 67, 3) := by decide +kernel
theorem dX11_later_39 : decode cX11_later 39 = .ok (.getfield 324, 3) := by decide +kernel
theorem dX11_later_42 : decode cX11_later 42 = .ok (.iload_n 2, 1) := by decide +kernel
theorem dX11_later_43 : decode cX11_later 43 = .ok (.aload_n 0, 1) := by decide +kernel
theorem dX11_later_44 : decode cX11_later 44 = .ok (.getfield 47, 3) := by decide +kernel
theorem dX11_later_47 : decode cX11_later 47 = .ok (.getfield 202, 3) := by decide +kernel
theorem dX11_later_50 : decode cX11_later 50 = .ok (.iload_n 2, 1) := by decide +kernel
theorem dX11_later_51 : decode cX11_later 51 = .ok (.iaload, 1) := by decide +kernel
theorem dX11_later_52 : decode cX11_later 52 = .ok (.iastore, 1) := by decide +kernel
theorem dX11_later_53 : decode cX11_later 53 = .ok (.iinc 2 1, 3) := by decide +kernel
theorem dX11_later_56 : decode cX11_later 56 = .ok (.goto (-34), 3) := by decide +kernel
theorem dX11_later_59 : decode cX11_later 59 = .ok (.aload_n 0, 1) := by decide +kernel
theorem dX11_later_60 : decode cX11_later 60 = .ok (.getfield 67, 3) := by decide +kernel
theorem dX11_later_63 : decode cX11_later 63 = .ok (.getfield 324, 3) := by decide +kernel
theorem dX11_later_66 : decode cX11_later 66 = .ok (.iload_n 1, 1) := by decide +kernel
theorem dX11_later_67 : decode cX11_later 67 = .ok (.iaload, 1) := by decide +kernel
theorem dX11_later_68 : decode cX11_later 68 = .ok (.ireturn, 1) := by decide +kernel
theorem dX11_rests_0 : decode cX11_rests 0 = .ok (.aload_n 0, 1) := by decide +kernel
theorem dX11_rests_1 : decode cX11_rests 1 = .ok (.iload_n 1, 1) := by decide +kernel
theorem dX11_rests_2 : decode cX11_rests 2 = .ok (.iload_n 2, 1) := by decide +kernel
theorem dX11_rests_3 : decode cX11_rests 3 = .ok (.invokevirtual 327, 3) := by decide +kernel
theorem dX11_rests_6 : decode cX11_rests 6 = .ok (.ifCond .ne 5, 3) := by decide +kernel
theorem dX11_rests_9 : decode cX11_rests 9 = .ok (.iconst (-1), 1) := by decide +kernel
theorem dX11_rests_10 : decode cX11_rests 10 = .ok (.ireturn, 1) := by decide +kernel
theorem dX11_rests_11 : decode cX11_rests 11 = .ok (.iconst 0, 1) := by decide +kernel
theorem dX11_rests_12 : decode cX11_rests 12 = .ok (.istore_n 3, 1) := by decide +kernel
theorem dX11_rests_13 : decode cX11_rests 13 = .ok (.iconst 0, 1) := by decide +kernel
theorem dX11_rests_14 : decode cX11_rests 14 = .ok (.istore 4, 2) := by decide +kernel
theorem dX11_rests_16 : decode cX11_rests 16 = .ok (.iload 4, 2) := by decide +kernel
theorem dX11_rests_18 : decode cX11_rests 18 = .ok (.iconst 4, 1) := by decide +kernel
theorem dX11_rests_19 : decode cX11_rests 19 = .ok (.if_icmp .ge 44, 3) := by decide +kernel
theorem dX11_rests_22 : decode cX11_rests 22 = .ok (.aload_n 0, 1) := by decide +kernel
theorem dX11_rests_23 : decode cX11_rests 23 = .ok (.getfield 29, 3) := by decide +kernel
theorem dX11_rests_26 : decode cX11_rests 26 = .ok (.iload_n 1, 1) := by decide +kernel
theorem dX11_rests_27 : decode cX11_rests 27 = .ok (.iconst 5, 1) := by decide +kernel
theorem dX11_rests_28 : decode cX11_rests 28 = .ok (.invokevirtual 152, 3) := by decide +kernel
theorem dX11_rests_31 : decode cX11_rests 31 = .ok (.aload_n 0, 1) := by decide +kernel
theorem dX11_rests_32 : decode cX11_rests 32 = .ok (.getfield 29, 3) := by decide +kernel
theorem dX11_rests_35 : decode cX11_rests 35 = .ok (.iload_n 2, 1) := by decide +kernel
theorem dX11_rests_36 : decode cX11_rests 36 = .ok (.iconst 5, 1) := by decide +kernel
theorem dX11_rests_37 : decode cX11_rests 37 = .ok (.invokevirtual 152, 3) := by decide +kernel
theorem dX11_rests_40 : decode cX11_rests 40 = .ok (.iload 4, 2) := by decide +kernel
theorem dX11_rests_42 : decode cX11_rests 42 = .ok (.iconst 1, 1) := by decide +kernel
theorem dX11_rests_43 : decode cX11_rests 43 = .ok (.ishr, 1) := by decide +kernel
theorem dX11_rests_44 : decode cX11_rests 44 = .ok (.iload 4, 2) := by decide +kernel
theorem dX11_rests_46 : decode cX11_rests 46 = .ok (.iconst 1, 1) := by decide +kernel
theorem dX11_rests_47 : decode cX11_rests 47 = .ok (.iand, 1) := by decide +kernel
theorem dX11_rests_48 : decode cX11_rests 48 = .ok (.invokestatic 330, 3) := by decide +kernel
theorem dX11_rests_51 : decode cX11_rests 51 = .ok (.ifCond .eq 6, 3) := by decide +kernel
theorem dX11_rests_54 : decode cX11_rests 54 = .ok (.iinc 3 1, 3) := by decide +kernel
theorem dX11_rests_57 : decode cX11_rests 57 = .ok (.iinc 4 1, 3) := by decide +kernel
theorem dX11_rests_60 : decode cX11_rests 60 = .ok (.goto (-44), 3) := by decide +kernel
theorem dX11_rests_63 : decode cX11_rests 63 = .ok (.iload_n 3, 1) := by decide +kernel
theorem dX11_rests_64 : decode cX11_rests 64 = .ok (.ireturn, 1) := by decide +kernel
theorem dX11_rest_0 : decode cX11_rest 0 = .ok (.aload_n 0, 1) := by decide +kernel
theorem dX11_rest_1 : decode cX11_rest 1 = .ok (.iload_n 1, 1) := by decide +kernel
theorem dX11_rest_2 : decode cX11_rest 2 = .ok (.iload_n 2, 1) := by decide +kernel
theorem dX11_rest_3 : decode cX11_rest 3 = .ok (.invokevirtual 327, 3) := by decide +kernel
theorem dX11_rest_6 : decode cX11_rest 6 = .ok (.ifCond .eq 7, 3) := by decide +kernel
theorem dX11_rest_9 : decode cX11_rest 9 = .ok (.iload_n 3, 1) := by decide +kernel
theorem dX11_rest_10 : decode cX11_rest 10 = .ok (.ifCond .ge 5, 3) := by decide +kernel
theorem dX11_rest_13 : decode cX11_rest 13 = .ok (.iconst (-1), 1) := by decide +kernel
theorem dX11_rest_14 : decode cX11_rest 14 = .ok (.ireturn, 1) := by decide +kernel
theorem dX11_rest_15 : decode cX11_rest 15 = .ok (.iload_n 3, 1) := by decide +kernel
theorem dX11_rest_16 : decode cX11_rest 16 = .ok (.istore 4, 2) := by decide +kernel
theorem dX11_rest_18 : decode cX11_rest 18 = .ok (.iconst 0, 1) := by decide +kernel
theorem dX11_rest_19 : decode cX11_rest 19 = .ok (.istore 5, 2) := by decide +kernel
theorem dX11_rest_21 : decode cX11_rest 21 = .ok (.iload 5, 2) := by decide +kernel
theorem dX11_rest_23 : decode cX11_rest 23 = .ok (.iconst 4, 1) := by decide +kernel
theorem dX11_rest_24 : decode cX11_rest 24 = .ok (.if_icmp .ge 62, 3) := by decide +kernel
theorem dX11_rest_27 : decode cX11_rest 27 = .ok (.aload_n 0, 1) := by decide +kernel
theorem dX11_rest_28 : decode cX11_rest 28 = .ok (.getfield 29, 3) := by decide +kernel
theorem dX11_rest_31 : decode cX11_rest 31 = .ok (.iload_n 1, 1) := by decide +kernel
theorem dX11_rest_32 : decode cX11_rest 32 = .ok (.iconst 5, 1) := by decide +kernel
theorem dX11_rest_33 : decode cX11_rest 33 = .ok (.invokevirtual 152, 3) := by decide +kernel
theorem dX11_rest_36 : decode cX11_rest 36 = .ok (.aload_n 0, 1) := by decide +kernel
theorem dX11_rest_37 : decode cX11_rest 37 = .ok (.getfield 29, 3) := by decide +kernel
theorem dX11_rest_40 : decode cX11_rest 40 = .ok (.iload_n 2, 1) := by decide +kernel
theorem dX11_rest_41 : decode cX11_rest 41 = .ok (.iconst 5, 1) := by decide +kernel
theorem dX11_rest_42 : decode cX11_rest 42 = .ok (.invokevirtual 152, 3) := by decide +kernel
theorem dX11_rest_45 : decode cX11_rest 45 = .ok (.iload 5, 2) := by decide +kernel
theorem dX11_rest_47 : decode cX11_rest 47 = .ok (.iconst 1, 1) := by decide +kernel
theorem dX11_rest_48 : decode cX11_rest 48 = .ok (.ishr, 1) := by decide +kernel
theorem dX11_rest_49 : decode cX11_rest 49 = .ok (.iload 5, 2) := by decide +kernel
theorem dX11_rest_51 : decode cX11_rest 51 = .ok (.iconst 1, 1) := by decide +kernel
theorem dX11_rest_52 : decode cX11_rest 52 = .ok (.iand, 1) := by decide +kernel
theorem dX11_rest_53 : decode cX11_rest 53 = .ok (.invokestatic 330, 3) := by decide +kernel
theorem dX11_rest_56 : decode cX11_rest 56 = .ok (.ifCond .eq 24, 3) := by decide +kernel
theorem dX11_rest_59 : decode cX11_rest 59 = .ok (.iload 4, 2) := by decide +kernel
theorem dX11_rest_61 : decode cX11_rest 61 = .ok (.ifCond .ne 16, 3) := by decide +kernel
theorem dX11_rest_64 : decode cX11_rest 64 = .ok (.bipush 10, 2) := by decide +kernel
theorem dX11_rest_66 : decode cX11_rest 66 = .ok (.iload 5, 2) := by decide +kernel
theorem dX11_rest_68 : decode cX11_rest 68 = .ok (.iconst 1, 1) := by decide +kernel
theorem dX11_rest_69 : decode cX11_rest 69 = .ok (.ishr, 1) := by decide +kernel
theorem dX11_rest_70 : decode cX11_rest 70 = .ok (.imul, 1) := by decide +kernel
theorem dX11_rest_71 : decode cX11_rest 71 = .ok (.iload 5, 2) := by decide +kernel
theorem dX11_rest_73 : decode cX11_rest 73 = .ok (.iconst 1, 1) := by decide +kernel
theorem dX11_rest_74 : decode cX11_rest 74 = .ok (.iand, 1) := by decide +kernel
theorem dX11_rest_75 : decode cX11_rest 75 = .ok (.iadd, 1) := by decide +kernel
theorem dX11_rest_76 : decode cX11_rest 76 = .ok (.ireturn, 1) := by decide +kernel
theorem dX11_rest_77 : decode cX11_rest 77 = .ok (.iinc 4 (-1), 3) := by decide +kernel
theorem dX11_rest_80 : decode cX11_rest 80 = .ok (.iinc 5 1, 3) := by decide +kernel
theorem dX11_rest_83 : decode cX11_rest 83 = .ok (.goto (-62), 3) := by decide +kernel
theorem dX11_rest_86 : decode cX11_rest 86 = .ok (.bipush (-2), 2) := by decide +kernel
theorem dX11_rest_88 : decode cX11_rest 88 = .ok (.ireturn, 1) := by decide +kernel
theorem dX11_areTwo_0 : decode cX11_areTwo 0 = .ok (.aload_n 0, 1) := by decide +kernel
theorem dX11_areTwo_1 : decode cX11_areTwo 1 = .ok (.getfield 29, 3) := by decide +kernel
theorem dX11_areTwo_4 : decode cX11_areTwo 4 = .ok (.iload_n 1, 1) := by decide +kernel
theorem dX11_areTwo_5 : decode cX11_areTwo 5 = .ok (.invokevirtual 141, 3) := by decide +kernel
theorem dX11_areTwo_8 : decode cX11_areTwo 8 = .ok (.ifCond .eq 23, 3) := by decide +kernel
theorem dX11_areTwo_11 : decode cX11_areTwo 11 = .ok (.aload_n 0, 1) := by decide +kernel
theorem dX11_areTwo_12 : decode cX11_areTwo 12 = .ok (.getfield 29, 3) := by decide +kernel
theorem dX11_areTwo_15 : decode cX11_areTwo 15 = .ok (.iload_n 2, 1) := by decide +kernel
theorem dX11_areTwo_16 : decode cX11_areTwo 16 = .ok (.invokevirtual 141, 3) := by decide +kernel
theorem dX11_areTwo_19 : decode cX11_areTwo 19 = .ok (.ifCond .eq 12, 3) := by decide +kernel
theorem dX11_areTwo_22 : decode cX11_areTwo 22 = .ok (.iload_n 1, 1) := by decide +kernel
theorem dX11_areTwo_23 : decode cX11_areTwo 23 = .ok (.iload_n 2, 1) := by decide +kernel
theorem dX11_areTwo_24 : decode cX11_areTwo 24 = .ok (.if_icmp .eq 7, 3) := by decide +kernel
theorem dX11_areTwo_27 : decode cX11_areTwo 27 = .ok (.iconst 1, 1) := by decide +kernel
theorem dX11_areTwo_28 : decode cX11_areTwo 28 = .ok (.goto 4, 3) := by decide +kernel
theorem dX11_areTwo_31 : decode cX11_areTwo 31 = .ok (.iconst 0, 1) := by decide +kernel
theorem dX11_areTwo_32 : decode cX11_areTwo 32 = .ok (.ireturn, 1) := by decide +kernel
theorem dX11_isRest_0 : decode cX11_isRest 0 = .ok (.iload_n 0, 1) := by decide +kernel
theorem dX11_isRest_1 : decode cX11_isRest 1 = .ok (.iload_n 1, 1) := by decide +kernel
theorem dX11_isRest_2 : decode cX11_isRest 2 = .ok (.iload_n 2, 1) := by decide +kernel
theorem dX11_isRest_3 : decode cX11_isRest 3 = .ok (.iload_n 3, 1) := by decide +kernel
theorem dX11_isRest_4 : decode cX11_isRest 4 = .ok (.invokestatic 334, 3) := by decide +kernel
theorem dX11_isRest_7 : decode cX11_isRest 7 = .ok (.iload_n 0, 1) := by decide +kernel
theorem dX11_isRest_8 : decode cX11_isRest 8 = .ok (.iload_n 1, 1) := by decide +kernel
theorem dX11_isRest_9 : decode cX11_isRest 9 = .ok (.iconst 1, 1) := by decide +kernel
theorem dX11_isRest_10 : decode cX11_isRest 10 = .ok (.iload_n 2, 1) := by decide +kernel
theorem dX11_isRest_11 : decode cX11_isRest 11 = .ok (.isub, 1) := by decide +kernel
theorem dX11_isRest_12 : decode cX11_isRest 12 = .ok (.iload_n 3, 1) := by decide +kernel
theorem dX11_isRest_13 : decode cX11_isRest 13 = .ok (.invokestatic 334, 3) := by decide +kernel
theorem dX11_isRest_16 : decode cX11_isRest 16 = .ok (.if_icmp .lt 26, 3) := by decide +kernel
theorem dX11_isRest_19 : decode cX11_isRest 19 = .ok (.iload_n 1, 1) := by decide +kernel
theorem dX11_isRest_20 : decode cX11_isRest 20 = .ok (.iload_n 0, 1) := by decide +kernel
theorem dX11_isRest_21 : decode cX11_isRest 21 = .ok (.iload_n 3, 1) := by decide +kernel
theorem dX11_isRest_22 : decode cX11_isRest 22 = .ok (.iload_n 2, 1) := by decide +kernel
theorem dX11_isRest_23 : decode cX11_isRest 23 = .ok (.invokestatic 334, 3) := by decide +kernel
theorem dX11_isRest_26 : decode cX11_isRest 26 = .ok (.iload_n 1, 1) := by decide +kernel
theorem dX11_isRest_27 : decode cX11_isRest 27 = .ok (.iload_n 0, 1) := by decide +kernel
theorem dX11_isRest_28 : decode cX11_isRest 28 = .ok (.iconst 1, 1) := by decide +kernel
theorem dX11_isRest_29 : decode cX11_isRest 29 = .ok (.iload_n 3, 1) := by decide +kernel
theorem dX11_isRest_30 : decode cX11_isRest 30 = .ok (.isub, 1) := by decide +kernel
theorem dX11_isRest_31 : decode cX11_isRest 31 = .ok (.iload_n 2, 1) := by decide +kernel
theorem dX11_isRest_32 : decode cX11_isRest 32 = .ok (.invokestatic 334, 3) := by decide +kernel
theorem dX11_isRest_35 : decode cX11_isRest 35 = .ok (.if_icmp .lt 7, 3) := by decide +kernel
theorem dX11_isRest_38 : decode cX11_isRest 38 = .ok (.iconst 1, 1) := by decide +kernel
theorem dX11_isRest_39 : decode cX11_isRest 39 = .ok (.goto 4, 3) := by decide +kernel
theorem dX11_isRest_42 : decode cX11_isRest 42 = .ok (.iconst 0, 1) := by decide +kernel
theorem dX11_isRest_43 : decode cX11_isRest 43 = .ok (.ireturn, 1) := by decide +kernel
theorem dX11_gain_0 : decode cX11_gain 0 = .ok (.iload_n 2, 1) := by decide +kernel
theorem dX11_gain_1 : decode cX11_gain 1 = .ok (.ifCond .ne 5, 3) := by decide +kernel
theorem dX11_gain_4 : decode cX11_gain 4 = .ok (.iconst 0, 1) := by decide +kernel
theorem dX11_gain_5 : decode cX11_gain 5 = .ok (.ireturn, 1) := by decide +kernel
theorem dX11_gain_6 : decode cX11_gain 6 = .ok (.iload_n 3, 1) := by decide +kernel
theorem dX11_gain_7 : decode cX11_gain 7 = .ok (.ifCond .ne 7, 3) := by decide +kernel
theorem dX11_gain_10 : decode cX11_gain 10 = .ok (.iload_n 0, 1) := by decide +kernel
theorem dX11_gain_11 : decode cX11_gain 11 = .ok (.goto 8, 3) := by decide +kernel
theorem dX11_gain_14 : decode cX11_gain 14 = .ok (.iload_n 0, 1) := by decide +kernel
theorem dX11_gain_15 : decode cX11_gain 15 = .ok (.iconst 2, 1) := by decide +kernel
theorem dX11_gain_16 : decode cX11_gain 16 = .ok (.iload_n 1, 1) := by decide +kernel
theorem dX11_gain_17 : decode cX11_gain 17 = .ok (.imul, 1) := by decide +kernel
theorem dX11_gain_18 : decode cX11_gain 18 = .ok (.isub, 1) := by decide +kernel
theorem dX11_gain_19 : decode cX11_gain 19 = .ok (.ireturn, 1) := by decide +kernel
theorem dX11_note_0 : decode cX11_note 0 = .ok (.aload_n 0, 1) := by decide +kernel
theorem dX11_note_1 : decode cX11_note 1 = .ok (.getfield 29, 3) := by decide +kernel
theorem dX11_note_4 : decode cX11_note 4 = .ok (.iload_n 1, 1) := by decide +kernel
theorem dX11_note_5 : decode cX11_note 5 = .ok (.invokevirtual 177, 3) := by decide +kernel
theorem dX11_note_8 : decode cX11_note 8 = .ok (.ifCond .eq 14, 3) := by decide +kernel
theorem dX11_note_11 : decode cX11_note 11 = .ok (.iload_n 2, 1) := by decide +kernel
theorem dX11_note_12 : decode cX11_note 12 = .ok (.ifCond .lt 10, 3) := by decide +kernel
theorem dX11_note_15 : decode cX11_note 15 = .ok (.iload_n 2, 1) := by decide +kernel
theorem dX11_note_16 : decode cX11_note 16 = .ok (.sipush 999, 3) := by decide +kernel
theorem dX11_note_19 : decode cX11_note 19 = .ok (.if_icmp .le 5, 3) := by decide +kernel
theorem dX11_note_22 : decode cX11_note 22 = .ok (.iconst (-1), 1) := by decide +kernel
theorem dX11_note_23 : decode cX11_note 23 = .ok (.ireturn, 1) := by decide +kernel
theorem dX11_note_24 : decode cX11_note 24 = .ok (.aload_n 0, 1) := by decide +kernel
theorem dX11_note_25 : decode cX11_note 25 = .ok (.getfield 80, 3) := by decide +kernel
theorem dX11_note_28 : decode cX11_note 28 = .ok (.iload_n 3, 1) := by decide +kernel
theorem dX11_note_29 : decode cX11_note 29 = .ok (.ifCond .eq 7, 3) := by decide +kernel
theorem dX11_note_32 : decode cX11_note 32 = .ok (.iconst 1, 1) := by decide +kernel
theorem dX11_note_33 : decode cX11_note 33 = .ok (.goto 4, 3) := by decide +kernel
theorem dX11_note_36 : decode cX11_note 36 = .ok (.iconst 0, 1) := by decide +kernel
theorem dX11_note_37 : decode cX11_note 37 = .ok (.iload_n 1, 1) := by decide +kernel
theorem dX11_note_38 : decode cX11_note 38 = .ok (.iload_n 2, 1) := by decide +kernel
theorem dX11_note_39 : decode cX11_note 39 = .ok (.invokevirtual 338, 3) := by decide +kernel
theorem dX11_note_42 : decode cX11_note 42 = .ok (.ireturn, 1) := by decide +kernel
theorem dX11_out_0 : decode cX11_out 0 = .ok (.aload_n 0, 1) := by decide +kernel
theorem dX11_out_1 : decode cX11_out 1 = .ok (.getfield 80, 3) := by decide +kernel
theorem dX11_out_4 : decode cX11_out 4 = .ok (.iload_n 1, 1) := by decide +kernel
theorem dX11_out_5 : decode cX11_out 5 = .ok (.invokevirtual 341, 3) := by decide +kernel
theorem dX11_out_8 : decode cX11_out 8 = .ok (.ifCond .eq 16, 3) := by decide +kernel
theorem dX11_out_11 : decode cX11_out 11 = .ok (.aload_n 0, 1) := by decide +kernel
theorem dX11_out_12 : decode cX11_out 12 = .ok (.getfield 80, 3) := by decide +kernel
theorem dX11_out_15 : decode cX11_out 15 = .ok (.iconst 2, 1) := by decide +kernel
theorem dX11_out_16 : decode cX11_out 16 = .ok (.iload_n 1, 1) := by decide +kernel
theorem dX11_out_17 : decode cX11_out 17 = .ok (.iconst 0, 1) := by decide +kernel
theorem dX11_out_18 : decode cX11_out 18 = .ok (.invokevirtual 338, 3) := by decide +kernel
theorem dX11_out_21 : decode cX11_out 21 = .ok (.goto 4, 3) := by decide +kernel
theorem dX11_out_24 : decode cX11_out 24 = .ok (.iconst (-1), 1) := by decide +kernel
theorem dX11_out_25 : decode cX11_out 25 = .ok (.ireturn, 1) := by decide +kernel
theorem dX11_known_0 : decode cX11_known 0 = .ok (.iload_n 1, 1) := by decide +kernel
theorem dX11_known_1 : decode cX11_known 1 = .ok (.iconst (-1), 1) := by decide +kernel
theorem dX11_known_2 : decode cX11_known 2 = .ok (.if_icmp .lt 14, 3) := by decide +kernel
theorem dX11_known_5 : decode cX11_known 5 = .ok (.iload_n 1, 1) := by decide +kernel
theorem dX11_known_6 : decode cX11_known 6 = .ok (.aload_n 0, 1) := by decide +kernel
theorem dX11_known_7 : decode cX11_known 7 = .ok (.getfield 80, 3) := by decide +kernel
theorem dX11_known_10 : decode cX11_known 10 = .ok (.getfield 344, 3) := by decide +kernel
theorem dX11_known_13 : decode cX11_known 13 = .ok (.if_icmp .le 5, 3) := by decide +kernel
theorem dX11_known_16 : decode cX11_known 16 = .ok (.iconst 0, 1) := by decide +kernel
theorem dX11_known_17 : decode cX11_known 17 = .ok (.ireturn, 1) := by decide +kernel
theorem dX11_known_18 : decode cX11_known 18 = .ok (.aload_n 0, 1) := by decide +kernel
theorem dX11_known_19 : decode cX11_known 19 = .ok (.getfield 80, 3) := by decide +kernel
theorem dX11_known_22 : decode cX11_known 22 = .ok (.iload_n 1, 1) := by decide +kernel
theorem dX11_known_23 : decode cX11_known 23 = .ok (.putfield 345, 3) := by decide +kernel
theorem dX11_known_26 : decode cX11_known 26 = .ok (.iconst 1, 1) := by decide +kernel
theorem dX11_known_27 : decode cX11_known 27 = .ok (.ireturn, 1) := by decide +kernel
theorem dX11_lingered_0 : decode cX11_lingered 0 = .ok (.aload_n 0, 1) := by decide +kernel
theorem dX11_lingered_1 : decode cX11_lingered 1 = .ok (.getfield 80, 3) := by decide +kernel
theorem dX11_lingered_4 : decode cX11_lingered 4 = .ok (.invokevirtual 348, 3) := by decide +kernel
theorem dX11_lingered_7 : decode cX11_lingered 7 = .ok (.iconst 0, 1) := by decide +kernel
theorem dX11_lingered_8 : decode cX11_lingered 8 = .ok (.istore_n 1, 1) := by decide +kernel
theorem dX11_lingered_9 : decode cX11_lingered 9 = .ok (.iconst 0, 1) := by decide +kernel
theorem dX11_lingered_10 : decode cX11_lingered 10 = .ok (.istore_n 2, 1) := by decide +kernel
theorem dX11_lingered_11 : decode cX11_lingered 11 = .ok (.iload_n 2, 1) := by decide +kernel
theorem dX11_lingered_12 : decode cX11_lingered 12 = .ok (.aload_n 0, 1) := by decide +kernel
theorem dX11_lingered_13 : decode cX11_lingered 13 = .ok (.getfield 29, 3) := by decide +kernel
theorem dX11_lingered_16 : decode cX11_lingered 16 = .ok (.getfield 258, 3) := by decide +kernel
theorem dX11_lingered_19 : decode cX11_lingered 19 = .ok (.if_icmp .gt 85, 3) := by decide +kernel
theorem dX11_lingered_22 : decode cX11_lingered 22 = .ok (.aload_n 0, 1) := by decide +kernel
theorem dX11_lingered_23 : decode cX11_lingered 23 = .ok (.getfield 67, 3) := by decide +kernel
theorem dX11_lingered_26 : decode cX11_lingered 26 = .ok (.invokevirtual 312, 3) := by decide +kernel
theorem dX11_lingered_29 : decode cX11_lingered 29 = .ok (.aload_n 0, 1) := by decide +kernel
theorem dX11_lingered_30 : decode cX11_lingered 30 = .ok (.getfield 67, 3) := by decide +kernel
theorem dX11_lingered_33 : decode cX11_lingered 33 = .ok (.iload_n 2, 1) := by decide +kernel
theorem dX11_lingered_34 : decode cX11_lingered 34 = .ok (.putfield 351, 3) := by decide +kernel
theorem dX11_lingered_37 : decode cX11_lingered 37 = .ok (.aload_n 0, 1) := by decide +kernel
theorem dX11_lingered_38 : decode cX11_lingered 38 = .ok (.getfield 47, 3) := by decide +kernel
theorem dX11_lingered_41 : decode cX11_lingered 41 = .ok (.aload_n 0, 1) := by decide +kernel
theorem dX11_lingered_42 : decode cX11_lingered 42 = .ok (.getfield 36, 3) := by decide +kernel
theorem dX11_lingered_45 : decode cX11_lingered 45 = .ok (.invokevirtual 308, 3) := by decide +kernel
theorem dX11_lingered_48 : decode cX11_lingered 48 = .ok (.aload_n 0, 1) := by decide +kernel
theorem dX11_lingered_49 : decode cX11_lingered 49 = .ok (.getfield 47, 3) := by decide +kernel
theorem dX11_lingered_52 : decode cX11_lingered 52 = .ok (.iconst 0, 1) := by decide +kernel
theorem dX11_lingered_53 : decode cX11_lingered 53 = .ok (.putfield 242, 3) := by decide +kernel
theorem dX11_lingered_56 : decode cX11_lingered 56 = .ok (.aload_n 0, 1) := by decide +kernel
theorem dX11_lingered_57 : decode cX11_lingered 57 = .ok (.getfield 53, 3) := by decide +kernel
theorem dX11_lingered_60 : decode cX11_lingered 60 = .ok (.aload_n 0, 1) := by decide +kernel
theorem dX11_lingered_61 : decode cX11_lingered 61 = .ok (.getfield 29, 3) := by decide +kernel
theorem dX11_lingered_64 : decode cX11_lingered 64 = .ok (.aload_n 0, 1) := by decide +kernel
theorem dX11_lingered_65 : decode cX11_lingered 65 = .ok (.getfield 47, 3) := by decide +kernel
theorem dX11_lingered_68 : decode cX11_lingered 68 = .ok (.aload_n 0, 1) := by decide +kernel
theorem dX11_lingered_69 : decode cX11_lingered 69 = .ok (.getfield 67, 3) := by decide +kernel
theorem dX11_lingered_72 : decode cX11_lingered 72 = .ok (.invokevirtual 245, 3) := by decide +kernel
theorem dX11_lingered_75 : decode cX11_lingered 75 = .ok (.aload_n 0, 1) := by decide +kernel
theorem dX11_lingered_76 : decode cX11_lingered 76 = .ok (.getfield 80, 3) := by decide +kernel
theorem dX11_lingered_79 : decode cX11_lingered 79 = .ok (.aload_n 0, 1) := by decide +kernel
theorem dX11_lingered_80 : decode cX11_lingered 80 = .ok (.getfield 47, 3) := by decide +kernel
theorem dX11_lingered_83 : decode cX11_lingered 83 = .ok (.getfield 202, 3) := by decide +kernel
theorem dX11_lingered_86 : decode cX11_lingered 86 = .ok (.invokevirtual 354, 3) := by decide +kernel
theorem dX11_lingered_89 : decode cX11_lingered 89 = .ok (.ifCond .eq 9, 3) := by decide +kernel
theorem dX11_lingered_92 : decode cX11_lingered 92 = .ok (.iload_n 1, 1) := by decide +kernel
theorem dX11_lingered_93 : decode cX11_lingered 93 = .ok (.iconst 1, 1) := by decide +kernel
theorem dX11_lingered_94 : decode cX11_lingered 94 = .ok (.iload_n 2, 1) := by decide +kernel
theorem dX11_lingered_95 : decode cX11_lingered 95 = .ok (.ishl, 1) := by decide +kernel
theorem dX11_lingered_96 : decode cX11_lingered 96 = .ok (.ior, 1) := by decide +kernel
theorem dX11_lingered_97 : decode cX11_lingered 97 = .ok (.istore_n 1, 1) := by decide +kernel
theorem dX11_lingered_98 : decode cX11_lingered 98 = .ok (.iinc 2 1, 3) := by decide +kernel
theorem dX11_lingered_101 : decode cX11_lingered 101 = .ok (.goto (-90), 3) := by decide +kernel
theorem dX11_lingered_104 : decode cX11_lingered 104 = .ok (.iload_n 1, 1) := by decide +kernel
theorem dX11_lingered_105 : decode cX11_lingered 105 = .ok (.ireturn, 1) := by decide +kernel
theorem dX11_chance_0 : decode cX11_chance 0 = .ok (.iload_n 1, 1) := by decide +kernel
theorem dX11_chance_1 : decode cX11_chance 1 = .ok (.ifCond .lt 25, 3) := by decide +kernel
theorem dX11_chance_4 : decode cX11_chance 4 = .ok (.iload_n 2, 1) := by decide +kernel
theorem dX11_chance_5 : decode cX11_chance 5 = .ok (.iconst 1, 1) := by decide +kernel
theorem dX11_chance_6 : decode cX11_chance 6 = .ok (.if_icmp .lt 20, 3) := by decide +kernel
theorem dX11_chance_9 : decode cX11_chance 9 = .ok (.iload_n 2, 1) := by decide +kernel
theorem dX11_chance_10 : decode cX11_chance 10 = .ok (.bipush 20, 2) := by decide +kernel
theorem dX11_chance_12 : decode cX11_chance 12 = .ok (.if_icmp .gt 14, 3) := by decide +kernel
theorem dX11_chance_15 : decode cX11_chance 15 = .ok (.iload_n 3, 1) := by decide +kernel
theorem dX11_chance_16 : decode cX11_chance 16 = .ok (.ifCond .lt 10, 3) := by decide +kernel
theorem dX11_chance_19 : decode cX11_chance 19 = .ok (.iload_n 3, 1) := by decide +kernel
theorem dX11_chance_20 : decode cX11_chance 20 = .ok (.sipush 9999, 3) := by decide +kernel
theorem dX11_chance_23 : decode cX11_chance 23 = .ok (.if_icmp .le 5, 3) := by decide +kernel
theorem dX11_chance_26 : decode cX11_chance 26 = .ok (.iconst (-1), 1) := by decide +kernel
theorem dX11_chance_27 : decode cX11_chance 27 = .ok (.ireturn, 1) := by decide +kernel
theorem dX11_chance_28 : decode cX11_chance 28 = .ok (.iload_n 1, 1) := by decide +kernel
theorem dX11_chance_29 : decode cX11_chance 29 = .ok (.istore 4, 2) := by decide +kernel
theorem dX11_chance_31 : decode cX11_chance 31 = .ok (.iconst 0, 1) := by decide +kernel
theorem dX11_chance_32 : decode cX11_chance 32 = .ok (.istore 5, 2) := by decide +kernel
theorem dX11_chance_34 : decode cX11_chance 34 = .ok (.iconst 0, 1) := by decide +kernel
theorem dX11_chance_35 : decode cX11_chance 35 = .ok (.istore 6, 2) := by decide +kernel
theorem dX11_chance_37 : decode cX11_chance 37 = .ok (.iload 6, 2) := by decide +kernel
theorem dX11_chance_39 : decode cX11_chance 39 = .ok (.bipush 10, 2) := by decide +kernel
theorem dX11_chance_41 : decode cX11_chance 41 = .ok (.if_icmp .ge 94, 3) := by decide +kernel
theorem dX11_chance_44 : decode cX11_chance 44 = .ok (.aload_n 0, 1) := by decide +kernel
theorem dX11_chance_45 : decode cX11_chance 45 = .ok (.getfield 47, 3) := by decide +kernel
theorem dX11_chance_48 : decode cX11_chance 48 = .ok (.aload_n 0, 1) := by decide +kernel
theorem dX11_chance_49 : decode cX11_chance 49 = .ok (.getfield 36, 3) := by decide +kernel
theorem dX11_chance_52 : decode cX11_chance 52 = .ok (.invokevirtual 308, 3) := by decide +kernel
theorem dX11_chance_55 : decode cX11_chance 55 = .ok (.aload_n 0, 1) := by decide +kernel
theorem dX11_chance_56 : decode cX11_chance 56 = .ok (.getfield 47, 3) := by decide +kernel
theorem dX11_chance_59 : decode cX11_chance 59 = .ok (.iload 4, 2) := by decide +kernel
theorem dX11_chance_61 : decode cX11_chance 61 = .ok (.putfield 358, 3) := by decide +kernel
theorem dX11_chance_64 : decode cX11_chance 64 = .ok (.iconst 0, 1) := by decide +kernel
theorem dX11_chance_65 : decode cX11_chance 65 = .ok (.istore 7, 2) := by decide +kernel
theorem dX11_chance_67 : decode cX11_chance 67 = .ok (.iload 7, 2) := by decide +kernel
theorem dX11_chance_69 : decode cX11_chance 69 = .ok (.iload_n 2, 1) := by decide +kernel
theorem dX11_chance_70 : decode cX11_chance 70 = .ok (.if_icmp .ge 28, 3) := by decide +kernel
theorem dX11_chance_73 : decode cX11_chance 73 = .ok (.aload_n 0, 1) := by decide +kernel
theorem dX11_chance_74 : decode cX11_chance 74 = .ok (.getfield 53, 3) := by decide +kernel
theorem dX11_chance_77 : decode cX11_chance 77 = .ok (.aload_n 0, 1) := by decide +kernel
theorem dX11_chance_78 : decode cX11_chance 78 = .ok (.getfield 29, 3) := by decide +kernel
theorem dX11_chance_81 : decode cX11_chance 81 = .ok (.aload_n 0, 1) := by decide +kernel
theorem dX11_chance_82 : decode cX11_chance 82 = .ok (.getfield 47, 3) := by decide +kernel
theorem dX11_chance_85 : decode cX11_chance 85 = .ok (.aload_n 0, 1) := by decide +kernel
theorem dX11_chance_86 : decode cX11_chance 86 = .ok (.getfield 64, 3) := by decide +kernel
theorem dX11_chance_89 : decode cX11_chance 89 = .ok (.invokevirtual 245, 3) := by decide +kernel
theorem dX11_chance_92 : decode cX11_chance 92 = .ok (.iinc 7 1, 3) := by decide +kernel
theorem dX11_chance_95 : decode cX11_chance 95 = .ok (.goto (-28), 3) := by decide +kernel
theorem dX11_chance_98 : decode cX11_chance 98 = .ok (.aload_n 0, 1) := by decide +kernel
theorem dX11_chance_99 : decode cX11_chance 99 = .ok (.getfield 47, 3) := by decide +kernel
theorem dX11_chance_102 : decode cX11_chance 102 = .ok (.getfield 358, 3) := by decide +kernel
theorem dX11_chance_105 : decode cX11_chance 105 = .ok (.istore 4, 2) := by decide +kernel
theorem dX11_chance_107 : decode cX11_chance 107 = .ok (.aload_n 0, 1) := by decide +kernel
theorem dX11_chance_108 : decode cX11_chance 108 = .ok (.getfield 47, 3) := by decide +kernel
theorem dX11_chance_111 : decode cX11_chance 111 = .ok (.getfield 361, 3) := by decide +kernel
theorem dX11_chance_114 : decode cX11_chance 114 = .ok (.aload_n 0, 1) := by decide +kernel
theorem dX11_chance_115 : decode cX11_chance 115 = .ok (.getfield 36, 3) := by decide +kernel
theorem dX11_chance_118 : decode cX11_chance 118 = .ok (.getfield 361, 3) := by decide +kernel
theorem dX11_chance_121 : decode cX11_chance 121 = .ok (.isub, 1) := by decide +kernel
theorem dX11_chance_122 : decode cX11_chance 122 = .ok (.iload_n 3, 1) := by decide +kernel
theorem dX11_chance_123 : decode cX11_chance 123 = .ok (.if_icmp .gt 6, 3) := by decide +kernel
theorem dX11_chance_126 : decode cX11_chance 126 = .ok (.iinc 5 1, 3) := by decide +kernel
theorem dX11_chance_129 : decode cX11_chance 129 = .ok (.iinc 6 1, 3) := by decide +kernel
theorem dX11_chance_132 : decode cX11_chance 132 = .ok (.goto (-95), 3) := by decide +kernel
theorem dX11_chance_135 : decode cX11_chance 135 = .ok (.iload 5, 2) := by decide +kernel
theorem dX11_chance_137 : decode cX11_chance 137 = .ok (.ireturn, 1) := by decide +kernel
theorem dX11_tried_0 : decode cX11_tried 0 = .ok (.iload_n 1, 1) := by decide +kernel
theorem dX11_tried_1 : decode cX11_tried 1 = .ok (.iconst 2, 1) := by decide +kernel
theorem dX11_tried_2 : decode cX11_tried 2 = .ok (.if_icmp .ne 14, 3) := by decide +kernel
theorem dX11_tried_5 : decode cX11_tried 5 = .ok (.aload_n 0, 1) := by decide +kernel
theorem dX11_tried_6 : decode cX11_tried 6 = .ok (.getfield 29, 3) := by decide +kernel
theorem dX11_tried_9 : decode cX11_tried 9 = .ok (.iload_n 2, 1) := by decide +kernel
theorem dX11_tried_10 : decode cX11_tried 10 = .ok (.invokevirtual 141, 3) := by decide +kernel
theorem dX11_tried_13 : decode cX11_tried 13 = .ok (.goto 21, 3) := by decide +kernel
theorem dX11_tried_16 : decode cX11_tried 16 = .ok (.iload_n 1, 1) := by decide +kernel
theorem dX11_tried_17 : decode cX11_tried 17 = .ok (.ifCond .lt 16, 3) := by decide +kernel
theorem dX11_tried_20 : decode cX11_tried 20 = .ok (.iload_n 1, 1) := by decide +kernel
theorem dX11_tried_21 : decode cX11_tried 21 = .ok (.iconst 5, 1) := by decide +kernel
theorem dX11_tried_22 : decode cX11_tried 22 = .ok (.if_icmp .gt 11, 3) := by decide +kernel
theorem dX11_tried_25 : decode cX11_tried 25 = .ok (.iload_n 2, 1) := by decide +kernel
theorem dX11_tried_26 : decode cX11_tried 26 = .ok (.ifCond .ne 7, 3) := by decide +kernel
theorem dX11_tried_29 : decode cX11_tried 29 = .ok (.iconst 1, 1) := by decide +kernel
theorem dX11_tried_30 : decode cX11_tried 30 = .ok (.goto 4, 3) := by decide +kernel
theorem dX11_tried_33 : decode cX11_tried 33 = .ok (.iconst 0, 1) := by decide +kernel
theorem dX11_tried_34 : decode cX11_tried 34 = .ok (.istore 4, 2) := by decide +kernel
theorem dX11_tried_36 : decode cX11_tried 36 = .ok (.iload 4, 2) := by decide +kernel
theorem dX11_tried_38 : decode cX11_tried 38 = .ok (.ifCond .eq 13, 3) := by decide +kernel
theorem dX11_tried_41 : decode cX11_tried 41 = .ok (.iload_n 3, 1) := by decide +kernel
theorem dX11_tried_42 : decode cX11_tried 42 = .ok (.ifCond .lt 9, 3) := by decide +kernel
theorem dX11_tried_45 : decode cX11_tried 45 = .ok (.iload_n 3, 1) := by decide +kernel
theorem dX11_tried_46 : decode cX11_tried 46 = .ok (.bipush 20, 2) := by decide +kernel
theorem dX11_tried_48 : decode cX11_tried 48 = .ok (.if_icmp .le 5, 3) := by decide +kernel
theorem dX11_tried_51 : decode cX11_tried 51 = .ok (.iconst (-1), 1) := by decide +kernel
theorem dX11_tried_52 : decode cX11_tried 52 = .ok (.ireturn, 1) := by decide +kernel
theorem dX11_tried_53 : decode cX11_tried 53 = .ok (.aload_n 0, 1) := by decide +kernel
theorem dX11_tried_54 : decode cX11_tried 54 = .ok (.getfield 67, 3) := by decide +kernel
theorem dX11_tried_57 : decode cX11_tried 57 = .ok (.invokevirtual 312, 3) := by decide +kernel
theorem dX11_tried_60 : decode cX11_tried 60 = .ok (.aload_n 0, 1) := by decide +kernel
theorem dX11_tried_61 : decode cX11_tried 61 = .ok (.getfield 67, 3) := by decide +kernel
theorem dX11_tried_64 : decode cX11_tried 64 = .ok (.iload_n 1, 1) := by decide +kernel
theorem dX11_tried_65 : decode cX11_tried 65 = .ok (.iload_n 2, 1) := by decide +kernel
theorem dX11_tried_66 : decode cX11_tried 66 = .ok (.invokevirtual 364, 3) := by decide +kernel
theorem dX11_tried_69 : decode cX11_tried 69 = .ok (.aload_n 0, 1) := by decide +kernel
theorem dX11_tried_70 : decode cX11_tried 70 = .ok (.getfield 47, 3) := by decide +kernel
theorem dX11_tried_73 : decode cX11_tried 73 = .ok (.aload_n 0, 1) := by decide +kernel
theorem dX11_tried_74 : decode cX11_tried 74 = .ok (.getfield 36, 3) := by decide +kernel
theorem dX11_tried_77 : decode cX11_tried 77 = .ok (.invokevirtual 308, 3) := by decide +kernel
theorem dX11_tried_80 : decode cX11_tried 80 = .ok (.iconst 0, 1) := by decide +kernel
theorem dX11_tried_81 : decode cX11_tried 81 = .ok (.istore 5, 2) := by decide +kernel
theorem dX11_tried_83 : decode cX11_tried 83 = .ok (.iload 5, 2) := by decide +kernel
theorem dX11_tried_85 : decode cX11_tried 85 = .ok (.iload_n 3, 1) := by decide +kernel
theorem dX11_tried_86 : decode cX11_tried 86 = .ok (.if_icmp .ge 28, 3) := by decide +kernel
theorem dX11_tried_89 : decode cX11_tried 89 = .ok (.aload_n 0, 1) := by decide +kernel
theorem dX11_tried_90 : decode cX11_tried 90 = .ok (.getfield 53, 3) := by decide +kernel
theorem dX11_tried_93 : decode cX11_tried 93 = .ok (.aload_n 0, 1) := by decide +kernel
theorem dX11_tried_94 : decode cX11_tried 94 = .ok (.getfield 29, 3) := by decide +kernel
theorem dX11_tried_97 : decode cX11_tried 97 = .ok (.aload_n 0, 1) := by decide +kernel
theorem dX11_tried_98 : decode cX11_tried 98 = .ok (.getfield 47, 3) := by decide +kernel
theorem dX11_tried_101 : decode cX11_tried 101 = .ok (.aload_n 0, 1) := by decide +kernel
theorem dX11_tried_102 : decode cX11_tried 102 = .ok (.getfield 67, 3) := by decide +kernel
theorem dX11_tried_105 : decode cX11_tried 105 = .ok (.invokevirtual 245, 3) := by decide +kernel
theorem dX11_tried_108 : decode cX11_tried 108 = .ok (.iinc 5 1, 3) := by decide +kernel
theorem dX11_tried_111 : decode cX11_tried 111 = .ok (.goto (-28), 3) := by decide +kernel
theorem dX11_tried_114 : decode cX11_tried 114 = .ok (.aload_n 0, 1) := by decide +kernel
theorem dX11_tried_115 : decode cX11_tried 115 = .ok (.getfield 47, 3) := by decide +kernel
theorem dX11_tried_118 : decode cX11_tried 118 = .ok (.getfield 367, 3) := by decide +kernel
theorem dX11_tried_121 : decode cX11_tried 121 = .ok (.aload_n 0, 1) := by decide +kernel
theorem dX11_tried_122 : decode cX11_tried 122 = .ok (.getfield 36, 3) := by decide +kernel
theorem dX11_tried_125 : decode cX11_tried 125 = .ok (.getfield 367, 3) := by decide +kernel
theorem dX11_tried_128 : decode cX11_tried 128 = .ok (.isub, 1) := by decide +kernel
theorem dX11_tried_129 : decode cX11_tried 129 = .ok (.ireturn, 1) := by decide +kernel
theorem dX11_undo_0 : decode cX11_undo 0 = .ok (.aload_n 0, 1) := by decide +kernel
theorem dX11_undo_1 : decode cX11_undo 1 = .ok (.getfield 73, 3) := by decide +kernel
theorem dX11_undo_4 : decode cX11_undo 4 = .ok (.getfield 118, 3) := by decide +kernel
theorem dX11_undo_7 : decode cX11_undo 7 = .ok (.iconst 1, 1) := by decide +kernel
theorem dX11_undo_8 : decode cX11_undo 8 = .ok (.if_icmp .ge 5, 3) := by decide +kernel
theorem dX11_undo_11 : decode cX11_undo 11 = .ok (.iconst (-1), 1) := by decide +kernel
theorem dX11_undo_12 : decode cX11_undo 12 = .ok (.ireturn, 1) := by decide +kernel
theorem dX11_undo_13 : decode cX11_undo 13 = .ok (.aload_n 0, 1) := by decide +kernel
theorem dX11_undo_14 : decode cX11_undo 14 = .ok (.getfield 73, 3) := by decide +kernel
theorem dX11_undo_17 : decode cX11_undo 17 = .ok (.aload_n 0, 1) := by decide +kernel
theorem dX11_undo_18 : decode cX11_undo 18 = .ok (.getfield 36, 3) := by decide +kernel
theorem dX11_undo_21 : decode cX11_undo 21 = .ok (.invokevirtual 370, 3) := by decide +kernel
theorem dX11_undo_24 : decode cX11_undo 24 = .ok (.aload_n 0, 1) := by decide +kernel
theorem dX11_undo_25 : decode cX11_undo 25 = .ok (.getfield 73, 3) := by decide +kernel
theorem dX11_undo_28 : decode cX11_undo 28 = .ok (.getfield 118, 3) := by decide +kernel
theorem dX11_undo_31 : decode cX11_undo 31 = .ok (.ireturn, 1) := by decide +kernel
theorem dX11_keep_0 : decode cX11_keep 0 = .ok (.aload_n 0, 1) := by decide +kernel
theorem dX11_keep_1 : decode cX11_keep 1 = .ok (.getfield 40, 3) := by decide +kernel
theorem dX11_keep_4 : decode cX11_keep 4 = .ok (.aload_n 0, 1) := by decide +kernel
theorem dX11_keep_5 : decode cX11_keep 5 = .ok (.getfield 36, 3) := by decide +kernel
theorem dX11_keep_8 : decode cX11_keep 8 = .ok (.invokevirtual 308, 3) := by decide +kernel
theorem dX11_keep_11 : decode cX11_keep 11 = .ok (.aload_n 0, 1) := by decide +kernel
theorem dX11_keep_12 : decode cX11_keep 12 = .ok (.iconst 1, 1) := by decide +kernel
theorem dX11_keep_13 : decode cX11_keep 13 = .ok (.putfield 43, 3) := by decide +kernel
theorem dX11_keep_16 : decode cX11_keep 16 = .ok (.aload_n 0, 1) := by decide +kernel
theorem dX11_keep_17 : decode cX11_keep 17 = .ok (.getfield 36, 3) := by decide +kernel
theorem dX11_keep_20 : decode cX11_keep 20 = .ok (.getfield 242, 3) := by decide +kernel
theorem dX11_keep_23 : decode cX11_keep 23 = .ok (.ireturn, 1) := by decide +kernel
theorem dX11_back_0 : decode cX11_back 0 = .ok (.aload_n 0, 1) := by decide +kernel
theorem dX11_back_1 : decode cX11_back 1 = .ok (.getfield 43, 3) := by decide +kernel
theorem dX11_back_4 : decode cX11_back 4 = .ok (.ifCond .ne 5, 3) := by decide +kernel
theorem dX11_back_7 : decode cX11_back 7 = .ok (.iconst (-1), 1) := by decide +kernel
theorem dX11_back_8 : decode cX11_back 8 = .ok (.ireturn, 1) := by decide +kernel
theorem dX11_back_9 : decode cX11_back 9 = .ok (.aload_n 0, 1) := by decide +kernel
theorem dX11_back_10 : decode cX11_back 10 = .ok (.getfield 36, 3) := by decide +kernel
theorem dX11_back_13 : decode cX11_back 13 = .ok (.aload_n 0, 1) := by decide +kernel
theorem dX11_back_14 : decode cX11_back 14 = .ok (.getfield 40, 3) := by decide +kernel
theorem dX11_back_17 : decode cX11_back 17 = .ok (.invokevirtual 308, 3) := by decide +kernel
theorem dX11_back_20 : decode cX11_back 20 = .ok (.aload_n 0, 1) := by decide +kernel
theorem dX11_back_21 : decode cX11_back 21 = .ok (.getfield 73, 3) := by decide +kernel
theorem dX11_back_24 : decode cX11_back 24 = .ok (.iconst 0, 1) := by decide +kernel
theorem dX11_back_25 : decode cX11_back 25 = .ok (.putfield 118, 3) := by decide +kernel
theorem dX11_back_28 : decode cX11_back 28 = .ok (.aload_n 0, 1) := by decide +kernel
theorem dX11_back_29 : decode cX11_back 29 = .ok (.getfield 36, 3) := by decide +kernel
theorem dX11_back_32 : decode cX11_back 32 = .ok (.getfield 242, 3) := by decide +kernel
theorem dX11_back_35 : decode cX11_back 35 = .ok (.ireturn, 1) := by decide +kernel
theorem dX11_count_0 : decode cX11_count 0 = .ok (.iload_n 1, 1) := by decide +kernel
theorem dX11_count_1 : decode cX11_count 1 = .ok (.tableswitch 215 0 14 #[75, 83, 91, 101, 109, 119, 130, 138, 146, 154, 162, 170, 191, 199, 207], 75) := by decide +kernel
theorem dX11_count_76 : decode cX11_count 76 = .ok (.aload_n 0, 1) := by decide +kernel
theorem dX11_count_77 : decode cX11_count 77 = .ok (.getfield 29, 3) := by decide +kernel
theorem dX11_count_80 : decode cX11_count 80 = .ok (.getfield 258, 3) := by decide +kernel
theorem dX11_count_83 : decode cX11_count 83 = .ok (.ireturn, 1) := by decide +kernel
theorem dX11_count_84 : decode cX11_count 84 = .ok (.aload_n 0, 1) := by decide +kernel
theorem dX11_count_85 : decode cX11_count 85 = .ok (.getfield 29, 3) := by decide +kernel
theorem dX11_count_88 : decode cX11_count 88 = .ok (.getfield 261, 3) := by decide +kernel
theorem dX11_count_91 : decode cX11_count 91 = .ok (.ireturn, 1) := by decide +kernel
theorem dX11_count_92 : decode cX11_count 92 = .ok (.aload_n 0, 1) := by decide +kernel
theorem dX11_count_93 : decode cX11_count 93 = .ok (.getfield 29, 3) := by decide +kernel
theorem dX11_count_96 : decode cX11_count 96 = .ok (.getfield 264, 3) := by decide +kernel
theorem dX11_count_99 : decode cX11_count 99 = .ok (.iconst 0, 1) := by decide +kernel
theorem dX11_count_100 : decode cX11_count 100 = .ok (.iaload, 1) := by decide +kernel
theorem dX11_count_101 : decode cX11_count 101 = .ok (.ireturn, 1) := by decide +kernel
theorem dX11_count_102 : decode cX11_count 102 = .ok (.aload_n 0, 1) := by decide +kernel
theorem dX11_count_103 : decode cX11_count 103 = .ok (.getfield 29, 3) := by decide +kernel
theorem dX11_count_106 : decode cX11_count 106 = .ok (.invokevirtual 373, 3) := by decide +kernel
theorem dX11_count_109 : decode cX11_count 109 = .ok (.ireturn, 1) := by decide +kernel
theorem dX11_count_110 : decode cX11_count 110 = .ok (.aload_n 0, 1) := by decide +kernel
theorem dX11_count_111 : decode cX11_count 111 = .ok (.getfield 29, 3) := by decide +kernel
theorem dX11_count_114 : decode cX11_count 114 = .ok (.getfield 264, 3) := by decide +kernel
theorem dX11_count_117 : decode cX11_count 117 = .ok (.iconst 4, 1) := by decide +kernel
theorem dX11_count_118 : decode cX11_count 118 = .ok (.iaload, 1) := by decide +kernel
theorem dX11_count_119 : decode cX11_count 119 = .ok (.ireturn, 1) := by decide +kernel
theorem dX11_count_120 : decode cX11_count 120 = .ok (.aload_n 0, 1) := by decide +kernel
theorem dX11_count_121 : decode cX11_count 121 = .ok (.getfield 29, 3) := by decide +kernel
theorem dX11_count_124 : decode cX11_count 124 = .ok (.getfield 224, 3) := by decide +kernel
theorem dX11_count_127 : decode cX11_count 127 = .ok (.getfield 376, 3) := by decide +kernel
theorem dX11_count_130 : decode cX11_count 130 = .ok (.ireturn, 1) := by decide +kernel
theorem dX11_count_131 : decode cX11_count 131 = .ok (.aload_n 0, 1) := by decide +kernel
theorem dX11_count_132 : decode cX11_count 132 = .ok (.getfield 36, 3) := by decide +kernel
theorem dX11_count_135 : decode cX11_count 135 = .ok (.getfield 242, 3) := by decide +kernel
theorem dX11_count_138 : decode cX11_count 138 = .ok (.ireturn, 1) := by decide +kernel
theorem dX11_count_139 : decode cX11_count 139 = .ok (.aload_n 0, 1) := by decide +kernel
theorem dX11_count_140 : decode cX11_count 140 = .ok (.getfield 36, 3) := by decide +kernel
theorem dX11_count_143 : decode cX11_count 143 = .ok (.getfield 367, 3) := by decide +kernel
theorem dX11_count_146 : decode cX11_count 146 = .ok (.ireturn, 1) := by decide +kernel
theorem dX11_count_147 : decode cX11_count 147 = .ok (.aload_n 0, 1) := by decide +kernel
theorem dX11_count_148 : decode cX11_count 148 = .ok (.getfield 36, 3) := by decide +kernel
theorem dX11_count_151 : decode cX11_count 151 = .ok (.invokevirtual 379, 3) := by decide +kernel
theorem dX11_count_154 : decode cX11_count 154 = .ok (.ireturn, 1) := by decide +kernel
theorem dX11_count_155 : decode cX11_count 155 = .ok (.aload_n 0, 1) := by decide +kernel
theorem dX11_count_156 : decode cX11_count 156 = .ok (.getfield 36, 3) := by decide +kernel
theorem dX11_count_159 : decode cX11_count 159 = .ok (.getfield 361, 3) := by decide +kernel
theorem dX11_count_162 : decode cX11_count 162 = .ok (.ireturn, 1) := by decide +kernel
theorem dX11_count_163 : decode cX11_count 163 = .ok (.aload_n 0, 1) := by decide +kernel
theorem dX11_count_164 : decode cX11_count 164 = .ok (.getfield 36, 3) := by decide +kernel
theorem dX11_count_167 : decode cX11_count 167 = .ok (.getfield 382, 3) := by decide +kernel
theorem dX11_count_170 : decode cX11_count 170 = .ok (.ireturn, 1) := by decide +kernel
theorem dX11_count_171 : decode cX11_count 171 = .ok (.aload_n 0, 1) := by decide +kernel
theorem dX11_count_172 : decode cX11_count 172 = .ok (.getfield 29, 3) := by decide +kernel
theorem dX11_count_175 : decode cX11_count 175 = .ok (.invokevirtual 373, 3) := by decide +kernel
theorem dX11_count_178 : decode cX11_count 178 = .ok (.aload_n 0, 1) := by decide +kernel
theorem dX11_count_179 : decode cX11_count 179 = .ok (.getfield 36, 3) := by decide +kernel
theorem dX11_count_182 : decode cX11_count 182 = .ok (.iconst (-1), 1) := by decide +kernel
theorem dX11_count_183 : decode cX11_count 183 = .ok (.aload_n 0, 1) := by decide +kernel
theorem dX11_count_184 : decode cX11_count 184 = .ok (.getfield 29, 3) := by decide +kernel
theorem dX11_count_187 : decode cX11_count 187 = .ok (.invokevirtual 189, 3) := by decide +kernel
theorem dX11_count_190 : decode cX11_count 190 = .ok (.isub, 1) := by decide +kernel
theorem dX11_count_191 : decode cX11_count 191 = .ok (.ireturn, 1) := by decide +kernel
theorem dX11_count_192 : decode cX11_count 192 = .ok (.aload_n 0, 1) := by decide +kernel
theorem dX11_count_193 : decode cX11_count 193 = .ok (.getfield 80, 3) := by decide +kernel
theorem dX11_count_196 : decode cX11_count 196 = .ok (.getfield 344, 3) := by decide +kernel
theorem dX11_count_199 : decode cX11_count 199 = .ok (.ireturn, 1) := by decide +kernel
theorem dX11_count_200 : decode cX11_count 200 = .ok (.aload_n 0, 1) := by decide +kernel
theorem dX11_count_201 : decode cX11_count 201 = .ok (.getfield 80, 3) := by decide +kernel
theorem dX11_count_204 : decode cX11_count 204 = .ok (.invokevirtual 385, 3) := by decide +kernel
theorem dX11_count_207 : decode cX11_count 207 = .ok (.ireturn, 1) := by decide +kernel
theorem dX11_count_208 : decode cX11_count 208 = .ok (.aload_n 0, 1) := by decide +kernel
theorem dX11_count_209 : decode cX11_count 209 = .ok (.getfield 73, 3) := by decide +kernel
theorem dX11_count_212 : decode cX11_count 212 = .ok (.getfield 118, 3) := by decide +kernel
theorem dX11_count_215 : decode cX11_count 215 = .ok (.ireturn, 1) := by decide +kernel
theorem dX11_count_216 : decode cX11_count 216 = .ok (.iconst (-1), 1) := by decide +kernel
theorem dX11_count_217 : decode cX11_count 217 = .ok (.ireturn, 1) := by decide +kernel
