theorem dX7_init_0 : decode cX7_init 0 = .ok (.aload_n 0, 1) := by decide +kernel
theorem dX7_init_1 : decode cX7_init 1 = .ok (.invokespecial 3, 3) := by decide +kernel
theorem dX7_init_4 : decode cX7_init 4 = .ok (.aload_n 0, 1) := by decide +kernel
theorem dX7_init_5 : decode cX7_init 5 = .ok (.new 9, 3) := by decide +kernel
theorem dX7_init_8 : decode cX7_init 8 = .ok (.dup, 1) := by decide +kernel
theorem dX7_init_9 : decode cX7_init 9 = .ok (.invokespecial 11, 3) := by decide +kernel
theorem dX7_init_12 : decode cX7_init 12 = .ok (.putfield 12, 3) := by decide +kernel
theorem dX7_init_15 : decode cX7_init 15 = .ok (.aload_n 0, 1) := by decide +kernel
theorem dX7_init_16 : decode cX7_init 16 = .ok (.new 18, 3) := by decide +kernel
theorem dX7_init_19 : decode cX7_init 19 = .ok (.dup, 1) := by decide +kernel
theorem dX7_init_20 : decode cX7_init 20 = .ok (.invokespecial 20, 3) := by decide +kernel
theorem dX7_init_23 : decode cX7_init 23 = .ok (.putfield 21, 3) := by decide +kernel
theorem dX7_init_26 : decode cX7_init 26 = .ok (.aload_n 0, 1) := by decide +kernel
theorem dX7_init_27 : decode cX7_init 27 = .ok (.iconst 0, 1) := by decide +kernel
theorem dX7_init_28 : decode cX7_init 28 = .ok (.putfield 25, 3) := by decide +kernel
theorem dX7_init_31 : decode cX7_init 31 = .ok (.aload_n 0, 1) := by decide +kernel
theorem dX7_init_32 : decode cX7_init 32 = .ok (.iconst 0, 1) := by decide +kernel
theorem dX7_init_33 : decode cX7_init 33 = .ok (.putfield 29, 3) := by decide +kernel
theorem dX7_init_36 : decode cX7_init 36 = .ok (.aload_n 0, 1) := by decide +kernel
theorem dX7_init_37 : decode cX7_init 37 = .ok (.iconst 0, 1) := by decide +kernel
theorem dX7_init_38 : decode cX7_init 38 = .ok (.putfield 32, 3) := by decide +kernel
theorem dX7_init_41 : decode cX7_init 41 = .ok (.aload_n 0, 1) := by decide +kernel
theorem dX7_init_42 : decode cX7_init 42 = .ok (.iconst 0, 1) := by decide +kernel
theorem dX7_init_43 : decode cX7_init 43 = .ok (.putfield 35, 3) := by decide +kernel
theorem dX7_init_46 : decode cX7_init 46 = .ok (.aload_n 0, 1) := by decide +kernel
theorem dX7_init_47 : decode cX7_init 47 = .ok (.iconst (-1), 1) := by decide +kernel
theorem dX7_init_48 : decode cX7_init 48 = .ok (.putfield 38, 3) := by decide +kernel
theorem dX7_init_51 : decode cX7_init 51 = .ok (.return_, 1) := by decide +kernel
theorem dX7_read_0 : decode cX7_read 0 = .ok (.aload_n 0, 1) := by decide +kernel
theorem dX7_read_1 : decode cX7_read 1 = .ok (.getfield 12, 3) := by decide +kernel
theorem dX7_read_4 : decode cX7_read 4 = .ok (.aload_n 1, 1) := by decide +kernel
theorem dX7_read_5 : decode cX7_read 5 = .ok (.iload_n 2, 1) := by decide +kernel
theorem dX7_read_6 : decode cX7_read 6 = .ok (.invokevirtual 41, 3) := by decide +kernel
theorem dX7_read_9 : decode cX7_read 9 = .ok (.aload_n 0, 1) := by decide +kernel
theorem dX7_read_10 : decode cX7_read 10 = .ok (.getfield 21, 3) := by decide +kernel
theorem dX7_read_13 : decode cX7_read 13 = .ok (.invokevirtual 45, 3) := by decide +kernel
theorem dX7_read_16 : decode cX7_read 16 = .ok (.aload_n 0, 1) := by decide +kernel
theorem dX7_read_17 : decode cX7_read 17 = .ok (.iconst 0, 1) := by decide +kernel
theorem dX7_read_18 : decode cX7_read 18 = .ok (.putfield 25, 3) := by decide +kernel
theorem dX7_read_21 : decode cX7_read 21 = .ok (.aload_n 0, 1) := by decide +kernel
theorem dX7_read_22 : decode cX7_read 22 = .ok (.iconst 0, 1) := by decide +kernel
theorem dX7_read_23 : decode cX7_read 23 = .ok (.putfield 35, 3) := by decide +kernel
theorem dX7_read_26 : decode cX7_read 26 = .ok (.aload_n 0, 1) := by decide +kernel
theorem dX7_read_27 : decode cX7_read 27 = .ok (.iconst (-1), 1) := by decide +kernel
theorem dX7_read_28 : decode cX7_read 28 = .ok (.putfield 38, 3) := by decide +kernel
theorem dX7_read_31 : decode cX7_read 31 = .ok (.aload_n 0, 1) := by decide +kernel
theorem dX7_read_32 : decode cX7_read 32 = .ok (.iconst 0, 1) := by decide +kernel
theorem dX7_read_33 : decode cX7_read 33 = .ok (.putfield 32, 3) := by decide +kernel
theorem dX7_read_36 : decode cX7_read 36 = .ok (.iconst 0, 1) := by decide +kernel
theorem dX7_read_37 : decode cX7_read 37 = .ok (.istore_n 3, 1) := by decide +kernel
theorem dX7_read_38 : decode cX7_read 38 = .ok (.iload_n 3, 1) := by decide +kernel
theorem dX7_read_39 : decode cX7_read 39 = .ok (.aload_n 0, 1) := by decide +kernel
theorem dX7_read_40 : decode cX7_read 40 = .ok (.getfield 12, 3) := by decide +kernel
theorem dX7_read_43 : decode cX7_read 43 = .ok (.getfield 48, 3) := by decide +kernel
theorem dX7_read_46 : decode cX7_read 46 = .ok (.if_icmp .ge 35, 3) := by decide +kernel
theorem dX7_read_49 : decode cX7_read 49 = .ok (.aload_n 0, 1) := by decide +kernel
theorem dX7_read_50 : decode cX7_read 50 = .ok (.invokevirtual 51, 3) := by decide +kernel
theorem dX7_read_53 : decode cX7_read 53 = .ok (.ifCond .eq 28, 3) := by decide +kernel
theorem dX7_read_56 : decode cX7_read 56 = .ok (.aload_n 0, 1) := by decide +kernel
theorem dX7_read_57 : decode cX7_read 57 = .ok (.invokevirtual 55, 3) := by decide +kernel
theorem dX7_read_60 : decode cX7_read 60 = .ok (.ifCond .ne 5, 3) := by decide +kernel
theorem dX7_read_63 : decode cX7_read 63 = .ok (.iconst 0, 1) := by decide +kernel
theorem dX7_read_64 : decode cX7_read 64 = .ok (.ireturn, 1) := by decide +kernel
theorem dX7_read_65 : decode cX7_read 65 = .ok (.aload_n 0, 1) := by decide +kernel
theorem dX7_read_66 : decode cX7_read 66 = .ok (.dup, 1) := by decide +kernel
theorem dX7_read_67 : decode cX7_read 67 = .ok (.getfield 32, 3) := by decide +kernel
theorem dX7_read_70 : decode cX7_read 70 = .ok (.iconst 1, 1) := by decide +kernel
theorem dX7_read_71 : decode cX7_read 71 = .ok (.iadd, 1) := by decide +kernel
theorem dX7_read_72 : decode cX7_read 72 = .ok (.putfield 32, 3) := by decide +kernel
theorem dX7_read_75 : decode cX7_read 75 = .ok (.iinc 3 1, 3) := by decide +kernel
theorem dX7_read_78 : decode cX7_read 78 = .ok (.goto (-40), 3) := by decide +kernel
theorem dX7_read_81 : decode cX7_read 81 = .ok (.iconst 1, 1) := by decide +kernel
theorem dX7_read_82 : decode cX7_read 82 = .ok (.ireturn, 1) := by decide +kernel
theorem dX7_kind_0 : decode cX7_kind 0 = .ok (.aload_n 0, 1) := by decide +kernel
theorem dX7_kind_1 : decode cX7_kind 1 = .ok (.getfield 25, 3) := by decide +kernel
theorem dX7_kind_4 : decode cX7_kind 4 = .ok (.ifCond .lt 32, 3) := by decide +kernel
theorem dX7_kind_7 : decode cX7_kind 7 = .ok (.aload_n 0, 1) := by decide +kernel
theorem dX7_kind_8 : decode cX7_kind 8 = .ok (.getfield 25, 3) := by decide +kernel
theorem dX7_kind_11 : decode cX7_kind 11 = .ok (.aload_n 0, 1) := by decide +kernel
theorem dX7_kind_12 : decode cX7_kind 12 = .ok (.getfield 12, 3) := by decide +kernel
theorem dX7_kind_15 : decode cX7_kind 15 = .ok (.getfield 48, 3) := by decide +kernel
theorem dX7_kind_18 : decode cX7_kind 18 = .ok (.if_icmp .ge 18, 3) := by decide +kernel
theorem dX7_kind_21 : decode cX7_kind 21 = .ok (.aload_n 0, 1) := by decide +kernel
theorem dX7_kind_22 : decode cX7_kind 22 = .ok (.getfield 12, 3) := by decide +kernel
theorem dX7_kind_25 : decode cX7_kind 25 = .ok (.getfield 59, 3) := by decide +kernel
theorem dX7_kind_28 : decode cX7_kind 28 = .ok (.aload_n 0, 1) := by decide +kernel
theorem dX7_kind_29 : decode cX7_kind 29 = .ok (.getfield 25, 3) := by decide +kernel
theorem dX7_kind_32 : decode cX7_kind 32 = .ok (.iaload, 1) := by decide +kernel
theorem dX7_kind_33 : decode cX7_kind 33 = .ok (.goto 4, 3) := by decide +kernel
theorem dX7_kind_36 : decode cX7_kind 36 = .ok (.iconst 0, 1) := by decide +kernel
theorem dX7_kind_37 : decode cX7_kind 37 = .ok (.ireturn, 1) := by decide +kernel
theorem dX7_value_0 : decode cX7_value 0 = .ok (.aload_n 0, 1) := by decide +kernel
theorem dX7_value_1 : decode cX7_value 1 = .ok (.getfield 25, 3) := by decide +kernel
theorem dX7_value_4 : decode cX7_value 4 = .ok (.ifCond .lt 32, 3) := by decide +kernel
theorem dX7_value_7 : decode cX7_value 7 = .ok (.aload_n 0, 1) := by decide +kernel
theorem dX7_value_8 : decode cX7_value 8 = .ok (.getfield 25, 3) := by decide +kernel
theorem dX7_value_11 : decode cX7_value 11 = .ok (.aload_n 0, 1) := by decide +kernel
theorem dX7_value_12 : decode cX7_value 12 = .ok (.getfield 12, 3) := by decide +kernel
theorem dX7_value_15 : decode cX7_value 15 = .ok (.getfield 48, 3) := by decide +kernel
theorem dX7_value_18 : decode cX7_value 18 = .ok (.if_icmp .ge 18, 3) := by decide +kernel
theorem dX7_value_21 : decode cX7_value 21 = .ok (.aload_n 0, 1) := by decide +kernel
theorem dX7_value_22 : decode cX7_value 22 = .ok (.getfield 12, 3) := by decide +kernel
theorem dX7_value_25 : decode cX7_value 25 = .ok (.getfield 62, 3) := by decide +kernel
theorem dX7_value_28 : decode cX7_value 28 = .ok (.aload_n 0, 1) := by decide +kernel
theorem dX7_value_29 : decode cX7_value 29 = .ok (.getfield 25, 3) := by decide +kernel
theorem dX7_value_32 : decode cX7_value 32 = .ok (.iaload, 1) := by decide +kernel
theorem dX7_value_33 : decode cX7_value 33 = .ok (.goto 4, 3) := by decide +kernel
theorem dX7_value_36 : decode cX7_value 36 = .ok (.iconst 0, 1) := by decide +kernel
theorem dX7_value_37 : decode cX7_value 37 = .ok (.ireturn, 1) := by decide +kernel
theorem dX7_refuse_0 : decode cX7_refuse 0 = .ok (.aload_n 0, 1) := by decide +kernel
theorem dX7_refuse_1 : decode cX7_refuse 1 = .ok (.iload_n 1, 1) := by decide +kernel
theorem dX7_refuse_2 : decode cX7_refuse 2 = .ok (.putfield 35, 3) := by decide +kernel
theorem dX7_refuse_5 : decode cX7_refuse 5 = .ok (.aload_n 0, 1) := by decide +kernel
theorem dX7_refuse_6 : decode cX7_refuse 6 = .ok (.aload_n 0, 1) := by decide +kernel
theorem dX7_refuse_7 : decode cX7_refuse 7 = .ok (.getfield 25, 3) := by decide +kernel
theorem dX7_refuse_10 : decode cX7_refuse 10 = .ok (.ifCond .lt 32, 3) := by decide +kernel
theorem dX7_refuse_13 : decode cX7_refuse 13 = .ok (.aload_n 0, 1) := by decide +kernel
theorem dX7_refuse_14 : decode cX7_refuse 14 = .ok (.getfield 25, 3) := by decide +kernel
theorem dX7_refuse_17 : decode cX7_refuse 17 = .ok (.aload_n 0, 1) := by decide +kernel
theorem dX7_refuse_18 : decode cX7_refuse 18 = .ok (.getfield 12, 3) := by decide +kernel
theorem dX7_refuse_21 : decode cX7_refuse 21 = .ok (.getfield 48, 3) := by decide +kernel
theorem dX7_refuse_24 : decode cX7_refuse 24 = .ok (.if_icmp .ge 18, 3) := by decide +kernel
theorem dX7_refuse_27 : decode cX7_refuse 27 = .ok (.aload_n 0, 1) := by decide +kernel
theorem dX7_refuse_28 : decode cX7_refuse 28 = .ok (.getfield 12, 3) := by decide +kernel
theorem dX7_refuse_31 : decode cX7_refuse 31 = .ok (.getfield 65, 3) := by decide +kernel
theorem dX7_refuse_34 : decode cX7_refuse 34 = .ok (.aload_n 0, 1) := by decide +kernel
theorem dX7_refuse_35 : decode cX7_refuse 35 = .ok (.getfield 25, 3) := by decide +kernel
theorem dX7_refuse_38 : decode cX7_refuse 38 = .ok (.iaload, 1) := by decide +kernel
theorem dX7_refuse_39 : decode cX7_refuse 39 = .ok (.goto 4, 3) := by decide +kernel
theorem dX7_refuse_42 : decode cX7_refuse 42 = .ok (.iconst (-1), 1) := by decide +kernel
theorem dX7_refuse_43 : decode cX7_refuse 43 = .ok (.putfield 38, 3) := by decide +kernel
theorem dX7_refuse_46 : decode cX7_refuse 46 = .ok (.iconst 0, 1) := by decide +kernel
theorem dX7_refuse_47 : decode cX7_refuse 47 = .ok (.ireturn, 1) := by decide +kernel
theorem dX7_expect_0 : decode cX7_expect 0 = .ok (.aload_n 0, 1) := by decide +kernel
theorem dX7_expect_1 : decode cX7_expect 1 = .ok (.invokevirtual 51, 3) := by decide +kernel
theorem dX7_expect_4 : decode cX7_expect 4 = .ok (.iload_n 1, 1) := by decide +kernel
theorem dX7_expect_5 : decode cX7_expect 5 = .ok (.if_icmp .eq 9, 3) := by decide +kernel
theorem dX7_expect_8 : decode cX7_expect 8 = .ok (.aload_n 0, 1) := by decide +kernel
theorem dX7_expect_9 : decode cX7_expect 9 = .ok (.iconst 1, 1) := by decide +kernel
theorem dX7_expect_10 : decode cX7_expect 10 = .ok (.invokevirtual 68, 3) := by decide +kernel
theorem dX7_expect_13 : decode cX7_expect 13 = .ok (.ireturn, 1) := by decide +kernel
theorem dX7_expect_14 : decode cX7_expect 14 = .ok (.aload_n 0, 1) := by decide +kernel
theorem dX7_expect_15 : decode cX7_expect 15 = .ok (.dup, 1) := by decide +kernel
theorem dX7_expect_16 : decode cX7_expect 16 = .ok (.getfield 25, 3) := by decide +kernel
theorem dX7_expect_19 : decode cX7_expect 19 = .ok (.iconst 1, 1) := by decide +kernel
theorem dX7_expect_20 : decode cX7_expect 20 = .ok (.iadd, 1) := by decide +kernel
theorem dX7_expect_21 : decode cX7_expect 21 = .ok (.putfield 25, 3) := by decide +kernel
theorem dX7_expect_24 : decode cX7_expect 24 = .ok (.iconst 1, 1) := by decide +kernel
theorem dX7_expect_25 : decode cX7_expect 25 = .ok (.ireturn, 1) := by decide +kernel
theorem dX7_readNumber_0 : decode cX7_readNumber 0 = .ok (.aload_n 0, 1) := by decide +kernel
theorem dX7_readNumber_1 : decode cX7_readNumber 1 = .ok (.invokevirtual 51, 3) := by decide +kernel
theorem dX7_readNumber_4 : decode cX7_readNumber 4 = .ok (.iconst 2, 1) := by decide +kernel
theorem dX7_readNumber_5 : decode cX7_readNumber 5 = .ok (.if_icmp .eq 9, 3) := by decide +kernel
theorem dX7_readNumber_8 : decode cX7_readNumber 8 = .ok (.aload_n 0, 1) := by decide +kernel
theorem dX7_readNumber_9 : decode cX7_readNumber 9 = .ok (.iconst 1, 1) := by decide +kernel
theorem dX7_readNumber_10 : decode cX7_readNumber 10 = .ok (.invokevirtual 68, 3) := by decide +kernel
theorem dX7_readNumber_13 : decode cX7_readNumber 13 = .ok (.ireturn, 1) := by decide +kernel
theorem dX7_readNumber_14 : decode cX7_readNumber 14 = .ok (.aload_n 0, 1) := by decide +kernel
theorem dX7_readNumber_15 : decode cX7_readNumber 15 = .ok (.aload_n 0, 1) := by decide +kernel
theorem dX7_readNumber_16 : decode cX7_readNumber 16 = .ok (.invokevirtual 72, 3) := by decide +kernel
theorem dX7_readNumber_19 : decode cX7_readNumber 19 = .ok (.putfield 29, 3) := by decide +kernel
theorem dX7_readNumber_22 : decode cX7_readNumber 22 = .ok (.aload_n 0, 1) := by decide +kernel
theorem dX7_readNumber_23 : decode cX7_readNumber 23 = .ok (.getfield 29, 3) := by decide +kernel
theorem dX7_readNumber_26 : decode cX7_readNumber 26 = .ok (.iload_n 1, 1) := by decide +kernel
theorem dX7_readNumber_27 : decode cX7_readNumber 27 = .ok (.if_icmp .lt 11, 3) := by decide +kernel
theorem dX7_readNumber_30 : decode cX7_readNumber 30 = .ok (.aload_n 0, 1) := by decide +kernel
theorem dX7_readNumber_31 : decode cX7_readNumber 31 = .ok (.getfield 29, 3) := by decide +kernel
theorem dX7_readNumber_34 : decode cX7_readNumber 34 = .ok (.iload_n 2, 1) := by decide +kernel
theorem dX7_readNumber_35 : decode cX7_readNumber 35 = .ok (.if_icmp .le 9, 3) := by decide +kernel
theorem dX7_readNumber_38 : decode cX7_readNumber 38 = .ok (.aload_n 0, 1) := by decide +kernel
theorem dX7_readNumber_39 : decode cX7_readNumber 39 = .ok (.iconst 2, 1) := by decide +kernel
theorem dX7_readNumber_40 : decode cX7_readNumber 40 = .ok (.invokevirtual 68, 3) := by decide +kernel
theorem dX7_readNumber_43 : decode cX7_readNumber 43 = .ok (.ireturn, 1) := by decide +kernel
theorem dX7_readNumber_44 : decode cX7_readNumber 44 = .ok (.aload_n 0, 1) := by decide +kernel
theorem dX7_readNumber_45 : decode cX7_readNumber 45 = .ok (.dup, 1) := by decide +kernel
theorem dX7_readNumber_46 : decode cX7_readNumber 46 = .ok (.getfield 25, 3) := by decide +kernel
theorem dX7_readNumber_49 : decode cX7_readNumber 49 = .ok (.iconst 1, 1) := by decide +kernel
theorem dX7_readNumber_50 : decode cX7_readNumber 50 = .ok (.iadd, 1) := by decide +kernel
theorem dX7_readNumber_51 : decode cX7_readNumber 51 = .ok (.putfield 25, 3) := by decide +kernel
theorem dX7_readNumber_54 : decode cX7_readNumber 54 = .ok (.iconst 1, 1) := by decide +kernel
theorem dX7_readNumber_55 : decode cX7_readNumber 55 = .ok (.ireturn, 1) := by decide +kernel
theorem dX7_readLine_0 : decode cX7_readLine 0 = .ok (.aload_n 0, 1) := by decide +kernel
theorem dX7_readLine_1 : decode cX7_readLine 1 = .ok (.invokevirtual 51, 3) := by decide +kernel
theorem dX7_readLine_4 : decode cX7_readLine 4 = .ok (.istore_n 2, 1) := by decide +kernel
theorem dX7_readLine_5 : decode cX7_readLine 5 = .ok (.iload_n 2, 1) := by decide +kernel
theorem dX7_readLine_6 : decode cX7_readLine 6 = .ok (.bipush 38, 2) := by decide +kernel
theorem dX7_readLine_8 : decode cX7_readLine 8 = .ok (.if_icmp .ne 11, 3) := by decide +kernel
theorem dX7_readLine_11 : decode cX7_readLine 11 = .ok (.aload_n 0, 1) := by decide +kernel
theorem dX7_readLine_12 : decode cX7_readLine 12 = .ok (.invokevirtual 74, 3) := by decide +kernel
theorem dX7_readLine_15 : decode cX7_readLine 15 = .ok (.istore_n 1, 1) := by decide +kernel
theorem dX7_readLine_16 : decode cX7_readLine 16 = .ok (.goto 61, 3) := by decide +kernel
theorem dX7_readLine_19 : decode cX7_readLine 19 = .ok (.iload_n 2, 1) := by decide +kernel
theorem dX7_readLine_20 : decode cX7_readLine 20 = .ok (.bipush 39, 2) := by decide +kernel
theorem dX7_readLine_22 : decode cX7_readLine 22 = .ok (.if_icmp .ne 11, 3) := by decide +kernel
theorem dX7_readLine_25 : decode cX7_readLine 25 = .ok (.aload_n 0, 1) := by decide +kernel
theorem dX7_readLine_26 : decode cX7_readLine 26 = .ok (.invokevirtual 77, 3) := by decide +kernel
theorem dX7_readLine_29 : decode cX7_readLine 29 = .ok (.istore_n 1, 1) := by decide +kernel
theorem dX7_readLine_30 : decode cX7_readLine 30 = .ok (.goto 47, 3) := by decide +kernel
theorem dX7_readLine_33 : decode cX7_readLine 33 = .ok (.iload_n 2, 1) := by decide +kernel
theorem dX7_readLine_34 : decode cX7_readLine 34 = .ok (.bipush 40, 2) := by decide +kernel
theorem dX7_readLine_36 : decode cX7_readLine 36 = .ok (.if_icmp .ne 11, 3) := by decide +kernel
theorem dX7_readLine_39 : decode cX7_readLine 39 = .ok (.aload_n 0, 1) := by decide +kernel
theorem dX7_readLine_40 : decode cX7_readLine 40 = .ok (.invokevirtual 80, 3) := by decide +kernel
theorem dX7_readLine_43 : decode cX7_readLine 43 = .ok (.istore_n 1, 1) := by decide +kernel
theorem dX7_readLine_44 : decode cX7_readLine 44 = .ok (.goto 33, 3) := by decide +kernel
theorem dX7_readLine_47 : decode cX7_readLine 47 = .ok (.iload_n 2, 1) := by decide +kernel
theorem dX7_readLine_48 : decode cX7_readLine 48 = .ok (.bipush 32, 2) := by decide +kernel
theorem dX7_readLine_50 : decode cX7_readLine 50 = .ok (.if_icmp .lt 21, 3) := by decide +kernel
theorem dX7_readLine_53 : decode cX7_readLine 53 = .ok (.iload_n 2, 1) := by decide +kernel
theorem dX7_readLine_54 : decode cX7_readLine 54 = .ok (.bipush 38, 2) := by decide +kernel
theorem dX7_readLine_56 : decode cX7_readLine 56 = .ok (.if_icmp .ge 15, 3) := by decide +kernel
theorem dX7_readLine_59 : decode cX7_readLine 59 = .ok (.aload_n 0, 1) := by decide +kernel
theorem dX7_readLine_60 : decode cX7_readLine 60 = .ok (.iload_n 2, 1) := by decide +kernel
theorem dX7_readLine_61 : decode cX7_readLine 61 = .ok (.bipush 32, 2) := by decide +kernel
theorem dX7_readLine_63 : decode cX7_readLine 63 = .ok (.isub, 1) := by decide +kernel
theorem dX7_readLine_64 : decode cX7_readLine 64 = .ok (.invokevirtual 83, 3) := by decide +kernel
theorem dX7_readLine_67 : decode cX7_readLine 67 = .ok (.istore_n 1, 1) := by decide +kernel
theorem dX7_readLine_68 : decode cX7_readLine 68 = .ok (.goto 9, 3) := by decide +kernel
theorem dX7_readLine_71 : decode cX7_readLine 71 = .ok (.aload_n 0, 1) := by decide +kernel
theorem dX7_readLine_72 : decode cX7_readLine 72 = .ok (.iconst 1, 1) := by decide +kernel
theorem dX7_readLine_73 : decode cX7_readLine 73 = .ok (.invokevirtual 68, 3) := by decide +kernel
theorem dX7_readLine_76 : decode cX7_readLine 76 = .ok (.istore_n 1, 1) := by decide +kernel
theorem dX7_readLine_77 : decode cX7_readLine 77 = .ok (.iload_n 1, 1) := by decide +kernel
theorem dX7_readLine_78 : decode cX7_readLine 78 = .ok (.ifCond .eq 15, 3) := by decide +kernel
theorem dX7_readLine_81 : decode cX7_readLine 81 = .ok (.aload_n 0, 1) := by decide +kernel
theorem dX7_readLine_82 : decode cX7_readLine 82 = .ok (.iconst 4, 1) := by decide +kernel
theorem dX7_readLine_83 : decode cX7_readLine 83 = .ok (.invokevirtual 86, 3) := by decide +kernel
theorem dX7_readLine_86 : decode cX7_readLine 86 = .ok (.ifCond .eq 7, 3) := by decide +kernel
theorem dX7_readLine_89 : decode cX7_readLine 89 = .ok (.iconst 1, 1) := by decide +kernel
theorem dX7_readLine_90 : decode cX7_readLine 90 = .ok (.goto 4, 3) := by decide +kernel
theorem dX7_readLine_93 : decode cX7_readLine 93 = .ok (.iconst 0, 1) := by decide +kernel
theorem dX7_readLine_94 : decode cX7_readLine 94 = .ok (.ireturn, 1) := by decide +kernel
theorem dX7_readParty_0 : decode cX7_readParty 0 = .ok (.aload_n 0, 1) := by decide +kernel
theorem dX7_readParty_1 : decode cX7_readParty 1 = .ok (.getfield 21, 3) := by decide +kernel
theorem dX7_readParty_4 : decode cX7_readParty 4 = .ok (.getfield 89, 3) := by decide +kernel
theorem dX7_readParty_7 : decode cX7_readParty 7 = .ok (.bipush 8, 2) := by decide +kernel
theorem dX7_readParty_9 : decode cX7_readParty 9 = .ok (.if_icmp .lt 9, 3) := by decide +kernel
theorem dX7_readParty_12 : decode cX7_readParty 12 = .ok (.aload_n 0, 1) := by decide +kernel
theorem dX7_readParty_13 : decode cX7_readParty 13 = .ok (.iconst 2, 1) := by decide +kernel
theorem dX7_readParty_14 : decode cX7_readParty 14 = .ok (.invokevirtual 68, 3) := by decide +kernel
theorem dX7_readParty_17 : decode cX7_readParty 17 = .ok (.ireturn, 1) := by decide +kernel
theorem dX7_readParty_18 : decode cX7_readParty 18 = .ok (.aload_n 0, 1) := by decide +kernel
theorem dX7_readParty_19 : decode cX7_readParty 19 = .ok (.dup, 1) := by decide +kernel
theorem dX7_readParty_20 : decode cX7_readParty 20 = .ok (.getfield 25, 3) := by decide +kernel
theorem dX7_readParty_23 : decode cX7_readParty 23 = .ok (.iconst 1, 1) := by decide +kernel
theorem dX7_readParty_24 : decode cX7_readParty 24 = .ok (.iadd, 1) := by decide +kernel
theorem dX7_readParty_25 : decode cX7_readParty 25 = .ok (.putfield 25, 3) := by decide +kernel
theorem dX7_readParty_28 : decode cX7_readParty 28 = .ok (.aload_n 0, 1) := by decide +kernel
theorem dX7_readParty_29 : decode cX7_readParty 29 = .ok (.invokevirtual 51, 3) := by decide +kernel
theorem dX7_readParty_32 : decode cX7_readParty 32 = .ok (.iconst 3, 1) := by decide +kernel
theorem dX7_readParty_33 : decode cX7_readParty 33 = .ok (.if_icmp .eq 9, 3) := by decide +kernel
theorem dX7_readParty_36 : decode cX7_readParty 36 = .ok (.aload_n 0, 1) := by decide +kernel
theorem dX7_readParty_37 : decode cX7_readParty 37 = .ok (.iconst 1, 1) := by decide +kernel
theorem dX7_readParty_38 : decode cX7_readParty 38 = .ok (.invokevirtual 68, 3) := by decide +kernel
theorem dX7_readParty_41 : decode cX7_readParty 41 = .ok (.ireturn, 1) := by decide +kernel
theorem dX7_readParty_42 : decode cX7_readParty 42 = .ok (.aload_n 0, 1) := by decide +kernel
theorem dX7_readParty_43 : decode cX7_readParty 43 = .ok (.invokevirtual 72, 3) := by decide +kernel
theorem dX7_readParty_46 : decode cX7_readParty 46 = .ok (.istore_n 1, 1) := by decide +kernel
theorem dX7_readParty_47 : decode cX7_readParty 47 = .ok (.aload_n 0, 1) := by decide +kernel
theorem dX7_readParty_48 : decode cX7_readParty 48 = .ok (.getfield 21, 3) := by decide +kernel
theorem dX7_readParty_51 : decode cX7_readParty 51 = .ok (.iload_n 1, 1) := by decide +kernel
theorem dX7_readParty_52 : decode cX7_readParty 52 = .ok (.invokevirtual 92, 3) := by decide +kernel
theorem dX7_readParty_55 : decode cX7_readParty 55 = .ok (.iconst (-1), 1) := by decide +kernel
theorem dX7_readParty_56 : decode cX7_readParty 56 = .ok (.if_icmp .eq 9, 3) := by decide +kernel
theorem dX7_readParty_59 : decode cX7_readParty 59 = .ok (.aload_n 0, 1) := by decide +kernel
theorem dX7_readParty_60 : decode cX7_readParty 60 = .ok (.iconst 3, 1) := by decide +kernel
theorem dX7_readParty_61 : decode cX7_readParty 61 = .ok (.invokevirtual 68, 3) := by decide +kernel
theorem dX7_readParty_64 : decode cX7_readParty 64 = .ok (.ireturn, 1) := by decide +kernel
theorem dX7_readParty_65 : decode cX7_readParty 65 = .ok (.aload_n 0, 1) := by decide +kernel
theorem dX7_readParty_66 : decode cX7_readParty 66 = .ok (.dup, 1) := by decide +kernel
theorem dX7_readParty_67 : decode cX7_readParty 67 = .ok (.getfield 25, 3) := by decide +kernel
theorem dX7_readParty_70 : decode cX7_readParty 70 = .ok (.iconst 1, 1) := by decide +kernel
theorem dX7_readParty_71 : decode cX7_readParty 71 = .ok (.iadd, 1) := by decide +kernel
theorem dX7_readParty_72 : decode cX7_readParty 72 = .ok (.putfield 25, 3) := by decide +kernel
theorem dX7_readParty_75 : decode cX7_readParty 75 = .ok (.aload_n 0, 1) := by decide +kernel
theorem dX7_readParty_76 : decode cX7_readParty 76 = .ok (.getfield 21, 3) := by decide +kernel
theorem dX7_readParty_79 : decode cX7_readParty 79 = .ok (.getfield 89, 3) := by decide +kernel
theorem dX7_readParty_82 : decode cX7_readParty 82 = .ok (.istore_n 2, 1) := by decide +kernel
theorem dX7_readParty_83 : decode cX7_readParty 83 = .ok (.iconst 0, 1) := by decide +kernel
theorem dX7_readParty_84 : decode cX7_readParty 84 = .ok (.istore_n 3, 1) := by decide +kernel
theorem dX7_readParty_85 : decode cX7_readParty 85 = .ok (.iload_n 3, 1) := by decide +kernel
theorem dX7_readParty_86 : decode cX7_readParty 86 = .ok (.bipush 7, 2) := by decide +kernel
theorem dX7_readParty_88 : decode cX7_readParty 88 = .ok (.if_icmp .ge 43, 3) := by decide +kernel
theorem dX7_readParty_91 : decode cX7_readParty 91 = .ok (.aload_n 0, 1) := by decide +kernel
theorem dX7_readParty_92 : decode cX7_readParty 92 = .ok (.getstatic 96, 3) := by decide +kernel
theorem dX7_readParty_95 : decode cX7_readParty 95 = .ok (.iload_n 3, 1) := by decide +kernel
theorem dX7_readParty_96 : decode cX7_readParty 96 = .ok (.iaload, 1) := by decide +kernel
theorem dX7_readParty_97 : decode cX7_readParty 97 = .ok (.getstatic 99, 3) := by decide +kernel
theorem dX7_readParty_100 : decode cX7_readParty 100 = .ok (.iload_n 3, 1) := by decide +kernel
theorem dX7_readParty_101 : decode cX7_readParty 101 = .ok (.iaload, 1) := by decide +kernel
theorem dX7_readParty_102 : decode cX7_readParty 102 = .ok (.invokevirtual 102, 3) := by decide +kernel
theorem dX7_readParty_105 : decode cX7_readParty 105 = .ok (.ifCond .ne 5, 3) := by decide +kernel
theorem dX7_readParty_108 : decode cX7_readParty 108 = .ok (.iconst 0, 1) := by decide +kernel
theorem dX7_readParty_109 : decode cX7_readParty 109 = .ok (.ireturn, 1) := by decide +kernel
theorem dX7_readParty_110 : decode cX7_readParty 110 = .ok (.aload_n 0, 1) := by decide +kernel
theorem dX7_readParty_111 : decode cX7_readParty 111 = .ok (.getfield 21, 3) := by decide +kernel
theorem dX7_readParty_114 : decode cX7_readParty 114 = .ok (.getfield 106, 3) := by decide +kernel
theorem dX7_readParty_117 : decode cX7_readParty 117 = .ok (.iload_n 2, 1) := by decide +kernel
theorem dX7_readParty_118 : decode cX7_readParty 118 = .ok (.aaload, 1) := by decide +kernel
theorem dX7_readParty_119 : decode cX7_readParty 119 = .ok (.iload_n 3, 1) := by decide +kernel
theorem dX7_readParty_120 : decode cX7_readParty 120 = .ok (.aload_n 0, 1) := by decide +kernel
theorem dX7_readParty_121 : decode cX7_readParty 121 = .ok (.getfield 29, 3) := by decide +kernel
theorem dX7_readParty_124 : decode cX7_readParty 124 = .ok (.iastore, 1) := by decide +kernel
theorem dX7_readParty_125 : decode cX7_readParty 125 = .ok (.iinc 3 1, 3) := by decide +kernel
theorem dX7_readParty_128 : decode cX7_readParty 128 = .ok (.goto (-43), 3) := by decide +kernel
theorem dX7_readParty_131 : decode cX7_readParty 131 = .ok (.aload_n 0, 1) := by decide +kernel
theorem dX7_readParty_132 : decode cX7_readParty 132 = .ok (.getfield 21, 3) := by decide +kernel
theorem dX7_readParty_135 : decode cX7_readParty 135 = .ok (.getfield 110, 3) := by decide +kernel
theorem dX7_readParty_138 : decode cX7_readParty 138 = .ok (.iload_n 2, 1) := by decide +kernel
theorem dX7_readParty_139 : decode cX7_readParty 139 = .ok (.iload_n 1, 1) := by decide +kernel
theorem dX7_readParty_140 : decode cX7_readParty 140 = .ok (.iastore, 1) := by decide +kernel
theorem dX7_readParty_141 : decode cX7_readParty 141 = .ok (.aload_n 0, 1) := by decide +kernel
theorem dX7_readParty_142 : decode cX7_readParty 142 = .ok (.getfield 21, 3) := by decide +kernel
theorem dX7_readParty_145 : decode cX7_readParty 145 = .ok (.dup, 1) := by decide +kernel
theorem dX7_readParty_146 : decode cX7_readParty 146 = .ok (.getfield 89, 3) := by decide +kernel
theorem dX7_readParty_149 : decode cX7_readParty 149 = .ok (.iconst 1, 1) := by decide +kernel
theorem dX7_readParty_150 : decode cX7_readParty 150 = .ok (.iadd, 1) := by decide +kernel
theorem dX7_readParty_151 : decode cX7_readParty 151 = .ok (.putfield 89, 3) := by decide +kernel
theorem dX7_readParty_154 : decode cX7_readParty 154 = .ok (.iconst 1, 1) := by decide +kernel
theorem dX7_readParty_155 : decode cX7_readParty 155 = .ok (.ireturn, 1) := by decide +kernel
theorem dX7_readSitting_0 : decode cX7_readSitting 0 = .ok (.aload_n 0, 1) := by decide +kernel
theorem dX7_readSitting_1 : decode cX7_readSitting 1 = .ok (.getfield 21, 3) := by decide +kernel
theorem dX7_readSitting_4 : decode cX7_readSitting 4 = .ok (.getfield 113, 3) := by decide +kernel
theorem dX7_readSitting_7 : decode cX7_readSitting 7 = .ok (.istore_n 1, 1) := by decide +kernel
theorem dX7_readSitting_8 : decode cX7_readSitting 8 = .ok (.iload_n 1, 1) := by decide +kernel
theorem dX7_readSitting_9 : decode cX7_readSitting 9 = .ok (.iconst 3, 1) := by decide +kernel
theorem dX7_readSitting_10 : decode cX7_readSitting 10 = .ok (.if_icmp .lt 9, 3) := by decide +kernel
theorem dX7_readSitting_13 : decode cX7_readSitting 13 = .ok (.aload_n 0, 1) := by decide +kernel
theorem dX7_readSitting_14 : decode cX7_readSitting 14 = .ok (.iconst 2, 1) := by decide +kernel
theorem dX7_readSitting_15 : decode cX7_readSitting 15 = .ok (.invokevirtual 68, 3) := by decide +kernel
theorem dX7_readSitting_18 : decode cX7_readSitting 18 = .ok (.ireturn, 1) := by decide +kernel
theorem dX7_readSitting_19 : decode cX7_readSitting 19 = .ok (.aload_n 0, 1) := by decide +kernel
theorem dX7_readSitting_20 : decode cX7_readSitting 20 = .ok (.dup, 1) := by decide +kernel
theorem dX7_readSitting_21 : decode cX7_readSitting 21 = .ok (.getfield 25, 3) := by decide +kernel
theorem dX7_readSitting_24 : decode cX7_readSitting 24 = .ok (.iconst 1, 1) := by decide +kernel
theorem dX7_readSitting_25 : decode cX7_readSitting 25 = .ok (.iadd, 1) := by decide +kernel
theorem dX7_readSitting_26 : decode cX7_readSitting 26 = .ok (.putfield 25, 3) := by decide +kernel
theorem dX7_readSitting_29 : decode cX7_readSitting 29 = .ok (.iload_n 1, 1) := by decide +kernel
theorem dX7_readSitting_30 : decode cX7_readSitting 30 = .ok (.ifCond .le 19, 3) := by decide +kernel
theorem dX7_readSitting_33 : decode cX7_readSitting 33 = .ok (.aload_n 0, 1) := by decide +kernel
theorem dX7_readSitting_34 : decode cX7_readSitting 34 = .ok (.getfield 21, 3) := by decide +kernel
theorem dX7_readSitting_37 : decode cX7_readSitting 37 = .ok (.getfield 116, 3) := by decide +kernel
theorem dX7_readSitting_40 : decode cX7_readSitting 40 = .ok (.iload_n 1, 1) := by decide +kernel
theorem dX7_readSitting_41 : decode cX7_readSitting 41 = .ok (.iconst 1, 1) := by decide +kernel
theorem dX7_readSitting_42 : decode cX7_readSitting 42 = .ok (.isub, 1) := by decide +kernel
theorem dX7_readSitting_43 : decode cX7_readSitting 43 = .ok (.iaload, 1) := by decide +kernel
theorem dX7_readSitting_44 : decode cX7_readSitting 44 = .ok (.iconst 1, 1) := by decide +kernel
theorem dX7_readSitting_45 : decode cX7_readSitting 45 = .ok (.iadd, 1) := by decide +kernel
theorem dX7_readSitting_46 : decode cX7_readSitting 46 = .ok (.goto 4, 3) := by decide +kernel
theorem dX7_readSitting_49 : decode cX7_readSitting 49 = .ok (.iconst 0, 1) := by decide +kernel
theorem dX7_readSitting_50 : decode cX7_readSitting 50 = .ok (.istore_n 2, 1) := by decide +kernel
theorem dX7_readSitting_51 : decode cX7_readSitting 51 = .ok (.aload_n 0, 1) := by decide +kernel
theorem dX7_readSitting_52 : decode cX7_readSitting 52 = .ok (.iload_n 2, 1) := by decide +kernel
theorem dX7_readSitting_53 : decode cX7_readSitting 53 = .ok (.sipush 999, 3) := by decide +kernel
theorem dX7_readSitting_56 : decode cX7_readSitting 56 = .ok (.invokevirtual 102, 3) := by decide +kernel
theorem dX7_readSitting_59 : decode cX7_readSitting 59 = .ok (.ifCond .ne 5, 3) := by decide +kernel
theorem dX7_readSitting_62 : decode cX7_readSitting 62 = .ok (.iconst 0, 1) := by decide +kernel
theorem dX7_readSitting_63 : decode cX7_readSitting 63 = .ok (.ireturn, 1) := by decide +kernel
theorem dX7_readSitting_64 : decode cX7_readSitting 64 = .ok (.aload_n 0, 1) := by decide +kernel
theorem dX7_readSitting_65 : decode cX7_readSitting 65 = .ok (.getfield 21, 3) := by decide +kernel
theorem dX7_readSitting_68 : decode cX7_readSitting 68 = .ok (.getfield 116, 3) := by decide +kernel
theorem dX7_readSitting_71 : decode cX7_readSitting 71 = .ok (.iload_n 1, 1) := by decide +kernel
theorem dX7_readSitting_72 : decode cX7_readSitting 72 = .ok (.aload_n 0, 1) := by decide +kernel
theorem dX7_readSitting_73 : decode cX7_readSitting 73 = .ok (.getfield 29, 3) := by decide +kernel
theorem dX7_readSitting_76 : decode cX7_readSitting 76 = .ok (.iastore, 1) := by decide +kernel
theorem dX7_readSitting_77 : decode cX7_readSitting 77 = .ok (.aload_n 0, 1) := by decide +kernel
theorem dX7_readSitting_78 : decode cX7_readSitting 78 = .ok (.iconst 0, 1) := by decide +kernel
theorem dX7_readSitting_79 : decode cX7_readSitting 79 = .ok (.bipush 99, 2) := by decide +kernel
theorem dX7_readSitting_81 : decode cX7_readSitting 81 = .ok (.invokevirtual 102, 3) := by decide +kernel
theorem dX7_readSitting_84 : decode cX7_readSitting 84 = .ok (.ifCond .ne 5, 3) := by decide +kernel
theorem dX7_readSitting_87 : decode cX7_readSitting 87 = .ok (.iconst 0, 1) := by decide +kernel
theorem dX7_readSitting_88 : decode cX7_readSitting 88 = .ok (.ireturn, 1) := by decide +kernel
theorem dX7_readSitting_89 : decode cX7_readSitting 89 = .ok (.aload_n 0, 1) := by decide +kernel
theorem dX7_readSitting_90 : decode cX7_readSitting 90 = .ok (.getfield 21, 3) := by decide +kernel
theorem dX7_readSitting_93 : decode cX7_readSitting 93 = .ok (.getfield 119, 3) := by decide +kernel
theorem dX7_readSitting_96 : decode cX7_readSitting 96 = .ok (.iload_n 1, 1) := by decide +kernel
theorem dX7_readSitting_97 : decode cX7_readSitting 97 = .ok (.aload_n 0, 1) := by decide +kernel
theorem dX7_readSitting_98 : decode cX7_readSitting 98 = .ok (.getfield 29, 3) := by decide +kernel
theorem dX7_readSitting_101 : decode cX7_readSitting 101 = .ok (.iastore, 1) := by decide +kernel
theorem dX7_readSitting_102 : decode cX7_readSitting 102 = .ok (.aload_n 0, 1) := by decide +kernel
theorem dX7_readSitting_103 : decode cX7_readSitting 103 = .ok (.getfield 21, 3) := by decide +kernel
theorem dX7_readSitting_106 : decode cX7_readSitting 106 = .ok (.dup, 1) := by decide +kernel
theorem dX7_readSitting_107 : decode cX7_readSitting 107 = .ok (.getfield 113, 3) := by decide +kernel
theorem dX7_readSitting_110 : decode cX7_readSitting 110 = .ok (.iconst 1, 1) := by decide +kernel
theorem dX7_readSitting_111 : decode cX7_readSitting 111 = .ok (.iadd, 1) := by decide +kernel
theorem dX7_readSitting_112 : decode cX7_readSitting 112 = .ok (.putfield 113, 3) := by decide +kernel
theorem dX7_readSitting_115 : decode cX7_readSitting 115 = .ok (.iconst 1, 1) := by decide +kernel
theorem dX7_readSitting_116 : decode cX7_readSitting 116 = .ok (.ireturn, 1) := by decide +kernel
theorem dX7_readSetting_0 : decode cX7_readSetting 0 = .ok (.iload_n 1, 1) := by decide +kernel
theorem dX7_readSetting_1 : decode cX7_readSetting 1 = .ok (.ifCond .lt 9, 3) := by decide +kernel
theorem dX7_readSetting_4 : decode cX7_readSetting 4 = .ok (.iload_n 1, 1) := by decide +kernel
theorem dX7_readSetting_5 : decode cX7_readSetting 5 = .ok (.bipush 6, 2) := by decide +kernel
theorem dX7_readSetting_7 : decode cX7_readSetting 7 = .ok (.if_icmp .lt 9, 3) := by decide +kernel
theorem dX7_readSetting_10 : decode cX7_readSetting 10 = .ok (.aload_n 0, 1) := by decide +kernel
theorem dX7_readSetting_11 : decode cX7_readSetting 11 = .ok (.iconst 1, 1) := by decide +kernel
theorem dX7_readSetting_12 : decode cX7_readSetting 12 = .ok (.invokevirtual 68, 3) := by decide +kernel
theorem dX7_readSetting_15 : decode cX7_readSetting 15 = .ok (.ireturn, 1) := by decide +kernel
theorem dX7_readSetting_16 : decode cX7_readSetting 16 = .ok (.aload_n 0, 1) := by decide +kernel
theorem dX7_readSetting_17 : decode cX7_readSetting 17 = .ok (.getfield 21, 3) := by decide +kernel
theorem dX7_readSetting_20 : decode cX7_readSetting 20 = .ok (.getfield 122, 3) := by decide +kernel
theorem dX7_readSetting_23 : decode cX7_readSetting 23 = .ok (.iload_n 1, 1) := by decide +kernel
theorem dX7_readSetting_24 : decode cX7_readSetting 24 = .ok (.baload, 1) := by decide +kernel
theorem dX7_readSetting_25 : decode cX7_readSetting 25 = .ok (.ifCond .eq 9, 3) := by decide +kernel
theorem dX7_readSetting_28 : decode cX7_readSetting 28 = .ok (.aload_n 0, 1) := by decide +kernel
theorem dX7_readSetting_29 : decode cX7_readSetting 29 = .ok (.iconst 3, 1) := by decide +kernel
theorem dX7_readSetting_30 : decode cX7_readSetting 30 = .ok (.invokevirtual 68, 3) := by decide +kernel
theorem dX7_readSetting_33 : decode cX7_readSetting 33 = .ok (.ireturn, 1) := by decide +kernel
theorem dX7_readSetting_34 : decode cX7_readSetting 34 = .ok (.aload_n 0, 1) := by decide +kernel
theorem dX7_readSetting_35 : decode cX7_readSetting 35 = .ok (.dup, 1) := by decide +kernel
theorem dX7_readSetting_36 : decode cX7_readSetting 36 = .ok (.getfield 25, 3) := by decide +kernel
theorem dX7_readSetting_39 : decode cX7_readSetting 39 = .ok (.iconst 1, 1) := by decide +kernel
theorem dX7_readSetting_40 : decode cX7_readSetting 40 = .ok (.iadd, 1) := by decide +kernel
theorem dX7_readSetting_41 : decode cX7_readSetting 41 = .ok (.putfield 25, 3) := by decide +kernel
theorem dX7_readSetting_44 : decode cX7_readSetting 44 = .ok (.aload_n 0, 1) := by decide +kernel
theorem dX7_readSetting_45 : decode cX7_readSetting 45 = .ok (.getstatic 126, 3) := by decide +kernel
theorem dX7_readSetting_48 : decode cX7_readSetting 48 = .ok (.iload_n 1, 1) := by decide +kernel
theorem dX7_readSetting_49 : decode cX7_readSetting 49 = .ok (.iaload, 1) := by decide +kernel
theorem dX7_readSetting_50 : decode cX7_readSetting 50 = .ok (.getstatic 129, 3) := by decide +kernel
theorem dX7_readSetting_53 : decode cX7_readSetting 53 = .ok (.iload_n 1, 1) := by decide +kernel
theorem dX7_readSetting_54 : decode cX7_readSetting 54 = .ok (.iaload, 1) := by decide +kernel
theorem dX7_readSetting_55 : decode cX7_readSetting 55 = .ok (.invokevirtual 102, 3) := by decide +kernel
theorem dX7_readSetting_58 : decode cX7_readSetting 58 = .ok (.ifCond .ne 5, 3) := by decide +kernel
theorem dX7_readSetting_61 : decode cX7_readSetting 61 = .ok (.iconst 0, 1) := by decide +kernel
theorem dX7_readSetting_62 : decode cX7_readSetting 62 = .ok (.ireturn, 1) := by decide +kernel
theorem dX7_readSetting_63 : decode cX7_readSetting 63 = .ok (.aload_n 0, 1) := by decide +kernel
theorem dX7_readSetting_64 : decode cX7_readSetting 64 = .ok (.getfield 21, 3) := by decide +kernel
theorem dX7_readSetting_67 : decode cX7_readSetting 67 = .ok (.getfield 122, 3) := by decide +kernel
theorem dX7_readSetting_70 : decode cX7_readSetting 70 = .ok (.iload_n 1, 1) := by decide +kernel
theorem dX7_readSetting_71 : decode cX7_readSetting 71 = .ok (.iconst 1, 1) := by decide +kernel
theorem dX7_readSetting_72 : decode cX7_readSetting 72 = .ok (.bastore, 1) := by decide +kernel
theorem dX7_readSetting_73 : decode cX7_readSetting 73 = .ok (.aload_n 0, 1) := by decide +kernel
theorem dX7_readSetting_74 : decode cX7_readSetting 74 = .ok (.getfield 21, 3) := by decide +kernel
theorem dX7_readSetting_77 : decode cX7_readSetting 77 = .ok (.getfield 132, 3) := by decide +kernel
theorem dX7_readSetting_80 : decode cX7_readSetting 80 = .ok (.iload_n 1, 1) := by decide +kernel
theorem dX7_readSetting_81 : decode cX7_readSetting 81 = .ok (.aload_n 0, 1) := by decide +kernel
theorem dX7_readSetting_82 : decode cX7_readSetting 82 = .ok (.getfield 29, 3) := by decide +kernel
theorem dX7_readSetting_85 : decode cX7_readSetting 85 = .ok (.iastore, 1) := by decide +kernel
theorem dX7_readSetting_86 : decode cX7_readSetting 86 = .ok (.iconst 1, 1) := by decide +kernel
theorem dX7_readSetting_87 : decode cX7_readSetting 87 = .ok (.ireturn, 1) := by decide +kernel
theorem dX7_readLaw_0 : decode cX7_readLaw 0 = .ok (.aload_n 0, 1) := by decide +kernel
theorem dX7_readLaw_1 : decode cX7_readLaw 1 = .ok (.dup, 1) := by decide +kernel
theorem dX7_readLaw_2 : decode cX7_readLaw 2 = .ok (.getfield 25, 3) := by decide +kernel
theorem dX7_readLaw_5 : decode cX7_readLaw 5 = .ok (.iconst 1, 1) := by decide +kernel
theorem dX7_readLaw_6 : decode cX7_readLaw 6 = .ok (.iadd, 1) := by decide +kernel
theorem dX7_readLaw_7 : decode cX7_readLaw 7 = .ok (.putfield 25, 3) := by decide +kernel
theorem dX7_readLaw_10 : decode cX7_readLaw 10 = .ok (.aload_n 0, 1) := by decide +kernel
theorem dX7_readLaw_11 : decode cX7_readLaw 11 = .ok (.invokevirtual 51, 3) := by decide +kernel
theorem dX7_readLaw_14 : decode cX7_readLaw 14 = .ok (.bipush 41, 2) := by decide +kernel
theorem dX7_readLaw_16 : decode cX7_readLaw 16 = .ok (.isub, 1) := by decide +kernel
theorem dX7_readLaw_17 : decode cX7_readLaw 17 = .ok (.istore_n 1, 1) := by decide +kernel
theorem dX7_readLaw_18 : decode cX7_readLaw 18 = .ok (.iload_n 1, 1) := by decide +kernel
theorem dX7_readLaw_19 : decode cX7_readLaw 19 = .ok (.ifCond .lt 8, 3) := by decide +kernel
theorem dX7_readLaw_22 : decode cX7_readLaw 22 = .ok (.iload_n 1, 1) := by decide +kernel
theorem dX7_readLaw_23 : decode cX7_readLaw 23 = .ok (.iconst 3, 1) := by decide +kernel
theorem dX7_readLaw_24 : decode cX7_readLaw 24 = .ok (.if_icmp .lt 9, 3) := by decide +kernel
theorem dX7_readLaw_27 : decode cX7_readLaw 27 = .ok (.aload_n 0, 1) := by decide +kernel
theorem dX7_readLaw_28 : decode cX7_readLaw 28 = .ok (.iconst 1, 1) := by decide +kernel
theorem dX7_readLaw_29 : decode cX7_readLaw 29 = .ok (.invokevirtual 68, 3) := by decide +kernel
theorem dX7_readLaw_32 : decode cX7_readLaw 32 = .ok (.ireturn, 1) := by decide +kernel
theorem dX7_readLaw_33 : decode cX7_readLaw 33 = .ok (.aload_n 0, 1) := by decide +kernel
theorem dX7_readLaw_34 : decode cX7_readLaw 34 = .ok (.getfield 21, 3) := by decide +kernel
theorem dX7_readLaw_37 : decode cX7_readLaw 37 = .ok (.getfield 135, 3) := by decide +kernel
theorem dX7_readLaw_40 : decode cX7_readLaw 40 = .ok (.iload_n 1, 1) := by decide +kernel
theorem dX7_readLaw_41 : decode cX7_readLaw 41 = .ok (.invokevirtual 139, 3) := by decide +kernel
theorem dX7_readLaw_44 : decode cX7_readLaw 44 = .ok (.ifCond .eq 9, 3) := by decide +kernel
theorem dX7_readLaw_47 : decode cX7_readLaw 47 = .ok (.aload_n 0, 1) := by decide +kernel
theorem dX7_readLaw_48 : decode cX7_readLaw 48 = .ok (.iconst 3, 1) := by decide +kernel
theorem dX7_readLaw_49 : decode cX7_readLaw 49 = .ok (.invokevirtual 68, 3) := by decide +kernel
theorem dX7_readLaw_52 : decode cX7_readLaw 52 = .ok (.ireturn, 1) := by decide +kernel
theorem dX7_readLaw_53 : decode cX7_readLaw 53 = .ok (.aload_n 0, 1) := by decide +kernel
theorem dX7_readLaw_54 : decode cX7_readLaw 54 = .ok (.dup, 1) := by decide +kernel
theorem dX7_readLaw_55 : decode cX7_readLaw 55 = .ok (.getfield 25, 3) := by decide +kernel
theorem dX7_readLaw_58 : decode cX7_readLaw 58 = .ok (.iconst 1, 1) := by decide +kernel
theorem dX7_readLaw_59 : decode cX7_readLaw 59 = .ok (.iadd, 1) := by decide +kernel
theorem dX7_readLaw_60 : decode cX7_readLaw 60 = .ok (.putfield 25, 3) := by decide +kernel
theorem dX7_readLaw_63 : decode cX7_readLaw 63 = .ok (.aload_n 0, 1) := by decide +kernel
theorem dX7_readLaw_64 : decode cX7_readLaw 64 = .ok (.getfield 21, 3) := by decide +kernel
theorem dX7_readLaw_67 : decode cX7_readLaw 67 = .ok (.getfield 135, 3) := by decide +kernel
theorem dX7_readLaw_70 : decode cX7_readLaw 70 = .ok (.getfield 143, 3) := by decide +kernel
theorem dX7_readLaw_73 : decode cX7_readLaw 73 = .ok (.istore_n 2, 1) := by decide +kernel
theorem dX7_readLaw_74 : decode cX7_readLaw 74 = .ok (.aload_n 0, 1) := by decide +kernel
theorem dX7_readLaw_75 : decode cX7_readLaw 75 = .ok (.iconst 1, 1) := by decide +kernel
theorem dX7_readLaw_76 : decode cX7_readLaw 76 = .ok (.iconst 0, 1) := by decide +kernel
theorem dX7_readLaw_77 : decode cX7_readLaw 77 = .ok (.invokevirtual 146, 3) := by decide +kernel
theorem dX7_readLaw_80 : decode cX7_readLaw 80 = .ok (.ifCond .ne 5, 3) := by decide +kernel
theorem dX7_readLaw_83 : decode cX7_readLaw 83 = .ok (.iconst 0, 1) := by decide +kernel
theorem dX7_readLaw_84 : decode cX7_readLaw 84 = .ok (.ireturn, 1) := by decide +kernel
theorem dX7_readLaw_85 : decode cX7_readLaw 85 = .ok (.aload_n 0, 1) := by decide +kernel
theorem dX7_readLaw_86 : decode cX7_readLaw 86 = .ok (.getfield 21, 3) := by decide +kernel
theorem dX7_readLaw_89 : decode cX7_readLaw 89 = .ok (.getfield 135, 3) := by decide +kernel
theorem dX7_readLaw_92 : decode cX7_readLaw 92 = .ok (.iload_n 1, 1) := by decide +kernel
theorem dX7_readLaw_93 : decode cX7_readLaw 93 = .ok (.iload_n 2, 1) := by decide +kernel
theorem dX7_readLaw_94 : decode cX7_readLaw 94 = .ok (.invokevirtual 149, 3) := by decide +kernel
theorem dX7_readLaw_97 : decode cX7_readLaw 97 = .ok (.iconst 1, 1) := by decide +kernel
theorem dX7_readLaw_98 : decode cX7_readLaw 98 = .ok (.ireturn, 1) := by decide +kernel
theorem dX7_readRank_0 : decode cX7_readRank 0 = .ok (.iload_n 1, 1) := by decide +kernel
theorem dX7_readRank_1 : decode cX7_readRank 1 = .ok (.bipush 6, 2) := by decide +kernel
theorem dX7_readRank_3 : decode cX7_readRank 3 = .ok (.if_icmp .lt 9, 3) := by decide +kernel
theorem dX7_readRank_6 : decode cX7_readRank 6 = .ok (.aload_n 0, 1) := by decide +kernel
theorem dX7_readRank_7 : decode cX7_readRank 7 = .ok (.iload_n 2, 1) := by decide +kernel
theorem dX7_readRank_8 : decode cX7_readRank 8 = .ok (.invokevirtual 153, 3) := by decide +kernel
theorem dX7_readRank_11 : decode cX7_readRank 11 = .ok (.ireturn, 1) := by decide +kernel
theorem dX7_readRank_12 : decode cX7_readRank 12 = .ok (.iconst 0, 1) := by decide +kernel
theorem dX7_readRank_13 : decode cX7_readRank 13 = .ok (.istore_n 3, 1) := by decide +kernel
theorem dX7_readRank_14 : decode cX7_readRank 14 = .ok (.iload_n 3, 1) := by decide +kernel
theorem dX7_readRank_15 : decode cX7_readRank 15 = .ok (.bipush 64, 2) := by decide +kernel
theorem dX7_readRank_17 : decode cX7_readRank 17 = .ok (.if_icmp .gt 32, 3) := by decide +kernel
theorem dX7_readRank_20 : decode cX7_readRank 20 = .ok (.iload_n 1, 1) := by decide +kernel
theorem dX7_readRank_21 : decode cX7_readRank 21 = .ok (.iconst 3, 1) := by decide +kernel
theorem dX7_readRank_22 : decode cX7_readRank 22 = .ok (.if_icmp .ne 27, 3) := by decide +kernel
theorem dX7_readRank_25 : decode cX7_readRank 25 = .ok (.aload_n 0, 1) := by decide +kernel
theorem dX7_readRank_26 : decode cX7_readRank 26 = .ok (.invokevirtual 51, 3) := by decide +kernel
theorem dX7_readRank_29 : decode cX7_readRank 29 = .ok (.bipush 46, 2) := by decide +kernel
theorem dX7_readRank_31 : decode cX7_readRank 31 = .ok (.if_icmp .ne 18, 3) := by decide +kernel
theorem dX7_readRank_34 : decode cX7_readRank 34 = .ok (.aload_n 0, 1) := by decide +kernel
theorem dX7_readRank_35 : decode cX7_readRank 35 = .ok (.invokevirtual 156, 3) := by decide +kernel
theorem dX7_readRank_38 : decode cX7_readRank 38 = .ok (.ifCond .ne 5, 3) := by decide +kernel
theorem dX7_readRank_41 : decode cX7_readRank 41 = .ok (.iconst 0, 1) := by decide +kernel
theorem dX7_readRank_42 : decode cX7_readRank 42 = .ok (.ireturn, 1) := by decide +kernel
theorem dX7_readRank_43 : decode cX7_readRank 43 = .ok (.iinc 3 1, 3) := by decide +kernel
theorem dX7_readRank_46 : decode cX7_readRank 46 = .ok (.goto (-32), 3) := by decide +kernel
theorem dX7_readRank_49 : decode cX7_readRank 49 = .ok (.aload_n 0, 1) := by decide +kernel
theorem dX7_readRank_50 : decode cX7_readRank 50 = .ok (.iload_n 1, 1) := by decide +kernel
theorem dX7_readRank_51 : decode cX7_readRank 51 = .ok (.iconst 1, 1) := by decide +kernel
theorem dX7_readRank_52 : decode cX7_readRank 52 = .ok (.iadd, 1) := by decide +kernel
theorem dX7_readRank_53 : decode cX7_readRank 53 = .ok (.iload_n 2, 1) := by decide +kernel
theorem dX7_readRank_54 : decode cX7_readRank 54 = .ok (.invokevirtual 146, 3) := by decide +kernel
theorem dX7_readRank_57 : decode cX7_readRank 57 = .ok (.ifCond .ne 5, 3) := by decide +kernel
theorem dX7_readRank_60 : decode cX7_readRank 60 = .ok (.iconst 0, 1) := by decide +kernel
theorem dX7_readRank_61 : decode cX7_readRank 61 = .ok (.ireturn, 1) := by decide +kernel
theorem dX7_readRank_62 : decode cX7_readRank 62 = .ok (.iload_n 1, 1) := by decide +kernel
theorem dX7_readRank_63 : decode cX7_readRank 63 = .ok (.iconst 3, 1) := by decide +kernel
theorem dX7_readRank_64 : decode cX7_readRank 64 = .ok (.if_icmp .ne 7, 3) := by decide +kernel
theorem dX7_readRank_67 : decode cX7_readRank 67 = .ok (.iconst 1, 1) := by decide +kernel
theorem dX7_readRank_68 : decode cX7_readRank 68 = .ok (.goto 5, 3) := by decide +kernel
theorem dX7_readRank_71 : decode cX7_readRank 71 = .ok (.bipush 64, 2) := by decide +kernel
theorem dX7_readRank_73 : decode cX7_readRank 73 = .ok (.istore 4, 2) := by decide +kernel
theorem dX7_readRank_75 : decode cX7_readRank 75 = .ok (.iconst 0, 1) := by decide +kernel
theorem dX7_readRank_76 : decode cX7_readRank 76 = .ok (.istore 5, 2) := by decide +kernel
theorem dX7_readRank_78 : decode cX7_readRank 78 = .ok (.iload 5, 2) := by decide +kernel
theorem dX7_readRank_80 : decode cX7_readRank 80 = .ok (.iload 4, 2) := by decide +kernel
theorem dX7_readRank_82 : decode cX7_readRank 82 = .ok (.if_icmp .ge 59, 3) := by decide +kernel
theorem dX7_readRank_85 : decode cX7_readRank 85 = .ok (.aload_n 0, 1) := by decide +kernel
theorem dX7_readRank_86 : decode cX7_readRank 86 = .ok (.invokevirtual 51, 3) := by decide +kernel
theorem dX7_readRank_89 : decode cX7_readRank 89 = .ok (.invokestatic 159, 3) := by decide +kernel
theorem dX7_readRank_92 : decode cX7_readRank 92 = .ok (.iload_n 1, 1) := by decide +kernel
theorem dX7_readRank_93 : decode cX7_readRank 93 = .ok (.if_icmp .ne 48, 3) := by decide +kernel
theorem dX7_readRank_96 : decode cX7_readRank 96 = .ok (.aload_n 0, 1) := by decide +kernel
theorem dX7_readRank_97 : decode cX7_readRank 97 = .ok (.invokevirtual 51, 3) := by decide +kernel
theorem dX7_readRank_100 : decode cX7_readRank 100 = .ok (.istore 6, 2) := by decide +kernel
theorem dX7_readRank_102 : decode cX7_readRank 102 = .ok (.aload_n 0, 1) := by decide +kernel
theorem dX7_readRank_103 : decode cX7_readRank 103 = .ok (.invokevirtual 156, 3) := by decide +kernel
theorem dX7_readRank_106 : decode cX7_readRank 106 = .ok (.ifCond .eq 14, 3) := by decide +kernel
theorem dX7_readRank_109 : decode cX7_readRank 109 = .ok (.aload_n 0, 1) := by decide +kernel
theorem dX7_readRank_110 : decode cX7_readRank 110 = .ok (.iload_n 1, 1) := by decide +kernel
theorem dX7_readRank_111 : decode cX7_readRank 111 = .ok (.iconst 1, 1) := by decide +kernel
theorem dX7_readRank_112 : decode cX7_readRank 112 = .ok (.iadd, 1) := by decide +kernel
theorem dX7_readRank_113 : decode cX7_readRank 113 = .ok (.iload_n 2, 1) := by decide +kernel
theorem dX7_readRank_114 : decode cX7_readRank 114 = .ok (.invokevirtual 146, 3) := by decide +kernel
theorem dX7_readRank_117 : decode cX7_readRank 117 = .ok (.ifCond .ne 5, 3) := by decide +kernel
theorem dX7_readRank_120 : decode cX7_readRank 120 = .ok (.iconst 0, 1) := by decide +kernel
theorem dX7_readRank_121 : decode cX7_readRank 121 = .ok (.ireturn, 1) := by decide +kernel
theorem dX7_readRank_122 : decode cX7_readRank 122 = .ok (.aload_n 0, 1) := by decide +kernel
theorem dX7_readRank_123 : decode cX7_readRank 123 = .ok (.getfield 21, 3) := by decide +kernel
theorem dX7_readRank_126 : decode cX7_readRank 126 = .ok (.getfield 135, 3) := by decide +kernel
theorem dX7_readRank_129 : decode cX7_readRank 129 = .ok (.iload 6, 2) := by decide +kernel
theorem dX7_readRank_131 : decode cX7_readRank 131 = .ok (.iconst 0, 1) := by decide +kernel
theorem dX7_readRank_132 : decode cX7_readRank 132 = .ok (.invokevirtual 162, 3) := by decide +kernel
theorem dX7_readRank_135 : decode cX7_readRank 135 = .ok (.iinc 5 1, 3) := by decide +kernel
theorem dX7_readRank_138 : decode cX7_readRank 138 = .ok (.goto (-60), 3) := by decide +kernel
theorem dX7_readRank_141 : decode cX7_readRank 141 = .ok (.iconst 0, 1) := by decide +kernel
theorem dX7_readRank_142 : decode cX7_readRank 142 = .ok (.istore 5, 2) := by decide +kernel
theorem dX7_readRank_144 : decode cX7_readRank 144 = .ok (.iload 5, 2) := by decide +kernel
theorem dX7_readRank_146 : decode cX7_readRank 146 = .ok (.iload_n 3, 1) := by decide +kernel
theorem dX7_readRank_147 : decode cX7_readRank 147 = .ok (.if_icmp .ge 22, 3) := by decide +kernel
theorem dX7_readRank_150 : decode cX7_readRank 150 = .ok (.aload_n 0, 1) := by decide +kernel
theorem dX7_readRank_151 : decode cX7_readRank 151 = .ok (.getfield 21, 3) := by decide +kernel
theorem dX7_readRank_154 : decode cX7_readRank 154 = .ok (.getfield 135, 3) := by decide +kernel
theorem dX7_readRank_157 : decode cX7_readRank 157 = .ok (.bipush 46, 2) := by decide +kernel
theorem dX7_readRank_159 : decode cX7_readRank 159 = .ok (.iconst 0, 1) := by decide +kernel
theorem dX7_readRank_160 : decode cX7_readRank 160 = .ok (.invokevirtual 162, 3) := by decide +kernel
theorem dX7_readRank_163 : decode cX7_readRank 163 = .ok (.iinc 5 1, 3) := by decide +kernel
theorem dX7_readRank_166 : decode cX7_readRank 166 = .ok (.goto (-22), 3) := by decide +kernel
theorem dX7_readRank_169 : decode cX7_readRank 169 = .ok (.iconst 1, 1) := by decide +kernel
theorem dX7_readRank_170 : decode cX7_readRank 170 = .ok (.ireturn, 1) := by decide +kernel
theorem dX7_readPart_0 : decode cX7_readPart 0 = .ok (.aload_n 0, 1) := by decide +kernel
theorem dX7_readPart_1 : decode cX7_readPart 1 = .ok (.invokevirtual 51, 3) := by decide +kernel
theorem dX7_readPart_4 : decode cX7_readPart 4 = .ok (.istore_n 2, 1) := by decide +kernel
theorem dX7_readPart_5 : decode cX7_readPart 5 = .ok (.iload_n 2, 1) := by decide +kernel
theorem dX7_readPart_6 : decode cX7_readPart 6 = .ok (.iconst 5, 1) := by decide +kernel
theorem dX7_readPart_7 : decode cX7_readPart 7 = .ok (.if_icmp .ne 51, 3) := by decide +kernel
theorem dX7_readPart_10 : decode cX7_readPart 10 = .ok (.iload_n 1, 1) := by decide +kernel
theorem dX7_readPart_11 : decode cX7_readPart 11 = .ok (.bipush 8, 2) := by decide +kernel
theorem dX7_readPart_13 : decode cX7_readPart 13 = .ok (.if_icmp .lt 9, 3) := by decide +kernel
theorem dX7_readPart_16 : decode cX7_readPart 16 = .ok (.aload_n 0, 1) := by decide +kernel
theorem dX7_readPart_17 : decode cX7_readPart 17 = .ok (.iconst 2, 1) := by decide +kernel
theorem dX7_readPart_18 : decode cX7_readPart 18 = .ok (.invokevirtual 68, 3) := by decide +kernel
theorem dX7_readPart_21 : decode cX7_readPart 21 = .ok (.ireturn, 1) := by decide +kernel
theorem dX7_readPart_22 : decode cX7_readPart 22 = .ok (.aload_n 0, 1) := by decide +kernel
theorem dX7_readPart_23 : decode cX7_readPart 23 = .ok (.dup, 1) := by decide +kernel
theorem dX7_readPart_24 : decode cX7_readPart 24 = .ok (.getfield 25, 3) := by decide +kernel
theorem dX7_readPart_27 : decode cX7_readPart 27 = .ok (.iconst 1, 1) := by decide +kernel
theorem dX7_readPart_28 : decode cX7_readPart 28 = .ok (.iadd, 1) := by decide +kernel
theorem dX7_readPart_29 : decode cX7_readPart 29 = .ok (.putfield 25, 3) := by decide +kernel
theorem dX7_readPart_32 : decode cX7_readPart 32 = .ok (.aload_n 0, 1) := by decide +kernel
theorem dX7_readPart_33 : decode cX7_readPart 33 = .ok (.iconst 1, 1) := by decide +kernel
theorem dX7_readPart_34 : decode cX7_readPart 34 = .ok (.iload_n 1, 1) := by decide +kernel
theorem dX7_readPart_35 : decode cX7_readPart 35 = .ok (.iconst 1, 1) := by decide +kernel
theorem dX7_readPart_36 : decode cX7_readPart 36 = .ok (.iadd, 1) := by decide +kernel
theorem dX7_readPart_37 : decode cX7_readPart 37 = .ok (.invokevirtual 146, 3) := by decide +kernel
theorem dX7_readPart_40 : decode cX7_readPart 40 = .ok (.ifCond .eq 16, 3) := by decide +kernel
theorem dX7_readPart_43 : decode cX7_readPart 43 = .ok (.aload_n 0, 1) := by decide +kernel
theorem dX7_readPart_44 : decode cX7_readPart 44 = .ok (.bipush 6, 2) := by decide +kernel
theorem dX7_readPart_46 : decode cX7_readPart 46 = .ok (.invokevirtual 86, 3) := by decide +kernel
theorem dX7_readPart_49 : decode cX7_readPart 49 = .ok (.ifCond .eq 7, 3) := by decide +kernel
theorem dX7_readPart_52 : decode cX7_readPart 52 = .ok (.iconst 1, 1) := by decide +kernel
theorem dX7_readPart_53 : decode cX7_readPart 53 = .ok (.goto 4, 3) := by decide +kernel
theorem dX7_readPart_56 : decode cX7_readPart 56 = .ok (.iconst 0, 1) := by decide +kernel
theorem dX7_readPart_57 : decode cX7_readPart 57 = .ok (.ireturn, 1) := by decide +kernel
theorem dX7_readPart_58 : decode cX7_readPart 58 = .ok (.iload_n 2, 1) := by decide +kernel
theorem dX7_readPart_59 : decode cX7_readPart 59 = .ok (.iconst 2, 1) := by decide +kernel
theorem dX7_readPart_60 : decode cX7_readPart 60 = .ok (.if_icmp .eq 21, 3) := by decide +kernel
theorem dX7_readPart_63 : decode cX7_readPart 63 = .ok (.iload_n 2, 1) := by decide +kernel
theorem dX7_readPart_64 : decode cX7_readPart 64 = .ok (.bipush 47, 2) := by decide +kernel
theorem dX7_readPart_66 : decode cX7_readPart 66 = .ok (.if_icmp .lt 9, 3) := by decide +kernel
theorem dX7_readPart_69 : decode cX7_readPart 69 = .ok (.iload_n 2, 1) := by decide +kernel
theorem dX7_readPart_70 : decode cX7_readPart 70 = .ok (.bipush 54, 2) := by decide +kernel
theorem dX7_readPart_72 : decode cX7_readPart 72 = .ok (.if_icmp .lt 9, 3) := by decide +kernel
theorem dX7_readPart_75 : decode cX7_readPart 75 = .ok (.aload_n 0, 1) := by decide +kernel
theorem dX7_readPart_76 : decode cX7_readPart 76 = .ok (.iconst 1, 1) := by decide +kernel
theorem dX7_readPart_77 : decode cX7_readPart 77 = .ok (.invokevirtual 68, 3) := by decide +kernel
theorem dX7_readPart_80 : decode cX7_readPart 80 = .ok (.ireturn, 1) := by decide +kernel
theorem dX7_readPart_81 : decode cX7_readPart 81 = .ok (.aload_n 0, 1) := by decide +kernel
theorem dX7_readPart_82 : decode cX7_readPart 82 = .ok (.invokevirtual 72, 3) := by decide +kernel
theorem dX7_readPart_85 : decode cX7_readPart 85 = .ok (.istore_n 3, 1) := by decide +kernel
theorem dX7_readPart_86 : decode cX7_readPart 86 = .ok (.iload_n 2, 1) := by decide +kernel
theorem dX7_readPart_87 : decode cX7_readPart 87 = .ok (.iconst 2, 1) := by decide +kernel
theorem dX7_readPart_88 : decode cX7_readPart 88 = .ok (.if_icmp .ne 16, 3) := by decide +kernel
theorem dX7_readPart_91 : decode cX7_readPart 91 = .ok (.iload_n 3, 1) := by decide +kernel
theorem dX7_readPart_92 : decode cX7_readPart 92 = .ok (.sipush 9999, 3) := by decide +kernel
theorem dX7_readPart_95 : decode cX7_readPart 95 = .ok (.if_icmp .le 9, 3) := by decide +kernel
theorem dX7_readPart_98 : decode cX7_readPart 98 = .ok (.aload_n 0, 1) := by decide +kernel
theorem dX7_readPart_99 : decode cX7_readPart 99 = .ok (.iconst 2, 1) := by decide +kernel
theorem dX7_readPart_100 : decode cX7_readPart 100 = .ok (.invokevirtual 68, 3) := by decide +kernel
theorem dX7_readPart_103 : decode cX7_readPart 103 = .ok (.ireturn, 1) := by decide +kernel
theorem dX7_readPart_104 : decode cX7_readPart 104 = .ok (.aload_n 0, 1) := by decide +kernel
theorem dX7_readPart_105 : decode cX7_readPart 105 = .ok (.invokevirtual 156, 3) := by decide +kernel
theorem dX7_readPart_108 : decode cX7_readPart 108 = .ok (.ifCond .ne 5, 3) := by decide +kernel
theorem dX7_readPart_111 : decode cX7_readPart 111 = .ok (.iconst 0, 1) := by decide +kernel
theorem dX7_readPart_112 : decode cX7_readPart 112 = .ok (.ireturn, 1) := by decide +kernel
theorem dX7_readPart_113 : decode cX7_readPart 113 = .ok (.aload_n 0, 1) := by decide +kernel
theorem dX7_readPart_114 : decode cX7_readPart 114 = .ok (.getfield 21, 3) := by decide +kernel
theorem dX7_readPart_117 : decode cX7_readPart 117 = .ok (.getfield 135, 3) := by decide +kernel
theorem dX7_readPart_120 : decode cX7_readPart 120 = .ok (.iload_n 2, 1) := by decide +kernel
theorem dX7_readPart_121 : decode cX7_readPart 121 = .ok (.iload_n 3, 1) := by decide +kernel
theorem dX7_readPart_122 : decode cX7_readPart 122 = .ok (.invokevirtual 162, 3) := by decide +kernel
theorem dX7_readPart_125 : decode cX7_readPart 125 = .ok (.iconst 1, 1) := by decide +kernel
theorem dX7_readPart_126 : decode cX7_readPart 126 = .ok (.ireturn, 1) := by decide +kernel
theorem dX7_takeKnot_0 : decode cX7_takeKnot 0 = .ok (.aload_n 0, 1) := by decide +kernel
theorem dX7_takeKnot_1 : decode cX7_takeKnot 1 = .ok (.getfield 21, 3) := by decide +kernel
theorem dX7_takeKnot_4 : decode cX7_takeKnot 4 = .ok (.getfield 135, 3) := by decide +kernel
theorem dX7_takeKnot_7 : decode cX7_takeKnot 7 = .ok (.getfield 165, 3) := by decide +kernel
theorem dX7_takeKnot_10 : decode cX7_takeKnot 10 = .ok (.bipush 64, 2) := by decide +kernel
theorem dX7_takeKnot_12 : decode cX7_takeKnot 12 = .ok (.if_icmp .lt 9, 3) := by decide +kernel
theorem dX7_takeKnot_15 : decode cX7_takeKnot 15 = .ok (.aload_n 0, 1) := by decide +kernel
theorem dX7_takeKnot_16 : decode cX7_takeKnot 16 = .ok (.iconst 2, 1) := by decide +kernel
theorem dX7_takeKnot_17 : decode cX7_takeKnot 17 = .ok (.invokevirtual 68, 3) := by decide +kernel
theorem dX7_takeKnot_20 : decode cX7_takeKnot 20 = .ok (.ireturn, 1) := by decide +kernel
theorem dX7_takeKnot_21 : decode cX7_takeKnot 21 = .ok (.aload_n 0, 1) := by decide +kernel
theorem dX7_takeKnot_22 : decode cX7_takeKnot 22 = .ok (.getfield 21, 3) := by decide +kernel
theorem dX7_takeKnot_25 : decode cX7_takeKnot 25 = .ok (.getfield 135, 3) := by decide +kernel
theorem dX7_takeKnot_28 : decode cX7_takeKnot 28 = .ok (.dup, 1) := by decide +kernel
theorem dX7_takeKnot_29 : decode cX7_takeKnot 29 = .ok (.getfield 165, 3) := by decide +kernel
theorem dX7_takeKnot_32 : decode cX7_takeKnot 32 = .ok (.iconst 1, 1) := by decide +kernel
theorem dX7_takeKnot_33 : decode cX7_takeKnot 33 = .ok (.iadd, 1) := by decide +kernel
theorem dX7_takeKnot_34 : decode cX7_takeKnot 34 = .ok (.putfield 165, 3) := by decide +kernel
theorem dX7_takeKnot_37 : decode cX7_takeKnot 37 = .ok (.aload_n 0, 1) := by decide +kernel
theorem dX7_takeKnot_38 : decode cX7_takeKnot 38 = .ok (.dup, 1) := by decide +kernel
theorem dX7_takeKnot_39 : decode cX7_takeKnot 39 = .ok (.getfield 25, 3) := by decide +kernel
theorem dX7_takeKnot_42 : decode cX7_takeKnot 42 = .ok (.iconst 1, 1) := by decide +kernel
theorem dX7_takeKnot_43 : decode cX7_takeKnot 43 = .ok (.iadd, 1) := by decide +kernel
theorem dX7_takeKnot_44 : decode cX7_takeKnot 44 = .ok (.putfield 25, 3) := by decide +kernel
theorem dX7_takeKnot_47 : decode cX7_takeKnot 47 = .ok (.iconst 1, 1) := by decide +kernel
theorem dX7_takeKnot_48 : decode cX7_takeKnot 48 = .ok (.ireturn, 1) := by decide +kernel
theorem dX7_rankOf_0 : decode cX7_rankOf 0 = .ok (.iload_n 0, 1) := by decide +kernel
theorem dX7_rankOf_1 : decode cX7_rankOf 1 = .ok (.bipush 11, 2) := by decide +kernel
theorem dX7_rankOf_3 : decode cX7_rankOf 3 = .ok (.if_icmp .lt 11, 3) := by decide +kernel
theorem dX7_rankOf_6 : decode cX7_rankOf 6 = .ok (.iload_n 0, 1) := by decide +kernel
theorem dX7_rankOf_7 : decode cX7_rankOf 7 = .ok (.bipush 16, 2) := by decide +kernel
theorem dX7_rankOf_9 : decode cX7_rankOf 9 = .ok (.if_icmp .gt 5, 3) := by decide +kernel
theorem dX7_rankOf_12 : decode cX7_rankOf 12 = .ok (.iconst 3, 1) := by decide +kernel
theorem dX7_rankOf_13 : decode cX7_rankOf 13 = .ok (.ireturn, 1) := by decide +kernel
theorem dX7_rankOf_14 : decode cX7_rankOf 14 = .ok (.iload_n 0, 1) := by decide +kernel
theorem dX7_rankOf_15 : decode cX7_rankOf 15 = .ok (.lookupswitch 65 #[(7, 61), (8, 61), (9, 63), (10, 63), (44, 57), (45, 59)], 57) := by decide +kernel
theorem dX7_rankOf_72 : decode cX7_rankOf 72 = .ok (.iconst 1, 1) := by decide +kernel
theorem dX7_rankOf_73 : decode cX7_rankOf 73 = .ok (.ireturn, 1) := by decide +kernel
theorem dX7_rankOf_74 : decode cX7_rankOf 74 = .ok (.iconst 2, 1) := by decide +kernel
theorem dX7_rankOf_75 : decode cX7_rankOf 75 = .ok (.ireturn, 1) := by decide +kernel
theorem dX7_rankOf_76 : decode cX7_rankOf 76 = .ok (.iconst 4, 1) := by decide +kernel
theorem dX7_rankOf_77 : decode cX7_rankOf 77 = .ok (.ireturn, 1) := by decide +kernel
theorem dX7_rankOf_78 : decode cX7_rankOf 78 = .ok (.iconst 5, 1) := by decide +kernel
theorem dX7_rankOf_79 : decode cX7_rankOf 79 = .ok (.ireturn, 1) := by decide +kernel
theorem dX7_rankOf_80 : decode cX7_rankOf 80 = .ok (.iconst 0, 1) := by decide +kernel
theorem dX7_rankOf_81 : decode cX7_rankOf 81 = .ok (.ireturn, 1) := by decide +kernel
theorem dX8_init_0 : decode cX8_init 0 = .ok (.aload_n 0, 1) := by decide +kernel
theorem dX8_init_1 : decode cX8_init 1 = .ok (.invokespecial 3, 3) := by decide +kernel
theorem dX8_init_4 : decode cX8_init 4 = .ok (.aload_n 0, 1) := by decide +kernel
theorem dX8_init_5 : decode cX8_init 5 = .ok (.iconst 0, 1) := by decide +kernel
theorem dX8_init_6 : decode cX8_init 6 = .ok (.putfield 9, 3) := by decide +kernel
theorem dX8_init_9 : decode cX8_init 9 = .ok (.aload_n 0, 1) := by decide +kernel
theorem dX8_init_10 : decode cX8_init 10 = .ok (.iconst 0, 1) := by decide +kernel
theorem dX8_init_11 : decode cX8_init 11 = .ok (.putfield 15, 3) := by decide +kernel
theorem dX8_init_14 : decode cX8_init 14 = .ok (.aload_n 0, 1) := by decide +kernel
theorem dX8_init_15 : decode cX8_init 15 = .ok (.bipush 8, 2) := by decide +kernel
theorem dX8_init_17 : decode cX8_init 17 = .ok (.newarray .int, 2) := by decide +kernel
theorem dX8_init_19 : decode cX8_init 19 = .ok (.putfield 18, 3) := by decide +kernel
theorem dX8_init_22 : decode cX8_init 22 = .ok (.aload_n 0, 1) := by decide +kernel
theorem dX8_init_23 : decode cX8_init 23 = .ok (.iconst 3, 1) := by decide +kernel
theorem dX8_init_24 : decode cX8_init 24 = .ok (.newarray .int, 2) := by decide +kernel
theorem dX8_init_26 : decode cX8_init 26 = .ok (.putfield 22, 3) := by decide +kernel
theorem dX8_init_29 : decode cX8_init 29 = .ok (.aload_n 0, 1) := by decide +kernel
theorem dX8_init_30 : decode cX8_init 30 = .ok (.iconst 3, 1) := by decide +kernel
theorem dX8_init_31 : decode cX8_init 31 = .ok (.newarray .int, 2) := by decide +kernel
theorem dX8_init_33 : decode cX8_init 33 = .ok (.putfield 25, 3) := by decide +kernel
theorem dX8_init_36 : decode cX8_init 36 = .ok (.aload_n 0, 1) := by decide +kernel
theorem dX8_init_37 : decode cX8_init 37 = .ok (.bipush 8, 2) := by decide +kernel
theorem dX8_init_39 : decode cX8_init 39 = .ok (.newarray .int, 2) := by decide +kernel
theorem dX8_init_41 : decode cX8_init 41 = .ok (.putfield 28, 3) := by decide +kernel
theorem dX8_init_44 : decode cX8_init 44 = .ok (.aload_n 0, 1) := by decide +kernel
theorem dX8_init_45 : decode cX8_init 45 = .ok (.bipush 8, 2) := by decide +kernel
theorem dX8_init_47 : decode cX8_init 47 = .ok (.newarray .int, 2) := by decide +kernel
theorem dX8_init_49 : decode cX8_init 49 = .ok (.putfield 31, 3) := by decide +kernel
theorem dX8_init_52 : decode cX8_init 52 = .ok (.aload_n 0, 1) := by decide +kernel
theorem dX8_init_53 : decode cX8_init 53 = .ok (.bipush 8, 2) := by decide +kernel
theorem dX8_init_55 : decode cX8_init 55 = .ok (.newarray .int, 2) := by decide +kernel
theorem dX8_init_57 : decode cX8_init 57 = .ok (.putfield 34, 3) := by decide +kernel
theorem dX8_init_60 : decode cX8_init 60 = .ok (.aload_n 0, 1) := by decide +kernel
theorem dX8_init_61 : decode cX8_init 61 = .ok (.bipush 8, 2) := by decide +kernel
theorem dX8_init_63 : decode cX8_init 63 = .ok (.newarray .int, 2) := by decide +kernel
theorem dX8_init_65 : decode cX8_init 65 = .ok (.putfield 37, 3) := by decide +kernel
theorem dX8_init_68 : decode cX8_init 68 = .ok (.aload_n 0, 1) := by decide +kernel
theorem dX8_init_69 : decode cX8_init 69 = .ok (.iconst 0, 1) := by decide +kernel
theorem dX8_init_70 : decode cX8_init 70 = .ok (.putfield 40, 3) := by decide +kernel
theorem dX8_init_73 : decode cX8_init 73 = .ok (.aload_n 0, 1) := by decide +kernel
theorem dX8_init_74 : decode cX8_init 74 = .ok (.iconst 0, 1) := by decide +kernel
theorem dX8_init_75 : decode cX8_init 75 = .ok (.putfield 43, 3) := by decide +kernel
theorem dX8_init_78 : decode cX8_init 78 = .ok (.aload_n 0, 1) := by decide +kernel
theorem dX8_init_79 : decode cX8_init 79 = .ok (.iconst 0, 1) := by decide +kernel
theorem dX8_init_80 : decode cX8_init 80 = .ok (.putfield 46, 3) := by decide +kernel
theorem dX8_init_83 : decode cX8_init 83 = .ok (.aload_n 0, 1) := by decide +kernel
theorem dX8_init_84 : decode cX8_init 84 = .ok (.iconst 0, 1) := by decide +kernel
theorem dX8_init_85 : decode cX8_init 85 = .ok (.putfield 49, 3) := by decide +kernel
theorem dX8_init_88 : decode cX8_init 88 = .ok (.aload_n 0, 1) := by decide +kernel
theorem dX8_init_89 : decode cX8_init 89 = .ok (.iconst 3, 1) := by decide +kernel
theorem dX8_init_90 : decode cX8_init 90 = .ok (.newarray .int, 2) := by decide +kernel
theorem dX8_init_92 : decode cX8_init 92 = .ok (.putfield 53, 3) := by decide +kernel
theorem dX8_init_95 : decode cX8_init 95 = .ok (.aload_n 0, 1) := by decide +kernel
theorem dX8_init_96 : decode cX8_init 96 = .ok (.iconst 3, 1) := by decide +kernel
theorem dX8_init_97 : decode cX8_init 97 = .ok (.newarray .int, 2) := by decide +kernel
theorem dX8_init_99 : decode cX8_init 99 = .ok (.putfield 56, 3) := by decide +kernel
theorem dX8_init_102 : decode cX8_init 102 = .ok (.aload_n 0, 1) := by decide +kernel
theorem dX8_init_103 : decode cX8_init 103 = .ok (.iconst 3, 1) := by decide +kernel
theorem dX8_init_104 : decode cX8_init 104 = .ok (.newarray .int, 2) := by decide +kernel
theorem dX8_init_106 : decode cX8_init 106 = .ok (.putfield 59, 3) := by decide +kernel
theorem dX8_init_109 : decode cX8_init 109 = .ok (.aload_n 0, 1) := by decide +kernel
theorem dX8_init_110 : decode cX8_init 110 = .ok (.iconst 3, 1) := by decide +kernel
theorem dX8_init_111 : decode cX8_init 111 = .ok (.newarray .int, 2) := by decide +kernel
theorem dX8_init_113 : decode cX8_init 113 = .ok (.putfield 62, 3) := by decide +kernel
theorem dX8_init_116 : decode cX8_init 116 = .ok (.aload_n 0, 1) := by decide +kernel
theorem dX8_init_117 : decode cX8_init 117 = .ok (.iconst 3, 1) := by decide +kernel
theorem dX8_init_118 : decode cX8_init 118 = .ok (.newarray .int, 2) := by decide +kernel
theorem dX8_init_120 : decode cX8_init 120 = .ok (.putfield 65, 3) := by decide +kernel
theorem dX8_init_123 : decode cX8_init 123 = .ok (.return_, 1) := by decide +kernel
theorem dX8_begin_0 : decode cX8_begin 0 = .ok (.aload_n 0, 1) := by decide +kernel
theorem dX8_begin_1 : decode cX8_begin 1 = .ok (.iconst 0, 1) := by decide +kernel
theorem dX8_begin_2 : decode cX8_begin 2 = .ok (.putfield 9, 3) := by decide +kernel
theorem dX8_begin_5 : decode cX8_begin 5 = .ok (.aload_n 0, 1) := by decide +kernel
theorem dX8_begin_6 : decode cX8_begin 6 = .ok (.aload_n 1, 1) := by decide +kernel
theorem dX8_begin_7 : decode cX8_begin 7 = .ok (.getfield 68, 3) := by decide +kernel
theorem dX8_begin_10 : decode cX8_begin 10 = .ok (.iconst 5, 1) := by decide +kernel
theorem dX8_begin_11 : decode cX8_begin 11 = .ok (.iaload, 1) := by decide +kernel
theorem dX8_begin_12 : decode cX8_begin 12 = .ok (.putfield 15, 3) := by decide +kernel
theorem dX8_begin_15 : decode cX8_begin 15 = .ok (.aload_n 0, 1) := by decide +kernel
theorem dX8_begin_16 : decode cX8_begin 16 = .ok (.iconst 0, 1) := by decide +kernel
theorem dX8_begin_17 : decode cX8_begin 17 = .ok (.putfield 40, 3) := by decide +kernel
theorem dX8_begin_20 : decode cX8_begin 20 = .ok (.aload_n 0, 1) := by decide +kernel
theorem dX8_begin_21 : decode cX8_begin 21 = .ok (.iconst 0, 1) := by decide +kernel
theorem dX8_begin_22 : decode cX8_begin 22 = .ok (.putfield 43, 3) := by decide +kernel
theorem dX8_begin_25 : decode cX8_begin 25 = .ok (.aload_n 0, 1) := by decide +kernel
theorem dX8_begin_26 : decode cX8_begin 26 = .ok (.iconst 0, 1) := by decide +kernel
theorem dX8_begin_27 : decode cX8_begin 27 = .ok (.putfield 46, 3) := by decide +kernel
theorem dX8_begin_30 : decode cX8_begin 30 = .ok (.aload_n 0, 1) := by decide +kernel
theorem dX8_begin_31 : decode cX8_begin 31 = .ok (.iconst 0, 1) := by decide +kernel
theorem dX8_begin_32 : decode cX8_begin 32 = .ok (.putfield 49, 3) := by decide +kernel
theorem dX8_begin_35 : decode cX8_begin 35 = .ok (.iconst 0, 1) := by decide +kernel
theorem dX8_begin_36 : decode cX8_begin 36 = .ok (.istore_n 2, 1) := by decide +kernel
theorem dX8_begin_37 : decode cX8_begin 37 = .ok (.iload_n 2, 1) := by decide +kernel
theorem dX8_begin_38 : decode cX8_begin 38 = .ok (.bipush 8, 2) := by decide +kernel
theorem dX8_begin_40 : decode cX8_begin 40 = .ok (.if_icmp .ge 44, 3) := by decide +kernel
theorem dX8_begin_43 : decode cX8_begin 43 = .ok (.aload_n 0, 1) := by decide +kernel
theorem dX8_begin_44 : decode cX8_begin 44 = .ok (.getfield 18, 3) := by decide +kernel
theorem dX8_begin_47 : decode cX8_begin 47 = .ok (.iload_n 2, 1) := by decide +kernel
theorem dX8_begin_48 : decode cX8_begin 48 = .ok (.iconst (-1), 1) := by decide +kernel
theorem dX8_begin_49 : decode cX8_begin 49 = .ok (.iastore, 1) := by decide +kernel
theorem dX8_begin_50 : decode cX8_begin 50 = .ok (.aload_n 0, 1) := by decide +kernel
theorem dX8_begin_51 : decode cX8_begin 51 = .ok (.getfield 28, 3) := by decide +kernel
theorem dX8_begin_54 : decode cX8_begin 54 = .ok (.iload_n 2, 1) := by decide +kernel
theorem dX8_begin_55 : decode cX8_begin 55 = .ok (.iconst 0, 1) := by decide +kernel
theorem dX8_begin_56 : decode cX8_begin 56 = .ok (.iastore, 1) := by decide +kernel
theorem dX8_begin_57 : decode cX8_begin 57 = .ok (.aload_n 0, 1) := by decide +kernel
theorem dX8_begin_58 : decode cX8_begin 58 = .ok (.getfield 31, 3) := by decide +kernel
theorem dX8_begin_61 : decode cX8_begin 61 = .ok (.iload_n 2, 1) := by decide +kernel
theorem dX8_begin_62 : decode cX8_begin 62 = .ok (.iconst 0, 1) := by decide +kernel
theorem dX8_begin_63 : decode cX8_begin 63 = .ok (.iastore, 1) := by decide +kernel
theorem dX8_begin_64 : decode cX8_begin 64 = .ok (.aload_n 0, 1) := by decide +kernel
theorem dX8_begin_65 : decode cX8_begin 65 = .ok (.getfield 34, 3) := by decide +kernel
theorem dX8_begin_68 : decode cX8_begin 68 = .ok (.iload_n 2, 1) := by decide +kernel
theorem dX8_begin_69 : decode cX8_begin 69 = .ok (.iconst 0, 1) := by decide +kernel
theorem dX8_begin_70 : decode cX8_begin 70 = .ok (.iastore, 1) := by decide +kernel
theorem dX8_begin_71 : decode cX8_begin 71 = .ok (.aload_n 0, 1) := by decide +kernel
theorem dX8_begin_72 : decode cX8_begin 72 = .ok (.getfield 37, 3) := by decide +kernel
theorem dX8_begin_75 : decode cX8_begin 75 = .ok (.iload_n 2, 1) := by decide +kernel
theorem dX8_begin_76 : decode cX8_begin 76 = .ok (.iconst 0, 1) := by decide +kernel
theorem dX8_begin_77 : decode cX8_begin 77 = .ok (.iastore, 1) := by decide +kernel
theorem dX8_begin_78 : decode cX8_begin 78 = .ok (.iinc 2 1, 3) := by decide +kernel
theorem dX8_begin_81 : decode cX8_begin 81 = .ok (.goto (-44), 3) := by decide +kernel
theorem dX8_begin_84 : decode cX8_begin 84 = .ok (.iconst 0, 1) := by decide +kernel
theorem dX8_begin_85 : decode cX8_begin 85 = .ok (.istore_n 2, 1) := by decide +kernel
theorem dX8_begin_86 : decode cX8_begin 86 = .ok (.iload_n 2, 1) := by decide +kernel
theorem dX8_begin_87 : decode cX8_begin 87 = .ok (.iconst 3, 1) := by decide +kernel
theorem dX8_begin_88 : decode cX8_begin 88 = .ok (.if_icmp .ge 33, 3) := by decide +kernel
theorem dX8_begin_91 : decode cX8_begin 91 = .ok (.aload_n 0, 1) := by decide +kernel
theorem dX8_begin_92 : decode cX8_begin 92 = .ok (.getfield 22, 3) := by decide +kernel
theorem dX8_begin_95 : decode cX8_begin 95 = .ok (.iload_n 2, 1) := by decide +kernel
theorem dX8_begin_96 : decode cX8_begin 96 = .ok (.iconst 0, 1) := by decide +kernel
theorem dX8_begin_97 : decode cX8_begin 97 = .ok (.iastore, 1) := by decide +kernel
theorem dX8_begin_98 : decode cX8_begin 98 = .ok (.aload_n 0, 1) := by decide +kernel
theorem dX8_begin_99 : decode cX8_begin 99 = .ok (.getfield 25, 3) := by decide +kernel
theorem dX8_begin_102 : decode cX8_begin 102 = .ok (.iload_n 2, 1) := by decide +kernel
theorem dX8_begin_103 : decode cX8_begin 103 = .ok (.aload_n 1, 1) := by decide +kernel
theorem dX8_begin_104 : decode cX8_begin 104 = .ok (.getfield 73, 3) := by decide +kernel
theorem dX8_begin_107 : decode cX8_begin 107 = .ok (.iload_n 2, 1) := by decide +kernel
theorem dX8_begin_108 : decode cX8_begin 108 = .ok (.iaload, 1) := by decide +kernel
theorem dX8_begin_109 : decode cX8_begin 109 = .ok (.iastore, 1) := by decide +kernel
theorem dX8_begin_110 : decode cX8_begin 110 = .ok (.aload_n 0, 1) := by decide +kernel
theorem dX8_begin_111 : decode cX8_begin 111 = .ok (.iload_n 2, 1) := by decide +kernel
theorem dX8_begin_112 : decode cX8_begin 112 = .ok (.invokevirtual 76, 3) := by decide +kernel
theorem dX8_begin_115 : decode cX8_begin 115 = .ok (.iinc 2 1, 3) := by decide +kernel
theorem dX8_begin_118 : decode cX8_begin 118 = .ok (.goto (-32), 3) := by decide +kernel
theorem dX8_begin_121 : decode cX8_begin 121 = .ok (.return_, 1) := by decide +kernel
theorem dX8_forgetSitting_0 : decode cX8_forgetSitting 0 = .ok (.iload_n 1, 1) := by decide +kernel
theorem dX8_forgetSitting_1 : decode cX8_forgetSitting 1 = .ok (.ifCond .lt 43, 3) := by decide +kernel
theorem dX8_forgetSitting_4 : decode cX8_forgetSitting 4 = .ok (.iload_n 1, 1) := by decide +kernel
theorem dX8_forgetSitting_5 : decode cX8_forgetSitting 5 = .ok (.iconst 3, 1) := by decide +kernel
theorem dX8_forgetSitting_6 : decode cX8_forgetSitting 6 = .ok (.if_icmp .ge 38, 3) := by decide +kernel
theorem dX8_forgetSitting_9 : decode cX8_forgetSitting 9 = .ok (.aload_n 0, 1) := by decide +kernel
theorem dX8_forgetSitting_10 : decode cX8_forgetSitting 10 = .ok (.getfield 53, 3) := by decide +kernel
theorem dX8_forgetSitting_13 : decode cX8_forgetSitting 13 = .ok (.iload_n 1, 1) := by decide +kernel
theorem dX8_forgetSitting_14 : decode cX8_forgetSitting 14 = .ok (.iconst 0, 1) := by decide +kernel
theorem dX8_forgetSitting_15 : decode cX8_forgetSitting 15 = .ok (.iastore, 1) := by decide +kernel
theorem dX8_forgetSitting_16 : decode cX8_forgetSitting 16 = .ok (.aload_n 0, 1) := by decide +kernel
theorem dX8_forgetSitting_17 : decode cX8_forgetSitting 17 = .ok (.getfield 56, 3) := by decide +kernel
theorem dX8_forgetSitting_20 : decode cX8_forgetSitting 20 = .ok (.iload_n 1, 1) := by decide +kernel
theorem dX8_forgetSitting_21 : decode cX8_forgetSitting 21 = .ok (.iconst 0, 1) := by decide +kernel
theorem dX8_forgetSitting_22 : decode cX8_forgetSitting 22 = .ok (.iastore, 1) := by decide +kernel
theorem dX8_forgetSitting_23 : decode cX8_forgetSitting 23 = .ok (.aload_n 0, 1) := by decide +kernel
theorem dX8_forgetSitting_24 : decode cX8_forgetSitting 24 = .ok (.getfield 59, 3) := by decide +kernel
theorem dX8_forgetSitting_27 : decode cX8_forgetSitting 27 = .ok (.iload_n 1, 1) := by decide +kernel
theorem dX8_forgetSitting_28 : decode cX8_forgetSitting 28 = .ok (.iconst 0, 1) := by decide +kernel
theorem dX8_forgetSitting_29 : decode cX8_forgetSitting 29 = .ok (.iastore, 1) := by decide +kernel
theorem dX8_forgetSitting_30 : decode cX8_forgetSitting 30 = .ok (.aload_n 0, 1) := by decide +kernel
theorem dX8_forgetSitting_31 : decode cX8_forgetSitting 31 = .ok (.getfield 62, 3) := by decide +kernel
theorem dX8_forgetSitting_34 : decode cX8_forgetSitting 34 = .ok (.iload_n 1, 1) := by decide +kernel
theorem dX8_forgetSitting_35 : decode cX8_forgetSitting 35 = .ok (.iconst 0, 1) := by decide +kernel
theorem dX8_forgetSitting_36 : decode cX8_forgetSitting 36 = .ok (.iastore, 1) := by decide +kernel
theorem dX8_forgetSitting_37 : decode cX8_forgetSitting 37 = .ok (.aload_n 0, 1) := by decide +kernel
theorem dX8_forgetSitting_38 : decode cX8_forgetSitting 38 = .ok (.getfield 65, 3) := by decide +kernel
theorem dX8_forgetSitting_41 : decode cX8_forgetSitting 41 = .ok (.iload_n 1, 1) := by decide +kernel
theorem dX8_forgetSitting_42 : decode cX8_forgetSitting 42 = .ok (.iconst 0, 1) := by decide +kernel
theorem dX8_forgetSitting_43 : decode cX8_forgetSitting 43 = .ok (.iastore, 1) := by decide +kernel
theorem dX8_forgetSitting_44 : decode cX8_forgetSitting 44 = .ok (.return_, 1) := by decide +kernel
theorem dX8_copy_0 : decode cX8_copy 0 = .ok (.aload_n 0, 1) := by decide +kernel
theorem dX8_copy_1 : decode cX8_copy 1 = .ok (.aload_n 1, 1) := by decide +kernel
theorem dX8_copy_2 : decode cX8_copy 2 = .ok (.getfield 9, 3) := by decide +kernel
theorem dX8_copy_5 : decode cX8_copy 5 = .ok (.putfield 9, 3) := by decide +kernel
theorem dX8_copy_8 : decode cX8_copy 8 = .ok (.aload_n 0, 1) := by decide +kernel
theorem dX8_copy_9 : decode cX8_copy 9 = .ok (.aload_n 1, 1) := by decide +kernel
theorem dX8_copy_10 : decode cX8_copy 10 = .ok (.getfield 15, 3) := by decide +kernel
theorem dX8_copy_13 : decode cX8_copy 13 = .ok (.putfield 15, 3) := by decide +kernel
theorem dX8_copy_16 : decode cX8_copy 16 = .ok (.aload_n 0, 1) := by decide +kernel
theorem dX8_copy_17 : decode cX8_copy 17 = .ok (.aload_n 1, 1) := by decide +kernel
theorem dX8_copy_18 : decode cX8_copy 18 = .ok (.getfield 40, 3) := by decide +kernel
theorem dX8_copy_21 : decode cX8_copy 21 = .ok (.putfield 40, 3) := by decide +kernel
theorem dX8_copy_24 : decode cX8_copy 24 = .ok (.aload_n 0, 1) := by decide +kernel
theorem dX8_copy_25 : decode cX8_copy 25 = .ok (.aload_n 1, 1) := by decide +kernel
theorem dX8_copy_26 : decode cX8_copy 26 = .ok (.getfield 43, 3) := by decide +kernel
theorem dX8_copy_29 : decode cX8_copy 29 = .ok (.putfield 43, 3) := by decide +kernel
theorem dX8_copy_32 : decode cX8_copy 32 = .ok (.aload_n 0, 1) := by decide +kernel
theorem dX8_copy_33 : decode cX8_copy 33 = .ok (.aload_n 1, 1) := by decide +kernel
theorem dX8_copy_34 : decode cX8_copy 34 = .ok (.getfield 46, 3) := by decide +kernel
theorem dX8_copy_37 : decode cX8_copy 37 = .ok (.putfield 46, 3) := by decide +kernel
theorem dX8_copy_40 : decode cX8_copy 40 = .ok (.aload_n 0, 1) := by decide +kernel
theorem dX8_copy_41 : decode cX8_copy 41 = .ok (.aload_n 1, 1) := by decide +kernel
theorem dX8_copy_42 : decode cX8_copy 42 = .ok (.getfield 49, 3) := by decide +kernel
theorem dX8_copy_45 : decode cX8_copy 45 = .ok (.putfield 49, 3) := by decide +kernel
theorem dX8_copy_48 : decode cX8_copy 48 = .ok (.aload_n 1, 1) := by decide +kernel
theorem dX8_copy_49 : decode cX8_copy 49 = .ok (.getfield 18, 3) := by decide +kernel
theorem dX8_copy_52 : decode cX8_copy 52 = .ok (.iconst 0, 1) := by decide +kernel
theorem dX8_copy_53 : decode cX8_copy 53 = .ok (.aload_n 0, 1) := by decide +kernel
theorem dX8_copy_54 : decode cX8_copy 54 = .ok (.getfield 18, 3) := by decide +kernel
theorem dX8_copy_57 : decode cX8_copy 57 = .ok (.iconst 0, 1) := by decide +kernel
theorem dX8_copy_58 : decode cX8_copy 58 = .ok (.bipush 8, 2) := by decide +kernel
theorem dX8_copy_60 : decode cX8_copy 60 = .ok (.invokestatic 80, 3) := by decide +kernel
theorem dX8_copy_63 : decode cX8_copy 63 = .ok (.aload_n 1, 1) := by decide +kernel
theorem dX8_copy_64 : decode cX8_copy 64 = .ok (.getfield 22, 3) := by decide +kernel
theorem dX8_copy_67 : decode cX8_copy 67 = .ok (.iconst 0, 1) := by decide +kernel
theorem dX8_copy_68 : decode cX8_copy 68 = .ok (.aload_n 0, 1) := by decide +kernel
theorem dX8_copy_69 : decode cX8_copy 69 = .ok (.getfield 22, 3) := by decide +kernel
theorem dX8_copy_72 : decode cX8_copy 72 = .ok (.iconst 0, 1) := by decide +kernel
theorem dX8_copy_73 : decode cX8_copy 73 = .ok (.iconst 3, 1) := by decide +kernel
theorem dX8_copy_74 : decode cX8_copy 74 = .ok (.invokestatic 80, 3) := by decide +kernel
theorem dX8_copy_77 : decode cX8_copy 77 = .ok (.aload_n 1, 1) := by decide +kernel
theorem dX8_copy_78 : decode cX8_copy 78 = .ok (.getfield 25, 3) := by decide +kernel
theorem dX8_copy_81 : decode cX8_copy 81 = .ok (.iconst 0, 1) := by decide +kernel
theorem dX8_copy_82 : decode cX8_copy 82 = .ok (.aload_n 0, 1) := by decide +kernel
theorem dX8_copy_83 : decode cX8_copy 83 = .ok (.getfield 25, 3) := by decide +kernel
theorem dX8_copy_86 : decode cX8_copy 86 = .ok (.iconst 0, 1) := by decide +kernel
theorem dX8_copy_87 : decode cX8_copy 87 = .ok (.iconst 3, 1) := by decide +kernel
theorem dX8_copy_88 : decode cX8_copy 88 = .ok (.invokestatic 80, 3) := by decide +kernel
theorem dX8_copy_91 : decode cX8_copy 91 = .ok (.aload_n 1, 1) := by decide +kernel
theorem dX8_copy_92 : decode cX8_copy 92 = .ok (.getfield 28, 3) := by decide +kernel
theorem dX8_copy_95 : decode cX8_copy 95 = .ok (.iconst 0, 1) := by decide +kernel
theorem dX8_copy_96 : decode cX8_copy 96 = .ok (.aload_n 0, 1) := by decide +kernel
theorem dX8_copy_97 : decode cX8_copy 97 = .ok (.getfield 28, 3) := by decide +kernel
theorem dX8_copy_100 : decode cX8_copy 100 = .ok (.iconst 0, 1) := by decide +kernel
theorem dX8_copy_101 : decode cX8_copy 101 = .ok (.bipush 8, 2) := by decide +kernel
theorem dX8_copy_103 : decode cX8_copy 103 = .ok (.invokestatic 80, 3) := by decide +kernel
theorem dX8_copy_106 : decode cX8_copy 106 = .ok (.aload_n 1, 1) := by decide +kernel
theorem dX8_copy_107 : decode cX8_copy 107 = .ok (.getfield 31, 3) := by decide +kernel
theorem dX8_copy_110 : decode cX8_copy 110 = .ok (.iconst 0, 1) := by decide +kernel
theorem dX8_copy_111 : decode cX8_copy 111 = .ok (.aload_n 0, 1) := by decide +kernel
theorem dX8_copy_112 : decode cX8_copy 112 = .ok (.getfield 31, 3) := by decide +kernel
theorem dX8_copy_115 : decode cX8_copy 115 = .ok (.iconst 0, 1) := by decide +kernel
theorem dX8_copy_116 : decode cX8_copy 116 = .ok (.bipush 8, 2) := by decide +kernel
theorem dX8_copy_118 : decode cX8_copy 118 = .ok (.invokestatic 80, 3) := by decide +kernel
theorem dX8_copy_121 : decode cX8_copy 121 = .ok (.aload_n 1, 1) := by decide +kernel
theorem dX8_copy_122 : decode cX8_copy 122 = .ok (.getfield 34, 3) := by decide +kernel
theorem dX8_copy_125 : decode cX8_copy 125 = .ok (.iconst 0, 1) := by decide +kernel
theorem dX8_copy_126 : decode cX8_copy 126 = .ok (.aload_n 0, 1) := by decide +kernel
theorem dX8_copy_127 : decode cX8_copy 127 = .ok (.getfield 34, 3) := by decide +kernel
theorem dX8_copy_130 : decode cX8_copy 130 = .ok (.iconst 0, 1) := by decide +kernel
theorem dX8_copy_131 : decode cX8_copy 131 = .ok (.bipush 8, 2) := by decide +kernel
theorem dX8_copy_133 : decode cX8_copy 133 = .ok (.invokestatic 80, 3) := by decide +kernel
theorem dX8_copy_136 : decode cX8_copy 136 = .ok (.aload_n 1, 1) := by decide +kernel
theorem dX8_copy_137 : decode cX8_copy 137 = .ok (.getfield 37, 3) := by decide +kernel
theorem dX8_copy_140 : decode cX8_copy 140 = .ok (.iconst 0, 1) := by decide +kernel
theorem dX8_copy_141 : decode cX8_copy 141 = .ok (.aload_n 0, 1) := by decide +kernel
theorem dX8_copy_142 : decode cX8_copy 142 = .ok (.getfield 37, 3) := by decide +kernel
theorem dX8_copy_145 : decode cX8_copy 145 = .ok (.iconst 0, 1) := by decide +kernel
theorem dX8_copy_146 : decode cX8_copy 146 = .ok (.bipush 8, 2) := by decide +kernel
theorem dX8_copy_148 : decode cX8_copy 148 = .ok (.invokestatic 80, 3) := by decide +kernel
theorem dX8_copy_151 : decode cX8_copy 151 = .ok (.aload_n 1, 1) := by decide +kernel
theorem dX8_copy_152 : decode cX8_copy 152 = .ok (.getfield 53, 3) := by decide +kernel
theorem dX8_copy_155 : decode cX8_copy 155 = .ok (.iconst 0, 1) := by decide +kernel
theorem dX8_copy_156 : decode cX8_copy 156 = .ok (.aload_n 0, 1) := by decide +kernel
theorem dX8_copy_157 : decode cX8_copy 157 = .ok (.getfield 53, 3) := by decide +kernel
theorem dX8_copy_160 : decode cX8_copy 160 = .ok (.iconst 0, 1) := by decide +kernel
theorem dX8_copy_161 : decode cX8_copy 161 = .ok (.iconst 3, 1) := by decide +kernel
theorem dX8_copy_162 : decode cX8_copy 162 = .ok (.invokestatic 80, 3) := by decide +kernel
theorem dX8_copy_165 : decode cX8_copy 165 = .ok (.aload_n 1, 1) := by decide +kernel
theorem dX8_copy_166 : decode cX8_copy 166 = .ok (.getfield 56, 3) := by decide +kernel
theorem dX8_copy_169 : decode cX8_copy 169 = .ok (.iconst 0, 1) := by decide +kernel
theorem dX8_copy_170 : decode cX8_copy 170 = .ok (.aload_n 0, 1) := by decide +kernel
theorem dX8_copy_171 : decode cX8_copy 171 = .ok (.getfield 56, 3) := by decide +kernel
theorem dX8_copy_174 : decode cX8_copy 174 = .ok (.iconst 0, 1) := by decide +kernel
theorem dX8_copy_175 : decode cX8_copy 175 = .ok (.iconst 3, 1) := by decide +kernel
theorem dX8_copy_176 : decode cX8_copy 176 = .ok (.invokestatic 80, 3) := by decide +kernel
theorem dX8_copy_179 : decode cX8_copy 179 = .ok (.aload_n 1, 1) := by decide +kernel
theorem dX8_copy_180 : decode cX8_copy 180 = .ok (.getfield 59, 3) := by decide +kernel
theorem dX8_copy_183 : decode cX8_copy 183 = .ok (.iconst 0, 1) := by decide +kernel
theorem dX8_copy_184 : decode cX8_copy 184 = .ok (.aload_n 0, 1) := by decide +kernel
theorem dX8_copy_185 : decode cX8_copy 185 = .ok (.getfield 59, 3) := by decide +kernel
theorem dX8_copy_188 : decode cX8_copy 188 = .ok (.iconst 0, 1) := by decide +kernel
theorem dX8_copy_189 : decode cX8_copy 189 = .ok (.iconst 3, 1) := by decide +kernel
theorem dX8_copy_190 : decode cX8_copy 190 = .ok (.invokestatic 80, 3) := by decide +kernel
theorem dX8_copy_193 : decode cX8_copy 193 = .ok (.aload_n 1, 1) := by decide +kernel
theorem dX8_copy_194 : decode cX8_copy 194 = .ok (.getfield 62, 3) := by decide +kernel
theorem dX8_copy_197 : decode cX8_copy 197 = .ok (.iconst 0, 1) := by decide +kernel
theorem dX8_copy_198 : decode cX8_copy 198 = .ok (.aload_n 0, 1) := by decide +kernel
theorem dX8_copy_199 : decode cX8_copy 199 = .ok (.getfield 62, 3) := by decide +kernel
theorem dX8_copy_202 : decode cX8_copy 202 = .ok (.iconst 0, 1) := by decide +kernel
theorem dX8_copy_203 : decode cX8_copy 203 = .ok (.iconst 3, 1) := by decide +kernel
theorem dX8_copy_204 : decode cX8_copy 204 = .ok (.invokestatic 80, 3) := by decide +kernel
theorem dX8_copy_207 : decode cX8_copy 207 = .ok (.aload_n 1, 1) := by decide +kernel
theorem dX8_copy_208 : decode cX8_copy 208 = .ok (.getfield 65, 3) := by decide +kernel
theorem dX8_copy_211 : decode cX8_copy 211 = .ok (.iconst 0, 1) := by decide +kernel
theorem dX8_copy_212 : decode cX8_copy 212 = .ok (.aload_n 0, 1) := by decide +kernel
theorem dX8_copy_213 : decode cX8_copy 213 = .ok (.getfield 65, 3) := by decide +kernel
theorem dX8_copy_216 : decode cX8_copy 216 = .ok (.iconst 0, 1) := by decide +kernel
theorem dX8_copy_217 : decode cX8_copy 217 = .ok (.iconst 3, 1) := by decide +kernel
theorem dX8_copy_218 : decode cX8_copy 218 = .ok (.invokestatic 80, 3) := by decide +kernel
theorem dX8_copy_221 : decode cX8_copy 221 = .ok (.return_, 1) := by decide +kernel
theorem dX8_personsFor_0 : decode cX8_personsFor 0 = .ok (.iconst 0, 1) := by decide +kernel
theorem dX8_personsFor_1 : decode cX8_personsFor 1 = .ok (.istore_n 3, 1) := by decide +kernel
theorem dX8_personsFor_2 : decode cX8_personsFor 2 = .ok (.iconst 0, 1) := by decide +kernel
theorem dX8_personsFor_3 : decode cX8_personsFor 3 = .ok (.istore 4, 2) := by decide +kernel
theorem dX8_personsFor_5 : decode cX8_personsFor 5 = .ok (.iload 4, 2) := by decide +kernel
theorem dX8_personsFor_7 : decode cX8_personsFor 7 = .ok (.aload_n 2, 1) := by decide +kernel
theorem dX8_personsFor_8 : decode cX8_personsFor 8 = .ok (.getfield 86, 3) := by decide +kernel
theorem dX8_personsFor_11 : decode cX8_personsFor 11 = .ok (.if_icmp .ge 30, 3) := by decide +kernel
theorem dX8_personsFor_14 : decode cX8_personsFor 14 = .ok (.aload_n 0, 1) := by decide +kernel
theorem dX8_personsFor_15 : decode cX8_personsFor 15 = .ok (.getfield 18, 3) := by decide +kernel
theorem dX8_personsFor_18 : decode cX8_personsFor 18 = .ok (.iload 4, 2) := by decide +kernel
theorem dX8_personsFor_20 : decode cX8_personsFor 20 = .ok (.iaload, 1) := by decide +kernel
theorem dX8_personsFor_21 : decode cX8_personsFor 21 = .ok (.iload_n 1, 1) := by decide +kernel
theorem dX8_personsFor_22 : decode cX8_personsFor 22 = .ok (.if_icmp .ne 13, 3) := by decide +kernel
theorem dX8_personsFor_25 : decode cX8_personsFor 25 = .ok (.iload_n 3, 1) := by decide +kernel
theorem dX8_personsFor_26 : decode cX8_personsFor 26 = .ok (.aload_n 2, 1) := by decide +kernel
theorem dX8_personsFor_27 : decode cX8_personsFor 27 = .ok (.iload 4, 2) := by decide +kernel
theorem dX8_personsFor_29 : decode cX8_personsFor 29 = .ok (.iconst 0, 1) := by decide +kernel
theorem dX8_personsFor_30 : decode cX8_personsFor 30 = .ok (.invokevirtual 89, 3) := by decide +kernel
theorem dX8_personsFor_33 : decode cX8_personsFor 33 = .ok (.iadd, 1) := by decide +kernel
theorem dX8_personsFor_34 : decode cX8_personsFor 34 = .ok (.istore_n 3, 1) := by decide +kernel
theorem dX8_personsFor_35 : decode cX8_personsFor 35 = .ok (.iinc 4 1, 3) := by decide +kernel
theorem dX8_personsFor_38 : decode cX8_personsFor 38 = .ok (.goto (-33), 3) := by decide +kernel
theorem dX8_personsFor_41 : decode cX8_personsFor 41 = .ok (.iload_n 3, 1) := by decide +kernel
theorem dX8_personsFor_42 : decode cX8_personsFor 42 = .ok (.ireturn, 1) := by decide +kernel
theorem dX8_isAnyLate_0 : decode cX8_isAnyLate 0 = .ok (.iconst 0, 1) := by decide +kernel
theorem dX8_isAnyLate_1 : decode cX8_isAnyLate 1 = .ok (.istore_n 2, 1) := by decide +kernel
theorem dX8_isAnyLate_2 : decode cX8_isAnyLate 2 = .ok (.iload_n 2, 1) := by decide +kernel
theorem dX8_isAnyLate_3 : decode cX8_isAnyLate 3 = .ok (.iload_n 1, 1) := by decide +kernel
theorem dX8_isAnyLate_4 : decode cX8_isAnyLate 4 = .ok (.if_icmp .ge 25, 3) := by decide +kernel
theorem dX8_isAnyLate_7 : decode cX8_isAnyLate 7 = .ok (.iload_n 2, 1) := by decide +kernel
theorem dX8_isAnyLate_8 : decode cX8_isAnyLate 8 = .ok (.iconst 3, 1) := by decide +kernel
theorem dX8_isAnyLate_9 : decode cX8_isAnyLate 9 = .ok (.if_icmp .ge 20, 3) := by decide +kernel
theorem dX8_isAnyLate_12 : decode cX8_isAnyLate 12 = .ok (.aload_n 0, 1) := by decide +kernel
theorem dX8_isAnyLate_13 : decode cX8_isAnyLate 13 = .ok (.getfield 56, 3) := by decide +kernel
theorem dX8_isAnyLate_16 : decode cX8_isAnyLate 16 = .ok (.iload_n 2, 1) := by decide +kernel
theorem dX8_isAnyLate_17 : decode cX8_isAnyLate 17 = .ok (.iaload, 1) := by decide +kernel
theorem dX8_isAnyLate_18 : decode cX8_isAnyLate 18 = .ok (.ifCond .le 5, 3) := by decide +kernel
theorem dX8_isAnyLate_21 : decode cX8_isAnyLate 21 = .ok (.iconst 1, 1) := by decide +kernel
theorem dX8_isAnyLate_22 : decode cX8_isAnyLate 22 = .ok (.ireturn, 1) := by decide +kernel
theorem dX8_isAnyLate_23 : decode cX8_isAnyLate 23 = .ok (.iinc 2 1, 3) := by decide +kernel
theorem dX8_isAnyLate_26 : decode cX8_isAnyLate 26 = .ok (.goto (-24), 3) := by decide +kernel
theorem dX8_isAnyLate_29 : decode cX8_isAnyLate 29 = .ok (.iconst 0, 1) := by decide +kernel
theorem dX8_isAnyLate_30 : decode cX8_isAnyLate 30 = .ok (.ireturn, 1) := by decide +kernel
theorem dX8_crossInAll_0 : decode cX8_crossInAll 0 = .ok (.iconst 0, 1) := by decide +kernel
theorem dX8_crossInAll_1 : decode cX8_crossInAll 1 = .ok (.istore_n 1, 1) := by decide +kernel
theorem dX8_crossInAll_2 : decode cX8_crossInAll 2 = .ok (.iconst 0, 1) := by decide +kernel
theorem dX8_crossInAll_3 : decode cX8_crossInAll 3 = .ok (.istore_n 2, 1) := by decide +kernel
theorem dX8_crossInAll_4 : decode cX8_crossInAll 4 = .ok (.iload_n 2, 1) := by decide +kernel
theorem dX8_crossInAll_5 : decode cX8_crossInAll 5 = .ok (.bipush 8, 2) := by decide +kernel
theorem dX8_crossInAll_7 : decode cX8_crossInAll 7 = .ok (.if_icmp .ge 18, 3) := by decide +kernel
theorem dX8_crossInAll_10 : decode cX8_crossInAll 10 = .ok (.iload_n 1, 1) := by decide +kernel
theorem dX8_crossInAll_11 : decode cX8_crossInAll 11 = .ok (.aload_n 0, 1) := by decide +kernel
theorem dX8_crossInAll_12 : decode cX8_crossInAll 12 = .ok (.getfield 31, 3) := by decide +kernel
theorem dX8_crossInAll_15 : decode cX8_crossInAll 15 = .ok (.iload_n 2, 1) := by decide +kernel
theorem dX8_crossInAll_16 : decode cX8_crossInAll 16 = .ok (.iaload, 1) := by decide +kernel
theorem dX8_crossInAll_17 : decode cX8_crossInAll 17 = .ok (.iadd, 1) := by decide +kernel
theorem dX8_crossInAll_18 : decode cX8_crossInAll 18 = .ok (.istore_n 1, 1) := by decide +kernel
theorem dX8_crossInAll_19 : decode cX8_crossInAll 19 = .ok (.iinc 2 1, 3) := by decide +kernel
theorem dX8_crossInAll_22 : decode cX8_crossInAll 22 = .ok (.goto (-18), 3) := by decide +kernel
theorem dX8_crossInAll_25 : decode cX8_crossInAll 25 = .ok (.iload_n 1, 1) := by decide +kernel
theorem dX8_crossInAll_26 : decode cX8_crossInAll 26 = .ok (.ireturn, 1) := by decide +kernel
theorem dX8_draw_0 : decode cX8_draw 0 = .ok (.aload_n 0, 1) := by decide +kernel
theorem dX8_draw_1 : decode cX8_draw 1 = .ok (.aload_n 0, 1) := by decide +kernel
theorem dX8_draw_2 : decode cX8_draw 2 = .ok (.getfield 15, 3) := by decide +kernel
theorem dX8_draw_5 : decode cX8_draw 5 = .ok (.ldc 93, 2) := by decide +kernel
theorem dX8_draw_7 : decode cX8_draw 7 = .ok (.imul, 1) := by decide +kernel
theorem dX8_draw_8 : decode cX8_draw 8 = .ok (.sipush 12345, 3) := by decide +kernel
theorem dX8_draw_11 : decode cX8_draw 11 = .ok (.iadd, 1) := by decide +kernel
theorem dX8_draw_12 : decode cX8_draw 12 = .ok (.ldc 94, 2) := by decide +kernel
theorem dX8_draw_14 : decode cX8_draw 14 = .ok (.iand, 1) := by decide +kernel
theorem dX8_draw_15 : decode cX8_draw 15 = .ok (.putfield 15, 3) := by decide +kernel
theorem dX8_draw_18 : decode cX8_draw 18 = .ok (.aload_n 0, 1) := by decide +kernel
theorem dX8_draw_19 : decode cX8_draw 19 = .ok (.getfield 15, 3) := by decide +kernel
theorem dX8_draw_22 : decode cX8_draw 22 = .ok (.ldc 95, 2) := by decide +kernel
theorem dX8_draw_24 : decode cX8_draw 24 = .ok (.idiv, 1) := by decide +kernel
theorem dX8_draw_25 : decode cX8_draw 25 = .ok (.ireturn, 1) := by decide +kernel
theorem dX9_init_0 : decode cX9_init 0 = .ok (.aload_n 0, 1) := by decide +kernel
theorem dX9_init_1 : decode cX9_init 1 = .ok (.invokespecial 3, 3) := by decide +kernel
theorem dX9_init_4 : decode cX9_init 4 = .ok (.aload_n 0, 1) := by decide +kernel
theorem dX9_init_5 : decode cX9_init 5 = .ok (.sipush 701, 3) := by decide +kernel
theorem dX9_init_8 : decode cX9_init 8 = .ok (.newarray .int, 2) := by decide +kernel
theorem dX9_init_10 : decode cX9_init 10 = .ok (.putfield 9, 3) := by decide +kernel
theorem dX9_init_13 : decode cX9_init 13 = .ok (.aload_n 0, 1) := by decide +kernel
theorem dX9_init_14 : decode cX9_init 14 = .ok (.sipush 701, 3) := by decide +kernel
theorem dX9_init_17 : decode cX9_init 17 = .ok (.newarray .int, 2) := by decide +kernel
theorem dX9_init_19 : decode cX9_init 19 = .ok (.putfield 15, 3) := by decide +kernel
theorem dX9_init_22 : decode cX9_init 22 = .ok (.aload_n 0, 1) := by decide +kernel
theorem dX9_init_23 : decode cX9_init 23 = .ok (.sipush 701, 3) := by decide +kernel
theorem dX9_init_26 : decode cX9_init 26 = .ok (.newarray .int, 2) := by decide +kernel
theorem dX9_init_28 : decode cX9_init 28 = .ok (.putfield 18, 3) := by decide +kernel
theorem dX9_init_31 : decode cX9_init 31 = .ok (.aload_n 0, 1) := by decide +kernel
theorem dX9_init_32 : decode cX9_init 32 = .ok (.iconst 0, 1) := by decide +kernel
theorem dX9_init_33 : decode cX9_init 33 = .ok (.putfield 21, 3) := by decide +kernel
theorem dX9_init_36 : decode cX9_init 36 = .ok (.return_, 1) := by decide +kernel
theorem dX9_split_0 : decode cX9_split 0 = .ok (.iload_n 2, 1) := by decide +kernel
theorem dX9_split_1 : decode cX9_split 1 = .ok (.aload_n 1, 1) := by decide +kernel
theorem dX9_split_2 : decode cX9_split 2 = .ok (.arraylength, 1) := by decide +kernel
theorem dX9_split_3 : decode cX9_split 3 = .ok (.invokestatic 25, 3) := by decide +kernel
theorem dX9_split_6 : decode cX9_split 6 = .ok (.istore_n 3, 1) := by decide +kernel
theorem dX9_split_7 : decode cX9_split 7 = .ok (.aload_n 0, 1) := by decide +kernel
theorem dX9_split_8 : decode cX9_split 8 = .ok (.iconst 0, 1) := by decide +kernel
theorem dX9_split_9 : decode cX9_split 9 = .ok (.putfield 21, 3) := by decide +kernel
theorem dX9_split_12 : decode cX9_split 12 = .ok (.iconst 0, 1) := by decide +kernel
theorem dX9_split_13 : decode cX9_split 13 = .ok (.istore 4, 2) := by decide +kernel
theorem dX9_split_15 : decode cX9_split 15 = .ok (.iconst 0, 1) := by decide +kernel
theorem dX9_split_16 : decode cX9_split 16 = .ok (.istore 5, 2) := by decide +kernel
theorem dX9_split_18 : decode cX9_split 18 = .ok (.iload 5, 2) := by decide +kernel
theorem dX9_split_20 : decode cX9_split 20 = .ok (.iload_n 3, 1) := by decide +kernel
theorem dX9_split_21 : decode cX9_split 21 = .ok (.if_icmp .ge 107, 3) := by decide +kernel
theorem dX9_split_24 : decode cX9_split 24 = .ok (.aload_n 1, 1) := by decide +kernel
theorem dX9_split_25 : decode cX9_split 25 = .ok (.iload 5, 2) := by decide +kernel
theorem dX9_split_27 : decode cX9_split 27 = .ok (.baload, 1) := by decide +kernel
theorem dX9_split_28 : decode cX9_split 28 = .ok (.istore 6, 2) := by decide +kernel
theorem dX9_split_30 : decode cX9_split 30 = .ok (.iload 6, 2) := by decide +kernel
theorem dX9_split_32 : decode cX9_split 32 = .ok (.invokestatic 31, 3) := by decide +kernel
theorem dX9_split_35 : decode cX9_split 35 = .ok (.ifCond .eq 16, 3) := by decide +kernel
theorem dX9_split_38 : decode cX9_split 38 = .ok (.aload_n 0, 1) := by decide +kernel
theorem dX9_split_39 : decode cX9_split 39 = .ok (.aload_n 1, 1) := by decide +kernel
theorem dX9_split_40 : decode cX9_split 40 = .ok (.iload_n 3, 1) := by decide +kernel
theorem dX9_split_41 : decode cX9_split 41 = .ok (.iload 5, 2) := by decide +kernel
theorem dX9_split_43 : decode cX9_split 43 = .ok (.invokevirtual 35, 3) := by decide +kernel
theorem dX9_split_46 : decode cX9_split 46 = .ok (.istore 4, 2) := by decide +kernel
theorem dX9_split_48 : decode cX9_split 48 = .ok (.goto 66, 3) := by decide +kernel
theorem dX9_split_51 : decode cX9_split 51 = .ok (.iload 6, 2) := by decide +kernel
theorem dX9_split_53 : decode cX9_split 53 = .ok (.invokestatic 39, 3) := by decide +kernel
theorem dX9_split_56 : decode cX9_split 56 = .ok (.ifCond .eq 16, 3) := by decide +kernel
theorem dX9_split_59 : decode cX9_split 59 = .ok (.aload_n 0, 1) := by decide +kernel
theorem dX9_split_60 : decode cX9_split 60 = .ok (.aload_n 1, 1) := by decide +kernel
theorem dX9_split_61 : decode cX9_split 61 = .ok (.iload_n 3, 1) := by decide +kernel
theorem dX9_split_62 : decode cX9_split 62 = .ok (.iload 5, 2) := by decide +kernel
theorem dX9_split_64 : decode cX9_split 64 = .ok (.invokevirtual 42, 3) := by decide +kernel
theorem dX9_split_67 : decode cX9_split 67 = .ok (.istore 4, 2) := by decide +kernel
theorem dX9_split_69 : decode cX9_split 69 = .ok (.goto 45, 3) := by decide +kernel
theorem dX9_split_72 : decode cX9_split 72 = .ok (.iload 6, 2) := by decide +kernel
theorem dX9_split_74 : decode cX9_split 74 = .ok (.bipush 32, 2) := by decide +kernel
theorem dX9_split_76 : decode cX9_split 76 = .ok (.if_icmp .eq 38, 3) := by decide +kernel
theorem dX9_split_79 : decode cX9_split 79 = .ok (.iload 6, 2) := by decide +kernel
theorem dX9_split_81 : decode cX9_split 81 = .ok (.bipush 10, 2) := by decide +kernel
theorem dX9_split_83 : decode cX9_split 83 = .ok (.if_icmp .eq 31, 3) := by decide +kernel
theorem dX9_split_86 : decode cX9_split 86 = .ok (.aload_n 0, 1) := by decide +kernel
theorem dX9_split_87 : decode cX9_split 87 = .ok (.iload 6, 2) := by decide +kernel
theorem dX9_split_89 : decode cX9_split 89 = .ok (.iload 5, 2) := by decide +kernel
theorem dX9_split_91 : decode cX9_split 91 = .ok (.iconst 1, 1) := by decide +kernel
theorem dX9_split_92 : decode cX9_split 92 = .ok (.iadd, 1) := by decide +kernel
theorem dX9_split_93 : decode cX9_split 93 = .ok (.iload_n 3, 1) := by decide +kernel
theorem dX9_split_94 : decode cX9_split 94 = .ok (.if_icmp .ge 12, 3) := by decide +kernel
theorem dX9_split_97 : decode cX9_split 97 = .ok (.aload_n 1, 1) := by decide +kernel
theorem dX9_split_98 : decode cX9_split 98 = .ok (.iload 5, 2) := by decide +kernel
theorem dX9_split_100 : decode cX9_split 100 = .ok (.iconst 1, 1) := by decide +kernel
theorem dX9_split_101 : decode cX9_split 101 = .ok (.iadd, 1) := by decide +kernel
theorem dX9_split_102 : decode cX9_split 102 = .ok (.baload, 1) := by decide +kernel
theorem dX9_split_103 : decode cX9_split 103 = .ok (.goto 4, 3) := by decide +kernel
theorem dX9_split_106 : decode cX9_split 106 = .ok (.iconst 0, 1) := by decide +kernel
theorem dX9_split_107 : decode cX9_split 107 = .ok (.iload 5, 2) := by decide +kernel
theorem dX9_split_109 : decode cX9_split 109 = .ok (.invokevirtual 45, 3) := by decide +kernel
theorem dX9_split_112 : decode cX9_split 112 = .ok (.istore 4, 2) := by decide +kernel
theorem dX9_split_114 : decode cX9_split 114 = .ok (.iload 5, 2) := by decide +kernel
theorem dX9_split_116 : decode cX9_split 116 = .ok (.iconst 1, 1) := by decide +kernel
theorem dX9_split_117 : decode cX9_split 117 = .ok (.iadd, 1) := by decide +kernel
theorem dX9_split_118 : decode cX9_split 118 = .ok (.iload 4, 2) := by decide +kernel
theorem dX9_split_120 : decode cX9_split 120 = .ok (.invokestatic 49, 3) := by decide +kernel
theorem dX9_split_123 : decode cX9_split 123 = .ok (.istore 5, 2) := by decide +kernel
theorem dX9_split_125 : decode cX9_split 125 = .ok (.goto (-107), 3) := by decide +kernel
theorem dX9_split_128 : decode cX9_split 128 = .ok (.aload_n 0, 1) := by decide +kernel
theorem dX9_split_129 : decode cX9_split 129 = .ok (.iconst 0, 1) := by decide +kernel
theorem dX9_split_130 : decode cX9_split 130 = .ok (.iload_n 3, 1) := by decide +kernel
theorem dX9_split_131 : decode cX9_split 131 = .ok (.iconst 0, 1) := by decide +kernel
theorem dX9_split_132 : decode cX9_split 132 = .ok (.invokevirtual 52, 3) := by decide +kernel
theorem dX9_split_135 : decode cX9_split 135 = .ok (.return_, 1) := by decide +kernel
theorem dX9_put_0 : decode cX9_put 0 = .ok (.aload_n 0, 1) := by decide +kernel
theorem dX9_put_1 : decode cX9_put 1 = .ok (.getfield 21, 3) := by decide +kernel
theorem dX9_put_4 : decode cX9_put 4 = .ok (.aload_n 0, 1) := by decide +kernel
theorem dX9_put_5 : decode cX9_put 5 = .ok (.getfield 9, 3) := by decide +kernel
theorem dX9_put_8 : decode cX9_put 8 = .ok (.arraylength, 1) := by decide +kernel
theorem dX9_put_9 : decode cX9_put 9 = .ok (.if_icmp .ge 43, 3) := by decide +kernel
theorem dX9_put_12 : decode cX9_put 12 = .ok (.aload_n 0, 1) := by decide +kernel
theorem dX9_put_13 : decode cX9_put 13 = .ok (.getfield 9, 3) := by decide +kernel
theorem dX9_put_16 : decode cX9_put 16 = .ok (.aload_n 0, 1) := by decide +kernel
theorem dX9_put_17 : decode cX9_put 17 = .ok (.getfield 21, 3) := by decide +kernel
theorem dX9_put_20 : decode cX9_put 20 = .ok (.iload_n 1, 1) := by decide +kernel
theorem dX9_put_21 : decode cX9_put 21 = .ok (.iastore, 1) := by decide +kernel
theorem dX9_put_22 : decode cX9_put 22 = .ok (.aload_n 0, 1) := by decide +kernel
theorem dX9_put_23 : decode cX9_put 23 = .ok (.getfield 15, 3) := by decide +kernel
theorem dX9_put_26 : decode cX9_put 26 = .ok (.aload_n 0, 1) := by decide +kernel
theorem dX9_put_27 : decode cX9_put 27 = .ok (.getfield 21, 3) := by decide +kernel
theorem dX9_put_30 : decode cX9_put 30 = .ok (.iload_n 2, 1) := by decide +kernel
theorem dX9_put_31 : decode cX9_put 31 = .ok (.iastore, 1) := by decide +kernel
theorem dX9_put_32 : decode cX9_put 32 = .ok (.aload_n 0, 1) := by decide +kernel
theorem dX9_put_33 : decode cX9_put 33 = .ok (.getfield 18, 3) := by decide +kernel
theorem dX9_put_36 : decode cX9_put 36 = .ok (.aload_n 0, 1) := by decide +kernel
theorem dX9_put_37 : decode cX9_put 37 = .ok (.getfield 21, 3) := by decide +kernel
theorem dX9_put_40 : decode cX9_put 40 = .ok (.iload_n 3, 1) := by decide +kernel
theorem dX9_put_41 : decode cX9_put 41 = .ok (.iastore, 1) := by decide +kernel
theorem dX9_put_42 : decode cX9_put 42 = .ok (.aload_n 0, 1) := by decide +kernel
theorem dX9_put_43 : decode cX9_put 43 = .ok (.dup, 1) := by decide +kernel
theorem dX9_put_44 : decode cX9_put 44 = .ok (.getfield 21, 3) := by decide +kernel
theorem dX9_put_47 : decode cX9_put 47 = .ok (.iconst 1, 1) := by decide +kernel
theorem dX9_put_48 : decode cX9_put 48 = .ok (.iadd, 1) := by decide +kernel
theorem dX9_put_49 : decode cX9_put 49 = .ok (.putfield 21, 3) := by decide +kernel
theorem dX9_put_52 : decode cX9_put 52 = .ok (.return_, 1) := by decide +kernel
theorem dX9_isDigit_0 : decode cX9_isDigit 0 = .ok (.iload_n 0, 1) := by decide +kernel
theorem dX9_isDigit_1 : decode cX9_isDigit 1 = .ok (.bipush 48, 2) := by decide +kernel
theorem dX9_isDigit_3 : decode cX9_isDigit 3 = .ok (.if_icmp .lt 13, 3) := by decide +kernel
theorem dX9_isDigit_6 : decode cX9_isDigit 6 = .ok (.iload_n 0, 1) := by decide +kernel
theorem dX9_isDigit_7 : decode cX9_isDigit 7 = .ok (.bipush 57, 2) := by decide +kernel
theorem dX9_isDigit_9 : decode cX9_isDigit 9 = .ok (.if_icmp .gt 7, 3) := by decide +kernel
theorem dX9_isDigit_12 : decode cX9_isDigit 12 = .ok (.iconst 1, 1) := by decide +kernel
theorem dX9_isDigit_13 : decode cX9_isDigit 13 = .ok (.goto 4, 3) := by decide +kernel
theorem dX9_isDigit_16 : decode cX9_isDigit 16 = .ok (.iconst 0, 1) := by decide +kernel
theorem dX9_isDigit_17 : decode cX9_isDigit 17 = .ok (.ireturn, 1) := by decide +kernel
theorem dX9_isLetter_0 : decode cX9_isLetter 0 = .ok (.iload_n 0, 1) := by decide +kernel
theorem dX9_isLetter_1 : decode cX9_isLetter 1 = .ok (.bipush 97, 2) := by decide +kernel
theorem dX9_isLetter_3 : decode cX9_isLetter 3 = .ok (.if_icmp .lt 13, 3) := by decide +kernel
theorem dX9_isLetter_6 : decode cX9_isLetter 6 = .ok (.iload_n 0, 1) := by decide +kernel
theorem dX9_isLetter_7 : decode cX9_isLetter 7 = .ok (.bipush 122, 2) := by decide +kernel
theorem dX9_isLetter_9 : decode cX9_isLetter 9 = .ok (.if_icmp .gt 7, 3) := by decide +kernel
theorem dX9_isLetter_12 : decode cX9_isLetter 12 = .ok (.iconst 1, 1) := by decide +kernel
theorem dX9_isLetter_13 : decode cX9_isLetter 13 = .ok (.goto 4, 3) := by decide +kernel
theorem dX9_isLetter_16 : decode cX9_isLetter 16 = .ok (.iconst 0, 1) := by decide +kernel
theorem dX9_isLetter_17 : decode cX9_isLetter 17 = .ok (.ireturn, 1) := by decide +kernel
theorem dX9_takeNumber_0 : decode cX9_takeNumber 0 = .ok (.iconst 0, 1) := by decide +kernel
theorem dX9_takeNumber_1 : decode cX9_takeNumber 1 = .ok (.istore 4, 2) := by decide +kernel
theorem dX9_takeNumber_3 : decode cX9_takeNumber 3 = .ok (.iload_n 3, 1) := by decide +kernel
theorem dX9_takeNumber_4 : decode cX9_takeNumber 4 = .ok (.istore 5, 2) := by decide +kernel
theorem dX9_takeNumber_6 : decode cX9_takeNumber 6 = .ok (.iload 5, 2) := by decide +kernel
theorem dX9_takeNumber_8 : decode cX9_takeNumber 8 = .ok (.iload_n 2, 1) := by decide +kernel
theorem dX9_takeNumber_9 : decode cX9_takeNumber 9 = .ok (.if_icmp .ge 39, 3) := by decide +kernel
theorem dX9_takeNumber_12 : decode cX9_takeNumber 12 = .ok (.aload_n 1, 1) := by decide +kernel
theorem dX9_takeNumber_13 : decode cX9_takeNumber 13 = .ok (.iload 5, 2) := by decide +kernel
theorem dX9_takeNumber_15 : decode cX9_takeNumber 15 = .ok (.baload, 1) := by decide +kernel
theorem dX9_takeNumber_16 : decode cX9_takeNumber 16 = .ok (.invokestatic 31, 3) := by decide +kernel
theorem dX9_takeNumber_19 : decode cX9_takeNumber 19 = .ok (.ifCond .eq 29, 3) := by decide +kernel
theorem dX9_takeNumber_22 : decode cX9_takeNumber 22 = .ok (.iload 4, 2) := by decide +kernel
theorem dX9_takeNumber_24 : decode cX9_takeNumber 24 = .ok (.bipush 10, 2) := by decide +kernel
theorem dX9_takeNumber_26 : decode cX9_takeNumber 26 = .ok (.imul, 1) := by decide +kernel
theorem dX9_takeNumber_27 : decode cX9_takeNumber 27 = .ok (.aload_n 1, 1) := by decide +kernel
theorem dX9_takeNumber_28 : decode cX9_takeNumber 28 = .ok (.iload 5, 2) := by decide +kernel
theorem dX9_takeNumber_30 : decode cX9_takeNumber 30 = .ok (.baload, 1) := by decide +kernel
theorem dX9_takeNumber_31 : decode cX9_takeNumber 31 = .ok (.iadd, 1) := by decide +kernel
theorem dX9_takeNumber_32 : decode cX9_takeNumber 32 = .ok (.bipush 48, 2) := by decide +kernel
theorem dX9_takeNumber_34 : decode cX9_takeNumber 34 = .ok (.isub, 1) := by decide +kernel
theorem dX9_takeNumber_35 : decode cX9_takeNumber 35 = .ok (.ldc 56, 2) := by decide +kernel
theorem dX9_takeNumber_37 : decode cX9_takeNumber 37 = .ok (.invokestatic 25, 3) := by decide +kernel
theorem dX9_takeNumber_40 : decode cX9_takeNumber 40 = .ok (.istore 4, 2) := by decide +kernel
theorem dX9_takeNumber_42 : decode cX9_takeNumber 42 = .ok (.iinc 5 1, 3) := by decide +kernel
theorem dX9_takeNumber_45 : decode cX9_takeNumber 45 = .ok (.goto (-39), 3) := by decide +kernel
theorem dX9_takeNumber_48 : decode cX9_takeNumber 48 = .ok (.aload_n 0, 1) := by decide +kernel
theorem dX9_takeNumber_49 : decode cX9_takeNumber 49 = .ok (.iconst 2, 1) := by decide +kernel
theorem dX9_takeNumber_50 : decode cX9_takeNumber 50 = .ok (.iload_n 3, 1) := by decide +kernel
theorem dX9_takeNumber_51 : decode cX9_takeNumber 51 = .ok (.iload 4, 2) := by decide +kernel
theorem dX9_takeNumber_53 : decode cX9_takeNumber 53 = .ok (.invokevirtual 52, 3) := by decide +kernel
theorem dX9_takeNumber_56 : decode cX9_takeNumber 56 = .ok (.iload 5, 2) := by decide +kernel
theorem dX9_takeNumber_58 : decode cX9_takeNumber 58 = .ok (.ireturn, 1) := by decide +kernel
theorem dX9_takeWord_0 : decode cX9_takeWord 0 = .ok (.iload_n 3, 1) := by decide +kernel
theorem dX9_takeWord_1 : decode cX9_takeWord 1 = .ok (.istore 4, 2) := by decide +kernel
theorem dX9_takeWord_3 : decode cX9_takeWord 3 = .ok (.iload 4, 2) := by decide +kernel
theorem dX9_takeWord_5 : decode cX9_takeWord 5 = .ok (.iload_n 2, 1) := by decide +kernel
theorem dX9_takeWord_6 : decode cX9_takeWord 6 = .ok (.if_icmp .ge 19, 3) := by decide +kernel
theorem dX9_takeWord_9 : decode cX9_takeWord 9 = .ok (.aload_n 1, 1) := by decide +kernel
theorem dX9_takeWord_10 : decode cX9_takeWord 10 = .ok (.iload 4, 2) := by decide +kernel
theorem dX9_takeWord_12 : decode cX9_takeWord 12 = .ok (.baload, 1) := by decide +kernel
theorem dX9_takeWord_13 : decode cX9_takeWord 13 = .ok (.invokestatic 39, 3) := by decide +kernel
theorem dX9_takeWord_16 : decode cX9_takeWord 16 = .ok (.ifCond .eq 9, 3) := by decide +kernel
theorem dX9_takeWord_19 : decode cX9_takeWord 19 = .ok (.iinc 4 1, 3) := by decide +kernel
theorem dX9_takeWord_22 : decode cX9_takeWord 22 = .ok (.goto (-19), 3) := by decide +kernel
theorem dX9_takeWord_25 : decode cX9_takeWord 25 = .ok (.aload_n 1, 1) := by decide +kernel
theorem dX9_takeWord_26 : decode cX9_takeWord 26 = .ok (.iload_n 3, 1) := by decide +kernel
theorem dX9_takeWord_27 : decode cX9_takeWord 27 = .ok (.iload 4, 2) := by decide +kernel
theorem dX9_takeWord_29 : decode cX9_takeWord 29 = .ok (.invokestatic 57, 3) := by decide +kernel
theorem dX9_takeWord_32 : decode cX9_takeWord 32 = .ok (.istore 5, 2) := by decide +kernel
theorem dX9_takeWord_34 : decode cX9_takeWord 34 = .ok (.iload 5, 2) := by decide +kernel
theorem dX9_takeWord_36 : decode cX9_takeWord 36 = .ok (.iconst (-1), 1) := by decide +kernel
theorem dX9_takeWord_37 : decode cX9_takeWord 37 = .ok (.if_icmp .eq 17, 3) := by decide +kernel
theorem dX9_takeWord_40 : decode cX9_takeWord 40 = .ok (.aload_n 0, 1) := by decide +kernel
theorem dX9_takeWord_41 : decode cX9_takeWord 41 = .ok (.bipush 32, 2) := by decide +kernel
theorem dX9_takeWord_43 : decode cX9_takeWord 43 = .ok (.iload 5, 2) := by decide +kernel
theorem dX9_takeWord_45 : decode cX9_takeWord 45 = .ok (.iadd, 1) := by decide +kernel
theorem dX9_takeWord_46 : decode cX9_takeWord 46 = .ok (.iload_n 3, 1) := by decide +kernel
theorem dX9_takeWord_47 : decode cX9_takeWord 47 = .ok (.iconst 0, 1) := by decide +kernel
theorem dX9_takeWord_48 : decode cX9_takeWord 48 = .ok (.invokevirtual 52, 3) := by decide +kernel
theorem dX9_takeWord_51 : decode cX9_takeWord 51 = .ok (.goto 35, 3) := by decide +kernel
theorem dX9_takeWord_54 : decode cX9_takeWord 54 = .ok (.iload 4, 2) := by decide +kernel
theorem dX9_takeWord_56 : decode cX9_takeWord 56 = .ok (.iload_n 3, 1) := by decide +kernel
theorem dX9_takeWord_57 : decode cX9_takeWord 57 = .ok (.isub, 1) := by decide +kernel
theorem dX9_takeWord_58 : decode cX9_takeWord 58 = .ok (.bipush 6, 2) := by decide +kernel
theorem dX9_takeWord_60 : decode cX9_takeWord 60 = .ok (.if_icmp .gt 19, 3) := by decide +kernel
theorem dX9_takeWord_63 : decode cX9_takeWord 63 = .ok (.aload_n 0, 1) := by decide +kernel
theorem dX9_takeWord_64 : decode cX9_takeWord 64 = .ok (.iconst 3, 1) := by decide +kernel
theorem dX9_takeWord_65 : decode cX9_takeWord 65 = .ok (.iload_n 3, 1) := by decide +kernel
theorem dX9_takeWord_66 : decode cX9_takeWord 66 = .ok (.aload_n 1, 1) := by decide +kernel
theorem dX9_takeWord_67 : decode cX9_takeWord 67 = .ok (.iload_n 3, 1) := by decide +kernel
theorem dX9_takeWord_68 : decode cX9_takeWord 68 = .ok (.iload 4, 2) := by decide +kernel
theorem dX9_takeWord_70 : decode cX9_takeWord 70 = .ok (.invokestatic 60, 3) := by decide +kernel
theorem dX9_takeWord_73 : decode cX9_takeWord 73 = .ok (.invokevirtual 52, 3) := by decide +kernel
theorem dX9_takeWord_76 : decode cX9_takeWord 76 = .ok (.goto 10, 3) := by decide +kernel
theorem dX9_takeWord_79 : decode cX9_takeWord 79 = .ok (.aload_n 0, 1) := by decide +kernel
theorem dX9_takeWord_80 : decode cX9_takeWord 80 = .ok (.iconst 1, 1) := by decide +kernel
theorem dX9_takeWord_81 : decode cX9_takeWord 81 = .ok (.iload_n 3, 1) := by decide +kernel
theorem dX9_takeWord_82 : decode cX9_takeWord 82 = .ok (.iconst 0, 1) := by decide +kernel
theorem dX9_takeWord_83 : decode cX9_takeWord 83 = .ok (.invokevirtual 52, 3) := by decide +kernel
theorem dX9_takeWord_86 : decode cX9_takeWord 86 = .ok (.iload 4, 2) := by decide +kernel
theorem dX9_takeWord_88 : decode cX9_takeWord 88 = .ok (.ireturn, 1) := by decide +kernel
theorem dX9_wordOf_0 : decode cX9_wordOf 0 = .ok (.iconst 0, 1) := by decide +kernel
theorem dX9_wordOf_1 : decode cX9_wordOf 1 = .ok (.istore_n 3, 1) := by decide +kernel
theorem dX9_wordOf_2 : decode cX9_wordOf 2 = .ok (.iconst 0, 1) := by decide +kernel
theorem dX9_wordOf_3 : decode cX9_wordOf 3 = .ok (.istore 4, 2) := by decide +kernel
theorem dX9_wordOf_5 : decode cX9_wordOf 5 = .ok (.iconst 0, 1) := by decide +kernel
theorem dX9_wordOf_6 : decode cX9_wordOf 6 = .ok (.istore 5, 2) := by decide +kernel
theorem dX9_wordOf_8 : decode cX9_wordOf 8 = .ok (.iload 5, 2) := by decide +kernel
theorem dX9_wordOf_10 : decode cX9_wordOf 10 = .ok (.ldc 63, 2) := by decide +kernel
theorem dX9_wordOf_12 : decode cX9_wordOf 12 = .ok (.invokevirtual 65, 3) := by decide +kernel
theorem dX9_wordOf_15 : decode cX9_wordOf 15 = .ok (.if_icmp .ge 54, 3) := by decide +kernel
theorem dX9_wordOf_18 : decode cX9_wordOf 18 = .ok (.ldc 63, 2) := by decide +kernel
theorem dX9_wordOf_20 : decode cX9_wordOf 20 = .ok (.iload 5, 2) := by decide +kernel
theorem dX9_wordOf_22 : decode cX9_wordOf 22 = .ok (.invokevirtual 71, 3) := by decide +kernel
theorem dX9_wordOf_25 : decode cX9_wordOf 25 = .ok (.bipush 32, 2) := by decide +kernel
theorem dX9_wordOf_27 : decode cX9_wordOf 27 = .ok (.if_icmp .ne 36, 3) := by decide +kernel
theorem dX9_wordOf_30 : decode cX9_wordOf 30 = .ok (.iload 5, 2) := by decide +kernel
theorem dX9_wordOf_32 : decode cX9_wordOf 32 = .ok (.iload 4, 2) := by decide +kernel
theorem dX9_wordOf_34 : decode cX9_wordOf 34 = .ok (.isub, 1) := by decide +kernel
theorem dX9_wordOf_35 : decode cX9_wordOf 35 = .ok (.iload_n 2, 1) := by decide +kernel
theorem dX9_wordOf_36 : decode cX9_wordOf 36 = .ok (.iload_n 1, 1) := by decide +kernel
theorem dX9_wordOf_37 : decode cX9_wordOf 37 = .ok (.isub, 1) := by decide +kernel
theorem dX9_wordOf_38 : decode cX9_wordOf 38 = .ok (.if_icmp .ne 16, 3) := by decide +kernel
theorem dX9_wordOf_41 : decode cX9_wordOf 41 = .ok (.iload 4, 2) := by decide +kernel
theorem dX9_wordOf_43 : decode cX9_wordOf 43 = .ok (.aload_n 0, 1) := by decide +kernel
theorem dX9_wordOf_44 : decode cX9_wordOf 44 = .ok (.iload_n 1, 1) := by decide +kernel
theorem dX9_wordOf_45 : decode cX9_wordOf 45 = .ok (.iload_n 2, 1) := by decide +kernel
theorem dX9_wordOf_46 : decode cX9_wordOf 46 = .ok (.invokestatic 75, 3) := by decide +kernel
theorem dX9_wordOf_49 : decode cX9_wordOf 49 = .ok (.ifCond .eq 5, 3) := by decide +kernel
theorem dX9_wordOf_52 : decode cX9_wordOf 52 = .ok (.iload_n 3, 1) := by decide +kernel
theorem dX9_wordOf_53 : decode cX9_wordOf 53 = .ok (.ireturn, 1) := by decide +kernel
theorem dX9_wordOf_54 : decode cX9_wordOf 54 = .ok (.iinc 3 1, 3) := by decide +kernel
theorem dX9_wordOf_57 : decode cX9_wordOf 57 = .ok (.iload 5, 2) := by decide +kernel
theorem dX9_wordOf_59 : decode cX9_wordOf 59 = .ok (.iconst 1, 1) := by decide +kernel
theorem dX9_wordOf_60 : decode cX9_wordOf 60 = .ok (.iadd, 1) := by decide +kernel
theorem dX9_wordOf_61 : decode cX9_wordOf 61 = .ok (.istore 4, 2) := by decide +kernel
theorem dX9_wordOf_63 : decode cX9_wordOf 63 = .ok (.iinc 5 1, 3) := by decide +kernel
theorem dX9_wordOf_66 : decode cX9_wordOf 66 = .ok (.goto (-58), 3) := by decide +kernel
theorem dX9_wordOf_69 : decode cX9_wordOf 69 = .ok (.iconst (-1), 1) := by decide +kernel
theorem dX9_wordOf_70 : decode cX9_wordOf 70 = .ok (.ireturn, 1) := by decide +kernel
theorem dX9_isWordAt_0 : decode cX9_isWordAt 0 = .ok (.iload_n 2, 1) := by decide +kernel
theorem dX9_isWordAt_1 : decode cX9_isWordAt 1 = .ok (.istore 4, 2) := by decide +kernel
theorem dX9_isWordAt_3 : decode cX9_isWordAt 3 = .ok (.iload 4, 2) := by decide +kernel
theorem dX9_isWordAt_5 : decode cX9_isWordAt 5 = .ok (.iload_n 3, 1) := by decide +kernel
theorem dX9_isWordAt_6 : decode cX9_isWordAt 6 = .ok (.if_icmp .ge 50, 3) := by decide +kernel
theorem dX9_isWordAt_9 : decode cX9_isWordAt 9 = .ok (.iload 4, 2) := by decide +kernel
theorem dX9_isWordAt_11 : decode cX9_isWordAt 11 = .ok (.aload_n 1, 1) := by decide +kernel
theorem dX9_isWordAt_12 : decode cX9_isWordAt 12 = .ok (.arraylength, 1) := by decide +kernel
theorem dX9_isWordAt_13 : decode cX9_isWordAt 13 = .ok (.if_icmp .ge 43, 3) := by decide +kernel
theorem dX9_isWordAt_16 : decode cX9_isWordAt 16 = .ok (.iload_n 0, 1) := by decide +kernel
theorem dX9_isWordAt_17 : decode cX9_isWordAt 17 = .ok (.iload 4, 2) := by decide +kernel
theorem dX9_isWordAt_19 : decode cX9_isWordAt 19 = .ok (.iadd, 1) := by decide +kernel
theorem dX9_isWordAt_20 : decode cX9_isWordAt 20 = .ok (.iload_n 2, 1) := by decide +kernel
theorem dX9_isWordAt_21 : decode cX9_isWordAt 21 = .ok (.isub, 1) := by decide +kernel
theorem dX9_isWordAt_22 : decode cX9_isWordAt 22 = .ok (.istore 5, 2) := by decide +kernel
theorem dX9_isWordAt_24 : decode cX9_isWordAt 24 = .ok (.iload 5, 2) := by decide +kernel
theorem dX9_isWordAt_26 : decode cX9_isWordAt 26 = .ok (.ldc 63, 2) := by decide +kernel
theorem dX9_isWordAt_28 : decode cX9_isWordAt 28 = .ok (.invokevirtual 65, 3) := by decide +kernel
theorem dX9_isWordAt_31 : decode cX9_isWordAt 31 = .ok (.if_icmp .ge 17, 3) := by decide +kernel
theorem dX9_isWordAt_34 : decode cX9_isWordAt 34 = .ok (.ldc 63, 2) := by decide +kernel
theorem dX9_isWordAt_36 : decode cX9_isWordAt 36 = .ok (.iload 5, 2) := by decide +kernel
theorem dX9_isWordAt_38 : decode cX9_isWordAt 38 = .ok (.invokevirtual 71, 3) := by decide +kernel
theorem dX9_isWordAt_41 : decode cX9_isWordAt 41 = .ok (.aload_n 1, 1) := by decide +kernel
theorem dX9_isWordAt_42 : decode cX9_isWordAt 42 = .ok (.iload 4, 2) := by decide +kernel
theorem dX9_isWordAt_44 : decode cX9_isWordAt 44 = .ok (.baload, 1) := by decide +kernel
theorem dX9_isWordAt_45 : decode cX9_isWordAt 45 = .ok (.if_icmp .eq 5, 3) := by decide +kernel
theorem dX9_isWordAt_48 : decode cX9_isWordAt 48 = .ok (.iconst 0, 1) := by decide +kernel
theorem dX9_isWordAt_49 : decode cX9_isWordAt 49 = .ok (.ireturn, 1) := by decide +kernel
theorem dX9_isWordAt_50 : decode cX9_isWordAt 50 = .ok (.iinc 4 1, 3) := by decide +kernel
theorem dX9_isWordAt_53 : decode cX9_isWordAt 53 = .ok (.goto (-50), 3) := by decide +kernel
theorem dX9_isWordAt_56 : decode cX9_isWordAt 56 = .ok (.iconst 1, 1) := by decide +kernel
theorem dX9_isWordAt_57 : decode cX9_isWordAt 57 = .ok (.ireturn, 1) := by decide +kernel
theorem dX9_packed_0 : decode cX9_packed 0 = .ok (.iconst 0, 1) := by decide +kernel
theorem dX9_packed_1 : decode cX9_packed 1 = .ok (.istore_n 3, 1) := by decide +kernel
theorem dX9_packed_2 : decode cX9_packed 2 = .ok (.iconst 0, 1) := by decide +kernel
theorem dX9_packed_3 : decode cX9_packed 3 = .ok (.istore 4, 2) := by decide +kernel
theorem dX9_packed_5 : decode cX9_packed 5 = .ok (.iload 4, 2) := by decide +kernel
theorem dX9_packed_7 : decode cX9_packed 7 = .ok (.bipush 6, 2) := by decide +kernel
theorem dX9_packed_9 : decode cX9_packed 9 = .ok (.if_icmp .ge 44, 3) := by decide +kernel
theorem dX9_packed_12 : decode cX9_packed 12 = .ok (.iload_n 1, 1) := by decide +kernel
theorem dX9_packed_13 : decode cX9_packed 13 = .ok (.iload 4, 2) := by decide +kernel
theorem dX9_packed_15 : decode cX9_packed 15 = .ok (.iadd, 1) := by decide +kernel
theorem dX9_packed_16 : decode cX9_packed 16 = .ok (.istore 5, 2) := by decide +kernel
theorem dX9_packed_18 : decode cX9_packed 18 = .ok (.iload_n 3, 1) := by decide +kernel
theorem dX9_packed_19 : decode cX9_packed 19 = .ok (.iconst 5, 1) := by decide +kernel
theorem dX9_packed_20 : decode cX9_packed 20 = .ok (.ishl, 1) := by decide +kernel
theorem dX9_packed_21 : decode cX9_packed 21 = .ok (.istore_n 3, 1) := by decide +kernel
theorem dX9_packed_22 : decode cX9_packed 22 = .ok (.iload 5, 2) := by decide +kernel
theorem dX9_packed_24 : decode cX9_packed 24 = .ok (.iload_n 2, 1) := by decide +kernel
theorem dX9_packed_25 : decode cX9_packed 25 = .ok (.if_icmp .ge 22, 3) := by decide +kernel
theorem dX9_packed_28 : decode cX9_packed 28 = .ok (.iload 5, 2) := by decide +kernel
theorem dX9_packed_30 : decode cX9_packed 30 = .ok (.aload_n 0, 1) := by decide +kernel
theorem dX9_packed_31 : decode cX9_packed 31 = .ok (.arraylength, 1) := by decide +kernel
theorem dX9_packed_32 : decode cX9_packed 32 = .ok (.if_icmp .ge 15, 3) := by decide +kernel
theorem dX9_packed_35 : decode cX9_packed 35 = .ok (.iload_n 3, 1) := by decide +kernel
theorem dX9_packed_36 : decode cX9_packed 36 = .ok (.aload_n 0, 1) := by decide +kernel
theorem dX9_packed_37 : decode cX9_packed 37 = .ok (.iload 5, 2) := by decide +kernel
theorem dX9_packed_39 : decode cX9_packed 39 = .ok (.baload, 1) := by decide +kernel
theorem dX9_packed_40 : decode cX9_packed 40 = .ok (.bipush 97, 2) := by decide +kernel
theorem dX9_packed_42 : decode cX9_packed 42 = .ok (.isub, 1) := by decide +kernel
theorem dX9_packed_43 : decode cX9_packed 43 = .ok (.iconst 1, 1) := by decide +kernel
theorem dX9_packed_44 : decode cX9_packed 44 = .ok (.iadd, 1) := by decide +kernel
theorem dX9_packed_45 : decode cX9_packed 45 = .ok (.iadd, 1) := by decide +kernel
theorem dX9_packed_46 : decode cX9_packed 46 = .ok (.istore_n 3, 1) := by decide +kernel
theorem dX9_packed_47 : decode cX9_packed 47 = .ok (.iinc 4 1, 3) := by decide +kernel
theorem dX9_packed_50 : decode cX9_packed 50 = .ok (.goto (-45), 3) := by decide +kernel
theorem dX9_packed_53 : decode cX9_packed 53 = .ok (.iload_n 3, 1) := by decide +kernel
theorem dX9_packed_54 : decode cX9_packed 54 = .ok (.ireturn, 1) := by decide +kernel
theorem dX9_takeSign_0 : decode cX9_takeSign 0 = .ok (.iload_n 1, 1) := by decide +kernel
theorem dX9_takeSign_1 : decode cX9_takeSign 1 = .ok (.invokestatic 79, 3) := by decide +kernel
theorem dX9_takeSign_4 : decode cX9_takeSign 4 = .ok (.istore 4, 2) := by decide +kernel
theorem dX9_takeSign_6 : decode cX9_takeSign 6 = .ok (.iload 4, 2) := by decide +kernel
theorem dX9_takeSign_8 : decode cX9_takeSign 8 = .ok (.iconst 1, 1) := by decide +kernel
theorem dX9_takeSign_9 : decode cX9_takeSign 9 = .ok (.if_icmp .eq 15, 3) := by decide +kernel
theorem dX9_takeSign_12 : decode cX9_takeSign 12 = .ok (.aload_n 0, 1) := by decide +kernel
theorem dX9_takeSign_13 : decode cX9_takeSign 13 = .ok (.iload 4, 2) := by decide +kernel
theorem dX9_takeSign_15 : decode cX9_takeSign 15 = .ok (.iload_n 3, 1) := by decide +kernel
theorem dX9_takeSign_16 : decode cX9_takeSign 16 = .ok (.iconst 0, 1) := by decide +kernel
theorem dX9_takeSign_17 : decode cX9_takeSign 17 = .ok (.invokevirtual 52, 3) := by decide +kernel
theorem dX9_takeSign_20 : decode cX9_takeSign 20 = .ok (.iload_n 3, 1) := by decide +kernel
theorem dX9_takeSign_21 : decode cX9_takeSign 21 = .ok (.iconst 1, 1) := by decide +kernel
theorem dX9_takeSign_22 : decode cX9_takeSign 22 = .ok (.iadd, 1) := by decide +kernel
theorem dX9_takeSign_23 : decode cX9_takeSign 23 = .ok (.ireturn, 1) := by decide +kernel
theorem dX9_takeSign_24 : decode cX9_takeSign 24 = .ok (.iload_n 1, 1) := by decide +kernel
theorem dX9_takeSign_25 : decode cX9_takeSign 25 = .ok (.iload_n 2, 1) := by decide +kernel
theorem dX9_takeSign_26 : decode cX9_takeSign 26 = .ok (.invokestatic 83, 3) := by decide +kernel
theorem dX9_takeSign_29 : decode cX9_takeSign 29 = .ok (.istore 5, 2) := by decide +kernel
theorem dX9_takeSign_31 : decode cX9_takeSign 31 = .ok (.iload 5, 2) := by decide +kernel
theorem dX9_takeSign_33 : decode cX9_takeSign 33 = .ok (.iconst 1, 1) := by decide +kernel
theorem dX9_takeSign_34 : decode cX9_takeSign 34 = .ok (.if_icmp .eq 15, 3) := by decide +kernel
theorem dX9_takeSign_37 : decode cX9_takeSign 37 = .ok (.aload_n 0, 1) := by decide +kernel
theorem dX9_takeSign_38 : decode cX9_takeSign 38 = .ok (.iload 5, 2) := by decide +kernel
theorem dX9_takeSign_40 : decode cX9_takeSign 40 = .ok (.iload_n 3, 1) := by decide +kernel
theorem dX9_takeSign_41 : decode cX9_takeSign 41 = .ok (.iconst 0, 1) := by decide +kernel
theorem dX9_takeSign_42 : decode cX9_takeSign 42 = .ok (.invokevirtual 52, 3) := by decide +kernel
theorem dX9_takeSign_45 : decode cX9_takeSign 45 = .ok (.iload_n 3, 1) := by decide +kernel
theorem dX9_takeSign_46 : decode cX9_takeSign 46 = .ok (.iconst 2, 1) := by decide +kernel
theorem dX9_takeSign_47 : decode cX9_takeSign 47 = .ok (.iadd, 1) := by decide +kernel
theorem dX9_takeSign_48 : decode cX9_takeSign 48 = .ok (.ireturn, 1) := by decide +kernel
theorem dX9_takeSign_49 : decode cX9_takeSign 49 = .ok (.aload_n 0, 1) := by decide +kernel
theorem dX9_takeSign_50 : decode cX9_takeSign 50 = .ok (.iload_n 1, 1) := by decide +kernel
theorem dX9_takeSign_51 : decode cX9_takeSign 51 = .ok (.bipush 60, 2) := by decide +kernel
theorem dX9_takeSign_53 : decode cX9_takeSign 53 = .ok (.if_icmp .ne 8, 3) := by decide +kernel
theorem dX9_takeSign_56 : decode cX9_takeSign 56 = .ok (.bipush 11, 2) := by decide +kernel
theorem dX9_takeSign_58 : decode cX9_takeSign 58 = .ok (.goto 15, 3) := by decide +kernel
theorem dX9_takeSign_61 : decode cX9_takeSign 61 = .ok (.iload_n 1, 1) := by decide +kernel
theorem dX9_takeSign_62 : decode cX9_takeSign 62 = .ok (.bipush 62, 2) := by decide +kernel
theorem dX9_takeSign_64 : decode cX9_takeSign 64 = .ok (.if_icmp .ne 8, 3) := by decide +kernel
theorem dX9_takeSign_67 : decode cX9_takeSign 67 = .ok (.bipush 16, 2) := by decide +kernel
theorem dX9_takeSign_69 : decode cX9_takeSign 69 = .ok (.goto 4, 3) := by decide +kernel
theorem dX9_takeSign_72 : decode cX9_takeSign 72 = .ok (.iconst 1, 1) := by decide +kernel
theorem dX9_takeSign_73 : decode cX9_takeSign 73 = .ok (.iload_n 3, 1) := by decide +kernel
theorem dX9_takeSign_74 : decode cX9_takeSign 74 = .ok (.iconst 0, 1) := by decide +kernel
theorem dX9_takeSign_75 : decode cX9_takeSign 75 = .ok (.invokevirtual 52, 3) := by decide +kernel
theorem dX9_takeSign_78 : decode cX9_takeSign 78 = .ok (.iload_n 3, 1) := by decide +kernel
theorem dX9_takeSign_79 : decode cX9_takeSign 79 = .ok (.iconst 1, 1) := by decide +kernel
theorem dX9_takeSign_80 : decode cX9_takeSign 80 = .ok (.iadd, 1) := by decide +kernel
theorem dX9_takeSign_81 : decode cX9_takeSign 81 = .ok (.ireturn, 1) := by decide +kernel
theorem dX9_singleSign_0 : decode cX9_singleSign 0 = .ok (.iload_n 0, 1) := by decide +kernel
theorem dX9_singleSign_1 : decode cX9_singleSign 1 = .ok (.tableswitch 125 40 61 #[105, 107, 116, 110, 125, 113, 125, 119, 125, 125, 125, 125, 125, 125, 125, 125, 125, 125, 125, 103, 125, 122], 103) := by decide +kernel
theorem dX9_singleSign_104 : decode cX9_singleSign 104 = .ok (.iconst 4, 1) := by decide +kernel
theorem dX9_singleSign_105 : decode cX9_singleSign 105 = .ok (.ireturn, 1) := by decide +kernel
theorem dX9_singleSign_106 : decode cX9_singleSign 106 = .ok (.iconst 5, 1) := by decide +kernel
theorem dX9_singleSign_107 : decode cX9_singleSign 107 = .ok (.ireturn, 1) := by decide +kernel
theorem dX9_singleSign_108 : decode cX9_singleSign 108 = .ok (.bipush 6, 2) := by decide +kernel
theorem dX9_singleSign_110 : decode cX9_singleSign 110 = .ok (.ireturn, 1) := by decide +kernel
theorem dX9_singleSign_111 : decode cX9_singleSign 111 = .ok (.bipush 7, 2) := by decide +kernel
theorem dX9_singleSign_113 : decode cX9_singleSign 113 = .ok (.ireturn, 1) := by decide +kernel
theorem dX9_singleSign_114 : decode cX9_singleSign 114 = .ok (.bipush 8, 2) := by decide +kernel
theorem dX9_singleSign_116 : decode cX9_singleSign 116 = .ok (.ireturn, 1) := by decide +kernel
theorem dX9_singleSign_117 : decode cX9_singleSign 117 = .ok (.bipush 9, 2) := by decide +kernel
theorem dX9_singleSign_119 : decode cX9_singleSign 119 = .ok (.ireturn, 1) := by decide +kernel
theorem dX9_singleSign_120 : decode cX9_singleSign 120 = .ok (.bipush 10, 2) := by decide +kernel
theorem dX9_singleSign_122 : decode cX9_singleSign 122 = .ok (.ireturn, 1) := by decide +kernel
theorem dX9_singleSign_123 : decode cX9_singleSign 123 = .ok (.bipush 13, 2) := by decide +kernel
theorem dX9_singleSign_125 : decode cX9_singleSign 125 = .ok (.ireturn, 1) := by decide +kernel
theorem dX9_singleSign_126 : decode cX9_singleSign 126 = .ok (.iconst 1, 1) := by decide +kernel
theorem dX9_singleSign_127 : decode cX9_singleSign 127 = .ok (.ireturn, 1) := by decide +kernel
theorem dX9_pairSign_0 : decode cX9_pairSign 0 = .ok (.iload_n 0, 1) := by decide +kernel
theorem dX9_pairSign_1 : decode cX9_pairSign 1 = .ok (.bipush 60, 2) := by decide +kernel
theorem dX9_pairSign_3 : decode cX9_pairSign 3 = .ok (.if_icmp .ne 27, 3) := by decide +kernel
theorem dX9_pairSign_6 : decode cX9_pairSign 6 = .ok (.iload_n 1, 1) := by decide +kernel
theorem dX9_pairSign_7 : decode cX9_pairSign 7 = .ok (.bipush 61, 2) := by decide +kernel
theorem dX9_pairSign_9 : decode cX9_pairSign 9 = .ok (.if_icmp .ne 8, 3) := by decide +kernel
theorem dX9_pairSign_12 : decode cX9_pairSign 12 = .ok (.bipush 12, 2) := by decide +kernel
theorem dX9_pairSign_14 : decode cX9_pairSign 14 = .ok (.goto 15, 3) := by decide +kernel
theorem dX9_pairSign_17 : decode cX9_pairSign 17 = .ok (.iload_n 1, 1) := by decide +kernel
theorem dX9_pairSign_18 : decode cX9_pairSign 18 = .ok (.bipush 62, 2) := by decide +kernel
theorem dX9_pairSign_20 : decode cX9_pairSign 20 = .ok (.if_icmp .ne 8, 3) := by decide +kernel
theorem dX9_pairSign_23 : decode cX9_pairSign 23 = .ok (.bipush 14, 2) := by decide +kernel
theorem dX9_pairSign_25 : decode cX9_pairSign 25 = .ok (.goto 4, 3) := by decide +kernel
theorem dX9_pairSign_28 : decode cX9_pairSign 28 = .ok (.iconst 1, 1) := by decide +kernel
theorem dX9_pairSign_29 : decode cX9_pairSign 29 = .ok (.ireturn, 1) := by decide +kernel
theorem dX9_pairSign_30 : decode cX9_pairSign 30 = .ok (.iload_n 0, 1) := by decide +kernel
theorem dX9_pairSign_31 : decode cX9_pairSign 31 = .ok (.bipush 62, 2) := by decide +kernel
theorem dX9_pairSign_33 : decode cX9_pairSign 33 = .ok (.if_icmp .ne 14, 3) := by decide +kernel
theorem dX9_pairSign_36 : decode cX9_pairSign 36 = .ok (.iload_n 1, 1) := by decide +kernel
theorem dX9_pairSign_37 : decode cX9_pairSign 37 = .ok (.bipush 61, 2) := by decide +kernel
theorem dX9_pairSign_39 : decode cX9_pairSign 39 = .ok (.if_icmp .ne 8, 3) := by decide +kernel
theorem dX9_pairSign_42 : decode cX9_pairSign 42 = .ok (.bipush 15, 2) := by decide +kernel
theorem dX9_pairSign_44 : decode cX9_pairSign 44 = .ok (.goto 4, 3) := by decide +kernel
theorem dX9_pairSign_47 : decode cX9_pairSign 47 = .ok (.iconst 1, 1) := by decide +kernel
theorem dX9_pairSign_48 : decode cX9_pairSign 48 = .ok (.ireturn, 1) := by decide +kernel
theorem dX10_init_0 : decode cX10_init 0 = .ok (.aload_n 0, 1) := by decide +kernel
theorem dX10_init_1 : decode cX10_init 1 = .ok (.invokespecial 3, 3) := by decide +kernel
theorem dX10_init_4 : decode cX10_init 4 = .ok (.aload_n 0, 1) := by decide +kernel
theorem dX10_init_5 : decode cX10_init 5 = .ok (.iconst 0, 1) := by decide +kernel
theorem dX10_init_6 : decode cX10_init 6 = .ok (.putfield 9, 3) := by decide +kernel
theorem dX10_init_9 : decode cX10_init 9 = .ok (.aload_n 0, 1) := by decide +kernel
theorem dX10_init_10 : decode cX10_init 10 = .ok (.iconst 0, 1) := by decide +kernel
theorem dX10_init_11 : decode cX10_init 11 = .ok (.putfield 15, 3) := by decide +kernel
theorem dX10_init_14 : decode cX10_init 14 = .ok (.aload_n 0, 1) := by decide +kernel
theorem dX10_init_15 : decode cX10_init 15 = .ok (.iconst 0, 1) := by decide +kernel
theorem dX10_init_16 : decode cX10_init 16 = .ok (.putfield 18, 3) := by decide +kernel
theorem dX10_init_19 : decode cX10_init 19 = .ok (.aload_n 0, 1) := by decide +kernel
theorem dX10_init_20 : decode cX10_init 20 = .ok (.iconst (-1), 1) := by decide +kernel
theorem dX10_init_21 : decode cX10_init 21 = .ok (.putfield 21, 3) := by decide +kernel
theorem dX10_init_24 : decode cX10_init 24 = .ok (.aload_n 0, 1) := by decide +kernel
theorem dX10_init_25 : decode cX10_init 25 = .ok (.iconst (-1), 1) := by decide +kernel
theorem dX10_init_26 : decode cX10_init 26 = .ok (.putfield 25, 3) := by decide +kernel
theorem dX10_init_29 : decode cX10_init 29 = .ok (.aload_n 0, 1) := by decide +kernel
theorem dX10_init_30 : decode cX10_init 30 = .ok (.iconst 0, 1) := by decide +kernel
theorem dX10_init_31 : decode cX10_init 31 = .ok (.putfield 28, 3) := by decide +kernel
theorem dX10_init_34 : decode cX10_init 34 = .ok (.aload_n 0, 1) := by decide +kernel
theorem dX10_init_35 : decode cX10_init 35 = .ok (.iconst 0, 1) := by decide +kernel
theorem dX10_init_36 : decode cX10_init 36 = .ok (.putfield 31, 3) := by decide +kernel
theorem dX10_init_39 : decode cX10_init 39 = .ok (.aload_n 0, 1) := by decide +kernel
theorem dX10_init_40 : decode cX10_init 40 = .ok (.iconst 3, 1) := by decide +kernel
theorem dX10_init_41 : decode cX10_init 41 = .ok (.newarray .int, 2) := by decide +kernel
theorem dX10_init_43 : decode cX10_init 43 = .ok (.putfield 34, 3) := by decide +kernel
theorem dX10_init_46 : decode cX10_init 46 = .ok (.return_, 1) := by decide +kernel
theorem dX10_reset_0 : decode cX10_reset 0 = .ok (.aload_n 0, 1) := by decide +kernel
theorem dX10_reset_1 : decode cX10_reset 1 = .ok (.iconst 0, 1) := by decide +kernel
theorem dX10_reset_2 : decode cX10_reset 2 = .ok (.putfield 9, 3) := by decide +kernel
theorem dX10_reset_5 : decode cX10_reset 5 = .ok (.aload_n 0, 1) := by decide +kernel
theorem dX10_reset_6 : decode cX10_reset 6 = .ok (.iconst 0, 1) := by decide +kernel
theorem dX10_reset_7 : decode cX10_reset 7 = .ok (.putfield 15, 3) := by decide +kernel
theorem dX10_reset_10 : decode cX10_reset 10 = .ok (.aload_n 0, 1) := by decide +kernel
theorem dX10_reset_11 : decode cX10_reset 11 = .ok (.iconst 0, 1) := by decide +kernel
theorem dX10_reset_12 : decode cX10_reset 12 = .ok (.putfield 18, 3) := by decide +kernel
theorem dX10_reset_15 : decode cX10_reset 15 = .ok (.aload_n 0, 1) := by decide +kernel
theorem dX10_reset_16 : decode cX10_reset 16 = .ok (.iconst (-1), 1) := by decide +kernel
theorem dX10_reset_17 : decode cX10_reset 17 = .ok (.putfield 21, 3) := by decide +kernel
theorem dX10_reset_20 : decode cX10_reset 20 = .ok (.aload_n 0, 1) := by decide +kernel
theorem dX10_reset_21 : decode cX10_reset 21 = .ok (.iconst (-1), 1) := by decide +kernel
theorem dX10_reset_22 : decode cX10_reset 22 = .ok (.putfield 25, 3) := by decide +kernel
theorem dX10_reset_25 : decode cX10_reset 25 = .ok (.aload_n 0, 1) := by decide +kernel
theorem dX10_reset_26 : decode cX10_reset 26 = .ok (.iconst 0, 1) := by decide +kernel
theorem dX10_reset_27 : decode cX10_reset 27 = .ok (.putfield 28, 3) := by decide +kernel
theorem dX10_reset_30 : decode cX10_reset 30 = .ok (.aload_n 0, 1) := by decide +kernel
theorem dX10_reset_31 : decode cX10_reset 31 = .ok (.iconst 0, 1) := by decide +kernel
theorem dX10_reset_32 : decode cX10_reset 32 = .ok (.putfield 31, 3) := by decide +kernel
theorem dX10_reset_35 : decode cX10_reset 35 = .ok (.iconst 0, 1) := by decide +kernel
theorem dX10_reset_36 : decode cX10_reset 36 = .ok (.istore_n 1, 1) := by decide +kernel
theorem dX10_reset_37 : decode cX10_reset 37 = .ok (.iload_n 1, 1) := by decide +kernel
theorem dX10_reset_38 : decode cX10_reset 38 = .ok (.iconst 3, 1) := by decide +kernel
theorem dX10_reset_39 : decode cX10_reset 39 = .ok (.if_icmp .ge 16, 3) := by decide +kernel
theorem dX10_reset_42 : decode cX10_reset 42 = .ok (.aload_n 0, 1) := by decide +kernel
theorem dX10_reset_43 : decode cX10_reset 43 = .ok (.getfield 34, 3) := by decide +kernel
theorem dX10_reset_46 : decode cX10_reset 46 = .ok (.iload_n 1, 1) := by decide +kernel
theorem dX10_reset_47 : decode cX10_reset 47 = .ok (.iconst 0, 1) := by decide +kernel
theorem dX10_reset_48 : decode cX10_reset 48 = .ok (.iastore, 1) := by decide +kernel
theorem dX10_reset_49 : decode cX10_reset 49 = .ok (.iinc 1 1, 3) := by decide +kernel
theorem dX10_reset_52 : decode cX10_reset 52 = .ok (.goto (-15), 3) := by decide +kernel
theorem dX10_reset_55 : decode cX10_reset 55 = .ok (.return_, 1) := by decide +kernel
theorem dX10_change_0 : decode cX10_change 0 = .ok (.iload_n 1, 1) := by decide +kernel
theorem dX10_change_1 : decode cX10_change 1 = .ok (.tableswitch 76 1 5 #[35, 43, 51, 59, 67], 35) := by decide +kernel
theorem dX10_change_36 : decode cX10_change 36 = .ok (.aload_n 0, 1) := by decide +kernel
theorem dX10_change_37 : decode cX10_change 37 = .ok (.iconst 1, 1) := by decide +kernel
theorem dX10_change_38 : decode cX10_change 38 = .ok (.putfield 15, 3) := by decide +kernel
theorem dX10_change_41 : decode cX10_change 41 = .ok (.goto 36, 3) := by decide +kernel
theorem dX10_change_44 : decode cX10_change 44 = .ok (.aload_n 0, 1) := by decide +kernel
theorem dX10_change_45 : decode cX10_change 45 = .ok (.iload_n 2, 1) := by decide +kernel
theorem dX10_change_46 : decode cX10_change 46 = .ok (.putfield 21, 3) := by decide +kernel
theorem dX10_change_49 : decode cX10_change 49 = .ok (.goto 28, 3) := by decide +kernel
theorem dX10_change_52 : decode cX10_change 52 = .ok (.aload_n 0, 1) := by decide +kernel
theorem dX10_change_53 : decode cX10_change 53 = .ok (.iconst 4, 1) := by decide +kernel
theorem dX10_change_54 : decode cX10_change 54 = .ok (.putfield 28, 3) := by decide +kernel
theorem dX10_change_57 : decode cX10_change 57 = .ok (.goto 20, 3) := by decide +kernel
theorem dX10_change_60 : decode cX10_change 60 = .ok (.aload_n 0, 1) := by decide +kernel
theorem dX10_change_61 : decode cX10_change 61 = .ok (.iconst 1, 1) := by decide +kernel
theorem dX10_change_62 : decode cX10_change 62 = .ok (.putfield 18, 3) := by decide +kernel
theorem dX10_change_65 : decode cX10_change 65 = .ok (.goto 12, 3) := by decide +kernel
theorem dX10_change_68 : decode cX10_change 68 = .ok (.aload_n 0, 1) := by decide +kernel
theorem dX10_change_69 : decode cX10_change 69 = .ok (.bipush 9, 2) := by decide +kernel
theorem dX10_change_71 : decode cX10_change 71 = .ok (.putfield 31, 3) := by decide +kernel
theorem dX10_change_74 : decode cX10_change 74 = .ok (.goto 3, 3) := by decide +kernel
theorem dX10_change_77 : decode cX10_change 77 = .ok (.return_, 1) := by decide +kernel
