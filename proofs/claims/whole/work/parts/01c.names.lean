set_option maxRecDepth 20000 in
theorem ggX1_isKind_X4_isWithin : GoodIn wsX1_isKind wsX4_isWithin := goodIn_r _ [3] (by decide +kernel) (by decide +kernel)
set_option maxRecDepth 20000 in
theorem gX1_isKind_X4_isWithin_n9 : GoodIn wsX1_isKind (wsX4_isWithin) := ggX1_isKind_X4_isWithin
theorem dX1_isKind_0 : decode cX1_isKind 0 = .ok (.iload_n 0, 1) := by decide +kernel
theorem dX1_isKind_1 : decode cX1_isKind 1 = .ok (.iconst 0, 1) := by decide +kernel
theorem dX1_isKind_2 : decode cX1_isKind 2 = .ok (.bipush 6, 2) := by decide +kernel
theorem dX1_isKind_4 : decode cX1_isKind 4 = .ok (.invokestatic 9, 3) := by decide +kernel
theorem dX1_isKind_7 : decode cX1_isKind 7 = .ok (.ireturn, 1) := by decide +kernel
set_option maxRecDepth 20000 in
theorem ggX1_isOneOf_X1_isKind : GoodIn wsX1_isOneOf wsX1_isKind := goodIn_r _ [5, 6, 7, 8] (by decide +kernel) (by decide +kernel)
set_option maxRecDepth 20000 in
theorem gX1_isOneOf_X1_isKind : GoodIn wsX1_isOneOf (va_wsS RX1 15 yX1_isKind wsX1_isKind) := goodIn_app (goodIn_of _ (by decide +kernel)) ggX1_isOneOf_X1_isKind
theorem dX1_isOneOf_0 : decode cX1_isOneOf 0 = .ok (.iload_n 0, 1) := by decide +kernel
theorem dX1_isOneOf_1 : decode cX1_isOneOf 1 = .ok (.istore_n 2, 1) := by decide +kernel
theorem dX1_isOneOf_2 : decode cX1_isOneOf 2 = .ok (.iconst 0, 1) := by decide +kernel
theorem dX1_isOneOf_3 : decode cX1_isOneOf 3 = .ok (.istore_n 3, 1) := by decide +kernel
theorem dX1_isOneOf_4 : decode cX1_isOneOf 4 = .ok (.iload_n 3, 1) := by decide +kernel
theorem dX1_isOneOf_5 : decode cX1_isOneOf 5 = .ok (.bipush 7, 2) := by decide +kernel
theorem dX1_isOneOf_7 : decode cX1_isOneOf 7 = .ok (.if_icmp .ge 29, 3) := by decide +kernel
theorem dX1_isOneOf_10 : decode cX1_isOneOf 10 = .ok (.iload_n 2, 1) := by decide +kernel
theorem dX1_isOneOf_11 : decode cX1_isOneOf 11 = .ok (.invokestatic 15, 3) := by decide +kernel
theorem dX1_isOneOf_14 : decode cX1_isOneOf 14 = .ok (.ifCond .eq 22, 3) := by decide +kernel
theorem dX1_isOneOf_17 : decode cX1_isOneOf 17 = .ok (.iload_n 2, 1) := by decide +kernel
theorem dX1_isOneOf_18 : decode cX1_isOneOf 18 = .ok (.iload_n 1, 1) := by decide +kernel
theorem dX1_isOneOf_19 : decode cX1_isOneOf 19 = .ok (.if_icmp .ne 5, 3) := by decide +kernel
theorem dX1_isOneOf_22 : decode cX1_isOneOf 22 = .ok (.iconst 1, 1) := by decide +kernel
theorem dX1_isOneOf_23 : decode cX1_isOneOf 23 = .ok (.ireturn, 1) := by decide +kernel
theorem dX1_isOneOf_24 : decode cX1_isOneOf 24 = .ok (.getstatic 19, 3) := by decide +kernel
theorem dX1_isOneOf_27 : decode cX1_isOneOf 27 = .ok (.iload_n 2, 1) := by decide +kernel
theorem dX1_isOneOf_28 : decode cX1_isOneOf 28 = .ok (.iaload, 1) := by decide +kernel
theorem dX1_isOneOf_29 : decode cX1_isOneOf 29 = .ok (.istore_n 2, 1) := by decide +kernel
theorem dX1_isOneOf_30 : decode cX1_isOneOf 30 = .ok (.iinc 3 1, 3) := by decide +kernel
theorem dX1_isOneOf_33 : decode cX1_isOneOf 33 = .ok (.goto (-29), 3) := by decide +kernel
theorem dX1_isOneOf_36 : decode cX1_isOneOf 36 = .ok (.iconst 0, 1) := by decide +kernel
theorem dX1_isOneOf_37 : decode cX1_isOneOf 37 = .ok (.ireturn, 1) := by decide +kernel
theorem dX1_feels_0 : decode cX1_feels 0 = .ok (.iload_n 0, 1) := by decide +kernel
theorem dX1_feels_1 : decode cX1_feels 1 = .ok (.tableswitch 37 4 6 #[27, 31, 31], 27) := by decide +kernel
theorem dX1_feels_28 : decode cX1_feels 28 = .ok (.iload_n 1, 1) := by decide +kernel
theorem dX1_feels_29 : decode cX1_feels 29 = .ok (.iconst 4, 1) := by decide +kernel
theorem dX1_feels_30 : decode cX1_feels 30 = .ok (.isub, 1) := by decide +kernel
theorem dX1_feels_31 : decode cX1_feels 31 = .ok (.ireturn, 1) := by decide +kernel
theorem dX1_feels_32 : decode cX1_feels 32 = .ok (.iload_n 1, 1) := by decide +kernel
theorem dX1_feels_33 : decode cX1_feels 33 = .ok (.iconst 2, 1) := by decide +kernel
theorem dX1_feels_34 : decode cX1_feels 34 = .ok (.imul, 1) := by decide +kernel
theorem dX1_feels_35 : decode cX1_feels 35 = .ok (.iconst 3, 1) := by decide +kernel
theorem dX1_feels_36 : decode cX1_feels 36 = .ok (.idiv, 1) := by decide +kernel
theorem dX1_feels_37 : decode cX1_feels 37 = .ok (.ireturn, 1) := by decide +kernel
theorem dX1_feels_38 : decode cX1_feels 38 = .ok (.iload_n 1, 1) := by decide +kernel
theorem dX1_feels_39 : decode cX1_feels 39 = .ok (.ireturn, 1) := by decide +kernel
theorem dX1_stands_0 : decode cX1_stands 0 = .ok (.iload_n 0, 1) := by decide +kernel
theorem dX1_stands_1 : decode cX1_stands 1 = .ok (.tableswitch 44 2 6 #[35, 35, 44, 44, 40], 35) := by decide +kernel
theorem dX1_stands_36 : decode cX1_stands 36 = .ok (.iload_n 1, 1) := by decide +kernel
theorem dX1_stands_37 : decode cX1_stands 37 = .ok (.bipush 8, 2) := by decide +kernel
theorem dX1_stands_39 : decode cX1_stands 39 = .ok (.isub, 1) := by decide +kernel
theorem dX1_stands_40 : decode cX1_stands 40 = .ok (.ireturn, 1) := by decide +kernel
theorem dX1_stands_41 : decode cX1_stands 41 = .ok (.iload_n 1, 1) := by decide +kernel
theorem dX1_stands_42 : decode cX1_stands 42 = .ok (.iconst 5, 1) := by decide +kernel
theorem dX1_stands_43 : decode cX1_stands 43 = .ok (.isub, 1) := by decide +kernel
theorem dX1_stands_44 : decode cX1_stands 44 = .ok (.ireturn, 1) := by decide +kernel
theorem dX1_stands_45 : decode cX1_stands 45 = .ok (.iload_n 1, 1) := by decide +kernel
theorem dX1_stands_46 : decode cX1_stands 46 = .ok (.ireturn, 1) := by decide +kernel
theorem dX1_runsAt_0 : decode cX1_runsAt 0 = .ok (.iload_n 0, 1) := by decide +kernel
theorem dX1_runsAt_1 : decode cX1_runsAt 1 = .ok (.tableswitch 36 1 4 #[31, 36, 34, 31], 31) := by decide +kernel
theorem dX1_runsAt_32 : decode cX1_runsAt 32 = .ok (.bipush 20, 2) := by decide +kernel
theorem dX1_runsAt_34 : decode cX1_runsAt 34 = .ok (.ireturn, 1) := by decide +kernel
theorem dX1_runsAt_35 : decode cX1_runsAt 35 = .ok (.iconst 5, 1) := by decide +kernel
theorem dX1_runsAt_36 : decode cX1_runsAt 36 = .ok (.ireturn, 1) := by decide +kernel
theorem dX1_runsAt_37 : decode cX1_runsAt 37 = .ok (.bipush 10, 2) := by decide +kernel
theorem dX1_runsAt_39 : decode cX1_runsAt 39 = .ok (.ireturn, 1) := by decide +kernel
theorem dX2_init_0 : decode cX2_init 0 = .ok (.aload_n 0, 1) := by decide +kernel
theorem dX2_init_1 : decode cX2_init 1 = .ok (.invokespecial 3, 3) := by decide +kernel
theorem dX2_init_4 : decode cX2_init 4 = .ok (.aload_n 0, 1) := by decide +kernel
theorem dX2_init_5 : decode cX2_init 5 = .ok (.bipush 40, 2) := by decide +kernel
theorem dX2_init_7 : decode cX2_init 7 = .ok (.newarray .int, 2) := by decide +kernel
theorem dX2_init_9 : decode cX2_init 9 = .ok (.putfield 9, 3) := by decide +kernel
theorem dX2_init_12 : decode cX2_init 12 = .ok (.aload_n 0, 1) := by decide +kernel
theorem dX2_init_13 : decode cX2_init 13 = .ok (.iconst 0, 1) := by decide +kernel
theorem dX2_init_14 : decode cX2_init 14 = .ok (.putfield 15, 3) := by decide +kernel
theorem dX2_init_17 : decode cX2_init 17 = .ok (.aload_n 0, 1) := by decide +kernel
theorem dX2_init_18 : decode cX2_init 18 = .ok (.iconst 0, 1) := by decide +kernel
theorem dX2_init_19 : decode cX2_init 19 = .ok (.putfield 19, 3) := by decide +kernel
theorem dX2_init_22 : decode cX2_init 22 = .ok (.return_, 1) := by decide +kernel
theorem dX2_isMissing_0 : decode cX2_isMissing 0 = .ok (.aload_n 0, 1) := by decide +kernel
theorem dX2_isMissing_1 : decode cX2_isMissing 1 = .ok (.getfield 15, 3) := by decide +kernel
theorem dX2_isMissing_4 : decode cX2_isMissing 4 = .ok (.ifCond .ne 7, 3) := by decide +kernel
theorem dX2_isMissing_7 : decode cX2_isMissing 7 = .ok (.iconst 1, 1) := by decide +kernel
theorem dX2_isMissing_8 : decode cX2_isMissing 8 = .ok (.goto 4, 3) := by decide +kernel
theorem dX2_isMissing_11 : decode cX2_isMissing 11 = .ok (.iconst 0, 1) := by decide +kernel
theorem dX2_isMissing_12 : decode cX2_isMissing 12 = .ok (.ireturn, 1) := by decide +kernel
theorem dX2_makeAnew_0 : decode cX2_makeAnew 0 = .ok (.aload_n 0, 1) := by decide +kernel
theorem dX2_makeAnew_1 : decode cX2_makeAnew 1 = .ok (.iload_n 1, 1) := by decide +kernel
theorem dX2_makeAnew_2 : decode cX2_makeAnew 2 = .ok (.putfield 15, 3) := by decide +kernel
theorem dX2_makeAnew_5 : decode cX2_makeAnew 5 = .ok (.aload_n 0, 1) := by decide +kernel
theorem dX2_makeAnew_6 : decode cX2_makeAnew 6 = .ok (.iload_n 1, 1) := by decide +kernel
theorem dX2_makeAnew_7 : decode cX2_makeAnew 7 = .ok (.ifCond .ne 7, 3) := by decide +kernel
theorem dX2_makeAnew_10 : decode cX2_makeAnew 10 = .ok (.iconst 0, 1) := by decide +kernel
theorem dX2_makeAnew_11 : decode cX2_makeAnew 11 = .ok (.goto 4, 3) := by decide +kernel
theorem dX2_makeAnew_14 : decode cX2_makeAnew 14 = .ok (.iload_n 2, 1) := by decide +kernel
theorem dX2_makeAnew_15 : decode cX2_makeAnew 15 = .ok (.putfield 19, 3) := by decide +kernel
theorem dX2_makeAnew_18 : decode cX2_makeAnew 18 = .ok (.iconst 0, 1) := by decide +kernel
theorem dX2_makeAnew_19 : decode cX2_makeAnew 19 = .ok (.istore_n 3, 1) := by decide +kernel
theorem dX2_makeAnew_20 : decode cX2_makeAnew 20 = .ok (.iload_n 3, 1) := by decide +kernel
theorem dX2_makeAnew_21 : decode cX2_makeAnew 21 = .ok (.bipush 40, 2) := by decide +kernel
theorem dX2_makeAnew_23 : decode cX2_makeAnew 23 = .ok (.if_icmp .ge 16, 3) := by decide +kernel
theorem dX2_makeAnew_26 : decode cX2_makeAnew 26 = .ok (.aload_n 0, 1) := by decide +kernel
theorem dX2_makeAnew_27 : decode cX2_makeAnew 27 = .ok (.getfield 9, 3) := by decide +kernel
theorem dX2_makeAnew_30 : decode cX2_makeAnew 30 = .ok (.iload_n 3, 1) := by decide +kernel
theorem dX2_makeAnew_31 : decode cX2_makeAnew 31 = .ok (.iconst 0, 1) := by decide +kernel
theorem dX2_makeAnew_32 : decode cX2_makeAnew 32 = .ok (.iastore, 1) := by decide +kernel
theorem dX2_makeAnew_33 : decode cX2_makeAnew 33 = .ok (.iinc 3 1, 3) := by decide +kernel
theorem dX2_makeAnew_36 : decode cX2_makeAnew 36 = .ok (.goto (-16), 3) := by decide +kernel
theorem dX2_makeAnew_39 : decode cX2_makeAnew 39 = .ok (.return_, 1) := by decide +kernel
theorem dX2_hasRange_0 : decode cX2_hasRange 0 = .ok (.iload_n 1, 1) := by decide +kernel
theorem dX2_hasRange_1 : decode cX2_hasRange 1 = .ok (.ifCond .lt 21, 3) := by decide +kernel
theorem dX2_hasRange_4 : decode cX2_hasRange 4 = .ok (.iload_n 2, 1) := by decide +kernel
theorem dX2_hasRange_5 : decode cX2_hasRange 5 = .ok (.ifCond .lt 17, 3) := by decide +kernel
theorem dX2_hasRange_8 : decode cX2_hasRange 8 = .ok (.iload_n 1, 1) := by decide +kernel
theorem dX2_hasRange_9 : decode cX2_hasRange 9 = .ok (.aload_n 0, 1) := by decide +kernel
theorem dX2_hasRange_10 : decode cX2_hasRange 10 = .ok (.getfield 19, 3) := by decide +kernel
theorem dX2_hasRange_13 : decode cX2_hasRange 13 = .ok (.iload_n 2, 1) := by decide +kernel
theorem dX2_hasRange_14 : decode cX2_hasRange 14 = .ok (.isub, 1) := by decide +kernel
theorem dX2_hasRange_15 : decode cX2_hasRange 15 = .ok (.if_icmp .gt 7, 3) := by decide +kernel
theorem dX2_hasRange_18 : decode cX2_hasRange 18 = .ok (.iconst 1, 1) := by decide +kernel
theorem dX2_hasRange_19 : decode cX2_hasRange 19 = .ok (.goto 4, 3) := by decide +kernel
theorem dX2_hasRange_22 : decode cX2_hasRange 22 = .ok (.iconst 0, 1) := by decide +kernel
theorem dX2_hasRange_23 : decode cX2_hasRange 23 = .ok (.ireturn, 1) := by decide +kernel
theorem dX2_lowestBits_0 : decode cX2_lowestBits 0 = .ok (.aload_n 0, 1) := by decide +kernel
theorem dX2_lowestBits_1 : decode cX2_lowestBits 1 = .ok (.getfield 15, 3) := by decide +kernel
theorem dX2_lowestBits_4 : decode cX2_lowestBits 4 = .ok (.bipush 8, 2) := by decide +kernel
theorem dX2_lowestBits_6 : decode cX2_lowestBits 6 = .ok (.if_icmp .ne 6, 3) := by decide +kernel
theorem dX2_lowestBits_9 : decode cX2_lowestBits 9 = .ok (.iload_n 1, 1) := by decide +kernel
theorem dX2_lowestBits_10 : decode cX2_lowestBits 10 = .ok (.i2b, 1) := by decide +kernel
theorem dX2_lowestBits_11 : decode cX2_lowestBits 11 = .ok (.ireturn, 1) := by decide +kernel
theorem dX2_lowestBits_12 : decode cX2_lowestBits 12 = .ok (.aload_n 0, 1) := by decide +kernel
theorem dX2_lowestBits_13 : decode cX2_lowestBits 13 = .ok (.getfield 15, 3) := by decide +kernel
theorem dX2_lowestBits_16 : decode cX2_lowestBits 16 = .ok (.bipush 16, 2) := by decide +kernel
theorem dX2_lowestBits_18 : decode cX2_lowestBits 18 = .ok (.if_icmp .ne 8, 3) := by decide +kernel
theorem dX2_lowestBits_21 : decode cX2_lowestBits 21 = .ok (.iload_n 1, 1) := by decide +kernel
theorem dX2_lowestBits_22 : decode cX2_lowestBits 22 = .ok (.i2s, 1) := by decide +kernel
theorem dX2_lowestBits_23 : decode cX2_lowestBits 23 = .ok (.goto 4, 3) := by decide +kernel
theorem dX2_lowestBits_26 : decode cX2_lowestBits 26 = .ok (.iload_n 1, 1) := by decide +kernel
theorem dX2_lowestBits_27 : decode cX2_lowestBits 27 = .ok (.ireturn, 1) := by decide +kernel
theorem dX3_init_0 : decode cX3_init 0 = .ok (.aload_n 0, 1) := by decide +kernel
theorem dX3_init_1 : decode cX3_init 1 = .ok (.invokespecial 3, 3) := by decide +kernel
theorem dX3_init_4 : decode cX3_init 4 = .ok (.aload_n 0, 1) := by decide +kernel
theorem dX3_init_5 : decode cX3_init 5 = .ok (.bipush 120, 2) := by decide +kernel
theorem dX3_init_7 : decode cX3_init 7 = .ok (.newarray .int, 2) := by decide +kernel
theorem dX3_init_9 : decode cX3_init 9 = .ok (.putfield 9, 3) := by decide +kernel
theorem dX3_init_12 : decode cX3_init 12 = .ok (.aload_n 0, 1) := by decide +kernel
theorem dX3_init_13 : decode cX3_init 13 = .ok (.iconst 0, 1) := by decide +kernel
theorem dX3_init_14 : decode cX3_init 14 = .ok (.putfield 15, 3) := by decide +kernel
theorem dX3_init_17 : decode cX3_init 17 = .ok (.aload_n 0, 1) := by decide +kernel
theorem dX3_init_18 : decode cX3_init 18 = .ok (.iconst 0, 1) := by decide +kernel
theorem dX3_init_19 : decode cX3_init 19 = .ok (.putfield 19, 3) := by decide +kernel
theorem dX3_init_22 : decode cX3_init 22 = .ok (.aload_n 0, 1) := by decide +kernel
theorem dX3_init_23 : decode cX3_init 23 = .ok (.iconst 0, 1) := by decide +kernel
theorem dX3_init_24 : decode cX3_init 24 = .ok (.putfield 22, 3) := by decide +kernel
theorem dX3_init_27 : decode cX3_init 27 = .ok (.aload_n 0, 1) := by decide +kernel
theorem dX3_init_28 : decode cX3_init 28 = .ok (.iconst 0, 1) := by decide +kernel
theorem dX3_init_29 : decode cX3_init 29 = .ok (.putfield 25, 3) := by decide +kernel
theorem dX3_init_32 : decode cX3_init 32 = .ok (.aload_n 0, 1) := by decide +kernel
theorem dX3_init_33 : decode cX3_init 33 = .ok (.iconst 0, 1) := by decide +kernel
theorem dX3_init_34 : decode cX3_init 34 = .ok (.putfield 28, 3) := by decide +kernel
theorem dX3_init_37 : decode cX3_init 37 = .ok (.return_, 1) := by decide +kernel
theorem dX3_append_0 : decode cX3_append 0 = .ok (.aload_n 0, 1) := by decide +kernel
theorem dX3_append_1 : decode cX3_append 1 = .ok (.getfield 15, 3) := by decide +kernel
theorem dX3_append_4 : decode cX3_append 4 = .ok (.bipush 120, 2) := by decide +kernel
theorem dX3_append_6 : decode cX3_append 6 = .ok (.if_icmp .ge 23, 3) := by decide +kernel
theorem dX3_append_9 : decode cX3_append 9 = .ok (.aload_n 0, 1) := by decide +kernel
theorem dX3_append_10 : decode cX3_append 10 = .ok (.getfield 9, 3) := by decide +kernel
theorem dX3_append_13 : decode cX3_append 13 = .ok (.aload_n 0, 1) := by decide +kernel
theorem dX3_append_14 : decode cX3_append 14 = .ok (.getfield 15, 3) := by decide +kernel
theorem dX3_append_17 : decode cX3_append 17 = .ok (.iload_n 1, 1) := by decide +kernel
theorem dX3_append_18 : decode cX3_append 18 = .ok (.iastore, 1) := by decide +kernel
theorem dX3_append_19 : decode cX3_append 19 = .ok (.aload_n 0, 1) := by decide +kernel
theorem dX3_append_20 : decode cX3_append 20 = .ok (.dup, 1) := by decide +kernel
theorem dX3_append_21 : decode cX3_append 21 = .ok (.getfield 15, 3) := by decide +kernel
theorem dX3_append_24 : decode cX3_append 24 = .ok (.iconst 1, 1) := by decide +kernel
theorem dX3_append_25 : decode cX3_append 25 = .ok (.iadd, 1) := by decide +kernel
theorem dX3_append_26 : decode cX3_append 26 = .ok (.putfield 15, 3) := by decide +kernel
theorem dX3_append_29 : decode cX3_append 29 = .ok (.return_, 1) := by decide +kernel
set_option maxRecDepth 20000 in
theorem ggX3_readText_X3_step : GoodIn wsX3_readText wsX3_step := goodIn_r _ [8, 1, 9, 3, 2, 10, 11, 12, 13, 14, 15, 16, 17, 7, 18, 19, 20, 21, 22, 151, 152, 153, 154, 155, 156] (by decide +kernel) (by decide +kernel)
set_option maxRecDepth 20000 in
theorem gX3_readText_X3_step : GoodIn wsX3_readText (wsV RX3 31 RX3 yX3_step wsX3_step) := goodIn_app (goodIn_of _ (by decide +kernel)) ggX3_readText_X3_step
set_option maxRecDepth 20000 in
theorem ggX3_readText_X3_readItem : GoodIn wsX3_readText wsX3_readItem := goodIn_r _ [26, 27, 28, 29, 7, 30, 31, 32, 33, 34, 35, 36, 37, 2, 1, 3, 38, 39, 40, 41, 42, 43, 44, 45, 46, 47, 48, 49, 15, 16, 17, 18, 9, 19, 50, 51, 52, 53, 54, 55, 56, 57, 58, 59, 60, 61, 62, 63, 64, 65, 66, 67, 68, 69, 70, 71, 72, 73, 74, 75, 76, 77, 78, 79, 80, 81, 82, 83, 84, 85, 86, 87, 88, 89, 90, 91, 92, 93, 94, 95, 96, 97, 4, 5, 6, 8, 10, 11, 12, 13, 14, 20, 21, 22, 98, 99, 100, 101, 102, 103, 104, 105, 106, 107, 108, 109, 110, 111, 112, 113, 114, 115, 116, 117, 118, 119, 120, 121, 122, 123, 124, 125, 126, 127, 128, 129, 130, 131, 132, 133, 134, 135, 136, 137, 138, 139, 140, 141, 142, 143, 144, 145, 146, 147, 148, 149, 150, 151, 152, 153, 154, 155, 156, 157, 158, 159, 160, 161, 162, 163, 164, 165, 166, 167, 168, 169, 170, 171] (by decide +kernel) (by decide +kernel)
set_option maxRecDepth 20000 in
theorem gX3_readText_X3_readItem : GoodIn wsX3_readText (wsV RX3 34 RX3 yX3_readItem wsX3_readItem) := goodIn_app (goodIn_of _ (by decide +kernel)) ggX3_readText_X3_readItem
theorem dX3_readText_0 : decode cX3_readText 0 = .ok (.aload_n 0, 1) := by decide +kernel
theorem dX3_readText_1 : decode cX3_readText 1 = .ok (.iconst 0, 1) := by decide +kernel
theorem dX3_readText_2 : decode cX3_readText 2 = .ok (.putfield 22, 3) := by decide +kernel
theorem dX3_readText_5 : decode cX3_readText 5 = .ok (.aload_n 0, 1) := by decide +kernel
theorem dX3_readText_6 : decode cX3_readText 6 = .ok (.invokevirtual 31, 3) := by decide +kernel
theorem dX3_readText_9 : decode cX3_readText 9 = .ok (.iconst 0, 1) := by decide +kernel
theorem dX3_readText_10 : decode cX3_readText 10 = .ok (.istore_n 2, 1) := by decide +kernel
theorem dX3_readText_11 : decode cX3_readText 11 = .ok (.iload_n 2, 1) := by decide +kernel
theorem dX3_readText_12 : decode cX3_readText 12 = .ok (.bipush 120, 2) := by decide +kernel
theorem dX3_readText_14 : decode cX3_readText 14 = .ok (.if_icmp .ge 45, 3) := by decide +kernel
theorem dX3_readText_17 : decode cX3_readText 17 = .ok (.aload_n 0, 1) := by decide +kernel
theorem dX3_readText_18 : decode cX3_readText 18 = .ok (.aload_n 1, 1) := by decide +kernel
theorem dX3_readText_19 : decode cX3_readText 19 = .ok (.invokevirtual 34, 3) := by decide +kernel
theorem dX3_readText_22 : decode cX3_readText 22 = .ok (.ifCond .eq 37, 3) := by decide +kernel
theorem dX3_readText_25 : decode cX3_readText 25 = .ok (.iinc 2 1, 3) := by decide +kernel
theorem dX3_readText_28 : decode cX3_readText 28 = .ok (.aload_n 0, 1) := by decide +kernel
theorem dX3_readText_29 : decode cX3_readText 29 = .ok (.getfield 25, 3) := by decide +kernel
theorem dX3_readText_32 : decode cX3_readText 32 = .ok (.ifCond .ne 5, 3) := by decide +kernel
theorem dX3_readText_35 : decode cX3_readText 35 = .ok (.iload_n 2, 1) := by decide +kernel
theorem dX3_readText_36 : decode cX3_readText 36 = .ok (.ireturn, 1) := by decide +kernel
theorem dX3_readText_37 : decode cX3_readText 37 = .ok (.aload_n 0, 1) := by decide +kernel
theorem dX3_readText_38 : decode cX3_readText 38 = .ok (.getfield 25, 3) := by decide +kernel
theorem dX3_readText_41 : decode cX3_readText 41 = .ok (.iconst 3, 1) := by decide +kernel
theorem dX3_readText_42 : decode cX3_readText 42 = .ok (.if_icmp .eq 10, 3) := by decide +kernel
theorem dX3_readText_45 : decode cX3_readText 45 = .ok (.iconst (-1), 1) := by decide +kernel
theorem dX3_readText_46 : decode cX3_readText 46 = .ok (.aload_n 0, 1) := by decide +kernel
theorem dX3_readText_47 : decode cX3_readText 47 = .ok (.getfield 19, 3) := by decide +kernel
theorem dX3_readText_50 : decode cX3_readText 50 = .ok (.isub, 1) := by decide +kernel
theorem dX3_readText_51 : decode cX3_readText 51 = .ok (.ireturn, 1) := by decide +kernel
theorem dX3_readText_52 : decode cX3_readText 52 = .ok (.aload_n 0, 1) := by decide +kernel
theorem dX3_readText_53 : decode cX3_readText 53 = .ok (.invokevirtual 31, 3) := by decide +kernel
theorem dX3_readText_56 : decode cX3_readText 56 = .ok (.goto (-45), 3) := by decide +kernel
theorem dX3_readText_59 : decode cX3_readText 59 = .ok (.iconst (-1), 1) := by decide +kernel
theorem dX3_readText_60 : decode cX3_readText 60 = .ok (.aload_n 0, 1) := by decide +kernel
theorem dX3_readText_61 : decode cX3_readText 61 = .ok (.getfield 19, 3) := by decide +kernel
theorem dX3_readText_64 : decode cX3_readText 64 = .ok (.isub, 1) := by decide +kernel
theorem dX3_readText_65 : decode cX3_readText 65 = .ok (.ireturn, 1) := by decide +kernel
set_option maxRecDepth 20000 in
theorem ggX3_readItem_X3_kindOfWord : GoodIn wsX3_readItem wsX3_kindOfWord := goodIn_r _ [5, 6, 7, 4, 8, 9, 10, 11, 12, 13, 14, 15, 16, 17, 18, 19, 20, 21, 22, 23, 24, 25, 26, 27, 28, 29, 30, 31, 32, 33, 34, 35, 36, 37, 38, 39, 40, 41, 42, 43, 44, 45, 46, 47, 48, 49, 50, 51, 52, 53, 54, 55, 56, 57, 58, 59, 60, 61, 62, 63, 64, 65, 66, 67, 68, 69, 70, 147, 148, 149, 150, 151, 152] (by decide +kernel) (by decide +kernel)
set_option maxRecDepth 20000 in
theorem gX3_readItem_X3_kindOfWord : GoodIn wsX3_readItem (wsV RX3 38 RX3 yX3_kindOfWord wsX3_kindOfWord) := goodIn_app (goodIn_of _ (by decide +kernel)) ggX3_readItem_X3_kindOfWord
set_option maxRecDepth 20000 in
theorem ggX3_readItem_X3_readDeed : GoodIn wsX3_readItem wsX3_readDeed := goodIn_r _ [74, 75, 76, 77, 78, 79, 80, 81, 82, 83, 84, 4, 85, 14, 32, 15, 13, 86, 87, 88, 89, 90, 28, 29, 30, 31, 33, 91, 92, 93, 94, 95, 96, 97, 98, 99, 100, 101, 102, 103, 104, 9, 10, 11, 12, 16, 17, 18, 19, 20, 21, 22, 23, 24, 25, 26, 27, 34, 35, 36, 37, 38, 39, 40, 41, 42, 43, 44, 45, 46, 47, 48, 49, 50, 51, 52, 53, 54, 55, 56, 57, 58, 59, 60, 61, 62, 63, 64, 65, 66, 67, 68, 69, 70, 105, 106, 107, 108, 109, 110, 111, 112, 113, 114, 153, 154, 155, 156, 157, 158, 159, 160, 161, 162, 163, 164, 165, 166, 167, 147, 148, 149, 150, 151, 152] (by decide +kernel) (by decide +kernel)
set_option maxRecDepth 20000 in
theorem gX3_readItem_X3_readDeed : GoodIn wsX3_readItem (wsV RX3 42 RX3 yX3_readDeed wsX3_readDeed) := goodIn_app (goodIn_of _ (by decide +kernel)) ggX3_readItem_X3_readDeed
set_option maxRecDepth 20000 in
theorem ggX3_readItem_X3_takesWord : GoodIn wsX3_readItem wsX3_takesWord := goodIn_r _ [104, 9, 10, 11, 4, 12, 13, 14, 15, 16, 17, 18, 19, 20, 21, 22, 23, 24, 25, 26, 27, 28, 29, 30, 31, 32, 33, 34, 35, 36, 37, 38, 39, 40, 41, 42, 43, 44, 45, 46, 47, 48, 49, 50, 51, 52, 53, 54, 55, 56, 57, 58, 59, 60, 61, 62, 63, 64, 65, 66, 67, 68, 69, 70, 82, 83, 84, 85, 86, 87, 88, 89, 90, 91, 92, 93, 147, 148, 149, 150, 151, 152] (by decide +kernel) (by decide +kernel)
set_option maxRecDepth 20000 in
theorem gX3_readItem_X3_takesWord : GoodIn wsX3_readItem (wsV RX3 48 RX3 yX3_takesWord wsX3_takesWord) := goodIn_app (goodIn_of _ (by decide +kernel)) ggX3_readItem_X3_takesWord
set_option maxRecDepth 20000 in
theorem ggX3_readItem_X3_readShutter : GoodIn wsX3_readItem wsX3_readShutter := goodIn_r _ [118, 94, 95, 96, 4, 97, 13, 86, 98, 99, 100, 82, 83, 84, 85, 14, 32, 15, 87, 88, 89, 90, 28, 29, 30, 31, 33, 91, 92, 93, 101, 102, 103, 104, 9, 10, 11, 12, 16, 17, 18, 19, 20, 21, 22, 23, 24, 25, 26, 27, 34, 35, 36, 37, 38, 39, 40, 41, 42, 43, 44, 45, 46, 47, 48, 49, 50, 51, 52, 53, 54, 55, 56, 57, 58, 59, 60, 61, 62, 63, 64, 65, 66, 67, 68, 69, 70, 119, 120, 121, 79, 122, 123, 124, 125, 126, 127, 147, 148, 149, 150, 151, 152, 153, 154, 155, 156, 157, 158, 159, 160, 161, 162, 163, 164, 165, 166, 167] (by decide +kernel) (by decide +kernel)
set_option maxRecDepth 20000 in
theorem gX3_readItem_X3_readShutter : GoodIn wsX3_readItem (wsV RX3 52 RX3 yX3_readShutter wsX3_readShutter) := goodIn_app (goodIn_of _ (by decide +kernel)) ggX3_readItem_X3_readShutter
set_option maxRecDepth 20000 in
theorem ggX3_readItem_X3_readIce : GoodIn wsX3_readItem wsX3_readIce := goodIn_r _ [131, 132, 94, 95, 96, 4, 97, 13, 86, 98, 99, 100, 82, 83, 84, 85, 14, 32, 15, 87, 88, 89, 90, 28, 29, 30, 31, 33, 91, 92, 93, 153, 154, 155, 156, 157, 158, 159, 160, 161, 162, 163, 164, 165, 166, 167, 147, 148, 149, 150, 151, 152] (by decide +kernel) (by decide +kernel)
set_option maxRecDepth 20000 in
theorem gX3_readItem_X3_readIce : GoodIn wsX3_readItem (wsV RX3 57 RX3 yX3_readIce wsX3_readIce) := goodIn_app (goodIn_of _ (by decide +kernel)) ggX3_readItem_X3_readIce
set_option maxRecDepth 20000 in
theorem ggX3_readItem_X3_readCandle : GoodIn wsX3_readItem wsX3_readCandle := goodIn_r _ [136, 94, 95, 96, 4, 97, 13, 86, 98, 99, 100, 82, 83, 84, 85, 14, 32, 15, 87, 88, 89, 90, 28, 29, 30, 31, 33, 91, 92, 93, 101, 102, 103, 104, 9, 10, 11, 12, 16, 17, 18, 19, 20, 21, 22, 23, 24, 25, 26, 27, 34, 35, 36, 37, 38, 39, 40, 41, 42, 43, 44, 45, 46, 47, 48, 49, 50, 51, 52, 53, 54, 55, 56, 57, 58, 59, 60, 61, 62, 63, 64, 65, 66, 67, 68, 69, 70, 137, 138, 139, 79, 140, 141, 124, 125, 126, 127, 147, 148, 149, 150, 151, 152, 153, 154, 155, 156, 157, 158, 159, 160, 161, 162, 163, 164, 165, 166, 167] (by decide +kernel) (by decide +kernel)
set_option maxRecDepth 20000 in
theorem gX3_readItem_X3_readCandle : GoodIn wsX3_readItem (wsV RX3 62 RX3 yX3_readCandle wsX3_readCandle) := goodIn_app (goodIn_of _ (by decide +kernel)) ggX3_readItem_X3_readCandle
set_option maxRecDepth 20000 in
theorem ggX3_readItem_X3_readSummer : GoodIn wsX3_readItem wsX3_readSummer := goodIn_r _ [145, 146, 94, 95, 96, 4, 97, 13, 86, 98, 99, 100, 82, 83, 84, 85, 14, 32, 15, 87, 88, 89, 90, 28, 29, 30, 31, 33, 91, 92, 93, 153, 154, 155, 156, 157, 158, 159, 160, 161, 162, 163, 164, 165, 166, 167, 147, 148, 149, 150, 151, 152] (by decide +kernel) (by decide +kernel)
set_option maxRecDepth 20000 in
theorem gX3_readItem_X3_readSummer : GoodIn wsX3_readItem (wsV RX3 67 RX3 yX3_readSummer wsX3_readSummer) := goodIn_app (goodIn_of _ (by decide +kernel)) ggX3_readItem_X3_readSummer
theorem dX3_readItem_0 : decode cX3_readItem 0 = .ok (.aload_n 0, 1) := by decide +kernel
theorem dX3_readItem_1 : decode cX3_readItem 1 = .ok (.invokevirtual 38, 3) := by decide +kernel
theorem dX3_readItem_4 : decode cX3_readItem 4 = .ok (.istore_n 2, 1) := by decide +kernel
theorem dX3_readItem_5 : decode cX3_readItem 5 = .ok (.iload_n 2, 1) := by decide +kernel
theorem dX3_readItem_6 : decode cX3_readItem 6 = .ok (.iconst (-1), 1) := by decide +kernel
theorem dX3_readItem_7 : decode cX3_readItem 7 = .ok (.if_icmp .eq 10, 3) := by decide +kernel
theorem dX3_readItem_10 : decode cX3_readItem 10 = .ok (.aload_n 0, 1) := by decide +kernel
theorem dX3_readItem_11 : decode cX3_readItem 11 = .ok (.aload_n 1, 1) := by decide +kernel
theorem dX3_readItem_12 : decode cX3_readItem 12 = .ok (.iload_n 2, 1) := by decide +kernel
theorem dX3_readItem_13 : decode cX3_readItem 13 = .ok (.invokevirtual 42, 3) := by decide +kernel
theorem dX3_readItem_16 : decode cX3_readItem 16 = .ok (.ireturn, 1) := by decide +kernel
theorem dX3_readItem_17 : decode cX3_readItem 17 = .ok (.aload_n 0, 1) := by decide +kernel
theorem dX3_readItem_18 : decode cX3_readItem 18 = .ok (.ldc 46, 2) := by decide +kernel
theorem dX3_readItem_20 : decode cX3_readItem 20 = .ok (.invokevirtual 48, 3) := by decide +kernel
theorem dX3_readItem_23 : decode cX3_readItem 23 = .ok (.ifCond .eq 9, 3) := by decide +kernel
theorem dX3_readItem_26 : decode cX3_readItem 26 = .ok (.aload_n 0, 1) := by decide +kernel
theorem dX3_readItem_27 : decode cX3_readItem 27 = .ok (.aload_n 1, 1) := by decide +kernel
theorem dX3_readItem_28 : decode cX3_readItem 28 = .ok (.invokevirtual 52, 3) := by decide +kernel
theorem dX3_readItem_31 : decode cX3_readItem 31 = .ok (.ireturn, 1) := by decide +kernel
theorem dX3_readItem_32 : decode cX3_readItem 32 = .ok (.aload_n 0, 1) := by decide +kernel
theorem dX3_readItem_33 : decode cX3_readItem 33 = .ok (.ldc 55, 2) := by decide +kernel
theorem dX3_readItem_35 : decode cX3_readItem 35 = .ok (.invokevirtual 48, 3) := by decide +kernel
theorem dX3_readItem_38 : decode cX3_readItem 38 = .ok (.ifCond .eq 9, 3) := by decide +kernel
theorem dX3_readItem_41 : decode cX3_readItem 41 = .ok (.aload_n 0, 1) := by decide +kernel
theorem dX3_readItem_42 : decode cX3_readItem 42 = .ok (.aload_n 1, 1) := by decide +kernel
theorem dX3_readItem_43 : decode cX3_readItem 43 = .ok (.invokevirtual 57, 3) := by decide +kernel
theorem dX3_readItem_46 : decode cX3_readItem 46 = .ok (.ireturn, 1) := by decide +kernel
theorem dX3_readItem_47 : decode cX3_readItem 47 = .ok (.aload_n 0, 1) := by decide +kernel
theorem dX3_readItem_48 : decode cX3_readItem 48 = .ok (.ldc 60, 2) := by decide +kernel
theorem dX3_readItem_50 : decode cX3_readItem 50 = .ok (.invokevirtual 48, 3) := by decide +kernel
theorem dX3_readItem_53 : decode cX3_readItem 53 = .ok (.ifCond .eq 9, 3) := by decide +kernel
theorem dX3_readItem_56 : decode cX3_readItem 56 = .ok (.aload_n 0, 1) := by decide +kernel
theorem dX3_readItem_57 : decode cX3_readItem 57 = .ok (.aload_n 1, 1) := by decide +kernel
theorem dX3_readItem_58 : decode cX3_readItem 58 = .ok (.invokevirtual 62, 3) := by decide +kernel
theorem dX3_readItem_61 : decode cX3_readItem 61 = .ok (.ireturn, 1) := by decide +kernel
theorem dX3_readItem_62 : decode cX3_readItem 62 = .ok (.aload_n 0, 1) := by decide +kernel
theorem dX3_readItem_63 : decode cX3_readItem 63 = .ok (.ldc 65, 2) := by decide +kernel
theorem dX3_readItem_65 : decode cX3_readItem 65 = .ok (.invokevirtual 48, 3) := by decide +kernel
theorem dX3_readItem_68 : decode cX3_readItem 68 = .ok (.ifCond .eq 15, 3) := by decide +kernel
theorem dX3_readItem_71 : decode cX3_readItem 71 = .ok (.aload_n 0, 1) := by decide +kernel
theorem dX3_readItem_72 : decode cX3_readItem 72 = .ok (.aload_n 1, 1) := by decide +kernel
theorem dX3_readItem_73 : decode cX3_readItem 73 = .ok (.invokevirtual 67, 3) := by decide +kernel
theorem dX3_readItem_76 : decode cX3_readItem 76 = .ok (.ifCond .eq 7, 3) := by decide +kernel
theorem dX3_readItem_79 : decode cX3_readItem 79 = .ok (.iconst 1, 1) := by decide +kernel
theorem dX3_readItem_80 : decode cX3_readItem 80 = .ok (.goto 4, 3) := by decide +kernel
theorem dX3_readItem_83 : decode cX3_readItem 83 = .ok (.iconst 0, 1) := by decide +kernel
theorem dX3_readItem_84 : decode cX3_readItem 84 = .ok (.ireturn, 1) := by decide +kernel
set_option maxRecDepth 20000 in
theorem ggX3_kindOfWord_X3_wordOf : GoodIn wsX3_kindOfWord wsX3_wordOf := goodIn_r _ [4] (by decide +kernel) (by decide +kernel)
set_option maxRecDepth 20000 in
theorem gX3_kindOfWord_X3_wordOf : GoodIn wsX3_kindOfWord (va_wsS RX3 72 yX3_wordOf wsX3_wordOf) := goodIn_app (goodIn_of _ (by decide +kernel)) ggX3_kindOfWord_X3_wordOf
set_option maxRecDepth 20000 in
theorem ggX3_kindOfWord_X3_isWord : GoodIn wsX3_kindOfWord wsX3_isWord := goodIn_r _ [8, 9, 10, 11, 12, 13, 14, 15, 16, 17, 18, 19, 20, 21, 22, 23, 24, 25, 26, 3, 27, 28, 29, 30, 31, 32, 33, 34, 35, 36, 37, 38, 39, 40, 41, 42, 43, 44, 45, 46, 47, 48, 49, 50, 51, 52, 53, 54, 55, 56, 57, 58, 59, 60, 61, 62, 63, 64, 65, 66, 67, 68, 69, 70, 71, 72] (by decide +kernel) (by decide +kernel)
set_option maxRecDepth 20000 in
theorem gX3_kindOfWord_X3_isWord : GoodIn wsX3_kindOfWord (wsV RX3 76 RX3 yX3_isWord wsX3_isWord) := goodIn_app (goodIn_of _ (by decide +kernel)) ggX3_kindOfWord_X3_isWord
theorem dX3_kindOfWord_0 : decode cX3_kindOfWord 0 = .ok (.iconst 0, 1) := by decide +kernel
theorem dX3_kindOfWord_1 : decode cX3_kindOfWord 1 = .ok (.istore_n 1, 1) := by decide +kernel
theorem dX3_kindOfWord_2 : decode cX3_kindOfWord 2 = .ok (.iload_n 1, 1) := by decide +kernel
theorem dX3_kindOfWord_3 : decode cX3_kindOfWord 3 = .ok (.bipush 7, 2) := by decide +kernel
theorem dX3_kindOfWord_5 : decode cX3_kindOfWord 5 = .ok (.if_icmp .ge 22, 3) := by decide +kernel
theorem dX3_kindOfWord_8 : decode cX3_kindOfWord 8 = .ok (.aload_n 0, 1) := by decide +kernel
theorem dX3_kindOfWord_9 : decode cX3_kindOfWord 9 = .ok (.iload_n 1, 1) := by decide +kernel
theorem dX3_kindOfWord_10 : decode cX3_kindOfWord 10 = .ok (.invokestatic 72, 3) := by decide +kernel
theorem dX3_kindOfWord_13 : decode cX3_kindOfWord 13 = .ok (.invokevirtual 76, 3) := by decide +kernel
theorem dX3_kindOfWord_16 : decode cX3_kindOfWord 16 = .ok (.ifCond .eq 5, 3) := by decide +kernel
theorem dX3_kindOfWord_19 : decode cX3_kindOfWord 19 = .ok (.iload_n 1, 1) := by decide +kernel
theorem dX3_kindOfWord_20 : decode cX3_kindOfWord 20 = .ok (.ireturn, 1) := by decide +kernel
theorem dX3_kindOfWord_21 : decode cX3_kindOfWord 21 = .ok (.iinc 1 1, 3) := by decide +kernel
theorem dX3_kindOfWord_24 : decode cX3_kindOfWord 24 = .ok (.goto (-22), 3) := by decide +kernel
theorem dX3_kindOfWord_27 : decode cX3_kindOfWord 27 = .ok (.iconst (-1), 1) := by decide +kernel
theorem dX3_kindOfWord_28 : decode cX3_kindOfWord 28 = .ok (.ireturn, 1) := by decide +kernel
theorem dX3_wordOf_0 : decode cX3_wordOf 0 = .ok (.iload_n 0, 1) := by decide +kernel
theorem dX3_wordOf_1 : decode cX3_wordOf 1 = .ok (.tableswitch 57 0 5 #[39, 42, 45, 48, 51, 54], 39) := by decide +kernel
theorem dX3_wordOf_40 : decode cX3_wordOf 40 = .ok (.ldc 79, 2) := by decide +kernel
theorem dX3_wordOf_42 : decode cX3_wordOf 42 = .ok (.areturn, 1) := by decide +kernel
theorem dX3_wordOf_43 : decode cX3_wordOf 43 = .ok (.ldc 81, 2) := by decide +kernel
theorem dX3_wordOf_45 : decode cX3_wordOf 45 = .ok (.areturn, 1) := by decide +kernel
theorem dX3_wordOf_46 : decode cX3_wordOf 46 = .ok (.ldc 83, 2) := by decide +kernel
theorem dX3_wordOf_48 : decode cX3_wordOf 48 = .ok (.areturn, 1) := by decide +kernel
theorem dX3_wordOf_49 : decode cX3_wordOf 49 = .ok (.ldc 85, 2) := by decide +kernel
theorem dX3_wordOf_51 : decode cX3_wordOf 51 = .ok (.areturn, 1) := by decide +kernel
theorem dX3_wordOf_52 : decode cX3_wordOf 52 = .ok (.ldc 87, 2) := by decide +kernel
theorem dX3_wordOf_54 : decode cX3_wordOf 54 = .ok (.areturn, 1) := by decide +kernel
theorem dX3_wordOf_55 : decode cX3_wordOf 55 = .ok (.ldc 89, 2) := by decide +kernel
theorem dX3_wordOf_57 : decode cX3_wordOf 57 = .ok (.areturn, 1) := by decide +kernel
theorem dX3_wordOf_58 : decode cX3_wordOf 58 = .ok (.ldc 91, 2) := by decide +kernel
theorem dX3_wordOf_60 : decode cX3_wordOf 60 = .ok (.areturn, 1) := by decide +kernel
set_option maxRecDepth 20000 in
theorem ggX3_readDeed_X0_isFull : GoodIn wsX3_readDeed wsX0_isFull := goodIn_r _ [6, 7, 104, 105, 106, 107, 108, 109, 110, 111, 112, 113, 114, 115, 116, 117, 118] (by decide +kernel) (by decide +kernel)
set_option maxRecDepth 20000 in
theorem gX3_readDeed_X0_isFull : GoodIn wsX3_readDeed (wsV RX3 93 RX0 yX0_isFull wsX0_isFull) := goodIn_app (goodIn_of _ (by decide +kernel)) ggX3_readDeed_X0_isFull
set_option maxRecDepth 20000 in
theorem ggX3_readDeed_X3_step : GoodIn wsX3_readDeed wsX3_step := goodIn_r _ [12, 13, 14, 15, 16, 17, 18, 19, 20, 21, 22, 23, 24, 11, 25, 26, 27, 28, 29, 119, 120, 121, 122, 123, 124] (by decide +kernel) (by decide +kernel)
set_option maxRecDepth 20000 in
theorem gX3_readDeed_X3_step : GoodIn wsX3_readDeed (wsV RX3 31 RX3 yX3_step wsX3_step) := goodIn_app (goodIn_of _ (by decide +kernel)) ggX3_readDeed_X3_step
set_option maxRecDepth 20000 in
theorem ggX3_readDeed_X3_takeNumber : GoodIn wsX3_readDeed wsX3_takeNumber := goodIn_r _ [33, 16, 17, 34, 35, 36, 8, 9, 10, 11, 12, 13, 14, 15, 18, 19, 20, 21, 22, 23, 24, 25, 26, 27, 28, 29, 119, 120, 121, 122, 123, 124] (by decide +kernel) (by decide +kernel)
set_option maxRecDepth 20000 in
theorem gX3_readDeed_X3_takeNumber : GoodIn wsX3_readDeed (wsV RX3 99 RX3 yX3_takeNumber wsX3_takeNumber) := goodIn_app (goodIn_of _ (by decide +kernel)) ggX3_readDeed_X3_takeNumber
set_option maxRecDepth 20000 in
theorem ggX3_readDeed_X3_takesWord : GoodIn wsX3_readDeed wsX3_takesWord := goodIn_r _ [40, 41, 42, 43, 11, 44, 16, 13, 15, 45, 46, 47, 48, 49, 50, 51, 52, 53, 54, 55, 56, 22, 23, 24, 25, 14, 26, 57, 58, 59, 60, 61, 62, 63, 64, 65, 66, 67, 68, 69, 70, 71, 72, 73, 74, 75, 76, 77, 78, 79, 80, 81, 82, 83, 84, 85, 86, 87, 88, 89, 90, 91, 92, 93, 8, 9, 10, 12, 17, 18, 19, 20, 21, 27, 28, 29, 119, 120, 121, 122, 123, 124] (by decide +kernel) (by decide +kernel)
set_option maxRecDepth 20000 in
theorem gX3_readDeed_X3_takesWord : GoodIn wsX3_readDeed (wsV RX3 48 RX3 yX3_takesWord wsX3_takesWord) := goodIn_app (goodIn_of _ (by decide +kernel)) ggX3_readDeed_X3_takesWord
set_option maxRecDepth 20000 in
theorem ggX3_readDeed_X0_addDeed : GoodIn wsX3_readDeed wsX0_addDeed := goodIn_r _ [97, 7, 98, 99, 100, 101, 102, 103, 3, 4, 5, 6, 104, 105, 106, 107, 108, 109, 110, 111, 112, 113, 114, 115, 116, 117, 118] (by decide +kernel) (by decide +kernel)
set_option maxRecDepth 20000 in
theorem gX3_readDeed_X0_addDeed : GoodIn wsX3_readDeed (wsV RX3 110 RX0 yX0_addDeed wsX0_addDeed) := goodIn_app (goodIn_of _ (by decide +kernel)) ggX3_readDeed_X0_addDeed
theorem dX3_readDeed_0 : decode cX3_readDeed 0 = .ok (.aload_n 1, 1) := by decide +kernel
theorem dX3_readDeed_1 : decode cX3_readDeed 1 = .ok (.invokevirtual 93, 3) := by decide +kernel
theorem dX3_readDeed_4 : decode cX3_readDeed 4 = .ok (.ifCond .eq 5, 3) := by decide +kernel
theorem dX3_readDeed_7 : decode cX3_readDeed 7 = .ok (.iconst 0, 1) := by decide +kernel
theorem dX3_readDeed_8 : decode cX3_readDeed 8 = .ok (.ireturn, 1) := by decide +kernel
theorem dX3_readDeed_9 : decode cX3_readDeed 9 = .ok (.aload_n 0, 1) := by decide +kernel
theorem dX3_readDeed_10 : decode cX3_readDeed 10 = .ok (.invokevirtual 31, 3) := by decide +kernel
theorem dX3_readDeed_13 : decode cX3_readDeed 13 = .ok (.aload_n 0, 1) := by decide +kernel
theorem dX3_readDeed_14 : decode cX3_readDeed 14 = .ok (.iconst 0, 1) := by decide +kernel
theorem dX3_readDeed_15 : decode cX3_readDeed 15 = .ok (.iconst 5, 1) := by decide +kernel
theorem dX3_readDeed_16 : decode cX3_readDeed 16 = .ok (.invokevirtual 99, 3) := by decide +kernel
theorem dX3_readDeed_19 : decode cX3_readDeed 19 = .ok (.istore_n 3, 1) := by decide +kernel
theorem dX3_readDeed_20 : decode cX3_readDeed 20 = .ok (.iload_n 3, 1) := by decide +kernel
theorem dX3_readDeed_21 : decode cX3_readDeed 21 = .ok (.iconst (-1), 1) := by decide +kernel
theorem dX3_readDeed_22 : decode cX3_readDeed 22 = .ok (.if_icmp .ne 5, 3) := by decide +kernel
theorem dX3_readDeed_25 : decode cX3_readDeed 25 = .ok (.iconst 0, 1) := by decide +kernel
theorem dX3_readDeed_26 : decode cX3_readDeed 26 = .ok (.ireturn, 1) := by decide +kernel
theorem dX3_readDeed_27 : decode cX3_readDeed 27 = .ok (.aload_n 0, 1) := by decide +kernel
theorem dX3_readDeed_28 : decode cX3_readDeed 28 = .ok (.ldc 103, 2) := by decide +kernel
theorem dX3_readDeed_30 : decode cX3_readDeed 30 = .ok (.invokevirtual 48, 3) := by decide +kernel
theorem dX3_readDeed_33 : decode cX3_readDeed 33 = .ok (.ifCond .eq 13, 3) := by decide +kernel
theorem dX3_readDeed_36 : decode cX3_readDeed 36 = .ok (.aload_n 0, 1) := by decide +kernel
theorem dX3_readDeed_37 : decode cX3_readDeed 37 = .ok (.iconst 1, 1) := by decide +kernel
theorem dX3_readDeed_38 : decode cX3_readDeed 38 = .ok (.bipush 99, 2) := by decide +kernel
theorem dX3_readDeed_40 : decode cX3_readDeed 40 = .ok (.invokevirtual 99, 3) := by decide +kernel
theorem dX3_readDeed_43 : decode cX3_readDeed 43 = .ok (.goto 5, 3) := by decide +kernel
theorem dX3_readDeed_46 : decode cX3_readDeed 46 = .ok (.bipush 40, 2) := by decide +kernel
theorem dX3_readDeed_48 : decode cX3_readDeed 48 = .ok (.istore 4, 2) := by decide +kernel
theorem dX3_readDeed_50 : decode cX3_readDeed 50 = .ok (.iload 4, 2) := by decide +kernel
theorem dX3_readDeed_52 : decode cX3_readDeed 52 = .ok (.iconst (-1), 1) := by decide +kernel
theorem dX3_readDeed_53 : decode cX3_readDeed 53 = .ok (.if_icmp .ne 5, 3) := by decide +kernel
theorem dX3_readDeed_56 : decode cX3_readDeed 56 = .ok (.iconst 0, 1) := by decide +kernel
theorem dX3_readDeed_57 : decode cX3_readDeed 57 = .ok (.ireturn, 1) := by decide +kernel
theorem dX3_readDeed_58 : decode cX3_readDeed 58 = .ok (.iconst (-1), 1) := by decide +kernel
theorem dX3_readDeed_59 : decode cX3_readDeed 59 = .ok (.istore 5, 2) := by decide +kernel
theorem dX3_readDeed_61 : decode cX3_readDeed 61 = .ok (.aload_n 0, 1) := by decide +kernel
theorem dX3_readDeed_62 : decode cX3_readDeed 62 = .ok (.ldc 105, 2) := by decide +kernel
theorem dX3_readDeed_64 : decode cX3_readDeed 64 = .ok (.invokevirtual 48, 3) := by decide +kernel
theorem dX3_readDeed_67 : decode cX3_readDeed 67 = .ok (.ifCond .eq 24, 3) := by decide +kernel
theorem dX3_readDeed_70 : decode cX3_readDeed 70 = .ok (.aload_n 0, 1) := by decide +kernel
theorem dX3_readDeed_71 : decode cX3_readDeed 71 = .ok (.iconst 0, 1) := by decide +kernel
theorem dX3_readDeed_72 : decode cX3_readDeed 72 = .ok (.aload_n 1, 1) := by decide +kernel
theorem dX3_readDeed_73 : decode cX3_readDeed 73 = .ok (.getfield 107, 3) := by decide +kernel
theorem dX3_readDeed_76 : decode cX3_readDeed 76 = .ok (.iconst 1, 1) := by decide +kernel
theorem dX3_readDeed_77 : decode cX3_readDeed 77 = .ok (.isub, 1) := by decide +kernel
theorem dX3_readDeed_78 : decode cX3_readDeed 78 = .ok (.invokevirtual 99, 3) := by decide +kernel
theorem dX3_readDeed_81 : decode cX3_readDeed 81 = .ok (.istore 5, 2) := by decide +kernel
theorem dX3_readDeed_83 : decode cX3_readDeed 83 = .ok (.iload 5, 2) := by decide +kernel
theorem dX3_readDeed_85 : decode cX3_readDeed 85 = .ok (.iconst (-1), 1) := by decide +kernel
theorem dX3_readDeed_86 : decode cX3_readDeed 86 = .ok (.if_icmp .ne 5, 3) := by decide +kernel
theorem dX3_readDeed_89 : decode cX3_readDeed 89 = .ok (.iconst 0, 1) := by decide +kernel
theorem dX3_readDeed_90 : decode cX3_readDeed 90 = .ok (.ireturn, 1) := by decide +kernel
theorem dX3_readDeed_91 : decode cX3_readDeed 91 = .ok (.aload_n 1, 1) := by decide +kernel
theorem dX3_readDeed_92 : decode cX3_readDeed 92 = .ok (.iload_n 2, 1) := by decide +kernel
theorem dX3_readDeed_93 : decode cX3_readDeed 93 = .ok (.iload_n 3, 1) := by decide +kernel
theorem dX3_readDeed_94 : decode cX3_readDeed 94 = .ok (.iload 4, 2) := by decide +kernel
theorem dX3_readDeed_96 : decode cX3_readDeed 96 = .ok (.iload 5, 2) := by decide +kernel
theorem dX3_readDeed_98 : decode cX3_readDeed 98 = .ok (.invokevirtual 110, 3) := by decide +kernel
theorem dX3_readDeed_101 : decode cX3_readDeed 101 = .ok (.pop, 1) := by decide +kernel
theorem dX3_readDeed_102 : decode cX3_readDeed 102 = .ok (.iconst 1, 1) := by decide +kernel
theorem dX3_readDeed_103 : decode cX3_readDeed 103 = .ok (.ireturn, 1) := by decide +kernel
set_option maxRecDepth 20000 in
theorem ggX3_readShutter_X3_takeNumber : GoodIn wsX3_readShutter wsX3_takeNumber := goodIn_r _ [5, 6, 7, 8, 9, 10, 11, 12, 13, 4, 14, 15, 16, 17, 18, 19, 20, 21, 22, 23, 24, 25, 26, 27, 28, 29, 97, 98, 99, 100, 101, 102] (by decide +kernel) (by decide +kernel)
set_option maxRecDepth 20000 in
theorem gX3_readShutter_X3_takeNumber : GoodIn wsX3_readShutter (wsV RX3 99 RX3 yX3_takeNumber wsX3_takeNumber) := goodIn_app (goodIn_of _ (by decide +kernel)) ggX3_readShutter_X3_takeNumber
set_option maxRecDepth 20000 in
theorem ggX3_readShutter_X3_takesWord : GoodIn wsX3_readShutter wsX3_takesWord := goodIn_r _ [33, 34, 35, 36, 4, 37, 6, 15, 17, 38, 39, 40, 41, 42, 43, 44, 45, 46, 47, 48, 49, 22, 23, 24, 25, 16, 26, 50, 51, 52, 53, 54, 55, 56, 57, 58, 59, 60, 61, 62, 63, 64, 65, 66, 67, 68, 69, 70, 71, 72, 73, 74, 75, 76, 77, 78, 79, 80, 81, 82, 83, 84, 85, 86, 11, 12, 13, 14, 7, 18, 19, 20, 21, 27, 28, 29, 97, 98, 99, 100, 101, 102] (by decide +kernel) (by decide +kernel)
set_option maxRecDepth 20000 in
theorem gX3_readShutter_X3_takesWord : GoodIn wsX3_readShutter (wsV RX3 48 RX3 yX3_takesWord wsX3_takesWord) := goodIn_app (goodIn_of _ (by decide +kernel)) ggX3_readShutter_X3_takesWord
set_option maxRecDepth 20000 in
theorem ggX3_readShutter_X0_setShutter : GoodIn wsX3_readShutter wsX0_setShutter := goodIn_r _ [91, 92, 93, 9, 94, 95, 96, 103, 104, 105, 106, 107, 108, 109, 110, 111, 112, 113, 114, 115, 116, 117] (by decide +kernel) (by decide +kernel)
set_option maxRecDepth 20000 in
theorem gX3_readShutter_X0_setShutter : GoodIn wsX3_readShutter (wsV RX3 118 RX0 yX0_setShutter wsX0_setShutter) := goodIn_app (goodIn_of _ (by decide +kernel)) ggX3_readShutter_X0_setShutter
theorem dX3_readShutter_0 : decode cX3_readShutter 0 = .ok (.aload_n 0, 1) := by decide +kernel
theorem dX3_readShutter_1 : decode cX3_readShutter 1 = .ok (.iconst 0, 1) := by decide +kernel
theorem dX3_readShutter_2 : decode cX3_readShutter 2 = .ok (.iconst 5, 1) := by decide +kernel
theorem dX3_readShutter_3 : decode cX3_readShutter 3 = .ok (.invokevirtual 99, 3) := by decide +kernel
theorem dX3_readShutter_6 : decode cX3_readShutter 6 = .ok (.istore_n 2, 1) := by decide +kernel
theorem dX3_readShutter_7 : decode cX3_readShutter 7 = .ok (.iload_n 2, 1) := by decide +kernel
theorem dX3_readShutter_8 : decode cX3_readShutter 8 = .ok (.iconst (-1), 1) := by decide +kernel
theorem dX3_readShutter_9 : decode cX3_readShutter 9 = .ok (.if_icmp .ne 5, 3) := by decide +kernel
theorem dX3_readShutter_12 : decode cX3_readShutter 12 = .ok (.iconst 0, 1) := by decide +kernel
theorem dX3_readShutter_13 : decode cX3_readShutter 13 = .ok (.ireturn, 1) := by decide +kernel
theorem dX3_readShutter_14 : decode cX3_readShutter 14 = .ok (.aload_n 0, 1) := by decide +kernel
theorem dX3_readShutter_15 : decode cX3_readShutter 15 = .ok (.ldc 114, 2) := by decide +kernel
theorem dX3_readShutter_17 : decode cX3_readShutter 17 = .ok (.invokevirtual 48, 3) := by decide +kernel
theorem dX3_readShutter_20 : decode cX3_readShutter 20 = .ok (.istore_n 3, 1) := by decide +kernel
theorem dX3_readShutter_21 : decode cX3_readShutter 21 = .ok (.iload_n 3, 1) := by decide +kernel
theorem dX3_readShutter_22 : decode cX3_readShutter 22 = .ok (.ifCond .ne 14, 3) := by decide +kernel
theorem dX3_readShutter_25 : decode cX3_readShutter 25 = .ok (.aload_n 0, 1) := by decide +kernel
theorem dX3_readShutter_26 : decode cX3_readShutter 26 = .ok (.ldc 116, 2) := by decide +kernel
theorem dX3_readShutter_28 : decode cX3_readShutter 28 = .ok (.invokevirtual 48, 3) := by decide +kernel
theorem dX3_readShutter_31 : decode cX3_readShutter 31 = .ok (.ifCond .ne 5, 3) := by decide +kernel
theorem dX3_readShutter_34 : decode cX3_readShutter 34 = .ok (.iconst 0, 1) := by decide +kernel
theorem dX3_readShutter_35 : decode cX3_readShutter 35 = .ok (.ireturn, 1) := by decide +kernel
theorem dX3_readShutter_36 : decode cX3_readShutter 36 = .ok (.aload_n 1, 1) := by decide +kernel
theorem dX3_readShutter_37 : decode cX3_readShutter 37 = .ok (.iload_n 2, 1) := by decide +kernel
theorem dX3_readShutter_38 : decode cX3_readShutter 38 = .ok (.iload_n 3, 1) := by decide +kernel
theorem dX3_readShutter_39 : decode cX3_readShutter 39 = .ok (.invokevirtual 118, 3) := by decide +kernel
theorem dX3_readShutter_42 : decode cX3_readShutter 42 = .ok (.iconst 1, 1) := by decide +kernel
theorem dX3_readShutter_43 : decode cX3_readShutter 43 = .ok (.ireturn, 1) := by decide +kernel
set_option maxRecDepth 20000 in
theorem ggX3_readIce_X3_takeNumber : GoodIn wsX3_readIce wsX3_takeNumber := goodIn_r _ [6, 7, 8, 9, 10, 11, 12, 13, 14, 5, 15, 16, 17, 18, 19, 20, 21, 22, 23, 24, 25, 26, 27, 28, 29, 30, 46, 47, 48, 49, 50, 51] (by decide +kernel) (by decide +kernel)
set_option maxRecDepth 20000 in
theorem gX3_readIce_X3_takeNumber : GoodIn wsX3_readIce (wsV RX3 99 RX3 yX3_takeNumber wsX3_takeNumber) := goodIn_app (goodIn_of _ (by decide +kernel)) ggX3_readIce_X3_takeNumber
theorem dX3_readIce_0 : decode cX3_readIce 0 = .ok (.aload_n 0, 1) := by decide +kernel
theorem dX3_readIce_1 : decode cX3_readIce 1 = .ok (.iconst 0, 1) := by decide +kernel
theorem dX3_readIce_2 : decode cX3_readIce 2 = .ok (.iconst 5, 1) := by decide +kernel
theorem dX3_readIce_3 : decode cX3_readIce 3 = .ok (.invokevirtual 99, 3) := by decide +kernel
theorem dX3_readIce_6 : decode cX3_readIce 6 = .ok (.istore_n 2, 1) := by decide +kernel
theorem dX3_readIce_7 : decode cX3_readIce 7 = .ok (.iload_n 2, 1) := by decide +kernel
theorem dX3_readIce_8 : decode cX3_readIce 8 = .ok (.iconst (-1), 1) := by decide +kernel
theorem dX3_readIce_9 : decode cX3_readIce 9 = .ok (.if_icmp .ne 5, 3) := by decide +kernel
theorem dX3_readIce_12 : decode cX3_readIce 12 = .ok (.iconst 0, 1) := by decide +kernel
theorem dX3_readIce_13 : decode cX3_readIce 13 = .ok (.ireturn, 1) := by decide +kernel
theorem dX3_readIce_14 : decode cX3_readIce 14 = .ok (.aload_n 0, 1) := by decide +kernel
theorem dX3_readIce_15 : decode cX3_readIce 15 = .ok (.iconst 0, 1) := by decide +kernel
theorem dX3_readIce_16 : decode cX3_readIce 16 = .ok (.bipush 99, 2) := by decide +kernel
theorem dX3_readIce_18 : decode cX3_readIce 18 = .ok (.invokevirtual 99, 3) := by decide +kernel
theorem dX3_readIce_21 : decode cX3_readIce 21 = .ok (.istore_n 3, 1) := by decide +kernel
theorem dX3_readIce_22 : decode cX3_readIce 22 = .ok (.iload_n 3, 1) := by decide +kernel
theorem dX3_readIce_23 : decode cX3_readIce 23 = .ok (.iconst (-1), 1) := by decide +kernel
theorem dX3_readIce_24 : decode cX3_readIce 24 = .ok (.if_icmp .ne 5, 3) := by decide +kernel
theorem dX3_readIce_27 : decode cX3_readIce 27 = .ok (.iconst 0, 1) := by decide +kernel
theorem dX3_readIce_28 : decode cX3_readIce 28 = .ok (.ireturn, 1) := by decide +kernel
theorem dX3_readIce_29 : decode cX3_readIce 29 = .ok (.aload_n 1, 1) := by decide +kernel
theorem dX3_readIce_30 : decode cX3_readIce 30 = .ok (.getfield 122, 3) := by decide +kernel
theorem dX3_readIce_33 : decode cX3_readIce 33 = .ok (.iload_n 2, 1) := by decide +kernel
theorem dX3_readIce_34 : decode cX3_readIce 34 = .ok (.iload_n 3, 1) := by decide +kernel
theorem dX3_readIce_35 : decode cX3_readIce 35 = .ok (.iastore, 1) := by decide +kernel
theorem dX3_readIce_36 : decode cX3_readIce 36 = .ok (.iconst 1, 1) := by decide +kernel
theorem dX3_readIce_37 : decode cX3_readIce 37 = .ok (.ireturn, 1) := by decide +kernel
set_option maxRecDepth 20000 in
theorem ggX3_readCandle_X3_takeNumber : GoodIn wsX3_readCandle wsX3_takeNumber := goodIn_r _ [5, 6, 7, 8, 9, 10, 11, 12, 13, 4, 14, 15, 16, 17, 18, 19, 20, 21, 22, 23, 24, 25, 26, 27, 28, 29, 97, 98, 99, 100, 101, 102] (by decide +kernel) (by decide +kernel)
set_option maxRecDepth 20000 in
theorem gX3_readCandle_X3_takeNumber : GoodIn wsX3_readCandle (wsV RX3 99 RX3 yX3_takeNumber wsX3_takeNumber) := goodIn_app (goodIn_of _ (by decide +kernel)) ggX3_readCandle_X3_takeNumber
set_option maxRecDepth 20000 in
theorem ggX3_readCandle_X3_takesWord : GoodIn wsX3_readCandle wsX3_takesWord := goodIn_r _ [33, 34, 35, 36, 4, 37, 6, 15, 17, 38, 39, 40, 41, 42, 43, 44, 45, 46, 47, 48, 49, 22, 23, 24, 25, 16, 26, 50, 51, 52, 53, 54, 55, 56, 57, 58, 59, 60, 61, 62, 63, 64, 65, 66, 67, 68, 69, 70, 71, 72, 73, 74, 75, 76, 77, 78, 79, 80, 81, 82, 83, 84, 85, 86, 11, 12, 13, 14, 7, 18, 19, 20, 21, 27, 28, 29, 97, 98, 99, 100, 101, 102] (by decide +kernel) (by decide +kernel)
set_option maxRecDepth 20000 in
theorem gX3_readCandle_X3_takesWord : GoodIn wsX3_readCandle (wsV RX3 48 RX3 yX3_takesWord wsX3_takesWord) := goodIn_app (goodIn_of _ (by decide +kernel)) ggX3_readCandle_X3_takesWord
set_option maxRecDepth 20000 in
theorem ggX3_readCandle_X0_setCandle : GoodIn wsX3_readCandle wsX0_setCandle := goodIn_r _ [91, 92, 93, 9, 94, 95, 96, 103, 104, 105, 106, 107, 108, 109, 110, 111, 112, 113, 114, 115, 116, 117] (by decide +kernel) (by decide +kernel)
set_option maxRecDepth 20000 in
theorem gX3_readCandle_X0_setCandle : GoodIn wsX3_readCandle (wsV RX3 128 RX0 yX0_setCandle wsX0_setCandle) := goodIn_app (goodIn_of _ (by decide +kernel)) ggX3_readCandle_X0_setCandle
theorem dX3_readCandle_0 : decode cX3_readCandle 0 = .ok (.aload_n 0, 1) := by decide +kernel
theorem dX3_readCandle_1 : decode cX3_readCandle 1 = .ok (.iconst 0, 1) := by decide +kernel
theorem dX3_readCandle_2 : decode cX3_readCandle 2 = .ok (.iconst 5, 1) := by decide +kernel
theorem dX3_readCandle_3 : decode cX3_readCandle 3 = .ok (.invokevirtual 99, 3) := by decide +kernel
theorem dX3_readCandle_6 : decode cX3_readCandle 6 = .ok (.istore_n 2, 1) := by decide +kernel
theorem dX3_readCandle_7 : decode cX3_readCandle 7 = .ok (.iload_n 2, 1) := by decide +kernel
theorem dX3_readCandle_8 : decode cX3_readCandle 8 = .ok (.iconst (-1), 1) := by decide +kernel
theorem dX3_readCandle_9 : decode cX3_readCandle 9 = .ok (.if_icmp .ne 5, 3) := by decide +kernel
theorem dX3_readCandle_12 : decode cX3_readCandle 12 = .ok (.iconst 0, 1) := by decide +kernel
theorem dX3_readCandle_13 : decode cX3_readCandle 13 = .ok (.ireturn, 1) := by decide +kernel
theorem dX3_readCandle_14 : decode cX3_readCandle 14 = .ok (.aload_n 0, 1) := by decide +kernel
theorem dX3_readCandle_15 : decode cX3_readCandle 15 = .ok (.ldc 124, 2) := by decide +kernel
theorem dX3_readCandle_17 : decode cX3_readCandle 17 = .ok (.invokevirtual 48, 3) := by decide +kernel
theorem dX3_readCandle_20 : decode cX3_readCandle 20 = .ok (.istore_n 3, 1) := by decide +kernel
theorem dX3_readCandle_21 : decode cX3_readCandle 21 = .ok (.iload_n 3, 1) := by decide +kernel
theorem dX3_readCandle_22 : decode cX3_readCandle 22 = .ok (.ifCond .ne 14, 3) := by decide +kernel
theorem dX3_readCandle_25 : decode cX3_readCandle 25 = .ok (.aload_n 0, 1) := by decide +kernel
theorem dX3_readCandle_26 : decode cX3_readCandle 26 = .ok (.ldc 126, 2) := by decide +kernel
theorem dX3_readCandle_28 : decode cX3_readCandle 28 = .ok (.invokevirtual 48, 3) := by decide +kernel
theorem dX3_readCandle_31 : decode cX3_readCandle 31 = .ok (.ifCond .ne 5, 3) := by decide +kernel
theorem dX3_readCandle_34 : decode cX3_readCandle 34 = .ok (.iconst 0, 1) := by decide +kernel
theorem dX3_readCandle_35 : decode cX3_readCandle 35 = .ok (.ireturn, 1) := by decide +kernel
theorem dX3_readCandle_36 : decode cX3_readCandle 36 = .ok (.aload_n 1, 1) := by decide +kernel
theorem dX3_readCandle_37 : decode cX3_readCandle 37 = .ok (.iload_n 2, 1) := by decide +kernel
theorem dX3_readCandle_38 : decode cX3_readCandle 38 = .ok (.iload_n 3, 1) := by decide +kernel
theorem dX3_readCandle_39 : decode cX3_readCandle 39 = .ok (.invokevirtual 128, 3) := by decide +kernel
theorem dX3_readCandle_42 : decode cX3_readCandle 42 = .ok (.iconst 1, 1) := by decide +kernel
theorem dX3_readCandle_43 : decode cX3_readCandle 43 = .ok (.ireturn, 1) := by decide +kernel
set_option maxRecDepth 20000 in
theorem ggX3_readSummer_X3_takeNumber : GoodIn wsX3_readSummer wsX3_takeNumber := goodIn_r _ [6, 7, 8, 9, 10, 11, 12, 13, 14, 5, 15, 16, 17, 18, 19, 20, 21, 22, 23, 24, 25, 26, 27, 28, 29, 30, 46, 47, 48, 49, 50, 51] (by decide +kernel) (by decide +kernel)
set_option maxRecDepth 20000 in
theorem gX3_readSummer_X3_takeNumber : GoodIn wsX3_readSummer (wsV RX3 99 RX3 yX3_takeNumber wsX3_takeNumber) := goodIn_app (goodIn_of _ (by decide +kernel)) ggX3_readSummer_X3_takeNumber
theorem dX3_readSummer_0 : decode cX3_readSummer 0 = .ok (.aload_n 0, 1) := by decide +kernel
theorem dX3_readSummer_1 : decode cX3_readSummer 1 = .ok (.iconst 0, 1) := by decide +kernel
theorem dX3_readSummer_2 : decode cX3_readSummer 2 = .ok (.bipush 40, 2) := by decide +kernel
theorem dX3_readSummer_4 : decode cX3_readSummer 4 = .ok (.invokevirtual 99, 3) := by decide +kernel
theorem dX3_readSummer_7 : decode cX3_readSummer 7 = .ok (.istore_n 2, 1) := by decide +kernel
theorem dX3_readSummer_8 : decode cX3_readSummer 8 = .ok (.iload_n 2, 1) := by decide +kernel
theorem dX3_readSummer_9 : decode cX3_readSummer 9 = .ok (.iconst (-1), 1) := by decide +kernel
theorem dX3_readSummer_10 : decode cX3_readSummer 10 = .ok (.if_icmp .ne 5, 3) := by decide +kernel
theorem dX3_readSummer_13 : decode cX3_readSummer 13 = .ok (.iconst 0, 1) := by decide +kernel
theorem dX3_readSummer_14 : decode cX3_readSummer 14 = .ok (.ireturn, 1) := by decide +kernel
theorem dX3_readSummer_15 : decode cX3_readSummer 15 = .ok (.aload_n 1, 1) := by decide +kernel
theorem dX3_readSummer_16 : decode cX3_readSummer 16 = .ok (.iload_n 2, 1) := by decide +kernel
theorem dX3_readSummer_17 : decode cX3_readSummer 17 = .ok (.putfield 131, 3) := by decide +kernel
theorem dX3_readSummer_20 : decode cX3_readSummer 20 = .ok (.iconst 1, 1) := by decide +kernel
theorem dX3_readSummer_21 : decode cX3_readSummer 21 = .ok (.ireturn, 1) := by decide +kernel
set_option maxRecDepth 20000 in
theorem ggX3_takeNumber_X4_isWithin : GoodIn wsX3_takeNumber wsX4_isWithin := goodIn_r _ [5] (by decide +kernel) (by decide +kernel)
set_option maxRecDepth 20000 in
theorem gX3_takeNumber_X4_isWithin_n133 : GoodIn wsX3_takeNumber (wsX4_isWithin) := ggX3_takeNumber_X4_isWithin
set_option maxRecDepth 20000 in
theorem ggX3_takeNumber_X3_step : GoodIn wsX3_takeNumber wsX3_step := goodIn_r _ [10, 11, 12, 13, 1, 2, 14, 15, 16, 17, 18, 19, 20, 9, 21, 22, 23, 24, 25, 26, 27, 28, 29, 30, 31] (by decide +kernel) (by decide +kernel)
set_option maxRecDepth 20000 in
theorem gX3_takeNumber_X3_step : GoodIn wsX3_takeNumber (wsV RX3 31 RX3 yX3_step wsX3_step) := goodIn_app (goodIn_of _ (by decide +kernel)) ggX3_takeNumber_X3_step
theorem dX3_takeNumber_0 : decode cX3_takeNumber 0 = .ok (.aload_n 0, 1) := by decide +kernel
theorem dX3_takeNumber_1 : decode cX3_takeNumber 1 = .ok (.getfield 25, 3) := by decide +kernel
theorem dX3_takeNumber_4 : decode cX3_takeNumber 4 = .ok (.iconst 2, 1) := by decide +kernel
theorem dX3_takeNumber_5 : decode cX3_takeNumber 5 = .ok (.if_icmp .ne 15, 3) := by decide +kernel
theorem dX3_takeNumber_8 : decode cX3_takeNumber 8 = .ok (.aload_n 0, 1) := by decide +kernel
theorem dX3_takeNumber_9 : decode cX3_takeNumber 9 = .ok (.getfield 28, 3) := by decide +kernel
theorem dX3_takeNumber_12 : decode cX3_takeNumber 12 = .ok (.iload_n 1, 1) := by decide +kernel
theorem dX3_takeNumber_13 : decode cX3_takeNumber 13 = .ok (.iload_n 2, 1) := by decide +kernel
theorem dX3_takeNumber_14 : decode cX3_takeNumber 14 = .ok (.invokestatic 133, 3) := by decide +kernel
theorem dX3_takeNumber_17 : decode cX3_takeNumber 17 = .ok (.ifCond .ne 5, 3) := by decide +kernel
theorem dX3_takeNumber_20 : decode cX3_takeNumber 20 = .ok (.iconst (-1), 1) := by decide +kernel
theorem dX3_takeNumber_21 : decode cX3_takeNumber 21 = .ok (.ireturn, 1) := by decide +kernel
theorem dX3_takeNumber_22 : decode cX3_takeNumber 22 = .ok (.aload_n 0, 1) := by decide +kernel
theorem dX3_takeNumber_23 : decode cX3_takeNumber 23 = .ok (.getfield 28, 3) := by decide +kernel
theorem dX3_takeNumber_26 : decode cX3_takeNumber 26 = .ok (.istore_n 3, 1) := by decide +kernel
theorem dX3_takeNumber_27 : decode cX3_takeNumber 27 = .ok (.aload_n 0, 1) := by decide +kernel
theorem dX3_takeNumber_28 : decode cX3_takeNumber 28 = .ok (.invokevirtual 31, 3) := by decide +kernel
theorem dX3_takeNumber_31 : decode cX3_takeNumber 31 = .ok (.iload_n 3, 1) := by decide +kernel
theorem dX3_takeNumber_32 : decode cX3_takeNumber 32 = .ok (.ireturn, 1) := by decide +kernel
set_option maxRecDepth 20000 in
theorem ggX3_takesWord_X3_isWord : GoodIn wsX3_takesWord wsX3_isWord := goodIn_r _ [5, 6, 7, 8, 9, 10, 11, 12, 13, 14, 15, 16, 17, 18, 19, 20, 21, 22, 23, 4, 24, 25, 26, 27, 28, 29, 30, 31, 32, 33, 34, 35, 36, 37, 38, 39, 40, 41, 42, 43, 44, 45, 46, 47, 48, 49, 50, 51, 52, 53, 54, 55, 56, 57, 58, 59, 60, 61, 62, 63, 76, 77, 78, 79, 80, 81] (by decide +kernel) (by decide +kernel)
set_option maxRecDepth 20000 in
theorem gX3_takesWord_X3_isWord : GoodIn wsX3_takesWord (wsV RX3 76 RX3 yX3_isWord wsX3_isWord) := goodIn_app (goodIn_of _ (by decide +kernel)) ggX3_takesWord_X3_isWord
set_option maxRecDepth 20000 in
theorem ggX3_takesWord_X3_step : GoodIn wsX3_takesWord wsX3_step := goodIn_r _ [67, 7, 25, 8, 6, 68, 69, 70, 71, 72, 21, 22, 23, 4, 24, 26, 73, 74, 75, 76, 77, 78, 79, 80, 81] (by decide +kernel) (by decide +kernel)
set_option maxRecDepth 20000 in
theorem gX3_takesWord_X3_step : GoodIn wsX3_takesWord (wsV RX3 31 RX3 yX3_step wsX3_step) := goodIn_app (goodIn_of _ (by decide +kernel)) ggX3_takesWord_X3_step
theorem dX3_takesWord_0 : decode cX3_takesWord 0 = .ok (.aload_n 0, 1) := by decide +kernel
theorem dX3_takesWord_1 : decode cX3_takesWord 1 = .ok (.aload_n 1, 1) := by decide +kernel
theorem dX3_takesWord_2 : decode cX3_takesWord 2 = .ok (.invokevirtual 76, 3) := by decide +kernel
theorem dX3_takesWord_5 : decode cX3_takesWord 5 = .ok (.istore_n 2, 1) := by decide +kernel
theorem dX3_takesWord_6 : decode cX3_takesWord 6 = .ok (.iload_n 2, 1) := by decide +kernel
theorem dX3_takesWord_7 : decode cX3_takesWord 7 = .ok (.ifCond .eq 7, 3) := by decide +kernel
theorem dX3_takesWord_10 : decode cX3_takesWord 10 = .ok (.aload_n 0, 1) := by decide +kernel
theorem dX3_takesWord_11 : decode cX3_takesWord 11 = .ok (.invokevirtual 31, 3) := by decide +kernel
theorem dX3_takesWord_14 : decode cX3_takesWord 14 = .ok (.iload_n 2, 1) := by decide +kernel
theorem dX3_takesWord_15 : decode cX3_takesWord 15 = .ok (.ireturn, 1) := by decide +kernel
set_option maxRecDepth 20000 in
theorem ggX3_isWord_J0_length_8abf5 : GoodIn wsX3_isWord wsJ0_length_8abf5 := goodIn_r _ [8, 9, 10, 11, 12, 7, 13, 14, 15] (by decide +kernel) (by decide +kernel)
set_option maxRecDepth 20000 in
theorem gX3_isWord_J0_length_8abf5 : GoodIn wsX3_isWord (wsV RX3 137 RJ0 yJ0_length_8abf5 wsJ0_length_8abf5) := goodIn_app (goodIn_of _ (by decide +kernel)) ggX3_isWord_J0_length_8abf5
set_option maxRecDepth 20000 in
theorem ggX3_isWord_X3_byteAt : GoodIn wsX3_isWord wsX3_byteAt := goodIn_r _ [20, 21, 22, 60, 61, 62, 63, 64, 65] (by decide +kernel) (by decide +kernel)
set_option maxRecDepth 20000 in
theorem gX3_isWord_X3_byteAt : GoodIn wsX3_isWord (wsV RX3 141 RX3 yX3_byteAt wsX3_byteAt) := goodIn_app (goodIn_of _ (by decide +kernel)) ggX3_isWord_X3_byteAt
set_option maxRecDepth 20000 in
theorem ggX3_isWord_J0_charAt_5068e : GoodIn wsX3_isWord wsJ0_charAt_5068e := goodIn_r _ [26, 9, 27, 28, 29, 7, 30, 14, 15, 31, 32, 33, 34, 35, 36, 37, 38, 39, 40, 41, 42, 43, 44, 45, 46, 47, 48, 49, 50, 51, 52, 53, 54, 55, 56, 57, 58, 59] (by decide +kernel) (by decide +kernel)
set_option maxRecDepth 20000 in
theorem gX3_isWord_J0_charAt_5068e : GoodIn wsX3_isWord (wsV RX3 145 RJ0 yJ0_charAt_5068e wsJ0_charAt_5068e) := goodIn_app (goodIn_of _ (by decide +kernel)) ggX3_isWord_J0_charAt_5068e
theorem dX3_isWord_0 : decode cX3_isWord 0 = .ok (.aload_n 0, 1) := by decide +kernel
theorem dX3_isWord_1 : decode cX3_isWord 1 = .ok (.getfield 25, 3) := by decide +kernel
theorem dX3_isWord_4 : decode cX3_isWord 4 = .ok (.iconst 1, 1) := by decide +kernel
theorem dX3_isWord_5 : decode cX3_isWord 5 = .ok (.if_icmp .ne 19, 3) := by decide +kernel
theorem dX3_isWord_8 : decode cX3_isWord 8 = .ok (.aload_n 0, 1) := by decide +kernel
theorem dX3_isWord_9 : decode cX3_isWord 9 = .ok (.getfield 22, 3) := by decide +kernel
theorem dX3_isWord_12 : decode cX3_isWord 12 = .ok (.aload_n 0, 1) := by decide +kernel
theorem dX3_isWord_13 : decode cX3_isWord 13 = .ok (.getfield 19, 3) := by decide +kernel
theorem dX3_isWord_16 : decode cX3_isWord 16 = .ok (.isub, 1) := by decide +kernel
theorem dX3_isWord_17 : decode cX3_isWord 17 = .ok (.aload_n 1, 1) := by decide +kernel
theorem dX3_isWord_18 : decode cX3_isWord 18 = .ok (.invokevirtual 137, 3) := by decide +kernel
theorem dX3_isWord_21 : decode cX3_isWord 21 = .ok (.if_icmp .eq 5, 3) := by decide +kernel
theorem dX3_isWord_24 : decode cX3_isWord 24 = .ok (.iconst 0, 1) := by decide +kernel
theorem dX3_isWord_25 : decode cX3_isWord 25 = .ok (.ireturn, 1) := by decide +kernel
theorem dX3_isWord_26 : decode cX3_isWord 26 = .ok (.iconst 0, 1) := by decide +kernel
theorem dX3_isWord_27 : decode cX3_isWord 27 = .ok (.istore_n 2, 1) := by decide +kernel
theorem dX3_isWord_28 : decode cX3_isWord 28 = .ok (.iload_n 2, 1) := by decide +kernel
theorem dX3_isWord_29 : decode cX3_isWord 29 = .ok (.aload_n 1, 1) := by decide +kernel
theorem dX3_isWord_30 : decode cX3_isWord 30 = .ok (.invokevirtual 137, 3) := by decide +kernel
theorem dX3_isWord_33 : decode cX3_isWord 33 = .ok (.if_icmp .ge 29, 3) := by decide +kernel
theorem dX3_isWord_36 : decode cX3_isWord 36 = .ok (.aload_n 0, 1) := by decide +kernel
theorem dX3_isWord_37 : decode cX3_isWord 37 = .ok (.aload_n 0, 1) := by decide +kernel
theorem dX3_isWord_38 : decode cX3_isWord 38 = .ok (.getfield 19, 3) := by decide +kernel
theorem dX3_isWord_41 : decode cX3_isWord 41 = .ok (.iload_n 2, 1) := by decide +kernel
theorem dX3_isWord_42 : decode cX3_isWord 42 = .ok (.iadd, 1) := by decide +kernel
theorem dX3_isWord_43 : decode cX3_isWord 43 = .ok (.invokevirtual 141, 3) := by decide +kernel
theorem dX3_isWord_46 : decode cX3_isWord 46 = .ok (.aload_n 1, 1) := by decide +kernel
theorem dX3_isWord_47 : decode cX3_isWord 47 = .ok (.iload_n 2, 1) := by decide +kernel
theorem dX3_isWord_48 : decode cX3_isWord 48 = .ok (.invokevirtual 145, 3) := by decide +kernel
theorem dX3_isWord_51 : decode cX3_isWord 51 = .ok (.if_icmp .eq 5, 3) := by decide +kernel
theorem dX3_isWord_54 : decode cX3_isWord 54 = .ok (.iconst 0, 1) := by decide +kernel
theorem dX3_isWord_55 : decode cX3_isWord 55 = .ok (.ireturn, 1) := by decide +kernel
theorem dX3_isWord_56 : decode cX3_isWord 56 = .ok (.iinc 2 1, 3) := by decide +kernel
theorem dX3_isWord_59 : decode cX3_isWord 59 = .ok (.goto (-31), 3) := by decide +kernel
theorem dX3_isWord_62 : decode cX3_isWord 62 = .ok (.iconst 1, 1) := by decide +kernel
theorem dX3_isWord_63 : decode cX3_isWord 63 = .ok (.ireturn, 1) := by decide +kernel
set_option maxRecDepth 20000 in
theorem ggX3_step_X3_byteAt : GoodIn wsX3_step wsX3_byteAt := goodIn_r _ [14, 2, 15, 19, 20, 21, 22, 23, 24] (by decide +kernel) (by decide +kernel)
set_option maxRecDepth 20000 in
theorem gX3_step_X3_byteAt : GoodIn wsX3_step (wsV RX3 141 RX3 yX3_byteAt wsX3_byteAt) := goodIn_app (goodIn_of _ (by decide +kernel)) ggX3_step_X3_byteAt
set_option maxRecDepth 20000 in
theorem ggX3_step_X3_sortOf : GoodIn wsX3_step wsX3_sortOf := goodIn_r _ [18] (by decide +kernel) (by decide +kernel)
set_option maxRecDepth 20000 in
theorem gX3_step_X3_sortOf : GoodIn wsX3_step (va_wsS RX3 149 yX3_sortOf wsX3_sortOf) := goodIn_app (goodIn_of _ (by decide +kernel)) ggX3_step_X3_sortOf
theorem dX3_step_0 : decode cX3_step 0 = .ok (.aload_n 0, 1) := by decide +kernel
theorem dX3_step_1 : decode cX3_step 1 = .ok (.getfield 22, 3) := by decide +kernel
theorem dX3_step_4 : decode cX3_step 4 = .ok (.aload_n 0, 1) := by decide +kernel
theorem dX3_step_5 : decode cX3_step 5 = .ok (.getfield 15, 3) := by decide +kernel
theorem dX3_step_8 : decode cX3_step 8 = .ok (.if_icmp .ge 29, 3) := by decide +kernel
theorem dX3_step_11 : decode cX3_step 11 = .ok (.aload_n 0, 1) := by decide +kernel
theorem dX3_step_12 : decode cX3_step 12 = .ok (.aload_n 0, 1) := by decide +kernel
theorem dX3_step_13 : decode cX3_step 13 = .ok (.getfield 22, 3) := by decide +kernel
theorem dX3_step_16 : decode cX3_step 16 = .ok (.invokevirtual 141, 3) := by decide +kernel
theorem dX3_step_19 : decode cX3_step 19 = .ok (.bipush 32, 2) := by decide +kernel
theorem dX3_step_21 : decode cX3_step 21 = .ok (.if_icmp .ne 16, 3) := by decide +kernel
theorem dX3_step_24 : decode cX3_step 24 = .ok (.aload_n 0, 1) := by decide +kernel
theorem dX3_step_25 : decode cX3_step 25 = .ok (.dup, 1) := by decide +kernel
theorem dX3_step_26 : decode cX3_step 26 = .ok (.getfield 22, 3) := by decide +kernel
theorem dX3_step_29 : decode cX3_step 29 = .ok (.iconst 1, 1) := by decide +kernel
theorem dX3_step_30 : decode cX3_step 30 = .ok (.iadd, 1) := by decide +kernel
theorem dX3_step_31 : decode cX3_step 31 = .ok (.putfield 22, 3) := by decide +kernel
theorem dX3_step_34 : decode cX3_step 34 = .ok (.goto (-34), 3) := by decide +kernel
theorem dX3_step_37 : decode cX3_step 37 = .ok (.aload_n 0, 1) := by decide +kernel
theorem dX3_step_38 : decode cX3_step 38 = .ok (.aload_n 0, 1) := by decide +kernel
theorem dX3_step_39 : decode cX3_step 39 = .ok (.getfield 22, 3) := by decide +kernel
theorem dX3_step_42 : decode cX3_step 42 = .ok (.putfield 19, 3) := by decide +kernel
theorem dX3_step_45 : decode cX3_step 45 = .ok (.aload_n 0, 1) := by decide +kernel
theorem dX3_step_46 : decode cX3_step 46 = .ok (.aload_n 0, 1) := by decide +kernel
theorem dX3_step_47 : decode cX3_step 47 = .ok (.aload_n 0, 1) := by decide +kernel
theorem dX3_step_48 : decode cX3_step 48 = .ok (.getfield 19, 3) := by decide +kernel
theorem dX3_step_51 : decode cX3_step 51 = .ok (.invokevirtual 141, 3) := by decide +kernel
theorem dX3_step_54 : decode cX3_step 54 = .ok (.invokestatic 149, 3) := by decide +kernel
theorem dX3_step_57 : decode cX3_step 57 = .ok (.putfield 25, 3) := by decide +kernel
theorem dX3_step_60 : decode cX3_step 60 = .ok (.aload_n 0, 1) := by decide +kernel
theorem dX3_step_61 : decode cX3_step 61 = .ok (.getfield 25, 3) := by decide +kernel
theorem dX3_step_64 : decode cX3_step 64 = .ok (.iconst 3, 1) := by decide +kernel
theorem dX3_step_65 : decode cX3_step 65 = .ok (.if_icmp .eq 11, 3) := by decide +kernel
theorem dX3_step_68 : decode cX3_step 68 = .ok (.aload_n 0, 1) := by decide +kernel
theorem dX3_step_69 : decode cX3_step 69 = .ok (.getfield 25, 3) := by decide +kernel
theorem dX3_step_72 : decode cX3_step 72 = .ok (.iconst 4, 1) := by decide +kernel
theorem dX3_step_73 : decode cX3_step 73 = .ok (.if_icmp .ne 13, 3) := by decide +kernel
theorem dX3_step_76 : decode cX3_step 76 = .ok (.aload_n 0, 1) := by decide +kernel
theorem dX3_step_77 : decode cX3_step 77 = .ok (.dup, 1) := by decide +kernel
theorem dX3_step_78 : decode cX3_step 78 = .ok (.getfield 22, 3) := by decide +kernel
theorem dX3_step_81 : decode cX3_step 81 = .ok (.iconst 1, 1) := by decide +kernel
theorem dX3_step_82 : decode cX3_step 82 = .ok (.iadd, 1) := by decide +kernel
theorem dX3_step_83 : decode cX3_step 83 = .ok (.putfield 22, 3) := by decide +kernel
theorem dX3_step_86 : decode cX3_step 86 = .ok (.aload_n 0, 1) := by decide +kernel
theorem dX3_step_87 : decode cX3_step 87 = .ok (.iconst 0, 1) := by decide +kernel
theorem dX3_step_88 : decode cX3_step 88 = .ok (.putfield 28, 3) := by decide +kernel
theorem dX3_step_91 : decode cX3_step 91 = .ok (.aload_n 0, 1) := by decide +kernel
theorem dX3_step_92 : decode cX3_step 92 = .ok (.getfield 25, 3) := by decide +kernel
theorem dX3_step_95 : decode cX3_step 95 = .ok (.iconst 1, 1) := by decide +kernel
theorem dX3_step_96 : decode cX3_step 96 = .ok (.if_icmp .eq 11, 3) := by decide +kernel
theorem dX3_step_99 : decode cX3_step 99 = .ok (.aload_n 0, 1) := by decide +kernel
theorem dX3_step_100 : decode cX3_step 100 = .ok (.getfield 25, 3) := by decide +kernel
theorem dX3_step_103 : decode cX3_step 103 = .ok (.iconst 2, 1) := by decide +kernel
theorem dX3_step_104 : decode cX3_step 104 = .ok (.if_icmp .ne 74, 3) := by decide +kernel
theorem dX3_step_107 : decode cX3_step 107 = .ok (.aload_n 0, 1) := by decide +kernel
theorem dX3_step_108 : decode cX3_step 108 = .ok (.getfield 22, 3) := by decide +kernel
theorem dX3_step_111 : decode cX3_step 111 = .ok (.aload_n 0, 1) := by decide +kernel
theorem dX3_step_112 : decode cX3_step 112 = .ok (.getfield 15, 3) := by decide +kernel
theorem dX3_step_115 : decode cX3_step 115 = .ok (.if_icmp .ge 63, 3) := by decide +kernel
theorem dX3_step_118 : decode cX3_step 118 = .ok (.aload_n 0, 1) := by decide +kernel
theorem dX3_step_119 : decode cX3_step 119 = .ok (.aload_n 0, 1) := by decide +kernel
theorem dX3_step_120 : decode cX3_step 120 = .ok (.getfield 22, 3) := by decide +kernel
theorem dX3_step_123 : decode cX3_step 123 = .ok (.invokevirtual 141, 3) := by decide +kernel
theorem dX3_step_126 : decode cX3_step 126 = .ok (.invokestatic 149, 3) := by decide +kernel
theorem dX3_step_129 : decode cX3_step 129 = .ok (.aload_n 0, 1) := by decide +kernel
theorem dX3_step_130 : decode cX3_step 130 = .ok (.getfield 25, 3) := by decide +kernel
theorem dX3_step_133 : decode cX3_step 133 = .ok (.if_icmp .ne 45, 3) := by decide +kernel
theorem dX3_step_136 : decode cX3_step 136 = .ok (.aload_n 0, 1) := by decide +kernel
theorem dX3_step_137 : decode cX3_step 137 = .ok (.sipush 1000, 3) := by decide +kernel
theorem dX3_step_140 : decode cX3_step 140 = .ok (.aload_n 0, 1) := by decide +kernel
theorem dX3_step_141 : decode cX3_step 141 = .ok (.getfield 28, 3) := by decide +kernel
theorem dX3_step_144 : decode cX3_step 144 = .ok (.bipush 10, 2) := by decide +kernel
theorem dX3_step_146 : decode cX3_step 146 = .ok (.imul, 1) := by decide +kernel
theorem dX3_step_147 : decode cX3_step 147 = .ok (.aload_n 0, 1) := by decide +kernel
theorem dX3_step_148 : decode cX3_step 148 = .ok (.aload_n 0, 1) := by decide +kernel
theorem dX3_step_149 : decode cX3_step 149 = .ok (.getfield 22, 3) := by decide +kernel
theorem dX3_step_152 : decode cX3_step 152 = .ok (.invokevirtual 141, 3) := by decide +kernel
theorem dX3_step_155 : decode cX3_step 155 = .ok (.iadd, 1) := by decide +kernel
theorem dX3_step_156 : decode cX3_step 156 = .ok (.bipush 48, 2) := by decide +kernel
theorem dX3_step_158 : decode cX3_step 158 = .ok (.isub, 1) := by decide +kernel
theorem dX3_step_159 : decode cX3_step 159 = .ok (.invokestatic 152, 3) := by decide +kernel
theorem dX3_step_162 : decode cX3_step 162 = .ok (.putfield 28, 3) := by decide +kernel
theorem dX3_step_165 : decode cX3_step 165 = .ok (.aload_n 0, 1) := by decide +kernel
theorem dX3_step_166 : decode cX3_step 166 = .ok (.dup, 1) := by decide +kernel
theorem dX3_step_167 : decode cX3_step 167 = .ok (.getfield 22, 3) := by decide +kernel
theorem dX3_step_170 : decode cX3_step 170 = .ok (.iconst 1, 1) := by decide +kernel
theorem dX3_step_171 : decode cX3_step 171 = .ok (.iadd, 1) := by decide +kernel
theorem dX3_step_172 : decode cX3_step 172 = .ok (.putfield 22, 3) := by decide +kernel
theorem dX3_step_175 : decode cX3_step 175 = .ok (.goto (-84), 3) := by decide +kernel
theorem dX3_step_178 : decode cX3_step 178 = .ok (.return_, 1) := by decide +kernel
theorem dX3_sortOf_0 : decode cX3_sortOf 0 = .ok (.iload_n 0, 1) := by decide +kernel
theorem dX3_sortOf_1 : decode cX3_sortOf 1 = .ok (.iconst (-1), 1) := by decide +kernel
theorem dX3_sortOf_2 : decode cX3_sortOf 2 = .ok (.if_icmp .ne 5, 3) := by decide +kernel
theorem dX3_sortOf_5 : decode cX3_sortOf 5 = .ok (.iconst 0, 1) := by decide +kernel
theorem dX3_sortOf_6 : decode cX3_sortOf 6 = .ok (.ireturn, 1) := by decide +kernel
theorem dX3_sortOf_7 : decode cX3_sortOf 7 = .ok (.iload_n 0, 1) := by decide +kernel
theorem dX3_sortOf_8 : decode cX3_sortOf 8 = .ok (.bipush 97, 2) := by decide +kernel
theorem dX3_sortOf_10 : decode cX3_sortOf 10 = .ok (.if_icmp .lt 11, 3) := by decide +kernel
theorem dX3_sortOf_13 : decode cX3_sortOf 13 = .ok (.iload_n 0, 1) := by decide +kernel
theorem dX3_sortOf_14 : decode cX3_sortOf 14 = .ok (.bipush 122, 2) := by decide +kernel
theorem dX3_sortOf_16 : decode cX3_sortOf 16 = .ok (.if_icmp .gt 5, 3) := by decide +kernel
theorem dX3_sortOf_19 : decode cX3_sortOf 19 = .ok (.iconst 1, 1) := by decide +kernel
theorem dX3_sortOf_20 : decode cX3_sortOf 20 = .ok (.ireturn, 1) := by decide +kernel
theorem dX3_sortOf_21 : decode cX3_sortOf 21 = .ok (.iload_n 0, 1) := by decide +kernel
theorem dX3_sortOf_22 : decode cX3_sortOf 22 = .ok (.bipush 48, 2) := by decide +kernel
theorem dX3_sortOf_24 : decode cX3_sortOf 24 = .ok (.if_icmp .lt 11, 3) := by decide +kernel
theorem dX3_sortOf_27 : decode cX3_sortOf 27 = .ok (.iload_n 0, 1) := by decide +kernel
theorem dX3_sortOf_28 : decode cX3_sortOf 28 = .ok (.bipush 57, 2) := by decide +kernel
theorem dX3_sortOf_30 : decode cX3_sortOf 30 = .ok (.if_icmp .gt 5, 3) := by decide +kernel
theorem dX3_sortOf_33 : decode cX3_sortOf 33 = .ok (.iconst 2, 1) := by decide +kernel
theorem dX3_sortOf_34 : decode cX3_sortOf 34 = .ok (.ireturn, 1) := by decide +kernel
theorem dX3_sortOf_35 : decode cX3_sortOf 35 = .ok (.iload_n 0, 1) := by decide +kernel
theorem dX3_sortOf_36 : decode cX3_sortOf 36 = .ok (.bipush 59, 2) := by decide +kernel
theorem dX3_sortOf_38 : decode cX3_sortOf 38 = .ok (.if_icmp .ne 7, 3) := by decide +kernel
theorem dX3_sortOf_41 : decode cX3_sortOf 41 = .ok (.iconst 3, 1) := by decide +kernel
theorem dX3_sortOf_42 : decode cX3_sortOf 42 = .ok (.goto 4, 3) := by decide +kernel
theorem dX3_sortOf_45 : decode cX3_sortOf 45 = .ok (.iconst 4, 1) := by decide +kernel
theorem dX3_sortOf_46 : decode cX3_sortOf 46 = .ok (.ireturn, 1) := by decide +kernel
theorem dX3_byteAt_0 : decode cX3_byteAt 0 = .ok (.iload_n 1, 1) := by decide +kernel
theorem dX3_byteAt_1 : decode cX3_byteAt 1 = .ok (.ifCond .lt 26, 3) := by decide +kernel
theorem dX3_byteAt_4 : decode cX3_byteAt 4 = .ok (.iload_n 1, 1) := by decide +kernel
theorem dX3_byteAt_5 : decode cX3_byteAt 5 = .ok (.aload_n 0, 1) := by decide +kernel
theorem dX3_byteAt_6 : decode cX3_byteAt 6 = .ok (.getfield 15, 3) := by decide +kernel
theorem dX3_byteAt_9 : decode cX3_byteAt 9 = .ok (.if_icmp .ge 18, 3) := by decide +kernel
theorem dX3_byteAt_12 : decode cX3_byteAt 12 = .ok (.iload_n 1, 1) := by decide +kernel
theorem dX3_byteAt_13 : decode cX3_byteAt 13 = .ok (.bipush 120, 2) := by decide +kernel
theorem dX3_byteAt_15 : decode cX3_byteAt 15 = .ok (.if_icmp .ge 12, 3) := by decide +kernel
theorem dX3_byteAt_18 : decode cX3_byteAt 18 = .ok (.aload_n 0, 1) := by decide +kernel
theorem dX3_byteAt_19 : decode cX3_byteAt 19 = .ok (.getfield 9, 3) := by decide +kernel
theorem dX3_byteAt_22 : decode cX3_byteAt 22 = .ok (.iload_n 1, 1) := by decide +kernel
theorem dX3_byteAt_23 : decode cX3_byteAt 23 = .ok (.iaload, 1) := by decide +kernel
theorem dX3_byteAt_24 : decode cX3_byteAt 24 = .ok (.goto 4, 3) := by decide +kernel
theorem dX3_byteAt_27 : decode cX3_byteAt 27 = .ok (.iconst (-1), 1) := by decide +kernel
theorem dX3_byteAt_28 : decode cX3_byteAt 28 = .ok (.ireturn, 1) := by decide +kernel
