set_option maxRecDepth 20000 in
theorem ggX4_days_X4_isWithin : GoodIn wsX4_days wsX4_isWithin := goodIn_r _ [9] (by decide +kernel) (by decide +kernel)
set_option maxRecDepth 20000 in
theorem gX4_days_X4_isWithin : GoodIn wsX4_days (va_wsS RX4 115 yX4_isWithin wsX4_isWithin) := goodIn_app (goodIn_of _ (by decide +kernel)) ggX4_days_X4_isWithin
set_option maxRecDepth 20000 in
theorem ggX4_days_X4_found : GoodIn wsX4_days wsX4_found := goodIn_r _ [13, 1, 14, 6, 7, 8, 9, 93, 94, 95, 96, 97, 98, 99] (by decide +kernel) (by decide +kernel)
set_option maxRecDepth 20000 in
theorem gX4_days_X4_found : GoodIn wsX4_days (wsV RX4 54 RX4 yX4_found wsX4_found) := goodIn_app (goodIn_of _ (by decide +kernel)) ggX4_days_X4_found
set_option maxRecDepth 20000 in
theorem ggX4_days_X4_isTooLate : GoodIn wsX4_days wsX4_isTooLate := goodIn_r _ [18, 3, 19, 93, 94, 95, 96, 97, 98, 99, 100, 101, 102, 103, 104, 105, 106, 107, 108, 109, 110, 111, 112, 113, 114] (by decide +kernel) (by decide +kernel)
set_option maxRecDepth 20000 in
theorem gX4_days_X4_isTooLate : GoodIn wsX4_days (wsV RX4 176 RX4 yX4_isTooLate wsX4_isTooLate) := goodIn_app (goodIn_of _ (by decide +kernel)) ggX4_days_X4_isTooLate
set_option maxRecDepth 20000 in
theorem ggX4_days_X0_draw : GoodIn wsX4_days wsX0_draw := goodIn_r _ [24, 25, 26, 100, 101, 102, 103, 104, 105, 106, 107, 108, 109, 110, 111, 112, 113, 114] (by decide +kernel) (by decide +kernel)
set_option maxRecDepth 20000 in
theorem gX4_days_X0_draw : GoodIn wsX4_days (wsV RX4 249 RX0 yX0_draw wsX0_draw) := goodIn_app (goodIn_of _ (by decide +kernel)) ggX4_days_X0_draw
set_option maxRecDepth 20000 in
theorem ggX4_days_X4_has : GoodIn wsX4_days wsX4_has := goodIn_r _ [29] (by decide +kernel) (by decide +kernel)
set_option maxRecDepth 20000 in
theorem gX4_days_X4_has : GoodIn wsX4_days (va_wsS RX4 131 yX4_has wsX4_has) := goodIn_app (goodIn_of _ (by decide +kernel)) ggX4_days_X4_has
set_option maxRecDepth 20000 in
theorem ggX4_days_X0_setShutter : GoodIn wsX4_days wsX0_setShutter := goodIn_r _ [33, 34, 35, 8, 36, 37, 38, 100, 101, 102, 103, 104, 105, 106, 107, 108, 109, 110, 111, 112, 113, 114] (by decide +kernel) (by decide +kernel)
set_option maxRecDepth 20000 in
theorem gX4_days_X0_setShutter : GoodIn wsX4_days (wsV RX4 135 RX0 yX0_setShutter wsX0_setShutter) := goodIn_app (goodIn_of _ (by decide +kernel)) ggX4_days_X0_setShutter
set_option maxRecDepth 20000 in
theorem ggX4_days_X0_pass : GoodIn wsX4_days wsX0_pass := goodIn_r _ [42, 43, 44, 45, 23, 46, 47, 48, 49, 50, 51, 52, 53, 54, 55, 56, 57, 58, 59, 60, 61, 62, 63, 64, 34, 65, 28, 8, 29, 66, 67, 68, 69, 70, 71, 72, 73, 74, 75, 76, 77, 78, 79, 80, 81, 82, 83, 84, 85, 86, 87, 88, 35, 36, 89, 90, 91, 92, 100, 101, 102, 103, 104, 105, 106, 107, 108, 109, 110, 111, 112, 113, 114] (by decide +kernel) (by decide +kernel)
set_option maxRecDepth 20000 in
theorem gX4_days_X0_pass : GoodIn wsX4_days (wsV RX4 160 RX0 yX0_pass wsX0_pass) := goodIn_app (goodIn_of _ (by decide +kernel)) ggX4_days_X0_pass
theorem dX4_days_0 : decode cX4_days 0 = .ok (.iload_n 1, 1) := by decide +kernel
theorem dX4_days_1 : decode cX4_days 1 = .ok (.iconst 1, 1) := by decide +kernel
theorem dX4_days_2 : decode cX4_days 2 = .ok (.bipush 12, 2) := by decide +kernel
theorem dX4_days_4 : decode cX4_days 4 = .ok (.invokestatic 115, 3) := by decide +kernel
theorem dX4_days_7 : decode cX4_days 7 = .ok (.ifCond .ne 10, 3) := by decide +kernel
theorem dX4_days_10 : decode cX4_days 10 = .ok (.aload_n 0, 1) := by decide +kernel
theorem dX4_days_11 : decode cX4_days 11 = .ok (.ldc 53, 2) := by decide +kernel
theorem dX4_days_13 : decode cX4_days 13 = .ok (.invokevirtual 54, 3) := by decide +kernel
theorem dX4_days_16 : decode cX4_days 16 = .ok (.ireturn, 1) := by decide +kernel
theorem dX4_days_17 : decode cX4_days 17 = .ok (.aload_n 0, 1) := by decide +kernel
theorem dX4_days_18 : decode cX4_days 18 = .ok (.iload_n 1, 1) := by decide +kernel
theorem dX4_days_19 : decode cX4_days 19 = .ok (.bipush 24, 2) := by decide +kernel
theorem dX4_days_21 : decode cX4_days 21 = .ok (.imul, 1) := by decide +kernel
theorem dX4_days_22 : decode cX4_days 22 = .ok (.invokevirtual 176, 3) := by decide +kernel
theorem dX4_days_25 : decode cX4_days 25 = .ok (.ifCond .eq 10, 3) := by decide +kernel
theorem dX4_days_28 : decode cX4_days 28 = .ok (.aload_n 0, 1) := by decide +kernel
theorem dX4_days_29 : decode cX4_days 29 = .ok (.ldc 179, 2) := by decide +kernel
theorem dX4_days_31 : decode cX4_days 31 = .ok (.invokevirtual 54, 3) := by decide +kernel
theorem dX4_days_34 : decode cX4_days 34 = .ok (.ireturn, 1) := by decide +kernel
theorem dX4_days_35 : decode cX4_days 35 = .ok (.iconst 0, 1) := by decide +kernel
theorem dX4_days_36 : decode cX4_days 36 = .ok (.istore_n 2, 1) := by decide +kernel
theorem dX4_days_37 : decode cX4_days 37 = .ok (.iconst 0, 1) := by decide +kernel
theorem dX4_days_38 : decode cX4_days 38 = .ok (.istore_n 3, 1) := by decide +kernel
theorem dX4_days_39 : decode cX4_days 39 = .ok (.iload_n 3, 1) := by decide +kernel
theorem dX4_days_40 : decode cX4_days 40 = .ok (.iload_n 1, 1) := by decide +kernel
theorem dX4_days_41 : decode cX4_days 41 = .ok (.if_icmp .ge 79, 3) := by decide +kernel
theorem dX4_days_44 : decode cX4_days 44 = .ok (.aload_n 0, 1) := by decide +kernel
theorem dX4_days_45 : decode cX4_days 45 = .ok (.getfield 12, 3) := by decide +kernel
theorem dX4_days_48 : decode cX4_days 48 = .ok (.aload_n 0, 1) := by decide +kernel
theorem dX4_days_49 : decode cX4_days 49 = .ok (.getfield 12, 3) := by decide +kernel
theorem dX4_days_52 : decode cX4_days 52 = .ok (.invokevirtual 249, 3) := by decide +kernel
theorem dX4_days_55 : decode cX4_days 55 = .ok (.bipush 41, 2) := by decide +kernel
theorem dX4_days_57 : decode cX4_days 57 = .ok (.irem, 1) := by decide +kernel
theorem dX4_days_58 : decode cX4_days 58 = .ok (.putfield 145, 3) := by decide +kernel
theorem dX4_days_61 : decode cX4_days 61 = .ok (.aload_n 0, 1) := by decide +kernel
theorem dX4_days_62 : decode cX4_days 62 = .ok (.getfield 12, 3) := by decide +kernel
theorem dX4_days_65 : decode cX4_days 65 = .ok (.invokevirtual 249, 3) := by decide +kernel
theorem dX4_days_68 : decode cX4_days 68 = .ok (.bipush 6, 2) := by decide +kernel
theorem dX4_days_70 : decode cX4_days 70 = .ok (.irem, 1) := by decide +kernel
theorem dX4_days_71 : decode cX4_days 71 = .ok (.istore 4, 2) := by decide +kernel
theorem dX4_days_73 : decode cX4_days 73 = .ok (.aload_n 0, 1) := by decide +kernel
theorem dX4_days_74 : decode cX4_days 74 = .ok (.getfield 12, 3) := by decide +kernel
theorem dX4_days_77 : decode cX4_days 77 = .ok (.iload 4, 2) := by decide +kernel
theorem dX4_days_79 : decode cX4_days 79 = .ok (.aload_n 0, 1) := by decide +kernel
theorem dX4_days_80 : decode cX4_days 80 = .ok (.getfield 12, 3) := by decide +kernel
theorem dX4_days_83 : decode cX4_days 83 = .ok (.getfield 128, 3) := by decide +kernel
theorem dX4_days_86 : decode cX4_days 86 = .ok (.iload 4, 2) := by decide +kernel
theorem dX4_days_88 : decode cX4_days 88 = .ok (.invokestatic 131, 3) := by decide +kernel
theorem dX4_days_91 : decode cX4_days 91 = .ok (.ifCond .ne 7, 3) := by decide +kernel
theorem dX4_days_94 : decode cX4_days 94 = .ok (.iconst 1, 1) := by decide +kernel
theorem dX4_days_95 : decode cX4_days 95 = .ok (.goto 4, 3) := by decide +kernel
theorem dX4_days_98 : decode cX4_days 98 = .ok (.iconst 0, 1) := by decide +kernel
theorem dX4_days_99 : decode cX4_days 99 = .ok (.invokevirtual 135, 3) := by decide +kernel
theorem dX4_days_102 : decode cX4_days 102 = .ok (.iload_n 2, 1) := by decide +kernel
theorem dX4_days_103 : decode cX4_days 103 = .ok (.aload_n 0, 1) := by decide +kernel
theorem dX4_days_104 : decode cX4_days 104 = .ok (.getfield 12, 3) := by decide +kernel
theorem dX4_days_107 : decode cX4_days 107 = .ok (.bipush 24, 2) := by decide +kernel
theorem dX4_days_109 : decode cX4_days 109 = .ok (.invokevirtual 160, 3) := by decide +kernel
theorem dX4_days_112 : decode cX4_days 112 = .ok (.iadd, 1) := by decide +kernel
theorem dX4_days_113 : decode cX4_days 113 = .ok (.istore_n 2, 1) := by decide +kernel
theorem dX4_days_114 : decode cX4_days 114 = .ok (.iinc 3 1, 3) := by decide +kernel
theorem dX4_days_117 : decode cX4_days 117 = .ok (.goto (-78), 3) := by decide +kernel
theorem dX4_days_120 : decode cX4_days 120 = .ok (.iload_n 2, 1) := by decide +kernel
theorem dX4_days_121 : decode cX4_days 121 = .ok (.ireturn, 1) := by decide +kernel
theorem dX4_seed_0 : decode cX4_seed 0 = .ok (.aload_n 0, 1) := by decide +kernel
theorem dX4_seed_1 : decode cX4_seed 1 = .ok (.getfield 12, 3) := by decide +kernel
theorem dX4_seed_4 : decode cX4_seed 4 = .ok (.getfield 252, 3) := by decide +kernel
theorem dX4_seed_7 : decode cX4_seed 7 = .ok (.istore_n 2, 1) := by decide +kernel
theorem dX4_seed_8 : decode cX4_seed 8 = .ok (.aload_n 0, 1) := by decide +kernel
theorem dX4_seed_9 : decode cX4_seed 9 = .ok (.getfield 12, 3) := by decide +kernel
theorem dX4_seed_12 : decode cX4_seed 12 = .ok (.iload_n 1, 1) := by decide +kernel
theorem dX4_seed_13 : decode cX4_seed 13 = .ok (.putfield 252, 3) := by decide +kernel
theorem dX4_seed_16 : decode cX4_seed 16 = .ok (.iload_n 2, 1) := by decide +kernel
theorem dX4_seed_17 : decode cX4_seed 17 = .ok (.ireturn, 1) := by decide +kernel
set_option maxRecDepth 20000 in
theorem ggX4_feed_X4_isWithin : GoodIn wsX4_feed wsX4_isWithin := goodIn_r _ [8] (by decide +kernel) (by decide +kernel)
set_option maxRecDepth 20000 in
theorem gX4_feed_X4_isWithin : GoodIn wsX4_feed (va_wsS RX4 115 yX4_isWithin wsX4_isWithin) := goodIn_app (goodIn_of _ (by decide +kernel)) ggX4_feed_X4_isWithin
set_option maxRecDepth 20000 in
theorem ggX4_feed_X4_found : GoodIn wsX4_feed wsX4_found := goodIn_r _ [12, 1, 13, 5, 6, 7, 8, 21, 22, 23, 24, 25, 26, 27] (by decide +kernel) (by decide +kernel)
set_option maxRecDepth 20000 in
theorem gX4_feed_X4_found : GoodIn wsX4_feed (wsV RX4 54 RX4 yX4_found wsX4_found) := goodIn_app (goodIn_of _ (by decide +kernel)) ggX4_feed_X4_found
set_option maxRecDepth 20000 in
theorem ggX4_feed_X3_append : GoodIn wsX4_feed wsX3_append := goodIn_r _ [18, 19, 20, 28, 29, 30, 31, 32, 33] (by decide +kernel) (by decide +kernel)
set_option maxRecDepth 20000 in
theorem gX4_feed_X3_append : GoodIn wsX4_feed (wsV RX4 258 RX3 yX3_append wsX3_append) := goodIn_app (goodIn_of _ (by decide +kernel)) ggX4_feed_X3_append
theorem dX4_feed_0 : decode cX4_feed 0 = .ok (.iload_n 2, 1) := by decide +kernel
theorem dX4_feed_1 : decode cX4_feed 1 = .ok (.iconst 1, 1) := by decide +kernel
theorem dX4_feed_2 : decode cX4_feed 2 = .ok (.iconst 4, 1) := by decide +kernel
theorem dX4_feed_3 : decode cX4_feed 3 = .ok (.invokestatic 115, 3) := by decide +kernel
theorem dX4_feed_6 : decode cX4_feed 6 = .ok (.ifCond .ne 10, 3) := by decide +kernel
theorem dX4_feed_9 : decode cX4_feed 9 = .ok (.aload_n 0, 1) := by decide +kernel
theorem dX4_feed_10 : decode cX4_feed 10 = .ok (.ldc 53, 2) := by decide +kernel
theorem dX4_feed_12 : decode cX4_feed 12 = .ok (.invokevirtual 54, 3) := by decide +kernel
theorem dX4_feed_15 : decode cX4_feed 15 = .ok (.ireturn, 1) := by decide +kernel
theorem dX4_feed_16 : decode cX4_feed 16 = .ok (.aload_n 0, 1) := by decide +kernel
theorem dX4_feed_17 : decode cX4_feed 17 = .ok (.getfield 29, 3) := by decide +kernel
theorem dX4_feed_20 : decode cX4_feed 20 = .ok (.getfield 255, 3) := by decide +kernel
theorem dX4_feed_23 : decode cX4_feed 23 = .ok (.iload_n 2, 1) := by decide +kernel
theorem dX4_feed_24 : decode cX4_feed 24 = .ok (.iadd, 1) := by decide +kernel
theorem dX4_feed_25 : decode cX4_feed 25 = .ok (.bipush 120, 2) := by decide +kernel
theorem dX4_feed_27 : decode cX4_feed 27 = .ok (.if_icmp .le 10, 3) := by decide +kernel
theorem dX4_feed_30 : decode cX4_feed 30 = .ok (.aload_n 0, 1) := by decide +kernel
theorem dX4_feed_31 : decode cX4_feed 31 = .ok (.ldc 62, 2) := by decide +kernel
theorem dX4_feed_33 : decode cX4_feed 33 = .ok (.invokevirtual 54, 3) := by decide +kernel
theorem dX4_feed_36 : decode cX4_feed 36 = .ok (.ireturn, 1) := by decide +kernel
theorem dX4_feed_37 : decode cX4_feed 37 = .ok (.iload_n 2, 1) := by decide +kernel
theorem dX4_feed_38 : decode cX4_feed 38 = .ok (.iconst 1, 1) := by decide +kernel
theorem dX4_feed_39 : decode cX4_feed 39 = .ok (.isub, 1) := by decide +kernel
theorem dX4_feed_40 : decode cX4_feed 40 = .ok (.istore_n 3, 1) := by decide +kernel
theorem dX4_feed_41 : decode cX4_feed 41 = .ok (.iload_n 3, 1) := by decide +kernel
theorem dX4_feed_42 : decode cX4_feed 42 = .ok (.ifCond .lt 26, 3) := by decide +kernel
theorem dX4_feed_45 : decode cX4_feed 45 = .ok (.aload_n 0, 1) := by decide +kernel
theorem dX4_feed_46 : decode cX4_feed 46 = .ok (.getfield 29, 3) := by decide +kernel
theorem dX4_feed_49 : decode cX4_feed 49 = .ok (.iload_n 1, 1) := by decide +kernel
theorem dX4_feed_50 : decode cX4_feed 50 = .ok (.bipush 8, 2) := by decide +kernel
theorem dX4_feed_52 : decode cX4_feed 52 = .ok (.iload_n 3, 1) := by decide +kernel
theorem dX4_feed_53 : decode cX4_feed 53 = .ok (.imul, 1) := by decide +kernel
theorem dX4_feed_54 : decode cX4_feed 54 = .ok (.iushr, 1) := by decide +kernel
theorem dX4_feed_55 : decode cX4_feed 55 = .ok (.sipush 255, 3) := by decide +kernel
theorem dX4_feed_58 : decode cX4_feed 58 = .ok (.iand, 1) := by decide +kernel
theorem dX4_feed_59 : decode cX4_feed 59 = .ok (.invokevirtual 258, 3) := by decide +kernel
theorem dX4_feed_62 : decode cX4_feed 62 = .ok (.iinc 3 (-1), 3) := by decide +kernel
theorem dX4_feed_65 : decode cX4_feed 65 = .ok (.goto (-24), 3) := by decide +kernel
theorem dX4_feed_68 : decode cX4_feed 68 = .ok (.aload_n 0, 1) := by decide +kernel
theorem dX4_feed_69 : decode cX4_feed 69 = .ok (.getfield 29, 3) := by decide +kernel
theorem dX4_feed_72 : decode cX4_feed 72 = .ok (.getfield 255, 3) := by decide +kernel
theorem dX4_feed_75 : decode cX4_feed 75 = .ok (.ireturn, 1) := by decide +kernel
theorem dX4_wipe_0 : decode cX4_wipe 0 = .ok (.aload_n 0, 1) := by decide +kernel
theorem dX4_wipe_1 : decode cX4_wipe 1 = .ok (.getfield 29, 3) := by decide +kernel
theorem dX4_wipe_4 : decode cX4_wipe 4 = .ok (.getfield 255, 3) := by decide +kernel
theorem dX4_wipe_7 : decode cX4_wipe 7 = .ok (.istore_n 1, 1) := by decide +kernel
theorem dX4_wipe_8 : decode cX4_wipe 8 = .ok (.aload_n 0, 1) := by decide +kernel
theorem dX4_wipe_9 : decode cX4_wipe 9 = .ok (.getfield 29, 3) := by decide +kernel
theorem dX4_wipe_12 : decode cX4_wipe 12 = .ok (.iconst 0, 1) := by decide +kernel
theorem dX4_wipe_13 : decode cX4_wipe 13 = .ok (.putfield 255, 3) := by decide +kernel
theorem dX4_wipe_16 : decode cX4_wipe 16 = .ok (.iload_n 1, 1) := by decide +kernel
theorem dX4_wipe_17 : decode cX4_wipe 17 = .ok (.ireturn, 1) := by decide +kernel
set_option maxRecDepth 20000 in
theorem ggX4_text_X0_take : GoodIn wsX4_text wsX0_take := goodIn_r _ [9, 10, 11, 12, 13, 14, 15, 16, 17, 18, 19, 20, 21, 22, 23, 24, 25, 26, 27, 186, 187, 188, 189, 190, 191, 192, 193, 194, 195, 196, 197, 198, 199, 200] (by decide +kernel) (by decide +kernel)
set_option maxRecDepth 20000 in
theorem gX4_text_X0_take : GoodIn wsX4_text (wsV RX4 180 RX0 yX0_take wsX0_take) := goodIn_app (goodIn_of _ (by decide +kernel)) ggX4_text_X0_take
set_option maxRecDepth 20000 in
theorem ggX4_text_X3_readText : GoodIn wsX4_text wsX3_readText := goodIn_r _ [32, 33, 34, 35, 36, 37, 38, 31, 39, 40, 41, 42, 43, 44, 45, 46, 47, 48, 49, 50, 51, 52, 53, 54, 55, 56, 57, 58, 59, 60, 61, 62, 63, 64, 65, 66, 67, 68, 69, 70, 71, 72, 73, 74, 75, 76, 77, 78, 79, 80, 81, 82, 83, 84, 85, 86, 87, 88, 89, 90, 91, 92, 93, 94, 95, 96, 97, 98, 99, 100, 101, 102, 103, 104, 105, 106, 107, 108, 109, 110, 111, 112, 113, 114, 115, 116, 117, 118, 119, 120, 121, 122, 123, 124, 125, 8, 126, 22, 127, 128, 129, 130, 131, 132, 133, 134, 135, 136, 137, 138, 139, 140, 141, 10, 15, 16, 17, 18, 142, 143, 144, 145, 146, 147, 148, 149, 150, 23, 151, 152, 153, 154, 155, 156, 157, 158, 159, 160, 161, 162, 163, 164, 165, 166, 167, 24, 168, 169, 170, 171, 172, 180, 181, 182, 183, 184, 185, 186, 187, 188, 189, 190, 191, 192, 193, 194, 195, 196, 197, 198, 199, 200] (by decide +kernel) (by decide +kernel)
set_option maxRecDepth 20000 in
theorem gX4_text_X3_readText : GoodIn wsX4_text (wsV RX4 261 RX3 yX3_readText wsX3_readText) := goodIn_app (goodIn_of _ (by decide +kernel)) ggX4_text_X3_readText
theorem dX4_text_0 : decode cX4_text 0 = .ok (.aload_n 0, 1) := by decide +kernel
theorem dX4_text_1 : decode cX4_text 1 = .ok (.getfield 16, 3) := by decide +kernel
theorem dX4_text_4 : decode cX4_text 4 = .ok (.aload_n 0, 1) := by decide +kernel
theorem dX4_text_5 : decode cX4_text 5 = .ok (.getfield 12, 3) := by decide +kernel
theorem dX4_text_8 : decode cX4_text 8 = .ok (.invokevirtual 180, 3) := by decide +kernel
theorem dX4_text_11 : decode cX4_text 11 = .ok (.aload_n 0, 1) := by decide +kernel
theorem dX4_text_12 : decode cX4_text 12 = .ok (.getfield 29, 3) := by decide +kernel
theorem dX4_text_15 : decode cX4_text 15 = .ok (.aload_n 0, 1) := by decide +kernel
theorem dX4_text_16 : decode cX4_text 16 = .ok (.getfield 16, 3) := by decide +kernel
theorem dX4_text_19 : decode cX4_text 19 = .ok (.invokevirtual 261, 3) := by decide +kernel
theorem dX4_text_22 : decode cX4_text 22 = .ok (.istore_n 1, 1) := by decide +kernel
theorem dX4_text_23 : decode cX4_text 23 = .ok (.aload_n 0, 1) := by decide +kernel
theorem dX4_text_24 : decode cX4_text 24 = .ok (.getfield 29, 3) := by decide +kernel
theorem dX4_text_27 : decode cX4_text 27 = .ok (.iconst 0, 1) := by decide +kernel
theorem dX4_text_28 : decode cX4_text 28 = .ok (.putfield 255, 3) := by decide +kernel
theorem dX4_text_31 : decode cX4_text 31 = .ok (.iload_n 1, 1) := by decide +kernel
theorem dX4_text_32 : decode cX4_text 32 = .ok (.ifCond .lt 14, 3) := by decide +kernel
theorem dX4_text_35 : decode cX4_text 35 = .ok (.aload_n 0, 1) := by decide +kernel
theorem dX4_text_36 : decode cX4_text 36 = .ok (.getfield 12, 3) := by decide +kernel
theorem dX4_text_39 : decode cX4_text 39 = .ok (.aload_n 0, 1) := by decide +kernel
theorem dX4_text_40 : decode cX4_text 40 = .ok (.getfield 16, 3) := by decide +kernel
theorem dX4_text_43 : decode cX4_text 43 = .ok (.invokevirtual 180, 3) := by decide +kernel
theorem dX4_text_46 : decode cX4_text 46 = .ok (.iload_n 1, 1) := by decide +kernel
theorem dX4_text_47 : decode cX4_text 47 = .ok (.ireturn, 1) := by decide +kernel
set_option maxRecDepth 20000 in
theorem ggX4_hold_X4_isWithin : GoodIn wsX4_hold wsX4_isWithin := goodIn_r _ [8] (by decide +kernel) (by decide +kernel)
set_option maxRecDepth 20000 in
theorem gX4_hold_X4_isWithin : GoodIn wsX4_hold (va_wsS RX4 115 yX4_isWithin wsX4_isWithin) := goodIn_app (goodIn_of _ (by decide +kernel)) ggX4_hold_X4_isWithin
set_option maxRecDepth 20000 in
theorem ggX4_hold_X4_found : GoodIn wsX4_hold wsX4_found := goodIn_r _ [12, 3, 13, 5, 6, 7, 8, 14, 15, 16, 17, 18, 19, 20] (by decide +kernel) (by decide +kernel)
set_option maxRecDepth 20000 in
theorem gX4_hold_X4_found : GoodIn wsX4_hold (wsV RX4 54 RX4 yX4_found wsX4_found) := goodIn_app (goodIn_of _ (by decide +kernel)) ggX4_hold_X4_found
theorem dX4_hold_0 : decode cX4_hold 0 = .ok (.iload_n 1, 1) := by decide +kernel
theorem dX4_hold_1 : decode cX4_hold 1 = .ok (.iconst 0, 1) := by decide +kernel
theorem dX4_hold_2 : decode cX4_hold 2 = .ok (.bipush 9, 2) := by decide +kernel
theorem dX4_hold_4 : decode cX4_hold 4 = .ok (.invokestatic 115, 3) := by decide +kernel
theorem dX4_hold_7 : decode cX4_hold 7 = .ok (.ifCond .eq 20, 3) := by decide +kernel
theorem dX4_hold_10 : decode cX4_hold 10 = .ok (.iload_n 2, 1) := by decide +kernel
theorem dX4_hold_11 : decode cX4_hold 11 = .ok (.iconst (-1), 1) := by decide +kernel
theorem dX4_hold_12 : decode cX4_hold 12 = .ok (.aload_n 0, 1) := by decide +kernel
theorem dX4_hold_13 : decode cX4_hold 13 = .ok (.getfield 12, 3) := by decide +kernel
theorem dX4_hold_16 : decode cX4_hold 16 = .ok (.getfield 151, 3) := by decide +kernel
theorem dX4_hold_19 : decode cX4_hold 19 = .ok (.iconst 1, 1) := by decide +kernel
theorem dX4_hold_20 : decode cX4_hold 20 = .ok (.isub, 1) := by decide +kernel
theorem dX4_hold_21 : decode cX4_hold 21 = .ok (.invokestatic 115, 3) := by decide +kernel
theorem dX4_hold_24 : decode cX4_hold 24 = .ok (.ifCond .ne 10, 3) := by decide +kernel
theorem dX4_hold_27 : decode cX4_hold 27 = .ok (.aload_n 0, 1) := by decide +kernel
theorem dX4_hold_28 : decode cX4_hold 28 = .ok (.ldc 53, 2) := by decide +kernel
theorem dX4_hold_30 : decode cX4_hold 30 = .ok (.invokevirtual 54, 3) := by decide +kernel
theorem dX4_hold_33 : decode cX4_hold 33 = .ok (.ireturn, 1) := by decide +kernel
theorem dX4_hold_34 : decode cX4_hold 34 = .ok (.aload_n 0, 1) := by decide +kernel
theorem dX4_hold_35 : decode cX4_hold 35 = .ok (.getfield 12, 3) := by decide +kernel
theorem dX4_hold_38 : decode cX4_hold 38 = .ok (.getfield 265, 3) := by decide +kernel
theorem dX4_hold_41 : decode cX4_hold 41 = .ok (.iload_n 1, 1) := by decide +kernel
theorem dX4_hold_42 : decode cX4_hold 42 = .ok (.iload_n 2, 1) := by decide +kernel
theorem dX4_hold_43 : decode cX4_hold 43 = .ok (.iastore, 1) := by decide +kernel
theorem dX4_hold_44 : decode cX4_hold 44 = .ok (.iconst 1, 1) := by decide +kernel
theorem dX4_hold_45 : decode cX4_hold 45 = .ok (.ireturn, 1) := by decide +kernel
set_option maxRecDepth 20000 in
theorem ggX4_as_X4_isWithin : GoodIn wsX4_as wsX4_isWithin := goodIn_r _ [10] (by decide +kernel) (by decide +kernel)
set_option maxRecDepth 20000 in
theorem gX4_as_X4_isWithin : GoodIn wsX4_as (va_wsS RX4 115 yX4_isWithin wsX4_isWithin) := goodIn_app (goodIn_of _ (by decide +kernel)) ggX4_as_X4_isWithin
set_option maxRecDepth 20000 in
theorem ggX4_as_X1_isKind : GoodIn wsX4_as wsX1_isKind := goodIn_r _ [14, 8, 9, 10] (by decide +kernel) (by decide +kernel)
set_option maxRecDepth 20000 in
theorem gX4_as_X1_isKind : GoodIn wsX4_as (va_wsS RX4 44 yX1_isKind wsX1_isKind) := goodIn_app (goodIn_of _ (by decide +kernel)) ggX4_as_X1_isKind
set_option maxRecDepth 20000 in
theorem ggX4_as_X4_found : GoodIn wsX4_as wsX4_found := goodIn_r _ [18, 1, 19, 7, 8, 9, 10, 31, 32, 33, 34, 35, 36, 37] (by decide +kernel) (by decide +kernel)
set_option maxRecDepth 20000 in
theorem gX4_as_X4_found : GoodIn wsX4_as (wsV RX4 54 RX4 yX4_found wsX4_found) := goodIn_app (goodIn_of _ (by decide +kernel)) ggX4_as_X4_found
set_option maxRecDepth 20000 in
theorem ggX4_as_X0_isDeed : GoodIn wsX4_as wsX0_isDeed := goodIn_r _ [24, 25, 8, 9, 10, 38, 39, 40, 41, 42, 43, 44, 45, 46, 47, 48, 49, 50, 51, 52] (by decide +kernel) (by decide +kernel)
set_option maxRecDepth 20000 in
theorem gX4_as_X0_isDeed : GoodIn wsX4_as (wsV RX4 67 RX0 yX0_isDeed wsX0_isDeed) := goodIn_app (goodIn_of _ (by decide +kernel)) ggX4_as_X0_isDeed
set_option maxRecDepth 20000 in
theorem ggX4_as_X1_isOneOf : GoodIn wsX4_as wsX1_isOneOf := goodIn_r _ [28, 29, 30, 12, 13, 14, 8, 9, 10] (by decide +kernel) (by decide +kernel)
set_option maxRecDepth 20000 in
theorem gX4_as_X1_isOneOf : GoodIn wsX4_as (va_wsS RX4 269 yX1_isOneOf wsX1_isOneOf) := goodIn_app (goodIn_of _ (by decide +kernel)) ggX4_as_X1_isOneOf
theorem dX4_as_0 : decode cX4_as 0 = .ok (.iload_n 1, 1) := by decide +kernel
theorem dX4_as_1 : decode cX4_as 1 = .ok (.iconst 0, 1) := by decide +kernel
theorem dX4_as_2 : decode cX4_as 2 = .ok (.bipush 9, 2) := by decide +kernel
theorem dX4_as_4 : decode cX4_as 4 = .ok (.invokestatic 115, 3) := by decide +kernel
theorem dX4_as_7 : decode cX4_as 7 = .ok (.ifCond .eq 10, 3) := by decide +kernel
theorem dX4_as_10 : decode cX4_as 10 = .ok (.iload_n 2, 1) := by decide +kernel
theorem dX4_as_11 : decode cX4_as 11 = .ok (.invokestatic 44, 3) := by decide +kernel
theorem dX4_as_14 : decode cX4_as 14 = .ok (.ifCond .ne 10, 3) := by decide +kernel
theorem dX4_as_17 : decode cX4_as 17 = .ok (.aload_n 0, 1) := by decide +kernel
theorem dX4_as_18 : decode cX4_as 18 = .ok (.ldc 53, 2) := by decide +kernel
theorem dX4_as_20 : decode cX4_as 20 = .ok (.invokevirtual 54, 3) := by decide +kernel
theorem dX4_as_23 : decode cX4_as 23 = .ok (.ireturn, 1) := by decide +kernel
theorem dX4_as_24 : decode cX4_as 24 = .ok (.aload_n 0, 1) := by decide +kernel
theorem dX4_as_25 : decode cX4_as 25 = .ok (.getfield 12, 3) := by decide +kernel
theorem dX4_as_28 : decode cX4_as 28 = .ok (.getfield 265, 3) := by decide +kernel
theorem dX4_as_31 : decode cX4_as 31 = .ok (.iload_n 1, 1) := by decide +kernel
theorem dX4_as_32 : decode cX4_as 32 = .ok (.iaload, 1) := by decide +kernel
theorem dX4_as_33 : decode cX4_as 33 = .ok (.istore_n 3, 1) := by decide +kernel
theorem dX4_as_34 : decode cX4_as 34 = .ok (.aload_n 0, 1) := by decide +kernel
theorem dX4_as_35 : decode cX4_as 35 = .ok (.getfield 12, 3) := by decide +kernel
theorem dX4_as_38 : decode cX4_as 38 = .ok (.iload_n 3, 1) := by decide +kernel
theorem dX4_as_39 : decode cX4_as 39 = .ok (.invokevirtual 67, 3) := by decide +kernel
theorem dX4_as_42 : decode cX4_as 42 = .ok (.ifCond .ne 11, 3) := by decide +kernel
theorem dX4_as_45 : decode cX4_as 45 = .ok (.aload_n 0, 1) := by decide +kernel
theorem dX4_as_46 : decode cX4_as 46 = .ok (.ldc_w 268, 3) := by decide +kernel
theorem dX4_as_49 : decode cX4_as 49 = .ok (.invokevirtual 54, 3) := by decide +kernel
theorem dX4_as_52 : decode cX4_as 52 = .ok (.ireturn, 1) := by decide +kernel
theorem dX4_as_53 : decode cX4_as 53 = .ok (.aload_n 0, 1) := by decide +kernel
theorem dX4_as_54 : decode cX4_as 54 = .ok (.getfield 12, 3) := by decide +kernel
theorem dX4_as_57 : decode cX4_as 57 = .ok (.getfield 70, 3) := by decide +kernel
theorem dX4_as_60 : decode cX4_as 60 = .ok (.iload_n 3, 1) := by decide +kernel
theorem dX4_as_61 : decode cX4_as 61 = .ok (.iaload, 1) := by decide +kernel
theorem dX4_as_62 : decode cX4_as 62 = .ok (.iload_n 2, 1) := by decide +kernel
theorem dX4_as_63 : decode cX4_as 63 = .ok (.invokestatic 269, 3) := by decide +kernel
theorem dX4_as_66 : decode cX4_as 66 = .ok (.ifCond .eq 7, 3) := by decide +kernel
theorem dX4_as_69 : decode cX4_as 69 = .ok (.iload_n 3, 1) := by decide +kernel
theorem dX4_as_70 : decode cX4_as 70 = .ok (.goto 10, 3) := by decide +kernel
theorem dX4_as_73 : decode cX4_as 73 = .ok (.aload_n 0, 1) := by decide +kernel
theorem dX4_as_74 : decode cX4_as 74 = .ok (.ldc_w 272, 3) := by decide +kernel
theorem dX4_as_77 : decode cX4_as 77 = .ok (.invokevirtual 54, 3) := by decide +kernel
theorem dX4_as_80 : decode cX4_as 80 = .ok (.ireturn, 1) := by decide +kernel
set_option maxRecDepth 20000 in
theorem ggX4_sheet_X4_isSheet : GoodIn wsX4_sheet wsX4_isSheet := goodIn_r _ [8, 9, 10, 7, 11] (by decide +kernel) (by decide +kernel)
set_option maxRecDepth 20000 in
theorem gX4_sheet_X4_isSheet : GoodIn wsX4_sheet (va_wsS RX4 273 yX4_isSheet wsX4_isSheet) := goodIn_app (goodIn_of _ (by decide +kernel)) ggX4_sheet_X4_isSheet
set_option maxRecDepth 20000 in
theorem ggX4_sheet_X4_found : GoodIn wsX4_sheet wsX4_found := goodIn_r _ [15, 1, 16, 9, 10, 7, 11, 25, 26, 27, 28, 29, 30, 31] (by decide +kernel) (by decide +kernel)
set_option maxRecDepth 20000 in
theorem gX4_sheet_X4_found : GoodIn wsX4_sheet (wsV RX4 54 RX4 yX4_found wsX4_found) := goodIn_app (goodIn_of _ (by decide +kernel)) ggX4_sheet_X4_found
set_option maxRecDepth 20000 in
theorem ggX4_sheet_X2_makeAnew : GoodIn wsX4_sheet wsX2_makeAnew := goodIn_r _ [21, 22, 23, 24, 32, 33, 34] (by decide +kernel) (by decide +kernel)
set_option maxRecDepth 20000 in
theorem gX4_sheet_X2_makeAnew : GoodIn wsX4_sheet (wsV RX4 277 RX2 yX2_makeAnew wsX2_makeAnew) := goodIn_app (goodIn_of _ (by decide +kernel)) ggX4_sheet_X2_makeAnew
theorem dX4_sheet_0 : decode cX4_sheet 0 = .ok (.iload_n 1, 1) := by decide +kernel
theorem dX4_sheet_1 : decode cX4_sheet 1 = .ok (.invokestatic 273, 3) := by decide +kernel
theorem dX4_sheet_4 : decode cX4_sheet 4 = .ok (.ifCond .eq 25, 3) := by decide +kernel
theorem dX4_sheet_7 : decode cX4_sheet 7 = .ok (.iload_n 2, 1) := by decide +kernel
theorem dX4_sheet_8 : decode cX4_sheet 8 = .ok (.ifCond .eq 28, 3) := by decide +kernel
theorem dX4_sheet_11 : decode cX4_sheet 11 = .ok (.iload_n 2, 1) := by decide +kernel
theorem dX4_sheet_12 : decode cX4_sheet 12 = .ok (.bipush 8, 2) := by decide +kernel
theorem dX4_sheet_14 : decode cX4_sheet 14 = .ok (.if_icmp .eq 22, 3) := by decide +kernel
theorem dX4_sheet_17 : decode cX4_sheet 17 = .ok (.iload_n 2, 1) := by decide +kernel
theorem dX4_sheet_18 : decode cX4_sheet 18 = .ok (.bipush 16, 2) := by decide +kernel
theorem dX4_sheet_20 : decode cX4_sheet 20 = .ok (.if_icmp .eq 16, 3) := by decide +kernel
theorem dX4_sheet_23 : decode cX4_sheet 23 = .ok (.iload_n 2, 1) := by decide +kernel
theorem dX4_sheet_24 : decode cX4_sheet 24 = .ok (.bipush 32, 2) := by decide +kernel
theorem dX4_sheet_26 : decode cX4_sheet 26 = .ok (.if_icmp .eq 10, 3) := by decide +kernel
theorem dX4_sheet_29 : decode cX4_sheet 29 = .ok (.aload_n 0, 1) := by decide +kernel
theorem dX4_sheet_30 : decode cX4_sheet 30 = .ok (.ldc 53, 2) := by decide +kernel
theorem dX4_sheet_32 : decode cX4_sheet 32 = .ok (.invokevirtual 54, 3) := by decide +kernel
theorem dX4_sheet_35 : decode cX4_sheet 35 = .ok (.ireturn, 1) := by decide +kernel
theorem dX4_sheet_36 : decode cX4_sheet 36 = .ok (.iload_n 3, 1) := by decide +kernel
theorem dX4_sheet_37 : decode cX4_sheet 37 = .ok (.ifCond .ge 11, 3) := by decide +kernel
theorem dX4_sheet_40 : decode cX4_sheet 40 = .ok (.aload_n 0, 1) := by decide +kernel
theorem dX4_sheet_41 : decode cX4_sheet 41 = .ok (.ldc_w 276, 3) := by decide +kernel
theorem dX4_sheet_44 : decode cX4_sheet 44 = .ok (.invokevirtual 54, 3) := by decide +kernel
theorem dX4_sheet_47 : decode cX4_sheet 47 = .ok (.ireturn, 1) := by decide +kernel
theorem dX4_sheet_48 : decode cX4_sheet 48 = .ok (.iload_n 3, 1) := by decide +kernel
theorem dX4_sheet_49 : decode cX4_sheet 49 = .ok (.bipush 40, 2) := by decide +kernel
theorem dX4_sheet_51 : decode cX4_sheet 51 = .ok (.if_icmp .le 10, 3) := by decide +kernel
theorem dX4_sheet_54 : decode cX4_sheet 54 = .ok (.aload_n 0, 1) := by decide +kernel
theorem dX4_sheet_55 : decode cX4_sheet 55 = .ok (.ldc 53, 2) := by decide +kernel
theorem dX4_sheet_57 : decode cX4_sheet 57 = .ok (.invokevirtual 54, 3) := by decide +kernel
theorem dX4_sheet_60 : decode cX4_sheet 60 = .ok (.ireturn, 1) := by decide +kernel
theorem dX4_sheet_61 : decode cX4_sheet 61 = .ok (.aload_n 0, 1) := by decide +kernel
theorem dX4_sheet_62 : decode cX4_sheet 62 = .ok (.getfield 35, 3) := by decide +kernel
theorem dX4_sheet_65 : decode cX4_sheet 65 = .ok (.iload_n 1, 1) := by decide +kernel
theorem dX4_sheet_66 : decode cX4_sheet 66 = .ok (.aaload, 1) := by decide +kernel
theorem dX4_sheet_67 : decode cX4_sheet 67 = .ok (.iload_n 2, 1) := by decide +kernel
theorem dX4_sheet_68 : decode cX4_sheet 68 = .ok (.iload_n 3, 1) := by decide +kernel
theorem dX4_sheet_69 : decode cX4_sheet 69 = .ok (.invokevirtual 277, 3) := by decide +kernel
theorem dX4_sheet_72 : decode cX4_sheet 72 = .ok (.aload_n 0, 1) := by decide +kernel
theorem dX4_sheet_73 : decode cX4_sheet 73 = .ok (.getfield 35, 3) := by decide +kernel
theorem dX4_sheet_76 : decode cX4_sheet 76 = .ok (.iload_n 1, 1) := by decide +kernel
theorem dX4_sheet_77 : decode cX4_sheet 77 = .ok (.aaload, 1) := by decide +kernel
theorem dX4_sheet_78 : decode cX4_sheet 78 = .ok (.getfield 280, 3) := by decide +kernel
theorem dX4_sheet_81 : decode cX4_sheet 81 = .ok (.ireturn, 1) := by decide +kernel
set_option maxRecDepth 20000 in
theorem ggX4_write_X4_refusalOfSheet : GoodIn wsX4_write wsX4_refusalOfSheet := goodIn_r _ [9, 3, 1, 10, 11, 12, 8, 13, 14, 15, 16, 17, 18, 19, 20, 21, 22, 32, 33, 34, 35, 36, 37, 38, 39, 40, 41] (by decide +kernel) (by decide +kernel)
set_option maxRecDepth 20000 in
theorem gX4_write_X4_refusalOfSheet : GoodIn wsX4_write (wsV RX4 283 RX4 yX4_refusalOfSheet wsX4_refusalOfSheet) := goodIn_app (goodIn_of _ (by decide +kernel)) ggX4_write_X4_refusalOfSheet
set_option maxRecDepth 20000 in
theorem ggX4_write_X4_found : GoodIn wsX4_write wsX4_found := goodIn_r _ [26, 3, 27, 14, 15, 8, 16, 32, 33, 34, 35, 36, 37, 38] (by decide +kernel) (by decide +kernel)
set_option maxRecDepth 20000 in
theorem gX4_write_X4_found : GoodIn wsX4_write (wsV RX4 54 RX4 yX4_found wsX4_found) := goodIn_app (goodIn_of _ (by decide +kernel)) ggX4_write_X4_found
set_option maxRecDepth 20000 in
theorem ggX4_write_X4_isWithin : GoodIn wsX4_write wsX4_isWithin := goodIn_r _ [16] (by decide +kernel) (by decide +kernel)
set_option maxRecDepth 20000 in
theorem gX4_write_X4_isWithin : GoodIn wsX4_write (va_wsS RX4 115 yX4_isWithin wsX4_isWithin) := goodIn_app (goodIn_of _ (by decide +kernel)) ggX4_write_X4_isWithin
set_option maxRecDepth 20000 in
theorem ggX4_write_X2_lowestBits : GoodIn wsX4_write wsX2_lowestBits := goodIn_r _ [31, 22, 39, 40, 41] (by decide +kernel) (by decide +kernel)
set_option maxRecDepth 20000 in
theorem gX4_write_X2_lowestBits : GoodIn wsX4_write (wsV RX4 289 RX2 yX2_lowestBits wsX2_lowestBits) := goodIn_app (goodIn_of _ (by decide +kernel)) ggX4_write_X2_lowestBits
theorem dX4_write_0 : decode cX4_write 0 = .ok (.aload_n 0, 1) := by decide +kernel
theorem dX4_write_1 : decode cX4_write 1 = .ok (.iload_n 1, 1) := by decide +kernel
theorem dX4_write_2 : decode cX4_write 2 = .ok (.invokevirtual 283, 3) := by decide +kernel
theorem dX4_write_5 : decode cX4_write 5 = .ok (.istore 4, 2) := by decide +kernel
theorem dX4_write_7 : decode cX4_write 7 = .ok (.iload 4, 2) := by decide +kernel
theorem dX4_write_9 : decode cX4_write 9 = .ok (.ifCond .eq 10, 3) := by decide +kernel
theorem dX4_write_12 : decode cX4_write 12 = .ok (.aload_n 0, 1) := by decide +kernel
theorem dX4_write_13 : decode cX4_write 13 = .ok (.iload 4, 2) := by decide +kernel
theorem dX4_write_15 : decode cX4_write 15 = .ok (.invokevirtual 54, 3) := by decide +kernel
theorem dX4_write_18 : decode cX4_write 18 = .ok (.ireturn, 1) := by decide +kernel
theorem dX4_write_19 : decode cX4_write 19 = .ok (.iload_n 2, 1) := by decide +kernel
theorem dX4_write_20 : decode cX4_write 20 = .ok (.iconst 0, 1) := by decide +kernel
theorem dX4_write_21 : decode cX4_write 21 = .ok (.aload_n 0, 1) := by decide +kernel
theorem dX4_write_22 : decode cX4_write 22 = .ok (.getfield 35, 3) := by decide +kernel
theorem dX4_write_25 : decode cX4_write 25 = .ok (.iload_n 1, 1) := by decide +kernel
theorem dX4_write_26 : decode cX4_write 26 = .ok (.aaload, 1) := by decide +kernel
theorem dX4_write_27 : decode cX4_write 27 = .ok (.getfield 280, 3) := by decide +kernel
theorem dX4_write_30 : decode cX4_write 30 = .ok (.iconst 1, 1) := by decide +kernel
theorem dX4_write_31 : decode cX4_write 31 = .ok (.isub, 1) := by decide +kernel
theorem dX4_write_32 : decode cX4_write 32 = .ok (.invokestatic 115, 3) := by decide +kernel
theorem dX4_write_35 : decode cX4_write 35 = .ok (.ifCond .ne 10, 3) := by decide +kernel
theorem dX4_write_38 : decode cX4_write 38 = .ok (.aload_n 0, 1) := by decide +kernel
theorem dX4_write_39 : decode cX4_write 39 = .ok (.ldc 53, 2) := by decide +kernel
theorem dX4_write_41 : decode cX4_write 41 = .ok (.invokevirtual 54, 3) := by decide +kernel
theorem dX4_write_44 : decode cX4_write 44 = .ok (.ireturn, 1) := by decide +kernel
theorem dX4_write_45 : decode cX4_write 45 = .ok (.aload_n 0, 1) := by decide +kernel
theorem dX4_write_46 : decode cX4_write 46 = .ok (.getfield 35, 3) := by decide +kernel
theorem dX4_write_49 : decode cX4_write 49 = .ok (.iload_n 1, 1) := by decide +kernel
theorem dX4_write_50 : decode cX4_write 50 = .ok (.aaload, 1) := by decide +kernel
theorem dX4_write_51 : decode cX4_write 51 = .ok (.getfield 286, 3) := by decide +kernel
theorem dX4_write_54 : decode cX4_write 54 = .ok (.iload_n 2, 1) := by decide +kernel
theorem dX4_write_55 : decode cX4_write 55 = .ok (.aload_n 0, 1) := by decide +kernel
theorem dX4_write_56 : decode cX4_write 56 = .ok (.getfield 35, 3) := by decide +kernel
theorem dX4_write_59 : decode cX4_write 59 = .ok (.iload_n 1, 1) := by decide +kernel
theorem dX4_write_60 : decode cX4_write 60 = .ok (.aaload, 1) := by decide +kernel
theorem dX4_write_61 : decode cX4_write 61 = .ok (.iload_n 3, 1) := by decide +kernel
theorem dX4_write_62 : decode cX4_write 62 = .ok (.invokevirtual 289, 3) := by decide +kernel
theorem dX4_write_65 : decode cX4_write 65 = .ok (.iastore, 1) := by decide +kernel
theorem dX4_write_66 : decode cX4_write 66 = .ok (.iconst 1, 1) := by decide +kernel
theorem dX4_write_67 : decode cX4_write 67 = .ok (.ireturn, 1) := by decide +kernel
set_option maxRecDepth 20000 in
theorem ggX4_copy_X4_isSheet : GoodIn wsX4_copy wsX4_isSheet := goodIn_r _ [14, 15, 16, 13, 17] (by decide +kernel) (by decide +kernel)
set_option maxRecDepth 20000 in
theorem gX4_copy_X4_isSheet : GoodIn wsX4_copy (va_wsS RX4 273 yX4_isSheet wsX4_isSheet) := goodIn_app (goodIn_of _ (by decide +kernel)) ggX4_copy_X4_isSheet
set_option maxRecDepth 20000 in
theorem ggX4_copy_X4_found : GoodIn wsX4_copy wsX4_found := goodIn_r _ [21, 1, 22, 15, 16, 13, 17, 34, 35, 36, 37, 38, 39, 40] (by decide +kernel) (by decide +kernel)
set_option maxRecDepth 20000 in
theorem gX4_copy_X4_found : GoodIn wsX4_copy (wsV RX4 54 RX4 yX4_found wsX4_found) := goodIn_app (goodIn_of _ (by decide +kernel)) ggX4_copy_X4_found
set_option maxRecDepth 20000 in
theorem ggX4_copy_X2_isMissing : GoodIn wsX4_copy wsX2_isMissing := goodIn_r _ [27, 28, 41, 42, 43] (by decide +kernel) (by decide +kernel)
set_option maxRecDepth 20000 in
theorem gX4_copy_X2_isMissing : GoodIn wsX4_copy (wsV RX4 292 RX2 yX2_isMissing wsX2_isMissing) := goodIn_app (goodIn_of _ (by decide +kernel)) ggX4_copy_X2_isMissing
set_option maxRecDepth 20000 in
theorem ggX4_copy_X2_hasRange : GoodIn wsX4_copy wsX2_hasRange := goodIn_r _ [32, 33, 41, 42, 43] (by decide +kernel) (by decide +kernel)
set_option maxRecDepth 20000 in
theorem gX4_copy_X2_hasRange : GoodIn wsX4_copy (wsV RX4 298 RX2 yX2_hasRange wsX2_hasRange) := goodIn_app (goodIn_of _ (by decide +kernel)) ggX4_copy_X2_hasRange
theorem dX4_copy_0 : decode cX4_copy 0 = .ok (.iload_n 1, 1) := by decide +kernel
theorem dX4_copy_1 : decode cX4_copy 1 = .ok (.invokestatic 273, 3) := by decide +kernel
theorem dX4_copy_4 : decode cX4_copy 4 = .ok (.ifCond .eq 10, 3) := by decide +kernel
theorem dX4_copy_7 : decode cX4_copy 7 = .ok (.iload_n 3, 1) := by decide +kernel
theorem dX4_copy_8 : decode cX4_copy 8 = .ok (.invokestatic 273, 3) := by decide +kernel
theorem dX4_copy_11 : decode cX4_copy 11 = .ok (.ifCond .ne 10, 3) := by decide +kernel
theorem dX4_copy_14 : decode cX4_copy 14 = .ok (.aload_n 0, 1) := by decide +kernel
theorem dX4_copy_15 : decode cX4_copy 15 = .ok (.ldc 53, 2) := by decide +kernel
theorem dX4_copy_17 : decode cX4_copy 17 = .ok (.invokevirtual 54, 3) := by decide +kernel
theorem dX4_copy_20 : decode cX4_copy 20 = .ok (.ireturn, 1) := by decide +kernel
theorem dX4_copy_21 : decode cX4_copy 21 = .ok (.aload_n 0, 1) := by decide +kernel
theorem dX4_copy_22 : decode cX4_copy 22 = .ok (.getfield 35, 3) := by decide +kernel
theorem dX4_copy_25 : decode cX4_copy 25 = .ok (.iload_n 1, 1) := by decide +kernel
theorem dX4_copy_26 : decode cX4_copy 26 = .ok (.aaload, 1) := by decide +kernel
theorem dX4_copy_27 : decode cX4_copy 27 = .ok (.astore 6, 2) := by decide +kernel
theorem dX4_copy_29 : decode cX4_copy 29 = .ok (.aload_n 0, 1) := by decide +kernel
theorem dX4_copy_30 : decode cX4_copy 30 = .ok (.getfield 35, 3) := by decide +kernel
theorem dX4_copy_33 : decode cX4_copy 33 = .ok (.iload_n 3, 1) := by decide +kernel
theorem dX4_copy_34 : decode cX4_copy 34 = .ok (.aaload, 1) := by decide +kernel
theorem dX4_copy_35 : decode cX4_copy 35 = .ok (.astore 7, 2) := by decide +kernel
theorem dX4_copy_37 : decode cX4_copy 37 = .ok (.aload 6, 2) := by decide +kernel
theorem dX4_copy_39 : decode cX4_copy 39 = .ok (.invokevirtual 292, 3) := by decide +kernel
theorem dX4_copy_42 : decode cX4_copy 42 = .ok (.ifCond .ne 11, 3) := by decide +kernel
theorem dX4_copy_45 : decode cX4_copy 45 = .ok (.aload 7, 2) := by decide +kernel
theorem dX4_copy_47 : decode cX4_copy 47 = .ok (.invokevirtual 292, 3) := by decide +kernel
theorem dX4_copy_50 : decode cX4_copy 50 = .ok (.ifCond .eq 11, 3) := by decide +kernel
theorem dX4_copy_53 : decode cX4_copy 53 = .ok (.aload_n 0, 1) := by decide +kernel
theorem dX4_copy_54 : decode cX4_copy 54 = .ok (.ldc_w 268, 3) := by decide +kernel
theorem dX4_copy_57 : decode cX4_copy 57 = .ok (.invokevirtual 54, 3) := by decide +kernel
theorem dX4_copy_60 : decode cX4_copy 60 = .ok (.ireturn, 1) := by decide +kernel
theorem dX4_copy_61 : decode cX4_copy 61 = .ok (.aload 6, 2) := by decide +kernel
theorem dX4_copy_63 : decode cX4_copy 63 = .ok (.getfield 295, 3) := by decide +kernel
theorem dX4_copy_66 : decode cX4_copy 66 = .ok (.aload 7, 2) := by decide +kernel
theorem dX4_copy_68 : decode cX4_copy 68 = .ok (.getfield 295, 3) := by decide +kernel
theorem dX4_copy_71 : decode cX4_copy 71 = .ok (.if_icmp .eq 11, 3) := by decide +kernel
theorem dX4_copy_74 : decode cX4_copy 74 = .ok (.aload_n 0, 1) := by decide +kernel
theorem dX4_copy_75 : decode cX4_copy 75 = .ok (.ldc_w 272, 3) := by decide +kernel
theorem dX4_copy_78 : decode cX4_copy 78 = .ok (.invokevirtual 54, 3) := by decide +kernel
theorem dX4_copy_81 : decode cX4_copy 81 = .ok (.ireturn, 1) := by decide +kernel
theorem dX4_copy_82 : decode cX4_copy 82 = .ok (.aload 6, 2) := by decide +kernel
theorem dX4_copy_84 : decode cX4_copy 84 = .ok (.iload_n 2, 1) := by decide +kernel
theorem dX4_copy_85 : decode cX4_copy 85 = .ok (.iload 5, 2) := by decide +kernel
theorem dX4_copy_87 : decode cX4_copy 87 = .ok (.invokevirtual 298, 3) := by decide +kernel
theorem dX4_copy_90 : decode cX4_copy 90 = .ok (.ifCond .eq 15, 3) := by decide +kernel
theorem dX4_copy_93 : decode cX4_copy 93 = .ok (.aload 7, 2) := by decide +kernel
theorem dX4_copy_95 : decode cX4_copy 95 = .ok (.iload 4, 2) := by decide +kernel
theorem dX4_copy_97 : decode cX4_copy 97 = .ok (.iload 5, 2) := by decide +kernel
theorem dX4_copy_99 : decode cX4_copy 99 = .ok (.invokevirtual 298, 3) := by decide +kernel
theorem dX4_copy_102 : decode cX4_copy 102 = .ok (.ifCond .ne 10, 3) := by decide +kernel
theorem dX4_copy_105 : decode cX4_copy 105 = .ok (.aload_n 0, 1) := by decide +kernel
theorem dX4_copy_106 : decode cX4_copy 106 = .ok (.ldc 53, 2) := by decide +kernel
theorem dX4_copy_108 : decode cX4_copy 108 = .ok (.invokevirtual 54, 3) := by decide +kernel
theorem dX4_copy_111 : decode cX4_copy 111 = .ok (.ireturn, 1) := by decide +kernel
theorem dX4_copy_112 : decode cX4_copy 112 = .ok (.aload 6, 2) := by decide +kernel
theorem dX4_copy_114 : decode cX4_copy 114 = .ok (.getfield 286, 3) := by decide +kernel
theorem dX4_copy_117 : decode cX4_copy 117 = .ok (.iload_n 2, 1) := by decide +kernel
theorem dX4_copy_118 : decode cX4_copy 118 = .ok (.aload 7, 2) := by decide +kernel
theorem dX4_copy_120 : decode cX4_copy 120 = .ok (.getfield 286, 3) := by decide +kernel
theorem dX4_copy_123 : decode cX4_copy 123 = .ok (.iload 4, 2) := by decide +kernel
theorem dX4_copy_125 : decode cX4_copy 125 = .ok (.iload 5, 2) := by decide +kernel
theorem dX4_copy_127 : decode cX4_copy 127 = .ok (.invokestatic 301, 3) := by decide +kernel
theorem dX4_copy_130 : decode cX4_copy 130 = .ok (.iload 5, 2) := by decide +kernel
theorem dX4_copy_132 : decode cX4_copy 132 = .ok (.ireturn, 1) := by decide +kernel
set_option maxRecDepth 20000 in
theorem ggX4_load_X4_refusalOfSheet : GoodIn wsX4_load wsX4_refusalOfSheet := goodIn_r _ [11, 12, 1, 13, 14, 15, 10, 16, 17, 18, 19, 20, 21, 22, 23, 24, 25, 34, 35, 36, 37, 38, 39, 40, 41, 42, 43] (by decide +kernel) (by decide +kernel)
set_option maxRecDepth 20000 in
theorem gX4_load_X4_refusalOfSheet : GoodIn wsX4_load (wsV RX4 283 RX4 yX4_refusalOfSheet wsX4_refusalOfSheet) := goodIn_app (goodIn_of _ (by decide +kernel)) ggX4_load_X4_refusalOfSheet
set_option maxRecDepth 20000 in
theorem ggX4_load_X4_found : GoodIn wsX4_load wsX4_found := goodIn_r _ [29, 12, 30, 17, 18, 10, 19, 34, 35, 36, 37, 38, 39, 40] (by decide +kernel) (by decide +kernel)
set_option maxRecDepth 20000 in
theorem gX4_load_X4_found : GoodIn wsX4_load (wsV RX4 54 RX4 yX4_found wsX4_found) := goodIn_app (goodIn_of _ (by decide +kernel)) ggX4_load_X4_found
set_option maxRecDepth 20000 in
theorem ggX4_load_X4_isWax : GoodIn wsX4_load wsX4_isWax := goodIn_r _ [33, 17, 18, 10, 19] (by decide +kernel) (by decide +kernel)
set_option maxRecDepth 20000 in
theorem gX4_load_X4_isWax : GoodIn wsX4_load (va_wsS RX4 112 yX4_isWax wsX4_isWax) := goodIn_app (goodIn_of _ (by decide +kernel)) ggX4_load_X4_isWax
theorem dX4_load_0 : decode cX4_load 0 = .ok (.aload_n 0, 1) := by decide +kernel
theorem dX4_load_1 : decode cX4_load 1 = .ok (.iload_n 1, 1) := by decide +kernel
theorem dX4_load_2 : decode cX4_load 2 = .ok (.invokevirtual 283, 3) := by decide +kernel
theorem dX4_load_5 : decode cX4_load 5 = .ok (.istore_n 2, 1) := by decide +kernel
theorem dX4_load_6 : decode cX4_load 6 = .ok (.iload_n 2, 1) := by decide +kernel
theorem dX4_load_7 : decode cX4_load 7 = .ok (.ifCond .eq 9, 3) := by decide +kernel
theorem dX4_load_10 : decode cX4_load 10 = .ok (.aload_n 0, 1) := by decide +kernel
theorem dX4_load_11 : decode cX4_load 11 = .ok (.iload_n 2, 1) := by decide +kernel
theorem dX4_load_12 : decode cX4_load 12 = .ok (.invokevirtual 54, 3) := by decide +kernel
theorem dX4_load_15 : decode cX4_load 15 = .ok (.ireturn, 1) := by decide +kernel
theorem dX4_load_16 : decode cX4_load 16 = .ok (.aload_n 0, 1) := by decide +kernel
theorem dX4_load_17 : decode cX4_load 17 = .ok (.getfield 35, 3) := by decide +kernel
theorem dX4_load_20 : decode cX4_load 20 = .ok (.iload_n 1, 1) := by decide +kernel
theorem dX4_load_21 : decode cX4_load 21 = .ok (.aaload, 1) := by decide +kernel
theorem dX4_load_22 : decode cX4_load 22 = .ok (.astore_n 3, 1) := by decide +kernel
theorem dX4_load_23 : decode cX4_load 23 = .ok (.iconst 0, 1) := by decide +kernel
theorem dX4_load_24 : decode cX4_load 24 = .ok (.istore 4, 2) := by decide +kernel
theorem dX4_load_26 : decode cX4_load 26 = .ok (.iload 4, 2) := by decide +kernel
theorem dX4_load_28 : decode cX4_load 28 = .ok (.aload_n 3, 1) := by decide +kernel
theorem dX4_load_29 : decode cX4_load 29 = .ok (.getfield 280, 3) := by decide +kernel
theorem dX4_load_32 : decode cX4_load 32 = .ok (.if_icmp .ge 51, 3) := by decide +kernel
theorem dX4_load_35 : decode cX4_load 35 = .ok (.iload 4, 2) := by decide +kernel
theorem dX4_load_37 : decode cX4_load 37 = .ok (.aload_n 0, 1) := by decide +kernel
theorem dX4_load_38 : decode cX4_load 38 = .ok (.getfield 12, 3) := by decide +kernel
theorem dX4_load_41 : decode cX4_load 41 = .ok (.getfield 151, 3) := by decide +kernel
theorem dX4_load_44 : decode cX4_load 44 = .ok (.if_icmp .ge 39, 3) := by decide +kernel
theorem dX4_load_47 : decode cX4_load 47 = .ok (.aload_n 3, 1) := by decide +kernel
theorem dX4_load_48 : decode cX4_load 48 = .ok (.getfield 286, 3) := by decide +kernel
theorem dX4_load_51 : decode cX4_load 51 = .ok (.iload 4, 2) := by decide +kernel
theorem dX4_load_53 : decode cX4_load 53 = .ok (.iaload, 1) := by decide +kernel
theorem dX4_load_54 : decode cX4_load 54 = .ok (.invokestatic 112, 3) := by decide +kernel
theorem dX4_load_57 : decode cX4_load 57 = .ok (.ifCond .eq 26, 3) := by decide +kernel
theorem dX4_load_60 : decode cX4_load 60 = .ok (.aload_n 0, 1) := by decide +kernel
theorem dX4_load_61 : decode cX4_load 61 = .ok (.getfield 12, 3) := by decide +kernel
theorem dX4_load_64 : decode cX4_load 64 = .ok (.getfield 76, 3) := by decide +kernel
theorem dX4_load_67 : decode cX4_load 67 = .ok (.iload 4, 2) := by decide +kernel
theorem dX4_load_69 : decode cX4_load 69 = .ok (.aload_n 3, 1) := by decide +kernel
theorem dX4_load_70 : decode cX4_load 70 = .ok (.getfield 286, 3) := by decide +kernel
theorem dX4_load_73 : decode cX4_load 73 = .ok (.iload 4, 2) := by decide +kernel
theorem dX4_load_75 : decode cX4_load 75 = .ok (.iaload, 1) := by decide +kernel
theorem dX4_load_76 : decode cX4_load 76 = .ok (.iastore, 1) := by decide +kernel
theorem dX4_load_77 : decode cX4_load 77 = .ok (.iinc 4 1, 3) := by decide +kernel
theorem dX4_load_80 : decode cX4_load 80 = .ok (.goto (-54), 3) := by decide +kernel
theorem dX4_load_83 : decode cX4_load 83 = .ok (.iload 4, 2) := by decide +kernel
theorem dX4_load_85 : decode cX4_load 85 = .ok (.ireturn, 1) := by decide +kernel
set_option maxRecDepth 20000 in
theorem ggX4_judge_X4_refusalOfSheet : GoodIn wsX4_judge wsX4_refusalOfSheet := goodIn_r _ [13, 3, 1, 14, 15, 16, 12, 17, 18, 19, 20, 21, 22, 23, 24, 25, 26, 112, 113, 114, 115, 116, 117, 118, 119, 120, 121] (by decide +kernel) (by decide +kernel)
set_option maxRecDepth 20000 in
theorem gX4_judge_X4_refusalOfSheet : GoodIn wsX4_judge (wsV RX4 283 RX4 yX4_refusalOfSheet wsX4_refusalOfSheet) := goodIn_app (goodIn_of _ (by decide +kernel)) ggX4_judge_X4_refusalOfSheet
set_option maxRecDepth 20000 in
theorem ggX4_judge_X4_found : GoodIn wsX4_judge wsX4_found := goodIn_r _ [30, 3, 31, 18, 19, 12, 20, 112, 113, 114, 115, 116, 117, 118] (by decide +kernel) (by decide +kernel)
set_option maxRecDepth 20000 in
theorem gX4_judge_X4_found : GoodIn wsX4_judge (wsV RX4 54 RX4 yX4_found wsX4_found) := goodIn_app (goodIn_of _ (by decide +kernel)) ggX4_judge_X4_found
set_option maxRecDepth 20000 in
theorem ggX4_judge_X0_isDeed : GoodIn wsX4_judge wsX0_isDeed := goodIn_r _ [36, 37, 19, 12, 20, 122, 123, 124, 125, 126, 127, 128, 129, 130, 131, 132, 133, 134, 135, 136] (by decide +kernel) (by decide +kernel)
set_option maxRecDepth 20000 in
theorem gX4_judge_X0_isDeed : GoodIn wsX4_judge (wsV RX4 67 RX0 yX0_isDeed wsX0_isDeed) := goodIn_app (goodIn_of _ (by decide +kernel)) ggX4_judge_X0_isDeed
set_option maxRecDepth 20000 in
theorem ggX4_judge_X4_isTooLate : GoodIn wsX4_judge wsX4_isTooLate := goodIn_r _ [41, 2, 42, 112, 113, 114, 115, 116, 117, 118, 122, 123, 124, 125, 126, 127, 128, 129, 130, 131, 132, 133, 134, 135, 136] (by decide +kernel) (by decide +kernel)
set_option maxRecDepth 20000 in
theorem gX4_judge_X4_isTooLate : GoodIn wsX4_judge (wsV RX4 176 RX4 yX4_isTooLate wsX4_isTooLate) := goodIn_app (goodIn_of _ (by decide +kernel)) ggX4_judge_X4_isTooLate
set_option maxRecDepth 20000 in
theorem ggX4_judge_X0_take : GoodIn wsX4_judge wsX0_take := goodIn_r _ [46, 47, 48, 49, 50, 51, 52, 53, 54, 55, 56, 57, 58, 37, 59, 60, 61, 62, 63, 122, 123, 124, 125, 126, 127, 128, 129, 130, 131, 132, 133, 134, 135, 136] (by decide +kernel) (by decide +kernel)
set_option maxRecDepth 20000 in
theorem gX4_judge_X0_take : GoodIn wsX4_judge (wsV RX4 180 RX0 yX0_take wsX0_take) := goodIn_app (goodIn_of _ (by decide +kernel)) ggX4_judge_X0_take
set_option maxRecDepth 20000 in
theorem ggX4_judge_X0_pass : GoodIn wsX4_judge wsX0_pass := goodIn_r _ [67, 68, 69, 70, 35, 71, 61, 72, 37, 58, 52, 56, 73, 74, 75, 76, 77, 78, 79, 80, 81, 82, 83, 62, 59, 60, 84, 12, 85, 86, 87, 88, 89, 47, 53, 54, 90, 91, 92, 93, 94, 95, 96, 97, 98, 99, 100, 101, 102, 103, 104, 105, 106, 107, 108, 109, 110, 111, 122, 123, 124, 125, 126, 127, 128, 129, 130, 131, 132, 133, 134, 135, 136] (by decide +kernel) (by decide +kernel)
set_option maxRecDepth 20000 in
theorem gX4_judge_X0_pass : GoodIn wsX4_judge (wsV RX4 160 RX0 yX0_pass wsX0_pass) := goodIn_app (goodIn_of _ (by decide +kernel)) ggX4_judge_X0_pass
theorem dX4_judge_0 : decode cX4_judge 0 = .ok (.aload_n 0, 1) := by decide +kernel
theorem dX4_judge_1 : decode cX4_judge 1 = .ok (.iload_n 1, 1) := by decide +kernel
theorem dX4_judge_2 : decode cX4_judge 2 = .ok (.invokevirtual 283, 3) := by decide +kernel
theorem dX4_judge_5 : decode cX4_judge 5 = .ok (.istore_n 3, 1) := by decide +kernel
theorem dX4_judge_6 : decode cX4_judge 6 = .ok (.iload_n 3, 1) := by decide +kernel
theorem dX4_judge_7 : decode cX4_judge 7 = .ok (.ifCond .eq 9, 3) := by decide +kernel
theorem dX4_judge_10 : decode cX4_judge 10 = .ok (.aload_n 0, 1) := by decide +kernel
theorem dX4_judge_11 : decode cX4_judge 11 = .ok (.iload_n 3, 1) := by decide +kernel
theorem dX4_judge_12 : decode cX4_judge 12 = .ok (.invokevirtual 54, 3) := by decide +kernel
theorem dX4_judge_15 : decode cX4_judge 15 = .ok (.ireturn, 1) := by decide +kernel
theorem dX4_judge_16 : decode cX4_judge 16 = .ok (.aload_n 0, 1) := by decide +kernel
theorem dX4_judge_17 : decode cX4_judge 17 = .ok (.getfield 35, 3) := by decide +kernel
theorem dX4_judge_20 : decode cX4_judge 20 = .ok (.iload_n 1, 1) := by decide +kernel
theorem dX4_judge_21 : decode cX4_judge 21 = .ok (.aaload, 1) := by decide +kernel
theorem dX4_judge_22 : decode cX4_judge 22 = .ok (.astore 4, 2) := by decide +kernel
theorem dX4_judge_24 : decode cX4_judge 24 = .ok (.aload_n 0, 1) := by decide +kernel
theorem dX4_judge_25 : decode cX4_judge 25 = .ok (.getfield 12, 3) := by decide +kernel
theorem dX4_judge_28 : decode cX4_judge 28 = .ok (.iload_n 2, 1) := by decide +kernel
theorem dX4_judge_29 : decode cX4_judge 29 = .ok (.invokevirtual 67, 3) := by decide +kernel
theorem dX4_judge_32 : decode cX4_judge 32 = .ok (.ifCond .ne 10, 3) := by decide +kernel
theorem dX4_judge_35 : decode cX4_judge 35 = .ok (.aload_n 0, 1) := by decide +kernel
theorem dX4_judge_36 : decode cX4_judge 36 = .ok (.ldc 53, 2) := by decide +kernel
theorem dX4_judge_38 : decode cX4_judge 38 = .ok (.invokevirtual 54, 3) := by decide +kernel
theorem dX4_judge_41 : decode cX4_judge 41 = .ok (.ireturn, 1) := by decide +kernel
theorem dX4_judge_42 : decode cX4_judge 42 = .ok (.aload_n 0, 1) := by decide +kernel
theorem dX4_judge_43 : decode cX4_judge 43 = .ok (.aload 4, 2) := by decide +kernel
theorem dX4_judge_45 : decode cX4_judge 45 = .ok (.getfield 280, 3) := by decide +kernel
theorem dX4_judge_48 : decode cX4_judge 48 = .ok (.invokevirtual 176, 3) := by decide +kernel
theorem dX4_judge_51 : decode cX4_judge 51 = .ok (.ifCond .eq 10, 3) := by decide +kernel
theorem dX4_judge_54 : decode cX4_judge 54 = .ok (.aload_n 0, 1) := by decide +kernel
theorem dX4_judge_55 : decode cX4_judge 55 = .ok (.ldc 179, 2) := by decide +kernel
theorem dX4_judge_57 : decode cX4_judge 57 = .ok (.invokevirtual 54, 3) := by decide +kernel
theorem dX4_judge_60 : decode cX4_judge 60 = .ok (.ireturn, 1) := by decide +kernel
theorem dX4_judge_61 : decode cX4_judge 61 = .ok (.aload_n 0, 1) := by decide +kernel
theorem dX4_judge_62 : decode cX4_judge 62 = .ok (.getfield 16, 3) := by decide +kernel
theorem dX4_judge_65 : decode cX4_judge 65 = .ok (.aload_n 0, 1) := by decide +kernel
theorem dX4_judge_66 : decode cX4_judge 66 = .ok (.getfield 12, 3) := by decide +kernel
theorem dX4_judge_69 : decode cX4_judge 69 = .ok (.invokevirtual 180, 3) := by decide +kernel
theorem dX4_judge_72 : decode cX4_judge 72 = .ok (.iconst 0, 1) := by decide +kernel
theorem dX4_judge_73 : decode cX4_judge 73 = .ok (.istore 5, 2) := by decide +kernel
theorem dX4_judge_75 : decode cX4_judge 75 = .ok (.iload 5, 2) := by decide +kernel
theorem dX4_judge_77 : decode cX4_judge 77 = .ok (.aload 4, 2) := by decide +kernel
theorem dX4_judge_79 : decode cX4_judge 79 = .ok (.getfield 280, 3) := by decide +kernel
theorem dX4_judge_82 : decode cX4_judge 82 = .ok (.if_icmp .ge 43, 3) := by decide +kernel
theorem dX4_judge_85 : decode cX4_judge 85 = .ok (.aload_n 0, 1) := by decide +kernel
theorem dX4_judge_86 : decode cX4_judge 86 = .ok (.getfield 16, 3) := by decide +kernel
theorem dX4_judge_89 : decode cX4_judge 89 = .ok (.iconst 1, 1) := by decide +kernel
theorem dX4_judge_90 : decode cX4_judge 90 = .ok (.invokevirtual 160, 3) := by decide +kernel
theorem dX4_judge_93 : decode cX4_judge 93 = .ok (.pop, 1) := by decide +kernel
theorem dX4_judge_94 : decode cX4_judge 94 = .ok (.aload_n 0, 1) := by decide +kernel
theorem dX4_judge_95 : decode cX4_judge 95 = .ok (.getfield 16, 3) := by decide +kernel
theorem dX4_judge_98 : decode cX4_judge 98 = .ok (.getfield 79, 3) := by decide +kernel
theorem dX4_judge_101 : decode cX4_judge 101 = .ok (.iload_n 2, 1) := by decide +kernel
theorem dX4_judge_102 : decode cX4_judge 102 = .ok (.iaload, 1) := by decide +kernel
theorem dX4_judge_103 : decode cX4_judge 103 = .ok (.aload 4, 2) := by decide +kernel
theorem dX4_judge_105 : decode cX4_judge 105 = .ok (.getfield 286, 3) := by decide +kernel
theorem dX4_judge_108 : decode cX4_judge 108 = .ok (.iload 5, 2) := by decide +kernel
theorem dX4_judge_110 : decode cX4_judge 110 = .ok (.iaload, 1) := by decide +kernel
theorem dX4_judge_111 : decode cX4_judge 111 = .ok (.if_icmp .eq 8, 3) := by decide +kernel
theorem dX4_judge_114 : decode cX4_judge 114 = .ok (.iconst 1, 1) := by decide +kernel
theorem dX4_judge_115 : decode cX4_judge 115 = .ok (.iload 5, 2) := by decide +kernel
theorem dX4_judge_117 : decode cX4_judge 117 = .ok (.iadd, 1) := by decide +kernel
theorem dX4_judge_118 : decode cX4_judge 118 = .ok (.ireturn, 1) := by decide +kernel
theorem dX4_judge_119 : decode cX4_judge 119 = .ok (.iinc 5 1, 3) := by decide +kernel
theorem dX4_judge_122 : decode cX4_judge 122 = .ok (.goto (-47), 3) := by decide +kernel
theorem dX4_judge_125 : decode cX4_judge 125 = .ok (.iconst 0, 1) := by decide +kernel
theorem dX4_judge_126 : decode cX4_judge 126 = .ok (.ireturn, 1) := by decide +kernel
set_option maxRecDepth 20000 in
theorem ggX4_image_X0_take : GoodIn wsX4_image wsX0_take := goodIn_r _ [8, 9, 10, 11, 12, 13, 14, 15, 16, 17, 18, 19, 20, 21, 22, 23, 24, 25, 26, 34, 35, 36, 37, 38, 39, 40, 41, 42, 43, 44, 45, 46, 47, 48] (by decide +kernel) (by decide +kernel)
set_option maxRecDepth 20000 in
theorem gX4_image_X0_take : GoodIn wsX4_image (wsV RX4 180 RX0 yX0_take wsX0_take) := goodIn_app (goodIn_of _ (by decide +kernel)) ggX4_image_X0_take
theorem dX4_image_0 : decode cX4_image 0 = .ok (.aload_n 0, 1) := by decide +kernel
theorem dX4_image_1 : decode cX4_image 1 = .ok (.getfield 19, 3) := by decide +kernel
theorem dX4_image_4 : decode cX4_image 4 = .ok (.aload_n 0, 1) := by decide +kernel
theorem dX4_image_5 : decode cX4_image 5 = .ok (.getfield 12, 3) := by decide +kernel
theorem dX4_image_8 : decode cX4_image 8 = .ok (.invokevirtual 180, 3) := by decide +kernel
theorem dX4_image_11 : decode cX4_image 11 = .ok (.aload_n 0, 1) := by decide +kernel
theorem dX4_image_12 : decode cX4_image 12 = .ok (.iconst 1, 1) := by decide +kernel
theorem dX4_image_13 : decode cX4_image 13 = .ok (.putfield 22, 3) := by decide +kernel
theorem dX4_image_16 : decode cX4_image 16 = .ok (.iconst 1, 1) := by decide +kernel
theorem dX4_image_17 : decode cX4_image 17 = .ok (.ireturn, 1) := by decide +kernel
set_option maxRecDepth 20000 in
theorem ggX4_undo_X4_found : GoodIn wsX4_undo wsX4_found := goodIn_r _ [10, 11, 12, 13, 14, 9, 15, 39, 40, 41, 42, 43, 44, 45] (by decide +kernel) (by decide +kernel)
set_option maxRecDepth 20000 in
theorem gX4_undo_X4_found : GoodIn wsX4_undo (wsV RX4 54 RX4 yX4_found wsX4_found) := goodIn_app (goodIn_of _ (by decide +kernel)) ggX4_undo_X4_found
set_option maxRecDepth 20000 in
theorem ggX4_undo_X0_take : GoodIn wsX4_undo wsX0_take := goodIn_r _ [20, 21, 22, 23, 24, 25, 26, 27, 28, 29, 30, 31, 32, 33, 34, 35, 36, 37, 38, 46, 47, 48, 49, 50, 51, 52, 53, 54, 55, 56, 57, 58, 59, 60] (by decide +kernel) (by decide +kernel)
set_option maxRecDepth 20000 in
theorem gX4_undo_X0_take : GoodIn wsX4_undo (wsV RX4 180 RX0 yX0_take wsX0_take) := goodIn_app (goodIn_of _ (by decide +kernel)) ggX4_undo_X0_take
theorem dX4_undo_0 : decode cX4_undo 0 = .ok (.aload_n 0, 1) := by decide +kernel
theorem dX4_undo_1 : decode cX4_undo 1 = .ok (.getfield 22, 3) := by decide +kernel
theorem dX4_undo_4 : decode cX4_undo 4 = .ok (.ifCond .ne 10, 3) := by decide +kernel
theorem dX4_undo_7 : decode cX4_undo 7 = .ok (.aload_n 0, 1) := by decide +kernel
theorem dX4_undo_8 : decode cX4_undo 8 = .ok (.ldc 190, 2) := by decide +kernel
theorem dX4_undo_10 : decode cX4_undo 10 = .ok (.invokevirtual 54, 3) := by decide +kernel
theorem dX4_undo_13 : decode cX4_undo 13 = .ok (.ireturn, 1) := by decide +kernel
theorem dX4_undo_14 : decode cX4_undo 14 = .ok (.aload_n 0, 1) := by decide +kernel
theorem dX4_undo_15 : decode cX4_undo 15 = .ok (.getfield 12, 3) := by decide +kernel
theorem dX4_undo_18 : decode cX4_undo 18 = .ok (.aload_n 0, 1) := by decide +kernel
theorem dX4_undo_19 : decode cX4_undo 19 = .ok (.getfield 19, 3) := by decide +kernel
theorem dX4_undo_22 : decode cX4_undo 22 = .ok (.invokevirtual 180, 3) := by decide +kernel
theorem dX4_undo_25 : decode cX4_undo 25 = .ok (.aload_n 0, 1) := by decide +kernel
theorem dX4_undo_26 : decode cX4_undo 26 = .ok (.getfield 12, 3) := by decide +kernel
theorem dX4_undo_29 : decode cX4_undo 29 = .ok (.getfield 95, 3) := by decide +kernel
theorem dX4_undo_32 : decode cX4_undo 32 = .ok (.ireturn, 1) := by decide +kernel
theorem dX4_tear_0 : decode cX4_tear 0 = .ok (.aload_n 0, 1) := by decide +kernel
theorem dX4_tear_1 : decode cX4_tear 1 = .ok (.getfield 22, 3) := by decide +kernel
theorem dX4_tear_4 : decode cX4_tear 4 = .ok (.ifCond .eq 7, 3) := by decide +kernel
theorem dX4_tear_7 : decode cX4_tear 7 = .ok (.iconst 1, 1) := by decide +kernel
theorem dX4_tear_8 : decode cX4_tear 8 = .ok (.goto 4, 3) := by decide +kernel
theorem dX4_tear_11 : decode cX4_tear 11 = .ok (.iconst 0, 1) := by decide +kernel
theorem dX4_tear_12 : decode cX4_tear 12 = .ok (.istore_n 1, 1) := by decide +kernel
theorem dX4_tear_13 : decode cX4_tear 13 = .ok (.aload_n 0, 1) := by decide +kernel
theorem dX4_tear_14 : decode cX4_tear 14 = .ok (.iconst 0, 1) := by decide +kernel
theorem dX4_tear_15 : decode cX4_tear 15 = .ok (.putfield 22, 3) := by decide +kernel
theorem dX4_tear_18 : decode cX4_tear 18 = .ok (.iload_n 1, 1) := by decide +kernel
theorem dX4_tear_19 : decode cX4_tear 19 = .ok (.ireturn, 1) := by decide +kernel
set_option maxRecDepth 20000 in
theorem ggX4_count_X0_iceOfAll : GoodIn wsX4_count wsX0_iceOfAll := goodIn_r _ [14, 15, 37, 38, 39, 40, 41, 42, 43, 44, 45, 46, 47, 48, 49, 50, 51] (by decide +kernel) (by decide +kernel)
set_option maxRecDepth 20000 in
theorem gX4_count_X0_iceOfAll : GoodIn wsX4_count (wsV RX4 170 RX0 yX0_iceOfAll wsX0_iceOfAll) := goodIn_app (goodIn_of _ (by decide +kernel)) ggX4_count_X0_iceOfAll
set_option maxRecDepth 20000 in
theorem ggX4_count_X0_spotsHeld : GoodIn wsX4_count wsX0_spotsHeld := goodIn_r _ [19, 20, 37, 38, 39, 40, 41, 42, 43, 44, 45, 46, 47, 48, 49, 50, 51] (by decide +kernel) (by decide +kernel)
set_option maxRecDepth 20000 in
theorem gX4_count_X0_spotsHeld : GoodIn wsX4_count (wsV RX4 307 RX0 yX0_spotsHeld wsX0_spotsHeld) := goodIn_app (goodIn_of _ (by decide +kernel)) ggX4_count_X0_spotsHeld
set_option maxRecDepth 20000 in
theorem ggX4_count_X4_found : GoodIn wsX4_count wsX4_found := goodIn_r _ [25, 9, 26, 27, 28, 24, 29, 30, 31, 32, 33, 34, 35, 36] (by decide +kernel) (by decide +kernel)
set_option maxRecDepth 20000 in
theorem gX4_count_X4_found : GoodIn wsX4_count (wsV RX4 54 RX4 yX4_found wsX4_found) := goodIn_app (goodIn_of _ (by decide +kernel)) ggX4_count_X4_found
theorem dX4_count_0 : decode cX4_count 0 = .ok (.iload_n 1, 1) := by decide +kernel
theorem dX4_count_1 : decode cX4_count 1 = .ok (.tableswitch 111 0 7 #[47, 55, 63, 71, 79, 87, 95, 103], 47) := by decide +kernel
theorem dX4_count_48 : decode cX4_count 48 = .ok (.aload_n 0, 1) := by decide +kernel
theorem dX4_count_49 : decode cX4_count 49 = .ok (.getfield 12, 3) := by decide +kernel
theorem dX4_count_52 : decode cX4_count 52 = .ok (.getfield 95, 3) := by decide +kernel
theorem dX4_count_55 : decode cX4_count 55 = .ok (.ireturn, 1) := by decide +kernel
theorem dX4_count_56 : decode cX4_count 56 = .ok (.aload_n 0, 1) := by decide +kernel
theorem dX4_count_57 : decode cX4_count 57 = .ok (.getfield 12, 3) := by decide +kernel
theorem dX4_count_60 : decode cX4_count 60 = .ok (.getfield 151, 3) := by decide +kernel
theorem dX4_count_63 : decode cX4_count 63 = .ok (.ireturn, 1) := by decide +kernel
theorem dX4_count_64 : decode cX4_count 64 = .ok (.aload_n 0, 1) := by decide +kernel
theorem dX4_count_65 : decode cX4_count 65 = .ok (.getfield 12, 3) := by decide +kernel
theorem dX4_count_68 : decode cX4_count 68 = .ok (.getfield 145, 3) := by decide +kernel
theorem dX4_count_71 : decode cX4_count 71 = .ok (.ireturn, 1) := by decide +kernel
theorem dX4_count_72 : decode cX4_count 72 = .ok (.aload_n 0, 1) := by decide +kernel
theorem dX4_count_73 : decode cX4_count 73 = .ok (.getfield 12, 3) := by decide +kernel
theorem dX4_count_76 : decode cX4_count 76 = .ok (.getfield 128, 3) := by decide +kernel
theorem dX4_count_79 : decode cX4_count 79 = .ok (.ireturn, 1) := by decide +kernel
theorem dX4_count_80 : decode cX4_count 80 = .ok (.aload_n 0, 1) := by decide +kernel
theorem dX4_count_81 : decode cX4_count 81 = .ok (.getfield 12, 3) := by decide +kernel
theorem dX4_count_84 : decode cX4_count 84 = .ok (.invokevirtual 170, 3) := by decide +kernel
theorem dX4_count_87 : decode cX4_count 87 = .ok (.ireturn, 1) := by decide +kernel
theorem dX4_count_88 : decode cX4_count 88 = .ok (.aload_n 0, 1) := by decide +kernel
theorem dX4_count_89 : decode cX4_count 89 = .ok (.getfield 29, 3) := by decide +kernel
theorem dX4_count_92 : decode cX4_count 92 = .ok (.getfield 255, 3) := by decide +kernel
theorem dX4_count_95 : decode cX4_count 95 = .ok (.ireturn, 1) := by decide +kernel
theorem dX4_count_96 : decode cX4_count 96 = .ok (.aload_n 0, 1) := by decide +kernel
theorem dX4_count_97 : decode cX4_count 97 = .ok (.getfield 12, 3) := by decide +kernel
theorem dX4_count_100 : decode cX4_count 100 = .ok (.getfield 252, 3) := by decide +kernel
theorem dX4_count_103 : decode cX4_count 103 = .ok (.ireturn, 1) := by decide +kernel
theorem dX4_count_104 : decode cX4_count 104 = .ok (.aload_n 0, 1) := by decide +kernel
theorem dX4_count_105 : decode cX4_count 105 = .ok (.getfield 12, 3) := by decide +kernel
theorem dX4_count_108 : decode cX4_count 108 = .ok (.invokevirtual 307, 3) := by decide +kernel
theorem dX4_count_111 : decode cX4_count 111 = .ok (.ireturn, 1) := by decide +kernel
theorem dX4_count_112 : decode cX4_count 112 = .ok (.aload_n 0, 1) := by decide +kernel
theorem dX4_count_113 : decode cX4_count 113 = .ok (.ldc 53, 2) := by decide +kernel
theorem dX4_count_115 : decode cX4_count 115 = .ok (.invokevirtual 54, 3) := by decide +kernel
theorem dX4_count_118 : decode cX4_count 118 = .ok (.ireturn, 1) := by decide +kernel
set_option maxRecDepth 20000 in
theorem ggX4_status_X4_isWithin : GoodIn wsX4_status wsX4_isWithin := goodIn_r _ [6] (by decide +kernel) (by decide +kernel)
set_option maxRecDepth 20000 in
theorem gX4_status_X4_isWithin : GoodIn wsX4_status (va_wsS RX4 115 yX4_isWithin wsX4_isWithin) := goodIn_app (goodIn_of _ (by decide +kernel)) ggX4_status_X4_isWithin
set_option maxRecDepth 20000 in
theorem ggX4_status_X4_found : GoodIn wsX4_status wsX4_found := goodIn_r _ [10, 1, 2, 3, 4, 5, 6, 11, 12, 13, 14, 15, 16, 17] (by decide +kernel) (by decide +kernel)
set_option maxRecDepth 20000 in
theorem gX4_status_X4_found : GoodIn wsX4_status (wsV RX4 54 RX4 yX4_found wsX4_found) := goodIn_app (goodIn_of _ (by decide +kernel)) ggX4_status_X4_found
theorem dX4_status_0 : decode cX4_status 0 = .ok (.iload_n 1, 1) := by decide +kernel
theorem dX4_status_1 : decode cX4_status 1 = .ok (.iconst (-1), 1) := by decide +kernel
theorem dX4_status_2 : decode cX4_status 2 = .ok (.bipush 6, 2) := by decide +kernel
theorem dX4_status_4 : decode cX4_status 4 = .ok (.invokestatic 115, 3) := by decide +kernel
theorem dX4_status_7 : decode cX4_status 7 = .ok (.ifCond .ne 10, 3) := by decide +kernel
theorem dX4_status_10 : decode cX4_status 10 = .ok (.aload_n 0, 1) := by decide +kernel
theorem dX4_status_11 : decode cX4_status 11 = .ok (.ldc 53, 2) := by decide +kernel
theorem dX4_status_13 : decode cX4_status 13 = .ok (.invokevirtual 54, 3) := by decide +kernel
theorem dX4_status_16 : decode cX4_status 16 = .ok (.ireturn, 1) := by decide +kernel
theorem dX4_status_17 : decode cX4_status 17 = .ok (.iload_n 1, 1) := by decide +kernel
theorem dX4_status_18 : decode cX4_status 18 = .ok (.ifCond .lt 10, 3) := by decide +kernel
theorem dX4_status_21 : decode cX4_status 21 = .ok (.aload_n 0, 1) := by decide +kernel
theorem dX4_status_22 : decode cX4_status 22 = .ok (.getfield 39, 3) := by decide +kernel
theorem dX4_status_25 : decode cX4_status 25 = .ok (.iload_n 1, 1) := by decide +kernel
theorem dX4_status_26 : decode cX4_status 26 = .ok (.iaload, 1) := by decide +kernel
theorem dX4_status_27 : decode cX4_status 27 = .ok (.ireturn, 1) := by decide +kernel
theorem dX4_status_28 : decode cX4_status 28 = .ok (.iconst 0, 1) := by decide +kernel
theorem dX4_status_29 : decode cX4_status 29 = .ok (.istore_n 2, 1) := by decide +kernel
theorem dX4_status_30 : decode cX4_status 30 = .ok (.iconst 0, 1) := by decide +kernel
theorem dX4_status_31 : decode cX4_status 31 = .ok (.istore_n 3, 1) := by decide +kernel
theorem dX4_status_32 : decode cX4_status 32 = .ok (.iload_n 3, 1) := by decide +kernel
theorem dX4_status_33 : decode cX4_status 33 = .ok (.bipush 7, 2) := by decide +kernel
theorem dX4_status_35 : decode cX4_status 35 = .ok (.if_icmp .ge 18, 3) := by decide +kernel
theorem dX4_status_38 : decode cX4_status 38 = .ok (.iload_n 2, 1) := by decide +kernel
theorem dX4_status_39 : decode cX4_status 39 = .ok (.aload_n 0, 1) := by decide +kernel
theorem dX4_status_40 : decode cX4_status 40 = .ok (.getfield 39, 3) := by decide +kernel
theorem dX4_status_43 : decode cX4_status 43 = .ok (.iload_n 3, 1) := by decide +kernel
theorem dX4_status_44 : decode cX4_status 44 = .ok (.iaload, 1) := by decide +kernel
theorem dX4_status_45 : decode cX4_status 45 = .ok (.iadd, 1) := by decide +kernel
theorem dX4_status_46 : decode cX4_status 46 = .ok (.istore_n 2, 1) := by decide +kernel
theorem dX4_status_47 : decode cX4_status 47 = .ok (.iinc 3 1, 3) := by decide +kernel
theorem dX4_status_50 : decode cX4_status 50 = .ok (.goto (-18), 3) := by decide +kernel
theorem dX4_status_53 : decode cX4_status 53 = .ok (.iload_n 2, 1) := by decide +kernel
theorem dX4_status_54 : decode cX4_status 54 = .ok (.ireturn, 1) := by decide +kernel
set_option maxRecDepth 20000 in
theorem ggX4_found_X4_isWithin : GoodIn wsX4_found wsX4_isWithin := goodIn_r _ [6] (by decide +kernel) (by decide +kernel)
set_option maxRecDepth 20000 in
theorem gX4_found_X4_isWithin : GoodIn wsX4_found (va_wsS RX4 115 yX4_isWithin wsX4_isWithin) := goodIn_app (goodIn_of _ (by decide +kernel)) ggX4_found_X4_isWithin
theorem dX4_found_0 : decode cX4_found 0 = .ok (.ldc 53, 2) := by decide +kernel
theorem dX4_found_2 : decode cX4_found 2 = .ok (.iload_n 1, 1) := by decide +kernel
theorem dX4_found_3 : decode cX4_found 3 = .ok (.isub, 1) := by decide +kernel
theorem dX4_found_4 : decode cX4_found 4 = .ok (.istore_n 2, 1) := by decide +kernel
theorem dX4_found_5 : decode cX4_found 5 = .ok (.iload_n 2, 1) := by decide +kernel
theorem dX4_found_6 : decode cX4_found 6 = .ok (.iconst 0, 1) := by decide +kernel
theorem dX4_found_7 : decode cX4_found 7 = .ok (.bipush 6, 2) := by decide +kernel
theorem dX4_found_9 : decode cX4_found 9 = .ok (.invokestatic 115, 3) := by decide +kernel
theorem dX4_found_12 : decode cX4_found 12 = .ok (.ifCond .eq 13, 3) := by decide +kernel
theorem dX4_found_15 : decode cX4_found 15 = .ok (.aload_n 0, 1) := by decide +kernel
theorem dX4_found_16 : decode cX4_found 16 = .ok (.getfield 39, 3) := by decide +kernel
theorem dX4_found_19 : decode cX4_found 19 = .ok (.iload_n 2, 1) := by decide +kernel
theorem dX4_found_20 : decode cX4_found 20 = .ok (.dup2, 1) := by decide +kernel
theorem dX4_found_21 : decode cX4_found 21 = .ok (.iaload, 1) := by decide +kernel
theorem dX4_found_22 : decode cX4_found 22 = .ok (.iconst 1, 1) := by decide +kernel
theorem dX4_found_23 : decode cX4_found 23 = .ok (.iadd, 1) := by decide +kernel
theorem dX4_found_24 : decode cX4_found 24 = .ok (.iastore, 1) := by decide +kernel
theorem dX4_found_25 : decode cX4_found 25 = .ok (.iload_n 1, 1) := by decide +kernel
theorem dX4_found_26 : decode cX4_found 26 = .ok (.ireturn, 1) := by decide +kernel
theorem dX4_isTooLate_0 : decode cX4_isTooLate 0 = .ok (.aload_n 0, 1) := by decide +kernel
theorem dX4_isTooLate_1 : decode cX4_isTooLate 1 = .ok (.getfield 12, 3) := by decide +kernel
theorem dX4_isTooLate_4 : decode cX4_isTooLate 4 = .ok (.getfield 95, 3) := by decide +kernel
theorem dX4_isTooLate_7 : decode cX4_isTooLate 7 = .ok (.iload_n 1, 1) := by decide +kernel
theorem dX4_isTooLate_8 : decode cX4_isTooLate 8 = .ok (.iadd, 1) := by decide +kernel
theorem dX4_isTooLate_9 : decode cX4_isTooLate 9 = .ok (.sipush 9999, 3) := by decide +kernel
theorem dX4_isTooLate_12 : decode cX4_isTooLate 12 = .ok (.if_icmp .le 7, 3) := by decide +kernel
theorem dX4_isTooLate_15 : decode cX4_isTooLate 15 = .ok (.iconst 1, 1) := by decide +kernel
theorem dX4_isTooLate_16 : decode cX4_isTooLate 16 = .ok (.goto 4, 3) := by decide +kernel
theorem dX4_isTooLate_19 : decode cX4_isTooLate 19 = .ok (.iconst 0, 1) := by decide +kernel
theorem dX4_isTooLate_20 : decode cX4_isTooLate 20 = .ok (.ireturn, 1) := by decide +kernel
set_option maxRecDepth 20000 in
theorem ggX4_refusal_X4_isWithin : GoodIn wsX4_refusal wsX4_isWithin := goodIn_r _ [6] (by decide +kernel) (by decide +kernel)
set_option maxRecDepth 20000 in
theorem gX4_refusal_X4_isWithin : GoodIn wsX4_refusal (va_wsS RX4 115 yX4_isWithin wsX4_isWithin) := goodIn_app (goodIn_of _ (by decide +kernel)) ggX4_refusal_X4_isWithin
set_option maxRecDepth 20000 in
theorem ggX4_refusal_X4_isTooLate : GoodIn wsX4_refusal wsX4_isTooLate := goodIn_r _ [10, 11, 12, 13, 14, 15, 16, 17, 18, 19, 20, 21, 22, 23, 24, 25, 26, 27, 28, 29, 30, 31, 32, 33, 34] (by decide +kernel) (by decide +kernel)
set_option maxRecDepth 20000 in
theorem gX4_refusal_X4_isTooLate : GoodIn wsX4_refusal (wsV RX4 176 RX4 yX4_isTooLate wsX4_isTooLate) := goodIn_app (goodIn_of _ (by decide +kernel)) ggX4_refusal_X4_isTooLate
theorem dX4_refusal_0 : decode cX4_refusal 0 = .ok (.iload_n 1, 1) := by decide +kernel
theorem dX4_refusal_1 : decode cX4_refusal 1 = .ok (.iconst 1, 1) := by decide +kernel
theorem dX4_refusal_2 : decode cX4_refusal 2 = .ok (.iload_n 2, 1) := by decide +kernel
theorem dX4_refusal_3 : decode cX4_refusal 3 = .ok (.invokestatic 115, 3) := by decide +kernel
theorem dX4_refusal_6 : decode cX4_refusal 6 = .ok (.ifCond .ne 6, 3) := by decide +kernel
theorem dX4_refusal_9 : decode cX4_refusal 9 = .ok (.ldc 53, 2) := by decide +kernel
theorem dX4_refusal_11 : decode cX4_refusal 11 = .ok (.ireturn, 1) := by decide +kernel
theorem dX4_refusal_12 : decode cX4_refusal 12 = .ok (.aload_n 0, 1) := by decide +kernel
theorem dX4_refusal_13 : decode cX4_refusal 13 = .ok (.iload_n 1, 1) := by decide +kernel
theorem dX4_refusal_14 : decode cX4_refusal 14 = .ok (.invokevirtual 176, 3) := by decide +kernel
theorem dX4_refusal_17 : decode cX4_refusal 17 = .ok (.ifCond .eq 8, 3) := by decide +kernel
theorem dX4_refusal_20 : decode cX4_refusal 20 = .ok (.ldc 179, 2) := by decide +kernel
theorem dX4_refusal_22 : decode cX4_refusal 22 = .ok (.goto 4, 3) := by decide +kernel
theorem dX4_refusal_25 : decode cX4_refusal 25 = .ok (.iconst 0, 1) := by decide +kernel
theorem dX4_refusal_26 : decode cX4_refusal 26 = .ok (.ireturn, 1) := by decide +kernel
set_option maxRecDepth 20000 in
theorem ggX4_refusalOfDeed_X0_isDeed : GoodIn wsX4_refusalOfDeed wsX0_isDeed := goodIn_r _ [7, 8, 9, 10, 11, 30, 31, 32, 33, 34, 35, 36, 37, 38, 39, 40, 41, 42, 43, 44] (by decide +kernel) (by decide +kernel)
set_option maxRecDepth 20000 in
theorem gX4_refusalOfDeed_X0_isDeed : GoodIn wsX4_refusalOfDeed (wsV RX4 67 RX0 yX0_isDeed wsX0_isDeed) := goodIn_app (goodIn_of _ (by decide +kernel)) ggX4_refusalOfDeed_X0_isDeed
set_option maxRecDepth 20000 in
theorem ggX4_refusalOfDeed_X4_refusal : GoodIn wsX4_refusalOfDeed wsX4_refusal := goodIn_r _ [15, 2, 16, 17, 9, 10, 11, 18, 19, 20, 21, 1, 22, 23, 24, 25, 26, 27, 28, 29, 30, 31, 32, 33, 34, 35, 36, 37, 38, 39, 40, 41, 42, 43, 44] (by decide +kernel) (by decide +kernel)
set_option maxRecDepth 20000 in
theorem gX4_refusalOfDeed_X4_refusal : GoodIn wsX4_refusalOfDeed (wsV RX4 157 RX4 yX4_refusal wsX4_refusal) := goodIn_app (goodIn_of _ (by decide +kernel)) ggX4_refusalOfDeed_X4_refusal
theorem dX4_refusalOfDeed_0 : decode cX4_refusalOfDeed 0 = .ok (.aload_n 0, 1) := by decide +kernel
theorem dX4_refusalOfDeed_1 : decode cX4_refusalOfDeed 1 = .ok (.getfield 12, 3) := by decide +kernel
theorem dX4_refusalOfDeed_4 : decode cX4_refusalOfDeed 4 = .ok (.iload_n 1, 1) := by decide +kernel
theorem dX4_refusalOfDeed_5 : decode cX4_refusalOfDeed 5 = .ok (.invokevirtual 67, 3) := by decide +kernel
theorem dX4_refusalOfDeed_8 : decode cX4_refusalOfDeed 8 = .ok (.ifCond .eq 13, 3) := by decide +kernel
theorem dX4_refusalOfDeed_11 : decode cX4_refusalOfDeed 11 = .ok (.aload_n 0, 1) := by decide +kernel
theorem dX4_refusalOfDeed_12 : decode cX4_refusalOfDeed 12 = .ok (.iload_n 2, 1) := by decide +kernel
theorem dX4_refusalOfDeed_13 : decode cX4_refusalOfDeed 13 = .ok (.bipush 100, 2) := by decide +kernel
theorem dX4_refusalOfDeed_15 : decode cX4_refusalOfDeed 15 = .ok (.invokevirtual 157, 3) := by decide +kernel
theorem dX4_refusalOfDeed_18 : decode cX4_refusalOfDeed 18 = .ok (.goto 5, 3) := by decide +kernel
theorem dX4_refusalOfDeed_21 : decode cX4_refusalOfDeed 21 = .ok (.ldc 53, 2) := by decide +kernel
theorem dX4_refusalOfDeed_23 : decode cX4_refusalOfDeed 23 = .ok (.ireturn, 1) := by decide +kernel
set_option maxRecDepth 20000 in
theorem ggX4_refusalOfEnd_X4_refusalOfDeed : GoodIn wsX4_refusalOfEnd wsX4_refusalOfDeed := goodIn_r _ [5, 6, 7, 8, 9, 10, 11, 12, 13, 14, 4, 15, 16, 17, 18, 19, 20, 21, 22, 23, 24, 25, 26, 27, 28, 29, 30, 31, 32, 33, 34, 35, 36, 37, 38, 39, 40, 41, 42, 43, 44, 45, 46, 47, 48] (by decide +kernel) (by decide +kernel)
set_option maxRecDepth 20000 in
theorem gX4_refusalOfEnd_X4_refusalOfDeed : GoodIn wsX4_refusalOfEnd (wsV RX4 201 RX4 yX4_refusalOfDeed wsX4_refusalOfDeed) := goodIn_app (goodIn_of _ (by decide +kernel)) ggX4_refusalOfEnd_X4_refusalOfDeed
theorem dX4_refusalOfEnd_0 : decode cX4_refusalOfEnd 0 = .ok (.aload_n 0, 1) := by decide +kernel
theorem dX4_refusalOfEnd_1 : decode cX4_refusalOfEnd 1 = .ok (.iload_n 1, 1) := by decide +kernel
theorem dX4_refusalOfEnd_2 : decode cX4_refusalOfEnd 2 = .ok (.bipush 100, 2) := by decide +kernel
theorem dX4_refusalOfEnd_4 : decode cX4_refusalOfEnd 4 = .ok (.invokevirtual 201, 3) := by decide +kernel
theorem dX4_refusalOfEnd_7 : decode cX4_refusalOfEnd 7 = .ok (.ireturn, 1) := by decide +kernel
set_option maxRecDepth 20000 in
theorem ggX4_refusalOfEnemy_X4_isWithin : GoodIn wsX4_refusalOfEnemy wsX4_isWithin := goodIn_r _ [8] (by decide +kernel) (by decide +kernel)
set_option maxRecDepth 20000 in
theorem gX4_refusalOfEnemy_X4_isWithin : GoodIn wsX4_refusalOfEnemy (va_wsS RX4 115 yX4_isWithin wsX4_isWithin) := goodIn_app (goodIn_of _ (by decide +kernel)) ggX4_refusalOfEnemy_X4_isWithin
set_option maxRecDepth 20000 in
theorem ggX4_refusalOfEnemy_X4_refusal : GoodIn wsX4_refusalOfEnemy wsX4_refusal := goodIn_r _ [12, 1, 13, 5, 6, 7, 8, 14, 15, 16, 17, 2, 18, 26, 27, 28, 29, 30, 31, 32, 33, 34, 35, 36, 37, 38, 39, 40, 41, 42, 43, 44, 45, 46, 47] (by decide +kernel) (by decide +kernel)
set_option maxRecDepth 20000 in
theorem gX4_refusalOfEnemy_X4_refusal : GoodIn wsX4_refusalOfEnemy (wsV RX4 157 RX4 yX4_refusal wsX4_refusal) := goodIn_app (goodIn_of _ (by decide +kernel)) ggX4_refusalOfEnemy_X4_refusal
set_option maxRecDepth 20000 in
theorem ggX4_refusalOfEnemy_J6_bitCount_0f7a4 : GoodIn wsX4_refusalOfEnemy wsJ6_bitCount_0f7a4 := goodIn_r _ [22, 23, 24, 25] (by decide +kernel) (by decide +kernel)
set_option maxRecDepth 20000 in
theorem gX4_refusalOfEnemy_J6_bitCount_0f7a4 : GoodIn wsX4_refusalOfEnemy (va_wsS RX4 229 yJ6_bitCount_0f7a4 wsJ6_bitCount_0f7a4) := goodIn_app (goodIn_of _ (by decide +kernel)) ggX4_refusalOfEnemy_J6_bitCount_0f7a4
theorem dX4_refusalOfEnemy_0 : decode cX4_refusalOfEnemy 0 = .ok (.iload_n 1, 1) := by decide +kernel
theorem dX4_refusalOfEnemy_1 : decode cX4_refusalOfEnemy 1 = .ok (.iconst 0, 1) := by decide +kernel
theorem dX4_refusalOfEnemy_2 : decode cX4_refusalOfEnemy 2 = .ok (.bipush 6, 2) := by decide +kernel
theorem dX4_refusalOfEnemy_4 : decode cX4_refusalOfEnemy 4 = .ok (.invokestatic 115, 3) := by decide +kernel
theorem dX4_refusalOfEnemy_7 : decode cX4_refusalOfEnemy 7 = .ok (.ifCond .ne 6, 3) := by decide +kernel
theorem dX4_refusalOfEnemy_10 : decode cX4_refusalOfEnemy 10 = .ok (.ldc 53, 2) := by decide +kernel
theorem dX4_refusalOfEnemy_12 : decode cX4_refusalOfEnemy 12 = .ok (.ireturn, 1) := by decide +kernel
theorem dX4_refusalOfEnemy_13 : decode cX4_refusalOfEnemy 13 = .ok (.aload_n 0, 1) := by decide +kernel
theorem dX4_refusalOfEnemy_14 : decode cX4_refusalOfEnemy 14 = .ok (.iload_n 2, 1) := by decide +kernel
theorem dX4_refusalOfEnemy_15 : decode cX4_refusalOfEnemy 15 = .ok (.bipush 100, 2) := by decide +kernel
theorem dX4_refusalOfEnemy_17 : decode cX4_refusalOfEnemy 17 = .ok (.invokevirtual 157, 3) := by decide +kernel
theorem dX4_refusalOfEnemy_20 : decode cX4_refusalOfEnemy 20 = .ok (.istore_n 3, 1) := by decide +kernel
theorem dX4_refusalOfEnemy_21 : decode cX4_refusalOfEnemy 21 = .ok (.iload_n 3, 1) := by decide +kernel
theorem dX4_refusalOfEnemy_22 : decode cX4_refusalOfEnemy 22 = .ok (.ifCond .eq 5, 3) := by decide +kernel
theorem dX4_refusalOfEnemy_25 : decode cX4_refusalOfEnemy 25 = .ok (.iload_n 3, 1) := by decide +kernel
theorem dX4_refusalOfEnemy_26 : decode cX4_refusalOfEnemy 26 = .ok (.ireturn, 1) := by decide +kernel
theorem dX4_refusalOfEnemy_27 : decode cX4_refusalOfEnemy 27 = .ok (.bipush 6, 2) := by decide +kernel
theorem dX4_refusalOfEnemy_29 : decode cX4_refusalOfEnemy 29 = .ok (.aload_n 0, 1) := by decide +kernel
theorem dX4_refusalOfEnemy_30 : decode cX4_refusalOfEnemy 30 = .ok (.getfield 12, 3) := by decide +kernel
theorem dX4_refusalOfEnemy_33 : decode cX4_refusalOfEnemy 33 = .ok (.getfield 128, 3) := by decide +kernel
theorem dX4_refusalOfEnemy_36 : decode cX4_refusalOfEnemy 36 = .ok (.invokestatic 229, 3) := by decide +kernel
theorem dX4_refusalOfEnemy_39 : decode cX4_refusalOfEnemy 39 = .ok (.isub, 1) := by decide +kernel
theorem dX4_refusalOfEnemy_40 : decode cX4_refusalOfEnemy 40 = .ok (.iload_n 1, 1) := by decide +kernel
theorem dX4_refusalOfEnemy_41 : decode cX4_refusalOfEnemy 41 = .ok (.if_icmp .ge 8, 3) := by decide +kernel
theorem dX4_refusalOfEnemy_44 : decode cX4_refusalOfEnemy 44 = .ok (.ldc 190, 2) := by decide +kernel
theorem dX4_refusalOfEnemy_46 : decode cX4_refusalOfEnemy 46 = .ok (.goto 4, 3) := by decide +kernel
theorem dX4_refusalOfEnemy_49 : decode cX4_refusalOfEnemy 49 = .ok (.iconst 0, 1) := by decide +kernel
theorem dX4_refusalOfEnemy_50 : decode cX4_refusalOfEnemy 50 = .ok (.ireturn, 1) := by decide +kernel
set_option maxRecDepth 20000 in
theorem ggX4_refusalOfSheet_X4_isSheet : GoodIn wsX4_refusalOfSheet wsX4_isSheet := goodIn_r _ [7, 8, 9, 6, 10] (by decide +kernel) (by decide +kernel)
set_option maxRecDepth 20000 in
theorem gX4_refusalOfSheet_X4_isSheet : GoodIn wsX4_refusalOfSheet (va_wsS RX4 273 yX4_isSheet wsX4_isSheet) := goodIn_app (goodIn_of _ (by decide +kernel)) ggX4_refusalOfSheet_X4_isSheet
set_option maxRecDepth 20000 in
theorem ggX4_refusalOfSheet_X2_isMissing : GoodIn wsX4_refusalOfSheet wsX2_isMissing := goodIn_r _ [15, 16, 24, 25, 26] (by decide +kernel) (by decide +kernel)
set_option maxRecDepth 20000 in
theorem gX4_refusalOfSheet_X2_isMissing : GoodIn wsX4_refusalOfSheet (wsV RX4 292 RX2 yX2_isMissing wsX2_isMissing) := goodIn_app (goodIn_of _ (by decide +kernel)) ggX4_refusalOfSheet_X2_isMissing
theorem dX4_refusalOfSheet_0 : decode cX4_refusalOfSheet 0 = .ok (.iload_n 1, 1) := by decide +kernel
theorem dX4_refusalOfSheet_1 : decode cX4_refusalOfSheet 1 = .ok (.invokestatic 273, 3) := by decide +kernel
theorem dX4_refusalOfSheet_4 : decode cX4_refusalOfSheet 4 = .ok (.ifCond .ne 6, 3) := by decide +kernel
theorem dX4_refusalOfSheet_7 : decode cX4_refusalOfSheet 7 = .ok (.ldc 53, 2) := by decide +kernel
theorem dX4_refusalOfSheet_9 : decode cX4_refusalOfSheet 9 = .ok (.ireturn, 1) := by decide +kernel
theorem dX4_refusalOfSheet_10 : decode cX4_refusalOfSheet 10 = .ok (.aload_n 0, 1) := by decide +kernel
theorem dX4_refusalOfSheet_11 : decode cX4_refusalOfSheet 11 = .ok (.getfield 35, 3) := by decide +kernel
theorem dX4_refusalOfSheet_14 : decode cX4_refusalOfSheet 14 = .ok (.iload_n 1, 1) := by decide +kernel
theorem dX4_refusalOfSheet_15 : decode cX4_refusalOfSheet 15 = .ok (.aaload, 1) := by decide +kernel
theorem dX4_refusalOfSheet_16 : decode cX4_refusalOfSheet 16 = .ok (.invokevirtual 292, 3) := by decide +kernel
theorem dX4_refusalOfSheet_19 : decode cX4_refusalOfSheet 19 = .ok (.ifCond .eq 9, 3) := by decide +kernel
theorem dX4_refusalOfSheet_22 : decode cX4_refusalOfSheet 22 = .ok (.ldc_w 268, 3) := by decide +kernel
theorem dX4_refusalOfSheet_25 : decode cX4_refusalOfSheet 25 = .ok (.goto 4, 3) := by decide +kernel
theorem dX4_refusalOfSheet_28 : decode cX4_refusalOfSheet 28 = .ok (.iconst 0, 1) := by decide +kernel
theorem dX4_refusalOfSheet_29 : decode cX4_refusalOfSheet 29 = .ok (.ireturn, 1) := by decide +kernel
set_option maxRecDepth 20000 in
theorem ggX4_holdingSwapped_X0_take : GoodIn wsX4_holdingSwapped wsX0_take := goodIn_r _ [8, 9, 10, 11, 12, 13, 14, 15, 16, 17, 18, 19, 20, 21, 22, 23, 24, 25, 26, 94, 95, 96, 97, 98, 99, 100, 101, 102, 103, 104, 105, 106, 107, 108] (by decide +kernel) (by decide +kernel)
set_option maxRecDepth 20000 in
theorem gX4_holdingSwapped_X0_take : GoodIn wsX4_holdingSwapped (wsV RX4 180 RX0 yX0_take wsX0_take) := goodIn_app (goodIn_of _ (by decide +kernel)) ggX4_holdingSwapped_X0_take
set_option maxRecDepth 20000 in
theorem ggX4_holdingSwapped_X0_holdingBehind : GoodIn wsX4_holdingSwapped wsX0_holdingBehind := goodIn_r _ [30, 20, 31, 32, 33, 7, 34, 24, 35, 21, 14, 18, 36, 37, 38, 39, 40, 41, 42, 43, 44, 45, 46, 25, 22, 23, 47, 48, 49, 50, 51, 52, 53, 9, 15, 16, 54, 55, 56, 57, 58, 59, 60, 61, 62, 63, 64, 65, 66, 67, 68, 69, 70, 71, 72, 73, 74, 75, 76, 77, 78, 79, 17, 80, 81, 82, 83, 84, 85, 86, 94, 95, 96, 97, 98, 99, 100, 101, 102, 103, 104, 105, 106, 107, 108] (by decide +kernel) (by decide +kernel)
set_option maxRecDepth 20000 in
theorem gX4_holdingSwapped_X0_holdingBehind : GoodIn wsX4_holdingSwapped (wsV RX4 198 RX0 yX0_holdingBehind wsX0_holdingBehind) := goodIn_app (goodIn_of _ (by decide +kernel)) ggX4_holdingSwapped_X0_holdingBehind
theorem dX4_holdingSwapped_0 : decode cX4_holdingSwapped 0 = .ok (.aload_n 0, 1) := by decide +kernel
theorem dX4_holdingSwapped_1 : decode cX4_holdingSwapped 1 = .ok (.getfield 16, 3) := by decide +kernel
theorem dX4_holdingSwapped_4 : decode cX4_holdingSwapped 4 = .ok (.aload_n 0, 1) := by decide +kernel
theorem dX4_holdingSwapped_5 : decode cX4_holdingSwapped 5 = .ok (.getfield 12, 3) := by decide +kernel
theorem dX4_holdingSwapped_8 : decode cX4_holdingSwapped 8 = .ok (.invokevirtual 180, 3) := by decide +kernel
theorem dX4_holdingSwapped_11 : decode cX4_holdingSwapped 11 = .ok (.aload_n 0, 1) := by decide +kernel
theorem dX4_holdingSwapped_12 : decode cX4_holdingSwapped 12 = .ok (.getfield 16, 3) := by decide +kernel
theorem dX4_holdingSwapped_15 : decode cX4_holdingSwapped 15 = .ok (.getfield 73, 3) := by decide +kernel
theorem dX4_holdingSwapped_18 : decode cX4_holdingSwapped 18 = .ok (.iload_n 1, 1) := by decide +kernel
theorem dX4_holdingSwapped_19 : decode cX4_holdingSwapped 19 = .ok (.aload_n 0, 1) := by decide +kernel
theorem dX4_holdingSwapped_20 : decode cX4_holdingSwapped 20 = .ok (.getfield 12, 3) := by decide +kernel
theorem dX4_holdingSwapped_23 : decode cX4_holdingSwapped 23 = .ok (.getfield 73, 3) := by decide +kernel
theorem dX4_holdingSwapped_26 : decode cX4_holdingSwapped 26 = .ok (.iload_n 2, 1) := by decide +kernel
theorem dX4_holdingSwapped_27 : decode cX4_holdingSwapped 27 = .ok (.iaload, 1) := by decide +kernel
theorem dX4_holdingSwapped_28 : decode cX4_holdingSwapped 28 = .ok (.iastore, 1) := by decide +kernel
theorem dX4_holdingSwapped_29 : decode cX4_holdingSwapped 29 = .ok (.aload_n 0, 1) := by decide +kernel
theorem dX4_holdingSwapped_30 : decode cX4_holdingSwapped 30 = .ok (.getfield 16, 3) := by decide +kernel
theorem dX4_holdingSwapped_33 : decode cX4_holdingSwapped 33 = .ok (.getfield 73, 3) := by decide +kernel
theorem dX4_holdingSwapped_36 : decode cX4_holdingSwapped 36 = .ok (.iload_n 2, 1) := by decide +kernel
theorem dX4_holdingSwapped_37 : decode cX4_holdingSwapped 37 = .ok (.aload_n 0, 1) := by decide +kernel
theorem dX4_holdingSwapped_38 : decode cX4_holdingSwapped 38 = .ok (.getfield 12, 3) := by decide +kernel
theorem dX4_holdingSwapped_41 : decode cX4_holdingSwapped 41 = .ok (.getfield 73, 3) := by decide +kernel
theorem dX4_holdingSwapped_44 : decode cX4_holdingSwapped 44 = .ok (.iload_n 1, 1) := by decide +kernel
theorem dX4_holdingSwapped_45 : decode cX4_holdingSwapped 45 = .ok (.iaload, 1) := by decide +kernel
theorem dX4_holdingSwapped_46 : decode cX4_holdingSwapped 46 = .ok (.iastore, 1) := by decide +kernel
theorem dX4_holdingSwapped_47 : decode cX4_holdingSwapped 47 = .ok (.aload_n 0, 1) := by decide +kernel
theorem dX4_holdingSwapped_48 : decode cX4_holdingSwapped 48 = .ok (.getfield 16, 3) := by decide +kernel
theorem dX4_holdingSwapped_51 : decode cX4_holdingSwapped 51 = .ok (.iload_n 3, 1) := by decide +kernel
theorem dX4_holdingSwapped_52 : decode cX4_holdingSwapped 52 = .ok (.invokevirtual 198, 3) := by decide +kernel
theorem dX4_holdingSwapped_55 : decode cX4_holdingSwapped 55 = .ok (.ireturn, 1) := by decide +kernel
set_option maxRecDepth 20000 in
theorem ggX4_holdingOpened_X0_take : GoodIn wsX4_holdingOpened wsX0_take := goodIn_r _ [8, 9, 10, 11, 12, 13, 14, 15, 16, 17, 18, 19, 20, 21, 22, 23, 24, 25, 26, 94, 95, 96, 97, 98, 99, 100, 101, 102, 103, 104, 105, 106, 107, 108] (by decide +kernel) (by decide +kernel)
set_option maxRecDepth 20000 in
theorem gX4_holdingOpened_X0_take : GoodIn wsX4_holdingOpened (wsV RX4 180 RX0 yX0_take wsX0_take) := goodIn_app (goodIn_of _ (by decide +kernel)) ggX4_holdingOpened_X0_take
set_option maxRecDepth 20000 in
theorem ggX4_holdingOpened_X0_holdingBehind : GoodIn wsX4_holdingOpened wsX0_holdingBehind := goodIn_r _ [30, 20, 31, 32, 33, 7, 34, 24, 35, 21, 14, 18, 36, 37, 38, 39, 40, 41, 42, 43, 44, 45, 46, 25, 22, 23, 47, 48, 49, 50, 51, 52, 53, 9, 15, 16, 54, 55, 56, 57, 58, 59, 60, 61, 62, 63, 64, 65, 66, 67, 68, 69, 70, 71, 72, 73, 74, 75, 76, 77, 78, 79, 17, 80, 81, 82, 83, 84, 85, 86, 94, 95, 96, 97, 98, 99, 100, 101, 102, 103, 104, 105, 106, 107, 108] (by decide +kernel) (by decide +kernel)
set_option maxRecDepth 20000 in
theorem gX4_holdingOpened_X0_holdingBehind : GoodIn wsX4_holdingOpened (wsV RX4 198 RX0 yX0_holdingBehind wsX0_holdingBehind) := goodIn_app (goodIn_of _ (by decide +kernel)) ggX4_holdingOpened_X0_holdingBehind
theorem dX4_holdingOpened_0 : decode cX4_holdingOpened 0 = .ok (.aload_n 0, 1) := by decide +kernel
theorem dX4_holdingOpened_1 : decode cX4_holdingOpened 1 = .ok (.getfield 16, 3) := by decide +kernel
theorem dX4_holdingOpened_4 : decode cX4_holdingOpened 4 = .ok (.aload_n 0, 1) := by decide +kernel
theorem dX4_holdingOpened_5 : decode cX4_holdingOpened 5 = .ok (.getfield 12, 3) := by decide +kernel
theorem dX4_holdingOpened_8 : decode cX4_holdingOpened 8 = .ok (.invokevirtual 180, 3) := by decide +kernel
theorem dX4_holdingOpened_11 : decode cX4_holdingOpened 11 = .ok (.aload_n 0, 1) := by decide +kernel
theorem dX4_holdingOpened_12 : decode cX4_holdingOpened 12 = .ok (.getfield 16, 3) := by decide +kernel
theorem dX4_holdingOpened_15 : decode cX4_holdingOpened 15 = .ok (.dup, 1) := by decide +kernel
theorem dX4_holdingOpened_16 : decode cX4_holdingOpened 16 = .ok (.getfield 128, 3) := by decide +kernel
theorem dX4_holdingOpened_19 : decode cX4_holdingOpened 19 = .ok (.iload_n 1, 1) := by decide +kernel
theorem dX4_holdingOpened_20 : decode cX4_holdingOpened 20 = .ok (.ior, 1) := by decide +kernel
theorem dX4_holdingOpened_21 : decode cX4_holdingOpened 21 = .ok (.putfield 128, 3) := by decide +kernel
theorem dX4_holdingOpened_24 : decode cX4_holdingOpened 24 = .ok (.aload_n 0, 1) := by decide +kernel
theorem dX4_holdingOpened_25 : decode cX4_holdingOpened 25 = .ok (.getfield 16, 3) := by decide +kernel
theorem dX4_holdingOpened_28 : decode cX4_holdingOpened 28 = .ok (.iload_n 2, 1) := by decide +kernel
theorem dX4_holdingOpened_29 : decode cX4_holdingOpened 29 = .ok (.invokevirtual 198, 3) := by decide +kernel
theorem dX4_holdingOpened_32 : decode cX4_holdingOpened 32 = .ok (.ireturn, 1) := by decide +kernel
set_option maxRecDepth 20000 in
theorem ggX4_endsOpened_X0_take : GoodIn wsX4_endsOpened wsX0_take := goodIn_r _ [8, 9, 10, 11, 12, 13, 14, 15, 16, 17, 18, 19, 20, 21, 22, 23, 24, 25, 26, 91, 92, 93, 94, 95, 96, 97, 98, 99, 100, 101, 102, 103, 104, 105] (by decide +kernel) (by decide +kernel)
set_option maxRecDepth 20000 in
theorem gX4_endsOpened_X0_take : GoodIn wsX4_endsOpened (wsV RX4 180 RX0 yX0_take wsX0_take) := goodIn_app (goodIn_of _ (by decide +kernel)) ggX4_endsOpened_X0_take
set_option maxRecDepth 20000 in
theorem ggX4_endsOpened_X0_holdsBehind : GoodIn wsX4_endsOpened wsX0_holdsBehind := goodIn_r _ [30, 31, 32, 33, 7, 34, 20, 35, 36, 37, 38, 21, 17, 39, 40, 41, 42, 43, 44, 45, 46, 47, 24, 48, 14, 18, 49, 50, 51, 52, 53, 54, 55, 56, 57, 58, 59, 25, 22, 23, 60, 61, 62, 63, 9, 15, 16, 64, 65, 66, 67, 68, 69, 70, 71, 72, 73, 74, 75, 76, 77, 78, 79, 80, 81, 82, 83, 91, 92, 93, 94, 95, 96, 97, 98, 99, 100, 101, 102, 103, 104, 105] (by decide +kernel) (by decide +kernel)
set_option maxRecDepth 20000 in
theorem gX4_endsOpened_X0_holdsBehind : GoodIn wsX4_endsOpened (wsV RX4 209 RX0 yX0_holdsBehind wsX0_holdsBehind) := goodIn_app (goodIn_of _ (by decide +kernel)) ggX4_endsOpened_X0_holdsBehind
theorem dX4_endsOpened_0 : decode cX4_endsOpened 0 = .ok (.aload_n 0, 1) := by decide +kernel
theorem dX4_endsOpened_1 : decode cX4_endsOpened 1 = .ok (.getfield 16, 3) := by decide +kernel
theorem dX4_endsOpened_4 : decode cX4_endsOpened 4 = .ok (.aload_n 0, 1) := by decide +kernel
theorem dX4_endsOpened_5 : decode cX4_endsOpened 5 = .ok (.getfield 12, 3) := by decide +kernel
theorem dX4_endsOpened_8 : decode cX4_endsOpened 8 = .ok (.invokevirtual 180, 3) := by decide +kernel
theorem dX4_endsOpened_11 : decode cX4_endsOpened 11 = .ok (.aload_n 0, 1) := by decide +kernel
theorem dX4_endsOpened_12 : decode cX4_endsOpened 12 = .ok (.getfield 16, 3) := by decide +kernel
theorem dX4_endsOpened_15 : decode cX4_endsOpened 15 = .ok (.dup, 1) := by decide +kernel
theorem dX4_endsOpened_16 : decode cX4_endsOpened 16 = .ok (.getfield 128, 3) := by decide +kernel
theorem dX4_endsOpened_19 : decode cX4_endsOpened 19 = .ok (.iload_n 1, 1) := by decide +kernel
theorem dX4_endsOpened_20 : decode cX4_endsOpened 20 = .ok (.ior, 1) := by decide +kernel
theorem dX4_endsOpened_21 : decode cX4_endsOpened 21 = .ok (.putfield 128, 3) := by decide +kernel
theorem dX4_endsOpened_24 : decode cX4_endsOpened 24 = .ok (.aload_n 0, 1) := by decide +kernel
theorem dX4_endsOpened_25 : decode cX4_endsOpened 25 = .ok (.getfield 16, 3) := by decide +kernel
theorem dX4_endsOpened_28 : decode cX4_endsOpened 28 = .ok (.iload_n 2, 1) := by decide +kernel
theorem dX4_endsOpened_29 : decode cX4_endsOpened 29 = .ok (.iload_n 3, 1) := by decide +kernel
theorem dX4_endsOpened_30 : decode cX4_endsOpened 30 = .ok (.invokevirtual 209, 3) := by decide +kernel
theorem dX4_endsOpened_33 : decode cX4_endsOpened 33 = .ok (.ifCond .ne 7, 3) := by decide +kernel
theorem dX4_endsOpened_36 : decode cX4_endsOpened 36 = .ok (.iconst 1, 1) := by decide +kernel
theorem dX4_endsOpened_37 : decode cX4_endsOpened 37 = .ok (.goto 4, 3) := by decide +kernel
theorem dX4_endsOpened_40 : decode cX4_endsOpened 40 = .ok (.iconst 0, 1) := by decide +kernel
theorem dX4_endsOpened_41 : decode cX4_endsOpened 41 = .ok (.ireturn, 1) := by decide +kernel
set_option maxRecDepth 20000 in
theorem ggX4_worstSet_J6_bitCount_0f7a4 : GoodIn wsX4_worstSet wsJ6_bitCount_0f7a4 := goodIn_r _ [6, 7, 8, 9] (by decide +kernel) (by decide +kernel)
set_option maxRecDepth 20000 in
theorem gX4_worstSet_J6_bitCount_0f7a4 : GoodIn wsX4_worstSet (va_wsS RX4 229 yJ6_bitCount_0f7a4 wsJ6_bitCount_0f7a4) := goodIn_app (goodIn_of _ (by decide +kernel)) ggX4_worstSet_J6_bitCount_0f7a4
set_option maxRecDepth 20000 in
theorem ggX4_worstSet_X4_holdingOpened : GoodIn wsX4_worstSet wsX4_holdingOpened := goodIn_r _ [14, 15, 1, 2, 16, 17, 18, 19, 20, 21, 22, 23, 24, 25, 26, 27, 28, 29, 30, 31, 32, 33, 34, 35, 36, 37, 38, 39, 40, 41, 42, 43, 44, 45, 46, 47, 48, 49, 50, 51, 52, 53, 54, 55, 56, 57, 58, 59, 13, 60, 61, 62, 63, 64, 65, 66, 67, 68, 69, 70, 71, 72, 73, 74, 75, 76, 77, 78, 79, 80, 81, 82, 83, 84, 85, 86, 87, 88, 89, 90, 91, 4, 5, 6, 7, 8, 9, 92, 93, 94, 95, 96, 97, 98, 99, 100, 101, 102, 103, 104, 105, 106, 107, 108, 109, 110, 111, 112, 113] (by decide +kernel) (by decide +kernel)
set_option maxRecDepth 20000 in
theorem gX4_worstSet_X4_holdingOpened : GoodIn wsX4_worstSet (wsV RX4 226 RX4 yX4_holdingOpened wsX4_holdingOpened) := goodIn_app (goodIn_of _ (by decide +kernel)) ggX4_worstSet_X4_holdingOpened
theorem dX4_worstSet_0 : decode cX4_worstSet 0 = .ok (.iconst 0, 1) := by decide +kernel
theorem dX4_worstSet_1 : decode cX4_worstSet 1 = .ok (.istore_n 3, 1) := by decide +kernel
theorem dX4_worstSet_2 : decode cX4_worstSet 2 = .ok (.bipush 9, 2) := by decide +kernel
theorem dX4_worstSet_4 : decode cX4_worstSet 4 = .ok (.istore 4, 2) := by decide +kernel
theorem dX4_worstSet_6 : decode cX4_worstSet 6 = .ok (.iconst 0, 1) := by decide +kernel
theorem dX4_worstSet_7 : decode cX4_worstSet 7 = .ok (.istore 5, 2) := by decide +kernel
theorem dX4_worstSet_9 : decode cX4_worstSet 9 = .ok (.iload 5, 2) := by decide +kernel
theorem dX4_worstSet_11 : decode cX4_worstSet 11 = .ok (.bipush 64, 2) := by decide +kernel
theorem dX4_worstSet_13 : decode cX4_worstSet 13 = .ok (.if_icmp .ge 54, 3) := by decide +kernel
theorem dX4_worstSet_16 : decode cX4_worstSet 16 = .ok (.iload 5, 2) := by decide +kernel
theorem dX4_worstSet_18 : decode cX4_worstSet 18 = .ok (.aload_n 0, 1) := by decide +kernel
theorem dX4_worstSet_19 : decode cX4_worstSet 19 = .ok (.getfield 12, 3) := by decide +kernel
theorem dX4_worstSet_22 : decode cX4_worstSet 22 = .ok (.getfield 128, 3) := by decide +kernel
theorem dX4_worstSet_25 : decode cX4_worstSet 25 = .ok (.iand, 1) := by decide +kernel
theorem dX4_worstSet_26 : decode cX4_worstSet 26 = .ok (.ifCond .ne 35, 3) := by decide +kernel
theorem dX4_worstSet_29 : decode cX4_worstSet 29 = .ok (.iload 5, 2) := by decide +kernel
theorem dX4_worstSet_31 : decode cX4_worstSet 31 = .ok (.invokestatic 229, 3) := by decide +kernel
theorem dX4_worstSet_34 : decode cX4_worstSet 34 = .ok (.iload_n 1, 1) := by decide +kernel
theorem dX4_worstSet_35 : decode cX4_worstSet 35 = .ok (.if_icmp .ne 26, 3) := by decide +kernel
theorem dX4_worstSet_38 : decode cX4_worstSet 38 = .ok (.aload_n 0, 1) := by decide +kernel
theorem dX4_worstSet_39 : decode cX4_worstSet 39 = .ok (.iload 5, 2) := by decide +kernel
theorem dX4_worstSet_41 : decode cX4_worstSet 41 = .ok (.iload_n 2, 1) := by decide +kernel
theorem dX4_worstSet_42 : decode cX4_worstSet 42 = .ok (.invokevirtual 226, 3) := by decide +kernel
theorem dX4_worstSet_45 : decode cX4_worstSet 45 = .ok (.istore 6, 2) := by decide +kernel
theorem dX4_worstSet_47 : decode cX4_worstSet 47 = .ok (.iload 6, 2) := by decide +kernel
theorem dX4_worstSet_49 : decode cX4_worstSet 49 = .ok (.iload 4, 2) := by decide +kernel
theorem dX4_worstSet_51 : decode cX4_worstSet 51 = .ok (.if_icmp .ge 10, 3) := by decide +kernel
theorem dX4_worstSet_54 : decode cX4_worstSet 54 = .ok (.iload 5, 2) := by decide +kernel
theorem dX4_worstSet_56 : decode cX4_worstSet 56 = .ok (.istore_n 3, 1) := by decide +kernel
theorem dX4_worstSet_57 : decode cX4_worstSet 57 = .ok (.iload 6, 2) := by decide +kernel
theorem dX4_worstSet_59 : decode cX4_worstSet 59 = .ok (.istore 4, 2) := by decide +kernel
theorem dX4_worstSet_61 : decode cX4_worstSet 61 = .ok (.iinc 5 1, 3) := by decide +kernel
theorem dX4_worstSet_64 : decode cX4_worstSet 64 = .ok (.goto (-55), 3) := by decide +kernel
theorem dX4_worstSet_67 : decode cX4_worstSet 67 = .ok (.iload_n 3, 1) := by decide +kernel
theorem dX4_worstSet_68 : decode cX4_worstSet 68 = .ok (.ireturn, 1) := by decide +kernel
set_option maxRecDepth 20000 in
theorem ggX4_worstBesides_X4_has : GoodIn wsX4_worstBesides wsX4_has := goodIn_r _ [10] (by decide +kernel) (by decide +kernel)
set_option maxRecDepth 20000 in
theorem gX4_worstBesides_X4_has : GoodIn wsX4_worstBesides (va_wsS RX4 131 yX4_has wsX4_has) := goodIn_app (goodIn_of _ (by decide +kernel)) ggX4_worstBesides_X4_has
set_option maxRecDepth 20000 in
theorem ggX4_worstBesides_X4_holdingOpened : GoodIn wsX4_worstBesides wsX4_holdingOpened := goodIn_r _ [14, 15, 1, 2, 16, 17, 18, 19, 20, 21, 22, 23, 24, 25, 26, 27, 28, 29, 30, 31, 32, 33, 34, 35, 36, 37, 38, 39, 40, 41, 42, 43, 44, 45, 46, 47, 48, 49, 50, 51, 52, 5, 53, 54, 55, 56, 57, 8, 9, 10, 58, 59, 60, 61, 62, 4, 6, 63, 64, 65, 66, 67, 68, 69, 70, 71, 72, 73, 74, 75, 76, 77, 78, 79, 80, 81, 82, 83, 84, 85, 86, 87, 88, 89, 90, 91, 92, 93, 94, 95, 96, 97, 98, 99, 100, 101, 102, 103, 104, 105, 106, 107, 108, 109, 110, 111, 112, 113, 114] (by decide +kernel) (by decide +kernel)
set_option maxRecDepth 20000 in
theorem gX4_worstBesides_X4_holdingOpened : GoodIn wsX4_worstBesides (wsV RX4 226 RX4 yX4_holdingOpened wsX4_holdingOpened) := goodIn_app (goodIn_of _ (by decide +kernel)) ggX4_worstBesides_X4_holdingOpened
theorem dX4_worstBesides_0 : decode cX4_worstBesides 0 = .ok (.bipush 9, 2) := by decide +kernel
theorem dX4_worstBesides_2 : decode cX4_worstBesides 2 = .ok (.istore_n 3, 1) := by decide +kernel
theorem dX4_worstBesides_3 : decode cX4_worstBesides 3 = .ok (.iconst 0, 1) := by decide +kernel
theorem dX4_worstBesides_4 : decode cX4_worstBesides 4 = .ok (.istore 4, 2) := by decide +kernel
theorem dX4_worstBesides_6 : decode cX4_worstBesides 6 = .ok (.iload 4, 2) := by decide +kernel
theorem dX4_worstBesides_8 : decode cX4_worstBesides 8 = .ok (.bipush 6, 2) := by decide +kernel
theorem dX4_worstBesides_10 : decode cX4_worstBesides 10 = .ok (.if_icmp .ge 44, 3) := by decide +kernel
theorem dX4_worstBesides_13 : decode cX4_worstBesides 13 = .ok (.iload 4, 2) := by decide +kernel
theorem dX4_worstBesides_15 : decode cX4_worstBesides 15 = .ok (.iload_n 1, 1) := by decide +kernel
theorem dX4_worstBesides_16 : decode cX4_worstBesides 16 = .ok (.if_icmp .eq 32, 3) := by decide +kernel
theorem dX4_worstBesides_19 : decode cX4_worstBesides 19 = .ok (.aload_n 0, 1) := by decide +kernel
theorem dX4_worstBesides_20 : decode cX4_worstBesides 20 = .ok (.getfield 12, 3) := by decide +kernel
theorem dX4_worstBesides_23 : decode cX4_worstBesides 23 = .ok (.getfield 128, 3) := by decide +kernel
theorem dX4_worstBesides_26 : decode cX4_worstBesides 26 = .ok (.iload 4, 2) := by decide +kernel
theorem dX4_worstBesides_28 : decode cX4_worstBesides 28 = .ok (.invokestatic 131, 3) := by decide +kernel
theorem dX4_worstBesides_31 : decode cX4_worstBesides 31 = .ok (.ifCond .ne 17, 3) := by decide +kernel
theorem dX4_worstBesides_34 : decode cX4_worstBesides 34 = .ok (.iload_n 3, 1) := by decide +kernel
theorem dX4_worstBesides_35 : decode cX4_worstBesides 35 = .ok (.aload_n 0, 1) := by decide +kernel
theorem dX4_worstBesides_36 : decode cX4_worstBesides 36 = .ok (.iconst 1, 1) := by decide +kernel
theorem dX4_worstBesides_37 : decode cX4_worstBesides 37 = .ok (.iload 4, 2) := by decide +kernel
theorem dX4_worstBesides_39 : decode cX4_worstBesides 39 = .ok (.ishl, 1) := by decide +kernel
theorem dX4_worstBesides_40 : decode cX4_worstBesides 40 = .ok (.iload_n 2, 1) := by decide +kernel
theorem dX4_worstBesides_41 : decode cX4_worstBesides 41 = .ok (.invokevirtual 226, 3) := by decide +kernel
theorem dX4_worstBesides_44 : decode cX4_worstBesides 44 = .ok (.invokestatic 204, 3) := by decide +kernel
theorem dX4_worstBesides_47 : decode cX4_worstBesides 47 = .ok (.istore_n 3, 1) := by decide +kernel
theorem dX4_worstBesides_48 : decode cX4_worstBesides 48 = .ok (.iinc 4 1, 3) := by decide +kernel
theorem dX4_worstBesides_51 : decode cX4_worstBesides 51 = .ok (.goto (-45), 3) := by decide +kernel
theorem dX4_worstBesides_54 : decode cX4_worstBesides 54 = .ok (.iload_n 3, 1) := by decide +kernel
theorem dX4_worstBesides_55 : decode cX4_worstBesides 55 = .ok (.bipush 8, 2) := by decide +kernel
theorem dX4_worstBesides_57 : decode cX4_worstBesides 57 = .ok (.if_icmp .gt 7, 3) := by decide +kernel
theorem dX4_worstBesides_60 : decode cX4_worstBesides 60 = .ok (.iload_n 3, 1) := by decide +kernel
theorem dX4_worstBesides_61 : decode cX4_worstBesides 61 = .ok (.goto 9, 3) := by decide +kernel
theorem dX4_worstBesides_64 : decode cX4_worstBesides 64 = .ok (.aload_n 0, 1) := by decide +kernel
theorem dX4_worstBesides_65 : decode cX4_worstBesides 65 = .ok (.iconst 0, 1) := by decide +kernel
theorem dX4_worstBesides_66 : decode cX4_worstBesides 66 = .ok (.iload_n 2, 1) := by decide +kernel
theorem dX4_worstBesides_67 : decode cX4_worstBesides 67 = .ok (.invokevirtual 226, 3) := by decide +kernel
theorem dX4_worstBesides_70 : decode cX4_worstBesides 70 = .ok (.ireturn, 1) := by decide +kernel
theorem dX4_isWithin_0 : decode cX4_isWithin 0 = .ok (.iload_n 0, 1) := by decide +kernel
theorem dX4_isWithin_1 : decode cX4_isWithin 1 = .ok (.iload_n 1, 1) := by decide +kernel
theorem dX4_isWithin_2 : decode cX4_isWithin 2 = .ok (.if_icmp .lt 12, 3) := by decide +kernel
theorem dX4_isWithin_5 : decode cX4_isWithin 5 = .ok (.iload_n 0, 1) := by decide +kernel
theorem dX4_isWithin_6 : decode cX4_isWithin 6 = .ok (.iload_n 2, 1) := by decide +kernel
theorem dX4_isWithin_7 : decode cX4_isWithin 7 = .ok (.if_icmp .gt 7, 3) := by decide +kernel
theorem dX4_isWithin_10 : decode cX4_isWithin 10 = .ok (.iconst 1, 1) := by decide +kernel
theorem dX4_isWithin_11 : decode cX4_isWithin 11 = .ok (.goto 4, 3) := by decide +kernel
theorem dX4_isWithin_14 : decode cX4_isWithin 14 = .ok (.iconst 0, 1) := by decide +kernel
theorem dX4_isWithin_15 : decode cX4_isWithin 15 = .ok (.ireturn, 1) := by decide +kernel
set_option maxRecDepth 20000 in
theorem ggX4_isShelf_X4_isWithin : GoodIn wsX4_isShelf wsX4_isWithin := goodIn_r _ [4] (by decide +kernel) (by decide +kernel)
set_option maxRecDepth 20000 in
theorem gX4_isShelf_X4_isWithin : GoodIn wsX4_isShelf (va_wsS RX4 115 yX4_isWithin wsX4_isWithin) := goodIn_app (goodIn_of _ (by decide +kernel)) ggX4_isShelf_X4_isWithin
theorem dX4_isShelf_0 : decode cX4_isShelf 0 = .ok (.iload_n 0, 1) := by decide +kernel
theorem dX4_isShelf_1 : decode cX4_isShelf 1 = .ok (.iconst 0, 1) := by decide +kernel
theorem dX4_isShelf_2 : decode cX4_isShelf 2 = .ok (.iconst 5, 1) := by decide +kernel
theorem dX4_isShelf_3 : decode cX4_isShelf 3 = .ok (.invokestatic 115, 3) := by decide +kernel
theorem dX4_isShelf_6 : decode cX4_isShelf 6 = .ok (.ireturn, 1) := by decide +kernel
set_option maxRecDepth 20000 in
theorem ggX4_isSheet_X4_isWithin : GoodIn wsX4_isSheet wsX4_isWithin := goodIn_r _ [4] (by decide +kernel) (by decide +kernel)
set_option maxRecDepth 20000 in
theorem gX4_isSheet_X4_isWithin : GoodIn wsX4_isSheet (va_wsS RX4 115 yX4_isWithin wsX4_isWithin) := goodIn_app (goodIn_of _ (by decide +kernel)) ggX4_isSheet_X4_isWithin
theorem dX4_isSheet_0 : decode cX4_isSheet 0 = .ok (.iload_n 0, 1) := by decide +kernel
theorem dX4_isSheet_1 : decode cX4_isSheet 1 = .ok (.iconst 0, 1) := by decide +kernel
theorem dX4_isSheet_2 : decode cX4_isSheet 2 = .ok (.iconst 3, 1) := by decide +kernel
theorem dX4_isSheet_3 : decode cX4_isSheet 3 = .ok (.invokestatic 115, 3) := by decide +kernel
theorem dX4_isSheet_6 : decode cX4_isSheet 6 = .ok (.ireturn, 1) := by decide +kernel
set_option maxRecDepth 20000 in
theorem ggX4_isWax_X4_isWithin : GoodIn wsX4_isWax wsX4_isWithin := goodIn_r _ [4] (by decide +kernel) (by decide +kernel)
set_option maxRecDepth 20000 in
theorem gX4_isWax_X4_isWithin : GoodIn wsX4_isWax (va_wsS RX4 115 yX4_isWithin wsX4_isWithin) := goodIn_app (goodIn_of _ (by decide +kernel)) ggX4_isWax_X4_isWithin
theorem dX4_isWax_0 : decode cX4_isWax 0 = .ok (.iload_n 0, 1) := by decide +kernel
theorem dX4_isWax_1 : decode cX4_isWax 1 = .ok (.iconst 1, 1) := by decide +kernel
theorem dX4_isWax_2 : decode cX4_isWax 2 = .ok (.bipush 99, 2) := by decide +kernel
theorem dX4_isWax_4 : decode cX4_isWax 4 = .ok (.invokestatic 115, 3) := by decide +kernel
theorem dX4_isWax_7 : decode cX4_isWax 7 = .ok (.ireturn, 1) := by decide +kernel
theorem dX4_has_0 : decode cX4_has 0 = .ok (.iload_n 0, 1) := by decide +kernel
theorem dX4_has_1 : decode cX4_has 1 = .ok (.iload_n 1, 1) := by decide +kernel
theorem dX4_has_2 : decode cX4_has 2 = .ok (.ishr, 1) := by decide +kernel
theorem dX4_has_3 : decode cX4_has 3 = .ok (.iconst 1, 1) := by decide +kernel
theorem dX4_has_4 : decode cX4_has 4 = .ok (.iand, 1) := by decide +kernel
theorem dX4_has_5 : decode cX4_has 5 = .ok (.iconst 1, 1) := by decide +kernel
theorem dX4_has_6 : decode cX4_has 6 = .ok (.if_icmp .ne 7, 3) := by decide +kernel
theorem dX4_has_9 : decode cX4_has 9 = .ok (.iconst 1, 1) := by decide +kernel
theorem dX4_has_10 : decode cX4_has 10 = .ok (.goto 4, 3) := by decide +kernel
theorem dX4_has_13 : decode cX4_has 13 = .ok (.iconst 0, 1) := by decide +kernel
theorem dX4_has_14 : decode cX4_has 14 = .ok (.ireturn, 1) := by decide +kernel
theorem dX4_with_0 : decode cX4_with 0 = .ok (.iload_n 0, 1) := by decide +kernel
theorem dX4_with_1 : decode cX4_with 1 = .ok (.iconst 1, 1) := by decide +kernel
theorem dX4_with_2 : decode cX4_with 2 = .ok (.iload_n 1, 1) := by decide +kernel
theorem dX4_with_3 : decode cX4_with 3 = .ok (.ishl, 1) := by decide +kernel
theorem dX4_with_4 : decode cX4_with 4 = .ok (.ior, 1) := by decide +kernel
theorem dX4_with_5 : decode cX4_with 5 = .ok (.ireturn, 1) := by decide +kernel
theorem dX4_without_0 : decode cX4_without 0 = .ok (.iload_n 0, 1) := by decide +kernel
theorem dX4_without_1 : decode cX4_without 1 = .ok (.iconst 1, 1) := by decide +kernel
theorem dX4_without_2 : decode cX4_without 2 = .ok (.iload_n 1, 1) := by decide +kernel
theorem dX4_without_3 : decode cX4_without 3 = .ok (.ishl, 1) := by decide +kernel
theorem dX4_without_4 : decode cX4_without 4 = .ok (.iconst (-1), 1) := by decide +kernel
theorem dX4_without_5 : decode cX4_without 5 = .ok (.ixor, 1) := by decide +kernel
theorem dX4_without_6 : decode cX4_without 6 = .ok (.iand, 1) := by decide +kernel
theorem dX4_without_7 : decode cX4_without 7 = .ok (.ireturn, 1) := by decide +kernel
theorem dX4_put_0 : decode cX4_put 0 = .ok (.aload_n 0, 1) := by decide +kernel
theorem dX4_put_1 : decode cX4_put 1 = .ok (.iload_n 1, 1) := by decide +kernel
theorem dX4_put_2 : decode cX4_put 2 = .ok (.iaload, 1) := by decide +kernel
theorem dX4_put_3 : decode cX4_put 3 = .ok (.istore_n 3, 1) := by decide +kernel
theorem dX4_put_4 : decode cX4_put 4 = .ok (.aload_n 0, 1) := by decide +kernel
theorem dX4_put_5 : decode cX4_put 5 = .ok (.iload_n 1, 1) := by decide +kernel
theorem dX4_put_6 : decode cX4_put 6 = .ok (.iload_n 2, 1) := by decide +kernel
theorem dX4_put_7 : decode cX4_put 7 = .ok (.iastore, 1) := by decide +kernel
theorem dX4_put_8 : decode cX4_put 8 = .ok (.iload_n 3, 1) := by decide +kernel
theorem dX4_put_9 : decode cX4_put 9 = .ok (.ireturn, 1) := by decide +kernel
