theorem dX5_init_0 : decode cX5_init 0 = .ok (.aload_n 0, 1) := by decide +kernel
theorem dX5_init_1 : decode cX5_init 1 = .ok (.invokespecial 1, 3) := by decide +kernel
theorem dX5_init_4 : decode cX5_init 4 = .ok (.aload_n 0, 1) := by decide +kernel
theorem dX5_init_5 : decode cX5_init 5 = .ok (.bipush 80, 2) := by decide +kernel
theorem dX5_init_7 : decode cX5_init 7 = .ok (.newarray .int, 2) := by decide +kernel
theorem dX5_init_9 : decode cX5_init 9 = .ok (.putfield 9, 3) := by decide +kernel
theorem dX5_init_12 : decode cX5_init 12 = .ok (.aload_n 0, 1) := by decide +kernel
theorem dX5_init_13 : decode cX5_init 13 = .ok (.bipush 80, 2) := by decide +kernel
theorem dX5_init_15 : decode cX5_init 15 = .ok (.newarray .int, 2) := by decide +kernel
theorem dX5_init_17 : decode cX5_init 17 = .ok (.putfield 13, 3) := by decide +kernel
theorem dX5_init_20 : decode cX5_init 20 = .ok (.aload_n 0, 1) := by decide +kernel
theorem dX5_init_21 : decode cX5_init 21 = .ok (.bipush 80, 2) := by decide +kernel
theorem dX5_init_23 : decode cX5_init 23 = .ok (.newarray .int, 2) := by decide +kernel
theorem dX5_init_25 : decode cX5_init 25 = .ok (.putfield 16, 3) := by decide +kernel
theorem dX5_init_28 : decode cX5_init 28 = .ok (.aload_n 0, 1) := by decide +kernel
theorem dX5_init_29 : decode cX5_init 29 = .ok (.bipush 80, 2) := by decide +kernel
theorem dX5_init_31 : decode cX5_init 31 = .ok (.newarray .int, 2) := by decide +kernel
theorem dX5_init_33 : decode cX5_init 33 = .ok (.putfield 19, 3) := by decide +kernel
theorem dX5_init_36 : decode cX5_init 36 = .ok (.aload_n 0, 1) := by decide +kernel
theorem dX5_init_37 : decode cX5_init 37 = .ok (.bipush 120, 2) := by decide +kernel
theorem dX5_init_39 : decode cX5_init 39 = .ok (.newarray .int, 2) := by decide +kernel
theorem dX5_init_41 : decode cX5_init 41 = .ok (.putfield 22, 3) := by decide +kernel
theorem dX5_init_44 : decode cX5_init 44 = .ok (.aload_n 0, 1) := by decide +kernel
theorem dX5_init_45 : decode cX5_init 45 = .ok (.bipush 7, 2) := by decide +kernel
theorem dX5_init_47 : decode cX5_init 47 = .ok (.newarray .int, 2) := by decide +kernel
theorem dX5_init_49 : decode cX5_init 49 = .ok (.putfield 25, 3) := by decide +kernel
theorem dX5_init_52 : decode cX5_init 52 = .ok (.aload_n 0, 1) := by decide +kernel
theorem dX5_init_53 : decode cX5_init 53 = .ok (.bipush 6, 2) := by decide +kernel
theorem dX5_init_55 : decode cX5_init 55 = .ok (.newarray .int, 2) := by decide +kernel
theorem dX5_init_57 : decode cX5_init 57 = .ok (.putfield 28, 3) := by decide +kernel
theorem dX5_init_60 : decode cX5_init 60 = .ok (.aload_n 0, 1) := by decide +kernel
theorem dX5_init_61 : decode cX5_init 61 = .ok (.iconst 4, 1) := by decide +kernel
theorem dX5_init_62 : decode cX5_init 62 = .ok (.newarray .int, 2) := by decide +kernel
theorem dX5_init_64 : decode cX5_init 64 = .ok (.putfield 31, 3) := by decide +kernel
theorem dX5_init_67 : decode cX5_init 67 = .ok (.aload_n 0, 1) := by decide +kernel
theorem dX5_init_68 : decode cX5_init 68 = .ok (.iconst 4, 1) := by decide +kernel
theorem dX5_init_69 : decode cX5_init 69 = .ok (.newarray .int, 2) := by decide +kernel
theorem dX5_init_71 : decode cX5_init 71 = .ok (.putfield 34, 3) := by decide +kernel
theorem dX5_init_74 : decode cX5_init 74 = .ok (.aload_n 0, 1) := by decide +kernel
theorem dX5_init_75 : decode cX5_init 75 = .ok (.sipush 160, 3) := by decide +kernel
theorem dX5_init_78 : decode cX5_init 78 = .ok (.newarray .int, 2) := by decide +kernel
theorem dX5_init_80 : decode cX5_init 80 = .ok (.putfield 37, 3) := by decide +kernel
theorem dX5_init_83 : decode cX5_init 83 = .ok (.aload_n 0, 1) := by decide +kernel
theorem dX5_init_84 : decode cX5_init 84 = .ok (.bipush 40, 2) := by decide +kernel
theorem dX5_init_86 : decode cX5_init 86 = .ok (.newarray .int, 2) := by decide +kernel
theorem dX5_init_88 : decode cX5_init 88 = .ok (.putfield 40, 3) := by decide +kernel
theorem dX5_init_91 : decode cX5_init 91 = .ok (.aload_n 0, 1) := by decide +kernel
theorem dX5_init_92 : decode cX5_init 92 = .ok (.getfield 9, 3) := by decide +kernel
theorem dX5_init_95 : decode cX5_init 95 = .ok (.iconst 1, 1) := by decide +kernel
theorem dX5_init_96 : decode cX5_init 96 = .ok (.bipush 15, 2) := by decide +kernel
theorem dX5_init_98 : decode cX5_init 98 = .ok (.iastore, 1) := by decide +kernel
theorem dX5_init_99 : decode cX5_init 99 = .ok (.aload_n 0, 1) := by decide +kernel
theorem dX5_init_100 : decode cX5_init 100 = .ok (.getfield 9, 3) := by decide +kernel
theorem dX5_init_103 : decode cX5_init 103 = .ok (.iconst 3, 1) := by decide +kernel
theorem dX5_init_104 : decode cX5_init 104 = .ok (.iconst 1, 1) := by decide +kernel
theorem dX5_init_105 : decode cX5_init 105 = .ok (.iastore, 1) := by decide +kernel
theorem dX5_init_106 : decode cX5_init 106 = .ok (.iconst 0, 1) := by decide +kernel
theorem dX5_init_107 : decode cX5_init 107 = .ok (.istore_n 1, 1) := by decide +kernel
theorem dX5_init_108 : decode cX5_init 108 = .ok (.iload_n 1, 1) := by decide +kernel
theorem dX5_init_109 : decode cX5_init 109 = .ok (.bipush 10, 2) := by decide +kernel
theorem dX5_init_111 : decode cX5_init 111 = .ok (.if_icmp .ge 19, 3) := by decide +kernel
theorem dX5_init_114 : decode cX5_init 114 = .ok (.aload_n 0, 1) := by decide +kernel
theorem dX5_init_115 : decode cX5_init 115 = .ok (.getfield 9, 3) := by decide +kernel
theorem dX5_init_118 : decode cX5_init 118 = .ok (.bipush 22, 2) := by decide +kernel
theorem dX5_init_120 : decode cX5_init 120 = .ok (.iload_n 1, 1) := by decide +kernel
theorem dX5_init_121 : decode cX5_init 121 = .ok (.iadd, 1) := by decide +kernel
theorem dX5_init_122 : decode cX5_init 122 = .ok (.iconst (-1), 1) := by decide +kernel
theorem dX5_init_123 : decode cX5_init 123 = .ok (.iastore, 1) := by decide +kernel
theorem dX5_init_124 : decode cX5_init 124 = .ok (.iinc 1 1, 3) := by decide +kernel
theorem dX5_init_127 : decode cX5_init 127 = .ok (.goto (-19), 3) := by decide +kernel
theorem dX5_init_130 : decode cX5_init 130 = .ok (.return_, 1) := by decide +kernel
theorem dX5_row_0 : decode cX5_row 0 = .ok (.iconst 0, 1) := by decide +kernel
theorem dX5_row_1 : decode cX5_row 1 = .ok (.istore_n 2, 1) := by decide +kernel
theorem dX5_row_2 : decode cX5_row 2 = .ok (.iload_n 2, 1) := by decide +kernel
theorem dX5_row_3 : decode cX5_row 3 = .ok (.bipush 80, 2) := by decide +kernel
theorem dX5_row_5 : decode cX5_row 5 = .ok (.if_icmp .ge 15, 3) := by decide +kernel
theorem dX5_row_8 : decode cX5_row 8 = .ok (.aload_n 1, 1) := by decide +kernel
theorem dX5_row_9 : decode cX5_row 9 = .ok (.iload_n 2, 1) := by decide +kernel
theorem dX5_row_10 : decode cX5_row 10 = .ok (.aload_n 0, 1) := by decide +kernel
theorem dX5_row_11 : decode cX5_row 11 = .ok (.iload_n 2, 1) := by decide +kernel
theorem dX5_row_12 : decode cX5_row 12 = .ok (.iaload, 1) := by decide +kernel
theorem dX5_row_13 : decode cX5_row 13 = .ok (.iastore, 1) := by decide +kernel
theorem dX5_row_14 : decode cX5_row 14 = .ok (.iinc 2 1, 3) := by decide +kernel
theorem dX5_row_17 : decode cX5_row 17 = .ok (.goto (-15), 3) := by decide +kernel
theorem dX5_row_20 : decode cX5_row 20 = .ok (.return_, 1) := by decide +kernel
theorem dX5_finding_0 : decode cX5_finding 0 = .ok (.aload_n 0, 1) := by decide +kernel
theorem dX5_finding_1 : decode cX5_finding 1 = .ok (.getfield 25, 3) := by decide +kernel
theorem dX5_finding_4 : decode cX5_finding 4 = .ok (.iload_n 1, 1) := by decide +kernel
theorem dX5_finding_5 : decode cX5_finding 5 = .ok (.dup2, 1) := by decide +kernel
theorem dX5_finding_6 : decode cX5_finding 6 = .ok (.iaload, 1) := by decide +kernel
theorem dX5_finding_7 : decode cX5_finding 7 = .ok (.iconst 1, 1) := by decide +kernel
theorem dX5_finding_8 : decode cX5_finding 8 = .ok (.iadd, 1) := by decide +kernel
theorem dX5_finding_9 : decode cX5_finding 9 = .ok (.iastore, 1) := by decide +kernel
theorem dX5_finding_10 : decode cX5_finding 10 = .ok (.ldc 43, 2) := by decide +kernel
theorem dX5_finding_12 : decode cX5_finding 12 = .ok (.iload_n 1, 1) := by decide +kernel
theorem dX5_finding_13 : decode cX5_finding 13 = .ok (.isub, 1) := by decide +kernel
theorem dX5_finding_14 : decode cX5_finding 14 = .ok (.ireturn, 1) := by decide +kernel
theorem dX5_within_0 : decode cX5_within 0 = .ok (.iload_n 0, 1) := by decide +kernel
theorem dX5_within_1 : decode cX5_within 1 = .ok (.iload_n 1, 1) := by decide +kernel
theorem dX5_within_2 : decode cX5_within 2 = .ok (.if_icmp .lt 12, 3) := by decide +kernel
theorem dX5_within_5 : decode cX5_within 5 = .ok (.iload_n 0, 1) := by decide +kernel
theorem dX5_within_6 : decode cX5_within 6 = .ok (.iload_n 2, 1) := by decide +kernel
theorem dX5_within_7 : decode cX5_within 7 = .ok (.if_icmp .gt 7, 3) := by decide +kernel
theorem dX5_within_10 : decode cX5_within 10 = .ok (.iconst 1, 1) := by decide +kernel
theorem dX5_within_11 : decode cX5_within 11 = .ok (.goto 4, 3) := by decide +kernel
theorem dX5_within_14 : decode cX5_within 14 = .ok (.iconst 0, 1) := by decide +kernel
theorem dX5_within_15 : decode cX5_within 15 = .ok (.ireturn, 1) := by decide +kernel
set_option maxRecDepth 20000 in
theorem ggX5_isDeed_X5_within : GoodIn wsX5_isDeed wsX5_within := goodIn_r _ [5] (by decide +kernel) (by decide +kernel)
set_option maxRecDepth 20000 in
theorem gX5_isDeed_X5_within : GoodIn wsX5_isDeed (va_wsS RX5 44 yX5_within wsX5_within) := goodIn_app (goodIn_of _ (by decide +kernel)) ggX5_isDeed_X5_within
theorem dX5_isDeed_0 : decode cX5_isDeed 0 = .ok (.iload_n 1, 1) := by decide +kernel
theorem dX5_isDeed_1 : decode cX5_isDeed 1 = .ok (.iconst 0, 1) := by decide +kernel
theorem dX5_isDeed_2 : decode cX5_isDeed 2 = .ok (.aload_n 0, 1) := by decide +kernel
theorem dX5_isDeed_3 : decode cX5_isDeed 3 = .ok (.getfield 9, 3) := by decide +kernel
theorem dX5_isDeed_6 : decode cX5_isDeed 6 = .ok (.iconst 0, 1) := by decide +kernel
theorem dX5_isDeed_7 : decode cX5_isDeed 7 = .ok (.iaload, 1) := by decide +kernel
theorem dX5_isDeed_8 : decode cX5_isDeed 8 = .ok (.iconst 1, 1) := by decide +kernel
theorem dX5_isDeed_9 : decode cX5_isDeed 9 = .ok (.isub, 1) := by decide +kernel
theorem dX5_isDeed_10 : decode cX5_isDeed 10 = .ok (.invokestatic 44, 3) := by decide +kernel
theorem dX5_isDeed_13 : decode cX5_isDeed 13 = .ok (.ireturn, 1) := by decide +kernel
set_option maxRecDepth 20000 in
theorem ggX5_isShelf_X5_within : GoodIn wsX5_isShelf wsX5_within := goodIn_r _ [4] (by decide +kernel) (by decide +kernel)
set_option maxRecDepth 20000 in
theorem gX5_isShelf_X5_within : GoodIn wsX5_isShelf (va_wsS RX5 44 yX5_within wsX5_within) := goodIn_app (goodIn_of _ (by decide +kernel)) ggX5_isShelf_X5_within
theorem dX5_isShelf_0 : decode cX5_isShelf 0 = .ok (.iload_n 0, 1) := by decide +kernel
theorem dX5_isShelf_1 : decode cX5_isShelf 1 = .ok (.iconst 0, 1) := by decide +kernel
theorem dX5_isShelf_2 : decode cX5_isShelf 2 = .ok (.iconst 5, 1) := by decide +kernel
theorem dX5_isShelf_3 : decode cX5_isShelf 3 = .ok (.invokestatic 44, 3) := by decide +kernel
theorem dX5_isShelf_6 : decode cX5_isShelf 6 = .ok (.ireturn, 1) := by decide +kernel
set_option maxRecDepth 20000 in
theorem ggX5_isKind_X5_within : GoodIn wsX5_isKind wsX5_within := goodIn_r _ [4] (by decide +kernel) (by decide +kernel)
set_option maxRecDepth 20000 in
theorem gX5_isKind_X5_within : GoodIn wsX5_isKind (va_wsS RX5 44 yX5_within wsX5_within) := goodIn_app (goodIn_of _ (by decide +kernel)) ggX5_isKind_X5_within
theorem dX5_isKind_0 : decode cX5_isKind 0 = .ok (.iload_n 0, 1) := by decide +kernel
theorem dX5_isKind_1 : decode cX5_isKind 1 = .ok (.iconst 0, 1) := by decide +kernel
theorem dX5_isKind_2 : decode cX5_isKind 2 = .ok (.bipush 6, 2) := by decide +kernel
theorem dX5_isKind_4 : decode cX5_isKind 4 = .ok (.invokestatic 44, 3) := by decide +kernel
theorem dX5_isKind_7 : decode cX5_isKind 7 = .ok (.ireturn, 1) := by decide +kernel
theorem dX5_isTime_0 : decode cX5_isTime 0 = .ok (.aload_n 0, 1) := by decide +kernel
theorem dX5_isTime_1 : decode cX5_isTime 1 = .ok (.getfield 9, 3) := by decide +kernel
theorem dX5_isTime_4 : decode cX5_isTime 4 = .ok (.iconst 2, 1) := by decide +kernel
theorem dX5_isTime_5 : decode cX5_isTime 5 = .ok (.iaload, 1) := by decide +kernel
theorem dX5_isTime_6 : decode cX5_isTime 6 = .ok (.iload_n 1, 1) := by decide +kernel
theorem dX5_isTime_7 : decode cX5_isTime 7 = .ok (.iadd, 1) := by decide +kernel
theorem dX5_isTime_8 : decode cX5_isTime 8 = .ok (.sipush 9999, 3) := by decide +kernel
theorem dX5_isTime_11 : decode cX5_isTime 11 = .ok (.if_icmp .gt 7, 3) := by decide +kernel
theorem dX5_isTime_14 : decode cX5_isTime 14 = .ok (.iconst 1, 1) := by decide +kernel
theorem dX5_isTime_15 : decode cX5_isTime 15 = .ok (.goto 4, 3) := by decide +kernel
theorem dX5_isTime_18 : decode cX5_isTime 18 = .ok (.iconst 0, 1) := by decide +kernel
theorem dX5_isTime_19 : decode cX5_isTime 19 = .ok (.ireturn, 1) := by decide +kernel
theorem dX5_above_0 : decode cX5_above 0 = .ok (.iload_n 0, 1) := by decide +kernel
theorem dX5_above_1 : decode cX5_above 1 = .ok (.tableswitch 51 0 6 #[43, 51, 51, 45, 47, 51, 49], 43) := by decide +kernel
theorem dX5_above_44 : decode cX5_above 44 = .ok (.iconst (-1), 1) := by decide +kernel
theorem dX5_above_45 : decode cX5_above 45 = .ok (.ireturn, 1) := by decide +kernel
theorem dX5_above_46 : decode cX5_above 46 = .ok (.iconst 2, 1) := by decide +kernel
theorem dX5_above_47 : decode cX5_above 47 = .ok (.ireturn, 1) := by decide +kernel
theorem dX5_above_48 : decode cX5_above 48 = .ok (.iconst 1, 1) := by decide +kernel
theorem dX5_above_49 : decode cX5_above 49 = .ok (.ireturn, 1) := by decide +kernel
theorem dX5_above_50 : decode cX5_above 50 = .ok (.iconst 5, 1) := by decide +kernel
theorem dX5_above_51 : decode cX5_above 51 = .ok (.ireturn, 1) := by decide +kernel
theorem dX5_above_52 : decode cX5_above 52 = .ok (.iconst 0, 1) := by decide +kernel
theorem dX5_above_53 : decode cX5_above 53 = .ok (.ireturn, 1) := by decide +kernel
set_option maxRecDepth 20000 in
theorem ggX5_isUnder_X5_above : GoodIn wsX5_isUnder wsX5_above := goodIn_r _ [4] (by decide +kernel) (by decide +kernel)
set_option maxRecDepth 20000 in
theorem gX5_isUnder_X5_above : GoodIn wsX5_isUnder (va_wsS RX5 48 yX5_above wsX5_above) := goodIn_app (goodIn_of _ (by decide +kernel)) ggX5_isUnder_X5_above
theorem dX5_isUnder_0 : decode cX5_isUnder 0 = .ok (.iload_n 0, 1) := by decide +kernel
theorem dX5_isUnder_1 : decode cX5_isUnder 1 = .ok (.istore_n 2, 1) := by decide +kernel
theorem dX5_isUnder_2 : decode cX5_isUnder 2 = .ok (.iload_n 2, 1) := by decide +kernel
theorem dX5_isUnder_3 : decode cX5_isUnder 3 = .ok (.ifCond .lt 16, 3) := by decide +kernel
theorem dX5_isUnder_6 : decode cX5_isUnder 6 = .ok (.iload_n 2, 1) := by decide +kernel
theorem dX5_isUnder_7 : decode cX5_isUnder 7 = .ok (.iload_n 1, 1) := by decide +kernel
theorem dX5_isUnder_8 : decode cX5_isUnder 8 = .ok (.if_icmp .eq 11, 3) := by decide +kernel
theorem dX5_isUnder_11 : decode cX5_isUnder 11 = .ok (.iload_n 2, 1) := by decide +kernel
theorem dX5_isUnder_12 : decode cX5_isUnder 12 = .ok (.invokestatic 48, 3) := by decide +kernel
theorem dX5_isUnder_15 : decode cX5_isUnder 15 = .ok (.istore_n 2, 1) := by decide +kernel
theorem dX5_isUnder_16 : decode cX5_isUnder 16 = .ok (.goto (-14), 3) := by decide +kernel
theorem dX5_isUnder_19 : decode cX5_isUnder 19 = .ok (.iload_n 2, 1) := by decide +kernel
theorem dX5_isUnder_20 : decode cX5_isUnder 20 = .ok (.ifCond .lt 7, 3) := by decide +kernel
theorem dX5_isUnder_23 : decode cX5_isUnder 23 = .ok (.iconst 1, 1) := by decide +kernel
theorem dX5_isUnder_24 : decode cX5_isUnder 24 = .ok (.goto 4, 3) := by decide +kernel
theorem dX5_isUnder_27 : decode cX5_isUnder 27 = .ok (.iconst 0, 1) := by decide +kernel
theorem dX5_isUnder_28 : decode cX5_isUnder 28 = .ok (.ireturn, 1) := by decide +kernel
theorem dX5_bits_0 : decode cX5_bits 0 = .ok (.iconst 0, 1) := by decide +kernel
theorem dX5_bits_1 : decode cX5_bits 1 = .ok (.istore_n 1, 1) := by decide +kernel
theorem dX5_bits_2 : decode cX5_bits 2 = .ok (.iload_n 0, 1) := by decide +kernel
theorem dX5_bits_3 : decode cX5_bits 3 = .ok (.istore_n 2, 1) := by decide +kernel
theorem dX5_bits_4 : decode cX5_bits 4 = .ok (.iload_n 2, 1) := by decide +kernel
theorem dX5_bits_5 : decode cX5_bits 5 = .ok (.ifCond .le 15, 3) := by decide +kernel
theorem dX5_bits_8 : decode cX5_bits 8 = .ok (.iinc 1 1, 3) := by decide +kernel
theorem dX5_bits_11 : decode cX5_bits 11 = .ok (.iload_n 2, 1) := by decide +kernel
theorem dX5_bits_12 : decode cX5_bits 12 = .ok (.iload_n 2, 1) := by decide +kernel
theorem dX5_bits_13 : decode cX5_bits 13 = .ok (.iconst 1, 1) := by decide +kernel
theorem dX5_bits_14 : decode cX5_bits 14 = .ok (.isub, 1) := by decide +kernel
theorem dX5_bits_15 : decode cX5_bits 15 = .ok (.iand, 1) := by decide +kernel
theorem dX5_bits_16 : decode cX5_bits 16 = .ok (.istore_n 2, 1) := by decide +kernel
theorem dX5_bits_17 : decode cX5_bits 17 = .ok (.goto (-13), 3) := by decide +kernel
theorem dX5_bits_20 : decode cX5_bits 20 = .ok (.iload_n 1, 1) := by decide +kernel
theorem dX5_bits_21 : decode cX5_bits 21 = .ok (.ireturn, 1) := by decide +kernel
theorem dX5_sunAt_0 : decode cX5_sunAt 0 = .ok (.iload_n 0, 1) := by decide +kernel
theorem dX5_sunAt_1 : decode cX5_sunAt 1 = .ok (.bipush 24, 2) := by decide +kernel
theorem dX5_sunAt_3 : decode cX5_sunAt 3 = .ok (.irem, 1) := by decide +kernel
theorem dX5_sunAt_4 : decode cX5_sunAt 4 = .ok (.istore_n 1, 1) := by decide +kernel
theorem dX5_sunAt_5 : decode cX5_sunAt 5 = .ok (.iload_n 1, 1) := by decide +kernel
theorem dX5_sunAt_6 : decode cX5_sunAt 6 = .ok (.bipush 6, 2) := by decide +kernel
theorem dX5_sunAt_8 : decode cX5_sunAt 8 = .ok (.if_icmp .lt 9, 3) := by decide +kernel
theorem dX5_sunAt_11 : decode cX5_sunAt 11 = .ok (.iload_n 1, 1) := by decide +kernel
theorem dX5_sunAt_12 : decode cX5_sunAt 12 = .ok (.bipush 20, 2) := by decide +kernel
theorem dX5_sunAt_14 : decode cX5_sunAt 14 = .ok (.if_icmp .lt 7, 3) := by decide +kernel
theorem dX5_sunAt_17 : decode cX5_sunAt 17 = .ok (.iconst 0, 1) := by decide +kernel
theorem dX5_sunAt_18 : decode cX5_sunAt 18 = .ok (.goto 15, 3) := by decide +kernel
theorem dX5_sunAt_21 : decode cX5_sunAt 21 = .ok (.bipush 28, 2) := by decide +kernel
theorem dX5_sunAt_23 : decode cX5_sunAt 23 = .ok (.iconst 4, 1) := by decide +kernel
theorem dX5_sunAt_24 : decode cX5_sunAt 24 = .ok (.iload_n 1, 1) := by decide +kernel
theorem dX5_sunAt_25 : decode cX5_sunAt 25 = .ok (.bipush 13, 2) := by decide +kernel
theorem dX5_sunAt_27 : decode cX5_sunAt 27 = .ok (.isub, 1) := by decide +kernel
theorem dX5_sunAt_28 : decode cX5_sunAt 28 = .ok (.invokestatic 52, 3) := by decide +kernel
theorem dX5_sunAt_31 : decode cX5_sunAt 31 = .ok (.imul, 1) := by decide +kernel
theorem dX5_sunAt_32 : decode cX5_sunAt 32 = .ok (.isub, 1) := by decide +kernel
theorem dX5_sunAt_33 : decode cX5_sunAt 33 = .ok (.ireturn, 1) := by decide +kernel
set_option maxRecDepth 20000 in
theorem ggX5_heatOf_X5_sunAt : GoodIn wsX5_heatOf wsX5_sunAt := goodIn_r _ [4, 5, 6, 7, 8] (by decide +kernel) (by decide +kernel)
set_option maxRecDepth 20000 in
theorem gX5_heatOf_X5_sunAt : GoodIn wsX5_heatOf (va_wsS RX5 57 yX5_sunAt wsX5_sunAt) := goodIn_app (goodIn_of _ (by decide +kernel)) ggX5_heatOf_X5_sunAt
theorem dX5_heatOf_0 : decode cX5_heatOf 0 = .ok (.iload_n 2, 1) := by decide +kernel
theorem dX5_heatOf_1 : decode cX5_heatOf 1 = .ok (.invokestatic 57, 3) := by decide +kernel
theorem dX5_heatOf_4 : decode cX5_heatOf 4 = .ok (.istore_n 3, 1) := by decide +kernel
theorem dX5_heatOf_5 : decode cX5_heatOf 5 = .ok (.aload_n 0, 1) := by decide +kernel
theorem dX5_heatOf_6 : decode cX5_heatOf 6 = .ok (.iconst 1, 1) := by decide +kernel
theorem dX5_heatOf_7 : decode cX5_heatOf 7 = .ok (.iaload, 1) := by decide +kernel
theorem dX5_heatOf_8 : decode cX5_heatOf 8 = .ok (.aload_n 0, 1) := by decide +kernel
theorem dX5_heatOf_9 : decode cX5_heatOf 9 = .ok (.iconst 4, 1) := by decide +kernel
theorem dX5_heatOf_10 : decode cX5_heatOf 10 = .ok (.iload_n 1, 1) := by decide +kernel
theorem dX5_heatOf_11 : decode cX5_heatOf 11 = .ok (.iadd, 1) := by decide +kernel
theorem dX5_heatOf_12 : decode cX5_heatOf 12 = .ok (.iaload, 1) := by decide +kernel
theorem dX5_heatOf_13 : decode cX5_heatOf 13 = .ok (.iconst 1, 1) := by decide +kernel
theorem dX5_heatOf_14 : decode cX5_heatOf 14 = .ok (.if_icmp .ne 7, 3) := by decide +kernel
theorem dX5_heatOf_17 : decode cX5_heatOf 17 = .ok (.iload_n 3, 1) := by decide +kernel
theorem dX5_heatOf_18 : decode cX5_heatOf 18 = .ok (.goto 6, 3) := by decide +kernel
theorem dX5_heatOf_21 : decode cX5_heatOf 21 = .ok (.iload_n 3, 1) := by decide +kernel
theorem dX5_heatOf_22 : decode cX5_heatOf 22 = .ok (.iconst 2, 1) := by decide +kernel
theorem dX5_heatOf_23 : decode cX5_heatOf 23 = .ok (.idiv, 1) := by decide +kernel
theorem dX5_heatOf_24 : decode cX5_heatOf 24 = .ok (.iadd, 1) := by decide +kernel
theorem dX5_heatOf_25 : decode cX5_heatOf 25 = .ok (.bipush 6, 2) := by decide +kernel
theorem dX5_heatOf_27 : decode cX5_heatOf 27 = .ok (.iload_n 1, 1) := by decide +kernel
theorem dX5_heatOf_28 : decode cX5_heatOf 28 = .ok (.imul, 1) := by decide +kernel
theorem dX5_heatOf_29 : decode cX5_heatOf 29 = .ok (.isub, 1) := by decide +kernel
theorem dX5_heatOf_30 : decode cX5_heatOf 30 = .ok (.istore 4, 2) := by decide +kernel
theorem dX5_heatOf_32 : decode cX5_heatOf 32 = .ok (.iload 4, 2) := by decide +kernel
theorem dX5_heatOf_34 : decode cX5_heatOf 34 = .ok (.aload_n 0, 1) := by decide +kernel
theorem dX5_heatOf_35 : decode cX5_heatOf 35 = .ok (.bipush 10, 2) := by decide +kernel
theorem dX5_heatOf_37 : decode cX5_heatOf 37 = .ok (.iload_n 1, 1) := by decide +kernel
theorem dX5_heatOf_38 : decode cX5_heatOf 38 = .ok (.iadd, 1) := by decide +kernel
theorem dX5_heatOf_39 : decode cX5_heatOf 39 = .ok (.iaload, 1) := by decide +kernel
theorem dX5_heatOf_40 : decode cX5_heatOf 40 = .ok (.ifCond .le 8, 3) := by decide +kernel
theorem dX5_heatOf_43 : decode cX5_heatOf 43 = .ok (.bipush 10, 2) := by decide +kernel
theorem dX5_heatOf_45 : decode cX5_heatOf 45 = .ok (.goto 4, 3) := by decide +kernel
theorem dX5_heatOf_48 : decode cX5_heatOf 48 = .ok (.iconst 0, 1) := by decide +kernel
theorem dX5_heatOf_49 : decode cX5_heatOf 49 = .ok (.isub, 1) := by decide +kernel
theorem dX5_heatOf_50 : decode cX5_heatOf 50 = .ok (.istore 4, 2) := by decide +kernel
theorem dX5_heatOf_52 : decode cX5_heatOf 52 = .ok (.iload 4, 2) := by decide +kernel
theorem dX5_heatOf_54 : decode cX5_heatOf 54 = .ok (.aload_n 0, 1) := by decide +kernel
theorem dX5_heatOf_55 : decode cX5_heatOf 55 = .ok (.bipush 16, 2) := by decide +kernel
theorem dX5_heatOf_57 : decode cX5_heatOf 57 = .ok (.iload_n 1, 1) := by decide +kernel
theorem dX5_heatOf_58 : decode cX5_heatOf 58 = .ok (.iadd, 1) := by decide +kernel
theorem dX5_heatOf_59 : decode cX5_heatOf 59 = .ok (.iaload, 1) := by decide +kernel
theorem dX5_heatOf_60 : decode cX5_heatOf 60 = .ok (.iconst 1, 1) := by decide +kernel
theorem dX5_heatOf_61 : decode cX5_heatOf 61 = .ok (.if_icmp .ne 8, 3) := by decide +kernel
theorem dX5_heatOf_64 : decode cX5_heatOf 64 = .ok (.bipush 12, 2) := by decide +kernel
theorem dX5_heatOf_66 : decode cX5_heatOf 66 = .ok (.goto 4, 3) := by decide +kernel
theorem dX5_heatOf_69 : decode cX5_heatOf 69 = .ok (.iconst 0, 1) := by decide +kernel
theorem dX5_heatOf_70 : decode cX5_heatOf 70 = .ok (.iadd, 1) := by decide +kernel
theorem dX5_heatOf_71 : decode cX5_heatOf 71 = .ok (.ireturn, 1) := by decide +kernel
theorem dX5_feels_0 : decode cX5_feels 0 = .ok (.iload_n 0, 1) := by decide +kernel
theorem dX5_feels_1 : decode cX5_feels 1 = .ok (.iconst 5, 1) := by decide +kernel
theorem dX5_feels_2 : decode cX5_feels 2 = .ok (.if_icmp .eq 9, 3) := by decide +kernel
theorem dX5_feels_5 : decode cX5_feels 5 = .ok (.iload_n 0, 1) := by decide +kernel
theorem dX5_feels_6 : decode cX5_feels 6 = .ok (.bipush 6, 2) := by decide +kernel
theorem dX5_feels_8 : decode cX5_feels 8 = .ok (.if_icmp .ne 11, 3) := by decide +kernel
theorem dX5_feels_11 : decode cX5_feels 11 = .ok (.iconst 2, 1) := by decide +kernel
theorem dX5_feels_12 : decode cX5_feels 12 = .ok (.iload_n 1, 1) := by decide +kernel
theorem dX5_feels_13 : decode cX5_feels 13 = .ok (.imul, 1) := by decide +kernel
theorem dX5_feels_14 : decode cX5_feels 14 = .ok (.iconst 3, 1) := by decide +kernel
theorem dX5_feels_15 : decode cX5_feels 15 = .ok (.idiv, 1) := by decide +kernel
theorem dX5_feels_16 : decode cX5_feels 16 = .ok (.goto 15, 3) := by decide +kernel
theorem dX5_feels_19 : decode cX5_feels 19 = .ok (.iload_n 0, 1) := by decide +kernel
theorem dX5_feels_20 : decode cX5_feels 20 = .ok (.iconst 4, 1) := by decide +kernel
theorem dX5_feels_21 : decode cX5_feels 21 = .ok (.if_icmp .ne 9, 3) := by decide +kernel
theorem dX5_feels_24 : decode cX5_feels 24 = .ok (.iload_n 1, 1) := by decide +kernel
theorem dX5_feels_25 : decode cX5_feels 25 = .ok (.iconst 4, 1) := by decide +kernel
theorem dX5_feels_26 : decode cX5_feels 26 = .ok (.isub, 1) := by decide +kernel
theorem dX5_feels_27 : decode cX5_feels 27 = .ok (.goto 4, 3) := by decide +kernel
theorem dX5_feels_30 : decode cX5_feels 30 = .ok (.iload_n 1, 1) := by decide +kernel
theorem dX5_feels_31 : decode cX5_feels 31 = .ok (.ireturn, 1) := by decide +kernel
theorem dX5_stands_0 : decode cX5_stands 0 = .ok (.iload_n 0, 1) := by decide +kernel
theorem dX5_stands_1 : decode cX5_stands 1 = .ok (.iconst 2, 1) := by decide +kernel
theorem dX5_stands_2 : decode cX5_stands 2 = .ok (.if_icmp .eq 8, 3) := by decide +kernel
theorem dX5_stands_5 : decode cX5_stands 5 = .ok (.iload_n 0, 1) := by decide +kernel
theorem dX5_stands_6 : decode cX5_stands 6 = .ok (.iconst 3, 1) := by decide +kernel
theorem dX5_stands_7 : decode cX5_stands 7 = .ok (.if_icmp .ne 10, 3) := by decide +kernel
theorem dX5_stands_10 : decode cX5_stands 10 = .ok (.iload_n 1, 1) := by decide +kernel
theorem dX5_stands_11 : decode cX5_stands 11 = .ok (.bipush 8, 2) := by decide +kernel
theorem dX5_stands_13 : decode cX5_stands 13 = .ok (.isub, 1) := by decide +kernel
theorem dX5_stands_14 : decode cX5_stands 14 = .ok (.goto 16, 3) := by decide +kernel
theorem dX5_stands_17 : decode cX5_stands 17 = .ok (.iload_n 0, 1) := by decide +kernel
theorem dX5_stands_18 : decode cX5_stands 18 = .ok (.bipush 6, 2) := by decide +kernel
theorem dX5_stands_20 : decode cX5_stands 20 = .ok (.if_icmp .ne 9, 3) := by decide +kernel
theorem dX5_stands_23 : decode cX5_stands 23 = .ok (.iload_n 1, 1) := by decide +kernel
theorem dX5_stands_24 : decode cX5_stands 24 = .ok (.iconst 5, 1) := by decide +kernel
theorem dX5_stands_25 : decode cX5_stands 25 = .ok (.isub, 1) := by decide +kernel
theorem dX5_stands_26 : decode cX5_stands 26 = .ok (.goto 4, 3) := by decide +kernel
theorem dX5_stands_29 : decode cX5_stands 29 = .ok (.iload_n 1, 1) := by decide +kernel
theorem dX5_stands_30 : decode cX5_stands 30 = .ok (.ireturn, 1) := by decide +kernel
theorem dX5_runsAt_0 : decode cX5_runsAt 0 = .ok (.iload_n 0, 1) := by decide +kernel
theorem dX5_runsAt_1 : decode cX5_runsAt 1 = .ok (.iconst 1, 1) := by decide +kernel
theorem dX5_runsAt_2 : decode cX5_runsAt 2 = .ok (.if_icmp .eq 8, 3) := by decide +kernel
theorem dX5_runsAt_5 : decode cX5_runsAt 5 = .ok (.iload_n 0, 1) := by decide +kernel
theorem dX5_runsAt_6 : decode cX5_runsAt 6 = .ok (.iconst 4, 1) := by decide +kernel
theorem dX5_runsAt_7 : decode cX5_runsAt 7 = .ok (.if_icmp .ne 8, 3) := by decide +kernel
theorem dX5_runsAt_10 : decode cX5_runsAt 10 = .ok (.bipush 20, 2) := by decide +kernel
theorem dX5_runsAt_12 : decode cX5_runsAt 12 = .ok (.goto 14, 3) := by decide +kernel
theorem dX5_runsAt_15 : decode cX5_runsAt 15 = .ok (.iload_n 0, 1) := by decide +kernel
theorem dX5_runsAt_16 : decode cX5_runsAt 16 = .ok (.iconst 3, 1) := by decide +kernel
theorem dX5_runsAt_17 : decode cX5_runsAt 17 = .ok (.if_icmp .ne 7, 3) := by decide +kernel
theorem dX5_runsAt_20 : decode cX5_runsAt 20 = .ok (.iconst 5, 1) := by decide +kernel
theorem dX5_runsAt_21 : decode cX5_runsAt 21 = .ok (.goto 5, 3) := by decide +kernel
theorem dX5_runsAt_24 : decode cX5_runsAt 24 = .ok (.bipush 10, 2) := by decide +kernel
theorem dX5_runsAt_26 : decode cX5_runsAt 26 = .ok (.ireturn, 1) := by decide +kernel
theorem dX5_softer_0 : decode cX5_softer 0 = .ok (.iconst 0, 1) := by decide +kernel
theorem dX5_softer_1 : decode cX5_softer 1 = .ok (.bipush 99, 2) := by decide +kernel
theorem dX5_softer_3 : decode cX5_softer 3 = .ok (.iload_n 0, 1) := by decide +kernel
theorem dX5_softer_4 : decode cX5_softer 4 = .ok (.iload_n 1, 1) := by decide +kernel
theorem dX5_softer_5 : decode cX5_softer 5 = .ok (.iadd, 1) := by decide +kernel
theorem dX5_softer_6 : decode cX5_softer 6 = .ok (.invokestatic 60, 3) := by decide +kernel
theorem dX5_softer_9 : decode cX5_softer 9 = .ok (.invokestatic 64, 3) := by decide +kernel
theorem dX5_softer_12 : decode cX5_softer 12 = .ok (.ireturn, 1) := by decide +kernel
set_option maxRecDepth 20000 in
theorem ggX5_drops_X5_softer : GoodIn wsX5_drops wsX5_softer := goodIn_r _ [4, 5, 6, 7, 8, 9, 10, 11] (by decide +kernel) (by decide +kernel)
set_option maxRecDepth 20000 in
theorem gX5_drops_X5_softer : GoodIn wsX5_drops (va_wsS RX5 67 yX5_softer wsX5_softer) := goodIn_app (goodIn_of _ (by decide +kernel)) ggX5_drops_X5_softer
theorem dX5_drops_0 : decode cX5_drops 0 = .ok (.iconst 0, 1) := by decide +kernel
theorem dX5_drops_1 : decode cX5_drops 1 = .ok (.istore_n 2, 1) := by decide +kernel
theorem dX5_drops_2 : decode cX5_drops 2 = .ok (.iload_n 2, 1) := by decide +kernel
theorem dX5_drops_3 : decode cX5_drops 3 = .ok (.aload_n 0, 1) := by decide +kernel
theorem dX5_drops_4 : decode cX5_drops 4 = .ok (.iconst 0, 1) := by decide +kernel
theorem dX5_drops_5 : decode cX5_drops 5 = .ok (.iaload, 1) := by decide +kernel
theorem dX5_drops_6 : decode cX5_drops 6 = .ok (.if_icmp .ge 44, 3) := by decide +kernel
theorem dX5_drops_9 : decode cX5_drops 9 = .ok (.aload_n 0, 1) := by decide +kernel
theorem dX5_drops_10 : decode cX5_drops 10 = .ok (.bipush 40, 2) := by decide +kernel
theorem dX5_drops_12 : decode cX5_drops 12 = .ok (.iload_n 2, 1) := by decide +kernel
theorem dX5_drops_13 : decode cX5_drops 13 = .ok (.iadd, 1) := by decide +kernel
theorem dX5_drops_14 : decode cX5_drops 14 = .ok (.iaload, 1) := by decide +kernel
theorem dX5_drops_15 : decode cX5_drops 15 = .ok (.iload_n 1, 1) := by decide +kernel
theorem dX5_drops_16 : decode cX5_drops 16 = .ok (.if_icmp .ne 28, 3) := by decide +kernel
theorem dX5_drops_19 : decode cX5_drops 19 = .ok (.aload_n 0, 1) := by decide +kernel
theorem dX5_drops_20 : decode cX5_drops 20 = .ok (.bipush 64, 2) := by decide +kernel
theorem dX5_drops_22 : decode cX5_drops 22 = .ok (.iload_n 2, 1) := by decide +kernel
theorem dX5_drops_23 : decode cX5_drops 23 = .ok (.iadd, 1) := by decide +kernel
theorem dX5_drops_24 : decode cX5_drops 24 = .ok (.iaload, 1) := by decide +kernel
theorem dX5_drops_25 : decode cX5_drops 25 = .ok (.ifCond .ne 19, 3) := by decide +kernel
theorem dX5_drops_28 : decode cX5_drops 28 = .ok (.aload_n 0, 1) := by decide +kernel
theorem dX5_drops_29 : decode cX5_drops 29 = .ok (.bipush 56, 2) := by decide +kernel
theorem dX5_drops_31 : decode cX5_drops 31 = .ok (.iload_n 2, 1) := by decide +kernel
theorem dX5_drops_32 : decode cX5_drops 32 = .ok (.iadd, 1) := by decide +kernel
theorem dX5_drops_33 : decode cX5_drops 33 = .ok (.aload_n 0, 1) := by decide +kernel
theorem dX5_drops_34 : decode cX5_drops 34 = .ok (.bipush 56, 2) := by decide +kernel
theorem dX5_drops_36 : decode cX5_drops 36 = .ok (.iload_n 2, 1) := by decide +kernel
theorem dX5_drops_37 : decode cX5_drops 37 = .ok (.iadd, 1) := by decide +kernel
theorem dX5_drops_38 : decode cX5_drops 38 = .ok (.iaload, 1) := by decide +kernel
theorem dX5_drops_39 : decode cX5_drops 39 = .ok (.iconst 3, 1) := by decide +kernel
theorem dX5_drops_40 : decode cX5_drops 40 = .ok (.invokestatic 67, 3) := by decide +kernel
theorem dX5_drops_43 : decode cX5_drops 43 = .ok (.iastore, 1) := by decide +kernel
theorem dX5_drops_44 : decode cX5_drops 44 = .ok (.iinc 2 1, 3) := by decide +kernel
theorem dX5_drops_47 : decode cX5_drops 47 = .ok (.goto (-45), 3) := by decide +kernel
theorem dX5_drops_50 : decode cX5_drops 50 = .ok (.return_, 1) := by decide +kernel
set_option maxRecDepth 20000 in
theorem ggX5_anHour_X5_heatOf : GoodIn wsX5_anHour wsX5_heatOf := goodIn_r _ [5, 6, 7, 4, 8, 9, 10, 11, 12] (by decide +kernel) (by decide +kernel)
set_option maxRecDepth 20000 in
theorem gX5_anHour_X5_heatOf : GoodIn wsX5_anHour (va_wsS RX5 70 yX5_heatOf wsX5_heatOf) := goodIn_app (goodIn_of _ (by decide +kernel)) ggX5_anHour_X5_heatOf
set_option maxRecDepth 20000 in
theorem ggX5_anHour_X5_feels : GoodIn wsX5_anHour wsX5_feels := goodIn_r _ [15] (by decide +kernel) (by decide +kernel)
set_option maxRecDepth 20000 in
theorem gX5_anHour_X5_feels : GoodIn wsX5_anHour (va_wsS RX5 74 yX5_feels wsX5_feels) := goodIn_app (goodIn_of _ (by decide +kernel)) ggX5_anHour_X5_feels
set_option maxRecDepth 20000 in
theorem ggX5_anHour_X5_stands : GoodIn wsX5_anHour wsX5_stands := goodIn_r _ [18] (by decide +kernel) (by decide +kernel)
set_option maxRecDepth 20000 in
theorem gX5_anHour_X5_stands : GoodIn wsX5_anHour (va_wsS RX5 77 yX5_stands wsX5_stands) := goodIn_app (goodIn_of _ (by decide +kernel)) ggX5_anHour_X5_stands
set_option maxRecDepth 20000 in
theorem ggX5_anHour_X5_softer : GoodIn wsX5_anHour wsX5_softer := goodIn_r _ [21, 22, 23, 11, 24, 25, 26, 27] (by decide +kernel) (by decide +kernel)
set_option maxRecDepth 20000 in
theorem gX5_anHour_X5_softer : GoodIn wsX5_anHour (va_wsS RX5 67 yX5_softer wsX5_softer) := goodIn_app (goodIn_of _ (by decide +kernel)) ggX5_anHour_X5_softer
set_option maxRecDepth 20000 in
theorem ggX5_anHour_X5_runsAt : GoodIn wsX5_anHour wsX5_runsAt := goodIn_r _ [30] (by decide +kernel) (by decide +kernel)
set_option maxRecDepth 20000 in
theorem gX5_anHour_X5_runsAt : GoodIn wsX5_anHour (va_wsS RX5 80 yX5_runsAt wsX5_runsAt) := goodIn_app (goodIn_of _ (by decide +kernel)) ggX5_anHour_X5_runsAt
set_option maxRecDepth 20000 in
theorem ggX5_anHour_X5_drops : GoodIn wsX5_anHour wsX5_drops := goodIn_r _ [33, 19, 20, 4, 21, 22, 23, 11, 24, 25, 26, 27] (by decide +kernel) (by decide +kernel)
set_option maxRecDepth 20000 in
theorem gX5_anHour_X5_drops : GoodIn wsX5_anHour (va_wsS RX5 83 yX5_drops wsX5_drops) := goodIn_app (goodIn_of _ (by decide +kernel)) ggX5_anHour_X5_drops
theorem dX5_anHour_0 : decode cX5_anHour 0 = .ok (.iconst 0, 1) := by decide +kernel
theorem dX5_anHour_1 : decode cX5_anHour 1 = .ok (.istore_n 2, 1) := by decide +kernel
theorem dX5_anHour_2 : decode cX5_anHour 2 = .ok (.iload_n 2, 1) := by decide +kernel
theorem dX5_anHour_3 : decode cX5_anHour 3 = .ok (.bipush 6, 2) := by decide +kernel
theorem dX5_anHour_5 : decode cX5_anHour 5 = .ok (.if_icmp .ge 23, 3) := by decide +kernel
theorem dX5_anHour_8 : decode cX5_anHour 8 = .ok (.aload_n 0, 1) := by decide +kernel
theorem dX5_anHour_9 : decode cX5_anHour 9 = .ok (.getfield 28, 3) := by decide +kernel
theorem dX5_anHour_12 : decode cX5_anHour 12 = .ok (.iload_n 2, 1) := by decide +kernel
theorem dX5_anHour_13 : decode cX5_anHour 13 = .ok (.aload_n 1, 1) := by decide +kernel
theorem dX5_anHour_14 : decode cX5_anHour 14 = .ok (.iload_n 2, 1) := by decide +kernel
theorem dX5_anHour_15 : decode cX5_anHour 15 = .ok (.aload_n 1, 1) := by decide +kernel
theorem dX5_anHour_16 : decode cX5_anHour 16 = .ok (.iconst 2, 1) := by decide +kernel
theorem dX5_anHour_17 : decode cX5_anHour 17 = .ok (.iaload, 1) := by decide +kernel
theorem dX5_anHour_18 : decode cX5_anHour 18 = .ok (.invokestatic 70, 3) := by decide +kernel
theorem dX5_anHour_21 : decode cX5_anHour 21 = .ok (.iastore, 1) := by decide +kernel
theorem dX5_anHour_22 : decode cX5_anHour 22 = .ok (.iinc 2 1, 3) := by decide +kernel
theorem dX5_anHour_25 : decode cX5_anHour 25 = .ok (.goto (-23), 3) := by decide +kernel
theorem dX5_anHour_28 : decode cX5_anHour 28 = .ok (.iconst 0, 1) := by decide +kernel
theorem dX5_anHour_29 : decode cX5_anHour 29 = .ok (.istore_n 2, 1) := by decide +kernel
theorem dX5_anHour_30 : decode cX5_anHour 30 = .ok (.iconst 0, 1) := by decide +kernel
theorem dX5_anHour_31 : decode cX5_anHour 31 = .ok (.istore_n 3, 1) := by decide +kernel
theorem dX5_anHour_32 : decode cX5_anHour 32 = .ok (.iload_n 3, 1) := by decide +kernel
theorem dX5_anHour_33 : decode cX5_anHour 33 = .ok (.aload_n 1, 1) := by decide +kernel
theorem dX5_anHour_34 : decode cX5_anHour 34 = .ok (.iconst 0, 1) := by decide +kernel
theorem dX5_anHour_35 : decode cX5_anHour 35 = .ok (.iaload, 1) := by decide +kernel
theorem dX5_anHour_36 : decode cX5_anHour 36 = .ok (.if_icmp .ge 118, 3) := by decide +kernel
theorem dX5_anHour_39 : decode cX5_anHour 39 = .ok (.aload_n 1, 1) := by decide +kernel
theorem dX5_anHour_40 : decode cX5_anHour 40 = .ok (.bipush 32, 2) := by decide +kernel
theorem dX5_anHour_42 : decode cX5_anHour 42 = .ok (.iload_n 3, 1) := by decide +kernel
theorem dX5_anHour_43 : decode cX5_anHour 43 = .ok (.iadd, 1) := by decide +kernel
theorem dX5_anHour_44 : decode cX5_anHour 44 = .ok (.iaload, 1) := by decide +kernel
theorem dX5_anHour_45 : decode cX5_anHour 45 = .ok (.istore 4, 2) := by decide +kernel
theorem dX5_anHour_47 : decode cX5_anHour 47 = .ok (.iload 4, 2) := by decide +kernel
theorem dX5_anHour_49 : decode cX5_anHour 49 = .ok (.aload_n 0, 1) := by decide +kernel
theorem dX5_anHour_50 : decode cX5_anHour 50 = .ok (.getfield 28, 3) := by decide +kernel
theorem dX5_anHour_53 : decode cX5_anHour 53 = .ok (.aload_n 1, 1) := by decide +kernel
theorem dX5_anHour_54 : decode cX5_anHour 54 = .ok (.bipush 40, 2) := by decide +kernel
theorem dX5_anHour_56 : decode cX5_anHour 56 = .ok (.iload_n 3, 1) := by decide +kernel
theorem dX5_anHour_57 : decode cX5_anHour 57 = .ok (.iadd, 1) := by decide +kernel
theorem dX5_anHour_58 : decode cX5_anHour 58 = .ok (.iaload, 1) := by decide +kernel
theorem dX5_anHour_59 : decode cX5_anHour 59 = .ok (.iaload, 1) := by decide +kernel
theorem dX5_anHour_60 : decode cX5_anHour 60 = .ok (.invokestatic 74, 3) := by decide +kernel
theorem dX5_anHour_63 : decode cX5_anHour 63 = .ok (.iload 4, 2) := by decide +kernel
theorem dX5_anHour_65 : decode cX5_anHour 65 = .ok (.aload_n 1, 1) := by decide +kernel
theorem dX5_anHour_66 : decode cX5_anHour 66 = .ok (.bipush 48, 2) := by decide +kernel
theorem dX5_anHour_68 : decode cX5_anHour 68 = .ok (.iload_n 3, 1) := by decide +kernel
theorem dX5_anHour_69 : decode cX5_anHour 69 = .ok (.iadd, 1) := by decide +kernel
theorem dX5_anHour_70 : decode cX5_anHour 70 = .ok (.iaload, 1) := by decide +kernel
theorem dX5_anHour_71 : decode cX5_anHour 71 = .ok (.invokestatic 77, 3) := by decide +kernel
theorem dX5_anHour_74 : decode cX5_anHour 74 = .ok (.isub, 1) := by decide +kernel
theorem dX5_anHour_75 : decode cX5_anHour 75 = .ok (.istore 5, 2) := by decide +kernel
theorem dX5_anHour_77 : decode cX5_anHour 77 = .ok (.aload_n 1, 1) := by decide +kernel
theorem dX5_anHour_78 : decode cX5_anHour 78 = .ok (.bipush 64, 2) := by decide +kernel
theorem dX5_anHour_80 : decode cX5_anHour 80 = .ok (.iload_n 3, 1) := by decide +kernel
theorem dX5_anHour_81 : decode cX5_anHour 81 = .ok (.iadd, 1) := by decide +kernel
theorem dX5_anHour_82 : decode cX5_anHour 82 = .ok (.iaload, 1) := by decide +kernel
theorem dX5_anHour_83 : decode cX5_anHour 83 = .ok (.ifCond .ne 65, 3) := by decide +kernel
theorem dX5_anHour_86 : decode cX5_anHour 86 = .ok (.aload_n 1, 1) := by decide +kernel
theorem dX5_anHour_87 : decode cX5_anHour 87 = .ok (.bipush 56, 2) := by decide +kernel
theorem dX5_anHour_89 : decode cX5_anHour 89 = .ok (.iload_n 3, 1) := by decide +kernel
theorem dX5_anHour_90 : decode cX5_anHour 90 = .ok (.iadd, 1) := by decide +kernel
theorem dX5_anHour_91 : decode cX5_anHour 91 = .ok (.aload_n 1, 1) := by decide +kernel
theorem dX5_anHour_92 : decode cX5_anHour 92 = .ok (.bipush 56, 2) := by decide +kernel
theorem dX5_anHour_94 : decode cX5_anHour 94 = .ok (.iload_n 3, 1) := by decide +kernel
theorem dX5_anHour_95 : decode cX5_anHour 95 = .ok (.iadd, 1) := by decide +kernel
theorem dX5_anHour_96 : decode cX5_anHour 96 = .ok (.iaload, 1) := by decide +kernel
theorem dX5_anHour_97 : decode cX5_anHour 97 = .ok (.iload 5, 2) := by decide +kernel
theorem dX5_anHour_99 : decode cX5_anHour 99 = .ok (.ifCond .le 8, 3) := by decide +kernel
theorem dX5_anHour_102 : decode cX5_anHour 102 = .ok (.iload 5, 2) := by decide +kernel
theorem dX5_anHour_104 : decode cX5_anHour 104 = .ok (.goto 4, 3) := by decide +kernel
theorem dX5_anHour_107 : decode cX5_anHour 107 = .ok (.iconst (-1), 1) := by decide +kernel
theorem dX5_anHour_108 : decode cX5_anHour 108 = .ok (.invokestatic 67, 3) := by decide +kernel
theorem dX5_anHour_111 : decode cX5_anHour 111 = .ok (.iastore, 1) := by decide +kernel
theorem dX5_anHour_112 : decode cX5_anHour 112 = .ok (.aload_n 1, 1) := by decide +kernel
theorem dX5_anHour_113 : decode cX5_anHour 113 = .ok (.bipush 56, 2) := by decide +kernel
theorem dX5_anHour_115 : decode cX5_anHour 115 = .ok (.iload_n 3, 1) := by decide +kernel
theorem dX5_anHour_116 : decode cX5_anHour 116 = .ok (.iadd, 1) := by decide +kernel
theorem dX5_anHour_117 : decode cX5_anHour 117 = .ok (.iaload, 1) := by decide +kernel
theorem dX5_anHour_118 : decode cX5_anHour 118 = .ok (.iload 4, 2) := by decide +kernel
theorem dX5_anHour_120 : decode cX5_anHour 120 = .ok (.invokestatic 80, 3) := by decide +kernel
theorem dX5_anHour_123 : decode cX5_anHour 123 = .ok (.if_icmp .lt 25, 3) := by decide +kernel
theorem dX5_anHour_126 : decode cX5_anHour 126 = .ok (.aload_n 1, 1) := by decide +kernel
theorem dX5_anHour_127 : decode cX5_anHour 127 = .ok (.bipush 64, 2) := by decide +kernel
theorem dX5_anHour_129 : decode cX5_anHour 129 = .ok (.iload_n 3, 1) := by decide +kernel
theorem dX5_anHour_130 : decode cX5_anHour 130 = .ok (.iadd, 1) := by decide +kernel
theorem dX5_anHour_131 : decode cX5_anHour 131 = .ok (.iconst 1, 1) := by decide +kernel
theorem dX5_anHour_132 : decode cX5_anHour 132 = .ok (.iastore, 1) := by decide +kernel
theorem dX5_anHour_133 : decode cX5_anHour 133 = .ok (.iinc 2 1, 3) := by decide +kernel
theorem dX5_anHour_136 : decode cX5_anHour 136 = .ok (.aload_n 1, 1) := by decide +kernel
theorem dX5_anHour_137 : decode cX5_anHour 137 = .ok (.aload_n 1, 1) := by decide +kernel
theorem dX5_anHour_138 : decode cX5_anHour 138 = .ok (.bipush 40, 2) := by decide +kernel
theorem dX5_anHour_140 : decode cX5_anHour 140 = .ok (.iload_n 3, 1) := by decide +kernel
theorem dX5_anHour_141 : decode cX5_anHour 141 = .ok (.iadd, 1) := by decide +kernel
theorem dX5_anHour_142 : decode cX5_anHour 142 = .ok (.iaload, 1) := by decide +kernel
theorem dX5_anHour_143 : decode cX5_anHour 143 = .ok (.iconst 1, 1) := by decide +kernel
theorem dX5_anHour_144 : decode cX5_anHour 144 = .ok (.iadd, 1) := by decide +kernel
theorem dX5_anHour_145 : decode cX5_anHour 145 = .ok (.invokestatic 83, 3) := by decide +kernel
theorem dX5_anHour_148 : decode cX5_anHour 148 = .ok (.iinc 3 1, 3) := by decide +kernel
theorem dX5_anHour_151 : decode cX5_anHour 151 = .ok (.goto (-119), 3) := by decide +kernel
theorem dX5_anHour_154 : decode cX5_anHour 154 = .ok (.iconst 0, 1) := by decide +kernel
theorem dX5_anHour_155 : decode cX5_anHour 155 = .ok (.istore_n 3, 1) := by decide +kernel
theorem dX5_anHour_156 : decode cX5_anHour 156 = .ok (.iload_n 3, 1) := by decide +kernel
theorem dX5_anHour_157 : decode cX5_anHour 157 = .ok (.bipush 6, 2) := by decide +kernel
theorem dX5_anHour_159 : decode cX5_anHour 159 = .ok (.if_icmp .ge 43, 3) := by decide +kernel
theorem dX5_anHour_162 : decode cX5_anHour 162 = .ok (.aload_n 1, 1) := by decide +kernel
theorem dX5_anHour_163 : decode cX5_anHour 163 = .ok (.bipush 10, 2) := by decide +kernel
theorem dX5_anHour_165 : decode cX5_anHour 165 = .ok (.iload_n 3, 1) := by decide +kernel
theorem dX5_anHour_166 : decode cX5_anHour 166 = .ok (.iadd, 1) := by decide +kernel
theorem dX5_anHour_167 : decode cX5_anHour 167 = .ok (.dup2, 1) := by decide +kernel
theorem dX5_anHour_168 : decode cX5_anHour 168 = .ok (.iaload, 1) := by decide +kernel
theorem dX5_anHour_169 : decode cX5_anHour 169 = .ok (.aload_n 0, 1) := by decide +kernel
theorem dX5_anHour_170 : decode cX5_anHour 170 = .ok (.getfield 28, 3) := by decide +kernel
theorem dX5_anHour_173 : decode cX5_anHour 173 = .ok (.iload_n 3, 1) := by decide +kernel
theorem dX5_anHour_174 : decode cX5_anHour 174 = .ok (.iaload, 1) := by decide +kernel
theorem dX5_anHour_175 : decode cX5_anHour 175 = .ok (.bipush 20, 2) := by decide +kernel
theorem dX5_anHour_177 : decode cX5_anHour 177 = .ok (.if_icmp .le 16, 3) := by decide +kernel
theorem dX5_anHour_180 : decode cX5_anHour 180 = .ok (.aload_n 1, 1) := by decide +kernel
theorem dX5_anHour_181 : decode cX5_anHour 181 = .ok (.bipush 10, 2) := by decide +kernel
theorem dX5_anHour_183 : decode cX5_anHour 183 = .ok (.iload_n 3, 1) := by decide +kernel
theorem dX5_anHour_184 : decode cX5_anHour 184 = .ok (.iadd, 1) := by decide +kernel
theorem dX5_anHour_185 : decode cX5_anHour 185 = .ok (.iaload, 1) := by decide +kernel
theorem dX5_anHour_186 : decode cX5_anHour 186 = .ok (.ifCond .le 7, 3) := by decide +kernel
theorem dX5_anHour_189 : decode cX5_anHour 189 = .ok (.iconst 1, 1) := by decide +kernel
theorem dX5_anHour_190 : decode cX5_anHour 190 = .ok (.goto 4, 3) := by decide +kernel
theorem dX5_anHour_193 : decode cX5_anHour 193 = .ok (.iconst 0, 1) := by decide +kernel
theorem dX5_anHour_194 : decode cX5_anHour 194 = .ok (.isub, 1) := by decide +kernel
theorem dX5_anHour_195 : decode cX5_anHour 195 = .ok (.iastore, 1) := by decide +kernel
theorem dX5_anHour_196 : decode cX5_anHour 196 = .ok (.iinc 3 1, 3) := by decide +kernel
theorem dX5_anHour_199 : decode cX5_anHour 199 = .ok (.goto (-43), 3) := by decide +kernel
theorem dX5_anHour_202 : decode cX5_anHour 202 = .ok (.aload_n 1, 1) := by decide +kernel
theorem dX5_anHour_203 : decode cX5_anHour 203 = .ok (.iconst 2, 1) := by decide +kernel
theorem dX5_anHour_204 : decode cX5_anHour 204 = .ok (.dup2, 1) := by decide +kernel
theorem dX5_anHour_205 : decode cX5_anHour 205 = .ok (.iaload, 1) := by decide +kernel
theorem dX5_anHour_206 : decode cX5_anHour 206 = .ok (.iconst 1, 1) := by decide +kernel
theorem dX5_anHour_207 : decode cX5_anHour 207 = .ok (.iadd, 1) := by decide +kernel
theorem dX5_anHour_208 : decode cX5_anHour 208 = .ok (.iastore, 1) := by decide +kernel
theorem dX5_anHour_209 : decode cX5_anHour 209 = .ok (.iload_n 2, 1) := by decide +kernel
theorem dX5_anHour_210 : decode cX5_anHour 210 = .ok (.ireturn, 1) := by decide +kernel
theorem dX5_holds_0 : decode cX5_holds 0 = .ok (.iload_n 1, 1) := by decide +kernel
theorem dX5_holds_1 : decode cX5_holds 1 = .ok (.istore_n 2, 1) := by decide +kernel
theorem dX5_holds_2 : decode cX5_holds 2 = .ok (.iload_n 2, 1) := by decide +kernel
theorem dX5_holds_3 : decode cX5_holds 3 = .ok (.ifCond .lt 22, 3) := by decide +kernel
theorem dX5_holds_6 : decode cX5_holds 6 = .ok (.aload_n 0, 1) := by decide +kernel
theorem dX5_holds_7 : decode cX5_holds 7 = .ok (.bipush 64, 2) := by decide +kernel
theorem dX5_holds_9 : decode cX5_holds 9 = .ok (.iload_n 2, 1) := by decide +kernel
theorem dX5_holds_10 : decode cX5_holds 10 = .ok (.iadd, 1) := by decide +kernel
theorem dX5_holds_11 : decode cX5_holds 11 = .ok (.iaload, 1) := by decide +kernel
theorem dX5_holds_12 : decode cX5_holds 12 = .ok (.ifCond .ne 13, 3) := by decide +kernel
theorem dX5_holds_15 : decode cX5_holds 15 = .ok (.aload_n 0, 1) := by decide +kernel
theorem dX5_holds_16 : decode cX5_holds 16 = .ok (.bipush 72, 2) := by decide +kernel
theorem dX5_holds_18 : decode cX5_holds 18 = .ok (.iload_n 2, 1) := by decide +kernel
theorem dX5_holds_19 : decode cX5_holds 19 = .ok (.iadd, 1) := by decide +kernel
theorem dX5_holds_20 : decode cX5_holds 20 = .ok (.iaload, 1) := by decide +kernel
theorem dX5_holds_21 : decode cX5_holds 21 = .ok (.istore_n 2, 1) := by decide +kernel
theorem dX5_holds_22 : decode cX5_holds 22 = .ok (.goto (-20), 3) := by decide +kernel
theorem dX5_holds_25 : decode cX5_holds 25 = .ok (.iload_n 2, 1) := by decide +kernel
theorem dX5_holds_26 : decode cX5_holds 26 = .ok (.ifCond .ge 7, 3) := by decide +kernel
theorem dX5_holds_29 : decode cX5_holds 29 = .ok (.iconst 1, 1) := by decide +kernel
theorem dX5_holds_30 : decode cX5_holds 30 = .ok (.goto 4, 3) := by decide +kernel
theorem dX5_holds_33 : decode cX5_holds 33 = .ok (.iconst 0, 1) := by decide +kernel
theorem dX5_holds_34 : decode cX5_holds 34 = .ok (.ireturn, 1) := by decide +kernel
set_option maxRecDepth 20000 in
theorem ggX5_holding_X5_holds : GoodIn wsX5_holding wsX5_holds := goodIn_r _ [4] (by decide +kernel) (by decide +kernel)
set_option maxRecDepth 20000 in
theorem gX5_holding_X5_holds : GoodIn wsX5_holding (va_wsS RX5 87 yX5_holds wsX5_holds) := goodIn_app (goodIn_of _ (by decide +kernel)) ggX5_holding_X5_holds
theorem dX5_holding_0 : decode cX5_holding 0 = .ok (.iconst 0, 1) := by decide +kernel
theorem dX5_holding_1 : decode cX5_holding 1 = .ok (.istore_n 1, 1) := by decide +kernel
theorem dX5_holding_2 : decode cX5_holding 2 = .ok (.iconst 0, 1) := by decide +kernel
theorem dX5_holding_3 : decode cX5_holding 3 = .ok (.istore_n 2, 1) := by decide +kernel
theorem dX5_holding_4 : decode cX5_holding 4 = .ok (.iload_n 2, 1) := by decide +kernel
theorem dX5_holding_5 : decode cX5_holding 5 = .ok (.aload_n 0, 1) := by decide +kernel
theorem dX5_holding_6 : decode cX5_holding 6 = .ok (.iconst 0, 1) := by decide +kernel
theorem dX5_holding_7 : decode cX5_holding 7 = .ok (.iaload, 1) := by decide +kernel
theorem dX5_holding_8 : decode cX5_holding 8 = .ok (.if_icmp .ge 27, 3) := by decide +kernel
theorem dX5_holding_11 : decode cX5_holding 11 = .ok (.iload_n 1, 1) := by decide +kernel
theorem dX5_holding_12 : decode cX5_holding 12 = .ok (.aload_n 0, 1) := by decide +kernel
theorem dX5_holding_13 : decode cX5_holding 13 = .ok (.iload_n 2, 1) := by decide +kernel
theorem dX5_holding_14 : decode cX5_holding 14 = .ok (.invokestatic 87, 3) := by decide +kernel
theorem dX5_holding_17 : decode cX5_holding 17 = .ok (.ifCond .eq 9, 3) := by decide +kernel
theorem dX5_holding_20 : decode cX5_holding 20 = .ok (.iconst 1, 1) := by decide +kernel
theorem dX5_holding_21 : decode cX5_holding 21 = .ok (.iload_n 2, 1) := by decide +kernel
theorem dX5_holding_22 : decode cX5_holding 22 = .ok (.ishl, 1) := by decide +kernel
theorem dX5_holding_23 : decode cX5_holding 23 = .ok (.goto 4, 3) := by decide +kernel
theorem dX5_holding_26 : decode cX5_holding 26 = .ok (.iconst 0, 1) := by decide +kernel
theorem dX5_holding_27 : decode cX5_holding 27 = .ok (.ior, 1) := by decide +kernel
theorem dX5_holding_28 : decode cX5_holding 28 = .ok (.istore_n 1, 1) := by decide +kernel
theorem dX5_holding_29 : decode cX5_holding 29 = .ok (.iinc 2 1, 3) := by decide +kernel
theorem dX5_holding_32 : decode cX5_holding 32 = .ok (.goto (-28), 3) := by decide +kernel
theorem dX5_holding_35 : decode cX5_holding 35 = .ok (.iload_n 1, 1) := by decide +kernel
theorem dX5_holding_36 : decode cX5_holding 36 = .ok (.ireturn, 1) := by decide +kernel
theorem dX5_ran_0 : decode cX5_ran 0 = .ok (.iconst 0, 1) := by decide +kernel
theorem dX5_ran_1 : decode cX5_ran 1 = .ok (.istore_n 1, 1) := by decide +kernel
theorem dX5_ran_2 : decode cX5_ran 2 = .ok (.iconst 0, 1) := by decide +kernel
theorem dX5_ran_3 : decode cX5_ran 3 = .ok (.istore_n 2, 1) := by decide +kernel
theorem dX5_ran_4 : decode cX5_ran 4 = .ok (.iload_n 2, 1) := by decide +kernel
theorem dX5_ran_5 : decode cX5_ran 5 = .ok (.aload_n 0, 1) := by decide +kernel
theorem dX5_ran_6 : decode cX5_ran 6 = .ok (.iconst 0, 1) := by decide +kernel
theorem dX5_ran_7 : decode cX5_ran 7 = .ok (.iaload, 1) := by decide +kernel
theorem dX5_ran_8 : decode cX5_ran 8 = .ok (.if_icmp .ge 20, 3) := by decide +kernel
theorem dX5_ran_11 : decode cX5_ran 11 = .ok (.iload_n 1, 1) := by decide +kernel
theorem dX5_ran_12 : decode cX5_ran 12 = .ok (.aload_n 0, 1) := by decide +kernel
theorem dX5_ran_13 : decode cX5_ran 13 = .ok (.bipush 64, 2) := by decide +kernel
theorem dX5_ran_15 : decode cX5_ran 15 = .ok (.iload_n 2, 1) := by decide +kernel
theorem dX5_ran_16 : decode cX5_ran 16 = .ok (.iadd, 1) := by decide +kernel
theorem dX5_ran_17 : decode cX5_ran 17 = .ok (.iaload, 1) := by decide +kernel
theorem dX5_ran_18 : decode cX5_ran 18 = .ok (.iload_n 2, 1) := by decide +kernel
theorem dX5_ran_19 : decode cX5_ran 19 = .ok (.ishl, 1) := by decide +kernel
theorem dX5_ran_20 : decode cX5_ran 20 = .ok (.ior, 1) := by decide +kernel
theorem dX5_ran_21 : decode cX5_ran 21 = .ok (.istore_n 1, 1) := by decide +kernel
theorem dX5_ran_22 : decode cX5_ran 22 = .ok (.iinc 2 1, 3) := by decide +kernel
theorem dX5_ran_25 : decode cX5_ran 25 = .ok (.goto (-21), 3) := by decide +kernel
theorem dX5_ran_28 : decode cX5_ran 28 = .ok (.iload_n 1, 1) := by decide +kernel
theorem dX5_ran_29 : decode cX5_ran 29 = .ok (.ireturn, 1) := by decide +kernel
theorem dX5_sumOf_0 : decode cX5_sumOf 0 = .ok (.iconst 0, 1) := by decide +kernel
theorem dX5_sumOf_1 : decode cX5_sumOf 1 = .ok (.istore_n 3, 1) := by decide +kernel
theorem dX5_sumOf_2 : decode cX5_sumOf 2 = .ok (.iconst 0, 1) := by decide +kernel
theorem dX5_sumOf_3 : decode cX5_sumOf 3 = .ok (.istore 4, 2) := by decide +kernel
theorem dX5_sumOf_5 : decode cX5_sumOf 5 = .ok (.iload 4, 2) := by decide +kernel
theorem dX5_sumOf_7 : decode cX5_sumOf 7 = .ok (.iload_n 2, 1) := by decide +kernel
theorem dX5_sumOf_8 : decode cX5_sumOf 8 = .ok (.if_icmp .ge 18, 3) := by decide +kernel
theorem dX5_sumOf_11 : decode cX5_sumOf 11 = .ok (.iload_n 3, 1) := by decide +kernel
theorem dX5_sumOf_12 : decode cX5_sumOf 12 = .ok (.aload_n 0, 1) := by decide +kernel
theorem dX5_sumOf_13 : decode cX5_sumOf 13 = .ok (.iload_n 1, 1) := by decide +kernel
theorem dX5_sumOf_14 : decode cX5_sumOf 14 = .ok (.iload 4, 2) := by decide +kernel
theorem dX5_sumOf_16 : decode cX5_sumOf 16 = .ok (.iadd, 1) := by decide +kernel
theorem dX5_sumOf_17 : decode cX5_sumOf 17 = .ok (.iaload, 1) := by decide +kernel
theorem dX5_sumOf_18 : decode cX5_sumOf 18 = .ok (.iadd, 1) := by decide +kernel
theorem dX5_sumOf_19 : decode cX5_sumOf 19 = .ok (.istore_n 3, 1) := by decide +kernel
theorem dX5_sumOf_20 : decode cX5_sumOf 20 = .ok (.iinc 4 1, 3) := by decide +kernel
theorem dX5_sumOf_23 : decode cX5_sumOf 23 = .ok (.goto (-18), 3) := by decide +kernel
theorem dX5_sumOf_26 : decode cX5_sumOf 26 = .ok (.iload_n 3, 1) := by decide +kernel
theorem dX5_sumOf_27 : decode cX5_sumOf 27 = .ok (.ireturn, 1) := by decide +kernel
set_option maxRecDepth 20000 in
theorem ggX5_holdingBehind_X5_anHour : GoodIn wsX5_holdingBehind wsX5_anHour := goodIn_r _ [6, 7, 8, 9, 5, 10, 11, 12, 13, 14, 15, 16, 17, 18, 19, 20, 21, 22, 23, 24, 25, 26, 27, 28, 29, 30, 31, 32, 33, 34, 35, 36, 37, 38, 45, 46, 47, 48, 49, 50, 51, 52, 53, 54, 55, 56, 57, 58, 59, 60, 61] (by decide +kernel) (by decide +kernel)
set_option maxRecDepth 20000 in
theorem gX5_holdingBehind_X5_anHour : GoodIn wsX5_holdingBehind (wsV RX5 91 RX5 yX5_anHour wsX5_anHour) := goodIn_app (goodIn_of _ (by decide +kernel)) ggX5_holdingBehind_X5_anHour
set_option maxRecDepth 20000 in
theorem ggX5_holdingBehind_X5_holding : GoodIn wsX5_holdingBehind wsX5_holding := goodIn_r _ [41, 42, 43, 5, 44] (by decide +kernel) (by decide +kernel)
set_option maxRecDepth 20000 in
theorem gX5_holdingBehind_X5_holding : GoodIn wsX5_holdingBehind (va_wsS RX5 95 yX5_holding wsX5_holding) := goodIn_app (goodIn_of _ (by decide +kernel)) ggX5_holdingBehind_X5_holding
theorem dX5_holdingBehind_0 : decode cX5_holdingBehind 0 = .ok (.iconst 0, 1) := by decide +kernel
theorem dX5_holdingBehind_1 : decode cX5_holdingBehind 1 = .ok (.istore_n 2, 1) := by decide +kernel
theorem dX5_holdingBehind_2 : decode cX5_holdingBehind 2 = .ok (.iload_n 2, 1) := by decide +kernel
theorem dX5_holdingBehind_3 : decode cX5_holdingBehind 3 = .ok (.iload_n 1, 1) := by decide +kernel
theorem dX5_holdingBehind_4 : decode cX5_holdingBehind 4 = .ok (.if_icmp .ge 18, 3) := by decide +kernel
theorem dX5_holdingBehind_7 : decode cX5_holdingBehind 7 = .ok (.aload_n 0, 1) := by decide +kernel
theorem dX5_holdingBehind_8 : decode cX5_holdingBehind 8 = .ok (.aload_n 0, 1) := by decide +kernel
theorem dX5_holdingBehind_9 : decode cX5_holdingBehind 9 = .ok (.getfield 16, 3) := by decide +kernel
theorem dX5_holdingBehind_12 : decode cX5_holdingBehind 12 = .ok (.invokevirtual 91, 3) := by decide +kernel
theorem dX5_holdingBehind_15 : decode cX5_holdingBehind 15 = .ok (.istore_n 3, 1) := by decide +kernel
theorem dX5_holdingBehind_16 : decode cX5_holdingBehind 16 = .ok (.iinc 2 1, 3) := by decide +kernel
theorem dX5_holdingBehind_19 : decode cX5_holdingBehind 19 = .ok (.goto (-17), 3) := by decide +kernel
theorem dX5_holdingBehind_22 : decode cX5_holdingBehind 22 = .ok (.aload_n 0, 1) := by decide +kernel
theorem dX5_holdingBehind_23 : decode cX5_holdingBehind 23 = .ok (.getfield 16, 3) := by decide +kernel
theorem dX5_holdingBehind_26 : decode cX5_holdingBehind 26 = .ok (.invokestatic 95, 3) := by decide +kernel
theorem dX5_holdingBehind_29 : decode cX5_holdingBehind 29 = .ok (.ireturn, 1) := by decide +kernel
theorem dX5_lays_0 : decode cX5_lays 0 = .ok (.aload_n 0, 1) := by decide +kernel
theorem dX5_lays_1 : decode cX5_lays 1 = .ok (.getfield 9, 3) := by decide +kernel
theorem dX5_lays_4 : decode cX5_lays 4 = .ok (.iconst 0, 1) := by decide +kernel
theorem dX5_lays_5 : decode cX5_lays 5 = .ok (.iaload, 1) := by decide +kernel
theorem dX5_lays_6 : decode cX5_lays 6 = .ok (.istore_n 3, 1) := by decide +kernel
theorem dX5_lays_7 : decode cX5_lays 7 = .ok (.aload_n 0, 1) := by decide +kernel
theorem dX5_lays_8 : decode cX5_lays 8 = .ok (.getfield 9, 3) := by decide +kernel
theorem dX5_lays_11 : decode cX5_lays 11 = .ok (.bipush 32, 2) := by decide +kernel
theorem dX5_lays_13 : decode cX5_lays 13 = .ok (.iload_n 3, 1) := by decide +kernel
theorem dX5_lays_14 : decode cX5_lays 14 = .ok (.iadd, 1) := by decide +kernel
theorem dX5_lays_15 : decode cX5_lays 15 = .ok (.iload_n 1, 1) := by decide +kernel
theorem dX5_lays_16 : decode cX5_lays 16 = .ok (.iastore, 1) := by decide +kernel
theorem dX5_lays_17 : decode cX5_lays 17 = .ok (.aload_n 0, 1) := by decide +kernel
theorem dX5_lays_18 : decode cX5_lays 18 = .ok (.getfield 9, 3) := by decide +kernel
theorem dX5_lays_21 : decode cX5_lays 21 = .ok (.bipush 40, 2) := by decide +kernel
theorem dX5_lays_23 : decode cX5_lays 23 = .ok (.iload_n 3, 1) := by decide +kernel
theorem dX5_lays_24 : decode cX5_lays 24 = .ok (.iadd, 1) := by decide +kernel
theorem dX5_lays_25 : decode cX5_lays 25 = .ok (.iload_n 2, 1) := by decide +kernel
theorem dX5_lays_26 : decode cX5_lays 26 = .ok (.iastore, 1) := by decide +kernel
theorem dX5_lays_27 : decode cX5_lays 27 = .ok (.aload_n 0, 1) := by decide +kernel
theorem dX5_lays_28 : decode cX5_lays 28 = .ok (.getfield 9, 3) := by decide +kernel
theorem dX5_lays_31 : decode cX5_lays 31 = .ok (.bipush 48, 2) := by decide +kernel
theorem dX5_lays_33 : decode cX5_lays 33 = .ok (.iload_n 3, 1) := by decide +kernel
theorem dX5_lays_34 : decode cX5_lays 34 = .ok (.iadd, 1) := by decide +kernel
theorem dX5_lays_35 : decode cX5_lays 35 = .ok (.bipush 40, 2) := by decide +kernel
theorem dX5_lays_37 : decode cX5_lays 37 = .ok (.iastore, 1) := by decide +kernel
theorem dX5_lays_38 : decode cX5_lays 38 = .ok (.aload_n 0, 1) := by decide +kernel
theorem dX5_lays_39 : decode cX5_lays 39 = .ok (.getfield 9, 3) := by decide +kernel
theorem dX5_lays_42 : decode cX5_lays 42 = .ok (.bipush 56, 2) := by decide +kernel
theorem dX5_lays_44 : decode cX5_lays 44 = .ok (.iload_n 3, 1) := by decide +kernel
theorem dX5_lays_45 : decode cX5_lays 45 = .ok (.iadd, 1) := by decide +kernel
theorem dX5_lays_46 : decode cX5_lays 46 = .ok (.iconst 0, 1) := by decide +kernel
theorem dX5_lays_47 : decode cX5_lays 47 = .ok (.iastore, 1) := by decide +kernel
theorem dX5_lays_48 : decode cX5_lays 48 = .ok (.aload_n 0, 1) := by decide +kernel
theorem dX5_lays_49 : decode cX5_lays 49 = .ok (.getfield 9, 3) := by decide +kernel
theorem dX5_lays_52 : decode cX5_lays 52 = .ok (.bipush 64, 2) := by decide +kernel
theorem dX5_lays_54 : decode cX5_lays 54 = .ok (.iload_n 3, 1) := by decide +kernel
theorem dX5_lays_55 : decode cX5_lays 55 = .ok (.iadd, 1) := by decide +kernel
theorem dX5_lays_56 : decode cX5_lays 56 = .ok (.iconst 0, 1) := by decide +kernel
theorem dX5_lays_57 : decode cX5_lays 57 = .ok (.iastore, 1) := by decide +kernel
theorem dX5_lays_58 : decode cX5_lays 58 = .ok (.aload_n 0, 1) := by decide +kernel
theorem dX5_lays_59 : decode cX5_lays 59 = .ok (.getfield 9, 3) := by decide +kernel
theorem dX5_lays_62 : decode cX5_lays 62 = .ok (.bipush 72, 2) := by decide +kernel
theorem dX5_lays_64 : decode cX5_lays 64 = .ok (.iload_n 3, 1) := by decide +kernel
theorem dX5_lays_65 : decode cX5_lays 65 = .ok (.iadd, 1) := by decide +kernel
theorem dX5_lays_66 : decode cX5_lays 66 = .ok (.iconst (-1), 1) := by decide +kernel
theorem dX5_lays_67 : decode cX5_lays 67 = .ok (.iastore, 1) := by decide +kernel
theorem dX5_lays_68 : decode cX5_lays 68 = .ok (.aload_n 0, 1) := by decide +kernel
theorem dX5_lays_69 : decode cX5_lays 69 = .ok (.getfield 9, 3) := by decide +kernel
theorem dX5_lays_72 : decode cX5_lays 72 = .ok (.iconst 0, 1) := by decide +kernel
theorem dX5_lays_73 : decode cX5_lays 73 = .ok (.dup2, 1) := by decide +kernel
theorem dX5_lays_74 : decode cX5_lays 74 = .ok (.iaload, 1) := by decide +kernel
theorem dX5_lays_75 : decode cX5_lays 75 = .ok (.iconst 1, 1) := by decide +kernel
theorem dX5_lays_76 : decode cX5_lays 76 = .ok (.iadd, 1) := by decide +kernel
theorem dX5_lays_77 : decode cX5_lays 77 = .ok (.iastore, 1) := by decide +kernel
theorem dX5_lays_78 : decode cX5_lays 78 = .ok (.return_, 1) := by decide +kernel
set_option maxRecDepth 20000 in
theorem ggX5_deed_X5_isKind : GoodIn wsX5_deed wsX5_isKind := goodIn_r _ [5, 6, 7, 4, 8] (by decide +kernel) (by decide +kernel)
set_option maxRecDepth 20000 in
theorem gX5_deed_X5_isKind : GoodIn wsX5_deed (va_wsS RX5 98 yX5_isKind wsX5_isKind) := goodIn_app (goodIn_of _ (by decide +kernel)) ggX5_deed_X5_isKind
set_option maxRecDepth 20000 in
theorem ggX5_deed_X5_isShelf : GoodIn wsX5_deed wsX5_isShelf := goodIn_r _ [11, 6, 7, 4, 8] (by decide +kernel) (by decide +kernel)
set_option maxRecDepth 20000 in
theorem gX5_deed_X5_isShelf : GoodIn wsX5_deed (va_wsS RX5 102 yX5_isShelf wsX5_isShelf) := goodIn_app (goodIn_of _ (by decide +kernel)) ggX5_deed_X5_isShelf
set_option maxRecDepth 20000 in
theorem ggX5_deed_X5_finding : GoodIn wsX5_deed wsX5_finding := goodIn_r _ [15, 16, 17, 22, 23, 24, 25, 26, 27, 28, 29, 30, 31, 32, 33, 34, 35, 36, 37, 38] (by decide +kernel) (by decide +kernel)
set_option maxRecDepth 20000 in
theorem gX5_deed_X5_finding : GoodIn wsX5_deed (wsV RX5 105 RX5 yX5_finding wsX5_finding) := goodIn_app (goodIn_of _ (by decide +kernel)) ggX5_deed_X5_finding
set_option maxRecDepth 20000 in
theorem ggX5_deed_X5_lays : GoodIn wsX5_deed wsX5_lays := goodIn_r _ [21, 1, 22, 23, 24, 25, 26, 27, 28, 29, 30, 31, 32, 33, 34, 35, 36, 37, 38] (by decide +kernel) (by decide +kernel)
set_option maxRecDepth 20000 in
theorem gX5_deed_X5_lays : GoodIn wsX5_deed (wsV RX5 108 RX5 yX5_lays wsX5_lays) := goodIn_app (goodIn_of _ (by decide +kernel)) ggX5_deed_X5_lays
theorem dX5_deed_0 : decode cX5_deed 0 = .ok (.iload_n 1, 1) := by decide +kernel
theorem dX5_deed_1 : decode cX5_deed 1 = .ok (.invokestatic 98, 3) := by decide +kernel
theorem dX5_deed_4 : decode cX5_deed 4 = .ok (.ifCond .eq 10, 3) := by decide +kernel
theorem dX5_deed_7 : decode cX5_deed 7 = .ok (.iload_n 2, 1) := by decide +kernel
theorem dX5_deed_8 : decode cX5_deed 8 = .ok (.invokestatic 102, 3) := by decide +kernel
theorem dX5_deed_11 : decode cX5_deed 11 = .ok (.ifCond .ne 9, 3) := by decide +kernel
theorem dX5_deed_14 : decode cX5_deed 14 = .ok (.aload_n 0, 1) := by decide +kernel
theorem dX5_deed_15 : decode cX5_deed 15 = .ok (.iconst 0, 1) := by decide +kernel
theorem dX5_deed_16 : decode cX5_deed 16 = .ok (.invokevirtual 105, 3) := by decide +kernel
theorem dX5_deed_19 : decode cX5_deed 19 = .ok (.ireturn, 1) := by decide +kernel
theorem dX5_deed_20 : decode cX5_deed 20 = .ok (.aload_n 0, 1) := by decide +kernel
theorem dX5_deed_21 : decode cX5_deed 21 = .ok (.getfield 9, 3) := by decide +kernel
theorem dX5_deed_24 : decode cX5_deed 24 = .ok (.iconst 0, 1) := by decide +kernel
theorem dX5_deed_25 : decode cX5_deed 25 = .ok (.iaload, 1) := by decide +kernel
theorem dX5_deed_26 : decode cX5_deed 26 = .ok (.bipush 8, 2) := by decide +kernel
theorem dX5_deed_28 : decode cX5_deed 28 = .ok (.if_icmp .ne 9, 3) := by decide +kernel
theorem dX5_deed_31 : decode cX5_deed 31 = .ok (.aload_n 0, 1) := by decide +kernel
theorem dX5_deed_32 : decode cX5_deed 32 = .ok (.iconst 1, 1) := by decide +kernel
theorem dX5_deed_33 : decode cX5_deed 33 = .ok (.invokevirtual 105, 3) := by decide +kernel
theorem dX5_deed_36 : decode cX5_deed 36 = .ok (.ireturn, 1) := by decide +kernel
theorem dX5_deed_37 : decode cX5_deed 37 = .ok (.aload_n 0, 1) := by decide +kernel
theorem dX5_deed_38 : decode cX5_deed 38 = .ok (.iload_n 1, 1) := by decide +kernel
theorem dX5_deed_39 : decode cX5_deed 39 = .ok (.iload_n 2, 1) := by decide +kernel
theorem dX5_deed_40 : decode cX5_deed 40 = .ok (.invokevirtual 108, 3) := by decide +kernel
theorem dX5_deed_43 : decode cX5_deed 43 = .ok (.aload_n 0, 1) := by decide +kernel
theorem dX5_deed_44 : decode cX5_deed 44 = .ok (.getfield 9, 3) := by decide +kernel
theorem dX5_deed_47 : decode cX5_deed 47 = .ok (.iconst 0, 1) := by decide +kernel
theorem dX5_deed_48 : decode cX5_deed 48 = .ok (.iaload, 1) := by decide +kernel
theorem dX5_deed_49 : decode cX5_deed 49 = .ok (.iconst 1, 1) := by decide +kernel
theorem dX5_deed_50 : decode cX5_deed 50 = .ok (.isub, 1) := by decide +kernel
theorem dX5_deed_51 : decode cX5_deed 51 = .ok (.ireturn, 1) := by decide +kernel
set_option maxRecDepth 20000 in
theorem ggX5_of_X5_isDeed : GoodIn wsX5_of wsX5_isDeed := goodIn_r _ [6, 1, 7, 8, 5, 9, 38, 39, 40, 41, 42, 43, 44, 45, 46, 47, 48, 49, 50, 51, 52, 53, 54] (by decide +kernel) (by decide +kernel)
set_option maxRecDepth 20000 in
theorem gX5_of_X5_isDeed : GoodIn wsX5_of (wsV RX5 112 RX5 yX5_isDeed wsX5_isDeed) := goodIn_app (goodIn_of _ (by decide +kernel)) ggX5_of_X5_isDeed
set_option maxRecDepth 20000 in
theorem ggX5_of_X5_within : GoodIn wsX5_of wsX5_within := goodIn_r _ [9] (by decide +kernel) (by decide +kernel)
set_option maxRecDepth 20000 in
theorem gX5_of_X5_within : GoodIn wsX5_of (va_wsS RX5 44 yX5_within wsX5_within) := goodIn_app (goodIn_of _ (by decide +kernel)) ggX5_of_X5_within
set_option maxRecDepth 20000 in
theorem ggX5_of_X5_finding : GoodIn wsX5_of wsX5_finding := goodIn_r _ [13, 14, 15, 38, 39, 40, 41, 42, 43, 44, 45, 46, 47, 48, 49, 50, 51, 52, 53, 54] (by decide +kernel) (by decide +kernel)
set_option maxRecDepth 20000 in
theorem gX5_of_X5_finding : GoodIn wsX5_of (wsV RX5 105 RX5 yX5_finding wsX5_finding) := goodIn_app (goodIn_of _ (by decide +kernel)) ggX5_of_X5_finding
set_option maxRecDepth 20000 in
theorem ggX5_of_X5_stands : GoodIn wsX5_of wsX5_stands := goodIn_r _ [18] (by decide +kernel) (by decide +kernel)
set_option maxRecDepth 20000 in
theorem gX5_of_X5_stands : GoodIn wsX5_of (va_wsS RX5 77 yX5_stands wsX5_stands) := goodIn_app (goodIn_of _ (by decide +kernel)) ggX5_of_X5_stands
set_option maxRecDepth 20000 in
theorem ggX5_of_X5_runsAt : GoodIn wsX5_of wsX5_runsAt := goodIn_r _ [21] (by decide +kernel) (by decide +kernel)
set_option maxRecDepth 20000 in
theorem gX5_of_X5_runsAt : GoodIn wsX5_of (va_wsS RX5 80 yX5_runsAt wsX5_runsAt) := goodIn_app (goodIn_of _ (by decide +kernel)) ggX5_of_X5_runsAt
set_option maxRecDepth 20000 in
theorem ggX5_of_X5_heatOf : GoodIn wsX5_of wsX5_heatOf := goodIn_r _ [24, 25, 26, 5, 27, 28, 29, 30, 31] (by decide +kernel) (by decide +kernel)
set_option maxRecDepth 20000 in
theorem gX5_of_X5_heatOf : GoodIn wsX5_of (va_wsS RX5 70 yX5_heatOf wsX5_heatOf) := goodIn_app (goodIn_of _ (by decide +kernel)) ggX5_of_X5_heatOf
set_option maxRecDepth 20000 in
theorem ggX5_of_X5_feels : GoodIn wsX5_of wsX5_feels := goodIn_r _ [34] (by decide +kernel) (by decide +kernel)
set_option maxRecDepth 20000 in
theorem gX5_of_X5_feels : GoodIn wsX5_of (va_wsS RX5 74 yX5_feels wsX5_feels) := goodIn_app (goodIn_of _ (by decide +kernel)) ggX5_of_X5_feels
set_option maxRecDepth 20000 in
theorem ggX5_of_X5_holds : GoodIn wsX5_of wsX5_holds := goodIn_r _ [37] (by decide +kernel) (by decide +kernel)
set_option maxRecDepth 20000 in
theorem gX5_of_X5_holds : GoodIn wsX5_of (va_wsS RX5 87 yX5_holds wsX5_holds) := goodIn_app (goodIn_of _ (by decide +kernel)) ggX5_of_X5_holds
theorem dX5_of_0 : decode cX5_of 0 = .ok (.aload_n 0, 1) := by decide +kernel
theorem dX5_of_1 : decode cX5_of 1 = .ok (.iload_n 1, 1) := by decide +kernel
theorem dX5_of_2 : decode cX5_of 2 = .ok (.invokevirtual 112, 3) := by decide +kernel
theorem dX5_of_5 : decode cX5_of 5 = .ok (.ifCond .eq 13, 3) := by decide +kernel
theorem dX5_of_8 : decode cX5_of 8 = .ok (.iload_n 2, 1) := by decide +kernel
theorem dX5_of_9 : decode cX5_of 9 = .ok (.iconst 0, 1) := by decide +kernel
theorem dX5_of_10 : decode cX5_of 10 = .ok (.bipush 9, 2) := by decide +kernel
theorem dX5_of_12 : decode cX5_of 12 = .ok (.invokestatic 44, 3) := by decide +kernel
theorem dX5_of_15 : decode cX5_of 15 = .ok (.ifCond .ne 9, 3) := by decide +kernel
theorem dX5_of_18 : decode cX5_of 18 = .ok (.aload_n 0, 1) := by decide +kernel
theorem dX5_of_19 : decode cX5_of 19 = .ok (.iconst 0, 1) := by decide +kernel
theorem dX5_of_20 : decode cX5_of 20 = .ok (.invokevirtual 105, 3) := by decide +kernel
theorem dX5_of_23 : decode cX5_of 23 = .ok (.ireturn, 1) := by decide +kernel
theorem dX5_of_24 : decode cX5_of 24 = .ok (.aload_n 0, 1) := by decide +kernel
theorem dX5_of_25 : decode cX5_of 25 = .ok (.getfield 9, 3) := by decide +kernel
theorem dX5_of_28 : decode cX5_of 28 = .ok (.bipush 32, 2) := by decide +kernel
theorem dX5_of_30 : decode cX5_of 30 = .ok (.iload_n 1, 1) := by decide +kernel
theorem dX5_of_31 : decode cX5_of 31 = .ok (.iadd, 1) := by decide +kernel
theorem dX5_of_32 : decode cX5_of 32 = .ok (.iaload, 1) := by decide +kernel
theorem dX5_of_33 : decode cX5_of 33 = .ok (.istore_n 3, 1) := by decide +kernel
theorem dX5_of_34 : decode cX5_of 34 = .ok (.iload_n 2, 1) := by decide +kernel
theorem dX5_of_35 : decode cX5_of 35 = .ok (.tableswitch 92 6 9 #[29, 43, 48, 75], 29) := by decide +kernel
theorem dX5_of_64 : decode cX5_of 64 = .ok (.iload_n 3, 1) := by decide +kernel
theorem dX5_of_65 : decode cX5_of 65 = .ok (.aload_n 0, 1) := by decide +kernel
theorem dX5_of_66 : decode cX5_of 66 = .ok (.getfield 9, 3) := by decide +kernel
theorem dX5_of_69 : decode cX5_of 69 = .ok (.bipush 48, 2) := by decide +kernel
theorem dX5_of_71 : decode cX5_of 71 = .ok (.iload_n 1, 1) := by decide +kernel
theorem dX5_of_72 : decode cX5_of 72 = .ok (.iadd, 1) := by decide +kernel
theorem dX5_of_73 : decode cX5_of 73 = .ok (.iaload, 1) := by decide +kernel
theorem dX5_of_74 : decode cX5_of 74 = .ok (.invokestatic 77, 3) := by decide +kernel
theorem dX5_of_77 : decode cX5_of 77 = .ok (.ireturn, 1) := by decide +kernel
theorem dX5_of_78 : decode cX5_of 78 = .ok (.iload_n 3, 1) := by decide +kernel
theorem dX5_of_79 : decode cX5_of 79 = .ok (.invokestatic 80, 3) := by decide +kernel
theorem dX5_of_82 : decode cX5_of 82 = .ok (.ireturn, 1) := by decide +kernel
theorem dX5_of_83 : decode cX5_of 83 = .ok (.iload_n 3, 1) := by decide +kernel
theorem dX5_of_84 : decode cX5_of 84 = .ok (.aload_n 0, 1) := by decide +kernel
theorem dX5_of_85 : decode cX5_of 85 = .ok (.getfield 9, 3) := by decide +kernel
theorem dX5_of_88 : decode cX5_of 88 = .ok (.aload_n 0, 1) := by decide +kernel
theorem dX5_of_89 : decode cX5_of 89 = .ok (.getfield 9, 3) := by decide +kernel
theorem dX5_of_92 : decode cX5_of 92 = .ok (.bipush 40, 2) := by decide +kernel
theorem dX5_of_94 : decode cX5_of 94 = .ok (.iload_n 1, 1) := by decide +kernel
theorem dX5_of_95 : decode cX5_of 95 = .ok (.iadd, 1) := by decide +kernel
theorem dX5_of_96 : decode cX5_of 96 = .ok (.iaload, 1) := by decide +kernel
theorem dX5_of_97 : decode cX5_of 97 = .ok (.aload_n 0, 1) := by decide +kernel
theorem dX5_of_98 : decode cX5_of 98 = .ok (.getfield 9, 3) := by decide +kernel
theorem dX5_of_101 : decode cX5_of 101 = .ok (.iconst 2, 1) := by decide +kernel
theorem dX5_of_102 : decode cX5_of 102 = .ok (.iaload, 1) := by decide +kernel
theorem dX5_of_103 : decode cX5_of 103 = .ok (.invokestatic 70, 3) := by decide +kernel
theorem dX5_of_106 : decode cX5_of 106 = .ok (.invokestatic 74, 3) := by decide +kernel
theorem dX5_of_109 : decode cX5_of 109 = .ok (.ireturn, 1) := by decide +kernel
theorem dX5_of_110 : decode cX5_of 110 = .ok (.aload_n 0, 1) := by decide +kernel
theorem dX5_of_111 : decode cX5_of 111 = .ok (.getfield 9, 3) := by decide +kernel
theorem dX5_of_114 : decode cX5_of 114 = .ok (.iload_n 1, 1) := by decide +kernel
theorem dX5_of_115 : decode cX5_of 115 = .ok (.invokestatic 87, 3) := by decide +kernel
theorem dX5_of_118 : decode cX5_of 118 = .ok (.ifCond .eq 7, 3) := by decide +kernel
theorem dX5_of_121 : decode cX5_of 121 = .ok (.iconst 1, 1) := by decide +kernel
theorem dX5_of_122 : decode cX5_of 122 = .ok (.goto 4, 3) := by decide +kernel
theorem dX5_of_125 : decode cX5_of 125 = .ok (.iconst 0, 1) := by decide +kernel
theorem dX5_of_126 : decode cX5_of 126 = .ok (.ireturn, 1) := by decide +kernel
theorem dX5_of_127 : decode cX5_of 127 = .ok (.aload_n 0, 1) := by decide +kernel
theorem dX5_of_128 : decode cX5_of 128 = .ok (.getfield 9, 3) := by decide +kernel
theorem dX5_of_131 : decode cX5_of 131 = .ok (.bipush 32, 2) := by decide +kernel
theorem dX5_of_133 : decode cX5_of 133 = .ok (.bipush 8, 2) := by decide +kernel
theorem dX5_of_135 : decode cX5_of 135 = .ok (.iload_n 2, 1) := by decide +kernel
theorem dX5_of_136 : decode cX5_of 136 = .ok (.imul, 1) := by decide +kernel
theorem dX5_of_137 : decode cX5_of 137 = .ok (.iadd, 1) := by decide +kernel
theorem dX5_of_138 : decode cX5_of 138 = .ok (.iload_n 1, 1) := by decide +kernel
theorem dX5_of_139 : decode cX5_of 139 = .ok (.iadd, 1) := by decide +kernel
theorem dX5_of_140 : decode cX5_of 140 = .ok (.iaload, 1) := by decide +kernel
theorem dX5_of_141 : decode cX5_of 141 = .ok (.ireturn, 1) := by decide +kernel
set_option maxRecDepth 20000 in
theorem ggX5_mayBe_X5_isKind : GoodIn wsX5_mayBe wsX5_isKind := goodIn_r _ [4, 5, 6, 3, 7] (by decide +kernel) (by decide +kernel)
set_option maxRecDepth 20000 in
theorem gX5_mayBe_X5_isKind : GoodIn wsX5_mayBe (va_wsS RX5 98 yX5_isKind wsX5_isKind) := goodIn_app (goodIn_of _ (by decide +kernel)) ggX5_mayBe_X5_isKind
set_option maxRecDepth 20000 in
theorem ggX5_mayBe_X5_isShelf : GoodIn wsX5_mayBe wsX5_isShelf := goodIn_r _ [10, 5, 6, 3, 7] (by decide +kernel) (by decide +kernel)
set_option maxRecDepth 20000 in
theorem gX5_mayBe_X5_isShelf : GoodIn wsX5_mayBe (va_wsS RX5 102 yX5_isShelf wsX5_isShelf) := goodIn_app (goodIn_of _ (by decide +kernel)) ggX5_mayBe_X5_isShelf
set_option maxRecDepth 20000 in
theorem ggX5_mayBe_X5_within : GoodIn wsX5_mayBe wsX5_within := goodIn_r _ [7] (by decide +kernel) (by decide +kernel)
set_option maxRecDepth 20000 in
theorem gX5_mayBe_X5_within : GoodIn wsX5_mayBe (va_wsS RX5 44 yX5_within wsX5_within) := goodIn_app (goodIn_of _ (by decide +kernel)) ggX5_mayBe_X5_within
theorem dX5_mayBe_0 : decode cX5_mayBe 0 = .ok (.iload_n 1, 1) := by decide +kernel
theorem dX5_mayBe_1 : decode cX5_mayBe 1 = .ok (.tableswitch 57 0 3 #[31, 36, 41, 49], 31) := by decide +kernel
theorem dX5_mayBe_32 : decode cX5_mayBe 32 = .ok (.iload_n 2, 1) := by decide +kernel
theorem dX5_mayBe_33 : decode cX5_mayBe 33 = .ok (.invokestatic 98, 3) := by decide +kernel
theorem dX5_mayBe_36 : decode cX5_mayBe 36 = .ok (.ireturn, 1) := by decide +kernel
theorem dX5_mayBe_37 : decode cX5_mayBe 37 = .ok (.iload_n 2, 1) := by decide +kernel
theorem dX5_mayBe_38 : decode cX5_mayBe 38 = .ok (.invokestatic 102, 3) := by decide +kernel
theorem dX5_mayBe_41 : decode cX5_mayBe 41 = .ok (.ireturn, 1) := by decide +kernel
theorem dX5_mayBe_42 : decode cX5_mayBe 42 = .ok (.iload_n 2, 1) := by decide +kernel
theorem dX5_mayBe_43 : decode cX5_mayBe 43 = .ok (.iconst 1, 1) := by decide +kernel
theorem dX5_mayBe_44 : decode cX5_mayBe 44 = .ok (.bipush 99, 2) := by decide +kernel
theorem dX5_mayBe_46 : decode cX5_mayBe 46 = .ok (.invokestatic 44, 3) := by decide +kernel
theorem dX5_mayBe_49 : decode cX5_mayBe 49 = .ok (.ireturn, 1) := by decide +kernel
theorem dX5_mayBe_50 : decode cX5_mayBe 50 = .ok (.iload_n 2, 1) := by decide +kernel
theorem dX5_mayBe_51 : decode cX5_mayBe 51 = .ok (.iconst 0, 1) := by decide +kernel
theorem dX5_mayBe_52 : decode cX5_mayBe 52 = .ok (.bipush 99, 2) := by decide +kernel
theorem dX5_mayBe_54 : decode cX5_mayBe 54 = .ok (.invokestatic 44, 3) := by decide +kernel
theorem dX5_mayBe_57 : decode cX5_mayBe 57 = .ok (.ireturn, 1) := by decide +kernel
theorem dX5_mayBe_58 : decode cX5_mayBe 58 = .ok (.iload_n 1, 1) := by decide +kernel
theorem dX5_mayBe_59 : decode cX5_mayBe 59 = .ok (.iconst 5, 1) := by decide +kernel
theorem dX5_mayBe_60 : decode cX5_mayBe 60 = .ok (.if_icmp .ne 18, 3) := by decide +kernel
theorem dX5_mayBe_63 : decode cX5_mayBe 63 = .ok (.iload_n 2, 1) := by decide +kernel
theorem dX5_mayBe_64 : decode cX5_mayBe 64 = .ok (.iconst (-1), 1) := by decide +kernel
theorem dX5_mayBe_65 : decode cX5_mayBe 65 = .ok (.iload_n 0, 1) := by decide +kernel
theorem dX5_mayBe_66 : decode cX5_mayBe 66 = .ok (.iconst 1, 1) := by decide +kernel
theorem dX5_mayBe_67 : decode cX5_mayBe 67 = .ok (.isub, 1) := by decide +kernel
theorem dX5_mayBe_68 : decode cX5_mayBe 68 = .ok (.invokestatic 44, 3) := by decide +kernel
theorem dX5_mayBe_71 : decode cX5_mayBe 71 = .ok (.ifCond .eq 7, 3) := by decide +kernel
theorem dX5_mayBe_74 : decode cX5_mayBe 74 = .ok (.iconst 1, 1) := by decide +kernel
theorem dX5_mayBe_75 : decode cX5_mayBe 75 = .ok (.goto 4, 3) := by decide +kernel
theorem dX5_mayBe_78 : decode cX5_mayBe 78 = .ok (.iconst 0, 1) := by decide +kernel
theorem dX5_mayBe_79 : decode cX5_mayBe 79 = .ok (.ireturn, 1) := by decide +kernel
set_option maxRecDepth 20000 in
theorem ggX5_change_X5_isDeed : GoodIn wsX5_change wsX5_isDeed := goodIn_r _ [6, 1, 7, 8, 5, 9, 25, 26, 27, 28, 29, 30, 31, 32, 33, 34, 35, 36, 37, 38, 39, 40, 41] (by decide +kernel) (by decide +kernel)
set_option maxRecDepth 20000 in
theorem gX5_change_X5_isDeed : GoodIn wsX5_change (wsV RX5 112 RX5 yX5_isDeed wsX5_isDeed) := goodIn_app (goodIn_of _ (by decide +kernel)) ggX5_change_X5_isDeed
set_option maxRecDepth 20000 in
theorem ggX5_change_X5_mayBe : GoodIn wsX5_change wsX5_mayBe := goodIn_r _ [12, 13, 14, 5, 15, 7, 8, 9, 16, 17, 18] (by decide +kernel) (by decide +kernel)
set_option maxRecDepth 20000 in
theorem gX5_change_X5_mayBe : GoodIn wsX5_change (va_wsS RX5 115 yX5_mayBe wsX5_mayBe) := goodIn_app (goodIn_of _ (by decide +kernel)) ggX5_change_X5_mayBe
set_option maxRecDepth 20000 in
theorem ggX5_change_X5_finding : GoodIn wsX5_change wsX5_finding := goodIn_r _ [22, 23, 24, 25, 26, 27, 28, 29, 30, 31, 32, 33, 34, 35, 36, 37, 38, 39, 40, 41] (by decide +kernel) (by decide +kernel)
set_option maxRecDepth 20000 in
theorem gX5_change_X5_finding : GoodIn wsX5_change (wsV RX5 105 RX5 yX5_finding wsX5_finding) := goodIn_app (goodIn_of _ (by decide +kernel)) ggX5_change_X5_finding
theorem dX5_change_0 : decode cX5_change 0 = .ok (.aload_n 0, 1) := by decide +kernel
theorem dX5_change_1 : decode cX5_change 1 = .ok (.iload_n 1, 1) := by decide +kernel
theorem dX5_change_2 : decode cX5_change 2 = .ok (.invokevirtual 112, 3) := by decide +kernel
theorem dX5_change_5 : decode cX5_change 5 = .ok (.ifCond .eq 12, 3) := by decide +kernel
theorem dX5_change_8 : decode cX5_change 8 = .ok (.iload_n 1, 1) := by decide +kernel
theorem dX5_change_9 : decode cX5_change 9 = .ok (.iload_n 2, 1) := by decide +kernel
theorem dX5_change_10 : decode cX5_change 10 = .ok (.iload_n 3, 1) := by decide +kernel
theorem dX5_change_11 : decode cX5_change 11 = .ok (.invokestatic 115, 3) := by decide +kernel
theorem dX5_change_14 : decode cX5_change 14 = .ok (.ifCond .ne 9, 3) := by decide +kernel
theorem dX5_change_17 : decode cX5_change 17 = .ok (.aload_n 0, 1) := by decide +kernel
theorem dX5_change_18 : decode cX5_change 18 = .ok (.iconst 0, 1) := by decide +kernel
theorem dX5_change_19 : decode cX5_change 19 = .ok (.invokevirtual 105, 3) := by decide +kernel
theorem dX5_change_22 : decode cX5_change 22 = .ok (.ireturn, 1) := by decide +kernel
theorem dX5_change_23 : decode cX5_change 23 = .ok (.aload_n 0, 1) := by decide +kernel
theorem dX5_change_24 : decode cX5_change 24 = .ok (.getfield 9, 3) := by decide +kernel
theorem dX5_change_27 : decode cX5_change 27 = .ok (.bipush 32, 2) := by decide +kernel
theorem dX5_change_29 : decode cX5_change 29 = .ok (.bipush 8, 2) := by decide +kernel
theorem dX5_change_31 : decode cX5_change 31 = .ok (.iload_n 2, 1) := by decide +kernel
theorem dX5_change_32 : decode cX5_change 32 = .ok (.imul, 1) := by decide +kernel
theorem dX5_change_33 : decode cX5_change 33 = .ok (.iadd, 1) := by decide +kernel
theorem dX5_change_34 : decode cX5_change 34 = .ok (.iload_n 1, 1) := by decide +kernel
theorem dX5_change_35 : decode cX5_change 35 = .ok (.iadd, 1) := by decide +kernel
theorem dX5_change_36 : decode cX5_change 36 = .ok (.iaload, 1) := by decide +kernel
theorem dX5_change_37 : decode cX5_change 37 = .ok (.istore 4, 2) := by decide +kernel
theorem dX5_change_39 : decode cX5_change 39 = .ok (.aload_n 0, 1) := by decide +kernel
theorem dX5_change_40 : decode cX5_change 40 = .ok (.getfield 9, 3) := by decide +kernel
theorem dX5_change_43 : decode cX5_change 43 = .ok (.bipush 32, 2) := by decide +kernel
theorem dX5_change_45 : decode cX5_change 45 = .ok (.bipush 8, 2) := by decide +kernel
theorem dX5_change_47 : decode cX5_change 47 = .ok (.iload_n 2, 1) := by decide +kernel
theorem dX5_change_48 : decode cX5_change 48 = .ok (.imul, 1) := by decide +kernel
theorem dX5_change_49 : decode cX5_change 49 = .ok (.iadd, 1) := by decide +kernel
theorem dX5_change_50 : decode cX5_change 50 = .ok (.iload_n 1, 1) := by decide +kernel
theorem dX5_change_51 : decode cX5_change 51 = .ok (.iadd, 1) := by decide +kernel
theorem dX5_change_52 : decode cX5_change 52 = .ok (.iload_n 3, 1) := by decide +kernel
theorem dX5_change_53 : decode cX5_change 53 = .ok (.iastore, 1) := by decide +kernel
theorem dX5_change_54 : decode cX5_change 54 = .ok (.iload 4, 2) := by decide +kernel
theorem dX5_change_56 : decode cX5_change 56 = .ok (.ireturn, 1) := by decide +kernel
set_option maxRecDepth 20000 in
theorem ggX5_renew_X5_isDeed : GoodIn wsX5_renew wsX5_isDeed := goodIn_r _ [6, 1, 7, 8, 5, 9, 16, 17, 18, 19, 20, 21, 22, 23, 24, 25, 26, 27, 28, 29, 30, 31, 32] (by decide +kernel) (by decide +kernel)
set_option maxRecDepth 20000 in
theorem gX5_renew_X5_isDeed : GoodIn wsX5_renew (wsV RX5 112 RX5 yX5_isDeed wsX5_isDeed) := goodIn_app (goodIn_of _ (by decide +kernel)) ggX5_renew_X5_isDeed
set_option maxRecDepth 20000 in
theorem ggX5_renew_X5_finding : GoodIn wsX5_renew wsX5_finding := goodIn_r _ [13, 14, 15, 16, 17, 18, 19, 20, 21, 22, 23, 24, 25, 26, 27, 28, 29, 30, 31, 32] (by decide +kernel) (by decide +kernel)
set_option maxRecDepth 20000 in
theorem gX5_renew_X5_finding : GoodIn wsX5_renew (wsV RX5 105 RX5 yX5_finding wsX5_finding) := goodIn_app (goodIn_of _ (by decide +kernel)) ggX5_renew_X5_finding
theorem dX5_renew_0 : decode cX5_renew 0 = .ok (.aload_n 0, 1) := by decide +kernel
theorem dX5_renew_1 : decode cX5_renew 1 = .ok (.iload_n 1, 1) := by decide +kernel
theorem dX5_renew_2 : decode cX5_renew 2 = .ok (.invokevirtual 112, 3) := by decide +kernel
theorem dX5_renew_5 : decode cX5_renew 5 = .ok (.ifCond .ne 9, 3) := by decide +kernel
theorem dX5_renew_8 : decode cX5_renew 8 = .ok (.aload_n 0, 1) := by decide +kernel
theorem dX5_renew_9 : decode cX5_renew 9 = .ok (.iconst 0, 1) := by decide +kernel
theorem dX5_renew_10 : decode cX5_renew 10 = .ok (.invokevirtual 105, 3) := by decide +kernel
theorem dX5_renew_13 : decode cX5_renew 13 = .ok (.ireturn, 1) := by decide +kernel
theorem dX5_renew_14 : decode cX5_renew 14 = .ok (.aload_n 0, 1) := by decide +kernel
theorem dX5_renew_15 : decode cX5_renew 15 = .ok (.getfield 9, 3) := by decide +kernel
theorem dX5_renew_18 : decode cX5_renew 18 = .ok (.bipush 64, 2) := by decide +kernel
theorem dX5_renew_20 : decode cX5_renew 20 = .ok (.iload_n 1, 1) := by decide +kernel
theorem dX5_renew_21 : decode cX5_renew 21 = .ok (.iadd, 1) := by decide +kernel
theorem dX5_renew_22 : decode cX5_renew 22 = .ok (.iaload, 1) := by decide +kernel
theorem dX5_renew_23 : decode cX5_renew 23 = .ok (.istore_n 2, 1) := by decide +kernel
theorem dX5_renew_24 : decode cX5_renew 24 = .ok (.aload_n 0, 1) := by decide +kernel
theorem dX5_renew_25 : decode cX5_renew 25 = .ok (.getfield 9, 3) := by decide +kernel
theorem dX5_renew_28 : decode cX5_renew 28 = .ok (.bipush 64, 2) := by decide +kernel
theorem dX5_renew_30 : decode cX5_renew 30 = .ok (.iload_n 1, 1) := by decide +kernel
theorem dX5_renew_31 : decode cX5_renew 31 = .ok (.iadd, 1) := by decide +kernel
theorem dX5_renew_32 : decode cX5_renew 32 = .ok (.iconst 0, 1) := by decide +kernel
theorem dX5_renew_33 : decode cX5_renew 33 = .ok (.iastore, 1) := by decide +kernel
theorem dX5_renew_34 : decode cX5_renew 34 = .ok (.aload_n 0, 1) := by decide +kernel
theorem dX5_renew_35 : decode cX5_renew 35 = .ok (.getfield 9, 3) := by decide +kernel
theorem dX5_renew_38 : decode cX5_renew 38 = .ok (.bipush 56, 2) := by decide +kernel
theorem dX5_renew_40 : decode cX5_renew 40 = .ok (.iload_n 1, 1) := by decide +kernel
theorem dX5_renew_41 : decode cX5_renew 41 = .ok (.iadd, 1) := by decide +kernel
theorem dX5_renew_42 : decode cX5_renew 42 = .ok (.iconst 0, 1) := by decide +kernel
theorem dX5_renew_43 : decode cX5_renew 43 = .ok (.iastore, 1) := by decide +kernel
theorem dX5_renew_44 : decode cX5_renew 44 = .ok (.iload_n 2, 1) := by decide +kernel
theorem dX5_renew_45 : decode cX5_renew 45 = .ok (.ireturn, 1) := by decide +kernel
set_option maxRecDepth 20000 in
theorem ggX5_shelf_X5_within : GoodIn wsX5_shelf wsX5_within := goodIn_r _ [5] (by decide +kernel) (by decide +kernel)
set_option maxRecDepth 20000 in
theorem gX5_shelf_X5_within : GoodIn wsX5_shelf (va_wsS RX5 44 yX5_within wsX5_within) := goodIn_app (goodIn_of _ (by decide +kernel)) ggX5_shelf_X5_within
set_option maxRecDepth 20000 in
theorem ggX5_shelf_X5_isShelf : GoodIn wsX5_shelf wsX5_isShelf := goodIn_r _ [8, 2, 3, 4, 5] (by decide +kernel) (by decide +kernel)
set_option maxRecDepth 20000 in
theorem gX5_shelf_X5_isShelf : GoodIn wsX5_shelf (va_wsS RX5 102 yX5_isShelf wsX5_isShelf) := goodIn_app (goodIn_of _ (by decide +kernel)) ggX5_shelf_X5_isShelf
set_option maxRecDepth 20000 in
theorem ggX5_shelf_X5_finding : GoodIn wsX5_shelf wsX5_finding := goodIn_r _ [12, 13, 14, 15, 16, 17, 18, 19, 20, 21, 22, 23, 24, 25, 26, 27, 28, 29, 30, 31] (by decide +kernel) (by decide +kernel)
set_option maxRecDepth 20000 in
theorem gX5_shelf_X5_finding : GoodIn wsX5_shelf (wsV RX5 105 RX5 yX5_finding wsX5_finding) := goodIn_app (goodIn_of _ (by decide +kernel)) ggX5_shelf_X5_finding
theorem dX5_shelf_0 : decode cX5_shelf 0 = .ok (.iload_n 2, 1) := by decide +kernel
theorem dX5_shelf_1 : decode cX5_shelf 1 = .ok (.iconst 1, 1) := by decide +kernel
theorem dX5_shelf_2 : decode cX5_shelf 2 = .ok (.if_icmp .ne 13, 3) := by decide +kernel
theorem dX5_shelf_5 : decode cX5_shelf 5 = .ok (.iload_n 3, 1) := by decide +kernel
theorem dX5_shelf_6 : decode cX5_shelf 6 = .ok (.iconst 0, 1) := by decide +kernel
theorem dX5_shelf_7 : decode cX5_shelf 7 = .ok (.bipush 99, 2) := by decide +kernel
theorem dX5_shelf_9 : decode cX5_shelf 9 = .ok (.invokestatic 44, 3) := by decide +kernel
theorem dX5_shelf_12 : decode cX5_shelf 12 = .ok (.goto 26, 3) := by decide +kernel
theorem dX5_shelf_15 : decode cX5_shelf 15 = .ok (.iload_n 2, 1) := by decide +kernel
theorem dX5_shelf_16 : decode cX5_shelf 16 = .ok (.iconst 0, 1) := by decide +kernel
theorem dX5_shelf_17 : decode cX5_shelf 17 = .ok (.iconst 2, 1) := by decide +kernel
theorem dX5_shelf_18 : decode cX5_shelf 18 = .ok (.invokestatic 44, 3) := by decide +kernel
theorem dX5_shelf_21 : decode cX5_shelf 21 = .ok (.ifCond .eq 16, 3) := by decide +kernel
theorem dX5_shelf_24 : decode cX5_shelf 24 = .ok (.iload_n 3, 1) := by decide +kernel
theorem dX5_shelf_25 : decode cX5_shelf 25 = .ok (.iconst 0, 1) := by decide +kernel
theorem dX5_shelf_26 : decode cX5_shelf 26 = .ok (.iconst 1, 1) := by decide +kernel
theorem dX5_shelf_27 : decode cX5_shelf 27 = .ok (.invokestatic 44, 3) := by decide +kernel
theorem dX5_shelf_30 : decode cX5_shelf 30 = .ok (.ifCond .eq 7, 3) := by decide +kernel
theorem dX5_shelf_33 : decode cX5_shelf 33 = .ok (.iconst 1, 1) := by decide +kernel
theorem dX5_shelf_34 : decode cX5_shelf 34 = .ok (.goto 4, 3) := by decide +kernel
theorem dX5_shelf_37 : decode cX5_shelf 37 = .ok (.iconst 0, 1) := by decide +kernel
theorem dX5_shelf_38 : decode cX5_shelf 38 = .ok (.istore 4, 2) := by decide +kernel
theorem dX5_shelf_40 : decode cX5_shelf 40 = .ok (.iload_n 1, 1) := by decide +kernel
theorem dX5_shelf_41 : decode cX5_shelf 41 = .ok (.invokestatic 102, 3) := by decide +kernel
theorem dX5_shelf_44 : decode cX5_shelf 44 = .ok (.ifCond .eq 8, 3) := by decide +kernel
theorem dX5_shelf_47 : decode cX5_shelf 47 = .ok (.iload 4, 2) := by decide +kernel
theorem dX5_shelf_49 : decode cX5_shelf 49 = .ok (.ifCond .ne 9, 3) := by decide +kernel
theorem dX5_shelf_52 : decode cX5_shelf 52 = .ok (.aload_n 0, 1) := by decide +kernel
theorem dX5_shelf_53 : decode cX5_shelf 53 = .ok (.iconst 0, 1) := by decide +kernel
theorem dX5_shelf_54 : decode cX5_shelf 54 = .ok (.invokevirtual 105, 3) := by decide +kernel
theorem dX5_shelf_57 : decode cX5_shelf 57 = .ok (.ireturn, 1) := by decide +kernel
theorem dX5_shelf_58 : decode cX5_shelf 58 = .ok (.aload_n 0, 1) := by decide +kernel
theorem dX5_shelf_59 : decode cX5_shelf 59 = .ok (.getfield 9, 3) := by decide +kernel
theorem dX5_shelf_62 : decode cX5_shelf 62 = .ok (.iconst 4, 1) := by decide +kernel
theorem dX5_shelf_63 : decode cX5_shelf 63 = .ok (.bipush 6, 2) := by decide +kernel
theorem dX5_shelf_65 : decode cX5_shelf 65 = .ok (.iload_n 2, 1) := by decide +kernel
theorem dX5_shelf_66 : decode cX5_shelf 66 = .ok (.imul, 1) := by decide +kernel
theorem dX5_shelf_67 : decode cX5_shelf 67 = .ok (.iadd, 1) := by decide +kernel
theorem dX5_shelf_68 : decode cX5_shelf 68 = .ok (.iload_n 1, 1) := by decide +kernel
theorem dX5_shelf_69 : decode cX5_shelf 69 = .ok (.iadd, 1) := by decide +kernel
theorem dX5_shelf_70 : decode cX5_shelf 70 = .ok (.iaload, 1) := by decide +kernel
theorem dX5_shelf_71 : decode cX5_shelf 71 = .ok (.istore 5, 2) := by decide +kernel
theorem dX5_shelf_73 : decode cX5_shelf 73 = .ok (.aload_n 0, 1) := by decide +kernel
theorem dX5_shelf_74 : decode cX5_shelf 74 = .ok (.getfield 9, 3) := by decide +kernel
theorem dX5_shelf_77 : decode cX5_shelf 77 = .ok (.iconst 4, 1) := by decide +kernel
theorem dX5_shelf_78 : decode cX5_shelf 78 = .ok (.bipush 6, 2) := by decide +kernel
theorem dX5_shelf_80 : decode cX5_shelf 80 = .ok (.iload_n 2, 1) := by decide +kernel
theorem dX5_shelf_81 : decode cX5_shelf 81 = .ok (.imul, 1) := by decide +kernel
theorem dX5_shelf_82 : decode cX5_shelf 82 = .ok (.iadd, 1) := by decide +kernel
theorem dX5_shelf_83 : decode cX5_shelf 83 = .ok (.iload_n 1, 1) := by decide +kernel
theorem dX5_shelf_84 : decode cX5_shelf 84 = .ok (.iadd, 1) := by decide +kernel
theorem dX5_shelf_85 : decode cX5_shelf 85 = .ok (.iload_n 3, 1) := by decide +kernel
theorem dX5_shelf_86 : decode cX5_shelf 86 = .ok (.iastore, 1) := by decide +kernel
theorem dX5_shelf_87 : decode cX5_shelf 87 = .ok (.iload 5, 2) := by decide +kernel
theorem dX5_shelf_89 : decode cX5_shelf 89 = .ok (.ireturn, 1) := by decide +kernel
set_option maxRecDepth 20000 in
theorem ggX5_summer_X5_within : GoodIn wsX5_summer wsX5_within := goodIn_r _ [5] (by decide +kernel) (by decide +kernel)
set_option maxRecDepth 20000 in
theorem gX5_summer_X5_within : GoodIn wsX5_summer (va_wsS RX5 44 yX5_within wsX5_within) := goodIn_app (goodIn_of _ (by decide +kernel)) ggX5_summer_X5_within
set_option maxRecDepth 20000 in
theorem ggX5_summer_X5_finding : GoodIn wsX5_summer wsX5_finding := goodIn_r _ [9, 10, 11, 12, 13, 14, 15, 16, 17, 18, 19, 20, 21, 22, 23, 24, 25, 26, 27, 28] (by decide +kernel) (by decide +kernel)
set_option maxRecDepth 20000 in
theorem gX5_summer_X5_finding : GoodIn wsX5_summer (wsV RX5 105 RX5 yX5_finding wsX5_finding) := goodIn_app (goodIn_of _ (by decide +kernel)) ggX5_summer_X5_finding
theorem dX5_summer_0 : decode cX5_summer 0 = .ok (.iload_n 1, 1) := by decide +kernel
theorem dX5_summer_1 : decode cX5_summer 1 = .ok (.iconst 0, 1) := by decide +kernel
theorem dX5_summer_2 : decode cX5_summer 2 = .ok (.bipush 40, 2) := by decide +kernel
theorem dX5_summer_4 : decode cX5_summer 4 = .ok (.invokestatic 44, 3) := by decide +kernel
theorem dX5_summer_7 : decode cX5_summer 7 = .ok (.ifCond .ne 9, 3) := by decide +kernel
theorem dX5_summer_10 : decode cX5_summer 10 = .ok (.aload_n 0, 1) := by decide +kernel
theorem dX5_summer_11 : decode cX5_summer 11 = .ok (.iconst 0, 1) := by decide +kernel
theorem dX5_summer_12 : decode cX5_summer 12 = .ok (.invokevirtual 105, 3) := by decide +kernel
theorem dX5_summer_15 : decode cX5_summer 15 = .ok (.ireturn, 1) := by decide +kernel
theorem dX5_summer_16 : decode cX5_summer 16 = .ok (.aload_n 0, 1) := by decide +kernel
theorem dX5_summer_17 : decode cX5_summer 17 = .ok (.getfield 9, 3) := by decide +kernel
theorem dX5_summer_20 : decode cX5_summer 20 = .ok (.iconst 1, 1) := by decide +kernel
theorem dX5_summer_21 : decode cX5_summer 21 = .ok (.iaload, 1) := by decide +kernel
theorem dX5_summer_22 : decode cX5_summer 22 = .ok (.istore_n 2, 1) := by decide +kernel
theorem dX5_summer_23 : decode cX5_summer 23 = .ok (.aload_n 0, 1) := by decide +kernel
theorem dX5_summer_24 : decode cX5_summer 24 = .ok (.getfield 9, 3) := by decide +kernel
theorem dX5_summer_27 : decode cX5_summer 27 = .ok (.iconst 1, 1) := by decide +kernel
theorem dX5_summer_28 : decode cX5_summer 28 = .ok (.iload_n 1, 1) := by decide +kernel
theorem dX5_summer_29 : decode cX5_summer 29 = .ok (.iastore, 1) := by decide +kernel
theorem dX5_summer_30 : decode cX5_summer 30 = .ok (.iload_n 2, 1) := by decide +kernel
theorem dX5_summer_31 : decode cX5_summer 31 = .ok (.ireturn, 1) := by decide +kernel
set_option maxRecDepth 20000 in
theorem ggX5_sun_X5_within : GoodIn wsX5_sun wsX5_within := goodIn_r _ [4] (by decide +kernel) (by decide +kernel)
set_option maxRecDepth 20000 in
theorem gX5_sun_X5_within : GoodIn wsX5_sun (va_wsS RX5 44 yX5_within wsX5_within) := goodIn_app (goodIn_of _ (by decide +kernel)) ggX5_sun_X5_within
set_option maxRecDepth 20000 in
theorem ggX5_sun_X5_sunAt : GoodIn wsX5_sun wsX5_sunAt := goodIn_r _ [7, 8, 9, 10, 11] (by decide +kernel) (by decide +kernel)
set_option maxRecDepth 20000 in
theorem gX5_sun_X5_sunAt : GoodIn wsX5_sun (va_wsS RX5 57 yX5_sunAt wsX5_sunAt) := goodIn_app (goodIn_of _ (by decide +kernel)) ggX5_sun_X5_sunAt
set_option maxRecDepth 20000 in
theorem ggX5_sun_X5_finding : GoodIn wsX5_sun wsX5_finding := goodIn_r _ [15, 16, 17, 18, 19, 20, 21, 22, 23, 24, 25, 26, 27, 28, 29, 30, 31, 32, 33, 34] (by decide +kernel) (by decide +kernel)
set_option maxRecDepth 20000 in
theorem gX5_sun_X5_finding : GoodIn wsX5_sun (wsV RX5 105 RX5 yX5_finding wsX5_finding) := goodIn_app (goodIn_of _ (by decide +kernel)) ggX5_sun_X5_finding
theorem dX5_sun_0 : decode cX5_sun 0 = .ok (.iload_n 1, 1) := by decide +kernel
theorem dX5_sun_1 : decode cX5_sun 1 = .ok (.iconst 0, 1) := by decide +kernel
theorem dX5_sun_2 : decode cX5_sun 2 = .ok (.sipush 9999, 3) := by decide +kernel
theorem dX5_sun_5 : decode cX5_sun 5 = .ok (.invokestatic 44, 3) := by decide +kernel
theorem dX5_sun_8 : decode cX5_sun 8 = .ok (.ifCond .eq 10, 3) := by decide +kernel
theorem dX5_sun_11 : decode cX5_sun 11 = .ok (.iload_n 1, 1) := by decide +kernel
theorem dX5_sun_12 : decode cX5_sun 12 = .ok (.invokestatic 57, 3) := by decide +kernel
theorem dX5_sun_15 : decode cX5_sun 15 = .ok (.goto 8, 3) := by decide +kernel
theorem dX5_sun_18 : decode cX5_sun 18 = .ok (.aload_n 0, 1) := by decide +kernel
theorem dX5_sun_19 : decode cX5_sun 19 = .ok (.iconst 0, 1) := by decide +kernel
theorem dX5_sun_20 : decode cX5_sun 20 = .ok (.invokevirtual 105, 3) := by decide +kernel
theorem dX5_sun_23 : decode cX5_sun 23 = .ok (.ireturn, 1) := by decide +kernel
set_option maxRecDepth 20000 in
theorem ggX5_heat_X5_isShelf : GoodIn wsX5_heat wsX5_isShelf := goodIn_r _ [5, 6, 7, 4, 8] (by decide +kernel) (by decide +kernel)
set_option maxRecDepth 20000 in
theorem gX5_heat_X5_isShelf : GoodIn wsX5_heat (va_wsS RX5 102 yX5_isShelf wsX5_isShelf) := goodIn_app (goodIn_of _ (by decide +kernel)) ggX5_heat_X5_isShelf
set_option maxRecDepth 20000 in
theorem ggX5_heat_X5_within : GoodIn wsX5_heat wsX5_within := goodIn_r _ [8] (by decide +kernel) (by decide +kernel)
set_option maxRecDepth 20000 in
theorem gX5_heat_X5_within : GoodIn wsX5_heat (va_wsS RX5 44 yX5_within wsX5_within) := goodIn_app (goodIn_of _ (by decide +kernel)) ggX5_heat_X5_within
set_option maxRecDepth 20000 in
theorem ggX5_heat_X5_heatOf : GoodIn wsX5_heat wsX5_heatOf := goodIn_r _ [11, 12, 13, 4, 14, 15, 16, 17, 18] (by decide +kernel) (by decide +kernel)
set_option maxRecDepth 20000 in
theorem gX5_heat_X5_heatOf : GoodIn wsX5_heat (va_wsS RX5 70 yX5_heatOf wsX5_heatOf) := goodIn_app (goodIn_of _ (by decide +kernel)) ggX5_heat_X5_heatOf
set_option maxRecDepth 20000 in
theorem ggX5_heat_X5_finding : GoodIn wsX5_heat wsX5_finding := goodIn_r _ [22, 23, 24, 25, 26, 27, 28, 29, 30, 31, 32, 33, 34, 35, 36, 37, 38, 39, 40, 41] (by decide +kernel) (by decide +kernel)
set_option maxRecDepth 20000 in
theorem gX5_heat_X5_finding : GoodIn wsX5_heat (wsV RX5 105 RX5 yX5_finding wsX5_finding) := goodIn_app (goodIn_of _ (by decide +kernel)) ggX5_heat_X5_finding
theorem dX5_heat_0 : decode cX5_heat 0 = .ok (.iload_n 1, 1) := by decide +kernel
theorem dX5_heat_1 : decode cX5_heat 1 = .ok (.invokestatic 102, 3) := by decide +kernel
theorem dX5_heat_4 : decode cX5_heat 4 = .ok (.ifCond .eq 26, 3) := by decide +kernel
theorem dX5_heat_7 : decode cX5_heat 7 = .ok (.iload_n 2, 1) := by decide +kernel
theorem dX5_heat_8 : decode cX5_heat 8 = .ok (.iconst 0, 1) := by decide +kernel
theorem dX5_heat_9 : decode cX5_heat 9 = .ok (.sipush 9999, 3) := by decide +kernel
theorem dX5_heat_12 : decode cX5_heat 12 = .ok (.invokestatic 44, 3) := by decide +kernel
theorem dX5_heat_15 : decode cX5_heat 15 = .ok (.ifCond .eq 15, 3) := by decide +kernel
theorem dX5_heat_18 : decode cX5_heat 18 = .ok (.aload_n 0, 1) := by decide +kernel
theorem dX5_heat_19 : decode cX5_heat 19 = .ok (.getfield 9, 3) := by decide +kernel
theorem dX5_heat_22 : decode cX5_heat 22 = .ok (.iload_n 1, 1) := by decide +kernel
theorem dX5_heat_23 : decode cX5_heat 23 = .ok (.iload_n 2, 1) := by decide +kernel
theorem dX5_heat_24 : decode cX5_heat 24 = .ok (.invokestatic 70, 3) := by decide +kernel
theorem dX5_heat_27 : decode cX5_heat 27 = .ok (.goto 8, 3) := by decide +kernel
theorem dX5_heat_30 : decode cX5_heat 30 = .ok (.aload_n 0, 1) := by decide +kernel
theorem dX5_heat_31 : decode cX5_heat 31 = .ok (.iconst 0, 1) := by decide +kernel
theorem dX5_heat_32 : decode cX5_heat 32 = .ok (.invokevirtual 105, 3) := by decide +kernel
theorem dX5_heat_35 : decode cX5_heat 35 = .ok (.ireturn, 1) := by decide +kernel
set_option maxRecDepth 20000 in
theorem ggX5_lie_X5_isShelf : GoodIn wsX5_lie wsX5_isShelf := goodIn_r _ [5, 6, 7, 4, 8] (by decide +kernel) (by decide +kernel)
set_option maxRecDepth 20000 in
theorem gX5_lie_X5_isShelf : GoodIn wsX5_lie (va_wsS RX5 102 yX5_isShelf wsX5_isShelf) := goodIn_app (goodIn_of _ (by decide +kernel)) ggX5_lie_X5_isShelf
set_option maxRecDepth 20000 in
theorem ggX5_lie_X5_finding : GoodIn wsX5_lie wsX5_finding := goodIn_r _ [12, 13, 14, 15, 16, 17, 18, 19, 20, 21, 22, 23, 24, 25, 26, 27, 28, 29, 30, 31] (by decide +kernel) (by decide +kernel)
set_option maxRecDepth 20000 in
theorem gX5_lie_X5_finding : GoodIn wsX5_lie (wsV RX5 105 RX5 yX5_finding wsX5_finding) := goodIn_app (goodIn_of _ (by decide +kernel)) ggX5_lie_X5_finding
theorem dX5_lie_0 : decode cX5_lie 0 = .ok (.iload_n 1, 1) := by decide +kernel
theorem dX5_lie_1 : decode cX5_lie 1 = .ok (.invokestatic 102, 3) := by decide +kernel
theorem dX5_lie_4 : decode cX5_lie 4 = .ok (.ifCond .ne 9, 3) := by decide +kernel
theorem dX5_lie_7 : decode cX5_lie 7 = .ok (.aload_n 0, 1) := by decide +kernel
theorem dX5_lie_8 : decode cX5_lie 8 = .ok (.iconst 0, 1) := by decide +kernel
theorem dX5_lie_9 : decode cX5_lie 9 = .ok (.invokevirtual 105, 3) := by decide +kernel
theorem dX5_lie_12 : decode cX5_lie 12 = .ok (.ireturn, 1) := by decide +kernel
theorem dX5_lie_13 : decode cX5_lie 13 = .ok (.iconst 0, 1) := by decide +kernel
theorem dX5_lie_14 : decode cX5_lie 14 = .ok (.istore_n 2, 1) := by decide +kernel
theorem dX5_lie_15 : decode cX5_lie 15 = .ok (.iconst 0, 1) := by decide +kernel
theorem dX5_lie_16 : decode cX5_lie 16 = .ok (.istore_n 3, 1) := by decide +kernel
theorem dX5_lie_17 : decode cX5_lie 17 = .ok (.iload_n 3, 1) := by decide +kernel
theorem dX5_lie_18 : decode cX5_lie 18 = .ok (.aload_n 0, 1) := by decide +kernel
theorem dX5_lie_19 : decode cX5_lie 19 = .ok (.getfield 9, 3) := by decide +kernel
theorem dX5_lie_22 : decode cX5_lie 22 = .ok (.iconst 0, 1) := by decide +kernel
theorem dX5_lie_23 : decode cX5_lie 23 = .ok (.iaload, 1) := by decide +kernel
theorem dX5_lie_24 : decode cX5_lie 24 = .ok (.if_icmp .ge 32, 3) := by decide +kernel
theorem dX5_lie_27 : decode cX5_lie 27 = .ok (.iload_n 2, 1) := by decide +kernel
theorem dX5_lie_28 : decode cX5_lie 28 = .ok (.aload_n 0, 1) := by decide +kernel
theorem dX5_lie_29 : decode cX5_lie 29 = .ok (.getfield 9, 3) := by decide +kernel
theorem dX5_lie_32 : decode cX5_lie 32 = .ok (.bipush 40, 2) := by decide +kernel
theorem dX5_lie_34 : decode cX5_lie 34 = .ok (.iload_n 3, 1) := by decide +kernel
theorem dX5_lie_35 : decode cX5_lie 35 = .ok (.iadd, 1) := by decide +kernel
theorem dX5_lie_36 : decode cX5_lie 36 = .ok (.iaload, 1) := by decide +kernel
theorem dX5_lie_37 : decode cX5_lie 37 = .ok (.iload_n 1, 1) := by decide +kernel
theorem dX5_lie_38 : decode cX5_lie 38 = .ok (.if_icmp .ne 9, 3) := by decide +kernel
theorem dX5_lie_41 : decode cX5_lie 41 = .ok (.iconst 1, 1) := by decide +kernel
theorem dX5_lie_42 : decode cX5_lie 42 = .ok (.iload_n 3, 1) := by decide +kernel
theorem dX5_lie_43 : decode cX5_lie 43 = .ok (.ishl, 1) := by decide +kernel
theorem dX5_lie_44 : decode cX5_lie 44 = .ok (.goto 4, 3) := by decide +kernel
theorem dX5_lie_47 : decode cX5_lie 47 = .ok (.iconst 0, 1) := by decide +kernel
theorem dX5_lie_48 : decode cX5_lie 48 = .ok (.ior, 1) := by decide +kernel
theorem dX5_lie_49 : decode cX5_lie 49 = .ok (.istore_n 2, 1) := by decide +kernel
theorem dX5_lie_50 : decode cX5_lie 50 = .ok (.iinc 3 1, 3) := by decide +kernel
theorem dX5_lie_53 : decode cX5_lie 53 = .ok (.goto (-36), 3) := by decide +kernel
theorem dX5_lie_56 : decode cX5_lie 56 = .ok (.iload_n 2, 1) := by decide +kernel
theorem dX5_lie_57 : decode cX5_lie 57 = .ok (.ireturn, 1) := by decide +kernel
set_option maxRecDepth 20000 in
theorem ggX5_hours_X5_within : GoodIn wsX5_hours wsX5_within := goodIn_r _ [5] (by decide +kernel) (by decide +kernel)
set_option maxRecDepth 20000 in
theorem gX5_hours_X5_within : GoodIn wsX5_hours (va_wsS RX5 44 yX5_within wsX5_within) := goodIn_app (goodIn_of _ (by decide +kernel)) ggX5_hours_X5_within
set_option maxRecDepth 20000 in
theorem ggX5_hours_X5_finding : GoodIn wsX5_hours wsX5_finding := goodIn_r _ [9, 10, 11, 52, 53, 54, 55, 56, 57, 58, 59, 60, 61, 62, 63, 64, 65, 66, 67, 68] (by decide +kernel) (by decide +kernel)
set_option maxRecDepth 20000 in
theorem gX5_hours_X5_finding : GoodIn wsX5_hours (wsV RX5 105 RX5 yX5_finding wsX5_finding) := goodIn_app (goodIn_of _ (by decide +kernel)) ggX5_hours_X5_finding
set_option maxRecDepth 20000 in
theorem ggX5_hours_X5_isTime : GoodIn wsX5_hours wsX5_isTime := goodIn_r _ [15, 1, 52, 53, 54, 55, 56, 57, 58, 59, 60, 61, 62, 63, 64, 65, 66, 67, 68] (by decide +kernel) (by decide +kernel)
set_option maxRecDepth 20000 in
theorem gX5_hours_X5_isTime : GoodIn wsX5_hours (wsV RX5 118 RX5 yX5_isTime wsX5_isTime) := goodIn_app (goodIn_of _ (by decide +kernel)) ggX5_hours_X5_isTime
set_option maxRecDepth 20000 in
theorem ggX5_hours_X5_anHour : GoodIn wsX5_hours wsX5_anHour := goodIn_r _ [19, 20, 21, 22, 4, 23, 24, 25, 26, 27, 28, 29, 30, 31, 32, 33, 34, 35, 36, 37, 38, 39, 40, 41, 42, 43, 44, 45, 46, 47, 48, 49, 50, 51, 52, 53, 54, 55, 56, 57, 58, 59, 60, 61, 62, 63, 64, 65, 66, 67, 68] (by decide +kernel) (by decide +kernel)
set_option maxRecDepth 20000 in
theorem gX5_hours_X5_anHour : GoodIn wsX5_hours (wsV RX5 91 RX5 yX5_anHour wsX5_anHour) := goodIn_app (goodIn_of _ (by decide +kernel)) ggX5_hours_X5_anHour
theorem dX5_hours_0 : decode cX5_hours 0 = .ok (.iload_n 1, 1) := by decide +kernel
theorem dX5_hours_1 : decode cX5_hours 1 = .ok (.iconst 1, 1) := by decide +kernel
theorem dX5_hours_2 : decode cX5_hours 2 = .ok (.bipush 100, 2) := by decide +kernel
theorem dX5_hours_4 : decode cX5_hours 4 = .ok (.invokestatic 44, 3) := by decide +kernel
theorem dX5_hours_7 : decode cX5_hours 7 = .ok (.ifCond .ne 9, 3) := by decide +kernel
theorem dX5_hours_10 : decode cX5_hours 10 = .ok (.aload_n 0, 1) := by decide +kernel
theorem dX5_hours_11 : decode cX5_hours 11 = .ok (.iconst 0, 1) := by decide +kernel
theorem dX5_hours_12 : decode cX5_hours 12 = .ok (.invokevirtual 105, 3) := by decide +kernel
theorem dX5_hours_15 : decode cX5_hours 15 = .ok (.ireturn, 1) := by decide +kernel
theorem dX5_hours_16 : decode cX5_hours 16 = .ok (.aload_n 0, 1) := by decide +kernel
theorem dX5_hours_17 : decode cX5_hours 17 = .ok (.iload_n 1, 1) := by decide +kernel
theorem dX5_hours_18 : decode cX5_hours 18 = .ok (.invokevirtual 118, 3) := by decide +kernel
theorem dX5_hours_21 : decode cX5_hours 21 = .ok (.ifCond .ne 9, 3) := by decide +kernel
theorem dX5_hours_24 : decode cX5_hours 24 = .ok (.aload_n 0, 1) := by decide +kernel
theorem dX5_hours_25 : decode cX5_hours 25 = .ok (.iconst 4, 1) := by decide +kernel
theorem dX5_hours_26 : decode cX5_hours 26 = .ok (.invokevirtual 105, 3) := by decide +kernel
theorem dX5_hours_29 : decode cX5_hours 29 = .ok (.ireturn, 1) := by decide +kernel
theorem dX5_hours_30 : decode cX5_hours 30 = .ok (.iconst 0, 1) := by decide +kernel
theorem dX5_hours_31 : decode cX5_hours 31 = .ok (.istore_n 2, 1) := by decide +kernel
theorem dX5_hours_32 : decode cX5_hours 32 = .ok (.iconst 0, 1) := by decide +kernel
theorem dX5_hours_33 : decode cX5_hours 33 = .ok (.istore_n 3, 1) := by decide +kernel
theorem dX5_hours_34 : decode cX5_hours 34 = .ok (.iload_n 3, 1) := by decide +kernel
theorem dX5_hours_35 : decode cX5_hours 35 = .ok (.iload_n 1, 1) := by decide +kernel
theorem dX5_hours_36 : decode cX5_hours 36 = .ok (.if_icmp .ge 20, 3) := by decide +kernel
theorem dX5_hours_39 : decode cX5_hours 39 = .ok (.iload_n 2, 1) := by decide +kernel
theorem dX5_hours_40 : decode cX5_hours 40 = .ok (.aload_n 0, 1) := by decide +kernel
theorem dX5_hours_41 : decode cX5_hours 41 = .ok (.aload_n 0, 1) := by decide +kernel
theorem dX5_hours_42 : decode cX5_hours 42 = .ok (.getfield 9, 3) := by decide +kernel
theorem dX5_hours_45 : decode cX5_hours 45 = .ok (.invokevirtual 91, 3) := by decide +kernel
theorem dX5_hours_48 : decode cX5_hours 48 = .ok (.iadd, 1) := by decide +kernel
theorem dX5_hours_49 : decode cX5_hours 49 = .ok (.istore_n 2, 1) := by decide +kernel
theorem dX5_hours_50 : decode cX5_hours 50 = .ok (.iinc 3 1, 3) := by decide +kernel
theorem dX5_hours_53 : decode cX5_hours 53 = .ok (.goto (-19), 3) := by decide +kernel
theorem dX5_hours_56 : decode cX5_hours 56 = .ok (.iload_n 2, 1) := by decide +kernel
theorem dX5_hours_57 : decode cX5_hours 57 = .ok (.ireturn, 1) := by decide +kernel
set_option maxRecDepth 20000 in
theorem ggX5_hottest_X5_heatOf : GoodIn wsX5_hottest wsX5_heatOf := goodIn_r _ [5, 6, 7, 4, 8, 9, 10, 11, 12] (by decide +kernel) (by decide +kernel)
set_option maxRecDepth 20000 in
theorem gX5_hottest_X5_heatOf : GoodIn wsX5_hottest (va_wsS RX5 70 yX5_heatOf wsX5_heatOf) := goodIn_app (goodIn_of _ (by decide +kernel)) ggX5_hottest_X5_heatOf
theorem dX5_hottest_0 : decode cX5_hottest 0 = .ok (.iconst 0, 1) := by decide +kernel
theorem dX5_hottest_1 : decode cX5_hottest 1 = .ok (.istore_n 1, 1) := by decide +kernel
theorem dX5_hottest_2 : decode cX5_hottest 2 = .ok (.iconst 1, 1) := by decide +kernel
theorem dX5_hottest_3 : decode cX5_hottest 3 = .ok (.istore_n 2, 1) := by decide +kernel
theorem dX5_hottest_4 : decode cX5_hottest 4 = .ok (.iload_n 2, 1) := by decide +kernel
theorem dX5_hottest_5 : decode cX5_hottest 5 = .ok (.bipush 6, 2) := by decide +kernel
theorem dX5_hottest_7 : decode cX5_hottest 7 = .ok (.if_icmp .ge 46, 3) := by decide +kernel
theorem dX5_hottest_10 : decode cX5_hottest 10 = .ok (.aload_n 0, 1) := by decide +kernel
theorem dX5_hottest_11 : decode cX5_hottest 11 = .ok (.getfield 9, 3) := by decide +kernel
theorem dX5_hottest_14 : decode cX5_hottest 14 = .ok (.iload_n 2, 1) := by decide +kernel
theorem dX5_hottest_15 : decode cX5_hottest 15 = .ok (.aload_n 0, 1) := by decide +kernel
theorem dX5_hottest_16 : decode cX5_hottest 16 = .ok (.getfield 9, 3) := by decide +kernel
theorem dX5_hottest_19 : decode cX5_hottest 19 = .ok (.iconst 2, 1) := by decide +kernel
theorem dX5_hottest_20 : decode cX5_hottest 20 = .ok (.iaload, 1) := by decide +kernel
theorem dX5_hottest_21 : decode cX5_hottest 21 = .ok (.invokestatic 70, 3) := by decide +kernel
theorem dX5_hottest_24 : decode cX5_hottest 24 = .ok (.aload_n 0, 1) := by decide +kernel
theorem dX5_hottest_25 : decode cX5_hottest 25 = .ok (.getfield 9, 3) := by decide +kernel
theorem dX5_hottest_28 : decode cX5_hottest 28 = .ok (.iload_n 1, 1) := by decide +kernel
theorem dX5_hottest_29 : decode cX5_hottest 29 = .ok (.aload_n 0, 1) := by decide +kernel
theorem dX5_hottest_30 : decode cX5_hottest 30 = .ok (.getfield 9, 3) := by decide +kernel
theorem dX5_hottest_33 : decode cX5_hottest 33 = .ok (.iconst 2, 1) := by decide +kernel
theorem dX5_hottest_34 : decode cX5_hottest 34 = .ok (.iaload, 1) := by decide +kernel
theorem dX5_hottest_35 : decode cX5_hottest 35 = .ok (.invokestatic 70, 3) := by decide +kernel
theorem dX5_hottest_38 : decode cX5_hottest 38 = .ok (.if_icmp .le 7, 3) := by decide +kernel
theorem dX5_hottest_41 : decode cX5_hottest 41 = .ok (.iload_n 2, 1) := by decide +kernel
theorem dX5_hottest_42 : decode cX5_hottest 42 = .ok (.goto 4, 3) := by decide +kernel
theorem dX5_hottest_45 : decode cX5_hottest 45 = .ok (.iload_n 1, 1) := by decide +kernel
theorem dX5_hottest_46 : decode cX5_hottest 46 = .ok (.istore_n 1, 1) := by decide +kernel
theorem dX5_hottest_47 : decode cX5_hottest 47 = .ok (.iinc 2 1, 3) := by decide +kernel
theorem dX5_hottest_50 : decode cX5_hottest 50 = .ok (.goto (-46), 3) := by decide +kernel
theorem dX5_hottest_53 : decode cX5_hottest 53 = .ok (.iload_n 1, 1) := by decide +kernel
theorem dX5_hottest_54 : decode cX5_hottest 54 = .ok (.ireturn, 1) := by decide +kernel
set_option maxRecDepth 20000 in
theorem ggX5_now_X5_holding : GoodIn wsX5_now wsX5_holding := goodIn_r _ [5, 6, 7, 4, 8] (by decide +kernel) (by decide +kernel)
set_option maxRecDepth 20000 in
theorem gX5_now_X5_holding : GoodIn wsX5_now (va_wsS RX5 95 yX5_holding wsX5_holding) := goodIn_app (goodIn_of _ (by decide +kernel)) ggX5_now_X5_holding
set_option maxRecDepth 20000 in
theorem ggX5_now_X5_ran : GoodIn wsX5_now wsX5_ran := goodIn_r _ [11] (by decide +kernel) (by decide +kernel)
set_option maxRecDepth 20000 in
theorem gX5_now_X5_ran : GoodIn wsX5_now (va_wsS RX5 121 yX5_ran wsX5_ran) := goodIn_app (goodIn_of _ (by decide +kernel)) ggX5_now_X5_ran
set_option maxRecDepth 20000 in
theorem ggX5_now_X5_sumOf : GoodIn wsX5_now wsX5_sumOf := goodIn_r _ [14] (by decide +kernel) (by decide +kernel)
set_option maxRecDepth 20000 in
theorem gX5_now_X5_sumOf : GoodIn wsX5_now (va_wsS RX5 124 yX5_sumOf wsX5_sumOf) := goodIn_app (goodIn_of _ (by decide +kernel)) ggX5_now_X5_sumOf
set_option maxRecDepth 20000 in
theorem ggX5_now_X5_hottest : GoodIn wsX5_now wsX5_hottest := goodIn_r _ [18, 1, 19, 20, 4, 21, 22, 23, 24, 25, 26, 27, 28, 35, 36, 37, 38, 39, 40, 41, 42, 43, 44, 45, 46, 47, 48, 49, 50, 51] (by decide +kernel) (by decide +kernel)
set_option maxRecDepth 20000 in
theorem gX5_now_X5_hottest : GoodIn wsX5_now (wsV RX5 127 RX5 yX5_hottest wsX5_hottest) := goodIn_app (goodIn_of _ (by decide +kernel)) ggX5_now_X5_hottest
set_option maxRecDepth 20000 in
theorem ggX5_now_X5_finding : GoodIn wsX5_now wsX5_finding := goodIn_r _ [32, 33, 34, 35, 36, 37, 38, 39, 40, 41, 42, 43, 44, 45, 46, 47, 48, 49, 50, 51] (by decide +kernel) (by decide +kernel)
set_option maxRecDepth 20000 in
theorem gX5_now_X5_finding : GoodIn wsX5_now (wsV RX5 105 RX5 yX5_finding wsX5_finding) := goodIn_app (goodIn_of _ (by decide +kernel)) ggX5_now_X5_finding
theorem dX5_now_0 : decode cX5_now 0 = .ok (.iload_n 1, 1) := by decide +kernel
theorem dX5_now_1 : decode cX5_now 1 = .ok (.tableswitch 106 0 6 #[43, 50, 58, 66, 82, 94, 99], 43) := by decide +kernel
theorem dX5_now_44 : decode cX5_now 44 = .ok (.aload_n 0, 1) := by decide +kernel
theorem dX5_now_45 : decode cX5_now 45 = .ok (.getfield 9, 3) := by decide +kernel
theorem dX5_now_48 : decode cX5_now 48 = .ok (.iconst 2, 1) := by decide +kernel
theorem dX5_now_49 : decode cX5_now 49 = .ok (.iaload, 1) := by decide +kernel
theorem dX5_now_50 : decode cX5_now 50 = .ok (.ireturn, 1) := by decide +kernel
theorem dX5_now_51 : decode cX5_now 51 = .ok (.aload_n 0, 1) := by decide +kernel
theorem dX5_now_52 : decode cX5_now 52 = .ok (.getfield 9, 3) := by decide +kernel
theorem dX5_now_55 : decode cX5_now 55 = .ok (.invokestatic 95, 3) := by decide +kernel
theorem dX5_now_58 : decode cX5_now 58 = .ok (.ireturn, 1) := by decide +kernel
theorem dX5_now_59 : decode cX5_now 59 = .ok (.aload_n 0, 1) := by decide +kernel
theorem dX5_now_60 : decode cX5_now 60 = .ok (.getfield 9, 3) := by decide +kernel
theorem dX5_now_63 : decode cX5_now 63 = .ok (.invokestatic 121, 3) := by decide +kernel
theorem dX5_now_66 : decode cX5_now 66 = .ok (.ireturn, 1) := by decide +kernel
theorem dX5_now_67 : decode cX5_now 67 = .ok (.aload_n 0, 1) := by decide +kernel
theorem dX5_now_68 : decode cX5_now 68 = .ok (.getfield 9, 3) := by decide +kernel
theorem dX5_now_71 : decode cX5_now 71 = .ok (.bipush 56, 2) := by decide +kernel
theorem dX5_now_73 : decode cX5_now 73 = .ok (.aload_n 0, 1) := by decide +kernel
theorem dX5_now_74 : decode cX5_now 74 = .ok (.getfield 9, 3) := by decide +kernel
theorem dX5_now_77 : decode cX5_now 77 = .ok (.iconst 0, 1) := by decide +kernel
theorem dX5_now_78 : decode cX5_now 78 = .ok (.iaload, 1) := by decide +kernel
theorem dX5_now_79 : decode cX5_now 79 = .ok (.invokestatic 124, 3) := by decide +kernel
theorem dX5_now_82 : decode cX5_now 82 = .ok (.ireturn, 1) := by decide +kernel
theorem dX5_now_83 : decode cX5_now 83 = .ok (.aload_n 0, 1) := by decide +kernel
theorem dX5_now_84 : decode cX5_now 84 = .ok (.getfield 9, 3) := by decide +kernel
theorem dX5_now_87 : decode cX5_now 87 = .ok (.bipush 10, 2) := by decide +kernel
theorem dX5_now_89 : decode cX5_now 89 = .ok (.bipush 6, 2) := by decide +kernel
theorem dX5_now_91 : decode cX5_now 91 = .ok (.invokestatic 124, 3) := by decide +kernel
theorem dX5_now_94 : decode cX5_now 94 = .ok (.ireturn, 1) := by decide +kernel
theorem dX5_now_95 : decode cX5_now 95 = .ok (.aload_n 0, 1) := by decide +kernel
theorem dX5_now_96 : decode cX5_now 96 = .ok (.invokevirtual 127, 3) := by decide +kernel
theorem dX5_now_99 : decode cX5_now 99 = .ok (.ireturn, 1) := by decide +kernel
theorem dX5_now_100 : decode cX5_now 100 = .ok (.aload_n 0, 1) := by decide +kernel
theorem dX5_now_101 : decode cX5_now 101 = .ok (.getfield 9, 3) := by decide +kernel
theorem dX5_now_104 : decode cX5_now 104 = .ok (.iconst 1, 1) := by decide +kernel
theorem dX5_now_105 : decode cX5_now 105 = .ok (.iaload, 1) := by decide +kernel
theorem dX5_now_106 : decode cX5_now 106 = .ok (.ireturn, 1) := by decide +kernel
theorem dX5_now_107 : decode cX5_now 107 = .ok (.aload_n 0, 1) := by decide +kernel
theorem dX5_now_108 : decode cX5_now 108 = .ok (.iconst 0, 1) := by decide +kernel
theorem dX5_now_109 : decode cX5_now 109 = .ok (.invokevirtual 105, 3) := by decide +kernel
theorem dX5_now_112 : decode cX5_now 112 = .ok (.ireturn, 1) := by decide +kernel
set_option maxRecDepth 20000 in
theorem ggX5_ahead_X5_within : GoodIn wsX5_ahead wsX5_within := goodIn_r _ [6] (by decide +kernel) (by decide +kernel)
set_option maxRecDepth 20000 in
theorem gX5_ahead_X5_within : GoodIn wsX5_ahead (va_wsS RX5 44 yX5_within wsX5_within) := goodIn_app (goodIn_of _ (by decide +kernel)) ggX5_ahead_X5_within
set_option maxRecDepth 20000 in
theorem ggX5_ahead_X5_finding : GoodIn wsX5_ahead wsX5_finding := goodIn_r _ [10, 11, 12, 72, 73, 74, 75, 76, 77, 78, 79, 80, 81, 82, 83, 84, 85, 86, 87, 88] (by decide +kernel) (by decide +kernel)
set_option maxRecDepth 20000 in
theorem gX5_ahead_X5_finding : GoodIn wsX5_ahead (wsV RX5 105 RX5 yX5_finding wsX5_finding) := goodIn_app (goodIn_of _ (by decide +kernel)) ggX5_ahead_X5_finding
set_option maxRecDepth 20000 in
theorem ggX5_ahead_X5_isTime : GoodIn wsX5_ahead wsX5_isTime := goodIn_r _ [16, 1, 72, 73, 74, 75, 76, 77, 78, 79, 80, 81, 82, 83, 84, 85, 86, 87, 88] (by decide +kernel) (by decide +kernel)
set_option maxRecDepth 20000 in
theorem gX5_ahead_X5_isTime : GoodIn wsX5_ahead (wsV RX5 118 RX5 yX5_isTime wsX5_isTime) := goodIn_app (goodIn_of _ (by decide +kernel)) ggX5_ahead_X5_isTime
set_option maxRecDepth 20000 in
theorem ggX5_ahead_X5_row : GoodIn wsX5_ahead wsX5_row := goodIn_r _ [19] (by decide +kernel) (by decide +kernel)
set_option maxRecDepth 20000 in
theorem gX5_ahead_X5_row : GoodIn wsX5_ahead (va_wsS RX5 131 yX5_row wsX5_row) := goodIn_app (goodIn_of _ (by decide +kernel)) ggX5_ahead_X5_row
set_option maxRecDepth 20000 in
theorem ggX5_ahead_X5_holdingBehind : GoodIn wsX5_ahead wsX5_holdingBehind := goodIn_r _ [23, 2, 24, 25, 26, 5, 27, 28, 29, 30, 31, 32, 33, 34, 35, 36, 37, 38, 39, 40, 41, 42, 43, 44, 45, 46, 47, 48, 49, 50, 51, 52, 53, 54, 55, 56, 57, 58, 59, 60, 61, 62, 63, 64, 65, 72, 73, 74, 75, 76, 77, 78, 79, 80, 81, 82, 83, 84, 85, 86, 87, 88] (by decide +kernel) (by decide +kernel)
set_option maxRecDepth 20000 in
theorem gX5_ahead_X5_holdingBehind : GoodIn wsX5_ahead (wsV RX5 135 RX5 yX5_holdingBehind wsX5_holdingBehind) := goodIn_app (goodIn_of _ (by decide +kernel)) ggX5_ahead_X5_holdingBehind
set_option maxRecDepth 20000 in
theorem ggX5_ahead_X5_ran : GoodIn wsX5_ahead wsX5_ran := goodIn_r _ [68] (by decide +kernel) (by decide +kernel)
set_option maxRecDepth 20000 in
theorem gX5_ahead_X5_ran : GoodIn wsX5_ahead (va_wsS RX5 121 yX5_ran wsX5_ran) := goodIn_app (goodIn_of _ (by decide +kernel)) ggX5_ahead_X5_ran
set_option maxRecDepth 20000 in
theorem ggX5_ahead_X5_sumOf : GoodIn wsX5_ahead wsX5_sumOf := goodIn_r _ [71] (by decide +kernel) (by decide +kernel)
set_option maxRecDepth 20000 in
theorem gX5_ahead_X5_sumOf : GoodIn wsX5_ahead (va_wsS RX5 124 yX5_sumOf wsX5_sumOf) := goodIn_app (goodIn_of _ (by decide +kernel)) ggX5_ahead_X5_sumOf
theorem dX5_ahead_0 : decode cX5_ahead 0 = .ok (.iload_n 1, 1) := by decide +kernel
theorem dX5_ahead_1 : decode cX5_ahead 1 = .ok (.iconst 0, 1) := by decide +kernel
theorem dX5_ahead_2 : decode cX5_ahead 2 = .ok (.bipush 100, 2) := by decide +kernel
theorem dX5_ahead_4 : decode cX5_ahead 4 = .ok (.invokestatic 44, 3) := by decide +kernel
theorem dX5_ahead_7 : decode cX5_ahead 7 = .ok (.ifCond .eq 19, 3) := by decide +kernel
theorem dX5_ahead_10 : decode cX5_ahead 10 = .ok (.iload_n 2, 1) := by decide +kernel
theorem dX5_ahead_11 : decode cX5_ahead 11 = .ok (.iconst 0, 1) := by decide +kernel
theorem dX5_ahead_12 : decode cX5_ahead 12 = .ok (.iconst 2, 1) := by decide +kernel
theorem dX5_ahead_13 : decode cX5_ahead 13 = .ok (.aload_n 0, 1) := by decide +kernel
theorem dX5_ahead_14 : decode cX5_ahead 14 = .ok (.getfield 9, 3) := by decide +kernel
theorem dX5_ahead_17 : decode cX5_ahead 17 = .ok (.iconst 0, 1) := by decide +kernel
theorem dX5_ahead_18 : decode cX5_ahead 18 = .ok (.iaload, 1) := by decide +kernel
theorem dX5_ahead_19 : decode cX5_ahead 19 = .ok (.iadd, 1) := by decide +kernel
theorem dX5_ahead_20 : decode cX5_ahead 20 = .ok (.invokestatic 44, 3) := by decide +kernel
theorem dX5_ahead_23 : decode cX5_ahead 23 = .ok (.ifCond .ne 9, 3) := by decide +kernel
theorem dX5_ahead_26 : decode cX5_ahead 26 = .ok (.aload_n 0, 1) := by decide +kernel
theorem dX5_ahead_27 : decode cX5_ahead 27 = .ok (.iconst 0, 1) := by decide +kernel
theorem dX5_ahead_28 : decode cX5_ahead 28 = .ok (.invokevirtual 105, 3) := by decide +kernel
theorem dX5_ahead_31 : decode cX5_ahead 31 = .ok (.ireturn, 1) := by decide +kernel
theorem dX5_ahead_32 : decode cX5_ahead 32 = .ok (.aload_n 0, 1) := by decide +kernel
theorem dX5_ahead_33 : decode cX5_ahead 33 = .ok (.iload_n 1, 1) := by decide +kernel
theorem dX5_ahead_34 : decode cX5_ahead 34 = .ok (.invokevirtual 118, 3) := by decide +kernel
theorem dX5_ahead_37 : decode cX5_ahead 37 = .ok (.ifCond .ne 9, 3) := by decide +kernel
theorem dX5_ahead_40 : decode cX5_ahead 40 = .ok (.aload_n 0, 1) := by decide +kernel
theorem dX5_ahead_41 : decode cX5_ahead 41 = .ok (.iconst 4, 1) := by decide +kernel
theorem dX5_ahead_42 : decode cX5_ahead 42 = .ok (.invokevirtual 105, 3) := by decide +kernel
theorem dX5_ahead_45 : decode cX5_ahead 45 = .ok (.ireturn, 1) := by decide +kernel
theorem dX5_ahead_46 : decode cX5_ahead 46 = .ok (.aload_n 0, 1) := by decide +kernel
theorem dX5_ahead_47 : decode cX5_ahead 47 = .ok (.getfield 9, 3) := by decide +kernel
theorem dX5_ahead_50 : decode cX5_ahead 50 = .ok (.aload_n 0, 1) := by decide +kernel
theorem dX5_ahead_51 : decode cX5_ahead 51 = .ok (.getfield 16, 3) := by decide +kernel
theorem dX5_ahead_54 : decode cX5_ahead 54 = .ok (.invokestatic 131, 3) := by decide +kernel
theorem dX5_ahead_57 : decode cX5_ahead 57 = .ok (.aload_n 0, 1) := by decide +kernel
theorem dX5_ahead_58 : decode cX5_ahead 58 = .ok (.iload_n 1, 1) := by decide +kernel
theorem dX5_ahead_59 : decode cX5_ahead 59 = .ok (.invokevirtual 135, 3) := by decide +kernel
theorem dX5_ahead_62 : decode cX5_ahead 62 = .ok (.istore_n 3, 1) := by decide +kernel
theorem dX5_ahead_63 : decode cX5_ahead 63 = .ok (.iload_n 2, 1) := by decide +kernel
theorem dX5_ahead_64 : decode cX5_ahead 64 = .ok (.ifCond .ne 7, 3) := by decide +kernel
theorem dX5_ahead_67 : decode cX5_ahead 67 = .ok (.iload_n 3, 1) := by decide +kernel
theorem dX5_ahead_68 : decode cX5_ahead 68 = .ok (.goto 48, 3) := by decide +kernel
theorem dX5_ahead_71 : decode cX5_ahead 71 = .ok (.iload_n 2, 1) := by decide +kernel
theorem dX5_ahead_72 : decode cX5_ahead 72 = .ok (.iconst 1, 1) := by decide +kernel
theorem dX5_ahead_73 : decode cX5_ahead 73 = .ok (.if_icmp .ne 13, 3) := by decide +kernel
theorem dX5_ahead_76 : decode cX5_ahead 76 = .ok (.aload_n 0, 1) := by decide +kernel
theorem dX5_ahead_77 : decode cX5_ahead 77 = .ok (.getfield 16, 3) := by decide +kernel
theorem dX5_ahead_80 : decode cX5_ahead 80 = .ok (.invokestatic 121, 3) := by decide +kernel
theorem dX5_ahead_83 : decode cX5_ahead 83 = .ok (.goto 33, 3) := by decide +kernel
theorem dX5_ahead_86 : decode cX5_ahead 86 = .ok (.iload_n 2, 1) := by decide +kernel
theorem dX5_ahead_87 : decode cX5_ahead 87 = .ok (.iconst 2, 1) := by decide +kernel
theorem dX5_ahead_88 : decode cX5_ahead 88 = .ok (.if_icmp .ne 17, 3) := by decide +kernel
theorem dX5_ahead_91 : decode cX5_ahead 91 = .ok (.aload_n 0, 1) := by decide +kernel
theorem dX5_ahead_92 : decode cX5_ahead 92 = .ok (.getfield 16, 3) := by decide +kernel
theorem dX5_ahead_95 : decode cX5_ahead 95 = .ok (.bipush 10, 2) := by decide +kernel
theorem dX5_ahead_97 : decode cX5_ahead 97 = .ok (.bipush 6, 2) := by decide +kernel
theorem dX5_ahead_99 : decode cX5_ahead 99 = .ok (.invokestatic 124, 3) := by decide +kernel
theorem dX5_ahead_102 : decode cX5_ahead 102 = .ok (.goto 14, 3) := by decide +kernel
theorem dX5_ahead_105 : decode cX5_ahead 105 = .ok (.aload_n 0, 1) := by decide +kernel
theorem dX5_ahead_106 : decode cX5_ahead 106 = .ok (.getfield 16, 3) := by decide +kernel
theorem dX5_ahead_109 : decode cX5_ahead 109 = .ok (.bipush 56, 2) := by decide +kernel
theorem dX5_ahead_111 : decode cX5_ahead 111 = .ok (.iload_n 2, 1) := by decide +kernel
theorem dX5_ahead_112 : decode cX5_ahead 112 = .ok (.iadd, 1) := by decide +kernel
theorem dX5_ahead_113 : decode cX5_ahead 113 = .ok (.iconst 3, 1) := by decide +kernel
theorem dX5_ahead_114 : decode cX5_ahead 114 = .ok (.isub, 1) := by decide +kernel
theorem dX5_ahead_115 : decode cX5_ahead 115 = .ok (.iaload, 1) := by decide +kernel
theorem dX5_ahead_116 : decode cX5_ahead 116 = .ok (.ireturn, 1) := by decide +kernel
set_option maxRecDepth 20000 in
theorem ggX5_endOf_X5_holds : GoodIn wsX5_endOf wsX5_holds := goodIn_r _ [5] (by decide +kernel) (by decide +kernel)
set_option maxRecDepth 20000 in
theorem gX5_endOf_X5_holds : GoodIn wsX5_endOf (va_wsS RX5 87 yX5_holds wsX5_holds) := goodIn_app (goodIn_of _ (by decide +kernel)) ggX5_endOf_X5_holds
set_option maxRecDepth 20000 in
theorem ggX5_endOf_X5_anHour : GoodIn wsX5_endOf wsX5_anHour := goodIn_r _ [9, 10, 11, 12, 4, 13, 14, 15, 16, 17, 18, 19, 20, 21, 22, 23, 24, 25, 26, 27, 28, 29, 30, 31, 32, 33, 34, 35, 36, 37, 38, 39, 40, 41, 42, 43, 44, 45, 46, 47, 48, 49, 50, 51, 52, 53, 54, 55, 56, 57, 58] (by decide +kernel) (by decide +kernel)
set_option maxRecDepth 20000 in
theorem gX5_endOf_X5_anHour : GoodIn wsX5_endOf (wsV RX5 91 RX5 yX5_anHour wsX5_anHour) := goodIn_app (goodIn_of _ (by decide +kernel)) ggX5_endOf_X5_anHour
theorem dX5_endOf_0 : decode cX5_endOf 0 = .ok (.iconst 0, 1) := by decide +kernel
theorem dX5_endOf_1 : decode cX5_endOf 1 = .ok (.istore_n 2, 1) := by decide +kernel
theorem dX5_endOf_2 : decode cX5_endOf 2 = .ok (.iload_n 2, 1) := by decide +kernel
theorem dX5_endOf_3 : decode cX5_endOf 3 = .ok (.bipush 100, 2) := by decide +kernel
theorem dX5_endOf_5 : decode cX5_endOf 5 = .ok (.if_icmp .gt 29, 3) := by decide +kernel
theorem dX5_endOf_8 : decode cX5_endOf 8 = .ok (.aload_n 0, 1) := by decide +kernel
theorem dX5_endOf_9 : decode cX5_endOf 9 = .ok (.getfield 16, 3) := by decide +kernel
theorem dX5_endOf_12 : decode cX5_endOf 12 = .ok (.iload_n 1, 1) := by decide +kernel
theorem dX5_endOf_13 : decode cX5_endOf 13 = .ok (.invokestatic 87, 3) := by decide +kernel
theorem dX5_endOf_16 : decode cX5_endOf 16 = .ok (.ifCond .eq 18, 3) := by decide +kernel
theorem dX5_endOf_19 : decode cX5_endOf 19 = .ok (.aload_n 0, 1) := by decide +kernel
theorem dX5_endOf_20 : decode cX5_endOf 20 = .ok (.aload_n 0, 1) := by decide +kernel
theorem dX5_endOf_21 : decode cX5_endOf 21 = .ok (.getfield 16, 3) := by decide +kernel
theorem dX5_endOf_24 : decode cX5_endOf 24 = .ok (.invokevirtual 91, 3) := by decide +kernel
theorem dX5_endOf_27 : decode cX5_endOf 27 = .ok (.istore_n 3, 1) := by decide +kernel
theorem dX5_endOf_28 : decode cX5_endOf 28 = .ok (.iinc 2 1, 3) := by decide +kernel
theorem dX5_endOf_31 : decode cX5_endOf 31 = .ok (.goto (-29), 3) := by decide +kernel
theorem dX5_endOf_34 : decode cX5_endOf 34 = .ok (.iload_n 2, 1) := by decide +kernel
theorem dX5_endOf_35 : decode cX5_endOf 35 = .ok (.ireturn, 1) := by decide +kernel
set_option maxRecDepth 20000 in
theorem ggX5_ends_X5_isDeed : GoodIn wsX5_ends wsX5_isDeed := goodIn_r _ [7, 1, 8, 9, 6, 10, 67, 68, 69, 70, 71, 72, 73, 74, 75, 76, 77, 78, 79, 80, 81, 82, 83] (by decide +kernel) (by decide +kernel)
set_option maxRecDepth 20000 in
theorem gX5_ends_X5_isDeed : GoodIn wsX5_ends (wsV RX5 112 RX5 yX5_isDeed wsX5_isDeed) := goodIn_app (goodIn_of _ (by decide +kernel)) ggX5_ends_X5_isDeed
set_option maxRecDepth 20000 in
theorem ggX5_ends_X5_finding : GoodIn wsX5_ends wsX5_finding := goodIn_r _ [14, 15, 16, 67, 68, 69, 70, 71, 72, 73, 74, 75, 76, 77, 78, 79, 80, 81, 82, 83] (by decide +kernel) (by decide +kernel)
set_option maxRecDepth 20000 in
theorem gX5_ends_X5_finding : GoodIn wsX5_ends (wsV RX5 105 RX5 yX5_finding wsX5_finding) := goodIn_app (goodIn_of _ (by decide +kernel)) ggX5_ends_X5_finding
set_option maxRecDepth 20000 in
theorem ggX5_ends_X5_isTime : GoodIn wsX5_ends wsX5_isTime := goodIn_r _ [20, 1, 67, 68, 69, 70, 71, 72, 73, 74, 75, 76, 77, 78, 79, 80, 81, 82, 83] (by decide +kernel) (by decide +kernel)
set_option maxRecDepth 20000 in
theorem gX5_ends_X5_isTime : GoodIn wsX5_ends (wsV RX5 118 RX5 yX5_isTime wsX5_isTime) := goodIn_app (goodIn_of _ (by decide +kernel)) ggX5_ends_X5_isTime
set_option maxRecDepth 20000 in
theorem ggX5_ends_X5_row : GoodIn wsX5_ends wsX5_row := goodIn_r _ [23] (by decide +kernel) (by decide +kernel)
set_option maxRecDepth 20000 in
theorem gX5_ends_X5_row : GoodIn wsX5_ends (va_wsS RX5 131 yX5_row wsX5_row) := goodIn_app (goodIn_of _ (by decide +kernel)) ggX5_ends_X5_row
set_option maxRecDepth 20000 in
theorem ggX5_ends_X5_endOf : GoodIn wsX5_ends wsX5_endOf := goodIn_r _ [27, 2, 28, 29, 6, 30, 31, 32, 33, 34, 35, 36, 37, 38, 39, 40, 41, 42, 43, 44, 45, 46, 47, 48, 49, 50, 51, 52, 53, 54, 55, 56, 57, 58, 59, 60, 61, 62, 63, 64, 65, 66, 67, 68, 69, 70, 71, 72, 73, 74, 75, 76, 77, 78, 79, 80, 81, 82, 83] (by decide +kernel) (by decide +kernel)
set_option maxRecDepth 20000 in
theorem gX5_ends_X5_endOf : GoodIn wsX5_ends (wsV RX5 138 RX5 yX5_endOf wsX5_endOf) := goodIn_app (goodIn_of _ (by decide +kernel)) ggX5_ends_X5_endOf
theorem dX5_ends_0 : decode cX5_ends 0 = .ok (.aload_n 0, 1) := by decide +kernel
theorem dX5_ends_1 : decode cX5_ends 1 = .ok (.iload_n 1, 1) := by decide +kernel
theorem dX5_ends_2 : decode cX5_ends 2 = .ok (.invokevirtual 112, 3) := by decide +kernel
theorem dX5_ends_5 : decode cX5_ends 5 = .ok (.ifCond .ne 9, 3) := by decide +kernel
theorem dX5_ends_8 : decode cX5_ends 8 = .ok (.aload_n 0, 1) := by decide +kernel
theorem dX5_ends_9 : decode cX5_ends 9 = .ok (.iconst 0, 1) := by decide +kernel
theorem dX5_ends_10 : decode cX5_ends 10 = .ok (.invokevirtual 105, 3) := by decide +kernel
theorem dX5_ends_13 : decode cX5_ends 13 = .ok (.ireturn, 1) := by decide +kernel
theorem dX5_ends_14 : decode cX5_ends 14 = .ok (.aload_n 0, 1) := by decide +kernel
theorem dX5_ends_15 : decode cX5_ends 15 = .ok (.bipush 100, 2) := by decide +kernel
theorem dX5_ends_17 : decode cX5_ends 17 = .ok (.invokevirtual 118, 3) := by decide +kernel
theorem dX5_ends_20 : decode cX5_ends 20 = .ok (.ifCond .ne 9, 3) := by decide +kernel
theorem dX5_ends_23 : decode cX5_ends 23 = .ok (.aload_n 0, 1) := by decide +kernel
theorem dX5_ends_24 : decode cX5_ends 24 = .ok (.iconst 4, 1) := by decide +kernel
theorem dX5_ends_25 : decode cX5_ends 25 = .ok (.invokevirtual 105, 3) := by decide +kernel
theorem dX5_ends_28 : decode cX5_ends 28 = .ok (.ireturn, 1) := by decide +kernel
theorem dX5_ends_29 : decode cX5_ends 29 = .ok (.aload_n 0, 1) := by decide +kernel
theorem dX5_ends_30 : decode cX5_ends 30 = .ok (.getfield 9, 3) := by decide +kernel
theorem dX5_ends_33 : decode cX5_ends 33 = .ok (.aload_n 0, 1) := by decide +kernel
theorem dX5_ends_34 : decode cX5_ends 34 = .ok (.getfield 16, 3) := by decide +kernel
theorem dX5_ends_37 : decode cX5_ends 37 = .ok (.invokestatic 131, 3) := by decide +kernel
theorem dX5_ends_40 : decode cX5_ends 40 = .ok (.aload_n 0, 1) := by decide +kernel
theorem dX5_ends_41 : decode cX5_ends 41 = .ok (.iload_n 1, 1) := by decide +kernel
theorem dX5_ends_42 : decode cX5_ends 42 = .ok (.invokevirtual 138, 3) := by decide +kernel
theorem dX5_ends_45 : decode cX5_ends 45 = .ok (.istore_n 2, 1) := by decide +kernel
theorem dX5_ends_46 : decode cX5_ends 46 = .ok (.iload_n 2, 1) := by decide +kernel
theorem dX5_ends_47 : decode cX5_ends 47 = .ok (.bipush 100, 2) := by decide +kernel
theorem dX5_ends_49 : decode cX5_ends 49 = .ok (.if_icmp .le 11, 3) := by decide +kernel
theorem dX5_ends_52 : decode cX5_ends 52 = .ok (.aload_n 0, 1) := by decide +kernel
theorem dX5_ends_53 : decode cX5_ends 53 = .ok (.iconst 3, 1) := by decide +kernel
theorem dX5_ends_54 : decode cX5_ends 54 = .ok (.invokevirtual 105, 3) := by decide +kernel
theorem dX5_ends_57 : decode cX5_ends 57 = .ok (.goto 4, 3) := by decide +kernel
theorem dX5_ends_60 : decode cX5_ends 60 = .ok (.iload_n 2, 1) := by decide +kernel
theorem dX5_ends_61 : decode cX5_ends 61 = .ok (.ireturn, 1) := by decide +kernel
set_option maxRecDepth 20000 in
theorem ggX5_soonest_X5_isTime : GoodIn wsX5_soonest wsX5_isTime := goodIn_r _ [7, 1, 60, 61, 62, 63, 64, 65, 66, 67, 68, 69, 70, 71, 72, 73, 74, 75, 76] (by decide +kernel) (by decide +kernel)
set_option maxRecDepth 20000 in
theorem gX5_soonest_X5_isTime : GoodIn wsX5_soonest (wsV RX5 118 RX5 yX5_isTime wsX5_isTime) := goodIn_app (goodIn_of _ (by decide +kernel)) ggX5_soonest_X5_isTime
set_option maxRecDepth 20000 in
theorem ggX5_soonest_X5_finding : GoodIn wsX5_soonest wsX5_finding := goodIn_r _ [11, 12, 13, 60, 61, 62, 63, 64, 65, 66, 67, 68, 69, 70, 71, 72, 73, 74, 75, 76] (by decide +kernel) (by decide +kernel)
set_option maxRecDepth 20000 in
theorem gX5_soonest_X5_finding : GoodIn wsX5_soonest (wsV RX5 105 RX5 yX5_finding wsX5_finding) := goodIn_app (goodIn_of _ (by decide +kernel)) ggX5_soonest_X5_finding
set_option maxRecDepth 20000 in
theorem ggX5_soonest_X5_row : GoodIn wsX5_soonest wsX5_row := goodIn_r _ [16] (by decide +kernel) (by decide +kernel)
set_option maxRecDepth 20000 in
theorem gX5_soonest_X5_row : GoodIn wsX5_soonest (va_wsS RX5 131 yX5_row wsX5_row) := goodIn_app (goodIn_of _ (by decide +kernel)) ggX5_soonest_X5_row
set_option maxRecDepth 20000 in
theorem ggX5_soonest_X5_endOf : GoodIn wsX5_soonest wsX5_endOf := goodIn_r _ [20, 2, 21, 22, 6, 23, 24, 25, 26, 27, 28, 29, 30, 31, 32, 33, 34, 35, 36, 37, 38, 39, 40, 41, 42, 43, 44, 45, 46, 47, 48, 49, 50, 51, 52, 53, 54, 55, 56, 57, 58, 59, 60, 61, 62, 63, 64, 65, 66, 67, 68, 69, 70, 71, 72, 73, 74, 75, 76] (by decide +kernel) (by decide +kernel)
set_option maxRecDepth 20000 in
theorem gX5_soonest_X5_endOf : GoodIn wsX5_soonest (wsV RX5 138 RX5 yX5_endOf wsX5_endOf) := goodIn_app (goodIn_of _ (by decide +kernel)) ggX5_soonest_X5_endOf
theorem dX5_soonest_0 : decode cX5_soonest 0 = .ok (.aload_n 0, 1) := by decide +kernel
theorem dX5_soonest_1 : decode cX5_soonest 1 = .ok (.bipush 100, 2) := by decide +kernel
theorem dX5_soonest_3 : decode cX5_soonest 3 = .ok (.invokevirtual 118, 3) := by decide +kernel
theorem dX5_soonest_6 : decode cX5_soonest 6 = .ok (.ifCond .ne 9, 3) := by decide +kernel
theorem dX5_soonest_9 : decode cX5_soonest 9 = .ok (.aload_n 0, 1) := by decide +kernel
theorem dX5_soonest_10 : decode cX5_soonest 10 = .ok (.iconst 4, 1) := by decide +kernel
theorem dX5_soonest_11 : decode cX5_soonest 11 = .ok (.invokevirtual 105, 3) := by decide +kernel
theorem dX5_soonest_14 : decode cX5_soonest 14 = .ok (.ireturn, 1) := by decide +kernel
theorem dX5_soonest_15 : decode cX5_soonest 15 = .ok (.iconst (-1), 1) := by decide +kernel
theorem dX5_soonest_16 : decode cX5_soonest 16 = .ok (.istore_n 1, 1) := by decide +kernel
theorem dX5_soonest_17 : decode cX5_soonest 17 = .ok (.bipush 101, 2) := by decide +kernel
theorem dX5_soonest_19 : decode cX5_soonest 19 = .ok (.istore_n 2, 1) := by decide +kernel
theorem dX5_soonest_20 : decode cX5_soonest 20 = .ok (.iconst 0, 1) := by decide +kernel
theorem dX5_soonest_21 : decode cX5_soonest 21 = .ok (.istore_n 3, 1) := by decide +kernel
theorem dX5_soonest_22 : decode cX5_soonest 22 = .ok (.iload_n 3, 1) := by decide +kernel
theorem dX5_soonest_23 : decode cX5_soonest 23 = .ok (.aload_n 0, 1) := by decide +kernel
theorem dX5_soonest_24 : decode cX5_soonest 24 = .ok (.getfield 9, 3) := by decide +kernel
theorem dX5_soonest_27 : decode cX5_soonest 27 = .ok (.iconst 0, 1) := by decide +kernel
theorem dX5_soonest_28 : decode cX5_soonest 28 = .ok (.iaload, 1) := by decide +kernel
theorem dX5_soonest_29 : decode cX5_soonest 29 = .ok (.if_icmp .ge 38, 3) := by decide +kernel
theorem dX5_soonest_32 : decode cX5_soonest 32 = .ok (.aload_n 0, 1) := by decide +kernel
theorem dX5_soonest_33 : decode cX5_soonest 33 = .ok (.getfield 9, 3) := by decide +kernel
theorem dX5_soonest_36 : decode cX5_soonest 36 = .ok (.aload_n 0, 1) := by decide +kernel
theorem dX5_soonest_37 : decode cX5_soonest 37 = .ok (.getfield 16, 3) := by decide +kernel
theorem dX5_soonest_40 : decode cX5_soonest 40 = .ok (.invokestatic 131, 3) := by decide +kernel
theorem dX5_soonest_43 : decode cX5_soonest 43 = .ok (.aload_n 0, 1) := by decide +kernel
theorem dX5_soonest_44 : decode cX5_soonest 44 = .ok (.iload_n 3, 1) := by decide +kernel
theorem dX5_soonest_45 : decode cX5_soonest 45 = .ok (.invokevirtual 138, 3) := by decide +kernel
theorem dX5_soonest_48 : decode cX5_soonest 48 = .ok (.istore 4, 2) := by decide +kernel
theorem dX5_soonest_50 : decode cX5_soonest 50 = .ok (.iload 4, 2) := by decide +kernel
theorem dX5_soonest_52 : decode cX5_soonest 52 = .ok (.iload_n 2, 1) := by decide +kernel
theorem dX5_soonest_53 : decode cX5_soonest 53 = .ok (.if_icmp .ge 8, 3) := by decide +kernel
theorem dX5_soonest_56 : decode cX5_soonest 56 = .ok (.iload_n 3, 1) := by decide +kernel
theorem dX5_soonest_57 : decode cX5_soonest 57 = .ok (.istore_n 1, 1) := by decide +kernel
theorem dX5_soonest_58 : decode cX5_soonest 58 = .ok (.iload 4, 2) := by decide +kernel
theorem dX5_soonest_60 : decode cX5_soonest 60 = .ok (.istore_n 2, 1) := by decide +kernel
theorem dX5_soonest_61 : decode cX5_soonest 61 = .ok (.iinc 3 1, 3) := by decide +kernel
theorem dX5_soonest_64 : decode cX5_soonest 64 = .ok (.goto (-42), 3) := by decide +kernel
theorem dX5_soonest_67 : decode cX5_soonest 67 = .ok (.iload_n 1, 1) := by decide +kernel
theorem dX5_soonest_68 : decode cX5_soonest 68 = .ok (.ifCond .ge 11, 3) := by decide +kernel
theorem dX5_soonest_71 : decode cX5_soonest 71 = .ok (.aload_n 0, 1) := by decide +kernel
theorem dX5_soonest_72 : decode cX5_soonest 72 = .ok (.iconst 3, 1) := by decide +kernel
theorem dX5_soonest_73 : decode cX5_soonest 73 = .ok (.invokevirtual 105, 3) := by decide +kernel
theorem dX5_soonest_76 : decode cX5_soonest 76 = .ok (.goto 4, 3) := by decide +kernel
theorem dX5_soonest_79 : decode cX5_soonest 79 = .ok (.iload_n 1, 1) := by decide +kernel
theorem dX5_soonest_80 : decode cX5_soonest 80 = .ok (.ireturn, 1) := by decide +kernel
set_option maxRecDepth 20000 in
theorem ggX5_longest_X5_row : GoodIn wsX5_longest wsX5_row := goodIn_r _ [6] (by decide +kernel) (by decide +kernel)
set_option maxRecDepth 20000 in
theorem gX5_longest_X5_row : GoodIn wsX5_longest (va_wsS RX5 131 yX5_row wsX5_row) := goodIn_app (goodIn_of _ (by decide +kernel)) ggX5_longest_X5_row
set_option maxRecDepth 20000 in
theorem ggX5_longest_X5_endOf : GoodIn wsX5_longest wsX5_endOf := goodIn_r _ [10, 2, 11, 12, 5, 13, 14, 15, 16, 17, 18, 19, 20, 21, 22, 23, 24, 25, 26, 27, 28, 29, 30, 31, 32, 33, 34, 35, 36, 37, 38, 39, 40, 41, 42, 43, 44, 45, 46, 47, 48, 49, 50, 51, 52, 53, 54, 55, 56, 57, 58, 59, 60, 61, 62, 63, 64, 65, 66] (by decide +kernel) (by decide +kernel)
set_option maxRecDepth 20000 in
theorem gX5_longest_X5_endOf : GoodIn wsX5_longest (wsV RX5 138 RX5 yX5_endOf wsX5_endOf) := goodIn_app (goodIn_of _ (by decide +kernel)) ggX5_longest_X5_endOf
theorem dX5_longest_0 : decode cX5_longest 0 = .ok (.iconst 0, 1) := by decide +kernel
theorem dX5_longest_1 : decode cX5_longest 1 = .ok (.istore 4, 2) := by decide +kernel
theorem dX5_longest_3 : decode cX5_longest 3 = .ok (.iconst (-1), 1) := by decide +kernel
theorem dX5_longest_4 : decode cX5_longest 4 = .ok (.istore 5, 2) := by decide +kernel
theorem dX5_longest_6 : decode cX5_longest 6 = .ok (.iconst 0, 1) := by decide +kernel
theorem dX5_longest_7 : decode cX5_longest 7 = .ok (.istore 6, 2) := by decide +kernel
theorem dX5_longest_9 : decode cX5_longest 9 = .ok (.iload 6, 2) := by decide +kernel
theorem dX5_longest_11 : decode cX5_longest 11 = .ok (.iload_n 3, 1) := by decide +kernel
theorem dX5_longest_12 : decode cX5_longest 12 = .ok (.if_icmp .ge 52, 3) := by decide +kernel
theorem dX5_longest_15 : decode cX5_longest 15 = .ok (.aload_n 0, 1) := by decide +kernel
theorem dX5_longest_16 : decode cX5_longest 16 = .ok (.getfield 9, 3) := by decide +kernel
theorem dX5_longest_19 : decode cX5_longest 19 = .ok (.aload_n 0, 1) := by decide +kernel
theorem dX5_longest_20 : decode cX5_longest 20 = .ok (.getfield 16, 3) := by decide +kernel
theorem dX5_longest_23 : decode cX5_longest 23 = .ok (.invokestatic 131, 3) := by decide +kernel
theorem dX5_longest_26 : decode cX5_longest 26 = .ok (.aload_n 0, 1) := by decide +kernel
theorem dX5_longest_27 : decode cX5_longest 27 = .ok (.getfield 16, 3) := by decide +kernel
theorem dX5_longest_30 : decode cX5_longest 30 = .ok (.iload_n 2, 1) := by decide +kernel
theorem dX5_longest_31 : decode cX5_longest 31 = .ok (.iload_n 1, 1) := by decide +kernel
theorem dX5_longest_32 : decode cX5_longest 32 = .ok (.iadd, 1) := by decide +kernel
theorem dX5_longest_33 : decode cX5_longest 33 = .ok (.iload 6, 2) := by decide +kernel
theorem dX5_longest_35 : decode cX5_longest 35 = .ok (.iastore, 1) := by decide +kernel
theorem dX5_longest_36 : decode cX5_longest 36 = .ok (.aload_n 0, 1) := by decide +kernel
theorem dX5_longest_37 : decode cX5_longest 37 = .ok (.iload_n 1, 1) := by decide +kernel
theorem dX5_longest_38 : decode cX5_longest 38 = .ok (.invokevirtual 138, 3) := by decide +kernel
theorem dX5_longest_41 : decode cX5_longest 41 = .ok (.istore 7, 2) := by decide +kernel
theorem dX5_longest_43 : decode cX5_longest 43 = .ok (.iload 7, 2) := by decide +kernel
theorem dX5_longest_45 : decode cX5_longest 45 = .ok (.iload 5, 2) := by decide +kernel
theorem dX5_longest_47 : decode cX5_longest 47 = .ok (.if_icmp .le 11, 3) := by decide +kernel
theorem dX5_longest_50 : decode cX5_longest 50 = .ok (.iload 6, 2) := by decide +kernel
theorem dX5_longest_52 : decode cX5_longest 52 = .ok (.istore 4, 2) := by decide +kernel
theorem dX5_longest_54 : decode cX5_longest 54 = .ok (.iload 7, 2) := by decide +kernel
theorem dX5_longest_56 : decode cX5_longest 56 = .ok (.istore 5, 2) := by decide +kernel
theorem dX5_longest_58 : decode cX5_longest 58 = .ok (.iinc 6 1, 3) := by decide +kernel
theorem dX5_longest_61 : decode cX5_longest 61 = .ok (.goto (-52), 3) := by decide +kernel
theorem dX5_longest_64 : decode cX5_longest 64 = .ok (.iload 4, 2) := by decide +kernel
theorem dX5_longest_66 : decode cX5_longest 66 = .ok (.ireturn, 1) := by decide +kernel
set_option maxRecDepth 20000 in
theorem ggX5_lacks_X5_isTime : GoodIn wsX5_lacks wsX5_isTime := goodIn_r _ [5, 6, 7, 8, 9, 10, 11, 12, 13, 14, 15, 16, 17, 18, 19, 20, 21, 22, 23] (by decide +kernel) (by decide +kernel)
set_option maxRecDepth 20000 in
theorem gX5_lacks_X5_isTime : GoodIn wsX5_lacks (wsV RX5 118 RX5 yX5_isTime wsX5_isTime) := goodIn_app (goodIn_of _ (by decide +kernel)) ggX5_lacks_X5_isTime
theorem dX5_lacks_0 : decode cX5_lacks 0 = .ok (.iload_n 1, 1) := by decide +kernel
theorem dX5_lacks_1 : decode cX5_lacks 1 = .ok (.ifCond .ne 7, 3) := by decide +kernel
theorem dX5_lacks_4 : decode cX5_lacks 4 = .ok (.iconst 0, 1) := by decide +kernel
theorem dX5_lacks_5 : decode cX5_lacks 5 = .ok (.goto 16, 3) := by decide +kernel
theorem dX5_lacks_8 : decode cX5_lacks 8 = .ok (.aload_n 0, 1) := by decide +kernel
theorem dX5_lacks_9 : decode cX5_lacks 9 = .ok (.iload_n 2, 1) := by decide +kernel
theorem dX5_lacks_10 : decode cX5_lacks 10 = .ok (.invokevirtual 118, 3) := by decide +kernel
theorem dX5_lacks_13 : decode cX5_lacks 13 = .ok (.ifCond .ne 7, 3) := by decide +kernel
theorem dX5_lacks_16 : decode cX5_lacks 16 = .ok (.iconst 4, 1) := by decide +kernel
theorem dX5_lacks_17 : decode cX5_lacks 17 = .ok (.goto 4, 3) := by decide +kernel
theorem dX5_lacks_20 : decode cX5_lacks 20 = .ok (.iconst (-1), 1) := by decide +kernel
theorem dX5_lacks_21 : decode cX5_lacks 21 = .ok (.ireturn, 1) := by decide +kernel
set_option maxRecDepth 20000 in
theorem ggX5_place_X5_isDeed : GoodIn wsX5_place wsX5_isDeed := goodIn_r _ [5, 6, 7, 8, 4, 9, 75, 76, 77, 78, 79, 80, 81, 82, 83, 84, 85, 86, 87, 88, 89, 90, 91] (by decide +kernel) (by decide +kernel)
set_option maxRecDepth 20000 in
theorem gX5_place_X5_isDeed : GoodIn wsX5_place (wsV RX5 112 RX5 yX5_isDeed wsX5_isDeed) := goodIn_app (goodIn_of _ (by decide +kernel)) ggX5_place_X5_isDeed
set_option maxRecDepth 20000 in
theorem ggX5_place_X5_lacks : GoodIn wsX5_place wsX5_lacks := goodIn_r _ [13, 14, 15, 16, 4, 17, 6, 75, 76, 77, 78, 79, 80, 81, 82, 83, 84, 85, 86, 87, 88, 89, 90, 91] (by decide +kernel) (by decide +kernel)
set_option maxRecDepth 20000 in
theorem gX5_place_X5_lacks : GoodIn wsX5_place (wsV RX5 141 RX5 yX5_lacks wsX5_lacks) := goodIn_app (goodIn_of _ (by decide +kernel)) ggX5_place_X5_lacks
set_option maxRecDepth 20000 in
theorem ggX5_place_X5_finding : GoodIn wsX5_place wsX5_finding := goodIn_r _ [21, 22, 23, 75, 76, 77, 78, 79, 80, 81, 82, 83, 84, 85, 86, 87, 88, 89, 90, 91] (by decide +kernel) (by decide +kernel)
set_option maxRecDepth 20000 in
theorem gX5_place_X5_finding : GoodIn wsX5_place (wsV RX5 105 RX5 yX5_finding wsX5_finding) := goodIn_app (goodIn_of _ (by decide +kernel)) ggX5_place_X5_finding
set_option maxRecDepth 20000 in
theorem ggX5_place_X5_longest : GoodIn wsX5_place wsX5_longest := goodIn_r _ [27, 6, 28, 29, 30, 4, 31, 32, 33, 34, 35, 36, 37, 38, 39, 40, 41, 42, 43, 44, 45, 46, 47, 48, 49, 50, 51, 52, 53, 54, 55, 56, 57, 58, 59, 60, 61, 62, 63, 64, 65, 66, 67, 68, 69, 70, 71, 72, 73, 74, 75, 76, 77, 78, 79, 80, 81, 82, 83, 84, 85, 86, 87, 88, 89, 90, 91] (by decide +kernel) (by decide +kernel)
set_option maxRecDepth 20000 in
theorem gX5_place_X5_longest : GoodIn wsX5_place (wsV RX5 145 RX5 yX5_longest wsX5_longest) := goodIn_app (goodIn_of _ (by decide +kernel)) ggX5_place_X5_longest
theorem dX5_place_0 : decode cX5_place 0 = .ok (.aload_n 0, 1) := by decide +kernel
theorem dX5_place_1 : decode cX5_place 1 = .ok (.aload_n 0, 1) := by decide +kernel
theorem dX5_place_2 : decode cX5_place 2 = .ok (.iload_n 1, 1) := by decide +kernel
theorem dX5_place_3 : decode cX5_place 3 = .ok (.invokevirtual 112, 3) := by decide +kernel
theorem dX5_place_6 : decode cX5_place 6 = .ok (.bipush 100, 2) := by decide +kernel
theorem dX5_place_8 : decode cX5_place 8 = .ok (.invokevirtual 141, 3) := by decide +kernel
theorem dX5_place_11 : decode cX5_place 11 = .ok (.istore_n 2, 1) := by decide +kernel
theorem dX5_place_12 : decode cX5_place 12 = .ok (.iload_n 2, 1) := by decide +kernel
theorem dX5_place_13 : decode cX5_place 13 = .ok (.ifCond .lt 11, 3) := by decide +kernel
theorem dX5_place_16 : decode cX5_place 16 = .ok (.aload_n 0, 1) := by decide +kernel
theorem dX5_place_17 : decode cX5_place 17 = .ok (.iload_n 2, 1) := by decide +kernel
theorem dX5_place_18 : decode cX5_place 18 = .ok (.invokevirtual 105, 3) := by decide +kernel
theorem dX5_place_21 : decode cX5_place 21 = .ok (.goto 12, 3) := by decide +kernel
theorem dX5_place_24 : decode cX5_place 24 = .ok (.aload_n 0, 1) := by decide +kernel
theorem dX5_place_25 : decode cX5_place 25 = .ok (.iload_n 1, 1) := by decide +kernel
theorem dX5_place_26 : decode cX5_place 26 = .ok (.bipush 40, 2) := by decide +kernel
theorem dX5_place_28 : decode cX5_place 28 = .ok (.bipush 6, 2) := by decide +kernel
theorem dX5_place_30 : decode cX5_place 30 = .ok (.invokevirtual 145, 3) := by decide +kernel
theorem dX5_place_33 : decode cX5_place 33 = .ok (.ireturn, 1) := by decide +kernel
set_option maxRecDepth 20000 in
theorem ggX5_kindFor_X5_isDeed : GoodIn wsX5_kindFor wsX5_isDeed := goodIn_r _ [5, 6, 7, 8, 4, 9, 75, 76, 77, 78, 79, 80, 81, 82, 83, 84, 85, 86, 87, 88, 89, 90, 91] (by decide +kernel) (by decide +kernel)
set_option maxRecDepth 20000 in
theorem gX5_kindFor_X5_isDeed : GoodIn wsX5_kindFor (wsV RX5 112 RX5 yX5_isDeed wsX5_isDeed) := goodIn_app (goodIn_of _ (by decide +kernel)) ggX5_kindFor_X5_isDeed
set_option maxRecDepth 20000 in
theorem ggX5_kindFor_X5_lacks : GoodIn wsX5_kindFor wsX5_lacks := goodIn_r _ [13, 14, 15, 16, 4, 17, 6, 75, 76, 77, 78, 79, 80, 81, 82, 83, 84, 85, 86, 87, 88, 89, 90, 91] (by decide +kernel) (by decide +kernel)
set_option maxRecDepth 20000 in
theorem gX5_kindFor_X5_lacks : GoodIn wsX5_kindFor (wsV RX5 141 RX5 yX5_lacks wsX5_lacks) := goodIn_app (goodIn_of _ (by decide +kernel)) ggX5_kindFor_X5_lacks
set_option maxRecDepth 20000 in
theorem ggX5_kindFor_X5_finding : GoodIn wsX5_kindFor wsX5_finding := goodIn_r _ [21, 22, 23, 75, 76, 77, 78, 79, 80, 81, 82, 83, 84, 85, 86, 87, 88, 89, 90, 91] (by decide +kernel) (by decide +kernel)
set_option maxRecDepth 20000 in
theorem gX5_kindFor_X5_finding : GoodIn wsX5_kindFor (wsV RX5 105 RX5 yX5_finding wsX5_finding) := goodIn_app (goodIn_of _ (by decide +kernel)) ggX5_kindFor_X5_finding
set_option maxRecDepth 20000 in
theorem ggX5_kindFor_X5_longest : GoodIn wsX5_kindFor wsX5_longest := goodIn_r _ [27, 6, 28, 29, 30, 4, 31, 32, 33, 34, 35, 36, 37, 38, 39, 40, 41, 42, 43, 44, 45, 46, 47, 48, 49, 50, 51, 52, 53, 54, 55, 56, 57, 58, 59, 60, 61, 62, 63, 64, 65, 66, 67, 68, 69, 70, 71, 72, 73, 74, 75, 76, 77, 78, 79, 80, 81, 82, 83, 84, 85, 86, 87, 88, 89, 90, 91] (by decide +kernel) (by decide +kernel)
set_option maxRecDepth 20000 in
theorem gX5_kindFor_X5_longest : GoodIn wsX5_kindFor (wsV RX5 145 RX5 yX5_longest wsX5_longest) := goodIn_app (goodIn_of _ (by decide +kernel)) ggX5_kindFor_X5_longest
theorem dX5_kindFor_0 : decode cX5_kindFor 0 = .ok (.aload_n 0, 1) := by decide +kernel
theorem dX5_kindFor_1 : decode cX5_kindFor 1 = .ok (.aload_n 0, 1) := by decide +kernel
theorem dX5_kindFor_2 : decode cX5_kindFor 2 = .ok (.iload_n 1, 1) := by decide +kernel
theorem dX5_kindFor_3 : decode cX5_kindFor 3 = .ok (.invokevirtual 112, 3) := by decide +kernel
theorem dX5_kindFor_6 : decode cX5_kindFor 6 = .ok (.bipush 100, 2) := by decide +kernel
theorem dX5_kindFor_8 : decode cX5_kindFor 8 = .ok (.invokevirtual 141, 3) := by decide +kernel
theorem dX5_kindFor_11 : decode cX5_kindFor 11 = .ok (.istore_n 2, 1) := by decide +kernel
theorem dX5_kindFor_12 : decode cX5_kindFor 12 = .ok (.iload_n 2, 1) := by decide +kernel
theorem dX5_kindFor_13 : decode cX5_kindFor 13 = .ok (.ifCond .lt 11, 3) := by decide +kernel
theorem dX5_kindFor_16 : decode cX5_kindFor 16 = .ok (.aload_n 0, 1) := by decide +kernel
theorem dX5_kindFor_17 : decode cX5_kindFor 17 = .ok (.iload_n 2, 1) := by decide +kernel
theorem dX5_kindFor_18 : decode cX5_kindFor 18 = .ok (.invokevirtual 105, 3) := by decide +kernel
theorem dX5_kindFor_21 : decode cX5_kindFor 21 = .ok (.goto 12, 3) := by decide +kernel
theorem dX5_kindFor_24 : decode cX5_kindFor 24 = .ok (.aload_n 0, 1) := by decide +kernel
theorem dX5_kindFor_25 : decode cX5_kindFor 25 = .ok (.iload_n 1, 1) := by decide +kernel
theorem dX5_kindFor_26 : decode cX5_kindFor 26 = .ok (.bipush 32, 2) := by decide +kernel
theorem dX5_kindFor_28 : decode cX5_kindFor 28 = .ok (.bipush 7, 2) := by decide +kernel
theorem dX5_kindFor_30 : decode cX5_kindFor 30 = .ok (.invokevirtual 145, 3) := by decide +kernel
theorem dX5_kindFor_33 : decode cX5_kindFor 33 = .ok (.ireturn, 1) := by decide +kernel
set_option maxRecDepth 20000 in
theorem ggX5_isAhead_X5_within : GoodIn wsX5_isAhead wsX5_within := goodIn_r _ [4] (by decide +kernel) (by decide +kernel)
set_option maxRecDepth 20000 in
theorem gX5_isAhead_X5_within : GoodIn wsX5_isAhead (va_wsS RX5 44 yX5_within wsX5_within) := goodIn_app (goodIn_of _ (by decide +kernel)) ggX5_isAhead_X5_within
theorem dX5_isAhead_0 : decode cX5_isAhead 0 = .ok (.iload_n 0, 1) := by decide +kernel
theorem dX5_isAhead_1 : decode cX5_isAhead 1 = .ok (.iconst 1, 1) := by decide +kernel
theorem dX5_isAhead_2 : decode cX5_isAhead 2 = .ok (.bipush 100, 2) := by decide +kernel
theorem dX5_isAhead_4 : decode cX5_isAhead 4 = .ok (.invokestatic 44, 3) := by decide +kernel
theorem dX5_isAhead_7 : decode cX5_isAhead 7 = .ok (.ireturn, 1) := by decide +kernel
theorem dX5_brings_0 : decode cX5_brings 0 = .ok (.aload_n 0, 1) := by decide +kernel
theorem dX5_brings_1 : decode cX5_brings 1 = .ok (.bipush 10, 2) := by decide +kernel
theorem dX5_brings_3 : decode cX5_brings 3 = .ok (.iload_n 1, 1) := by decide +kernel
theorem dX5_brings_4 : decode cX5_brings 4 = .ok (.iadd, 1) := by decide +kernel
theorem dX5_brings_5 : decode cX5_brings 5 = .ok (.bipush 99, 2) := by decide +kernel
theorem dX5_brings_7 : decode cX5_brings 7 = .ok (.aload_n 0, 1) := by decide +kernel
theorem dX5_brings_8 : decode cX5_brings 8 = .ok (.bipush 10, 2) := by decide +kernel
theorem dX5_brings_10 : decode cX5_brings 10 = .ok (.iload_n 1, 1) := by decide +kernel
theorem dX5_brings_11 : decode cX5_brings 11 = .ok (.iadd, 1) := by decide +kernel
theorem dX5_brings_12 : decode cX5_brings 12 = .ok (.iaload, 1) := by decide +kernel
theorem dX5_brings_13 : decode cX5_brings 13 = .ok (.iload_n 2, 1) := by decide +kernel
theorem dX5_brings_14 : decode cX5_brings 14 = .ok (.iadd, 1) := by decide +kernel
theorem dX5_brings_15 : decode cX5_brings 15 = .ok (.invokestatic 60, 3) := by decide +kernel
theorem dX5_brings_18 : decode cX5_brings 18 = .ok (.iastore, 1) := by decide +kernel
theorem dX5_brings_19 : decode cX5_brings 19 = .ok (.return_, 1) := by decide +kernel
set_option maxRecDepth 20000 in
theorem ggX5_ice_X5_within : GoodIn wsX5_ice wsX5_within := goodIn_r _ [6] (by decide +kernel) (by decide +kernel)
set_option maxRecDepth 20000 in
theorem gX5_ice_X5_within : GoodIn wsX5_ice (va_wsS RX5 44 yX5_within wsX5_within) := goodIn_app (goodIn_of _ (by decide +kernel)) ggX5_ice_X5_within
set_option maxRecDepth 20000 in
theorem ggX5_ice_X5_isAhead : GoodIn wsX5_ice wsX5_isAhead := goodIn_r _ [9, 3, 4, 5, 6] (by decide +kernel) (by decide +kernel)
set_option maxRecDepth 20000 in
theorem gX5_ice_X5_isAhead : GoodIn wsX5_ice (va_wsS RX5 149 yX5_isAhead wsX5_isAhead) := goodIn_app (goodIn_of _ (by decide +kernel)) ggX5_ice_X5_isAhead
set_option maxRecDepth 20000 in
theorem ggX5_ice_X5_lacks : GoodIn wsX5_ice wsX5_lacks := goodIn_r _ [13, 14, 15, 16, 5, 17, 1, 79, 80, 81, 82, 83, 84, 85, 86, 87, 88, 89, 90, 91, 92, 93, 94, 95] (by decide +kernel) (by decide +kernel)
set_option maxRecDepth 20000 in
theorem gX5_ice_X5_lacks : GoodIn wsX5_ice (wsV RX5 141 RX5 yX5_lacks wsX5_lacks) := goodIn_app (goodIn_of _ (by decide +kernel)) ggX5_ice_X5_lacks
set_option maxRecDepth 20000 in
theorem ggX5_ice_X5_finding : GoodIn wsX5_ice wsX5_finding := goodIn_r _ [21, 22, 23, 79, 80, 81, 82, 83, 84, 85, 86, 87, 88, 89, 90, 91, 92, 93, 94, 95] (by decide +kernel) (by decide +kernel)
set_option maxRecDepth 20000 in
theorem gX5_ice_X5_finding : GoodIn wsX5_ice (wsV RX5 105 RX5 yX5_finding wsX5_finding) := goodIn_app (goodIn_of _ (by decide +kernel)) ggX5_ice_X5_finding
set_option maxRecDepth 20000 in
theorem ggX5_ice_X5_row : GoodIn wsX5_ice wsX5_row := goodIn_r _ [26] (by decide +kernel) (by decide +kernel)
set_option maxRecDepth 20000 in
theorem gX5_ice_X5_row : GoodIn wsX5_ice (va_wsS RX5 131 yX5_row wsX5_row) := goodIn_app (goodIn_of _ (by decide +kernel)) ggX5_ice_X5_row
set_option maxRecDepth 20000 in
theorem ggX5_ice_X5_brings : GoodIn wsX5_ice wsX5_brings := goodIn_r _ [29, 30, 31, 32, 33] (by decide +kernel) (by decide +kernel)
set_option maxRecDepth 20000 in
theorem gX5_ice_X5_brings : GoodIn wsX5_ice (va_wsS RX5 152 yX5_brings wsX5_brings) := goodIn_app (goodIn_of _ (by decide +kernel)) ggX5_ice_X5_brings
set_option maxRecDepth 20000 in
theorem ggX5_ice_X5_holdingBehind : GoodIn wsX5_ice wsX5_holdingBehind := goodIn_r _ [37, 2, 38, 39, 40, 5, 41, 42, 43, 44, 45, 46, 47, 48, 49, 50, 32, 51, 52, 53, 54, 55, 56, 57, 58, 59, 60, 30, 31, 33, 61, 62, 63, 64, 65, 66, 67, 68, 69, 70, 71, 72, 73, 74, 75, 79, 80, 81, 82, 83, 84, 85, 86, 87, 88, 89, 90, 91, 92, 93, 94, 95] (by decide +kernel) (by decide +kernel)
set_option maxRecDepth 20000 in
theorem gX5_ice_X5_holdingBehind : GoodIn wsX5_ice (wsV RX5 135 RX5 yX5_holdingBehind wsX5_holdingBehind) := goodIn_app (goodIn_of _ (by decide +kernel)) ggX5_ice_X5_holdingBehind
set_option maxRecDepth 20000 in
theorem ggX5_ice_X5_bits : GoodIn wsX5_ice wsX5_bits := goodIn_r _ [78] (by decide +kernel) (by decide +kernel)
set_option maxRecDepth 20000 in
theorem gX5_ice_X5_bits : GoodIn wsX5_ice (va_wsS RX5 156 yX5_bits wsX5_bits) := goodIn_app (goodIn_of _ (by decide +kernel)) ggX5_ice_X5_bits
theorem dX5_ice_0 : decode cX5_ice 0 = .ok (.aload_n 0, 1) := by decide +kernel
theorem dX5_ice_1 : decode cX5_ice 1 = .ok (.iload_n 1, 1) := by decide +kernel
theorem dX5_ice_2 : decode cX5_ice 2 = .ok (.iconst 1, 1) := by decide +kernel
theorem dX5_ice_3 : decode cX5_ice 3 = .ok (.bipush 99, 2) := by decide +kernel
theorem dX5_ice_5 : decode cX5_ice 5 = .ok (.invokestatic 44, 3) := by decide +kernel
theorem dX5_ice_8 : decode cX5_ice 8 = .ok (.ifCond .eq 14, 3) := by decide +kernel
theorem dX5_ice_11 : decode cX5_ice 11 = .ok (.iload_n 2, 1) := by decide +kernel
theorem dX5_ice_12 : decode cX5_ice 12 = .ok (.invokestatic 149, 3) := by decide +kernel
theorem dX5_ice_15 : decode cX5_ice 15 = .ok (.ifCond .eq 7, 3) := by decide +kernel
theorem dX5_ice_18 : decode cX5_ice 18 = .ok (.iconst 1, 1) := by decide +kernel
theorem dX5_ice_19 : decode cX5_ice 19 = .ok (.goto 4, 3) := by decide +kernel
theorem dX5_ice_22 : decode cX5_ice 22 = .ok (.iconst 0, 1) := by decide +kernel
theorem dX5_ice_23 : decode cX5_ice 23 = .ok (.iload_n 2, 1) := by decide +kernel
theorem dX5_ice_24 : decode cX5_ice 24 = .ok (.invokevirtual 141, 3) := by decide +kernel
theorem dX5_ice_27 : decode cX5_ice 27 = .ok (.istore_n 3, 1) := by decide +kernel
theorem dX5_ice_28 : decode cX5_ice 28 = .ok (.iload_n 3, 1) := by decide +kernel
theorem dX5_ice_29 : decode cX5_ice 29 = .ok (.ifCond .lt 9, 3) := by decide +kernel
theorem dX5_ice_32 : decode cX5_ice 32 = .ok (.aload_n 0, 1) := by decide +kernel
theorem dX5_ice_33 : decode cX5_ice 33 = .ok (.iload_n 3, 1) := by decide +kernel
theorem dX5_ice_34 : decode cX5_ice 34 = .ok (.invokevirtual 105, 3) := by decide +kernel
theorem dX5_ice_37 : decode cX5_ice 37 = .ok (.ireturn, 1) := by decide +kernel
theorem dX5_ice_38 : decode cX5_ice 38 = .ok (.iconst 0, 1) := by decide +kernel
theorem dX5_ice_39 : decode cX5_ice 39 = .ok (.istore 4, 2) := by decide +kernel
theorem dX5_ice_41 : decode cX5_ice 41 = .ok (.iconst (-1), 1) := by decide +kernel
theorem dX5_ice_42 : decode cX5_ice 42 = .ok (.istore 5, 2) := by decide +kernel
theorem dX5_ice_44 : decode cX5_ice 44 = .ok (.iconst 0, 1) := by decide +kernel
theorem dX5_ice_45 : decode cX5_ice 45 = .ok (.istore 6, 2) := by decide +kernel
theorem dX5_ice_47 : decode cX5_ice 47 = .ok (.iload 6, 2) := by decide +kernel
theorem dX5_ice_49 : decode cX5_ice 49 = .ok (.bipush 6, 2) := by decide +kernel
theorem dX5_ice_51 : decode cX5_ice 51 = .ok (.if_icmp .ge 55, 3) := by decide +kernel
theorem dX5_ice_54 : decode cX5_ice 54 = .ok (.aload_n 0, 1) := by decide +kernel
theorem dX5_ice_55 : decode cX5_ice 55 = .ok (.getfield 9, 3) := by decide +kernel
theorem dX5_ice_58 : decode cX5_ice 58 = .ok (.aload_n 0, 1) := by decide +kernel
theorem dX5_ice_59 : decode cX5_ice 59 = .ok (.getfield 16, 3) := by decide +kernel
theorem dX5_ice_62 : decode cX5_ice 62 = .ok (.invokestatic 131, 3) := by decide +kernel
theorem dX5_ice_65 : decode cX5_ice 65 = .ok (.aload_n 0, 1) := by decide +kernel
theorem dX5_ice_66 : decode cX5_ice 66 = .ok (.getfield 16, 3) := by decide +kernel
theorem dX5_ice_69 : decode cX5_ice 69 = .ok (.iload 6, 2) := by decide +kernel
theorem dX5_ice_71 : decode cX5_ice 71 = .ok (.iload_n 1, 1) := by decide +kernel
theorem dX5_ice_72 : decode cX5_ice 72 = .ok (.invokestatic 152, 3) := by decide +kernel
theorem dX5_ice_75 : decode cX5_ice 75 = .ok (.aload_n 0, 1) := by decide +kernel
theorem dX5_ice_76 : decode cX5_ice 76 = .ok (.iload_n 2, 1) := by decide +kernel
theorem dX5_ice_77 : decode cX5_ice 77 = .ok (.invokevirtual 135, 3) := by decide +kernel
theorem dX5_ice_80 : decode cX5_ice 80 = .ok (.invokestatic 156, 3) := by decide +kernel
theorem dX5_ice_83 : decode cX5_ice 83 = .ok (.istore 7, 2) := by decide +kernel
theorem dX5_ice_85 : decode cX5_ice 85 = .ok (.iload 7, 2) := by decide +kernel
theorem dX5_ice_87 : decode cX5_ice 87 = .ok (.iload 5, 2) := by decide +kernel
theorem dX5_ice_89 : decode cX5_ice 89 = .ok (.if_icmp .le 11, 3) := by decide +kernel
theorem dX5_ice_92 : decode cX5_ice 92 = .ok (.iload 6, 2) := by decide +kernel
theorem dX5_ice_94 : decode cX5_ice 94 = .ok (.istore 4, 2) := by decide +kernel
theorem dX5_ice_96 : decode cX5_ice 96 = .ok (.iload 7, 2) := by decide +kernel
theorem dX5_ice_98 : decode cX5_ice 98 = .ok (.istore 5, 2) := by decide +kernel
theorem dX5_ice_100 : decode cX5_ice 100 = .ok (.iinc 6 1, 3) := by decide +kernel
theorem dX5_ice_103 : decode cX5_ice 103 = .ok (.goto (-56), 3) := by decide +kernel
theorem dX5_ice_106 : decode cX5_ice 106 = .ok (.iload 4, 2) := by decide +kernel
theorem dX5_ice_108 : decode cX5_ice 108 = .ok (.ireturn, 1) := by decide +kernel
set_option maxRecDepth 20000 in
theorem ggX5_blocks_X5_isDeed : GoodIn wsX5_blocks wsX5_isDeed := goodIn_r _ [7, 1, 8, 9, 6, 10, 80, 81, 82, 83, 84, 85, 86, 87, 88, 89, 90, 91, 92, 93, 94, 95, 96] (by decide +kernel) (by decide +kernel)
set_option maxRecDepth 20000 in
theorem gX5_blocks_X5_isDeed : GoodIn wsX5_blocks (wsV RX5 112 RX5 yX5_isDeed wsX5_isDeed) := goodIn_app (goodIn_of _ (by decide +kernel)) ggX5_blocks_X5_isDeed
set_option maxRecDepth 20000 in
theorem ggX5_blocks_X5_isAhead : GoodIn wsX5_blocks wsX5_isAhead := goodIn_r _ [13, 8, 9, 6, 10] (by decide +kernel) (by decide +kernel)
set_option maxRecDepth 20000 in
theorem gX5_blocks_X5_isAhead : GoodIn wsX5_blocks (va_wsS RX5 149 yX5_isAhead wsX5_isAhead) := goodIn_app (goodIn_of _ (by decide +kernel)) ggX5_blocks_X5_isAhead
set_option maxRecDepth 20000 in
theorem ggX5_blocks_X5_lacks : GoodIn wsX5_blocks wsX5_lacks := goodIn_r _ [17, 18, 19, 20, 6, 21, 1, 80, 81, 82, 83, 84, 85, 86, 87, 88, 89, 90, 91, 92, 93, 94, 95, 96] (by decide +kernel) (by decide +kernel)
set_option maxRecDepth 20000 in
theorem gX5_blocks_X5_lacks : GoodIn wsX5_blocks (wsV RX5 141 RX5 yX5_lacks wsX5_lacks) := goodIn_app (goodIn_of _ (by decide +kernel)) ggX5_blocks_X5_lacks
set_option maxRecDepth 20000 in
theorem ggX5_blocks_X5_finding : GoodIn wsX5_blocks wsX5_finding := goodIn_r _ [25, 26, 27, 80, 81, 82, 83, 84, 85, 86, 87, 88, 89, 90, 91, 92, 93, 94, 95, 96] (by decide +kernel) (by decide +kernel)
set_option maxRecDepth 20000 in
theorem gX5_blocks_X5_finding : GoodIn wsX5_blocks (wsV RX5 105 RX5 yX5_finding wsX5_finding) := goodIn_app (goodIn_of _ (by decide +kernel)) ggX5_blocks_X5_finding
set_option maxRecDepth 20000 in
theorem ggX5_blocks_X5_row : GoodIn wsX5_blocks wsX5_row := goodIn_r _ [30] (by decide +kernel) (by decide +kernel)
set_option maxRecDepth 20000 in
theorem gX5_blocks_X5_row : GoodIn wsX5_blocks (va_wsS RX5 131 yX5_row wsX5_row) := goodIn_app (goodIn_of _ (by decide +kernel)) ggX5_blocks_X5_row
set_option maxRecDepth 20000 in
theorem ggX5_blocks_X5_brings : GoodIn wsX5_blocks wsX5_brings := goodIn_r _ [33, 34, 35, 36, 37] (by decide +kernel) (by decide +kernel)
set_option maxRecDepth 20000 in
theorem gX5_blocks_X5_brings : GoodIn wsX5_blocks (va_wsS RX5 152 yX5_brings wsX5_brings) := goodIn_app (goodIn_of _ (by decide +kernel)) ggX5_blocks_X5_brings
set_option maxRecDepth 20000 in
theorem ggX5_blocks_X5_holdingBehind : GoodIn wsX5_blocks wsX5_holdingBehind := goodIn_r _ [41, 2, 42, 43, 44, 6, 45, 46, 47, 48, 49, 50, 51, 52, 53, 54, 36, 55, 56, 57, 58, 59, 60, 61, 62, 63, 64, 34, 35, 37, 65, 66, 67, 68, 69, 70, 71, 72, 73, 74, 75, 76, 77, 78, 79, 80, 81, 82, 83, 84, 85, 86, 87, 88, 89, 90, 91, 92, 93, 94, 95, 96] (by decide +kernel) (by decide +kernel)
set_option maxRecDepth 20000 in
theorem gX5_blocks_X5_holdingBehind : GoodIn wsX5_blocks (wsV RX5 135 RX5 yX5_holdingBehind wsX5_holdingBehind) := goodIn_app (goodIn_of _ (by decide +kernel)) ggX5_blocks_X5_holdingBehind
theorem dX5_blocks_0 : decode cX5_blocks 0 = .ok (.aload_n 0, 1) := by decide +kernel
theorem dX5_blocks_1 : decode cX5_blocks 1 = .ok (.aload_n 0, 1) := by decide +kernel
theorem dX5_blocks_2 : decode cX5_blocks 2 = .ok (.iload_n 1, 1) := by decide +kernel
theorem dX5_blocks_3 : decode cX5_blocks 3 = .ok (.invokevirtual 112, 3) := by decide +kernel
theorem dX5_blocks_6 : decode cX5_blocks 6 = .ok (.ifCond .eq 14, 3) := by decide +kernel
theorem dX5_blocks_9 : decode cX5_blocks 9 = .ok (.iload_n 2, 1) := by decide +kernel
theorem dX5_blocks_10 : decode cX5_blocks 10 = .ok (.invokestatic 149, 3) := by decide +kernel
theorem dX5_blocks_13 : decode cX5_blocks 13 = .ok (.ifCond .eq 7, 3) := by decide +kernel
theorem dX5_blocks_16 : decode cX5_blocks 16 = .ok (.iconst 1, 1) := by decide +kernel
theorem dX5_blocks_17 : decode cX5_blocks 17 = .ok (.goto 4, 3) := by decide +kernel
theorem dX5_blocks_20 : decode cX5_blocks 20 = .ok (.iconst 0, 1) := by decide +kernel
theorem dX5_blocks_21 : decode cX5_blocks 21 = .ok (.iload_n 2, 1) := by decide +kernel
theorem dX5_blocks_22 : decode cX5_blocks 22 = .ok (.invokevirtual 141, 3) := by decide +kernel
theorem dX5_blocks_25 : decode cX5_blocks 25 = .ok (.istore_n 3, 1) := by decide +kernel
theorem dX5_blocks_26 : decode cX5_blocks 26 = .ok (.iload_n 3, 1) := by decide +kernel
theorem dX5_blocks_27 : decode cX5_blocks 27 = .ok (.ifCond .lt 9, 3) := by decide +kernel
theorem dX5_blocks_30 : decode cX5_blocks 30 = .ok (.aload_n 0, 1) := by decide +kernel
theorem dX5_blocks_31 : decode cX5_blocks 31 = .ok (.iload_n 3, 1) := by decide +kernel
theorem dX5_blocks_32 : decode cX5_blocks 32 = .ok (.invokevirtual 105, 3) := by decide +kernel
theorem dX5_blocks_35 : decode cX5_blocks 35 = .ok (.ireturn, 1) := by decide +kernel
theorem dX5_blocks_36 : decode cX5_blocks 36 = .ok (.iconst 0, 1) := by decide +kernel
theorem dX5_blocks_37 : decode cX5_blocks 37 = .ok (.istore 4, 2) := by decide +kernel
theorem dX5_blocks_39 : decode cX5_blocks 39 = .ok (.iload 4, 2) := by decide +kernel
theorem dX5_blocks_41 : decode cX5_blocks 41 = .ok (.bipush 99, 2) := by decide +kernel
theorem dX5_blocks_43 : decode cX5_blocks 43 = .ok (.if_icmp .gt 54, 3) := by decide +kernel
theorem dX5_blocks_46 : decode cX5_blocks 46 = .ok (.aload_n 0, 1) := by decide +kernel
theorem dX5_blocks_47 : decode cX5_blocks 47 = .ok (.getfield 9, 3) := by decide +kernel
theorem dX5_blocks_50 : decode cX5_blocks 50 = .ok (.aload_n 0, 1) := by decide +kernel
theorem dX5_blocks_51 : decode cX5_blocks 51 = .ok (.getfield 16, 3) := by decide +kernel
theorem dX5_blocks_54 : decode cX5_blocks 54 = .ok (.invokestatic 131, 3) := by decide +kernel
theorem dX5_blocks_57 : decode cX5_blocks 57 = .ok (.aload_n 0, 1) := by decide +kernel
theorem dX5_blocks_58 : decode cX5_blocks 58 = .ok (.getfield 16, 3) := by decide +kernel
theorem dX5_blocks_61 : decode cX5_blocks 61 = .ok (.aload_n 0, 1) := by decide +kernel
theorem dX5_blocks_62 : decode cX5_blocks 62 = .ok (.getfield 9, 3) := by decide +kernel
theorem dX5_blocks_65 : decode cX5_blocks 65 = .ok (.bipush 40, 2) := by decide +kernel
theorem dX5_blocks_67 : decode cX5_blocks 67 = .ok (.iload_n 1, 1) := by decide +kernel
theorem dX5_blocks_68 : decode cX5_blocks 68 = .ok (.iadd, 1) := by decide +kernel
theorem dX5_blocks_69 : decode cX5_blocks 69 = .ok (.iaload, 1) := by decide +kernel
theorem dX5_blocks_70 : decode cX5_blocks 70 = .ok (.iload 4, 2) := by decide +kernel
theorem dX5_blocks_72 : decode cX5_blocks 72 = .ok (.invokestatic 152, 3) := by decide +kernel
theorem dX5_blocks_75 : decode cX5_blocks 75 = .ok (.aload_n 0, 1) := by decide +kernel
theorem dX5_blocks_76 : decode cX5_blocks 76 = .ok (.iload_n 2, 1) := by decide +kernel
theorem dX5_blocks_77 : decode cX5_blocks 77 = .ok (.invokevirtual 135, 3) := by decide +kernel
theorem dX5_blocks_80 : decode cX5_blocks 80 = .ok (.iload_n 1, 1) := by decide +kernel
theorem dX5_blocks_81 : decode cX5_blocks 81 = .ok (.ishr, 1) := by decide +kernel
theorem dX5_blocks_82 : decode cX5_blocks 82 = .ok (.iconst 1, 1) := by decide +kernel
theorem dX5_blocks_83 : decode cX5_blocks 83 = .ok (.iand, 1) := by decide +kernel
theorem dX5_blocks_84 : decode cX5_blocks 84 = .ok (.iconst 1, 1) := by decide +kernel
theorem dX5_blocks_85 : decode cX5_blocks 85 = .ok (.if_icmp .ne 6, 3) := by decide +kernel
theorem dX5_blocks_88 : decode cX5_blocks 88 = .ok (.iload 4, 2) := by decide +kernel
theorem dX5_blocks_90 : decode cX5_blocks 90 = .ok (.ireturn, 1) := by decide +kernel
theorem dX5_blocks_91 : decode cX5_blocks 91 = .ok (.iinc 4 1, 3) := by decide +kernel
theorem dX5_blocks_94 : decode cX5_blocks 94 = .ok (.goto (-55), 3) := by decide +kernel
theorem dX5_blocks_97 : decode cX5_blocks 97 = .ok (.aload_n 0, 1) := by decide +kernel
theorem dX5_blocks_98 : decode cX5_blocks 98 = .ok (.iconst 3, 1) := by decide +kernel
theorem dX5_blocks_99 : decode cX5_blocks 99 = .ok (.invokevirtual 105, 3) := by decide +kernel
theorem dX5_blocks_102 : decode cX5_blocks 102 = .ok (.ireturn, 1) := by decide +kernel
