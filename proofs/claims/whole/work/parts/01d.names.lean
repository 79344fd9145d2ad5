set_option maxRecDepth 20000 in
theorem ggX4_init_X0_init : GoodIn wsX4_init wsX0_init := goodIn_r _ [23, 24, 2, 3, 17, 25, 26, 27, 28, 29, 30, 31, 32, 33, 34, 35, 36, 37, 38, 39, 55, 56, 57, 58, 59, 60, 61, 62, 63, 64, 65, 66, 67, 68, 69] (by decide +kernel) (by decide +kernel)
set_option maxRecDepth 20000 in
theorem gX4_init_X0_init : GoodIn wsX4_init (wsX0_init) := ggX4_init_X0_init
set_option maxRecDepth 20000 in
theorem ggX4_init_X3_init : GoodIn wsX4_init wsX3_init := goodIn_r _ [41, 42, 2, 3, 17, 43, 44, 45, 46, 47, 48, 77, 78, 79, 80, 81, 82] (by decide +kernel) (by decide +kernel)
set_option maxRecDepth 20000 in
theorem gX4_init_X3_init_n28 : GoodIn wsX4_init (wsX3_init) := ggX4_init_X3_init
set_option maxRecDepth 20000 in
theorem ggX4_init_X2_init : GoodIn wsX4_init wsX2_init := goodIn_r _ [50, 51, 2, 3, 17, 52, 53, 54, 83, 84, 85] (by decide +kernel) (by decide +kernel)
set_option maxRecDepth 20000 in
theorem gX4_init_X2_init_n43 : GoodIn wsX4_init (wsX2_init) := ggX4_init_X2_init
theorem dX4_init_0 : decode cX4_init 0 = .ok (.aload_n 0, 1) := by decide +kernel
theorem dX4_init_1 : decode cX4_init 1 = .ok (.invokespecial 3, 3) := by decide +kernel
theorem dX4_init_4 : decode cX4_init 4 = .ok (.aload_n 0, 1) := by decide +kernel
theorem dX4_init_5 : decode cX4_init 5 = .ok (.new 9, 3) := by decide +kernel
theorem dX4_init_8 : decode cX4_init 8 = .ok (.dup, 1) := by decide +kernel
theorem dX4_init_9 : decode cX4_init 9 = .ok (.invokespecial 11, 3) := by decide +kernel
theorem dX4_init_12 : decode cX4_init 12 = .ok (.putfield 12, 3) := by decide +kernel
theorem dX4_init_15 : decode cX4_init 15 = .ok (.aload_n 0, 1) := by decide +kernel
theorem dX4_init_16 : decode cX4_init 16 = .ok (.new 9, 3) := by decide +kernel
theorem dX4_init_19 : decode cX4_init 19 = .ok (.dup, 1) := by decide +kernel
theorem dX4_init_20 : decode cX4_init 20 = .ok (.invokespecial 11, 3) := by decide +kernel
theorem dX4_init_23 : decode cX4_init 23 = .ok (.putfield 16, 3) := by decide +kernel
theorem dX4_init_26 : decode cX4_init 26 = .ok (.aload_n 0, 1) := by decide +kernel
theorem dX4_init_27 : decode cX4_init 27 = .ok (.new 9, 3) := by decide +kernel
theorem dX4_init_30 : decode cX4_init 30 = .ok (.dup, 1) := by decide +kernel
theorem dX4_init_31 : decode cX4_init 31 = .ok (.invokespecial 11, 3) := by decide +kernel
theorem dX4_init_34 : decode cX4_init 34 = .ok (.putfield 19, 3) := by decide +kernel
theorem dX4_init_37 : decode cX4_init 37 = .ok (.aload_n 0, 1) := by decide +kernel
theorem dX4_init_38 : decode cX4_init 38 = .ok (.iconst 0, 1) := by decide +kernel
theorem dX4_init_39 : decode cX4_init 39 = .ok (.putfield 22, 3) := by decide +kernel
theorem dX4_init_42 : decode cX4_init 42 = .ok (.aload_n 0, 1) := by decide +kernel
theorem dX4_init_43 : decode cX4_init 43 = .ok (.new 26, 3) := by decide +kernel
theorem dX4_init_46 : decode cX4_init 46 = .ok (.dup, 1) := by decide +kernel
theorem dX4_init_47 : decode cX4_init 47 = .ok (.invokespecial 28, 3) := by decide +kernel
theorem dX4_init_50 : decode cX4_init 50 = .ok (.putfield 29, 3) := by decide +kernel
theorem dX4_init_53 : decode cX4_init 53 = .ok (.aload_n 0, 1) := by decide +kernel
theorem dX4_init_54 : decode cX4_init 54 = .ok (.iconst 4, 1) := by decide +kernel
theorem dX4_init_55 : decode cX4_init 55 = .ok (.anewarray 33, 3) := by decide +kernel
theorem dX4_init_58 : decode cX4_init 58 = .ok (.putfield 35, 3) := by decide +kernel
theorem dX4_init_61 : decode cX4_init 61 = .ok (.aload_n 0, 1) := by decide +kernel
theorem dX4_init_62 : decode cX4_init 62 = .ok (.bipush 7, 2) := by decide +kernel
theorem dX4_init_64 : decode cX4_init 64 = .ok (.newarray .int, 2) := by decide +kernel
theorem dX4_init_66 : decode cX4_init 66 = .ok (.putfield 39, 3) := by decide +kernel
theorem dX4_init_69 : decode cX4_init 69 = .ok (.iconst 0, 1) := by decide +kernel
theorem dX4_init_70 : decode cX4_init 70 = .ok (.istore_n 1, 1) := by decide +kernel
theorem dX4_init_71 : decode cX4_init 71 = .ok (.iload_n 1, 1) := by decide +kernel
theorem dX4_init_72 : decode cX4_init 72 = .ok (.iconst 4, 1) := by decide +kernel
theorem dX4_init_73 : decode cX4_init 73 = .ok (.if_icmp .ge 22, 3) := by decide +kernel
theorem dX4_init_76 : decode cX4_init 76 = .ok (.aload_n 0, 1) := by decide +kernel
theorem dX4_init_77 : decode cX4_init 77 = .ok (.getfield 35, 3) := by decide +kernel
theorem dX4_init_80 : decode cX4_init 80 = .ok (.iload_n 1, 1) := by decide +kernel
theorem dX4_init_81 : decode cX4_init 81 = .ok (.new 33, 3) := by decide +kernel
theorem dX4_init_84 : decode cX4_init 84 = .ok (.dup, 1) := by decide +kernel
theorem dX4_init_85 : decode cX4_init 85 = .ok (.invokespecial 43, 3) := by decide +kernel
theorem dX4_init_88 : decode cX4_init 88 = .ok (.aastore, 1) := by decide +kernel
theorem dX4_init_89 : decode cX4_init 89 = .ok (.iinc 1 1, 3) := by decide +kernel
theorem dX4_init_92 : decode cX4_init 92 = .ok (.goto (-21), 3) := by decide +kernel
theorem dX4_init_95 : decode cX4_init 95 = .ok (.return_, 1) := by decide +kernel
set_option maxRecDepth 20000 in
theorem ggX4_deed_X1_isKind : GoodIn wsX4_deed wsX1_isKind := goodIn_r _ [7, 8, 9, 10] (by decide +kernel) (by decide +kernel)
set_option maxRecDepth 20000 in
theorem gX4_deed_X1_isKind : GoodIn wsX4_deed (va_wsS RX4 44 yX1_isKind wsX1_isKind) := goodIn_app (goodIn_of _ (by decide +kernel)) ggX4_deed_X1_isKind
set_option maxRecDepth 20000 in
theorem ggX4_deed_X4_isShelf : GoodIn wsX4_deed wsX4_isShelf := goodIn_r _ [13, 14, 8, 9, 10] (by decide +kernel) (by decide +kernel)
set_option maxRecDepth 20000 in
theorem gX4_deed_X4_isShelf : GoodIn wsX4_deed (va_wsS RX4 50 yX4_isShelf wsX4_isShelf) := goodIn_app (goodIn_of _ (by decide +kernel)) ggX4_deed_X4_isShelf
set_option maxRecDepth 20000 in
theorem ggX4_deed_X4_found : GoodIn wsX4_deed wsX4_found := goodIn_r _ [18, 1, 19, 14, 8, 9, 10, 36, 37, 38, 39, 40, 41, 42] (by decide +kernel) (by decide +kernel)
set_option maxRecDepth 20000 in
theorem gX4_deed_X4_found : GoodIn wsX4_deed (wsV RX4 54 RX4 yX4_found wsX4_found) := goodIn_app (goodIn_of _ (by decide +kernel)) ggX4_deed_X4_found
set_option maxRecDepth 20000 in
theorem ggX4_deed_X0_isFull : GoodIn wsX4_deed wsX0_isFull := goodIn_r _ [24, 25, 43, 44, 45, 46, 47, 48, 49, 50, 51, 52, 53, 54, 55, 56, 57] (by decide +kernel) (by decide +kernel)
set_option maxRecDepth 20000 in
theorem gX4_deed_X0_isFull : GoodIn wsX4_deed (wsV RX4 58 RX0 yX0_isFull wsX0_isFull) := goodIn_app (goodIn_of _ (by decide +kernel)) ggX4_deed_X0_isFull
set_option maxRecDepth 20000 in
theorem ggX4_deed_X0_addDeed : GoodIn wsX4_deed wsX0_addDeed := goodIn_r _ [29, 25, 30, 31, 32, 33, 34, 35, 21, 22, 23, 24, 43, 44, 45, 46, 47, 48, 49, 50, 51, 52, 53, 54, 55, 56, 57] (by decide +kernel) (by decide +kernel)
set_option maxRecDepth 20000 in
theorem gX4_deed_X0_addDeed : GoodIn wsX4_deed (wsV RX4 63 RX0 yX0_addDeed wsX0_addDeed) := goodIn_app (goodIn_of _ (by decide +kernel)) ggX4_deed_X0_addDeed
theorem dX4_deed_0 : decode cX4_deed 0 = .ok (.iload_n 1, 1) := by decide +kernel
theorem dX4_deed_1 : decode cX4_deed 1 = .ok (.invokestatic 44, 3) := by decide +kernel
theorem dX4_deed_4 : decode cX4_deed 4 = .ok (.ifCond .eq 10, 3) := by decide +kernel
theorem dX4_deed_7 : decode cX4_deed 7 = .ok (.iload_n 2, 1) := by decide +kernel
theorem dX4_deed_8 : decode cX4_deed 8 = .ok (.invokestatic 50, 3) := by decide +kernel
theorem dX4_deed_11 : decode cX4_deed 11 = .ok (.ifCond .ne 10, 3) := by decide +kernel
theorem dX4_deed_14 : decode cX4_deed 14 = .ok (.aload_n 0, 1) := by decide +kernel
theorem dX4_deed_15 : decode cX4_deed 15 = .ok (.ldc 53, 2) := by decide +kernel
theorem dX4_deed_17 : decode cX4_deed 17 = .ok (.invokevirtual 54, 3) := by decide +kernel
theorem dX4_deed_20 : decode cX4_deed 20 = .ok (.ireturn, 1) := by decide +kernel
theorem dX4_deed_21 : decode cX4_deed 21 = .ok (.aload_n 0, 1) := by decide +kernel
theorem dX4_deed_22 : decode cX4_deed 22 = .ok (.getfield 12, 3) := by decide +kernel
theorem dX4_deed_25 : decode cX4_deed 25 = .ok (.invokevirtual 58, 3) := by decide +kernel
theorem dX4_deed_28 : decode cX4_deed 28 = .ok (.ifCond .eq 10, 3) := by decide +kernel
theorem dX4_deed_31 : decode cX4_deed 31 = .ok (.aload_n 0, 1) := by decide +kernel
theorem dX4_deed_32 : decode cX4_deed 32 = .ok (.ldc 62, 2) := by decide +kernel
theorem dX4_deed_34 : decode cX4_deed 34 = .ok (.invokevirtual 54, 3) := by decide +kernel
theorem dX4_deed_37 : decode cX4_deed 37 = .ok (.ireturn, 1) := by decide +kernel
theorem dX4_deed_38 : decode cX4_deed 38 = .ok (.aload_n 0, 1) := by decide +kernel
theorem dX4_deed_39 : decode cX4_deed 39 = .ok (.getfield 12, 3) := by decide +kernel
theorem dX4_deed_42 : decode cX4_deed 42 = .ok (.iload_n 1, 1) := by decide +kernel
theorem dX4_deed_43 : decode cX4_deed 43 = .ok (.iload_n 2, 1) := by decide +kernel
theorem dX4_deed_44 : decode cX4_deed 44 = .ok (.bipush 40, 2) := by decide +kernel
theorem dX4_deed_46 : decode cX4_deed 46 = .ok (.iconst (-1), 1) := by decide +kernel
theorem dX4_deed_47 : decode cX4_deed 47 = .ok (.invokevirtual 63, 3) := by decide +kernel
theorem dX4_deed_50 : decode cX4_deed 50 = .ok (.ireturn, 1) := by decide +kernel
set_option maxRecDepth 20000 in
theorem ggX4_of_X0_isDeed : GoodIn wsX4_of wsX0_isDeed := goodIn_r _ [13, 14, 15, 16, 17, 78, 79, 80, 81, 82, 83, 84, 85, 86, 87, 88, 89, 90, 91, 92] (by decide +kernel) (by decide +kernel)
set_option maxRecDepth 20000 in
theorem gX4_of_X0_isDeed : GoodIn wsX4_of (wsV RX4 67 RX0 yX0_isDeed wsX0_isDeed) := goodIn_app (goodIn_of _ (by decide +kernel)) ggX4_of_X0_isDeed
set_option maxRecDepth 20000 in
theorem ggX4_of_X4_found : GoodIn wsX4_of wsX4_found := goodIn_r _ [21, 2, 22, 23, 15, 16, 17, 71, 72, 73, 74, 75, 76, 77] (by decide +kernel) (by decide +kernel)
set_option maxRecDepth 20000 in
theorem gX4_of_X4_found : GoodIn wsX4_of (wsV RX4 54 RX4 yX4_found wsX4_found) := goodIn_app (goodIn_of _ (by decide +kernel)) ggX4_of_X4_found
set_option maxRecDepth 20000 in
theorem ggX4_of_X0_hasRun : GoodIn wsX4_of wsX0_hasRun := goodIn_r _ [27, 28, 29, 16, 30, 78, 79, 80, 81, 82, 83, 84, 85, 86, 87, 88, 89, 90, 91, 92] (by decide +kernel) (by decide +kernel)
set_option maxRecDepth 20000 in
theorem gX4_of_X0_hasRun : GoodIn wsX4_of (wsV RX4 82 RX0 yX0_hasRun wsX0_hasRun) := goodIn_app (goodIn_of _ (by decide +kernel)) ggX4_of_X0_hasRun
set_option maxRecDepth 20000 in
theorem ggX4_of_X1_stands : GoodIn wsX4_of wsX1_stands := goodIn_r _ [34] (by decide +kernel) (by decide +kernel)
set_option maxRecDepth 20000 in
theorem gX4_of_X1_stands : GoodIn wsX4_of (va_wsS RX4 88 yX1_stands wsX1_stands) := goodIn_app (goodIn_of _ (by decide +kernel)) ggX4_of_X1_stands
set_option maxRecDepth 20000 in
theorem ggX4_of_X1_runsAt : GoodIn wsX4_of wsX1_runsAt := goodIn_r _ [37] (by decide +kernel) (by decide +kernel)
set_option maxRecDepth 20000 in
theorem gX4_of_X1_runsAt : GoodIn wsX4_of (va_wsS RX4 92 yX1_runsAt wsX1_runsAt) := goodIn_app (goodIn_of _ (by decide +kernel)) ggX4_of_X1_runsAt
set_option maxRecDepth 20000 in
theorem ggX4_of_X0_heatOf : GoodIn wsX4_of wsX0_heatOf := goodIn_r _ [41, 42, 43, 12, 44, 45, 46, 47, 48, 49, 50, 51, 52, 53, 54, 55, 56, 29, 16, 30, 78, 79, 80, 81, 82, 83, 84, 85, 86, 87, 88, 89, 90, 91, 92] (by decide +kernel) (by decide +kernel)
set_option maxRecDepth 20000 in
theorem gX4_of_X0_heatOf : GoodIn wsX4_of (wsV RX4 99 RX0 yX0_heatOf wsX0_heatOf) := goodIn_app (goodIn_of _ (by decide +kernel)) ggX4_of_X0_heatOf
set_option maxRecDepth 20000 in
theorem ggX4_of_X1_feels : GoodIn wsX4_of wsX1_feels := goodIn_r _ [59] (by decide +kernel) (by decide +kernel)
set_option maxRecDepth 20000 in
theorem gX4_of_X1_feels : GoodIn wsX4_of (va_wsS RX4 102 yX1_feels wsX1_feels) := goodIn_app (goodIn_of _ (by decide +kernel)) ggX4_of_X1_feels
set_option maxRecDepth 20000 in
theorem ggX4_of_X0_peaceHolds : GoodIn wsX4_of wsX0_peaceHolds := goodIn_r _ [63, 28, 64, 65, 66, 12, 67, 14, 68, 29, 16, 30, 69, 70, 78, 79, 80, 81, 82, 83, 84, 85, 86, 87, 88, 89, 90, 91, 92] (by decide +kernel) (by decide +kernel)
set_option maxRecDepth 20000 in
theorem gX4_of_X0_peaceHolds : GoodIn wsX4_of (wsV RX4 105 RX0 yX0_peaceHolds wsX0_peaceHolds) := goodIn_app (goodIn_of _ (by decide +kernel)) ggX4_of_X0_peaceHolds
theorem dX4_of_0 : decode cX4_of 0 = .ok (.aload_n 0, 1) := by decide +kernel
theorem dX4_of_1 : decode cX4_of 1 = .ok (.getfield 12, 3) := by decide +kernel
theorem dX4_of_4 : decode cX4_of 4 = .ok (.iload_n 1, 1) := by decide +kernel
theorem dX4_of_5 : decode cX4_of 5 = .ok (.invokevirtual 67, 3) := by decide +kernel
theorem dX4_of_8 : decode cX4_of 8 = .ok (.ifCond .ne 10, 3) := by decide +kernel
theorem dX4_of_11 : decode cX4_of 11 = .ok (.aload_n 0, 1) := by decide +kernel
theorem dX4_of_12 : decode cX4_of 12 = .ok (.ldc 53, 2) := by decide +kernel
theorem dX4_of_14 : decode cX4_of 14 = .ok (.invokevirtual 54, 3) := by decide +kernel
theorem dX4_of_17 : decode cX4_of 17 = .ok (.ireturn, 1) := by decide +kernel
theorem dX4_of_18 : decode cX4_of 18 = .ok (.iload_n 2, 1) := by decide +kernel
theorem dX4_of_19 : decode cX4_of 19 = .ok (.tableswitch 208 0 9 #[53, 63, 73, 83, 93, 110, 120, 142, 155, 191], 53) := by decide +kernel
theorem dX4_of_72 : decode cX4_of 72 = .ok (.aload_n 0, 1) := by decide +kernel
theorem dX4_of_73 : decode cX4_of 73 = .ok (.getfield 12, 3) := by decide +kernel
theorem dX4_of_76 : decode cX4_of 76 = .ok (.getfield 70, 3) := by decide +kernel
theorem dX4_of_79 : decode cX4_of 79 = .ok (.iload_n 1, 1) := by decide +kernel
theorem dX4_of_80 : decode cX4_of 80 = .ok (.iaload, 1) := by decide +kernel
theorem dX4_of_81 : decode cX4_of 81 = .ok (.ireturn, 1) := by decide +kernel
theorem dX4_of_82 : decode cX4_of 82 = .ok (.aload_n 0, 1) := by decide +kernel
theorem dX4_of_83 : decode cX4_of 83 = .ok (.getfield 12, 3) := by decide +kernel
theorem dX4_of_86 : decode cX4_of 86 = .ok (.getfield 73, 3) := by decide +kernel
theorem dX4_of_89 : decode cX4_of 89 = .ok (.iload_n 1, 1) := by decide +kernel
theorem dX4_of_90 : decode cX4_of 90 = .ok (.iaload, 1) := by decide +kernel
theorem dX4_of_91 : decode cX4_of 91 = .ok (.ireturn, 1) := by decide +kernel
theorem dX4_of_92 : decode cX4_of 92 = .ok (.aload_n 0, 1) := by decide +kernel
theorem dX4_of_93 : decode cX4_of 93 = .ok (.getfield 12, 3) := by decide +kernel
theorem dX4_of_96 : decode cX4_of 96 = .ok (.getfield 76, 3) := by decide +kernel
theorem dX4_of_99 : decode cX4_of 99 = .ok (.iload_n 1, 1) := by decide +kernel
theorem dX4_of_100 : decode cX4_of 100 = .ok (.iaload, 1) := by decide +kernel
theorem dX4_of_101 : decode cX4_of 101 = .ok (.ireturn, 1) := by decide +kernel
theorem dX4_of_102 : decode cX4_of 102 = .ok (.aload_n 0, 1) := by decide +kernel
theorem dX4_of_103 : decode cX4_of 103 = .ok (.getfield 12, 3) := by decide +kernel
theorem dX4_of_106 : decode cX4_of 106 = .ok (.getfield 79, 3) := by decide +kernel
theorem dX4_of_109 : decode cX4_of 109 = .ok (.iload_n 1, 1) := by decide +kernel
theorem dX4_of_110 : decode cX4_of 110 = .ok (.iaload, 1) := by decide +kernel
theorem dX4_of_111 : decode cX4_of 111 = .ok (.ireturn, 1) := by decide +kernel
theorem dX4_of_112 : decode cX4_of 112 = .ok (.aload_n 0, 1) := by decide +kernel
theorem dX4_of_113 : decode cX4_of 113 = .ok (.getfield 12, 3) := by decide +kernel
theorem dX4_of_116 : decode cX4_of 116 = .ok (.iload_n 1, 1) := by decide +kernel
theorem dX4_of_117 : decode cX4_of 117 = .ok (.invokevirtual 82, 3) := by decide +kernel
theorem dX4_of_120 : decode cX4_of 120 = .ok (.ifCond .eq 7, 3) := by decide +kernel
theorem dX4_of_123 : decode cX4_of 123 = .ok (.iconst 1, 1) := by decide +kernel
theorem dX4_of_124 : decode cX4_of 124 = .ok (.goto 4, 3) := by decide +kernel
theorem dX4_of_127 : decode cX4_of 127 = .ok (.iconst 0, 1) := by decide +kernel
theorem dX4_of_128 : decode cX4_of 128 = .ok (.ireturn, 1) := by decide +kernel
theorem dX4_of_129 : decode cX4_of 129 = .ok (.aload_n 0, 1) := by decide +kernel
theorem dX4_of_130 : decode cX4_of 130 = .ok (.getfield 12, 3) := by decide +kernel
theorem dX4_of_133 : decode cX4_of 133 = .ok (.getfield 85, 3) := by decide +kernel
theorem dX4_of_136 : decode cX4_of 136 = .ok (.iload_n 1, 1) := by decide +kernel
theorem dX4_of_137 : decode cX4_of 137 = .ok (.iaload, 1) := by decide +kernel
theorem dX4_of_138 : decode cX4_of 138 = .ok (.ireturn, 1) := by decide +kernel
theorem dX4_of_139 : decode cX4_of 139 = .ok (.aload_n 0, 1) := by decide +kernel
theorem dX4_of_140 : decode cX4_of 140 = .ok (.getfield 12, 3) := by decide +kernel
theorem dX4_of_143 : decode cX4_of 143 = .ok (.getfield 70, 3) := by decide +kernel
theorem dX4_of_146 : decode cX4_of 146 = .ok (.iload_n 1, 1) := by decide +kernel
theorem dX4_of_147 : decode cX4_of 147 = .ok (.iaload, 1) := by decide +kernel
theorem dX4_of_148 : decode cX4_of 148 = .ok (.aload_n 0, 1) := by decide +kernel
theorem dX4_of_149 : decode cX4_of 149 = .ok (.getfield 12, 3) := by decide +kernel
theorem dX4_of_152 : decode cX4_of 152 = .ok (.getfield 76, 3) := by decide +kernel
theorem dX4_of_155 : decode cX4_of 155 = .ok (.iload_n 1, 1) := by decide +kernel
theorem dX4_of_156 : decode cX4_of 156 = .ok (.iaload, 1) := by decide +kernel
theorem dX4_of_157 : decode cX4_of 157 = .ok (.invokestatic 88, 3) := by decide +kernel
theorem dX4_of_160 : decode cX4_of 160 = .ok (.ireturn, 1) := by decide +kernel
theorem dX4_of_161 : decode cX4_of 161 = .ok (.aload_n 0, 1) := by decide +kernel
theorem dX4_of_162 : decode cX4_of 162 = .ok (.getfield 12, 3) := by decide +kernel
theorem dX4_of_165 : decode cX4_of 165 = .ok (.getfield 70, 3) := by decide +kernel
theorem dX4_of_168 : decode cX4_of 168 = .ok (.iload_n 1, 1) := by decide +kernel
theorem dX4_of_169 : decode cX4_of 169 = .ok (.iaload, 1) := by decide +kernel
theorem dX4_of_170 : decode cX4_of 170 = .ok (.invokestatic 92, 3) := by decide +kernel
theorem dX4_of_173 : decode cX4_of 173 = .ok (.ireturn, 1) := by decide +kernel
theorem dX4_of_174 : decode cX4_of 174 = .ok (.aload_n 0, 1) := by decide +kernel
theorem dX4_of_175 : decode cX4_of 175 = .ok (.getfield 12, 3) := by decide +kernel
theorem dX4_of_178 : decode cX4_of 178 = .ok (.getfield 70, 3) := by decide +kernel
theorem dX4_of_181 : decode cX4_of 181 = .ok (.iload_n 1, 1) := by decide +kernel
theorem dX4_of_182 : decode cX4_of 182 = .ok (.iaload, 1) := by decide +kernel
theorem dX4_of_183 : decode cX4_of 183 = .ok (.aload_n 0, 1) := by decide +kernel
theorem dX4_of_184 : decode cX4_of 184 = .ok (.getfield 12, 3) := by decide +kernel
theorem dX4_of_187 : decode cX4_of 187 = .ok (.aload_n 0, 1) := by decide +kernel
theorem dX4_of_188 : decode cX4_of 188 = .ok (.getfield 12, 3) := by decide +kernel
theorem dX4_of_191 : decode cX4_of 191 = .ok (.getfield 73, 3) := by decide +kernel
theorem dX4_of_194 : decode cX4_of 194 = .ok (.iload_n 1, 1) := by decide +kernel
theorem dX4_of_195 : decode cX4_of 195 = .ok (.iaload, 1) := by decide +kernel
theorem dX4_of_196 : decode cX4_of 196 = .ok (.aload_n 0, 1) := by decide +kernel
theorem dX4_of_197 : decode cX4_of 197 = .ok (.getfield 12, 3) := by decide +kernel
theorem dX4_of_200 : decode cX4_of 200 = .ok (.getfield 95, 3) := by decide +kernel
theorem dX4_of_203 : decode cX4_of 203 = .ok (.invokevirtual 99, 3) := by decide +kernel
theorem dX4_of_206 : decode cX4_of 206 = .ok (.invokestatic 102, 3) := by decide +kernel
theorem dX4_of_209 : decode cX4_of 209 = .ok (.ireturn, 1) := by decide +kernel
theorem dX4_of_210 : decode cX4_of 210 = .ok (.aload_n 0, 1) := by decide +kernel
theorem dX4_of_211 : decode cX4_of 211 = .ok (.getfield 12, 3) := by decide +kernel
theorem dX4_of_214 : decode cX4_of 214 = .ok (.iload_n 1, 1) := by decide +kernel
theorem dX4_of_215 : decode cX4_of 215 = .ok (.invokevirtual 105, 3) := by decide +kernel
theorem dX4_of_218 : decode cX4_of 218 = .ok (.ifCond .eq 7, 3) := by decide +kernel
theorem dX4_of_221 : decode cX4_of 221 = .ok (.iconst 1, 1) := by decide +kernel
theorem dX4_of_222 : decode cX4_of 222 = .ok (.goto 4, 3) := by decide +kernel
theorem dX4_of_225 : decode cX4_of 225 = .ok (.iconst 0, 1) := by decide +kernel
theorem dX4_of_226 : decode cX4_of 226 = .ok (.ireturn, 1) := by decide +kernel
theorem dX4_of_227 : decode cX4_of 227 = .ok (.aload_n 0, 1) := by decide +kernel
theorem dX4_of_228 : decode cX4_of 228 = .ok (.ldc 53, 2) := by decide +kernel
theorem dX4_of_230 : decode cX4_of 230 = .ok (.invokevirtual 54, 3) := by decide +kernel
theorem dX4_of_233 : decode cX4_of 233 = .ok (.ireturn, 1) := by decide +kernel
set_option maxRecDepth 20000 in
theorem ggX4_change_X0_isDeed : GoodIn wsX4_change wsX0_isDeed := goodIn_r _ [12, 13, 14, 15, 16, 43, 44, 45, 46, 47, 48, 49, 50, 51, 52, 53, 54, 55, 56, 57] (by decide +kernel) (by decide +kernel)
set_option maxRecDepth 20000 in
theorem gX4_change_X0_isDeed : GoodIn wsX4_change (wsV RX4 67 RX0 yX0_isDeed wsX0_isDeed) := goodIn_app (goodIn_of _ (by decide +kernel)) ggX4_change_X0_isDeed
set_option maxRecDepth 20000 in
theorem ggX4_change_X4_found : GoodIn wsX4_change wsX4_found := goodIn_r _ [20, 2, 21, 22, 14, 15, 16, 36, 37, 38, 39, 40, 41, 42] (by decide +kernel) (by decide +kernel)
set_option maxRecDepth 20000 in
theorem gX4_change_X4_found : GoodIn wsX4_change (wsV RX4 54 RX4 yX4_found wsX4_found) := goodIn_app (goodIn_of _ (by decide +kernel)) ggX4_change_X4_found
set_option maxRecDepth 20000 in
theorem ggX4_change_X1_isKind : GoodIn wsX4_change wsX1_isKind := goodIn_r _ [26, 14, 15, 16] (by decide +kernel) (by decide +kernel)
set_option maxRecDepth 20000 in
theorem gX4_change_X1_isKind : GoodIn wsX4_change (va_wsS RX4 44 yX1_isKind wsX1_isKind) := goodIn_app (goodIn_of _ (by decide +kernel)) ggX4_change_X1_isKind
set_option maxRecDepth 20000 in
theorem ggX4_change_X4_put : GoodIn wsX4_change wsX4_put := goodIn_r _ [29] (by decide +kernel) (by decide +kernel)
set_option maxRecDepth 20000 in
theorem gX4_change_X4_put : GoodIn wsX4_change (va_wsS RX4 108 yX4_put wsX4_put) := goodIn_app (goodIn_of _ (by decide +kernel)) ggX4_change_X4_put
set_option maxRecDepth 20000 in
theorem ggX4_change_X4_isShelf : GoodIn wsX4_change wsX4_isShelf := goodIn_r _ [32, 22, 14, 15, 16] (by decide +kernel) (by decide +kernel)
set_option maxRecDepth 20000 in
theorem gX4_change_X4_isShelf : GoodIn wsX4_change (va_wsS RX4 50 yX4_isShelf wsX4_isShelf) := goodIn_app (goodIn_of _ (by decide +kernel)) ggX4_change_X4_isShelf
set_option maxRecDepth 20000 in
theorem ggX4_change_X4_isWax : GoodIn wsX4_change wsX4_isWax := goodIn_r _ [35, 22, 14, 15, 16] (by decide +kernel) (by decide +kernel)
set_option maxRecDepth 20000 in
theorem gX4_change_X4_isWax : GoodIn wsX4_change (va_wsS RX4 112 yX4_isWax wsX4_isWax) := goodIn_app (goodIn_of _ (by decide +kernel)) ggX4_change_X4_isWax
set_option maxRecDepth 20000 in
theorem ggX4_change_X4_isWithin : GoodIn wsX4_change wsX4_isWithin := goodIn_r _ [16] (by decide +kernel) (by decide +kernel)
set_option maxRecDepth 20000 in
theorem gX4_change_X4_isWithin : GoodIn wsX4_change (va_wsS RX4 115 yX4_isWithin wsX4_isWithin) := goodIn_app (goodIn_of _ (by decide +kernel)) ggX4_change_X4_isWithin
theorem dX4_change_0 : decode cX4_change 0 = .ok (.aload_n 0, 1) := by decide +kernel
theorem dX4_change_1 : decode cX4_change 1 = .ok (.getfield 12, 3) := by decide +kernel
theorem dX4_change_4 : decode cX4_change 4 = .ok (.iload_n 1, 1) := by decide +kernel
theorem dX4_change_5 : decode cX4_change 5 = .ok (.invokevirtual 67, 3) := by decide +kernel
theorem dX4_change_8 : decode cX4_change 8 = .ok (.ifCond .ne 10, 3) := by decide +kernel
theorem dX4_change_11 : decode cX4_change 11 = .ok (.aload_n 0, 1) := by decide +kernel
theorem dX4_change_12 : decode cX4_change 12 = .ok (.ldc 53, 2) := by decide +kernel
theorem dX4_change_14 : decode cX4_change 14 = .ok (.invokevirtual 54, 3) := by decide +kernel
theorem dX4_change_17 : decode cX4_change 17 = .ok (.ireturn, 1) := by decide +kernel
theorem dX4_change_18 : decode cX4_change 18 = .ok (.iload_n 2, 1) := by decide +kernel
theorem dX4_change_19 : decode cX4_change 19 = .ok (.tableswitch 189 0 5 #[37, 66, 95, 124, 189, 156], 37) := by decide +kernel
theorem dX4_change_56 : decode cX4_change 56 = .ok (.iload_n 3, 1) := by decide +kernel
theorem dX4_change_57 : decode cX4_change 57 = .ok (.invokestatic 44, 3) := by decide +kernel
theorem dX4_change_60 : decode cX4_change 60 = .ok (.ifCond .eq 18, 3) := by decide +kernel
theorem dX4_change_63 : decode cX4_change 63 = .ok (.aload_n 0, 1) := by decide +kernel
theorem dX4_change_64 : decode cX4_change 64 = .ok (.getfield 12, 3) := by decide +kernel
theorem dX4_change_67 : decode cX4_change 67 = .ok (.getfield 70, 3) := by decide +kernel
theorem dX4_change_70 : decode cX4_change 70 = .ok (.iload_n 1, 1) := by decide +kernel
theorem dX4_change_71 : decode cX4_change 71 = .ok (.iload_n 3, 1) := by decide +kernel
theorem dX4_change_72 : decode cX4_change 72 = .ok (.invokestatic 108, 3) := by decide +kernel
theorem dX4_change_75 : decode cX4_change 75 = .ok (.goto 9, 3) := by decide +kernel
theorem dX4_change_78 : decode cX4_change 78 = .ok (.aload_n 0, 1) := by decide +kernel
theorem dX4_change_79 : decode cX4_change 79 = .ok (.ldc 53, 2) := by decide +kernel
theorem dX4_change_81 : decode cX4_change 81 = .ok (.invokevirtual 54, 3) := by decide +kernel
theorem dX4_change_84 : decode cX4_change 84 = .ok (.ireturn, 1) := by decide +kernel
theorem dX4_change_85 : decode cX4_change 85 = .ok (.iload_n 3, 1) := by decide +kernel
theorem dX4_change_86 : decode cX4_change 86 = .ok (.invokestatic 50, 3) := by decide +kernel
theorem dX4_change_89 : decode cX4_change 89 = .ok (.ifCond .eq 18, 3) := by decide +kernel
theorem dX4_change_92 : decode cX4_change 92 = .ok (.aload_n 0, 1) := by decide +kernel
theorem dX4_change_93 : decode cX4_change 93 = .ok (.getfield 12, 3) := by decide +kernel
theorem dX4_change_96 : decode cX4_change 96 = .ok (.getfield 73, 3) := by decide +kernel
theorem dX4_change_99 : decode cX4_change 99 = .ok (.iload_n 1, 1) := by decide +kernel
theorem dX4_change_100 : decode cX4_change 100 = .ok (.iload_n 3, 1) := by decide +kernel
theorem dX4_change_101 : decode cX4_change 101 = .ok (.invokestatic 108, 3) := by decide +kernel
theorem dX4_change_104 : decode cX4_change 104 = .ok (.goto 9, 3) := by decide +kernel
theorem dX4_change_107 : decode cX4_change 107 = .ok (.aload_n 0, 1) := by decide +kernel
theorem dX4_change_108 : decode cX4_change 108 = .ok (.ldc 53, 2) := by decide +kernel
theorem dX4_change_110 : decode cX4_change 110 = .ok (.invokevirtual 54, 3) := by decide +kernel
theorem dX4_change_113 : decode cX4_change 113 = .ok (.ireturn, 1) := by decide +kernel
theorem dX4_change_114 : decode cX4_change 114 = .ok (.iload_n 3, 1) := by decide +kernel
theorem dX4_change_115 : decode cX4_change 115 = .ok (.invokestatic 112, 3) := by decide +kernel
theorem dX4_change_118 : decode cX4_change 118 = .ok (.ifCond .eq 18, 3) := by decide +kernel
theorem dX4_change_121 : decode cX4_change 121 = .ok (.aload_n 0, 1) := by decide +kernel
theorem dX4_change_122 : decode cX4_change 122 = .ok (.getfield 12, 3) := by decide +kernel
theorem dX4_change_125 : decode cX4_change 125 = .ok (.getfield 76, 3) := by decide +kernel
theorem dX4_change_128 : decode cX4_change 128 = .ok (.iload_n 1, 1) := by decide +kernel
theorem dX4_change_129 : decode cX4_change 129 = .ok (.iload_n 3, 1) := by decide +kernel
theorem dX4_change_130 : decode cX4_change 130 = .ok (.invokestatic 108, 3) := by decide +kernel
theorem dX4_change_133 : decode cX4_change 133 = .ok (.goto 9, 3) := by decide +kernel
theorem dX4_change_136 : decode cX4_change 136 = .ok (.aload_n 0, 1) := by decide +kernel
theorem dX4_change_137 : decode cX4_change 137 = .ok (.ldc 53, 2) := by decide +kernel
theorem dX4_change_139 : decode cX4_change 139 = .ok (.invokevirtual 54, 3) := by decide +kernel
theorem dX4_change_142 : decode cX4_change 142 = .ok (.ireturn, 1) := by decide +kernel
theorem dX4_change_143 : decode cX4_change 143 = .ok (.iload_n 3, 1) := by decide +kernel
theorem dX4_change_144 : decode cX4_change 144 = .ok (.iconst 0, 1) := by decide +kernel
theorem dX4_change_145 : decode cX4_change 145 = .ok (.bipush 99, 2) := by decide +kernel
theorem dX4_change_147 : decode cX4_change 147 = .ok (.invokestatic 115, 3) := by decide +kernel
theorem dX4_change_150 : decode cX4_change 150 = .ok (.ifCond .eq 18, 3) := by decide +kernel
theorem dX4_change_153 : decode cX4_change 153 = .ok (.aload_n 0, 1) := by decide +kernel
theorem dX4_change_154 : decode cX4_change 154 = .ok (.getfield 12, 3) := by decide +kernel
theorem dX4_change_157 : decode cX4_change 157 = .ok (.getfield 79, 3) := by decide +kernel
theorem dX4_change_160 : decode cX4_change 160 = .ok (.iload_n 1, 1) := by decide +kernel
theorem dX4_change_161 : decode cX4_change 161 = .ok (.iload_n 3, 1) := by decide +kernel
theorem dX4_change_162 : decode cX4_change 162 = .ok (.invokestatic 108, 3) := by decide +kernel
theorem dX4_change_165 : decode cX4_change 165 = .ok (.goto 9, 3) := by decide +kernel
theorem dX4_change_168 : decode cX4_change 168 = .ok (.aload_n 0, 1) := by decide +kernel
theorem dX4_change_169 : decode cX4_change 169 = .ok (.ldc 53, 2) := by decide +kernel
theorem dX4_change_171 : decode cX4_change 171 = .ok (.invokevirtual 54, 3) := by decide +kernel
theorem dX4_change_174 : decode cX4_change 174 = .ok (.ireturn, 1) := by decide +kernel
theorem dX4_change_175 : decode cX4_change 175 = .ok (.iload_n 3, 1) := by decide +kernel
theorem dX4_change_176 : decode cX4_change 176 = .ok (.iconst (-1), 1) := by decide +kernel
theorem dX4_change_177 : decode cX4_change 177 = .ok (.iload_n 1, 1) := by decide +kernel
theorem dX4_change_178 : decode cX4_change 178 = .ok (.iconst 1, 1) := by decide +kernel
theorem dX4_change_179 : decode cX4_change 179 = .ok (.isub, 1) := by decide +kernel
theorem dX4_change_180 : decode cX4_change 180 = .ok (.invokestatic 115, 3) := by decide +kernel
theorem dX4_change_183 : decode cX4_change 183 = .ok (.ifCond .eq 18, 3) := by decide +kernel
theorem dX4_change_186 : decode cX4_change 186 = .ok (.aload_n 0, 1) := by decide +kernel
theorem dX4_change_187 : decode cX4_change 187 = .ok (.getfield 12, 3) := by decide +kernel
theorem dX4_change_190 : decode cX4_change 190 = .ok (.getfield 85, 3) := by decide +kernel
theorem dX4_change_193 : decode cX4_change 193 = .ok (.iload_n 1, 1) := by decide +kernel
theorem dX4_change_194 : decode cX4_change 194 = .ok (.iload_n 3, 1) := by decide +kernel
theorem dX4_change_195 : decode cX4_change 195 = .ok (.invokestatic 108, 3) := by decide +kernel
theorem dX4_change_198 : decode cX4_change 198 = .ok (.goto 9, 3) := by decide +kernel
theorem dX4_change_201 : decode cX4_change 201 = .ok (.aload_n 0, 1) := by decide +kernel
theorem dX4_change_202 : decode cX4_change 202 = .ok (.ldc 53, 2) := by decide +kernel
theorem dX4_change_204 : decode cX4_change 204 = .ok (.invokevirtual 54, 3) := by decide +kernel
theorem dX4_change_207 : decode cX4_change 207 = .ok (.ireturn, 1) := by decide +kernel
theorem dX4_change_208 : decode cX4_change 208 = .ok (.aload_n 0, 1) := by decide +kernel
theorem dX4_change_209 : decode cX4_change 209 = .ok (.ldc 53, 2) := by decide +kernel
theorem dX4_change_211 : decode cX4_change 211 = .ok (.invokevirtual 54, 3) := by decide +kernel
theorem dX4_change_214 : decode cX4_change 214 = .ok (.ireturn, 1) := by decide +kernel
set_option maxRecDepth 20000 in
theorem ggX4_renew_X0_isDeed : GoodIn wsX4_renew wsX0_isDeed := goodIn_r _ [9, 10, 11, 12, 13, 37, 38, 39, 40, 41, 42, 43, 44, 45, 46, 47, 48, 49, 50, 51] (by decide +kernel) (by decide +kernel)
set_option maxRecDepth 20000 in
theorem gX4_renew_X0_isDeed : GoodIn wsX4_renew (wsV RX4 67 RX0 yX0_isDeed wsX0_isDeed) := goodIn_app (goodIn_of _ (by decide +kernel)) ggX4_renew_X0_isDeed
set_option maxRecDepth 20000 in
theorem ggX4_renew_X4_found : GoodIn wsX4_renew wsX4_found := goodIn_r _ [17, 2, 18, 19, 11, 12, 13, 30, 31, 32, 33, 34, 35, 36] (by decide +kernel) (by decide +kernel)
set_option maxRecDepth 20000 in
theorem gX4_renew_X4_found : GoodIn wsX4_renew (wsV RX4 54 RX4 yX4_found wsX4_found) := goodIn_app (goodIn_of _ (by decide +kernel)) ggX4_renew_X4_found
set_option maxRecDepth 20000 in
theorem ggX4_renew_X0_hasRun : GoodIn wsX4_renew wsX0_hasRun := goodIn_r _ [23, 24, 25, 12, 26, 37, 38, 39, 40, 41, 42, 43, 44, 45, 46, 47, 48, 49, 50, 51] (by decide +kernel) (by decide +kernel)
set_option maxRecDepth 20000 in
theorem gX4_renew_X0_hasRun : GoodIn wsX4_renew (wsV RX4 82 RX0 yX0_hasRun wsX0_hasRun) := goodIn_app (goodIn_of _ (by decide +kernel)) ggX4_renew_X0_hasRun
set_option maxRecDepth 20000 in
theorem ggX4_renew_X4_without : GoodIn wsX4_renew wsX4_without := goodIn_r _ [29] (by decide +kernel) (by decide +kernel)
set_option maxRecDepth 20000 in
theorem gX4_renew_X4_without : GoodIn wsX4_renew (va_wsS RX4 122 yX4_without wsX4_without) := goodIn_app (goodIn_of _ (by decide +kernel)) ggX4_renew_X4_without
theorem dX4_renew_0 : decode cX4_renew 0 = .ok (.aload_n 0, 1) := by decide +kernel
theorem dX4_renew_1 : decode cX4_renew 1 = .ok (.getfield 12, 3) := by decide +kernel
theorem dX4_renew_4 : decode cX4_renew 4 = .ok (.iload_n 1, 1) := by decide +kernel
theorem dX4_renew_5 : decode cX4_renew 5 = .ok (.invokevirtual 67, 3) := by decide +kernel
theorem dX4_renew_8 : decode cX4_renew 8 = .ok (.ifCond .ne 10, 3) := by decide +kernel
theorem dX4_renew_11 : decode cX4_renew 11 = .ok (.aload_n 0, 1) := by decide +kernel
theorem dX4_renew_12 : decode cX4_renew 12 = .ok (.ldc 53, 2) := by decide +kernel
theorem dX4_renew_14 : decode cX4_renew 14 = .ok (.invokevirtual 54, 3) := by decide +kernel
theorem dX4_renew_17 : decode cX4_renew 17 = .ok (.ireturn, 1) := by decide +kernel
theorem dX4_renew_18 : decode cX4_renew 18 = .ok (.aload_n 0, 1) := by decide +kernel
theorem dX4_renew_19 : decode cX4_renew 19 = .ok (.getfield 12, 3) := by decide +kernel
theorem dX4_renew_22 : decode cX4_renew 22 = .ok (.iload_n 1, 1) := by decide +kernel
theorem dX4_renew_23 : decode cX4_renew 23 = .ok (.invokevirtual 82, 3) := by decide +kernel
theorem dX4_renew_26 : decode cX4_renew 26 = .ok (.ifCond .eq 7, 3) := by decide +kernel
theorem dX4_renew_29 : decode cX4_renew 29 = .ok (.iconst 1, 1) := by decide +kernel
theorem dX4_renew_30 : decode cX4_renew 30 = .ok (.goto 4, 3) := by decide +kernel
theorem dX4_renew_33 : decode cX4_renew 33 = .ok (.iconst 0, 1) := by decide +kernel
theorem dX4_renew_34 : decode cX4_renew 34 = .ok (.istore_n 2, 1) := by decide +kernel
theorem dX4_renew_35 : decode cX4_renew 35 = .ok (.aload_n 0, 1) := by decide +kernel
theorem dX4_renew_36 : decode cX4_renew 36 = .ok (.getfield 12, 3) := by decide +kernel
theorem dX4_renew_39 : decode cX4_renew 39 = .ok (.getfield 79, 3) := by decide +kernel
theorem dX4_renew_42 : decode cX4_renew 42 = .ok (.iload_n 1, 1) := by decide +kernel
theorem dX4_renew_43 : decode cX4_renew 43 = .ok (.iconst 0, 1) := by decide +kernel
theorem dX4_renew_44 : decode cX4_renew 44 = .ok (.iastore, 1) := by decide +kernel
theorem dX4_renew_45 : decode cX4_renew 45 = .ok (.aload_n 0, 1) := by decide +kernel
theorem dX4_renew_46 : decode cX4_renew 46 = .ok (.getfield 12, 3) := by decide +kernel
theorem dX4_renew_49 : decode cX4_renew 49 = .ok (.aload_n 0, 1) := by decide +kernel
theorem dX4_renew_50 : decode cX4_renew 50 = .ok (.getfield 12, 3) := by decide +kernel
theorem dX4_renew_53 : decode cX4_renew 53 = .ok (.getfield 119, 3) := by decide +kernel
theorem dX4_renew_56 : decode cX4_renew 56 = .ok (.iload_n 1, 1) := by decide +kernel
theorem dX4_renew_57 : decode cX4_renew 57 = .ok (.invokestatic 122, 3) := by decide +kernel
theorem dX4_renew_60 : decode cX4_renew 60 = .ok (.putfield 119, 3) := by decide +kernel
theorem dX4_renew_63 : decode cX4_renew 63 = .ok (.iload_n 2, 1) := by decide +kernel
theorem dX4_renew_64 : decode cX4_renew 64 = .ok (.ireturn, 1) := by decide +kernel
set_option maxRecDepth 20000 in
theorem ggX4_shelf_X4_isShelf : GoodIn wsX4_shelf wsX4_isShelf := goodIn_r _ [9, 10, 11, 8, 12] (by decide +kernel) (by decide +kernel)
set_option maxRecDepth 20000 in
theorem gX4_shelf_X4_isShelf : GoodIn wsX4_shelf (va_wsS RX4 50 yX4_isShelf wsX4_isShelf) := goodIn_app (goodIn_of _ (by decide +kernel)) ggX4_shelf_X4_isShelf
set_option maxRecDepth 20000 in
theorem ggX4_shelf_X4_found : GoodIn wsX4_shelf wsX4_found := goodIn_r _ [16, 1, 17, 10, 11, 8, 12, 39, 40, 41, 42, 43, 44, 45] (by decide +kernel) (by decide +kernel)
set_option maxRecDepth 20000 in
theorem gX4_shelf_X4_found : GoodIn wsX4_shelf (wsV RX4 54 RX4 yX4_found wsX4_found) := goodIn_app (goodIn_of _ (by decide +kernel)) ggX4_shelf_X4_found
set_option maxRecDepth 20000 in
theorem ggX4_shelf_X4_isWithin : GoodIn wsX4_shelf wsX4_isWithin := goodIn_r _ [12] (by decide +kernel) (by decide +kernel)
set_option maxRecDepth 20000 in
theorem gX4_shelf_X4_isWithin : GoodIn wsX4_shelf (va_wsS RX4 115 yX4_isWithin wsX4_isWithin) := goodIn_app (goodIn_of _ (by decide +kernel)) ggX4_shelf_X4_isWithin
set_option maxRecDepth 20000 in
theorem ggX4_shelf_X4_put : GoodIn wsX4_shelf wsX4_put := goodIn_r _ [20] (by decide +kernel) (by decide +kernel)
set_option maxRecDepth 20000 in
theorem gX4_shelf_X4_put : GoodIn wsX4_shelf (va_wsS RX4 108 yX4_put wsX4_put) := goodIn_app (goodIn_of _ (by decide +kernel)) ggX4_shelf_X4_put
set_option maxRecDepth 20000 in
theorem ggX4_shelf_X4_has : GoodIn wsX4_shelf wsX4_has := goodIn_r _ [23] (by decide +kernel) (by decide +kernel)
set_option maxRecDepth 20000 in
theorem gX4_shelf_X4_has : GoodIn wsX4_shelf (va_wsS RX4 131 yX4_has wsX4_has) := goodIn_app (goodIn_of _ (by decide +kernel)) ggX4_shelf_X4_has
set_option maxRecDepth 20000 in
theorem ggX4_shelf_X0_setShutter : GoodIn wsX4_shelf wsX0_setShutter := goodIn_r _ [28, 29, 30, 8, 31, 32, 33, 46, 47, 48, 49, 50, 51, 52, 53, 54, 55, 56, 57, 58, 59, 60] (by decide +kernel) (by decide +kernel)
set_option maxRecDepth 20000 in
theorem gX4_shelf_X0_setShutter : GoodIn wsX4_shelf (wsV RX4 135 RX0 yX0_setShutter wsX0_setShutter) := goodIn_app (goodIn_of _ (by decide +kernel)) ggX4_shelf_X0_setShutter
set_option maxRecDepth 20000 in
theorem ggX4_shelf_X0_setCandle : GoodIn wsX4_shelf wsX0_setCandle := goodIn_r _ [37, 38, 30, 8, 31, 32, 33, 46, 47, 48, 49, 50, 51, 52, 53, 54, 55, 56, 57, 58, 59, 60] (by decide +kernel) (by decide +kernel)
set_option maxRecDepth 20000 in
theorem gX4_shelf_X0_setCandle : GoodIn wsX4_shelf (wsV RX4 142 RX0 yX0_setCandle wsX0_setCandle) := goodIn_app (goodIn_of _ (by decide +kernel)) ggX4_shelf_X0_setCandle
theorem dX4_shelf_0 : decode cX4_shelf 0 = .ok (.iload_n 1, 1) := by decide +kernel
theorem dX4_shelf_1 : decode cX4_shelf 1 = .ok (.invokestatic 50, 3) := by decide +kernel
theorem dX4_shelf_4 : decode cX4_shelf 4 = .ok (.ifCond .ne 10, 3) := by decide +kernel
theorem dX4_shelf_7 : decode cX4_shelf 7 = .ok (.aload_n 0, 1) := by decide +kernel
theorem dX4_shelf_8 : decode cX4_shelf 8 = .ok (.ldc 53, 2) := by decide +kernel
theorem dX4_shelf_10 : decode cX4_shelf 10 = .ok (.invokevirtual 54, 3) := by decide +kernel
theorem dX4_shelf_13 : decode cX4_shelf 13 = .ok (.ireturn, 1) := by decide +kernel
theorem dX4_shelf_14 : decode cX4_shelf 14 = .ok (.iload_n 2, 1) := by decide +kernel
theorem dX4_shelf_15 : decode cX4_shelf 15 = .ok (.iconst 1, 1) := by decide +kernel
theorem dX4_shelf_16 : decode cX4_shelf 16 = .ok (.if_icmp .ne 35, 3) := by decide +kernel
theorem dX4_shelf_19 : decode cX4_shelf 19 = .ok (.iload_n 3, 1) := by decide +kernel
theorem dX4_shelf_20 : decode cX4_shelf 20 = .ok (.iconst 0, 1) := by decide +kernel
theorem dX4_shelf_21 : decode cX4_shelf 21 = .ok (.bipush 99, 2) := by decide +kernel
theorem dX4_shelf_23 : decode cX4_shelf 23 = .ok (.invokestatic 115, 3) := by decide +kernel
theorem dX4_shelf_26 : decode cX4_shelf 26 = .ok (.ifCond .eq 18, 3) := by decide +kernel
theorem dX4_shelf_29 : decode cX4_shelf 29 = .ok (.aload_n 0, 1) := by decide +kernel
theorem dX4_shelf_30 : decode cX4_shelf 30 = .ok (.getfield 12, 3) := by decide +kernel
theorem dX4_shelf_33 : decode cX4_shelf 33 = .ok (.getfield 125, 3) := by decide +kernel
theorem dX4_shelf_36 : decode cX4_shelf 36 = .ok (.iload_n 1, 1) := by decide +kernel
theorem dX4_shelf_37 : decode cX4_shelf 37 = .ok (.iload_n 3, 1) := by decide +kernel
theorem dX4_shelf_38 : decode cX4_shelf 38 = .ok (.invokestatic 108, 3) := by decide +kernel
theorem dX4_shelf_41 : decode cX4_shelf 41 = .ok (.goto 9, 3) := by decide +kernel
theorem dX4_shelf_44 : decode cX4_shelf 44 = .ok (.aload_n 0, 1) := by decide +kernel
theorem dX4_shelf_45 : decode cX4_shelf 45 = .ok (.ldc 53, 2) := by decide +kernel
theorem dX4_shelf_47 : decode cX4_shelf 47 = .ok (.invokevirtual 54, 3) := by decide +kernel
theorem dX4_shelf_50 : decode cX4_shelf 50 = .ok (.ireturn, 1) := by decide +kernel
theorem dX4_shelf_51 : decode cX4_shelf 51 = .ok (.iload_n 3, 1) := by decide +kernel
theorem dX4_shelf_52 : decode cX4_shelf 52 = .ok (.iconst 0, 1) := by decide +kernel
theorem dX4_shelf_53 : decode cX4_shelf 53 = .ok (.iconst 1, 1) := by decide +kernel
theorem dX4_shelf_54 : decode cX4_shelf 54 = .ok (.invokestatic 115, 3) := by decide +kernel
theorem dX4_shelf_57 : decode cX4_shelf 57 = .ok (.ifCond .ne 10, 3) := by decide +kernel
theorem dX4_shelf_60 : decode cX4_shelf 60 = .ok (.aload_n 0, 1) := by decide +kernel
theorem dX4_shelf_61 : decode cX4_shelf 61 = .ok (.ldc 53, 2) := by decide +kernel
theorem dX4_shelf_63 : decode cX4_shelf 63 = .ok (.invokevirtual 54, 3) := by decide +kernel
theorem dX4_shelf_66 : decode cX4_shelf 66 = .ok (.ireturn, 1) := by decide +kernel
theorem dX4_shelf_67 : decode cX4_shelf 67 = .ok (.iload_n 2, 1) := by decide +kernel
theorem dX4_shelf_68 : decode cX4_shelf 68 = .ok (.lookupswitch 112 #[(0, 28), (2, 70)], 28) := by decide +kernel
theorem dX4_shelf_96 : decode cX4_shelf 96 = .ok (.aload_n 0, 1) := by decide +kernel
theorem dX4_shelf_97 : decode cX4_shelf 97 = .ok (.getfield 12, 3) := by decide +kernel
theorem dX4_shelf_100 : decode cX4_shelf 100 = .ok (.getfield 128, 3) := by decide +kernel
theorem dX4_shelf_103 : decode cX4_shelf 103 = .ok (.iload_n 1, 1) := by decide +kernel
theorem dX4_shelf_104 : decode cX4_shelf 104 = .ok (.invokestatic 131, 3) := by decide +kernel
theorem dX4_shelf_107 : decode cX4_shelf 107 = .ok (.ifCond .eq 7, 3) := by decide +kernel
theorem dX4_shelf_110 : decode cX4_shelf 110 = .ok (.iconst 1, 1) := by decide +kernel
theorem dX4_shelf_111 : decode cX4_shelf 111 = .ok (.goto 4, 3) := by decide +kernel
theorem dX4_shelf_114 : decode cX4_shelf 114 = .ok (.iconst 0, 1) := by decide +kernel
theorem dX4_shelf_115 : decode cX4_shelf 115 = .ok (.istore 4, 2) := by decide +kernel
theorem dX4_shelf_117 : decode cX4_shelf 117 = .ok (.aload_n 0, 1) := by decide +kernel
theorem dX4_shelf_118 : decode cX4_shelf 118 = .ok (.getfield 12, 3) := by decide +kernel
theorem dX4_shelf_121 : decode cX4_shelf 121 = .ok (.iload_n 1, 1) := by decide +kernel
theorem dX4_shelf_122 : decode cX4_shelf 122 = .ok (.iload_n 3, 1) := by decide +kernel
theorem dX4_shelf_123 : decode cX4_shelf 123 = .ok (.iconst 1, 1) := by decide +kernel
theorem dX4_shelf_124 : decode cX4_shelf 124 = .ok (.if_icmp .ne 7, 3) := by decide +kernel
theorem dX4_shelf_127 : decode cX4_shelf 127 = .ok (.iconst 1, 1) := by decide +kernel
theorem dX4_shelf_128 : decode cX4_shelf 128 = .ok (.goto 4, 3) := by decide +kernel
theorem dX4_shelf_131 : decode cX4_shelf 131 = .ok (.iconst 0, 1) := by decide +kernel
theorem dX4_shelf_132 : decode cX4_shelf 132 = .ok (.invokevirtual 135, 3) := by decide +kernel
theorem dX4_shelf_135 : decode cX4_shelf 135 = .ok (.iload 4, 2) := by decide +kernel
theorem dX4_shelf_137 : decode cX4_shelf 137 = .ok (.ireturn, 1) := by decide +kernel
theorem dX4_shelf_138 : decode cX4_shelf 138 = .ok (.aload_n 0, 1) := by decide +kernel
theorem dX4_shelf_139 : decode cX4_shelf 139 = .ok (.getfield 12, 3) := by decide +kernel
theorem dX4_shelf_142 : decode cX4_shelf 142 = .ok (.getfield 139, 3) := by decide +kernel
theorem dX4_shelf_145 : decode cX4_shelf 145 = .ok (.iload_n 1, 1) := by decide +kernel
theorem dX4_shelf_146 : decode cX4_shelf 146 = .ok (.invokestatic 131, 3) := by decide +kernel
theorem dX4_shelf_149 : decode cX4_shelf 149 = .ok (.ifCond .eq 7, 3) := by decide +kernel
theorem dX4_shelf_152 : decode cX4_shelf 152 = .ok (.iconst 1, 1) := by decide +kernel
theorem dX4_shelf_153 : decode cX4_shelf 153 = .ok (.goto 4, 3) := by decide +kernel
theorem dX4_shelf_156 : decode cX4_shelf 156 = .ok (.iconst 0, 1) := by decide +kernel
theorem dX4_shelf_157 : decode cX4_shelf 157 = .ok (.istore 4, 2) := by decide +kernel
theorem dX4_shelf_159 : decode cX4_shelf 159 = .ok (.aload_n 0, 1) := by decide +kernel
theorem dX4_shelf_160 : decode cX4_shelf 160 = .ok (.getfield 12, 3) := by decide +kernel
theorem dX4_shelf_163 : decode cX4_shelf 163 = .ok (.iload_n 1, 1) := by decide +kernel
theorem dX4_shelf_164 : decode cX4_shelf 164 = .ok (.iload_n 3, 1) := by decide +kernel
theorem dX4_shelf_165 : decode cX4_shelf 165 = .ok (.iconst 1, 1) := by decide +kernel
theorem dX4_shelf_166 : decode cX4_shelf 166 = .ok (.if_icmp .ne 7, 3) := by decide +kernel
theorem dX4_shelf_169 : decode cX4_shelf 169 = .ok (.iconst 1, 1) := by decide +kernel
theorem dX4_shelf_170 : decode cX4_shelf 170 = .ok (.goto 4, 3) := by decide +kernel
theorem dX4_shelf_173 : decode cX4_shelf 173 = .ok (.iconst 0, 1) := by decide +kernel
theorem dX4_shelf_174 : decode cX4_shelf 174 = .ok (.invokevirtual 142, 3) := by decide +kernel
theorem dX4_shelf_177 : decode cX4_shelf 177 = .ok (.iload 4, 2) := by decide +kernel
theorem dX4_shelf_179 : decode cX4_shelf 179 = .ok (.ireturn, 1) := by decide +kernel
theorem dX4_shelf_180 : decode cX4_shelf 180 = .ok (.aload_n 0, 1) := by decide +kernel
theorem dX4_shelf_181 : decode cX4_shelf 181 = .ok (.ldc 53, 2) := by decide +kernel
theorem dX4_shelf_183 : decode cX4_shelf 183 = .ok (.invokevirtual 54, 3) := by decide +kernel
theorem dX4_shelf_186 : decode cX4_shelf 186 = .ok (.ireturn, 1) := by decide +kernel
set_option maxRecDepth 20000 in
theorem ggX4_summer_X4_isWithin : GoodIn wsX4_summer wsX4_isWithin := goodIn_r _ [7] (by decide +kernel) (by decide +kernel)
set_option maxRecDepth 20000 in
theorem gX4_summer_X4_isWithin : GoodIn wsX4_summer (va_wsS RX4 115 yX4_isWithin wsX4_isWithin) := goodIn_app (goodIn_of _ (by decide +kernel)) ggX4_summer_X4_isWithin
set_option maxRecDepth 20000 in
theorem ggX4_summer_X4_found : GoodIn wsX4_summer wsX4_found := goodIn_r _ [11, 1, 12, 4, 5, 6, 7, 13, 14, 15, 16, 17, 18, 19] (by decide +kernel) (by decide +kernel)
set_option maxRecDepth 20000 in
theorem gX4_summer_X4_found : GoodIn wsX4_summer (wsV RX4 54 RX4 yX4_found wsX4_found) := goodIn_app (goodIn_of _ (by decide +kernel)) ggX4_summer_X4_found
theorem dX4_summer_0 : decode cX4_summer 0 = .ok (.iload_n 1, 1) := by decide +kernel
theorem dX4_summer_1 : decode cX4_summer 1 = .ok (.iconst 0, 1) := by decide +kernel
theorem dX4_summer_2 : decode cX4_summer 2 = .ok (.bipush 40, 2) := by decide +kernel
theorem dX4_summer_4 : decode cX4_summer 4 = .ok (.invokestatic 115, 3) := by decide +kernel
theorem dX4_summer_7 : decode cX4_summer 7 = .ok (.ifCond .ne 10, 3) := by decide +kernel
theorem dX4_summer_10 : decode cX4_summer 10 = .ok (.aload_n 0, 1) := by decide +kernel
theorem dX4_summer_11 : decode cX4_summer 11 = .ok (.ldc 53, 2) := by decide +kernel
theorem dX4_summer_13 : decode cX4_summer 13 = .ok (.invokevirtual 54, 3) := by decide +kernel
theorem dX4_summer_16 : decode cX4_summer 16 = .ok (.ireturn, 1) := by decide +kernel
theorem dX4_summer_17 : decode cX4_summer 17 = .ok (.aload_n 0, 1) := by decide +kernel
theorem dX4_summer_18 : decode cX4_summer 18 = .ok (.getfield 12, 3) := by decide +kernel
theorem dX4_summer_21 : decode cX4_summer 21 = .ok (.getfield 145, 3) := by decide +kernel
theorem dX4_summer_24 : decode cX4_summer 24 = .ok (.istore_n 2, 1) := by decide +kernel
theorem dX4_summer_25 : decode cX4_summer 25 = .ok (.aload_n 0, 1) := by decide +kernel
theorem dX4_summer_26 : decode cX4_summer 26 = .ok (.getfield 12, 3) := by decide +kernel
theorem dX4_summer_29 : decode cX4_summer 29 = .ok (.iload_n 1, 1) := by decide +kernel
theorem dX4_summer_30 : decode cX4_summer 30 = .ok (.putfield 145, 3) := by decide +kernel
theorem dX4_summer_33 : decode cX4_summer 33 = .ok (.iload_n 2, 1) := by decide +kernel
theorem dX4_summer_34 : decode cX4_summer 34 = .ok (.ireturn, 1) := by decide +kernel
set_option maxRecDepth 20000 in
theorem ggX4_sun_X4_isWithin : GoodIn wsX4_sun wsX4_isWithin := goodIn_r _ [5] (by decide +kernel) (by decide +kernel)
set_option maxRecDepth 20000 in
theorem gX4_sun_X4_isWithin : GoodIn wsX4_sun (va_wsS RX4 115 yX4_isWithin wsX4_isWithin) := goodIn_app (goodIn_of _ (by decide +kernel)) ggX4_sun_X4_isWithin
set_option maxRecDepth 20000 in
theorem ggX4_sun_X0_sunAt : GoodIn wsX4_sun wsX0_sunAt := goodIn_r _ [9, 10, 11, 12, 13] (by decide +kernel) (by decide +kernel)
set_option maxRecDepth 20000 in
theorem gX4_sun_X0_sunAt : GoodIn wsX4_sun (va_wsS RX4 148 yX0_sunAt wsX0_sunAt) := goodIn_app (goodIn_of _ (by decide +kernel)) ggX4_sun_X0_sunAt
set_option maxRecDepth 20000 in
theorem ggX4_sun_X4_found : GoodIn wsX4_sun wsX4_found := goodIn_r _ [17, 1, 18, 2, 3, 4, 5, 19, 20, 21, 22, 23, 24, 25] (by decide +kernel) (by decide +kernel)
set_option maxRecDepth 20000 in
theorem gX4_sun_X4_found : GoodIn wsX4_sun (wsV RX4 54 RX4 yX4_found wsX4_found) := goodIn_app (goodIn_of _ (by decide +kernel)) ggX4_sun_X4_found
theorem dX4_sun_0 : decode cX4_sun 0 = .ok (.iload_n 1, 1) := by decide +kernel
theorem dX4_sun_1 : decode cX4_sun 1 = .ok (.iconst 0, 1) := by decide +kernel
theorem dX4_sun_2 : decode cX4_sun 2 = .ok (.sipush 9999, 3) := by decide +kernel
theorem dX4_sun_5 : decode cX4_sun 5 = .ok (.invokestatic 115, 3) := by decide +kernel
theorem dX4_sun_8 : decode cX4_sun 8 = .ok (.ifCond .eq 10, 3) := by decide +kernel
theorem dX4_sun_11 : decode cX4_sun 11 = .ok (.iload_n 1, 1) := by decide +kernel
theorem dX4_sun_12 : decode cX4_sun 12 = .ok (.invokestatic 148, 3) := by decide +kernel
theorem dX4_sun_15 : decode cX4_sun 15 = .ok (.goto 9, 3) := by decide +kernel
theorem dX4_sun_18 : decode cX4_sun 18 = .ok (.aload_n 0, 1) := by decide +kernel
theorem dX4_sun_19 : decode cX4_sun 19 = .ok (.ldc 53, 2) := by decide +kernel
theorem dX4_sun_21 : decode cX4_sun 21 = .ok (.invokevirtual 54, 3) := by decide +kernel
theorem dX4_sun_24 : decode cX4_sun 24 = .ok (.ireturn, 1) := by decide +kernel
set_option maxRecDepth 20000 in
theorem ggX4_heat_X4_isShelf : GoodIn wsX4_heat wsX4_isShelf := goodIn_r _ [6, 7, 8, 5, 9] (by decide +kernel) (by decide +kernel)
set_option maxRecDepth 20000 in
theorem gX4_heat_X4_isShelf : GoodIn wsX4_heat (va_wsS RX4 50 yX4_isShelf wsX4_isShelf) := goodIn_app (goodIn_of _ (by decide +kernel)) ggX4_heat_X4_isShelf
set_option maxRecDepth 20000 in
theorem ggX4_heat_X4_isWithin : GoodIn wsX4_heat wsX4_isWithin := goodIn_r _ [9] (by decide +kernel) (by decide +kernel)
set_option maxRecDepth 20000 in
theorem gX4_heat_X4_isWithin : GoodIn wsX4_heat (va_wsS RX4 115 yX4_isWithin wsX4_isWithin) := goodIn_app (goodIn_of _ (by decide +kernel)) ggX4_heat_X4_isWithin
set_option maxRecDepth 20000 in
theorem ggX4_heat_X4_found : GoodIn wsX4_heat wsX4_found := goodIn_r _ [13, 1, 14, 7, 8, 5, 9, 37, 38, 39, 40, 41, 42, 43] (by decide +kernel) (by decide +kernel)
set_option maxRecDepth 20000 in
theorem gX4_heat_X4_found : GoodIn wsX4_heat (wsV RX4 54 RX4 yX4_found wsX4_found) := goodIn_app (goodIn_of _ (by decide +kernel)) ggX4_heat_X4_found
set_option maxRecDepth 20000 in
theorem ggX4_heat_X0_heatOf : GoodIn wsX4_heat wsX0_heatOf := goodIn_r _ [19, 20, 21, 18, 22, 23, 24, 25, 26, 27, 28, 29, 30, 31, 32, 33, 34, 35, 5, 36, 44, 45, 46, 47, 48, 49, 50, 51, 52, 53, 54, 55, 56, 57, 58] (by decide +kernel) (by decide +kernel)
set_option maxRecDepth 20000 in
theorem gX4_heat_X0_heatOf : GoodIn wsX4_heat (wsV RX4 99 RX0 yX0_heatOf wsX0_heatOf) := goodIn_app (goodIn_of _ (by decide +kernel)) ggX4_heat_X0_heatOf
theorem dX4_heat_0 : decode cX4_heat 0 = .ok (.iload_n 1, 1) := by decide +kernel
theorem dX4_heat_1 : decode cX4_heat 1 = .ok (.invokestatic 50, 3) := by decide +kernel
theorem dX4_heat_4 : decode cX4_heat 4 = .ok (.ifCond .eq 14, 3) := by decide +kernel
theorem dX4_heat_7 : decode cX4_heat 7 = .ok (.iload_n 2, 1) := by decide +kernel
theorem dX4_heat_8 : decode cX4_heat 8 = .ok (.iconst 0, 1) := by decide +kernel
theorem dX4_heat_9 : decode cX4_heat 9 = .ok (.sipush 9999, 3) := by decide +kernel
theorem dX4_heat_12 : decode cX4_heat 12 = .ok (.invokestatic 115, 3) := by decide +kernel
theorem dX4_heat_15 : decode cX4_heat 15 = .ok (.ifCond .ne 10, 3) := by decide +kernel
theorem dX4_heat_18 : decode cX4_heat 18 = .ok (.aload_n 0, 1) := by decide +kernel
theorem dX4_heat_19 : decode cX4_heat 19 = .ok (.ldc 53, 2) := by decide +kernel
theorem dX4_heat_21 : decode cX4_heat 21 = .ok (.invokevirtual 54, 3) := by decide +kernel
theorem dX4_heat_24 : decode cX4_heat 24 = .ok (.ireturn, 1) := by decide +kernel
theorem dX4_heat_25 : decode cX4_heat 25 = .ok (.aload_n 0, 1) := by decide +kernel
theorem dX4_heat_26 : decode cX4_heat 26 = .ok (.getfield 12, 3) := by decide +kernel
theorem dX4_heat_29 : decode cX4_heat 29 = .ok (.iload_n 1, 1) := by decide +kernel
theorem dX4_heat_30 : decode cX4_heat 30 = .ok (.iload_n 2, 1) := by decide +kernel
theorem dX4_heat_31 : decode cX4_heat 31 = .ok (.invokevirtual 99, 3) := by decide +kernel
theorem dX4_heat_34 : decode cX4_heat 34 = .ok (.ireturn, 1) := by decide +kernel
set_option maxRecDepth 20000 in
theorem ggX4_lie_X4_isShelf : GoodIn wsX4_lie wsX4_isShelf := goodIn_r _ [8, 9, 10, 7, 11] (by decide +kernel) (by decide +kernel)
set_option maxRecDepth 20000 in
theorem gX4_lie_X4_isShelf : GoodIn wsX4_lie (va_wsS RX4 50 yX4_isShelf wsX4_isShelf) := goodIn_app (goodIn_of _ (by decide +kernel)) ggX4_lie_X4_isShelf
set_option maxRecDepth 20000 in
theorem ggX4_lie_X4_found : GoodIn wsX4_lie wsX4_found := goodIn_r _ [15, 1, 16, 9, 10, 7, 11, 20, 21, 22, 23, 24, 25, 26] (by decide +kernel) (by decide +kernel)
set_option maxRecDepth 20000 in
theorem gX4_lie_X4_found : GoodIn wsX4_lie (wsV RX4 54 RX4 yX4_found wsX4_found) := goodIn_app (goodIn_of _ (by decide +kernel)) ggX4_lie_X4_found
set_option maxRecDepth 20000 in
theorem ggX4_lie_X4_with : GoodIn wsX4_lie wsX4_with := goodIn_r _ [19] (by decide +kernel) (by decide +kernel)
set_option maxRecDepth 20000 in
theorem gX4_lie_X4_with : GoodIn wsX4_lie (va_wsS RX4 154 yX4_with wsX4_with) := goodIn_app (goodIn_of _ (by decide +kernel)) ggX4_lie_X4_with
theorem dX4_lie_0 : decode cX4_lie 0 = .ok (.iload_n 1, 1) := by decide +kernel
theorem dX4_lie_1 : decode cX4_lie 1 = .ok (.invokestatic 50, 3) := by decide +kernel
theorem dX4_lie_4 : decode cX4_lie 4 = .ok (.ifCond .ne 10, 3) := by decide +kernel
theorem dX4_lie_7 : decode cX4_lie 7 = .ok (.aload_n 0, 1) := by decide +kernel
theorem dX4_lie_8 : decode cX4_lie 8 = .ok (.ldc 53, 2) := by decide +kernel
theorem dX4_lie_10 : decode cX4_lie 10 = .ok (.invokevirtual 54, 3) := by decide +kernel
theorem dX4_lie_13 : decode cX4_lie 13 = .ok (.ireturn, 1) := by decide +kernel
theorem dX4_lie_14 : decode cX4_lie 14 = .ok (.iconst 0, 1) := by decide +kernel
theorem dX4_lie_15 : decode cX4_lie 15 = .ok (.istore_n 2, 1) := by decide +kernel
theorem dX4_lie_16 : decode cX4_lie 16 = .ok (.iconst 0, 1) := by decide +kernel
theorem dX4_lie_17 : decode cX4_lie 17 = .ok (.istore_n 3, 1) := by decide +kernel
theorem dX4_lie_18 : decode cX4_lie 18 = .ok (.iload_n 3, 1) := by decide +kernel
theorem dX4_lie_19 : decode cX4_lie 19 = .ok (.aload_n 0, 1) := by decide +kernel
theorem dX4_lie_20 : decode cX4_lie 20 = .ok (.getfield 12, 3) := by decide +kernel
theorem dX4_lie_23 : decode cX4_lie 23 = .ok (.getfield 151, 3) := by decide +kernel
theorem dX4_lie_26 : decode cX4_lie 26 = .ok (.if_icmp .ge 28, 3) := by decide +kernel
theorem dX4_lie_29 : decode cX4_lie 29 = .ok (.aload_n 0, 1) := by decide +kernel
theorem dX4_lie_30 : decode cX4_lie 30 = .ok (.getfield 12, 3) := by decide +kernel
theorem dX4_lie_33 : decode cX4_lie 33 = .ok (.getfield 73, 3) := by decide +kernel
theorem dX4_lie_36 : decode cX4_lie 36 = .ok (.iload_n 3, 1) := by decide +kernel
theorem dX4_lie_37 : decode cX4_lie 37 = .ok (.iaload, 1) := by decide +kernel
theorem dX4_lie_38 : decode cX4_lie 38 = .ok (.iload_n 1, 1) := by decide +kernel
theorem dX4_lie_39 : decode cX4_lie 39 = .ok (.if_icmp .ne 9, 3) := by decide +kernel
theorem dX4_lie_42 : decode cX4_lie 42 = .ok (.iload_n 2, 1) := by decide +kernel
theorem dX4_lie_43 : decode cX4_lie 43 = .ok (.iload_n 3, 1) := by decide +kernel
theorem dX4_lie_44 : decode cX4_lie 44 = .ok (.invokestatic 154, 3) := by decide +kernel
theorem dX4_lie_47 : decode cX4_lie 47 = .ok (.istore_n 2, 1) := by decide +kernel
theorem dX4_lie_48 : decode cX4_lie 48 = .ok (.iinc 3 1, 3) := by decide +kernel
theorem dX4_lie_51 : decode cX4_lie 51 = .ok (.goto (-33), 3) := by decide +kernel
theorem dX4_lie_54 : decode cX4_lie 54 = .ok (.iload_n 2, 1) := by decide +kernel
theorem dX4_lie_55 : decode cX4_lie 55 = .ok (.ireturn, 1) := by decide +kernel
set_option maxRecDepth 20000 in
theorem ggX4_hours_X4_refusal : GoodIn wsX4_hours wsX4_refusal := goodIn_r _ [6, 7, 8, 9, 10, 5, 11, 12, 13, 14, 15, 1, 16, 82, 83, 84, 85, 86, 87, 88, 89, 90, 91, 92, 93, 94, 95, 96, 97, 98, 99, 100, 101, 102, 103] (by decide +kernel) (by decide +kernel)
set_option maxRecDepth 20000 in
theorem gX4_hours_X4_refusal : GoodIn wsX4_hours (wsV RX4 157 RX4 yX4_refusal wsX4_refusal) := goodIn_app (goodIn_of _ (by decide +kernel)) ggX4_hours_X4_refusal
set_option maxRecDepth 20000 in
theorem ggX4_hours_X0_pass : GoodIn wsX4_hours wsX0_pass := goodIn_r _ [21, 22, 23, 24, 20, 25, 26, 27, 28, 29, 30, 31, 32, 33, 34, 35, 36, 37, 38, 39, 40, 41, 42, 43, 44, 45, 46, 5, 47, 48, 49, 50, 51, 52, 53, 54, 55, 56, 57, 58, 59, 60, 61, 62, 63, 64, 65, 66, 67, 68, 69, 70, 71, 72, 73, 74, 75, 76, 89, 90, 91, 92, 93, 94, 95, 96, 97, 98, 99, 100, 101, 102, 103] (by decide +kernel) (by decide +kernel)
set_option maxRecDepth 20000 in
theorem gX4_hours_X0_pass : GoodIn wsX4_hours (wsV RX4 160 RX0 yX0_pass wsX0_pass) := goodIn_app (goodIn_of _ (by decide +kernel)) ggX4_hours_X0_pass
set_option maxRecDepth 20000 in
theorem ggX4_hours_X4_found : GoodIn wsX4_hours wsX4_found := goodIn_r _ [80, 7, 81, 9, 10, 5, 11, 82, 83, 84, 85, 86, 87, 88] (by decide +kernel) (by decide +kernel)
set_option maxRecDepth 20000 in
theorem gX4_hours_X4_found : GoodIn wsX4_hours (wsV RX4 54 RX4 yX4_found wsX4_found) := goodIn_app (goodIn_of _ (by decide +kernel)) ggX4_hours_X4_found
theorem dX4_hours_0 : decode cX4_hours 0 = .ok (.aload_n 0, 1) := by decide +kernel
theorem dX4_hours_1 : decode cX4_hours 1 = .ok (.iload_n 1, 1) := by decide +kernel
theorem dX4_hours_2 : decode cX4_hours 2 = .ok (.bipush 100, 2) := by decide +kernel
theorem dX4_hours_4 : decode cX4_hours 4 = .ok (.invokevirtual 157, 3) := by decide +kernel
theorem dX4_hours_7 : decode cX4_hours 7 = .ok (.istore_n 2, 1) := by decide +kernel
theorem dX4_hours_8 : decode cX4_hours 8 = .ok (.iload_n 2, 1) := by decide +kernel
theorem dX4_hours_9 : decode cX4_hours 9 = .ok (.ifCond .ne 14, 3) := by decide +kernel
theorem dX4_hours_12 : decode cX4_hours 12 = .ok (.aload_n 0, 1) := by decide +kernel
theorem dX4_hours_13 : decode cX4_hours 13 = .ok (.getfield 12, 3) := by decide +kernel
theorem dX4_hours_16 : decode cX4_hours 16 = .ok (.iload_n 1, 1) := by decide +kernel
theorem dX4_hours_17 : decode cX4_hours 17 = .ok (.invokevirtual 160, 3) := by decide +kernel
theorem dX4_hours_20 : decode cX4_hours 20 = .ok (.goto 8, 3) := by decide +kernel
theorem dX4_hours_23 : decode cX4_hours 23 = .ok (.aload_n 0, 1) := by decide +kernel
theorem dX4_hours_24 : decode cX4_hours 24 = .ok (.iload_n 2, 1) := by decide +kernel
theorem dX4_hours_25 : decode cX4_hours 25 = .ok (.invokevirtual 54, 3) := by decide +kernel
theorem dX4_hours_28 : decode cX4_hours 28 = .ok (.ireturn, 1) := by decide +kernel
set_option maxRecDepth 20000 in
theorem ggX4_now_X0_peaces : GoodIn wsX4_now wsX0_peaces := goodIn_r _ [10, 11, 12, 13, 14, 15, 16, 17, 66, 67, 68, 69, 70, 71, 72, 73, 74, 75, 76, 77, 78, 79, 80] (by decide +kernel) (by decide +kernel)
set_option maxRecDepth 20000 in
theorem gX4_now_X0_peaces : GoodIn wsX4_now (wsV RX4 163 RX0 yX0_peaces wsX0_peaces) := goodIn_app (goodIn_of _ (by decide +kernel)) ggX4_now_X0_peaces
set_option maxRecDepth 20000 in
theorem ggX4_now_X0_softOfAll : GoodIn wsX4_now wsX0_softOfAll := goodIn_r _ [21, 11, 22, 66, 67, 68, 69, 70, 71, 72, 73, 74, 75, 76, 77, 78, 79, 80] (by decide +kernel) (by decide +kernel)
set_option maxRecDepth 20000 in
theorem gX4_now_X0_softOfAll : GoodIn wsX4_now (wsV RX4 166 RX0 yX0_softOfAll wsX0_softOfAll) := goodIn_app (goodIn_of _ (by decide +kernel)) ggX4_now_X0_softOfAll
set_option maxRecDepth 20000 in
theorem ggX4_now_X0_iceOfAll : GoodIn wsX4_now wsX0_iceOfAll := goodIn_r _ [26, 27, 66, 67, 68, 69, 70, 71, 72, 73, 74, 75, 76, 77, 78, 79, 80] (by decide +kernel) (by decide +kernel)
set_option maxRecDepth 20000 in
theorem gX4_now_X0_iceOfAll : GoodIn wsX4_now (wsV RX4 170 RX0 yX0_iceOfAll wsX0_iceOfAll) := goodIn_app (goodIn_of _ (by decide +kernel)) ggX4_now_X0_iceOfAll
set_option maxRecDepth 20000 in
theorem ggX4_now_X0_hottest : GoodIn wsX4_now wsX0_hottest := goodIn_r _ [31, 32, 33, 34, 35, 9, 36, 37, 38, 39, 40, 41, 42, 43, 44, 45, 46, 47, 48, 49, 27, 50, 13, 14, 15, 66, 67, 68, 69, 70, 71, 72, 73, 74, 75, 76, 77, 78, 79, 80] (by decide +kernel) (by decide +kernel)
set_option maxRecDepth 20000 in
theorem gX4_now_X0_hottest : GoodIn wsX4_now (wsV RX4 173 RX0 yX0_hottest wsX0_hottest) := goodIn_app (goodIn_of _ (by decide +kernel)) ggX4_now_X0_hottest
set_option maxRecDepth 20000 in
theorem ggX4_now_X4_found : GoodIn wsX4_now wsX4_found := goodIn_r _ [54, 5, 55, 56, 57, 14, 58, 59, 60, 61, 62, 63, 64, 65] (by decide +kernel) (by decide +kernel)
set_option maxRecDepth 20000 in
theorem gX4_now_X4_found : GoodIn wsX4_now (wsV RX4 54 RX4 yX4_found wsX4_found) := goodIn_app (goodIn_of _ (by decide +kernel)) ggX4_now_X4_found
theorem dX4_now_0 : decode cX4_now 0 = .ok (.iload_n 1, 1) := by decide +kernel
theorem dX4_now_1 : decode cX4_now 1 = .ok (.tableswitch 106 0 6 #[43, 51, 66, 74, 82, 90, 98], 43) := by decide +kernel
theorem dX4_now_44 : decode cX4_now 44 = .ok (.aload_n 0, 1) := by decide +kernel
theorem dX4_now_45 : decode cX4_now 45 = .ok (.getfield 12, 3) := by decide +kernel
theorem dX4_now_48 : decode cX4_now 48 = .ok (.getfield 95, 3) := by decide +kernel
theorem dX4_now_51 : decode cX4_now 51 = .ok (.ireturn, 1) := by decide +kernel
theorem dX4_now_52 : decode cX4_now 52 = .ok (.aload_n 0, 1) := by decide +kernel
theorem dX4_now_53 : decode cX4_now 53 = .ok (.getfield 12, 3) := by decide +kernel
theorem dX4_now_56 : decode cX4_now 56 = .ok (.aload_n 0, 1) := by decide +kernel
theorem dX4_now_57 : decode cX4_now 57 = .ok (.getfield 12, 3) := by decide +kernel
theorem dX4_now_60 : decode cX4_now 60 = .ok (.getfield 119, 3) := by decide +kernel
theorem dX4_now_63 : decode cX4_now 63 = .ok (.invokevirtual 163, 3) := by decide +kernel
theorem dX4_now_66 : decode cX4_now 66 = .ok (.ireturn, 1) := by decide +kernel
theorem dX4_now_67 : decode cX4_now 67 = .ok (.aload_n 0, 1) := by decide +kernel
theorem dX4_now_68 : decode cX4_now 68 = .ok (.getfield 12, 3) := by decide +kernel
theorem dX4_now_71 : decode cX4_now 71 = .ok (.getfield 119, 3) := by decide +kernel
theorem dX4_now_74 : decode cX4_now 74 = .ok (.ireturn, 1) := by decide +kernel
theorem dX4_now_75 : decode cX4_now 75 = .ok (.aload_n 0, 1) := by decide +kernel
theorem dX4_now_76 : decode cX4_now 76 = .ok (.getfield 12, 3) := by decide +kernel
theorem dX4_now_79 : decode cX4_now 79 = .ok (.invokevirtual 166, 3) := by decide +kernel
theorem dX4_now_82 : decode cX4_now 82 = .ok (.ireturn, 1) := by decide +kernel
theorem dX4_now_83 : decode cX4_now 83 = .ok (.aload_n 0, 1) := by decide +kernel
theorem dX4_now_84 : decode cX4_now 84 = .ok (.getfield 12, 3) := by decide +kernel
theorem dX4_now_87 : decode cX4_now 87 = .ok (.invokevirtual 170, 3) := by decide +kernel
theorem dX4_now_90 : decode cX4_now 90 = .ok (.ireturn, 1) := by decide +kernel
theorem dX4_now_91 : decode cX4_now 91 = .ok (.aload_n 0, 1) := by decide +kernel
theorem dX4_now_92 : decode cX4_now 92 = .ok (.getfield 12, 3) := by decide +kernel
theorem dX4_now_95 : decode cX4_now 95 = .ok (.invokevirtual 173, 3) := by decide +kernel
theorem dX4_now_98 : decode cX4_now 98 = .ok (.ireturn, 1) := by decide +kernel
theorem dX4_now_99 : decode cX4_now 99 = .ok (.aload_n 0, 1) := by decide +kernel
theorem dX4_now_100 : decode cX4_now 100 = .ok (.getfield 12, 3) := by decide +kernel
theorem dX4_now_103 : decode cX4_now 103 = .ok (.getfield 145, 3) := by decide +kernel
theorem dX4_now_106 : decode cX4_now 106 = .ok (.ireturn, 1) := by decide +kernel
theorem dX4_now_107 : decode cX4_now 107 = .ok (.aload_n 0, 1) := by decide +kernel
theorem dX4_now_108 : decode cX4_now 108 = .ok (.ldc 53, 2) := by decide +kernel
theorem dX4_now_110 : decode cX4_now 110 = .ok (.invokevirtual 54, 3) := by decide +kernel
theorem dX4_now_113 : decode cX4_now 113 = .ok (.ireturn, 1) := by decide +kernel
set_option maxRecDepth 20000 in
theorem ggX4_ahead_X4_isWithin : GoodIn wsX4_ahead wsX4_isWithin := goodIn_r _ [11] (by decide +kernel) (by decide +kernel)
set_option maxRecDepth 20000 in
theorem gX4_ahead_X4_isWithin : GoodIn wsX4_ahead (va_wsS RX4 115 yX4_isWithin wsX4_isWithin) := goodIn_app (goodIn_of _ (by decide +kernel)) ggX4_ahead_X4_isWithin
set_option maxRecDepth 20000 in
theorem ggX4_ahead_X4_found : GoodIn wsX4_ahead wsX4_found := goodIn_r _ [15, 3, 16, 8, 9, 10, 11, 101, 102, 103, 104, 105, 106, 107] (by decide +kernel) (by decide +kernel)
set_option maxRecDepth 20000 in
theorem gX4_ahead_X4_found : GoodIn wsX4_ahead (wsV RX4 54 RX4 yX4_found wsX4_found) := goodIn_app (goodIn_of _ (by decide +kernel)) ggX4_ahead_X4_found
set_option maxRecDepth 20000 in
theorem ggX4_ahead_X4_isTooLate : GoodIn wsX4_ahead wsX4_isTooLate := goodIn_r _ [20, 1, 21, 101, 102, 103, 104, 105, 106, 107, 108, 109, 110, 111, 112, 113, 114, 115, 116, 117, 118, 119, 120, 121, 122] (by decide +kernel) (by decide +kernel)
set_option maxRecDepth 20000 in
theorem gX4_ahead_X4_isTooLate : GoodIn wsX4_ahead (wsV RX4 176 RX4 yX4_isTooLate wsX4_isTooLate) := goodIn_app (goodIn_of _ (by decide +kernel)) ggX4_ahead_X4_isTooLate
set_option maxRecDepth 20000 in
theorem ggX4_ahead_X0_take : GoodIn wsX4_ahead wsX0_take := goodIn_r _ [26, 27, 28, 29, 30, 31, 32, 33, 34, 35, 36, 37, 38, 39, 40, 41, 42, 43, 44, 108, 109, 110, 111, 112, 113, 114, 115, 116, 117, 118, 119, 120, 121, 122] (by decide +kernel) (by decide +kernel)
set_option maxRecDepth 20000 in
theorem gX4_ahead_X0_take : GoodIn wsX4_ahead (wsV RX4 180 RX0 yX0_take wsX0_take) := goodIn_app (goodIn_of _ (by decide +kernel)) ggX4_ahead_X0_take
set_option maxRecDepth 20000 in
theorem ggX4_ahead_X0_pass : GoodIn wsX4_ahead wsX0_pass := goodIn_r _ [48, 49, 50, 51, 25, 52, 42, 53, 39, 38, 32, 36, 54, 55, 56, 57, 58, 59, 60, 61, 62, 63, 64, 43, 40, 41, 65, 10, 66, 67, 68, 69, 70, 27, 33, 34, 71, 72, 73, 74, 75, 76, 77, 78, 79, 80, 81, 82, 83, 84, 85, 86, 87, 88, 89, 90, 91, 92, 108, 109, 110, 111, 112, 113, 114, 115, 116, 117, 118, 119, 120, 121, 122] (by decide +kernel) (by decide +kernel)
set_option maxRecDepth 20000 in
theorem gX4_ahead_X0_pass : GoodIn wsX4_ahead (wsV RX4 160 RX0 yX0_pass wsX0_pass) := goodIn_app (goodIn_of _ (by decide +kernel)) ggX4_ahead_X0_pass
set_option maxRecDepth 20000 in
theorem ggX4_ahead_X0_peaces : GoodIn wsX4_ahead wsX0_peaces := goodIn_r _ [96, 39, 35, 65, 10, 66, 87, 88, 108, 109, 110, 111, 112, 113, 114, 115, 116, 117, 118, 119, 120, 121, 122] (by decide +kernel) (by decide +kernel)
set_option maxRecDepth 20000 in
theorem gX4_ahead_X0_peaces : GoodIn wsX4_ahead (wsV RX4 163 RX0 yX0_peaces wsX0_peaces) := goodIn_app (goodIn_of _ (by decide +kernel)) ggX4_ahead_X0_peaces
set_option maxRecDepth 20000 in
theorem ggX4_ahead_X0_iceOfAll : GoodIn wsX4_ahead wsX0_iceOfAll := goodIn_r _ [100, 36, 108, 109, 110, 111, 112, 113, 114, 115, 116, 117, 118, 119, 120, 121, 122] (by decide +kernel) (by decide +kernel)
set_option maxRecDepth 20000 in
theorem gX4_ahead_X0_iceOfAll : GoodIn wsX4_ahead (wsV RX4 170 RX0 yX0_iceOfAll wsX0_iceOfAll) := goodIn_app (goodIn_of _ (by decide +kernel)) ggX4_ahead_X0_iceOfAll
theorem dX4_ahead_0 : decode cX4_ahead 0 = .ok (.iload_n 1, 1) := by decide +kernel
theorem dX4_ahead_1 : decode cX4_ahead 1 = .ok (.iconst 0, 1) := by decide +kernel
theorem dX4_ahead_2 : decode cX4_ahead 2 = .ok (.bipush 100, 2) := by decide +kernel
theorem dX4_ahead_4 : decode cX4_ahead 4 = .ok (.invokestatic 115, 3) := by decide +kernel
theorem dX4_ahead_7 : decode cX4_ahead 7 = .ok (.ifCond .eq 20, 3) := by decide +kernel
theorem dX4_ahead_10 : decode cX4_ahead 10 = .ok (.iload_n 2, 1) := by decide +kernel
theorem dX4_ahead_11 : decode cX4_ahead 11 = .ok (.iconst 0, 1) := by decide +kernel
theorem dX4_ahead_12 : decode cX4_ahead 12 = .ok (.iconst 2, 1) := by decide +kernel
theorem dX4_ahead_13 : decode cX4_ahead 13 = .ok (.aload_n 0, 1) := by decide +kernel
theorem dX4_ahead_14 : decode cX4_ahead 14 = .ok (.getfield 12, 3) := by decide +kernel
theorem dX4_ahead_17 : decode cX4_ahead 17 = .ok (.getfield 151, 3) := by decide +kernel
theorem dX4_ahead_20 : decode cX4_ahead 20 = .ok (.iadd, 1) := by decide +kernel
theorem dX4_ahead_21 : decode cX4_ahead 21 = .ok (.invokestatic 115, 3) := by decide +kernel
theorem dX4_ahead_24 : decode cX4_ahead 24 = .ok (.ifCond .ne 10, 3) := by decide +kernel
theorem dX4_ahead_27 : decode cX4_ahead 27 = .ok (.aload_n 0, 1) := by decide +kernel
theorem dX4_ahead_28 : decode cX4_ahead 28 = .ok (.ldc 53, 2) := by decide +kernel
theorem dX4_ahead_30 : decode cX4_ahead 30 = .ok (.invokevirtual 54, 3) := by decide +kernel
theorem dX4_ahead_33 : decode cX4_ahead 33 = .ok (.ireturn, 1) := by decide +kernel
theorem dX4_ahead_34 : decode cX4_ahead 34 = .ok (.aload_n 0, 1) := by decide +kernel
theorem dX4_ahead_35 : decode cX4_ahead 35 = .ok (.iload_n 1, 1) := by decide +kernel
theorem dX4_ahead_36 : decode cX4_ahead 36 = .ok (.invokevirtual 176, 3) := by decide +kernel
theorem dX4_ahead_39 : decode cX4_ahead 39 = .ok (.ifCond .eq 10, 3) := by decide +kernel
theorem dX4_ahead_42 : decode cX4_ahead 42 = .ok (.aload_n 0, 1) := by decide +kernel
theorem dX4_ahead_43 : decode cX4_ahead 43 = .ok (.ldc 179, 2) := by decide +kernel
theorem dX4_ahead_45 : decode cX4_ahead 45 = .ok (.invokevirtual 54, 3) := by decide +kernel
theorem dX4_ahead_48 : decode cX4_ahead 48 = .ok (.ireturn, 1) := by decide +kernel
theorem dX4_ahead_49 : decode cX4_ahead 49 = .ok (.aload_n 0, 1) := by decide +kernel
theorem dX4_ahead_50 : decode cX4_ahead 50 = .ok (.getfield 16, 3) := by decide +kernel
theorem dX4_ahead_53 : decode cX4_ahead 53 = .ok (.aload_n 0, 1) := by decide +kernel
theorem dX4_ahead_54 : decode cX4_ahead 54 = .ok (.getfield 12, 3) := by decide +kernel
theorem dX4_ahead_57 : decode cX4_ahead 57 = .ok (.invokevirtual 180, 3) := by decide +kernel
theorem dX4_ahead_60 : decode cX4_ahead 60 = .ok (.aload_n 0, 1) := by decide +kernel
theorem dX4_ahead_61 : decode cX4_ahead 61 = .ok (.getfield 16, 3) := by decide +kernel
theorem dX4_ahead_64 : decode cX4_ahead 64 = .ok (.iload_n 1, 1) := by decide +kernel
theorem dX4_ahead_65 : decode cX4_ahead 65 = .ok (.invokevirtual 160, 3) := by decide +kernel
theorem dX4_ahead_68 : decode cX4_ahead 68 = .ok (.pop, 1) := by decide +kernel
theorem dX4_ahead_69 : decode cX4_ahead 69 = .ok (.iload_n 2, 1) := by decide +kernel
theorem dX4_ahead_70 : decode cX4_ahead 70 = .ok (.tableswitch 57 0 2 #[26, 41, 49], 26) := by decide +kernel
theorem dX4_ahead_96 : decode cX4_ahead 96 = .ok (.aload_n 0, 1) := by decide +kernel
theorem dX4_ahead_97 : decode cX4_ahead 97 = .ok (.getfield 16, 3) := by decide +kernel
theorem dX4_ahead_100 : decode cX4_ahead 100 = .ok (.aload_n 0, 1) := by decide +kernel
theorem dX4_ahead_101 : decode cX4_ahead 101 = .ok (.getfield 16, 3) := by decide +kernel
theorem dX4_ahead_104 : decode cX4_ahead 104 = .ok (.getfield 119, 3) := by decide +kernel
theorem dX4_ahead_107 : decode cX4_ahead 107 = .ok (.invokevirtual 163, 3) := by decide +kernel
theorem dX4_ahead_110 : decode cX4_ahead 110 = .ok (.ireturn, 1) := by decide +kernel
theorem dX4_ahead_111 : decode cX4_ahead 111 = .ok (.aload_n 0, 1) := by decide +kernel
theorem dX4_ahead_112 : decode cX4_ahead 112 = .ok (.getfield 16, 3) := by decide +kernel
theorem dX4_ahead_115 : decode cX4_ahead 115 = .ok (.getfield 119, 3) := by decide +kernel
theorem dX4_ahead_118 : decode cX4_ahead 118 = .ok (.ireturn, 1) := by decide +kernel
theorem dX4_ahead_119 : decode cX4_ahead 119 = .ok (.aload_n 0, 1) := by decide +kernel
theorem dX4_ahead_120 : decode cX4_ahead 120 = .ok (.getfield 16, 3) := by decide +kernel
theorem dX4_ahead_123 : decode cX4_ahead 123 = .ok (.invokevirtual 170, 3) := by decide +kernel
theorem dX4_ahead_126 : decode cX4_ahead 126 = .ok (.ireturn, 1) := by decide +kernel
theorem dX4_ahead_127 : decode cX4_ahead 127 = .ok (.aload_n 0, 1) := by decide +kernel
theorem dX4_ahead_128 : decode cX4_ahead 128 = .ok (.getfield 16, 3) := by decide +kernel
theorem dX4_ahead_131 : decode cX4_ahead 131 = .ok (.getfield 79, 3) := by decide +kernel
theorem dX4_ahead_134 : decode cX4_ahead 134 = .ok (.iload_n 2, 1) := by decide +kernel
theorem dX4_ahead_135 : decode cX4_ahead 135 = .ok (.iconst 3, 1) := by decide +kernel
theorem dX4_ahead_136 : decode cX4_ahead 136 = .ok (.isub, 1) := by decide +kernel
theorem dX4_ahead_137 : decode cX4_ahead 137 = .ok (.iaload, 1) := by decide +kernel
theorem dX4_ahead_138 : decode cX4_ahead 138 = .ok (.ireturn, 1) := by decide +kernel
set_option maxRecDepth 20000 in
theorem ggX4_ends_X4_refusalOfEnd : GoodIn wsX4_ends wsX4_refusalOfEnd := goodIn_r _ [8, 9, 10, 11, 7, 12, 2, 13, 14, 15, 16, 17, 18, 19, 20, 21, 22, 23, 24, 25, 26, 27, 28, 29, 30, 31, 32, 119, 120, 121, 122, 123, 124, 125, 126, 127, 128, 129, 130, 131, 132, 133, 134, 135, 136, 137, 138, 139, 140] (by decide +kernel) (by decide +kernel)
set_option maxRecDepth 20000 in
theorem gX4_ends_X4_refusalOfEnd : GoodIn wsX4_ends (wsV RX4 184 RX4 yX4_refusalOfEnd wsX4_refusalOfEnd) := goodIn_app (goodIn_of _ (by decide +kernel)) ggX4_ends_X4_refusalOfEnd
set_option maxRecDepth 20000 in
theorem ggX4_ends_X4_found : GoodIn wsX4_ends wsX4_found := goodIn_r _ [36, 13, 37, 27, 20, 7, 21, 119, 120, 121, 122, 123, 124, 125] (by decide +kernel) (by decide +kernel)
set_option maxRecDepth 20000 in
theorem gX4_ends_X4_found : GoodIn wsX4_ends (wsV RX4 54 RX4 yX4_found wsX4_found) := goodIn_app (goodIn_of _ (by decide +kernel)) ggX4_ends_X4_found
set_option maxRecDepth 20000 in
theorem ggX4_ends_X0_take : GoodIn wsX4_ends wsX0_take := goodIn_r _ [41, 42, 43, 44, 45, 46, 47, 48, 49, 50, 51, 52, 53, 19, 54, 55, 56, 57, 58, 126, 127, 128, 129, 130, 131, 132, 133, 134, 135, 136, 137, 138, 139, 140] (by decide +kernel) (by decide +kernel)
set_option maxRecDepth 20000 in
theorem gX4_ends_X0_take : GoodIn wsX4_ends (wsV RX4 180 RX0 yX0_take wsX0_take) := goodIn_app (goodIn_of _ (by decide +kernel)) ggX4_ends_X0_take
set_option maxRecDepth 20000 in
theorem ggX4_ends_X0_endOf : GoodIn wsX4_ends wsX0_endOf := goodIn_r _ [62, 63, 64, 65, 17, 66, 53, 67, 68, 69, 70, 19, 50, 71, 7, 72, 73, 74, 75, 76, 77, 78, 79, 80, 81, 82, 56, 83, 47, 51, 84, 85, 86, 87, 88, 89, 90, 91, 92, 93, 94, 57, 54, 55, 95, 96, 97, 98, 42, 48, 49, 99, 100, 101, 102, 103, 104, 105, 106, 107, 108, 109, 110, 111, 112, 113, 114, 115, 116, 117, 118, 126, 127, 128, 129, 130, 131, 132, 133, 134, 135, 136, 137, 138, 139, 140] (by decide +kernel) (by decide +kernel)
set_option maxRecDepth 20000 in
theorem gX4_ends_X0_endOf : GoodIn wsX4_ends (wsV RX4 187 RX0 yX0_endOf wsX0_endOf) := goodIn_app (goodIn_of _ (by decide +kernel)) ggX4_ends_X0_endOf
theorem dX4_ends_0 : decode cX4_ends 0 = .ok (.aload_n 0, 1) := by decide +kernel
theorem dX4_ends_1 : decode cX4_ends 1 = .ok (.iload_n 1, 1) := by decide +kernel
theorem dX4_ends_2 : decode cX4_ends 2 = .ok (.invokevirtual 184, 3) := by decide +kernel
theorem dX4_ends_5 : decode cX4_ends 5 = .ok (.istore_n 2, 1) := by decide +kernel
theorem dX4_ends_6 : decode cX4_ends 6 = .ok (.iload_n 2, 1) := by decide +kernel
theorem dX4_ends_7 : decode cX4_ends 7 = .ok (.ifCond .eq 9, 3) := by decide +kernel
theorem dX4_ends_10 : decode cX4_ends 10 = .ok (.aload_n 0, 1) := by decide +kernel
theorem dX4_ends_11 : decode cX4_ends 11 = .ok (.iload_n 2, 1) := by decide +kernel
theorem dX4_ends_12 : decode cX4_ends 12 = .ok (.invokevirtual 54, 3) := by decide +kernel
theorem dX4_ends_15 : decode cX4_ends 15 = .ok (.ireturn, 1) := by decide +kernel
theorem dX4_ends_16 : decode cX4_ends 16 = .ok (.aload_n 0, 1) := by decide +kernel
theorem dX4_ends_17 : decode cX4_ends 17 = .ok (.getfield 16, 3) := by decide +kernel
theorem dX4_ends_20 : decode cX4_ends 20 = .ok (.aload_n 0, 1) := by decide +kernel
theorem dX4_ends_21 : decode cX4_ends 21 = .ok (.getfield 12, 3) := by decide +kernel
theorem dX4_ends_24 : decode cX4_ends 24 = .ok (.invokevirtual 180, 3) := by decide +kernel
theorem dX4_ends_27 : decode cX4_ends 27 = .ok (.aload_n 0, 1) := by decide +kernel
theorem dX4_ends_28 : decode cX4_ends 28 = .ok (.getfield 16, 3) := by decide +kernel
theorem dX4_ends_31 : decode cX4_ends 31 = .ok (.iload_n 1, 1) := by decide +kernel
theorem dX4_ends_32 : decode cX4_ends 32 = .ok (.invokevirtual 187, 3) := by decide +kernel
theorem dX4_ends_35 : decode cX4_ends 35 = .ok (.istore_n 3, 1) := by decide +kernel
theorem dX4_ends_36 : decode cX4_ends 36 = .ok (.iload_n 3, 1) := by decide +kernel
theorem dX4_ends_37 : decode cX4_ends 37 = .ok (.bipush 100, 2) := by decide +kernel
theorem dX4_ends_39 : decode cX4_ends 39 = .ok (.if_icmp .gt 7, 3) := by decide +kernel
theorem dX4_ends_42 : decode cX4_ends 42 = .ok (.iload_n 3, 1) := by decide +kernel
theorem dX4_ends_43 : decode cX4_ends 43 = .ok (.goto 9, 3) := by decide +kernel
theorem dX4_ends_46 : decode cX4_ends 46 = .ok (.aload_n 0, 1) := by decide +kernel
theorem dX4_ends_47 : decode cX4_ends 47 = .ok (.ldc 190, 2) := by decide +kernel
theorem dX4_ends_49 : decode cX4_ends 49 = .ok (.invokevirtual 54, 3) := by decide +kernel
theorem dX4_ends_52 : decode cX4_ends 52 = .ok (.ireturn, 1) := by decide +kernel
set_option maxRecDepth 20000 in
theorem ggX4_soonest_X4_isTooLate : GoodIn wsX4_soonest wsX4_isTooLate := goodIn_r _ [9, 3, 10, 103, 104, 105, 106, 107, 108, 109, 110, 111, 112, 113, 114, 115, 116, 117, 118, 119, 120, 121, 122, 123, 124] (by decide +kernel) (by decide +kernel)
set_option maxRecDepth 20000 in
theorem gX4_soonest_X4_isTooLate : GoodIn wsX4_soonest (wsV RX4 176 RX4 yX4_isTooLate wsX4_isTooLate) := goodIn_app (goodIn_of _ (by decide +kernel)) ggX4_soonest_X4_isTooLate
set_option maxRecDepth 20000 in
theorem ggX4_soonest_X4_found : GoodIn wsX4_soonest wsX4_found := goodIn_r _ [14, 15, 16, 17, 18, 8, 19, 103, 104, 105, 106, 107, 108, 109] (by decide +kernel) (by decide +kernel)
set_option maxRecDepth 20000 in
theorem gX4_soonest_X4_found : GoodIn wsX4_soonest (wsV RX4 54 RX4 yX4_found wsX4_found) := goodIn_app (goodIn_of _ (by decide +kernel)) ggX4_soonest_X4_found
set_option maxRecDepth 20000 in
theorem ggX4_soonest_X0_take : GoodIn wsX4_soonest wsX0_take := goodIn_r _ [24, 25, 26, 27, 28, 29, 30, 31, 32, 33, 34, 35, 36, 37, 38, 39, 40, 41, 42, 110, 111, 112, 113, 114, 115, 116, 117, 118, 119, 120, 121, 122, 123, 124] (by decide +kernel) (by decide +kernel)
set_option maxRecDepth 20000 in
theorem gX4_soonest_X0_take : GoodIn wsX4_soonest (wsV RX4 180 RX0 yX0_take wsX0_take) := goodIn_app (goodIn_of _ (by decide +kernel)) ggX4_soonest_X0_take
set_option maxRecDepth 20000 in
theorem ggX4_soonest_X0_firstToEnd : GoodIn wsX4_soonest wsX0_firstToEnd := goodIn_r _ [46, 47, 48, 49, 23, 50, 36, 37, 51, 52, 53, 54, 33, 55, 8, 56, 57, 58, 59, 60, 61, 62, 63, 64, 65, 66, 40, 67, 30, 34, 68, 69, 70, 71, 72, 73, 74, 75, 76, 77, 78, 41, 38, 39, 79, 80, 81, 82, 25, 31, 32, 83, 84, 85, 86, 87, 88, 89, 90, 91, 92, 93, 94, 95, 96, 97, 98, 99, 100, 101, 102, 110, 111, 112, 113, 114, 115, 116, 117, 118, 119, 120, 121, 122, 123, 124] (by decide +kernel) (by decide +kernel)
set_option maxRecDepth 20000 in
theorem gX4_soonest_X0_firstToEnd : GoodIn wsX4_soonest (wsV RX4 191 RX0 yX0_firstToEnd wsX0_firstToEnd) := goodIn_app (goodIn_of _ (by decide +kernel)) ggX4_soonest_X0_firstToEnd
theorem dX4_soonest_0 : decode cX4_soonest 0 = .ok (.aload_n 0, 1) := by decide +kernel
theorem dX4_soonest_1 : decode cX4_soonest 1 = .ok (.bipush 100, 2) := by decide +kernel
theorem dX4_soonest_3 : decode cX4_soonest 3 = .ok (.invokevirtual 176, 3) := by decide +kernel
theorem dX4_soonest_6 : decode cX4_soonest 6 = .ok (.ifCond .eq 10, 3) := by decide +kernel
theorem dX4_soonest_9 : decode cX4_soonest 9 = .ok (.aload_n 0, 1) := by decide +kernel
theorem dX4_soonest_10 : decode cX4_soonest 10 = .ok (.ldc 179, 2) := by decide +kernel
theorem dX4_soonest_12 : decode cX4_soonest 12 = .ok (.invokevirtual 54, 3) := by decide +kernel
theorem dX4_soonest_15 : decode cX4_soonest 15 = .ok (.ireturn, 1) := by decide +kernel
theorem dX4_soonest_16 : decode cX4_soonest 16 = .ok (.aload_n 0, 1) := by decide +kernel
theorem dX4_soonest_17 : decode cX4_soonest 17 = .ok (.getfield 16, 3) := by decide +kernel
theorem dX4_soonest_20 : decode cX4_soonest 20 = .ok (.aload_n 0, 1) := by decide +kernel
theorem dX4_soonest_21 : decode cX4_soonest 21 = .ok (.getfield 12, 3) := by decide +kernel
theorem dX4_soonest_24 : decode cX4_soonest 24 = .ok (.invokevirtual 180, 3) := by decide +kernel
theorem dX4_soonest_27 : decode cX4_soonest 27 = .ok (.aload_n 0, 1) := by decide +kernel
theorem dX4_soonest_28 : decode cX4_soonest 28 = .ok (.getfield 16, 3) := by decide +kernel
theorem dX4_soonest_31 : decode cX4_soonest 31 = .ok (.invokevirtual 191, 3) := by decide +kernel
theorem dX4_soonest_34 : decode cX4_soonest 34 = .ok (.istore_n 1, 1) := by decide +kernel
theorem dX4_soonest_35 : decode cX4_soonest 35 = .ok (.iload_n 1, 1) := by decide +kernel
theorem dX4_soonest_36 : decode cX4_soonest 36 = .ok (.iconst (-1), 1) := by decide +kernel
theorem dX4_soonest_37 : decode cX4_soonest 37 = .ok (.if_icmp .ne 12, 3) := by decide +kernel
theorem dX4_soonest_40 : decode cX4_soonest 40 = .ok (.aload_n 0, 1) := by decide +kernel
theorem dX4_soonest_41 : decode cX4_soonest 41 = .ok (.ldc 190, 2) := by decide +kernel
theorem dX4_soonest_43 : decode cX4_soonest 43 = .ok (.invokevirtual 54, 3) := by decide +kernel
theorem dX4_soonest_46 : decode cX4_soonest 46 = .ok (.goto 4, 3) := by decide +kernel
theorem dX4_soonest_49 : decode cX4_soonest 49 = .ok (.iload_n 1, 1) := by decide +kernel
theorem dX4_soonest_50 : decode cX4_soonest 50 = .ok (.ireturn, 1) := by decide +kernel
set_option maxRecDepth 20000 in
theorem ggX4_place_X4_refusalOfEnd : GoodIn wsX4_place wsX4_refusalOfEnd := goodIn_r _ [8, 9, 10, 11, 7, 12, 2, 13, 14, 15, 16, 17, 18, 19, 20, 21, 22, 23, 24, 25, 26, 27, 28, 29, 30, 31, 32, 119, 120, 121, 122, 123, 124, 125, 126, 127, 128, 129, 130, 131, 132, 133, 134, 135, 136, 137, 138, 139, 140] (by decide +kernel) (by decide +kernel)
set_option maxRecDepth 20000 in
theorem gX4_place_X4_refusalOfEnd : GoodIn wsX4_place (wsV RX4 184 RX4 yX4_refusalOfEnd wsX4_refusalOfEnd) := goodIn_app (goodIn_of _ (by decide +kernel)) ggX4_place_X4_refusalOfEnd
set_option maxRecDepth 20000 in
theorem ggX4_place_X4_found : GoodIn wsX4_place wsX4_found := goodIn_r _ [36, 13, 37, 27, 20, 7, 21, 119, 120, 121, 122, 123, 124, 125] (by decide +kernel) (by decide +kernel)
set_option maxRecDepth 20000 in
theorem gX4_place_X4_found : GoodIn wsX4_place (wsV RX4 54 RX4 yX4_found wsX4_found) := goodIn_app (goodIn_of _ (by decide +kernel)) ggX4_place_X4_found
set_option maxRecDepth 20000 in
theorem ggX4_place_X0_take : GoodIn wsX4_place wsX0_take := goodIn_r _ [41, 42, 43, 44, 45, 46, 47, 48, 49, 50, 51, 52, 53, 19, 54, 55, 56, 57, 58, 126, 127, 128, 129, 130, 131, 132, 133, 134, 135, 136, 137, 138, 139, 140] (by decide +kernel) (by decide +kernel)
set_option maxRecDepth 20000 in
theorem gX4_place_X0_take : GoodIn wsX4_place (wsV RX4 180 RX0 yX0_take wsX0_take) := goodIn_app (goodIn_of _ (by decide +kernel)) ggX4_place_X0_take
set_option maxRecDepth 20000 in
theorem ggX4_place_X0_endOf : GoodIn wsX4_place wsX0_endOf := goodIn_r _ [62, 63, 64, 65, 17, 66, 53, 67, 68, 69, 70, 19, 50, 71, 7, 72, 73, 74, 75, 76, 77, 78, 79, 80, 81, 82, 56, 83, 47, 51, 84, 85, 86, 87, 88, 89, 90, 91, 92, 93, 94, 57, 54, 55, 95, 96, 97, 98, 42, 48, 49, 99, 100, 101, 102, 103, 104, 105, 106, 107, 108, 109, 110, 111, 112, 113, 114, 115, 116, 117, 118, 126, 127, 128, 129, 130, 131, 132, 133, 134, 135, 136, 137, 138, 139, 140] (by decide +kernel) (by decide +kernel)
set_option maxRecDepth 20000 in
theorem gX4_place_X0_endOf : GoodIn wsX4_place (wsV RX4 187 RX0 yX0_endOf wsX0_endOf) := goodIn_app (goodIn_of _ (by decide +kernel)) ggX4_place_X0_endOf
theorem dX4_place_0 : decode cX4_place 0 = .ok (.aload_n 0, 1) := by decide +kernel
theorem dX4_place_1 : decode cX4_place 1 = .ok (.iload_n 1, 1) := by decide +kernel
theorem dX4_place_2 : decode cX4_place 2 = .ok (.invokevirtual 184, 3) := by decide +kernel
theorem dX4_place_5 : decode cX4_place 5 = .ok (.istore_n 2, 1) := by decide +kernel
theorem dX4_place_6 : decode cX4_place 6 = .ok (.iload_n 2, 1) := by decide +kernel
theorem dX4_place_7 : decode cX4_place 7 = .ok (.ifCond .eq 9, 3) := by decide +kernel
theorem dX4_place_10 : decode cX4_place 10 = .ok (.aload_n 0, 1) := by decide +kernel
theorem dX4_place_11 : decode cX4_place 11 = .ok (.iload_n 2, 1) := by decide +kernel
theorem dX4_place_12 : decode cX4_place 12 = .ok (.invokevirtual 54, 3) := by decide +kernel
theorem dX4_place_15 : decode cX4_place 15 = .ok (.ireturn, 1) := by decide +kernel
theorem dX4_place_16 : decode cX4_place 16 = .ok (.iconst 0, 1) := by decide +kernel
theorem dX4_place_17 : decode cX4_place 17 = .ok (.istore_n 3, 1) := by decide +kernel
theorem dX4_place_18 : decode cX4_place 18 = .ok (.iconst (-1), 1) := by decide +kernel
theorem dX4_place_19 : decode cX4_place 19 = .ok (.istore 4, 2) := by decide +kernel
theorem dX4_place_21 : decode cX4_place 21 = .ok (.iconst 0, 1) := by decide +kernel
theorem dX4_place_22 : decode cX4_place 22 = .ok (.istore 5, 2) := by decide +kernel
theorem dX4_place_24 : decode cX4_place 24 = .ok (.iload 5, 2) := by decide +kernel
theorem dX4_place_26 : decode cX4_place 26 = .ok (.bipush 6, 2) := by decide +kernel
theorem dX4_place_28 : decode cX4_place 28 = .ok (.if_icmp .ge 55, 3) := by decide +kernel
theorem dX4_place_31 : decode cX4_place 31 = .ok (.aload_n 0, 1) := by decide +kernel
theorem dX4_place_32 : decode cX4_place 32 = .ok (.getfield 16, 3) := by decide +kernel
theorem dX4_place_35 : decode cX4_place 35 = .ok (.aload_n 0, 1) := by decide +kernel
theorem dX4_place_36 : decode cX4_place 36 = .ok (.getfield 12, 3) := by decide +kernel
theorem dX4_place_39 : decode cX4_place 39 = .ok (.invokevirtual 180, 3) := by decide +kernel
theorem dX4_place_42 : decode cX4_place 42 = .ok (.aload_n 0, 1) := by decide +kernel
theorem dX4_place_43 : decode cX4_place 43 = .ok (.getfield 16, 3) := by decide +kernel
theorem dX4_place_46 : decode cX4_place 46 = .ok (.getfield 73, 3) := by decide +kernel
theorem dX4_place_49 : decode cX4_place 49 = .ok (.iload_n 1, 1) := by decide +kernel
theorem dX4_place_50 : decode cX4_place 50 = .ok (.iload 5, 2) := by decide +kernel
theorem dX4_place_52 : decode cX4_place 52 = .ok (.iastore, 1) := by decide +kernel
theorem dX4_place_53 : decode cX4_place 53 = .ok (.aload_n 0, 1) := by decide +kernel
theorem dX4_place_54 : decode cX4_place 54 = .ok (.getfield 16, 3) := by decide +kernel
theorem dX4_place_57 : decode cX4_place 57 = .ok (.iload_n 1, 1) := by decide +kernel
theorem dX4_place_58 : decode cX4_place 58 = .ok (.invokevirtual 187, 3) := by decide +kernel
theorem dX4_place_61 : decode cX4_place 61 = .ok (.istore 6, 2) := by decide +kernel
theorem dX4_place_63 : decode cX4_place 63 = .ok (.iload 6, 2) := by decide +kernel
theorem dX4_place_65 : decode cX4_place 65 = .ok (.iload 4, 2) := by decide +kernel
theorem dX4_place_67 : decode cX4_place 67 = .ok (.if_icmp .le 10, 3) := by decide +kernel
theorem dX4_place_70 : decode cX4_place 70 = .ok (.iload 5, 2) := by decide +kernel
theorem dX4_place_72 : decode cX4_place 72 = .ok (.istore_n 3, 1) := by decide +kernel
theorem dX4_place_73 : decode cX4_place 73 = .ok (.iload 6, 2) := by decide +kernel
theorem dX4_place_75 : decode cX4_place 75 = .ok (.istore 4, 2) := by decide +kernel
theorem dX4_place_77 : decode cX4_place 77 = .ok (.iinc 5 1, 3) := by decide +kernel
theorem dX4_place_80 : decode cX4_place 80 = .ok (.goto (-56), 3) := by decide +kernel
theorem dX4_place_83 : decode cX4_place 83 = .ok (.iload_n 3, 1) := by decide +kernel
theorem dX4_place_84 : decode cX4_place 84 = .ok (.ireturn, 1) := by decide +kernel
set_option maxRecDepth 20000 in
theorem ggX4_kindFor_X4_refusalOfEnd : GoodIn wsX4_kindFor wsX4_refusalOfEnd := goodIn_r _ [8, 9, 10, 11, 7, 12, 2, 13, 14, 15, 16, 17, 18, 19, 20, 21, 22, 23, 24, 25, 26, 27, 28, 29, 30, 31, 32, 119, 120, 121, 122, 123, 124, 125, 126, 127, 128, 129, 130, 131, 132, 133, 134, 135, 136, 137, 138, 139, 140] (by decide +kernel) (by decide +kernel)
set_option maxRecDepth 20000 in
theorem gX4_kindFor_X4_refusalOfEnd : GoodIn wsX4_kindFor (wsV RX4 184 RX4 yX4_refusalOfEnd wsX4_refusalOfEnd) := goodIn_app (goodIn_of _ (by decide +kernel)) ggX4_kindFor_X4_refusalOfEnd
set_option maxRecDepth 20000 in
theorem ggX4_kindFor_X4_found : GoodIn wsX4_kindFor wsX4_found := goodIn_r _ [36, 13, 37, 27, 20, 7, 21, 119, 120, 121, 122, 123, 124, 125] (by decide +kernel) (by decide +kernel)
set_option maxRecDepth 20000 in
theorem gX4_kindFor_X4_found : GoodIn wsX4_kindFor (wsV RX4 54 RX4 yX4_found wsX4_found) := goodIn_app (goodIn_of _ (by decide +kernel)) ggX4_kindFor_X4_found
set_option maxRecDepth 20000 in
theorem ggX4_kindFor_X0_take : GoodIn wsX4_kindFor wsX0_take := goodIn_r _ [41, 42, 43, 44, 45, 46, 47, 48, 49, 50, 51, 52, 53, 19, 54, 55, 56, 57, 58, 126, 127, 128, 129, 130, 131, 132, 133, 134, 135, 136, 137, 138, 139, 140] (by decide +kernel) (by decide +kernel)
set_option maxRecDepth 20000 in
theorem gX4_kindFor_X0_take : GoodIn wsX4_kindFor (wsV RX4 180 RX0 yX0_take wsX0_take) := goodIn_app (goodIn_of _ (by decide +kernel)) ggX4_kindFor_X0_take
set_option maxRecDepth 20000 in
theorem ggX4_kindFor_X0_endOf : GoodIn wsX4_kindFor wsX0_endOf := goodIn_r _ [62, 63, 64, 65, 17, 66, 53, 67, 68, 69, 70, 19, 50, 71, 7, 72, 73, 74, 75, 76, 77, 78, 79, 80, 81, 82, 56, 83, 47, 51, 84, 85, 86, 87, 88, 89, 90, 91, 92, 93, 94, 57, 54, 55, 95, 96, 97, 98, 42, 48, 49, 99, 100, 101, 102, 103, 104, 105, 106, 107, 108, 109, 110, 111, 112, 113, 114, 115, 116, 117, 118, 126, 127, 128, 129, 130, 131, 132, 133, 134, 135, 136, 137, 138, 139, 140] (by decide +kernel) (by decide +kernel)
set_option maxRecDepth 20000 in
theorem gX4_kindFor_X0_endOf : GoodIn wsX4_kindFor (wsV RX4 187 RX0 yX0_endOf wsX0_endOf) := goodIn_app (goodIn_of _ (by decide +kernel)) ggX4_kindFor_X0_endOf
theorem dX4_kindFor_0 : decode cX4_kindFor 0 = .ok (.aload_n 0, 1) := by decide +kernel
theorem dX4_kindFor_1 : decode cX4_kindFor 1 = .ok (.iload_n 1, 1) := by decide +kernel
theorem dX4_kindFor_2 : decode cX4_kindFor 2 = .ok (.invokevirtual 184, 3) := by decide +kernel
theorem dX4_kindFor_5 : decode cX4_kindFor 5 = .ok (.istore_n 2, 1) := by decide +kernel
theorem dX4_kindFor_6 : decode cX4_kindFor 6 = .ok (.iload_n 2, 1) := by decide +kernel
theorem dX4_kindFor_7 : decode cX4_kindFor 7 = .ok (.ifCond .eq 9, 3) := by decide +kernel
theorem dX4_kindFor_10 : decode cX4_kindFor 10 = .ok (.aload_n 0, 1) := by decide +kernel
theorem dX4_kindFor_11 : decode cX4_kindFor 11 = .ok (.iload_n 2, 1) := by decide +kernel
theorem dX4_kindFor_12 : decode cX4_kindFor 12 = .ok (.invokevirtual 54, 3) := by decide +kernel
theorem dX4_kindFor_15 : decode cX4_kindFor 15 = .ok (.ireturn, 1) := by decide +kernel
theorem dX4_kindFor_16 : decode cX4_kindFor 16 = .ok (.iconst 0, 1) := by decide +kernel
theorem dX4_kindFor_17 : decode cX4_kindFor 17 = .ok (.istore_n 3, 1) := by decide +kernel
theorem dX4_kindFor_18 : decode cX4_kindFor 18 = .ok (.iconst (-1), 1) := by decide +kernel
theorem dX4_kindFor_19 : decode cX4_kindFor 19 = .ok (.istore 4, 2) := by decide +kernel
theorem dX4_kindFor_21 : decode cX4_kindFor 21 = .ok (.iconst 0, 1) := by decide +kernel
theorem dX4_kindFor_22 : decode cX4_kindFor 22 = .ok (.istore 5, 2) := by decide +kernel
theorem dX4_kindFor_24 : decode cX4_kindFor 24 = .ok (.iload 5, 2) := by decide +kernel
theorem dX4_kindFor_26 : decode cX4_kindFor 26 = .ok (.bipush 7, 2) := by decide +kernel
theorem dX4_kindFor_28 : decode cX4_kindFor 28 = .ok (.if_icmp .ge 55, 3) := by decide +kernel
theorem dX4_kindFor_31 : decode cX4_kindFor 31 = .ok (.aload_n 0, 1) := by decide +kernel
theorem dX4_kindFor_32 : decode cX4_kindFor 32 = .ok (.getfield 16, 3) := by decide +kernel
theorem dX4_kindFor_35 : decode cX4_kindFor 35 = .ok (.aload_n 0, 1) := by decide +kernel
theorem dX4_kindFor_36 : decode cX4_kindFor 36 = .ok (.getfield 12, 3) := by decide +kernel
theorem dX4_kindFor_39 : decode cX4_kindFor 39 = .ok (.invokevirtual 180, 3) := by decide +kernel
theorem dX4_kindFor_42 : decode cX4_kindFor 42 = .ok (.aload_n 0, 1) := by decide +kernel
theorem dX4_kindFor_43 : decode cX4_kindFor 43 = .ok (.getfield 16, 3) := by decide +kernel
theorem dX4_kindFor_46 : decode cX4_kindFor 46 = .ok (.getfield 70, 3) := by decide +kernel
theorem dX4_kindFor_49 : decode cX4_kindFor 49 = .ok (.iload_n 1, 1) := by decide +kernel
theorem dX4_kindFor_50 : decode cX4_kindFor 50 = .ok (.iload 5, 2) := by decide +kernel
theorem dX4_kindFor_52 : decode cX4_kindFor 52 = .ok (.iastore, 1) := by decide +kernel
theorem dX4_kindFor_53 : decode cX4_kindFor 53 = .ok (.aload_n 0, 1) := by decide +kernel
theorem dX4_kindFor_54 : decode cX4_kindFor 54 = .ok (.getfield 16, 3) := by decide +kernel
theorem dX4_kindFor_57 : decode cX4_kindFor 57 = .ok (.iload_n 1, 1) := by decide +kernel
theorem dX4_kindFor_58 : decode cX4_kindFor 58 = .ok (.invokevirtual 187, 3) := by decide +kernel
theorem dX4_kindFor_61 : decode cX4_kindFor 61 = .ok (.istore 6, 2) := by decide +kernel
theorem dX4_kindFor_63 : decode cX4_kindFor 63 = .ok (.iload 6, 2) := by decide +kernel
theorem dX4_kindFor_65 : decode cX4_kindFor 65 = .ok (.iload 4, 2) := by decide +kernel
theorem dX4_kindFor_67 : decode cX4_kindFor 67 = .ok (.if_icmp .le 10, 3) := by decide +kernel
theorem dX4_kindFor_70 : decode cX4_kindFor 70 = .ok (.iload 5, 2) := by decide +kernel
theorem dX4_kindFor_72 : decode cX4_kindFor 72 = .ok (.istore_n 3, 1) := by decide +kernel
theorem dX4_kindFor_73 : decode cX4_kindFor 73 = .ok (.iload 6, 2) := by decide +kernel
theorem dX4_kindFor_75 : decode cX4_kindFor 75 = .ok (.istore 4, 2) := by decide +kernel
theorem dX4_kindFor_77 : decode cX4_kindFor 77 = .ok (.iinc 5 1, 3) := by decide +kernel
theorem dX4_kindFor_80 : decode cX4_kindFor 80 = .ok (.goto (-56), 3) := by decide +kernel
theorem dX4_kindFor_83 : decode cX4_kindFor 83 = .ok (.iload_n 3, 1) := by decide +kernel
theorem dX4_kindFor_84 : decode cX4_kindFor 84 = .ok (.ireturn, 1) := by decide +kernel
