set_option maxRecDepth 20000 in
theorem ggX5_bears_X5_isDeed : GoodIn wsX5_bears wsX5_isDeed := goodIn_r _ [7, 1, 8, 9, 6, 10, 77, 78, 79, 80, 81, 82, 83, 84, 85, 86, 87, 88, 89, 90, 91, 92, 93] (by decide +kernel) (by decide +kernel)
set_option maxRecDepth 20000 in
theorem gX5_bears_X5_isDeed : GoodIn wsX5_bears (wsV RX5 112 RX5 yX5_isDeed wsX5_isDeed) := goodIn_app (goodIn_of _ (by decide +kernel)) ggX5_bears_X5_isDeed
set_option maxRecDepth 20000 in
theorem ggX5_bears_X5_isAhead : GoodIn wsX5_bears wsX5_isAhead := goodIn_r _ [13, 8, 9, 6, 10] (by decide +kernel) (by decide +kernel)
set_option maxRecDepth 20000 in
theorem gX5_bears_X5_isAhead : GoodIn wsX5_bears (va_wsS RX5 149 yX5_isAhead wsX5_isAhead) := goodIn_app (goodIn_of _ (by decide +kernel)) ggX5_bears_X5_isAhead
set_option maxRecDepth 20000 in
theorem ggX5_bears_X5_lacks : GoodIn wsX5_bears wsX5_lacks := goodIn_r _ [17, 18, 19, 20, 6, 21, 1, 77, 78, 79, 80, 81, 82, 83, 84, 85, 86, 87, 88, 89, 90, 91, 92, 93] (by decide +kernel) (by decide +kernel)
set_option maxRecDepth 20000 in
theorem gX5_bears_X5_lacks : GoodIn wsX5_bears (wsV RX5 141 RX5 yX5_lacks wsX5_lacks) := goodIn_app (goodIn_of _ (by decide +kernel)) ggX5_bears_X5_lacks
set_option maxRecDepth 20000 in
theorem ggX5_bears_X5_finding : GoodIn wsX5_bears wsX5_finding := goodIn_r _ [25, 26, 27, 77, 78, 79, 80, 81, 82, 83, 84, 85, 86, 87, 88, 89, 90, 91, 92, 93] (by decide +kernel) (by decide +kernel)
set_option maxRecDepth 20000 in
theorem gX5_bears_X5_finding : GoodIn wsX5_bears (wsV RX5 105 RX5 yX5_finding wsX5_finding) := goodIn_app (goodIn_of _ (by decide +kernel)) ggX5_bears_X5_finding
set_option maxRecDepth 20000 in
theorem ggX5_bears_X5_row : GoodIn wsX5_bears wsX5_row := goodIn_r _ [30] (by decide +kernel) (by decide +kernel)
set_option maxRecDepth 20000 in
theorem gX5_bears_X5_row : GoodIn wsX5_bears (va_wsS RX5 131 yX5_row wsX5_row) := goodIn_app (goodIn_of _ (by decide +kernel)) ggX5_bears_X5_row
set_option maxRecDepth 20000 in
theorem ggX5_bears_X5_holdingBehind : GoodIn wsX5_bears wsX5_holdingBehind := goodIn_r _ [34, 2, 35, 36, 37, 6, 38, 39, 40, 41, 42, 43, 44, 45, 46, 47, 48, 49, 50, 51, 52, 53, 54, 55, 56, 57, 58, 59, 60, 61, 62, 63, 64, 65, 66, 67, 68, 69, 70, 71, 72, 73, 74, 75, 76, 77, 78, 79, 80, 81, 82, 83, 84, 85, 86, 87, 88, 89, 90, 91, 92, 93] (by decide +kernel) (by decide +kernel)
set_option maxRecDepth 20000 in
theorem gX5_bears_X5_holdingBehind : GoodIn wsX5_bears (wsV RX5 135 RX5 yX5_holdingBehind wsX5_holdingBehind) := goodIn_app (goodIn_of _ (by decide +kernel)) ggX5_bears_X5_holdingBehind
theorem dX5_bears_0 : decode cX5_bears 0 = .ok (.aload_n 0, 1) := by decide +kernel
theorem dX5_bears_1 : decode cX5_bears 1 = .ok (.aload_n 0, 1) := by decide +kernel
theorem dX5_bears_2 : decode cX5_bears 2 = .ok (.iload_n 1, 1) := by decide +kernel
theorem dX5_bears_3 : decode cX5_bears 3 = .ok (.invokevirtual 112, 3) := by decide +kernel
theorem dX5_bears_6 : decode cX5_bears 6 = .ok (.ifCond .eq 14, 3) := by decide +kernel
theorem dX5_bears_9 : decode cX5_bears 9 = .ok (.iload_n 2, 1) := by decide +kernel
theorem dX5_bears_10 : decode cX5_bears 10 = .ok (.invokestatic 149, 3) := by decide +kernel
theorem dX5_bears_13 : decode cX5_bears 13 = .ok (.ifCond .eq 7, 3) := by decide +kernel
theorem dX5_bears_16 : decode cX5_bears 16 = .ok (.iconst 1, 1) := by decide +kernel
theorem dX5_bears_17 : decode cX5_bears 17 = .ok (.goto 4, 3) := by decide +kernel
theorem dX5_bears_20 : decode cX5_bears 20 = .ok (.iconst 0, 1) := by decide +kernel
theorem dX5_bears_21 : decode cX5_bears 21 = .ok (.iload_n 2, 1) := by decide +kernel
theorem dX5_bears_22 : decode cX5_bears 22 = .ok (.invokevirtual 141, 3) := by decide +kernel
theorem dX5_bears_25 : decode cX5_bears 25 = .ok (.istore_n 3, 1) := by decide +kernel
theorem dX5_bears_26 : decode cX5_bears 26 = .ok (.iload_n 3, 1) := by decide +kernel
theorem dX5_bears_27 : decode cX5_bears 27 = .ok (.ifCond .lt 9, 3) := by decide +kernel
theorem dX5_bears_30 : decode cX5_bears 30 = .ok (.aload_n 0, 1) := by decide +kernel
theorem dX5_bears_31 : decode cX5_bears 31 = .ok (.iload_n 3, 1) := by decide +kernel
theorem dX5_bears_32 : decode cX5_bears 32 = .ok (.invokevirtual 105, 3) := by decide +kernel
theorem dX5_bears_35 : decode cX5_bears 35 = .ok (.ireturn, 1) := by decide +kernel
theorem dX5_bears_36 : decode cX5_bears 36 = .ok (.bipush 40, 2) := by decide +kernel
theorem dX5_bears_38 : decode cX5_bears 38 = .ok (.istore 4, 2) := by decide +kernel
theorem dX5_bears_40 : decode cX5_bears 40 = .ok (.iload 4, 2) := by decide +kernel
theorem dX5_bears_42 : decode cX5_bears 42 = .ok (.ifCond .lt 44, 3) := by decide +kernel
theorem dX5_bears_45 : decode cX5_bears 45 = .ok (.aload_n 0, 1) := by decide +kernel
theorem dX5_bears_46 : decode cX5_bears 46 = .ok (.getfield 9, 3) := by decide +kernel
theorem dX5_bears_49 : decode cX5_bears 49 = .ok (.aload_n 0, 1) := by decide +kernel
theorem dX5_bears_50 : decode cX5_bears 50 = .ok (.getfield 16, 3) := by decide +kernel
theorem dX5_bears_53 : decode cX5_bears 53 = .ok (.invokestatic 131, 3) := by decide +kernel
theorem dX5_bears_56 : decode cX5_bears 56 = .ok (.aload_n 0, 1) := by decide +kernel
theorem dX5_bears_57 : decode cX5_bears 57 = .ok (.getfield 16, 3) := by decide +kernel
theorem dX5_bears_60 : decode cX5_bears 60 = .ok (.iconst 1, 1) := by decide +kernel
theorem dX5_bears_61 : decode cX5_bears 61 = .ok (.iload 4, 2) := by decide +kernel
theorem dX5_bears_63 : decode cX5_bears 63 = .ok (.iastore, 1) := by decide +kernel
theorem dX5_bears_64 : decode cX5_bears 64 = .ok (.aload_n 0, 1) := by decide +kernel
theorem dX5_bears_65 : decode cX5_bears 65 = .ok (.iload_n 2, 1) := by decide +kernel
theorem dX5_bears_66 : decode cX5_bears 66 = .ok (.invokevirtual 135, 3) := by decide +kernel
theorem dX5_bears_69 : decode cX5_bears 69 = .ok (.iload_n 1, 1) := by decide +kernel
theorem dX5_bears_70 : decode cX5_bears 70 = .ok (.ishr, 1) := by decide +kernel
theorem dX5_bears_71 : decode cX5_bears 71 = .ok (.iconst 1, 1) := by decide +kernel
theorem dX5_bears_72 : decode cX5_bears 72 = .ok (.iand, 1) := by decide +kernel
theorem dX5_bears_73 : decode cX5_bears 73 = .ok (.iconst 1, 1) := by decide +kernel
theorem dX5_bears_74 : decode cX5_bears 74 = .ok (.if_icmp .ne 6, 3) := by decide +kernel
theorem dX5_bears_77 : decode cX5_bears 77 = .ok (.iload 4, 2) := by decide +kernel
theorem dX5_bears_79 : decode cX5_bears 79 = .ok (.ireturn, 1) := by decide +kernel
theorem dX5_bears_80 : decode cX5_bears 80 = .ok (.iinc 4 (-1), 3) := by decide +kernel
theorem dX5_bears_83 : decode cX5_bears 83 = .ok (.goto (-43), 3) := by decide +kernel
theorem dX5_bears_86 : decode cX5_bears 86 = .ok (.aload_n 0, 1) := by decide +kernel
theorem dX5_bears_87 : decode cX5_bears 87 = .ok (.iconst 3, 1) := by decide +kernel
theorem dX5_bears_88 : decode cX5_bears 88 = .ok (.invokevirtual 105, 3) := by decide +kernel
theorem dX5_bears_91 : decode cX5_bears 91 = .ok (.ireturn, 1) := by decide +kernel
set_option maxRecDepth 20000 in
theorem ggX5_swap_X5_isAhead : GoodIn wsX5_swap wsX5_isAhead := goodIn_r _ [6, 7, 8, 5, 9] (by decide +kernel) (by decide +kernel)
set_option maxRecDepth 20000 in
theorem gX5_swap_X5_isAhead : GoodIn wsX5_swap (va_wsS RX5 149 yX5_isAhead wsX5_isAhead) := goodIn_app (goodIn_of _ (by decide +kernel)) ggX5_swap_X5_isAhead
set_option maxRecDepth 20000 in
theorem ggX5_swap_X5_lacks : GoodIn wsX5_swap wsX5_lacks := goodIn_r _ [13, 14, 15, 16, 5, 17, 1, 76, 77, 78, 79, 80, 81, 82, 83, 84, 85, 86, 87, 88, 89, 90, 91, 92] (by decide +kernel) (by decide +kernel)
set_option maxRecDepth 20000 in
theorem gX5_swap_X5_lacks : GoodIn wsX5_swap (wsV RX5 141 RX5 yX5_lacks wsX5_lacks) := goodIn_app (goodIn_of _ (by decide +kernel)) ggX5_swap_X5_lacks
set_option maxRecDepth 20000 in
theorem ggX5_swap_X5_finding : GoodIn wsX5_swap wsX5_finding := goodIn_r _ [21, 22, 23, 76, 77, 78, 79, 80, 81, 82, 83, 84, 85, 86, 87, 88, 89, 90, 91, 92] (by decide +kernel) (by decide +kernel)
set_option maxRecDepth 20000 in
theorem gX5_swap_X5_finding : GoodIn wsX5_swap (wsV RX5 105 RX5 yX5_finding wsX5_finding) := goodIn_app (goodIn_of _ (by decide +kernel)) ggX5_swap_X5_finding
set_option maxRecDepth 20000 in
theorem ggX5_swap_X5_row : GoodIn wsX5_swap wsX5_row := goodIn_r _ [26] (by decide +kernel) (by decide +kernel)
set_option maxRecDepth 20000 in
theorem gX5_swap_X5_row : GoodIn wsX5_swap (va_wsS RX5 131 yX5_row wsX5_row) := goodIn_app (goodIn_of _ (by decide +kernel)) ggX5_swap_X5_row
set_option maxRecDepth 20000 in
theorem ggX5_swap_X5_holdingBehind : GoodIn wsX5_swap wsX5_holdingBehind := goodIn_r _ [30, 2, 31, 32, 33, 5, 34, 35, 36, 37, 38, 39, 40, 41, 42, 43, 44, 45, 46, 47, 48, 49, 50, 51, 52, 53, 54, 55, 56, 57, 58, 59, 60, 61, 62, 63, 64, 65, 66, 67, 68, 69, 70, 71, 72, 76, 77, 78, 79, 80, 81, 82, 83, 84, 85, 86, 87, 88, 89, 90, 91, 92] (by decide +kernel) (by decide +kernel)
set_option maxRecDepth 20000 in
theorem gX5_swap_X5_holdingBehind : GoodIn wsX5_swap (wsV RX5 135 RX5 yX5_holdingBehind wsX5_holdingBehind) := goodIn_app (goodIn_of _ (by decide +kernel)) ggX5_swap_X5_holdingBehind
set_option maxRecDepth 20000 in
theorem ggX5_swap_X5_bits : GoodIn wsX5_swap wsX5_bits := goodIn_r _ [75] (by decide +kernel) (by decide +kernel)
set_option maxRecDepth 20000 in
theorem gX5_swap_X5_bits : GoodIn wsX5_swap (va_wsS RX5 156 yX5_bits wsX5_bits) := goodIn_app (goodIn_of _ (by decide +kernel)) ggX5_swap_X5_bits
theorem dX5_swap_0 : decode cX5_swap 0 = .ok (.aload_n 0, 1) := by decide +kernel
theorem dX5_swap_1 : decode cX5_swap 1 = .ok (.iload_n 1, 1) := by decide +kernel
theorem dX5_swap_2 : decode cX5_swap 2 = .ok (.invokestatic 149, 3) := by decide +kernel
theorem dX5_swap_5 : decode cX5_swap 5 = .ok (.iload_n 1, 1) := by decide +kernel
theorem dX5_swap_6 : decode cX5_swap 6 = .ok (.invokevirtual 141, 3) := by decide +kernel
theorem dX5_swap_9 : decode cX5_swap 9 = .ok (.istore_n 2, 1) := by decide +kernel
theorem dX5_swap_10 : decode cX5_swap 10 = .ok (.iload_n 2, 1) := by decide +kernel
theorem dX5_swap_11 : decode cX5_swap 11 = .ok (.ifCond .lt 9, 3) := by decide +kernel
theorem dX5_swap_14 : decode cX5_swap 14 = .ok (.aload_n 0, 1) := by decide +kernel
theorem dX5_swap_15 : decode cX5_swap 15 = .ok (.iload_n 2, 1) := by decide +kernel
theorem dX5_swap_16 : decode cX5_swap 16 = .ok (.invokevirtual 105, 3) := by decide +kernel
theorem dX5_swap_19 : decode cX5_swap 19 = .ok (.ireturn, 1) := by decide +kernel
theorem dX5_swap_20 : decode cX5_swap 20 = .ok (.aload_n 0, 1) := by decide +kernel
theorem dX5_swap_21 : decode cX5_swap 21 = .ok (.getfield 9, 3) := by decide +kernel
theorem dX5_swap_24 : decode cX5_swap 24 = .ok (.aload_n 0, 1) := by decide +kernel
theorem dX5_swap_25 : decode cX5_swap 25 = .ok (.getfield 16, 3) := by decide +kernel
theorem dX5_swap_28 : decode cX5_swap 28 = .ok (.invokestatic 131, 3) := by decide +kernel
theorem dX5_swap_31 : decode cX5_swap 31 = .ok (.aload_n 0, 1) := by decide +kernel
theorem dX5_swap_32 : decode cX5_swap 32 = .ok (.iload_n 1, 1) := by decide +kernel
theorem dX5_swap_33 : decode cX5_swap 33 = .ok (.invokevirtual 135, 3) := by decide +kernel
theorem dX5_swap_36 : decode cX5_swap 36 = .ok (.invokestatic 156, 3) := by decide +kernel
theorem dX5_swap_39 : decode cX5_swap 39 = .ok (.istore_n 3, 1) := by decide +kernel
theorem dX5_swap_40 : decode cX5_swap 40 = .ok (.iconst (-1), 1) := by decide +kernel
theorem dX5_swap_41 : decode cX5_swap 41 = .ok (.istore 4, 2) := by decide +kernel
theorem dX5_swap_43 : decode cX5_swap 43 = .ok (.iconst 0, 1) := by decide +kernel
theorem dX5_swap_44 : decode cX5_swap 44 = .ok (.istore 5, 2) := by decide +kernel
theorem dX5_swap_46 : decode cX5_swap 46 = .ok (.iload 5, 2) := by decide +kernel
theorem dX5_swap_48 : decode cX5_swap 48 = .ok (.aload_n 0, 1) := by decide +kernel
theorem dX5_swap_49 : decode cX5_swap 49 = .ok (.getfield 9, 3) := by decide +kernel
theorem dX5_swap_52 : decode cX5_swap 52 = .ok (.iconst 0, 1) := by decide +kernel
theorem dX5_swap_53 : decode cX5_swap 53 = .ok (.iaload, 1) := by decide +kernel
theorem dX5_swap_54 : decode cX5_swap 54 = .ok (.if_icmp .ge 112, 3) := by decide +kernel
theorem dX5_swap_57 : decode cX5_swap 57 = .ok (.iload 5, 2) := by decide +kernel
theorem dX5_swap_59 : decode cX5_swap 59 = .ok (.iconst 1, 1) := by decide +kernel
theorem dX5_swap_60 : decode cX5_swap 60 = .ok (.iadd, 1) := by decide +kernel
theorem dX5_swap_61 : decode cX5_swap 61 = .ok (.istore 6, 2) := by decide +kernel
theorem dX5_swap_63 : decode cX5_swap 63 = .ok (.iload 6, 2) := by decide +kernel
theorem dX5_swap_65 : decode cX5_swap 65 = .ok (.aload_n 0, 1) := by decide +kernel
theorem dX5_swap_66 : decode cX5_swap 66 = .ok (.getfield 9, 3) := by decide +kernel
theorem dX5_swap_69 : decode cX5_swap 69 = .ok (.iconst 0, 1) := by decide +kernel
theorem dX5_swap_70 : decode cX5_swap 70 = .ok (.iaload, 1) := by decide +kernel
theorem dX5_swap_71 : decode cX5_swap 71 = .ok (.if_icmp .ge 89, 3) := by decide +kernel
theorem dX5_swap_74 : decode cX5_swap 74 = .ok (.aload_n 0, 1) := by decide +kernel
theorem dX5_swap_75 : decode cX5_swap 75 = .ok (.getfield 9, 3) := by decide +kernel
theorem dX5_swap_78 : decode cX5_swap 78 = .ok (.aload_n 0, 1) := by decide +kernel
theorem dX5_swap_79 : decode cX5_swap 79 = .ok (.getfield 16, 3) := by decide +kernel
theorem dX5_swap_82 : decode cX5_swap 82 = .ok (.invokestatic 131, 3) := by decide +kernel
theorem dX5_swap_85 : decode cX5_swap 85 = .ok (.aload_n 0, 1) := by decide +kernel
theorem dX5_swap_86 : decode cX5_swap 86 = .ok (.getfield 16, 3) := by decide +kernel
theorem dX5_swap_89 : decode cX5_swap 89 = .ok (.bipush 40, 2) := by decide +kernel
theorem dX5_swap_91 : decode cX5_swap 91 = .ok (.iload 5, 2) := by decide +kernel
theorem dX5_swap_93 : decode cX5_swap 93 = .ok (.iadd, 1) := by decide +kernel
theorem dX5_swap_94 : decode cX5_swap 94 = .ok (.aload_n 0, 1) := by decide +kernel
theorem dX5_swap_95 : decode cX5_swap 95 = .ok (.getfield 9, 3) := by decide +kernel
theorem dX5_swap_98 : decode cX5_swap 98 = .ok (.bipush 40, 2) := by decide +kernel
theorem dX5_swap_100 : decode cX5_swap 100 = .ok (.iload 6, 2) := by decide +kernel
theorem dX5_swap_102 : decode cX5_swap 102 = .ok (.iadd, 1) := by decide +kernel
theorem dX5_swap_103 : decode cX5_swap 103 = .ok (.iaload, 1) := by decide +kernel
theorem dX5_swap_104 : decode cX5_swap 104 = .ok (.iastore, 1) := by decide +kernel
theorem dX5_swap_105 : decode cX5_swap 105 = .ok (.aload_n 0, 1) := by decide +kernel
theorem dX5_swap_106 : decode cX5_swap 106 = .ok (.getfield 16, 3) := by decide +kernel
theorem dX5_swap_109 : decode cX5_swap 109 = .ok (.bipush 40, 2) := by decide +kernel
theorem dX5_swap_111 : decode cX5_swap 111 = .ok (.iload 6, 2) := by decide +kernel
theorem dX5_swap_113 : decode cX5_swap 113 = .ok (.iadd, 1) := by decide +kernel
theorem dX5_swap_114 : decode cX5_swap 114 = .ok (.aload_n 0, 1) := by decide +kernel
theorem dX5_swap_115 : decode cX5_swap 115 = .ok (.getfield 9, 3) := by decide +kernel
theorem dX5_swap_118 : decode cX5_swap 118 = .ok (.bipush 40, 2) := by decide +kernel
theorem dX5_swap_120 : decode cX5_swap 120 = .ok (.iload 5, 2) := by decide +kernel
theorem dX5_swap_122 : decode cX5_swap 122 = .ok (.iadd, 1) := by decide +kernel
theorem dX5_swap_123 : decode cX5_swap 123 = .ok (.iaload, 1) := by decide +kernel
theorem dX5_swap_124 : decode cX5_swap 124 = .ok (.iastore, 1) := by decide +kernel
theorem dX5_swap_125 : decode cX5_swap 125 = .ok (.aload_n 0, 1) := by decide +kernel
theorem dX5_swap_126 : decode cX5_swap 126 = .ok (.iload_n 1, 1) := by decide +kernel
theorem dX5_swap_127 : decode cX5_swap 127 = .ok (.invokevirtual 135, 3) := by decide +kernel
theorem dX5_swap_130 : decode cX5_swap 130 = .ok (.invokestatic 156, 3) := by decide +kernel
theorem dX5_swap_133 : decode cX5_swap 133 = .ok (.istore 7, 2) := by decide +kernel
theorem dX5_swap_135 : decode cX5_swap 135 = .ok (.iload 7, 2) := by decide +kernel
theorem dX5_swap_137 : decode cX5_swap 137 = .ok (.iload_n 3, 1) := by decide +kernel
theorem dX5_swap_138 : decode cX5_swap 138 = .ok (.if_icmp .le 16, 3) := by decide +kernel
theorem dX5_swap_141 : decode cX5_swap 141 = .ok (.bipush 10, 2) := by decide +kernel
theorem dX5_swap_143 : decode cX5_swap 143 = .ok (.iload 5, 2) := by decide +kernel
theorem dX5_swap_145 : decode cX5_swap 145 = .ok (.imul, 1) := by decide +kernel
theorem dX5_swap_146 : decode cX5_swap 146 = .ok (.iload 6, 2) := by decide +kernel
theorem dX5_swap_148 : decode cX5_swap 148 = .ok (.iadd, 1) := by decide +kernel
theorem dX5_swap_149 : decode cX5_swap 149 = .ok (.istore 4, 2) := by decide +kernel
theorem dX5_swap_151 : decode cX5_swap 151 = .ok (.iload 7, 2) := by decide +kernel
theorem dX5_swap_153 : decode cX5_swap 153 = .ok (.istore_n 3, 1) := by decide +kernel
theorem dX5_swap_154 : decode cX5_swap 154 = .ok (.iinc 6 1, 3) := by decide +kernel
theorem dX5_swap_157 : decode cX5_swap 157 = .ok (.goto (-94), 3) := by decide +kernel
theorem dX5_swap_160 : decode cX5_swap 160 = .ok (.iinc 5 1, 3) := by decide +kernel
theorem dX5_swap_163 : decode cX5_swap 163 = .ok (.goto (-117), 3) := by decide +kernel
theorem dX5_swap_166 : decode cX5_swap 166 = .ok (.iload 4, 2) := by decide +kernel
theorem dX5_swap_168 : decode cX5_swap 168 = .ok (.ifCond .ge 11, 3) := by decide +kernel
theorem dX5_swap_171 : decode cX5_swap 171 = .ok (.aload_n 0, 1) := by decide +kernel
theorem dX5_swap_172 : decode cX5_swap 172 = .ok (.iconst 3, 1) := by decide +kernel
theorem dX5_swap_173 : decode cX5_swap 173 = .ok (.invokevirtual 105, 3) := by decide +kernel
theorem dX5_swap_176 : decode cX5_swap 176 = .ok (.goto 5, 3) := by decide +kernel
theorem dX5_swap_179 : decode cX5_swap 179 = .ok (.iload 4, 2) := by decide +kernel
theorem dX5_swap_181 : decode cX5_swap 181 = .ok (.ireturn, 1) := by decide +kernel
set_option maxRecDepth 20000 in
theorem ggX5_law_X5_isAhead : GoodIn wsX5_law wsX5_isAhead := goodIn_r _ [6, 7, 8, 5, 9] (by decide +kernel) (by decide +kernel)
set_option maxRecDepth 20000 in
theorem gX5_law_X5_isAhead : GoodIn wsX5_law (va_wsS RX5 149 yX5_isAhead wsX5_isAhead) := goodIn_app (goodIn_of _ (by decide +kernel)) ggX5_law_X5_isAhead
set_option maxRecDepth 20000 in
theorem ggX5_law_X5_lacks : GoodIn wsX5_law wsX5_lacks := goodIn_r _ [13, 14, 15, 16, 5, 17, 1, 76, 77, 78, 79, 80, 81, 82, 83, 84, 85, 86, 87, 88, 89, 90, 91, 92] (by decide +kernel) (by decide +kernel)
set_option maxRecDepth 20000 in
theorem gX5_law_X5_lacks : GoodIn wsX5_law (wsV RX5 141 RX5 yX5_lacks wsX5_lacks) := goodIn_app (goodIn_of _ (by decide +kernel)) ggX5_law_X5_lacks
set_option maxRecDepth 20000 in
theorem ggX5_law_X5_finding : GoodIn wsX5_law wsX5_finding := goodIn_r _ [21, 22, 23, 76, 77, 78, 79, 80, 81, 82, 83, 84, 85, 86, 87, 88, 89, 90, 91, 92] (by decide +kernel) (by decide +kernel)
set_option maxRecDepth 20000 in
theorem gX5_law_X5_finding : GoodIn wsX5_law (wsV RX5 105 RX5 yX5_finding wsX5_finding) := goodIn_app (goodIn_of _ (by decide +kernel)) ggX5_law_X5_finding
set_option maxRecDepth 20000 in
theorem ggX5_law_X5_row : GoodIn wsX5_law wsX5_row := goodIn_r _ [26] (by decide +kernel) (by decide +kernel)
set_option maxRecDepth 20000 in
theorem gX5_law_X5_row : GoodIn wsX5_law (va_wsS RX5 131 yX5_row wsX5_row) := goodIn_app (goodIn_of _ (by decide +kernel)) ggX5_law_X5_row
set_option maxRecDepth 20000 in
theorem ggX5_law_X5_holdingBehind : GoodIn wsX5_law wsX5_holdingBehind := goodIn_r _ [30, 2, 31, 32, 33, 5, 34, 35, 36, 37, 38, 39, 40, 41, 42, 43, 44, 45, 46, 47, 48, 49, 50, 51, 52, 53, 54, 55, 56, 57, 58, 59, 60, 61, 62, 63, 64, 65, 66, 67, 68, 69, 70, 71, 72, 76, 77, 78, 79, 80, 81, 82, 83, 84, 85, 86, 87, 88, 89, 90, 91, 92] (by decide +kernel) (by decide +kernel)
set_option maxRecDepth 20000 in
theorem gX5_law_X5_holdingBehind : GoodIn wsX5_law (wsV RX5 135 RX5 yX5_holdingBehind wsX5_holdingBehind) := goodIn_app (goodIn_of _ (by decide +kernel)) ggX5_law_X5_holdingBehind
set_option maxRecDepth 20000 in
theorem ggX5_law_X5_bits : GoodIn wsX5_law wsX5_bits := goodIn_r _ [75] (by decide +kernel) (by decide +kernel)
set_option maxRecDepth 20000 in
theorem gX5_law_X5_bits : GoodIn wsX5_law (va_wsS RX5 156 yX5_bits wsX5_bits) := goodIn_app (goodIn_of _ (by decide +kernel)) ggX5_law_X5_bits
theorem dX5_law_0 : decode cX5_law 0 = .ok (.aload_n 0, 1) := by decide +kernel
theorem dX5_law_1 : decode cX5_law 1 = .ok (.iload_n 1, 1) := by decide +kernel
theorem dX5_law_2 : decode cX5_law 2 = .ok (.invokestatic 149, 3) := by decide +kernel
theorem dX5_law_5 : decode cX5_law 5 = .ok (.iload_n 1, 1) := by decide +kernel
theorem dX5_law_6 : decode cX5_law 6 = .ok (.invokevirtual 141, 3) := by decide +kernel
theorem dX5_law_9 : decode cX5_law 9 = .ok (.istore_n 2, 1) := by decide +kernel
theorem dX5_law_10 : decode cX5_law 10 = .ok (.iload_n 2, 1) := by decide +kernel
theorem dX5_law_11 : decode cX5_law 11 = .ok (.ifCond .lt 9, 3) := by decide +kernel
theorem dX5_law_14 : decode cX5_law 14 = .ok (.aload_n 0, 1) := by decide +kernel
theorem dX5_law_15 : decode cX5_law 15 = .ok (.iload_n 2, 1) := by decide +kernel
theorem dX5_law_16 : decode cX5_law 16 = .ok (.invokevirtual 105, 3) := by decide +kernel
theorem dX5_law_19 : decode cX5_law 19 = .ok (.ireturn, 1) := by decide +kernel
theorem dX5_law_20 : decode cX5_law 20 = .ok (.iconst 0, 1) := by decide +kernel
theorem dX5_law_21 : decode cX5_law 21 = .ok (.istore_n 3, 1) := by decide +kernel
theorem dX5_law_22 : decode cX5_law 22 = .ok (.iconst (-1), 1) := by decide +kernel
theorem dX5_law_23 : decode cX5_law 23 = .ok (.istore 4, 2) := by decide +kernel
theorem dX5_law_25 : decode cX5_law 25 = .ok (.iconst 0, 1) := by decide +kernel
theorem dX5_law_26 : decode cX5_law 26 = .ok (.istore 5, 2) := by decide +kernel
theorem dX5_law_28 : decode cX5_law 28 = .ok (.iload 5, 2) := by decide +kernel
theorem dX5_law_30 : decode cX5_law 30 = .ok (.bipush 7, 2) := by decide +kernel
theorem dX5_law_32 : decode cX5_law 32 = .ok (.if_icmp .ge 76, 3) := by decide +kernel
theorem dX5_law_35 : decode cX5_law 35 = .ok (.aload_n 0, 1) := by decide +kernel
theorem dX5_law_36 : decode cX5_law 36 = .ok (.getfield 9, 3) := by decide +kernel
theorem dX5_law_39 : decode cX5_law 39 = .ok (.aload_n 0, 1) := by decide +kernel
theorem dX5_law_40 : decode cX5_law 40 = .ok (.getfield 16, 3) := by decide +kernel
theorem dX5_law_43 : decode cX5_law 43 = .ok (.invokestatic 131, 3) := by decide +kernel
theorem dX5_law_46 : decode cX5_law 46 = .ok (.iconst 0, 1) := by decide +kernel
theorem dX5_law_47 : decode cX5_law 47 = .ok (.istore 6, 2) := by decide +kernel
theorem dX5_law_49 : decode cX5_law 49 = .ok (.iload 6, 2) := by decide +kernel
theorem dX5_law_51 : decode cX5_law 51 = .ok (.aload_n 0, 1) := by decide +kernel
theorem dX5_law_52 : decode cX5_law 52 = .ok (.getfield 9, 3) := by decide +kernel
theorem dX5_law_55 : decode cX5_law 55 = .ok (.iconst 0, 1) := by decide +kernel
theorem dX5_law_56 : decode cX5_law 56 = .ok (.iaload, 1) := by decide +kernel
theorem dX5_law_57 : decode cX5_law 57 = .ok (.if_icmp .ge 21, 3) := by decide +kernel
theorem dX5_law_60 : decode cX5_law 60 = .ok (.aload_n 0, 1) := by decide +kernel
theorem dX5_law_61 : decode cX5_law 61 = .ok (.getfield 16, 3) := by decide +kernel
theorem dX5_law_64 : decode cX5_law 64 = .ok (.bipush 32, 2) := by decide +kernel
theorem dX5_law_66 : decode cX5_law 66 = .ok (.iload 6, 2) := by decide +kernel
theorem dX5_law_68 : decode cX5_law 68 = .ok (.iadd, 1) := by decide +kernel
theorem dX5_law_69 : decode cX5_law 69 = .ok (.iload 5, 2) := by decide +kernel
theorem dX5_law_71 : decode cX5_law 71 = .ok (.iastore, 1) := by decide +kernel
theorem dX5_law_72 : decode cX5_law 72 = .ok (.iinc 6 1, 3) := by decide +kernel
theorem dX5_law_75 : decode cX5_law 75 = .ok (.goto (-26), 3) := by decide +kernel
theorem dX5_law_78 : decode cX5_law 78 = .ok (.aload_n 0, 1) := by decide +kernel
theorem dX5_law_79 : decode cX5_law 79 = .ok (.iload_n 1, 1) := by decide +kernel
theorem dX5_law_80 : decode cX5_law 80 = .ok (.invokevirtual 135, 3) := by decide +kernel
theorem dX5_law_83 : decode cX5_law 83 = .ok (.invokestatic 156, 3) := by decide +kernel
theorem dX5_law_86 : decode cX5_law 86 = .ok (.istore 6, 2) := by decide +kernel
theorem dX5_law_88 : decode cX5_law 88 = .ok (.iload 6, 2) := by decide +kernel
theorem dX5_law_90 : decode cX5_law 90 = .ok (.iload 4, 2) := by decide +kernel
theorem dX5_law_92 : decode cX5_law 92 = .ok (.if_icmp .le 10, 3) := by decide +kernel
theorem dX5_law_95 : decode cX5_law 95 = .ok (.iload 5, 2) := by decide +kernel
theorem dX5_law_97 : decode cX5_law 97 = .ok (.istore_n 3, 1) := by decide +kernel
theorem dX5_law_98 : decode cX5_law 98 = .ok (.iload 6, 2) := by decide +kernel
theorem dX5_law_100 : decode cX5_law 100 = .ok (.istore 4, 2) := by decide +kernel
theorem dX5_law_102 : decode cX5_law 102 = .ok (.iinc 5 1, 3) := by decide +kernel
theorem dX5_law_105 : decode cX5_law 105 = .ok (.goto (-77), 3) := by decide +kernel
theorem dX5_law_108 : decode cX5_law 108 = .ok (.iload_n 3, 1) := by decide +kernel
theorem dX5_law_109 : decode cX5_law 109 = .ok (.ireturn, 1) := by decide +kernel
theorem dX5_shut_0 : decode cX5_shut 0 = .ok (.iconst 0, 1) := by decide +kernel
theorem dX5_shut_1 : decode cX5_shut 1 = .ok (.istore_n 1, 1) := by decide +kernel
theorem dX5_shut_2 : decode cX5_shut 2 = .ok (.iconst 0, 1) := by decide +kernel
theorem dX5_shut_3 : decode cX5_shut 3 = .ok (.istore_n 2, 1) := by decide +kernel
theorem dX5_shut_4 : decode cX5_shut 4 = .ok (.iload_n 2, 1) := by decide +kernel
theorem dX5_shut_5 : decode cX5_shut 5 = .ok (.bipush 6, 2) := by decide +kernel
theorem dX5_shut_7 : decode cX5_shut 7 = .ok (.if_icmp .ge 30, 3) := by decide +kernel
theorem dX5_shut_10 : decode cX5_shut 10 = .ok (.iload_n 1, 1) := by decide +kernel
theorem dX5_shut_11 : decode cX5_shut 11 = .ok (.aload_n 0, 1) := by decide +kernel
theorem dX5_shut_12 : decode cX5_shut 12 = .ok (.getfield 9, 3) := by decide +kernel
theorem dX5_shut_15 : decode cX5_shut 15 = .ok (.iconst 4, 1) := by decide +kernel
theorem dX5_shut_16 : decode cX5_shut 16 = .ok (.iload_n 2, 1) := by decide +kernel
theorem dX5_shut_17 : decode cX5_shut 17 = .ok (.iadd, 1) := by decide +kernel
theorem dX5_shut_18 : decode cX5_shut 18 = .ok (.iaload, 1) := by decide +kernel
theorem dX5_shut_19 : decode cX5_shut 19 = .ok (.ifCond .ne 9, 3) := by decide +kernel
theorem dX5_shut_22 : decode cX5_shut 22 = .ok (.iconst 1, 1) := by decide +kernel
theorem dX5_shut_23 : decode cX5_shut 23 = .ok (.iload_n 2, 1) := by decide +kernel
theorem dX5_shut_24 : decode cX5_shut 24 = .ok (.ishl, 1) := by decide +kernel
theorem dX5_shut_25 : decode cX5_shut 25 = .ok (.goto 4, 3) := by decide +kernel
theorem dX5_shut_28 : decode cX5_shut 28 = .ok (.iconst 0, 1) := by decide +kernel
theorem dX5_shut_29 : decode cX5_shut 29 = .ok (.ior, 1) := by decide +kernel
theorem dX5_shut_30 : decode cX5_shut 30 = .ok (.istore_n 1, 1) := by decide +kernel
theorem dX5_shut_31 : decode cX5_shut 31 = .ok (.iinc 2 1, 3) := by decide +kernel
theorem dX5_shut_34 : decode cX5_shut 34 = .ok (.goto (-30), 3) := by decide +kernel
theorem dX5_shut_37 : decode cX5_shut 37 = .ok (.iload_n 1, 1) := by decide +kernel
theorem dX5_shut_38 : decode cX5_shut 38 = .ok (.ireturn, 1) := by decide +kernel
set_option maxRecDepth 20000 in
theorem ggX5_holdingWith_X5_row : GoodIn wsX5_holdingWith wsX5_row := goodIn_r _ [6] (by decide +kernel) (by decide +kernel)
set_option maxRecDepth 20000 in
theorem gX5_holdingWith_X5_row : GoodIn wsX5_holdingWith (va_wsS RX5 131 yX5_row wsX5_row) := goodIn_app (goodIn_of _ (by decide +kernel)) ggX5_holdingWith_X5_row
set_option maxRecDepth 20000 in
theorem ggX5_holdingWith_X5_holdingBehind : GoodIn wsX5_holdingWith wsX5_holdingBehind := goodIn_r _ [10, 2, 11, 12, 13, 5, 14, 15, 16, 17, 18, 19, 20, 21, 22, 23, 24, 25, 26, 27, 28, 29, 30, 31, 32, 33, 34, 35, 36, 37, 38, 39, 40, 41, 42, 43, 44, 45, 46, 47, 48, 49, 50, 51, 52, 53, 54, 55, 56, 57, 58, 59, 60, 61, 62, 63, 64, 65, 66, 67, 68, 69] (by decide +kernel) (by decide +kernel)
set_option maxRecDepth 20000 in
theorem gX5_holdingWith_X5_holdingBehind : GoodIn wsX5_holdingWith (wsV RX5 135 RX5 yX5_holdingBehind wsX5_holdingBehind) := goodIn_app (goodIn_of _ (by decide +kernel)) ggX5_holdingWith_X5_holdingBehind
theorem dX5_holdingWith_0 : decode cX5_holdingWith 0 = .ok (.aload_n 0, 1) := by decide +kernel
theorem dX5_holdingWith_1 : decode cX5_holdingWith 1 = .ok (.getfield 9, 3) := by decide +kernel
theorem dX5_holdingWith_4 : decode cX5_holdingWith 4 = .ok (.aload_n 0, 1) := by decide +kernel
theorem dX5_holdingWith_5 : decode cX5_holdingWith 5 = .ok (.getfield 16, 3) := by decide +kernel
theorem dX5_holdingWith_8 : decode cX5_holdingWith 8 = .ok (.invokestatic 131, 3) := by decide +kernel
theorem dX5_holdingWith_11 : decode cX5_holdingWith 11 = .ok (.iconst 0, 1) := by decide +kernel
theorem dX5_holdingWith_12 : decode cX5_holdingWith 12 = .ok (.istore_n 3, 1) := by decide +kernel
theorem dX5_holdingWith_13 : decode cX5_holdingWith 13 = .ok (.iload_n 3, 1) := by decide +kernel
theorem dX5_holdingWith_14 : decode cX5_holdingWith 14 = .ok (.bipush 6, 2) := by decide +kernel
theorem dX5_holdingWith_16 : decode cX5_holdingWith 16 = .ok (.if_icmp .ge 38, 3) := by decide +kernel
theorem dX5_holdingWith_19 : decode cX5_holdingWith 19 = .ok (.aload_n 0, 1) := by decide +kernel
theorem dX5_holdingWith_20 : decode cX5_holdingWith 20 = .ok (.getfield 16, 3) := by decide +kernel
theorem dX5_holdingWith_23 : decode cX5_holdingWith 23 = .ok (.iconst 4, 1) := by decide +kernel
theorem dX5_holdingWith_24 : decode cX5_holdingWith 24 = .ok (.iload_n 3, 1) := by decide +kernel
theorem dX5_holdingWith_25 : decode cX5_holdingWith 25 = .ok (.iadd, 1) := by decide +kernel
theorem dX5_holdingWith_26 : decode cX5_holdingWith 26 = .ok (.iload_n 1, 1) := by decide +kernel
theorem dX5_holdingWith_27 : decode cX5_holdingWith 27 = .ok (.iload_n 3, 1) := by decide +kernel
theorem dX5_holdingWith_28 : decode cX5_holdingWith 28 = .ok (.ishr, 1) := by decide +kernel
theorem dX5_holdingWith_29 : decode cX5_holdingWith 29 = .ok (.iconst 1, 1) := by decide +kernel
theorem dX5_holdingWith_30 : decode cX5_holdingWith 30 = .ok (.iand, 1) := by decide +kernel
theorem dX5_holdingWith_31 : decode cX5_holdingWith 31 = .ok (.iconst 1, 1) := by decide +kernel
theorem dX5_holdingWith_32 : decode cX5_holdingWith 32 = .ok (.if_icmp .ne 7, 3) := by decide +kernel
theorem dX5_holdingWith_35 : decode cX5_holdingWith 35 = .ok (.iconst 1, 1) := by decide +kernel
theorem dX5_holdingWith_36 : decode cX5_holdingWith 36 = .ok (.goto 11, 3) := by decide +kernel
theorem dX5_holdingWith_39 : decode cX5_holdingWith 39 = .ok (.aload_n 0, 1) := by decide +kernel
theorem dX5_holdingWith_40 : decode cX5_holdingWith 40 = .ok (.getfield 16, 3) := by decide +kernel
theorem dX5_holdingWith_43 : decode cX5_holdingWith 43 = .ok (.iconst 4, 1) := by decide +kernel
theorem dX5_holdingWith_44 : decode cX5_holdingWith 44 = .ok (.iload_n 3, 1) := by decide +kernel
theorem dX5_holdingWith_45 : decode cX5_holdingWith 45 = .ok (.iadd, 1) := by decide +kernel
theorem dX5_holdingWith_46 : decode cX5_holdingWith 46 = .ok (.iaload, 1) := by decide +kernel
theorem dX5_holdingWith_47 : decode cX5_holdingWith 47 = .ok (.iastore, 1) := by decide +kernel
theorem dX5_holdingWith_48 : decode cX5_holdingWith 48 = .ok (.iinc 3 1, 3) := by decide +kernel
theorem dX5_holdingWith_51 : decode cX5_holdingWith 51 = .ok (.goto (-38), 3) := by decide +kernel
theorem dX5_holdingWith_54 : decode cX5_holdingWith 54 = .ok (.aload_n 0, 1) := by decide +kernel
theorem dX5_holdingWith_55 : decode cX5_holdingWith 55 = .ok (.iload_n 2, 1) := by decide +kernel
theorem dX5_holdingWith_56 : decode cX5_holdingWith 56 = .ok (.invokevirtual 135, 3) := by decide +kernel
theorem dX5_holdingWith_59 : decode cX5_holdingWith 59 = .ok (.ireturn, 1) := by decide +kernel
set_option maxRecDepth 20000 in
theorem ggX5_worstOf_X5_bits : GoodIn wsX5_worstOf wsX5_bits := goodIn_r _ [5] (by decide +kernel) (by decide +kernel)
set_option maxRecDepth 20000 in
theorem gX5_worstOf_X5_bits : GoodIn wsX5_worstOf (va_wsS RX5 156 yX5_bits wsX5_bits) := goodIn_app (goodIn_of _ (by decide +kernel)) ggX5_worstOf_X5_bits
set_option maxRecDepth 20000 in
theorem ggX5_worstOf_X5_holdingWith : GoodIn wsX5_worstOf wsX5_holdingWith := goodIn_r _ [9, 10, 11, 12, 13, 4, 14, 15, 16, 17, 18, 19, 20, 21, 22, 23, 24, 25, 26, 27, 28, 29, 30, 31, 32, 33, 34, 35, 36, 37, 38, 39, 40, 41, 42, 43, 44, 45, 46, 47, 48, 49, 50, 51, 52, 53, 54, 55, 56, 57, 58, 59, 60, 61, 62, 63, 64, 65, 66, 67, 68, 69, 70, 71, 72, 73, 74, 75, 76, 77] (by decide +kernel) (by decide +kernel)
set_option maxRecDepth 20000 in
theorem gX5_worstOf_X5_holdingWith : GoodIn wsX5_worstOf (wsV RX5 163 RX5 yX5_holdingWith wsX5_holdingWith) := goodIn_app (goodIn_of _ (by decide +kernel)) ggX5_worstOf_X5_holdingWith
theorem dX5_worstOf_0 : decode cX5_worstOf 0 = .ok (.iconst (-1), 1) := by decide +kernel
theorem dX5_worstOf_1 : decode cX5_worstOf 1 = .ok (.istore 4, 2) := by decide +kernel
theorem dX5_worstOf_3 : decode cX5_worstOf 3 = .ok (.aload_n 0, 1) := by decide +kernel
theorem dX5_worstOf_4 : decode cX5_worstOf 4 = .ok (.bipush 9, 2) := by decide +kernel
theorem dX5_worstOf_6 : decode cX5_worstOf 6 = .ok (.putfield 159, 3) := by decide +kernel
theorem dX5_worstOf_9 : decode cX5_worstOf 9 = .ok (.iconst 0, 1) := by decide +kernel
theorem dX5_worstOf_10 : decode cX5_worstOf 10 = .ok (.istore 5, 2) := by decide +kernel
theorem dX5_worstOf_12 : decode cX5_worstOf 12 = .ok (.iload 5, 2) := by decide +kernel
theorem dX5_worstOf_14 : decode cX5_worstOf 14 = .ok (.bipush 64, 2) := by decide +kernel
theorem dX5_worstOf_16 : decode cX5_worstOf 16 = .ok (.if_icmp .ge 58, 3) := by decide +kernel
theorem dX5_worstOf_19 : decode cX5_worstOf 19 = .ok (.iload 5, 2) := by decide +kernel
theorem dX5_worstOf_21 : decode cX5_worstOf 21 = .ok (.iload_n 1, 1) := by decide +kernel
theorem dX5_worstOf_22 : decode cX5_worstOf 22 = .ok (.iconst (-1), 1) := by decide +kernel
theorem dX5_worstOf_23 : decode cX5_worstOf 23 = .ok (.ixor, 1) := by decide +kernel
theorem dX5_worstOf_24 : decode cX5_worstOf 24 = .ok (.iand, 1) := by decide +kernel
theorem dX5_worstOf_25 : decode cX5_worstOf 25 = .ok (.ifCond .ne 43, 3) := by decide +kernel
theorem dX5_worstOf_28 : decode cX5_worstOf 28 = .ok (.iload 5, 2) := by decide +kernel
theorem dX5_worstOf_30 : decode cX5_worstOf 30 = .ok (.invokestatic 156, 3) := by decide +kernel
theorem dX5_worstOf_33 : decode cX5_worstOf 33 = .ok (.iload_n 2, 1) := by decide +kernel
theorem dX5_worstOf_34 : decode cX5_worstOf 34 = .ok (.if_icmp .ne 34, 3) := by decide +kernel
theorem dX5_worstOf_37 : decode cX5_worstOf 37 = .ok (.aload_n 0, 1) := by decide +kernel
theorem dX5_worstOf_38 : decode cX5_worstOf 38 = .ok (.iload 5, 2) := by decide +kernel
theorem dX5_worstOf_40 : decode cX5_worstOf 40 = .ok (.iload_n 3, 1) := by decide +kernel
theorem dX5_worstOf_41 : decode cX5_worstOf 41 = .ok (.invokevirtual 163, 3) := by decide +kernel
theorem dX5_worstOf_44 : decode cX5_worstOf 44 = .ok (.invokestatic 156, 3) := by decide +kernel
theorem dX5_worstOf_47 : decode cX5_worstOf 47 = .ok (.istore 6, 2) := by decide +kernel
theorem dX5_worstOf_49 : decode cX5_worstOf 49 = .ok (.iload 6, 2) := by decide +kernel
theorem dX5_worstOf_51 : decode cX5_worstOf 51 = .ok (.aload_n 0, 1) := by decide +kernel
theorem dX5_worstOf_52 : decode cX5_worstOf 52 = .ok (.getfield 159, 3) := by decide +kernel
theorem dX5_worstOf_55 : decode cX5_worstOf 55 = .ok (.if_icmp .ge 13, 3) := by decide +kernel
theorem dX5_worstOf_58 : decode cX5_worstOf 58 = .ok (.iload 5, 2) := by decide +kernel
theorem dX5_worstOf_60 : decode cX5_worstOf 60 = .ok (.istore 4, 2) := by decide +kernel
theorem dX5_worstOf_62 : decode cX5_worstOf 62 = .ok (.aload_n 0, 1) := by decide +kernel
theorem dX5_worstOf_63 : decode cX5_worstOf 63 = .ok (.iload 6, 2) := by decide +kernel
theorem dX5_worstOf_65 : decode cX5_worstOf 65 = .ok (.putfield 159, 3) := by decide +kernel
theorem dX5_worstOf_68 : decode cX5_worstOf 68 = .ok (.iinc 5 1, 3) := by decide +kernel
theorem dX5_worstOf_71 : decode cX5_worstOf 71 = .ok (.goto (-59), 3) := by decide +kernel
theorem dX5_worstOf_74 : decode cX5_worstOf 74 = .ok (.iload 4, 2) := by decide +kernel
theorem dX5_worstOf_76 : decode cX5_worstOf 76 = .ok (.ireturn, 1) := by decide +kernel
set_option maxRecDepth 20000 in
theorem ggX5_enemy_X5_within : GoodIn wsX5_enemy wsX5_within := goodIn_r _ [4] (by decide +kernel) (by decide +kernel)
set_option maxRecDepth 20000 in
theorem gX5_enemy_X5_within : GoodIn wsX5_enemy (va_wsS RX5 44 yX5_within wsX5_within) := goodIn_app (goodIn_of _ (by decide +kernel)) ggX5_enemy_X5_within
set_option maxRecDepth 20000 in
theorem ggX5_enemy_X5_isAhead : GoodIn wsX5_enemy wsX5_isAhead := goodIn_r _ [7, 1, 2, 3, 4] (by decide +kernel) (by decide +kernel)
set_option maxRecDepth 20000 in
theorem gX5_enemy_X5_isAhead : GoodIn wsX5_enemy (va_wsS RX5 149 yX5_isAhead wsX5_isAhead) := goodIn_app (goodIn_of _ (by decide +kernel)) ggX5_enemy_X5_isAhead
set_option maxRecDepth 20000 in
theorem ggX5_enemy_X5_lacks : GoodIn wsX5_enemy wsX5_lacks := goodIn_r _ [11, 12, 13, 14, 3, 15, 16, 89, 90, 91, 92, 93, 94, 95, 96, 97, 98, 99, 100, 101, 102, 103, 104, 105] (by decide +kernel) (by decide +kernel)
set_option maxRecDepth 20000 in
theorem gX5_enemy_X5_lacks : GoodIn wsX5_enemy (wsV RX5 141 RX5 yX5_lacks wsX5_lacks) := goodIn_app (goodIn_of _ (by decide +kernel)) ggX5_enemy_X5_lacks
set_option maxRecDepth 20000 in
theorem ggX5_enemy_X5_finding : GoodIn wsX5_enemy wsX5_finding := goodIn_r _ [20, 21, 22, 89, 90, 91, 92, 93, 94, 95, 96, 97, 98, 99, 100, 101, 102, 103, 104, 105] (by decide +kernel) (by decide +kernel)
set_option maxRecDepth 20000 in
theorem gX5_enemy_X5_finding : GoodIn wsX5_enemy (wsV RX5 105 RX5 yX5_finding wsX5_finding) := goodIn_app (goodIn_of _ (by decide +kernel)) ggX5_enemy_X5_finding
set_option maxRecDepth 20000 in
theorem ggX5_enemy_X5_shut : GoodIn wsX5_enemy wsX5_shut := goodIn_r _ [26, 16, 89, 90, 91, 92, 93, 94, 95, 96, 97, 98, 99, 100, 101, 102, 103, 104, 105] (by decide +kernel) (by decide +kernel)
set_option maxRecDepth 20000 in
theorem gX5_enemy_X5_shut : GoodIn wsX5_enemy (wsV RX5 166 RX5 yX5_shut wsX5_shut) := goodIn_app (goodIn_of _ (by decide +kernel)) ggX5_enemy_X5_shut
set_option maxRecDepth 20000 in
theorem ggX5_enemy_X5_worstOf : GoodIn wsX5_enemy wsX5_worstOf := goodIn_r _ [30, 31, 32, 33, 3, 34, 35, 36, 37, 38, 16, 39, 40, 41, 42, 43, 44, 45, 46, 47, 48, 49, 50, 51, 52, 53, 54, 55, 56, 57, 58, 59, 60, 61, 62, 63, 64, 65, 66, 67, 68, 69, 70, 71, 72, 73, 74, 75, 76, 77, 78, 79, 80, 81, 82, 83, 84, 85, 86, 87, 88, 89, 90, 91, 92, 93, 94, 95, 96, 97, 98, 99, 100, 101, 102, 103, 104, 105] (by decide +kernel) (by decide +kernel)
set_option maxRecDepth 20000 in
theorem gX5_enemy_X5_worstOf : GoodIn wsX5_enemy (wsV RX5 169 RX5 yX5_worstOf wsX5_worstOf) := goodIn_app (goodIn_of _ (by decide +kernel)) ggX5_enemy_X5_worstOf
theorem dX5_enemy_0 : decode cX5_enemy 0 = .ok (.aload_n 0, 1) := by decide +kernel
theorem dX5_enemy_1 : decode cX5_enemy 1 = .ok (.iload_n 1, 1) := by decide +kernel
theorem dX5_enemy_2 : decode cX5_enemy 2 = .ok (.iconst 0, 1) := by decide +kernel
theorem dX5_enemy_3 : decode cX5_enemy 3 = .ok (.bipush 6, 2) := by decide +kernel
theorem dX5_enemy_5 : decode cX5_enemy 5 = .ok (.invokestatic 44, 3) := by decide +kernel
theorem dX5_enemy_8 : decode cX5_enemy 8 = .ok (.ifCond .eq 14, 3) := by decide +kernel
theorem dX5_enemy_11 : decode cX5_enemy 11 = .ok (.iload_n 2, 1) := by decide +kernel
theorem dX5_enemy_12 : decode cX5_enemy 12 = .ok (.invokestatic 149, 3) := by decide +kernel
theorem dX5_enemy_15 : decode cX5_enemy 15 = .ok (.ifCond .eq 7, 3) := by decide +kernel
theorem dX5_enemy_18 : decode cX5_enemy 18 = .ok (.iconst 1, 1) := by decide +kernel
theorem dX5_enemy_19 : decode cX5_enemy 19 = .ok (.goto 4, 3) := by decide +kernel
theorem dX5_enemy_22 : decode cX5_enemy 22 = .ok (.iconst 0, 1) := by decide +kernel
theorem dX5_enemy_23 : decode cX5_enemy 23 = .ok (.iload_n 2, 1) := by decide +kernel
theorem dX5_enemy_24 : decode cX5_enemy 24 = .ok (.invokevirtual 141, 3) := by decide +kernel
theorem dX5_enemy_27 : decode cX5_enemy 27 = .ok (.istore_n 3, 1) := by decide +kernel
theorem dX5_enemy_28 : decode cX5_enemy 28 = .ok (.iload_n 3, 1) := by decide +kernel
theorem dX5_enemy_29 : decode cX5_enemy 29 = .ok (.ifCond .lt 9, 3) := by decide +kernel
theorem dX5_enemy_32 : decode cX5_enemy 32 = .ok (.aload_n 0, 1) := by decide +kernel
theorem dX5_enemy_33 : decode cX5_enemy 33 = .ok (.iload_n 3, 1) := by decide +kernel
theorem dX5_enemy_34 : decode cX5_enemy 34 = .ok (.invokevirtual 105, 3) := by decide +kernel
theorem dX5_enemy_37 : decode cX5_enemy 37 = .ok (.ireturn, 1) := by decide +kernel
theorem dX5_enemy_38 : decode cX5_enemy 38 = .ok (.aload_n 0, 1) := by decide +kernel
theorem dX5_enemy_39 : decode cX5_enemy 39 = .ok (.aload_n 0, 1) := by decide +kernel
theorem dX5_enemy_40 : decode cX5_enemy 40 = .ok (.invokevirtual 166, 3) := by decide +kernel
theorem dX5_enemy_43 : decode cX5_enemy 43 = .ok (.iload_n 1, 1) := by decide +kernel
theorem dX5_enemy_44 : decode cX5_enemy 44 = .ok (.iload_n 2, 1) := by decide +kernel
theorem dX5_enemy_45 : decode cX5_enemy 45 = .ok (.invokevirtual 169, 3) := by decide +kernel
theorem dX5_enemy_48 : decode cX5_enemy 48 = .ok (.istore 4, 2) := by decide +kernel
theorem dX5_enemy_50 : decode cX5_enemy 50 = .ok (.iload 4, 2) := by decide +kernel
theorem dX5_enemy_52 : decode cX5_enemy 52 = .ok (.ifCond .ge 11, 3) := by decide +kernel
theorem dX5_enemy_55 : decode cX5_enemy 55 = .ok (.aload_n 0, 1) := by decide +kernel
theorem dX5_enemy_56 : decode cX5_enemy 56 = .ok (.iconst 3, 1) := by decide +kernel
theorem dX5_enemy_57 : decode cX5_enemy 57 = .ok (.invokevirtual 105, 3) := by decide +kernel
theorem dX5_enemy_60 : decode cX5_enemy 60 = .ok (.goto 5, 3) := by decide +kernel
theorem dX5_enemy_63 : decode cX5_enemy 63 = .ok (.iload 4, 2) := by decide +kernel
theorem dX5_enemy_65 : decode cX5_enemy 65 = .ok (.ireturn, 1) := by decide +kernel
set_option maxRecDepth 20000 in
theorem ggX5_worst_X5_within : GoodIn wsX5_worst wsX5_within := goodIn_r _ [5] (by decide +kernel) (by decide +kernel)
set_option maxRecDepth 20000 in
theorem gX5_worst_X5_within : GoodIn wsX5_worst (va_wsS RX5 44 yX5_within wsX5_within) := goodIn_app (goodIn_of _ (by decide +kernel)) ggX5_worst_X5_within
set_option maxRecDepth 20000 in
theorem ggX5_worst_X5_isAhead : GoodIn wsX5_worst wsX5_isAhead := goodIn_r _ [8, 2, 3, 4, 5] (by decide +kernel) (by decide +kernel)
set_option maxRecDepth 20000 in
theorem gX5_worst_X5_isAhead : GoodIn wsX5_worst (va_wsS RX5 149 yX5_isAhead wsX5_isAhead) := goodIn_app (goodIn_of _ (by decide +kernel)) ggX5_worst_X5_isAhead
set_option maxRecDepth 20000 in
theorem ggX5_worst_X5_lacks : GoodIn wsX5_worst wsX5_lacks := goodIn_r _ [12, 13, 14, 15, 4, 16, 17, 89, 90, 91, 92, 93, 94, 95, 96, 97, 98, 99, 100, 101, 102, 103, 104, 105] (by decide +kernel) (by decide +kernel)
set_option maxRecDepth 20000 in
theorem gX5_worst_X5_lacks : GoodIn wsX5_worst (wsV RX5 141 RX5 yX5_lacks wsX5_lacks) := goodIn_app (goodIn_of _ (by decide +kernel)) ggX5_worst_X5_lacks
set_option maxRecDepth 20000 in
theorem ggX5_worst_X5_finding : GoodIn wsX5_worst wsX5_finding := goodIn_r _ [21, 22, 23, 89, 90, 91, 92, 93, 94, 95, 96, 97, 98, 99, 100, 101, 102, 103, 104, 105] (by decide +kernel) (by decide +kernel)
set_option maxRecDepth 20000 in
theorem gX5_worst_X5_finding : GoodIn wsX5_worst (wsV RX5 105 RX5 yX5_finding wsX5_finding) := goodIn_app (goodIn_of _ (by decide +kernel)) ggX5_worst_X5_finding
set_option maxRecDepth 20000 in
theorem ggX5_worst_X5_shut : GoodIn wsX5_worst wsX5_shut := goodIn_r _ [27, 17, 89, 90, 91, 92, 93, 94, 95, 96, 97, 98, 99, 100, 101, 102, 103, 104, 105] (by decide +kernel) (by decide +kernel)
set_option maxRecDepth 20000 in
theorem gX5_worst_X5_shut : GoodIn wsX5_worst (wsV RX5 166 RX5 yX5_shut wsX5_shut) := goodIn_app (goodIn_of _ (by decide +kernel)) ggX5_worst_X5_shut
set_option maxRecDepth 20000 in
theorem ggX5_worst_X5_worstOf : GoodIn wsX5_worst wsX5_worstOf := goodIn_r _ [31, 1, 32, 33, 4, 34, 35, 36, 37, 38, 17, 39, 40, 41, 42, 43, 44, 45, 46, 47, 48, 49, 50, 51, 52, 53, 54, 55, 56, 57, 58, 59, 60, 61, 62, 63, 64, 65, 66, 67, 68, 69, 70, 71, 72, 73, 74, 75, 76, 77, 78, 79, 80, 81, 82, 83, 84, 85, 86, 87, 88, 89, 90, 91, 92, 93, 94, 95, 96, 97, 98, 99, 100, 101, 102, 103, 104, 105] (by decide +kernel) (by decide +kernel)
set_option maxRecDepth 20000 in
theorem gX5_worst_X5_worstOf : GoodIn wsX5_worst (wsV RX5 169 RX5 yX5_worstOf wsX5_worstOf) := goodIn_app (goodIn_of _ (by decide +kernel)) ggX5_worst_X5_worstOf
theorem dX5_worst_0 : decode cX5_worst 0 = .ok (.aload_n 0, 1) := by decide +kernel
theorem dX5_worst_1 : decode cX5_worst 1 = .ok (.iload_n 1, 1) := by decide +kernel
theorem dX5_worst_2 : decode cX5_worst 2 = .ok (.iconst 0, 1) := by decide +kernel
theorem dX5_worst_3 : decode cX5_worst 3 = .ok (.bipush 6, 2) := by decide +kernel
theorem dX5_worst_5 : decode cX5_worst 5 = .ok (.invokestatic 44, 3) := by decide +kernel
theorem dX5_worst_8 : decode cX5_worst 8 = .ok (.ifCond .eq 14, 3) := by decide +kernel
theorem dX5_worst_11 : decode cX5_worst 11 = .ok (.iload_n 2, 1) := by decide +kernel
theorem dX5_worst_12 : decode cX5_worst 12 = .ok (.invokestatic 149, 3) := by decide +kernel
theorem dX5_worst_15 : decode cX5_worst 15 = .ok (.ifCond .eq 7, 3) := by decide +kernel
theorem dX5_worst_18 : decode cX5_worst 18 = .ok (.iconst 1, 1) := by decide +kernel
theorem dX5_worst_19 : decode cX5_worst 19 = .ok (.goto 4, 3) := by decide +kernel
theorem dX5_worst_22 : decode cX5_worst 22 = .ok (.iconst 0, 1) := by decide +kernel
theorem dX5_worst_23 : decode cX5_worst 23 = .ok (.iload_n 2, 1) := by decide +kernel
theorem dX5_worst_24 : decode cX5_worst 24 = .ok (.invokevirtual 141, 3) := by decide +kernel
theorem dX5_worst_27 : decode cX5_worst 27 = .ok (.istore_n 3, 1) := by decide +kernel
theorem dX5_worst_28 : decode cX5_worst 28 = .ok (.iload_n 3, 1) := by decide +kernel
theorem dX5_worst_29 : decode cX5_worst 29 = .ok (.ifCond .lt 9, 3) := by decide +kernel
theorem dX5_worst_32 : decode cX5_worst 32 = .ok (.aload_n 0, 1) := by decide +kernel
theorem dX5_worst_33 : decode cX5_worst 33 = .ok (.iload_n 3, 1) := by decide +kernel
theorem dX5_worst_34 : decode cX5_worst 34 = .ok (.invokevirtual 105, 3) := by decide +kernel
theorem dX5_worst_37 : decode cX5_worst 37 = .ok (.ireturn, 1) := by decide +kernel
theorem dX5_worst_38 : decode cX5_worst 38 = .ok (.aload_n 0, 1) := by decide +kernel
theorem dX5_worst_39 : decode cX5_worst 39 = .ok (.aload_n 0, 1) := by decide +kernel
theorem dX5_worst_40 : decode cX5_worst 40 = .ok (.invokevirtual 166, 3) := by decide +kernel
theorem dX5_worst_43 : decode cX5_worst 43 = .ok (.iload_n 1, 1) := by decide +kernel
theorem dX5_worst_44 : decode cX5_worst 44 = .ok (.iload_n 2, 1) := by decide +kernel
theorem dX5_worst_45 : decode cX5_worst 45 = .ok (.invokevirtual 169, 3) := by decide +kernel
theorem dX5_worst_48 : decode cX5_worst 48 = .ok (.istore 4, 2) := by decide +kernel
theorem dX5_worst_50 : decode cX5_worst 50 = .ok (.iload 4, 2) := by decide +kernel
theorem dX5_worst_52 : decode cX5_worst 52 = .ok (.ifCond .ge 11, 3) := by decide +kernel
theorem dX5_worst_55 : decode cX5_worst 55 = .ok (.aload_n 0, 1) := by decide +kernel
theorem dX5_worst_56 : decode cX5_worst 56 = .ok (.iconst 3, 1) := by decide +kernel
theorem dX5_worst_57 : decode cX5_worst 57 = .ok (.invokevirtual 105, 3) := by decide +kernel
theorem dX5_worst_60 : decode cX5_worst 60 = .ok (.goto 7, 3) := by decide +kernel
theorem dX5_worst_63 : decode cX5_worst 63 = .ok (.aload_n 0, 1) := by decide +kernel
theorem dX5_worst_64 : decode cX5_worst 64 = .ok (.getfield 159, 3) := by decide +kernel
theorem dX5_worst_67 : decode cX5_worst 67 = .ok (.ireturn, 1) := by decide +kernel
set_option maxRecDepth 20000 in
theorem ggX5_least_X5_isDeed : GoodIn wsX5_least wsX5_isDeed := goodIn_r _ [5, 6, 7, 8, 4, 9, 88, 89, 90, 91, 92, 93, 94, 95, 96, 97, 98, 99, 100, 101, 102, 103, 104] (by decide +kernel) (by decide +kernel)
set_option maxRecDepth 20000 in
theorem gX5_least_X5_isDeed : GoodIn wsX5_least (wsV RX5 112 RX5 yX5_isDeed wsX5_isDeed) := goodIn_app (goodIn_of _ (by decide +kernel)) ggX5_least_X5_isDeed
set_option maxRecDepth 20000 in
theorem ggX5_least_X5_isAhead : GoodIn wsX5_least wsX5_isAhead := goodIn_r _ [12, 7, 8, 4, 9] (by decide +kernel) (by decide +kernel)
set_option maxRecDepth 20000 in
theorem gX5_least_X5_isAhead : GoodIn wsX5_least (va_wsS RX5 149 yX5_isAhead wsX5_isAhead) := goodIn_app (goodIn_of _ (by decide +kernel)) ggX5_least_X5_isAhead
set_option maxRecDepth 20000 in
theorem ggX5_least_X5_lacks : GoodIn wsX5_least wsX5_lacks := goodIn_r _ [16, 17, 18, 19, 4, 20, 6, 88, 89, 90, 91, 92, 93, 94, 95, 96, 97, 98, 99, 100, 101, 102, 103, 104] (by decide +kernel) (by decide +kernel)
set_option maxRecDepth 20000 in
theorem gX5_least_X5_lacks : GoodIn wsX5_least (wsV RX5 141 RX5 yX5_lacks wsX5_lacks) := goodIn_app (goodIn_of _ (by decide +kernel)) ggX5_least_X5_lacks
set_option maxRecDepth 20000 in
theorem ggX5_least_X5_finding : GoodIn wsX5_least wsX5_finding := goodIn_r _ [24, 25, 26, 88, 89, 90, 91, 92, 93, 94, 95, 96, 97, 98, 99, 100, 101, 102, 103, 104] (by decide +kernel) (by decide +kernel)
set_option maxRecDepth 20000 in
theorem gX5_least_X5_finding : GoodIn wsX5_least (wsV RX5 105 RX5 yX5_finding wsX5_finding) := goodIn_app (goodIn_of _ (by decide +kernel)) ggX5_least_X5_finding
set_option maxRecDepth 20000 in
theorem ggX5_least_X5_shut : GoodIn wsX5_least wsX5_shut := goodIn_r _ [30, 6, 88, 89, 90, 91, 92, 93, 94, 95, 96, 97, 98, 99, 100, 101, 102, 103, 104] (by decide +kernel) (by decide +kernel)
set_option maxRecDepth 20000 in
theorem gX5_least_X5_shut : GoodIn wsX5_least (wsV RX5 166 RX5 yX5_shut wsX5_shut) := goodIn_app (goodIn_of _ (by decide +kernel)) ggX5_least_X5_shut
set_option maxRecDepth 20000 in
theorem ggX5_least_X5_bits : GoodIn wsX5_least wsX5_bits := goodIn_r _ [33] (by decide +kernel) (by decide +kernel)
set_option maxRecDepth 20000 in
theorem gX5_least_X5_bits : GoodIn wsX5_least (va_wsS RX5 156 yX5_bits wsX5_bits) := goodIn_app (goodIn_of _ (by decide +kernel)) ggX5_least_X5_bits
set_option maxRecDepth 20000 in
theorem ggX5_least_X5_holdingWith : GoodIn wsX5_least wsX5_holdingWith := goodIn_r _ [37, 6, 38, 39, 40, 4, 41, 42, 43, 44, 45, 46, 47, 48, 49, 50, 51, 52, 53, 54, 55, 56, 57, 58, 59, 60, 61, 62, 63, 64, 65, 66, 67, 68, 69, 70, 71, 72, 73, 74, 75, 76, 77, 78, 79, 80, 81, 82, 83, 84, 85, 86, 87, 88, 89, 90, 91, 92, 93, 94, 95, 96, 97, 98, 99, 100, 101, 102, 103, 104] (by decide +kernel) (by decide +kernel)
set_option maxRecDepth 20000 in
theorem gX5_least_X5_holdingWith : GoodIn wsX5_least (wsV RX5 163 RX5 yX5_holdingWith wsX5_holdingWith) := goodIn_app (goodIn_of _ (by decide +kernel)) ggX5_least_X5_holdingWith
theorem dX5_least_0 : decode cX5_least 0 = .ok (.aload_n 0, 1) := by decide +kernel
theorem dX5_least_1 : decode cX5_least 1 = .ok (.aload_n 0, 1) := by decide +kernel
theorem dX5_least_2 : decode cX5_least 2 = .ok (.iload_n 1, 1) := by decide +kernel
theorem dX5_least_3 : decode cX5_least 3 = .ok (.invokevirtual 112, 3) := by decide +kernel
theorem dX5_least_6 : decode cX5_least 6 = .ok (.ifCond .eq 14, 3) := by decide +kernel
theorem dX5_least_9 : decode cX5_least 9 = .ok (.iload_n 2, 1) := by decide +kernel
theorem dX5_least_10 : decode cX5_least 10 = .ok (.invokestatic 149, 3) := by decide +kernel
theorem dX5_least_13 : decode cX5_least 13 = .ok (.ifCond .eq 7, 3) := by decide +kernel
theorem dX5_least_16 : decode cX5_least 16 = .ok (.iconst 1, 1) := by decide +kernel
theorem dX5_least_17 : decode cX5_least 17 = .ok (.goto 4, 3) := by decide +kernel
theorem dX5_least_20 : decode cX5_least 20 = .ok (.iconst 0, 1) := by decide +kernel
theorem dX5_least_21 : decode cX5_least 21 = .ok (.iload_n 2, 1) := by decide +kernel
theorem dX5_least_22 : decode cX5_least 22 = .ok (.invokevirtual 141, 3) := by decide +kernel
theorem dX5_least_25 : decode cX5_least 25 = .ok (.istore_n 3, 1) := by decide +kernel
theorem dX5_least_26 : decode cX5_least 26 = .ok (.iload_n 3, 1) := by decide +kernel
theorem dX5_least_27 : decode cX5_least 27 = .ok (.ifCond .lt 9, 3) := by decide +kernel
theorem dX5_least_30 : decode cX5_least 30 = .ok (.aload_n 0, 1) := by decide +kernel
theorem dX5_least_31 : decode cX5_least 31 = .ok (.iload_n 3, 1) := by decide +kernel
theorem dX5_least_32 : decode cX5_least 32 = .ok (.invokevirtual 105, 3) := by decide +kernel
theorem dX5_least_35 : decode cX5_least 35 = .ok (.ireturn, 1) := by decide +kernel
theorem dX5_least_36 : decode cX5_least 36 = .ok (.bipush 7, 2) := by decide +kernel
theorem dX5_least_38 : decode cX5_least 38 = .ok (.istore 4, 2) := by decide +kernel
theorem dX5_least_40 : decode cX5_least 40 = .ok (.iconst 0, 1) := by decide +kernel
theorem dX5_least_41 : decode cX5_least 41 = .ok (.istore 5, 2) := by decide +kernel
theorem dX5_least_43 : decode cX5_least 43 = .ok (.iload 5, 2) := by decide +kernel
theorem dX5_least_45 : decode cX5_least 45 = .ok (.bipush 64, 2) := by decide +kernel
theorem dX5_least_47 : decode cX5_least 47 = .ok (.if_icmp .ge 64, 3) := by decide +kernel
theorem dX5_least_50 : decode cX5_least 50 = .ok (.iload 5, 2) := by decide +kernel
theorem dX5_least_52 : decode cX5_least 52 = .ok (.aload_n 0, 1) := by decide +kernel
theorem dX5_least_53 : decode cX5_least 53 = .ok (.invokevirtual 166, 3) := by decide +kernel
theorem dX5_least_56 : decode cX5_least 56 = .ok (.iconst (-1), 1) := by decide +kernel
theorem dX5_least_57 : decode cX5_least 57 = .ok (.ixor, 1) := by decide +kernel
theorem dX5_least_58 : decode cX5_least 58 = .ok (.iand, 1) := by decide +kernel
theorem dX5_least_59 : decode cX5_least 59 = .ok (.ifCond .ne 17, 3) := by decide +kernel
theorem dX5_least_62 : decode cX5_least 62 = .ok (.iload 5, 2) := by decide +kernel
theorem dX5_least_64 : decode cX5_least 64 = .ok (.invokestatic 156, 3) := by decide +kernel
theorem dX5_least_67 : decode cX5_least 67 = .ok (.iload 4, 2) := by decide +kernel
theorem dX5_least_69 : decode cX5_least 69 = .ok (.if_icmp .ge 7, 3) := by decide +kernel
theorem dX5_least_72 : decode cX5_least 72 = .ok (.iconst 1, 1) := by decide +kernel
theorem dX5_least_73 : decode cX5_least 73 = .ok (.goto 4, 3) := by decide +kernel
theorem dX5_least_76 : decode cX5_least 76 = .ok (.iconst 0, 1) := by decide +kernel
theorem dX5_least_77 : decode cX5_least 77 = .ok (.istore 6, 2) := by decide +kernel
theorem dX5_least_79 : decode cX5_least 79 = .ok (.iload 6, 2) := by decide +kernel
theorem dX5_least_81 : decode cX5_least 81 = .ok (.ifCond .eq 24, 3) := by decide +kernel
theorem dX5_least_84 : decode cX5_least 84 = .ok (.aload_n 0, 1) := by decide +kernel
theorem dX5_least_85 : decode cX5_least 85 = .ok (.iload 5, 2) := by decide +kernel
theorem dX5_least_87 : decode cX5_least 87 = .ok (.iload_n 2, 1) := by decide +kernel
theorem dX5_least_88 : decode cX5_least 88 = .ok (.invokevirtual 163, 3) := by decide +kernel
theorem dX5_least_91 : decode cX5_least 91 = .ok (.iload_n 1, 1) := by decide +kernel
theorem dX5_least_92 : decode cX5_least 92 = .ok (.ishr, 1) := by decide +kernel
theorem dX5_least_93 : decode cX5_least 93 = .ok (.iconst 1, 1) := by decide +kernel
theorem dX5_least_94 : decode cX5_least 94 = .ok (.iand, 1) := by decide +kernel
theorem dX5_least_95 : decode cX5_least 95 = .ok (.ifCond .ne 10, 3) := by decide +kernel
theorem dX5_least_98 : decode cX5_least 98 = .ok (.iload 5, 2) := by decide +kernel
theorem dX5_least_100 : decode cX5_least 100 = .ok (.invokestatic 156, 3) := by decide +kernel
theorem dX5_least_103 : decode cX5_least 103 = .ok (.istore 4, 2) := by decide +kernel
theorem dX5_least_105 : decode cX5_least 105 = .ok (.iinc 5 1, 3) := by decide +kernel
theorem dX5_least_108 : decode cX5_least 108 = .ok (.goto (-65), 3) := by decide +kernel
theorem dX5_least_111 : decode cX5_least 111 = .ok (.iload 4, 2) := by decide +kernel
theorem dX5_least_113 : decode cX5_least 113 = .ok (.bipush 6, 2) := by decide +kernel
theorem dX5_least_115 : decode cX5_least 115 = .ok (.if_icmp .le 11, 3) := by decide +kernel
theorem dX5_least_118 : decode cX5_least 118 = .ok (.aload_n 0, 1) := by decide +kernel
theorem dX5_least_119 : decode cX5_least 119 = .ok (.iconst 3, 1) := by decide +kernel
theorem dX5_least_120 : decode cX5_least 120 = .ok (.invokevirtual 105, 3) := by decide +kernel
theorem dX5_least_123 : decode cX5_least 123 = .ok (.goto 5, 3) := by decide +kernel
theorem dX5_least_126 : decode cX5_least 126 = .ok (.iload 4, 2) := by decide +kernel
theorem dX5_least_128 : decode cX5_least 128 = .ok (.ireturn, 1) := by decide +kernel
set_option maxRecDepth 20000 in
theorem ggX5_nail_X5_isAhead : GoodIn wsX5_nail wsX5_isAhead := goodIn_r _ [5, 6, 7, 4, 8] (by decide +kernel) (by decide +kernel)
set_option maxRecDepth 20000 in
theorem gX5_nail_X5_isAhead : GoodIn wsX5_nail (va_wsS RX5 149 yX5_isAhead wsX5_isAhead) := goodIn_app (goodIn_of _ (by decide +kernel)) ggX5_nail_X5_isAhead
set_option maxRecDepth 20000 in
theorem ggX5_nail_X5_lacks : GoodIn wsX5_nail wsX5_lacks := goodIn_r _ [12, 13, 14, 15, 4, 16, 17, 89, 90, 91, 92, 93, 94, 95, 96, 97, 98, 99, 100, 101, 102, 103, 104, 105] (by decide +kernel) (by decide +kernel)
set_option maxRecDepth 20000 in
theorem gX5_nail_X5_lacks : GoodIn wsX5_nail (wsV RX5 141 RX5 yX5_lacks wsX5_lacks) := goodIn_app (goodIn_of _ (by decide +kernel)) ggX5_nail_X5_lacks
set_option maxRecDepth 20000 in
theorem ggX5_nail_X5_finding : GoodIn wsX5_nail wsX5_finding := goodIn_r _ [21, 22, 23, 89, 90, 91, 92, 93, 94, 95, 96, 97, 98, 99, 100, 101, 102, 103, 104, 105] (by decide +kernel) (by decide +kernel)
set_option maxRecDepth 20000 in
theorem gX5_nail_X5_finding : GoodIn wsX5_nail (wsV RX5 105 RX5 yX5_finding wsX5_finding) := goodIn_app (goodIn_of _ (by decide +kernel)) ggX5_nail_X5_finding
set_option maxRecDepth 20000 in
theorem ggX5_nail_X5_shut : GoodIn wsX5_nail wsX5_shut := goodIn_r _ [27, 17, 89, 90, 91, 92, 93, 94, 95, 96, 97, 98, 99, 100, 101, 102, 103, 104, 105] (by decide +kernel) (by decide +kernel)
set_option maxRecDepth 20000 in
theorem gX5_nail_X5_shut : GoodIn wsX5_nail (wsV RX5 166 RX5 yX5_shut wsX5_shut) := goodIn_app (goodIn_of _ (by decide +kernel)) ggX5_nail_X5_shut
set_option maxRecDepth 20000 in
theorem ggX5_nail_X5_worstOf : GoodIn wsX5_nail wsX5_worstOf := goodIn_r _ [31, 1, 32, 33, 4, 34, 35, 36, 37, 38, 17, 39, 40, 41, 42, 43, 44, 45, 46, 47, 48, 49, 50, 51, 52, 53, 54, 55, 56, 57, 58, 59, 60, 61, 62, 63, 64, 65, 66, 67, 68, 69, 70, 71, 72, 73, 74, 75, 76, 77, 78, 79, 80, 81, 82, 83, 84, 85, 86, 87, 88, 89, 90, 91, 92, 93, 94, 95, 96, 97, 98, 99, 100, 101, 102, 103, 104, 105] (by decide +kernel) (by decide +kernel)
set_option maxRecDepth 20000 in
theorem gX5_nail_X5_worstOf : GoodIn wsX5_nail (wsV RX5 169 RX5 yX5_worstOf wsX5_worstOf) := goodIn_app (goodIn_of _ (by decide +kernel)) ggX5_nail_X5_worstOf
theorem dX5_nail_0 : decode cX5_nail 0 = .ok (.aload_n 0, 1) := by decide +kernel
theorem dX5_nail_1 : decode cX5_nail 1 = .ok (.iload_n 1, 1) := by decide +kernel
theorem dX5_nail_2 : decode cX5_nail 2 = .ok (.invokestatic 149, 3) := by decide +kernel
theorem dX5_nail_5 : decode cX5_nail 5 = .ok (.iload_n 1, 1) := by decide +kernel
theorem dX5_nail_6 : decode cX5_nail 6 = .ok (.invokevirtual 141, 3) := by decide +kernel
theorem dX5_nail_9 : decode cX5_nail 9 = .ok (.istore_n 2, 1) := by decide +kernel
theorem dX5_nail_10 : decode cX5_nail 10 = .ok (.iload_n 2, 1) := by decide +kernel
theorem dX5_nail_11 : decode cX5_nail 11 = .ok (.ifCond .lt 9, 3) := by decide +kernel
theorem dX5_nail_14 : decode cX5_nail 14 = .ok (.aload_n 0, 1) := by decide +kernel
theorem dX5_nail_15 : decode cX5_nail 15 = .ok (.iload_n 2, 1) := by decide +kernel
theorem dX5_nail_16 : decode cX5_nail 16 = .ok (.invokevirtual 105, 3) := by decide +kernel
theorem dX5_nail_19 : decode cX5_nail 19 = .ok (.ireturn, 1) := by decide +kernel
theorem dX5_nail_20 : decode cX5_nail 20 = .ok (.iconst (-1), 1) := by decide +kernel
theorem dX5_nail_21 : decode cX5_nail 21 = .ok (.istore_n 3, 1) := by decide +kernel
theorem dX5_nail_22 : decode cX5_nail 22 = .ok (.iconst (-1), 1) := by decide +kernel
theorem dX5_nail_23 : decode cX5_nail 23 = .ok (.istore 4, 2) := by decide +kernel
theorem dX5_nail_25 : decode cX5_nail 25 = .ok (.iconst 0, 1) := by decide +kernel
theorem dX5_nail_26 : decode cX5_nail 26 = .ok (.istore 5, 2) := by decide +kernel
theorem dX5_nail_28 : decode cX5_nail 28 = .ok (.iload 5, 2) := by decide +kernel
theorem dX5_nail_30 : decode cX5_nail 30 = .ok (.bipush 6, 2) := by decide +kernel
theorem dX5_nail_32 : decode cX5_nail 32 = .ok (.if_icmp .ge 72, 3) := by decide +kernel
theorem dX5_nail_35 : decode cX5_nail 35 = .ok (.aload_n 0, 1) := by decide +kernel
theorem dX5_nail_36 : decode cX5_nail 36 = .ok (.invokevirtual 166, 3) := by decide +kernel
theorem dX5_nail_39 : decode cX5_nail 39 = .ok (.iload 5, 2) := by decide +kernel
theorem dX5_nail_41 : decode cX5_nail 41 = .ok (.ishr, 1) := by decide +kernel
theorem dX5_nail_42 : decode cX5_nail 42 = .ok (.iconst 1, 1) := by decide +kernel
theorem dX5_nail_43 : decode cX5_nail 43 = .ok (.iand, 1) := by decide +kernel
theorem dX5_nail_44 : decode cX5_nail 44 = .ok (.iconst 1, 1) := by decide +kernel
theorem dX5_nail_45 : decode cX5_nail 45 = .ok (.if_icmp .ne 53, 3) := by decide +kernel
theorem dX5_nail_48 : decode cX5_nail 48 = .ok (.aload_n 0, 1) := by decide +kernel
theorem dX5_nail_49 : decode cX5_nail 49 = .ok (.invokevirtual 166, 3) := by decide +kernel
theorem dX5_nail_52 : decode cX5_nail 52 = .ok (.iconst 1, 1) := by decide +kernel
theorem dX5_nail_53 : decode cX5_nail 53 = .ok (.iload 5, 2) := by decide +kernel
theorem dX5_nail_55 : decode cX5_nail 55 = .ok (.ishl, 1) := by decide +kernel
theorem dX5_nail_56 : decode cX5_nail 56 = .ok (.iconst (-1), 1) := by decide +kernel
theorem dX5_nail_57 : decode cX5_nail 57 = .ok (.ixor, 1) := by decide +kernel
theorem dX5_nail_58 : decode cX5_nail 58 = .ok (.iand, 1) := by decide +kernel
theorem dX5_nail_59 : decode cX5_nail 59 = .ok (.istore 6, 2) := by decide +kernel
theorem dX5_nail_61 : decode cX5_nail 61 = .ok (.aload_n 0, 1) := by decide +kernel
theorem dX5_nail_62 : decode cX5_nail 62 = .ok (.iload 6, 2) := by decide +kernel
theorem dX5_nail_64 : decode cX5_nail 64 = .ok (.iload 6, 2) := by decide +kernel
theorem dX5_nail_66 : decode cX5_nail 66 = .ok (.ifCond .ne 7, 3) := by decide +kernel
theorem dX5_nail_69 : decode cX5_nail 69 = .ok (.iconst 0, 1) := by decide +kernel
theorem dX5_nail_70 : decode cX5_nail 70 = .ok (.goto 4, 3) := by decide +kernel
theorem dX5_nail_73 : decode cX5_nail 73 = .ok (.iconst 1, 1) := by decide +kernel
theorem dX5_nail_74 : decode cX5_nail 74 = .ok (.iload_n 1, 1) := by decide +kernel
theorem dX5_nail_75 : decode cX5_nail 75 = .ok (.invokevirtual 169, 3) := by decide +kernel
theorem dX5_nail_78 : decode cX5_nail 78 = .ok (.istore 7, 2) := by decide +kernel
theorem dX5_nail_80 : decode cX5_nail 80 = .ok (.aload_n 0, 1) := by decide +kernel
theorem dX5_nail_81 : decode cX5_nail 81 = .ok (.getfield 159, 3) := by decide +kernel
theorem dX5_nail_84 : decode cX5_nail 84 = .ok (.iload 4, 2) := by decide +kernel
theorem dX5_nail_86 : decode cX5_nail 86 = .ok (.if_icmp .le 12, 3) := by decide +kernel
theorem dX5_nail_89 : decode cX5_nail 89 = .ok (.iload 5, 2) := by decide +kernel
theorem dX5_nail_91 : decode cX5_nail 91 = .ok (.istore_n 3, 1) := by decide +kernel
theorem dX5_nail_92 : decode cX5_nail 92 = .ok (.aload_n 0, 1) := by decide +kernel
theorem dX5_nail_93 : decode cX5_nail 93 = .ok (.getfield 159, 3) := by decide +kernel
theorem dX5_nail_96 : decode cX5_nail 96 = .ok (.istore 4, 2) := by decide +kernel
theorem dX5_nail_98 : decode cX5_nail 98 = .ok (.iinc 5 1, 3) := by decide +kernel
theorem dX5_nail_101 : decode cX5_nail 101 = .ok (.goto (-73), 3) := by decide +kernel
theorem dX5_nail_104 : decode cX5_nail 104 = .ok (.iload_n 3, 1) := by decide +kernel
theorem dX5_nail_105 : decode cX5_nail 105 = .ok (.ifCond .ge 11, 3) := by decide +kernel
theorem dX5_nail_108 : decode cX5_nail 108 = .ok (.aload_n 0, 1) := by decide +kernel
theorem dX5_nail_109 : decode cX5_nail 109 = .ok (.iconst 3, 1) := by decide +kernel
theorem dX5_nail_110 : decode cX5_nail 110 = .ok (.invokevirtual 105, 3) := by decide +kernel
theorem dX5_nail_113 : decode cX5_nail 113 = .ok (.goto 4, 3) := by decide +kernel
theorem dX5_nail_116 : decode cX5_nail 116 = .ok (.iload_n 3, 1) := by decide +kernel
theorem dX5_nail_117 : decode cX5_nail 117 = .ok (.ireturn, 1) := by decide +kernel
set_option maxRecDepth 20000 in
theorem ggX5_hang_X5_isDeed : GoodIn wsX5_hang wsX5_isDeed := goodIn_r _ [6, 1, 7, 8, 5, 9, 16, 17, 18, 19, 20, 21, 22, 23, 24, 25, 26, 27, 28, 29, 30, 31, 32] (by decide +kernel) (by decide +kernel)
set_option maxRecDepth 20000 in
theorem gX5_hang_X5_isDeed : GoodIn wsX5_hang (wsV RX5 112 RX5 yX5_isDeed wsX5_isDeed) := goodIn_app (goodIn_of _ (by decide +kernel)) ggX5_hang_X5_isDeed
set_option maxRecDepth 20000 in
theorem ggX5_hang_X5_finding : GoodIn wsX5_hang wsX5_finding := goodIn_r _ [13, 14, 15, 16, 17, 18, 19, 20, 21, 22, 23, 24, 25, 26, 27, 28, 29, 30, 31, 32] (by decide +kernel) (by decide +kernel)
set_option maxRecDepth 20000 in
theorem gX5_hang_X5_finding : GoodIn wsX5_hang (wsV RX5 105 RX5 yX5_finding wsX5_finding) := goodIn_app (goodIn_of _ (by decide +kernel)) ggX5_hang_X5_finding
theorem dX5_hang_0 : decode cX5_hang 0 = .ok (.aload_n 0, 1) := by decide +kernel
theorem dX5_hang_1 : decode cX5_hang 1 = .ok (.iload_n 1, 1) := by decide +kernel
theorem dX5_hang_2 : decode cX5_hang 2 = .ok (.invokevirtual 112, 3) := by decide +kernel
theorem dX5_hang_5 : decode cX5_hang 5 = .ok (.ifCond .ne 9, 3) := by decide +kernel
theorem dX5_hang_8 : decode cX5_hang 8 = .ok (.aload_n 0, 1) := by decide +kernel
theorem dX5_hang_9 : decode cX5_hang 9 = .ok (.iconst 0, 1) := by decide +kernel
theorem dX5_hang_10 : decode cX5_hang 10 = .ok (.invokevirtual 105, 3) := by decide +kernel
theorem dX5_hang_13 : decode cX5_hang 13 = .ok (.ireturn, 1) := by decide +kernel
theorem dX5_hang_14 : decode cX5_hang 14 = .ok (.iconst 1, 1) := by decide +kernel
theorem dX5_hang_15 : decode cX5_hang 15 = .ok (.iload_n 1, 1) := by decide +kernel
theorem dX5_hang_16 : decode cX5_hang 16 = .ok (.ishl, 1) := by decide +kernel
theorem dX5_hang_17 : decode cX5_hang 17 = .ok (.istore_n 2, 1) := by decide +kernel
theorem dX5_hang_18 : decode cX5_hang 18 = .ok (.iload_n 1, 1) := by decide +kernel
theorem dX5_hang_19 : decode cX5_hang 19 = .ok (.iconst 1, 1) := by decide +kernel
theorem dX5_hang_20 : decode cX5_hang 20 = .ok (.iadd, 1) := by decide +kernel
theorem dX5_hang_21 : decode cX5_hang 21 = .ok (.istore_n 3, 1) := by decide +kernel
theorem dX5_hang_22 : decode cX5_hang 22 = .ok (.iload_n 3, 1) := by decide +kernel
theorem dX5_hang_23 : decode cX5_hang 23 = .ok (.aload_n 0, 1) := by decide +kernel
theorem dX5_hang_24 : decode cX5_hang 24 = .ok (.getfield 9, 3) := by decide +kernel
theorem dX5_hang_27 : decode cX5_hang 27 = .ok (.iconst 0, 1) := by decide +kernel
theorem dX5_hang_28 : decode cX5_hang 28 = .ok (.iaload, 1) := by decide +kernel
theorem dX5_hang_29 : decode cX5_hang 29 = .ok (.if_icmp .ge 48, 3) := by decide +kernel
theorem dX5_hang_32 : decode cX5_hang 32 = .ok (.iload_n 2, 1) := by decide +kernel
theorem dX5_hang_33 : decode cX5_hang 33 = .ok (.aload_n 0, 1) := by decide +kernel
theorem dX5_hang_34 : decode cX5_hang 34 = .ok (.getfield 9, 3) := by decide +kernel
theorem dX5_hang_37 : decode cX5_hang 37 = .ok (.bipush 72, 2) := by decide +kernel
theorem dX5_hang_39 : decode cX5_hang 39 = .ok (.iload_n 3, 1) := by decide +kernel
theorem dX5_hang_40 : decode cX5_hang 40 = .ok (.iadd, 1) := by decide +kernel
theorem dX5_hang_41 : decode cX5_hang 41 = .ok (.iaload, 1) := by decide +kernel
theorem dX5_hang_42 : decode cX5_hang 42 = .ok (.ifCond .lt 26, 3) := by decide +kernel
theorem dX5_hang_45 : decode cX5_hang 45 = .ok (.iload_n 2, 1) := by decide +kernel
theorem dX5_hang_46 : decode cX5_hang 46 = .ok (.aload_n 0, 1) := by decide +kernel
theorem dX5_hang_47 : decode cX5_hang 47 = .ok (.getfield 9, 3) := by decide +kernel
theorem dX5_hang_50 : decode cX5_hang 50 = .ok (.bipush 72, 2) := by decide +kernel
theorem dX5_hang_52 : decode cX5_hang 52 = .ok (.iload_n 3, 1) := by decide +kernel
theorem dX5_hang_53 : decode cX5_hang 53 = .ok (.iadd, 1) := by decide +kernel
theorem dX5_hang_54 : decode cX5_hang 54 = .ok (.iaload, 1) := by decide +kernel
theorem dX5_hang_55 : decode cX5_hang 55 = .ok (.ishr, 1) := by decide +kernel
theorem dX5_hang_56 : decode cX5_hang 56 = .ok (.iconst 1, 1) := by decide +kernel
theorem dX5_hang_57 : decode cX5_hang 57 = .ok (.iand, 1) := by decide +kernel
theorem dX5_hang_58 : decode cX5_hang 58 = .ok (.iconst 1, 1) := by decide +kernel
theorem dX5_hang_59 : decode cX5_hang 59 = .ok (.if_icmp .ne 9, 3) := by decide +kernel
theorem dX5_hang_62 : decode cX5_hang 62 = .ok (.iconst 1, 1) := by decide +kernel
theorem dX5_hang_63 : decode cX5_hang 63 = .ok (.iload_n 3, 1) := by decide +kernel
theorem dX5_hang_64 : decode cX5_hang 64 = .ok (.ishl, 1) := by decide +kernel
theorem dX5_hang_65 : decode cX5_hang 65 = .ok (.goto 4, 3) := by decide +kernel
theorem dX5_hang_68 : decode cX5_hang 68 = .ok (.iconst 0, 1) := by decide +kernel
theorem dX5_hang_69 : decode cX5_hang 69 = .ok (.ior, 1) := by decide +kernel
theorem dX5_hang_70 : decode cX5_hang 70 = .ok (.istore_n 2, 1) := by decide +kernel
theorem dX5_hang_71 : decode cX5_hang 71 = .ok (.iinc 3 1, 3) := by decide +kernel
theorem dX5_hang_74 : decode cX5_hang 74 = .ok (.goto (-52), 3) := by decide +kernel
theorem dX5_hang_77 : decode cX5_hang 77 = .ok (.iload_n 2, 1) := by decide +kernel
theorem dX5_hang_78 : decode cX5_hang 78 = .ok (.iconst 1, 1) := by decide +kernel
theorem dX5_hang_79 : decode cX5_hang 79 = .ok (.iload_n 1, 1) := by decide +kernel
theorem dX5_hang_80 : decode cX5_hang 80 = .ok (.ishl, 1) := by decide +kernel
theorem dX5_hang_81 : decode cX5_hang 81 = .ok (.iconst (-1), 1) := by decide +kernel
theorem dX5_hang_82 : decode cX5_hang 82 = .ok (.ixor, 1) := by decide +kernel
theorem dX5_hang_83 : decode cX5_hang 83 = .ok (.iand, 1) := by decide +kernel
theorem dX5_hang_84 : decode cX5_hang 84 = .ok (.ireturn, 1) := by decide +kernel
set_option maxRecDepth 20000 in
theorem ggX5_fallsWith_X5_row : GoodIn wsX5_fallsWith wsX5_row := goodIn_r _ [6] (by decide +kernel) (by decide +kernel)
set_option maxRecDepth 20000 in
theorem gX5_fallsWith_X5_row : GoodIn wsX5_fallsWith (va_wsS RX5 131 yX5_row wsX5_row) := goodIn_app (goodIn_of _ (by decide +kernel)) ggX5_fallsWith_X5_row
set_option maxRecDepth 20000 in
theorem ggX5_fallsWith_X5_holding : GoodIn wsX5_fallsWith wsX5_holding := goodIn_r _ [9, 10, 11, 5, 12] (by decide +kernel) (by decide +kernel)
set_option maxRecDepth 20000 in
theorem gX5_fallsWith_X5_holding : GoodIn wsX5_fallsWith (va_wsS RX5 95 yX5_holding wsX5_holding) := goodIn_app (goodIn_of _ (by decide +kernel)) ggX5_fallsWith_X5_holding
theorem dX5_fallsWith_0 : decode cX5_fallsWith 0 = .ok (.aload_n 0, 1) := by decide +kernel
theorem dX5_fallsWith_1 : decode cX5_fallsWith 1 = .ok (.getfield 9, 3) := by decide +kernel
theorem dX5_fallsWith_4 : decode cX5_fallsWith 4 = .ok (.aload_n 0, 1) := by decide +kernel
theorem dX5_fallsWith_5 : decode cX5_fallsWith 5 = .ok (.getfield 16, 3) := by decide +kernel
theorem dX5_fallsWith_8 : decode cX5_fallsWith 8 = .ok (.invokestatic 131, 3) := by decide +kernel
theorem dX5_fallsWith_11 : decode cX5_fallsWith 11 = .ok (.aload_n 0, 1) := by decide +kernel
theorem dX5_fallsWith_12 : decode cX5_fallsWith 12 = .ok (.getfield 16, 3) := by decide +kernel
theorem dX5_fallsWith_15 : decode cX5_fallsWith 15 = .ok (.bipush 64, 2) := by decide +kernel
theorem dX5_fallsWith_17 : decode cX5_fallsWith 17 = .ok (.iload_n 1, 1) := by decide +kernel
theorem dX5_fallsWith_18 : decode cX5_fallsWith 18 = .ok (.iadd, 1) := by decide +kernel
theorem dX5_fallsWith_19 : decode cX5_fallsWith 19 = .ok (.iconst 1, 1) := by decide +kernel
theorem dX5_fallsWith_20 : decode cX5_fallsWith 20 = .ok (.iastore, 1) := by decide +kernel
theorem dX5_fallsWith_21 : decode cX5_fallsWith 21 = .ok (.aload_n 0, 1) := by decide +kernel
theorem dX5_fallsWith_22 : decode cX5_fallsWith 22 = .ok (.getfield 9, 3) := by decide +kernel
theorem dX5_fallsWith_25 : decode cX5_fallsWith 25 = .ok (.invokestatic 95, 3) := by decide +kernel
theorem dX5_fallsWith_28 : decode cX5_fallsWith 28 = .ok (.aload_n 0, 1) := by decide +kernel
theorem dX5_fallsWith_29 : decode cX5_fallsWith 29 = .ok (.getfield 16, 3) := by decide +kernel
theorem dX5_fallsWith_32 : decode cX5_fallsWith 32 = .ok (.invokestatic 95, 3) := by decide +kernel
theorem dX5_fallsWith_35 : decode cX5_fallsWith 35 = .ok (.iconst (-1), 1) := by decide +kernel
theorem dX5_fallsWith_36 : decode cX5_fallsWith 36 = .ok (.ixor, 1) := by decide +kernel
theorem dX5_fallsWith_37 : decode cX5_fallsWith 37 = .ok (.iand, 1) := by decide +kernel
theorem dX5_fallsWith_38 : decode cX5_fallsWith 38 = .ok (.ireturn, 1) := by decide +kernel
set_option maxRecDepth 20000 in
theorem ggX5_falls_X5_isDeed : GoodIn wsX5_falls wsX5_isDeed := goodIn_r _ [5, 6, 7, 8, 4, 9, 30, 31, 32, 33, 34, 35, 36, 37, 38, 39, 40, 41, 42, 43, 44, 45, 46] (by decide +kernel) (by decide +kernel)
set_option maxRecDepth 20000 in
theorem gX5_falls_X5_isDeed : GoodIn wsX5_falls (wsV RX5 112 RX5 yX5_isDeed wsX5_isDeed) := goodIn_app (goodIn_of _ (by decide +kernel)) ggX5_falls_X5_isDeed
set_option maxRecDepth 20000 in
theorem ggX5_falls_X5_fallsWith : GoodIn wsX5_falls wsX5_fallsWith := goodIn_r _ [13, 6, 14, 15, 16, 4, 17, 18, 19, 20, 21, 22, 23, 30, 31, 32, 33, 34, 35, 36, 37, 38, 39, 40, 41, 42, 43, 44, 45, 46] (by decide +kernel) (by decide +kernel)
set_option maxRecDepth 20000 in
theorem gX5_falls_X5_fallsWith : GoodIn wsX5_falls (wsV RX5 172 RX5 yX5_fallsWith wsX5_fallsWith) := goodIn_app (goodIn_of _ (by decide +kernel)) ggX5_falls_X5_fallsWith
set_option maxRecDepth 20000 in
theorem ggX5_falls_X5_finding : GoodIn wsX5_falls wsX5_finding := goodIn_r _ [27, 28, 29, 30, 31, 32, 33, 34, 35, 36, 37, 38, 39, 40, 41, 42, 43, 44, 45, 46] (by decide +kernel) (by decide +kernel)
set_option maxRecDepth 20000 in
theorem gX5_falls_X5_finding : GoodIn wsX5_falls (wsV RX5 105 RX5 yX5_finding wsX5_finding) := goodIn_app (goodIn_of _ (by decide +kernel)) ggX5_falls_X5_finding
theorem dX5_falls_0 : decode cX5_falls 0 = .ok (.aload_n 0, 1) := by decide +kernel
theorem dX5_falls_1 : decode cX5_falls 1 = .ok (.iload_n 1, 1) := by decide +kernel
theorem dX5_falls_2 : decode cX5_falls 2 = .ok (.invokevirtual 112, 3) := by decide +kernel
theorem dX5_falls_5 : decode cX5_falls 5 = .ok (.ifCond .eq 11, 3) := by decide +kernel
theorem dX5_falls_8 : decode cX5_falls 8 = .ok (.aload_n 0, 1) := by decide +kernel
theorem dX5_falls_9 : decode cX5_falls 9 = .ok (.iload_n 1, 1) := by decide +kernel
theorem dX5_falls_10 : decode cX5_falls 10 = .ok (.invokevirtual 172, 3) := by decide +kernel
theorem dX5_falls_13 : decode cX5_falls 13 = .ok (.goto 8, 3) := by decide +kernel
theorem dX5_falls_16 : decode cX5_falls 16 = .ok (.aload_n 0, 1) := by decide +kernel
theorem dX5_falls_17 : decode cX5_falls 17 = .ok (.iconst 0, 1) := by decide +kernel
theorem dX5_falls_18 : decode cX5_falls 18 = .ok (.invokevirtual 105, 3) := by decide +kernel
theorem dX5_falls_21 : decode cX5_falls 21 = .ok (.ireturn, 1) := by decide +kernel
theorem dX5_war_0 : decode cX5_war 0 = .ok (.iconst 0, 1) := by decide +kernel
theorem dX5_war_1 : decode cX5_war 1 = .ok (.istore_n 1, 1) := by decide +kernel
theorem dX5_war_2 : decode cX5_war 2 = .ok (.iconst 0, 1) := by decide +kernel
theorem dX5_war_3 : decode cX5_war 3 = .ok (.istore_n 2, 1) := by decide +kernel
theorem dX5_war_4 : decode cX5_war 4 = .ok (.iload_n 2, 1) := by decide +kernel
theorem dX5_war_5 : decode cX5_war 5 = .ok (.aload_n 0, 1) := by decide +kernel
theorem dX5_war_6 : decode cX5_war 6 = .ok (.getfield 9, 3) := by decide +kernel
theorem dX5_war_9 : decode cX5_war 9 = .ok (.iconst 0, 1) := by decide +kernel
theorem dX5_war_10 : decode cX5_war 10 = .ok (.iaload, 1) := by decide +kernel
theorem dX5_war_11 : decode cX5_war 11 = .ok (.if_icmp .ge 41, 3) := by decide +kernel
theorem dX5_war_14 : decode cX5_war 14 = .ok (.iload_n 1, 1) := by decide +kernel
theorem dX5_war_15 : decode cX5_war 15 = .ok (.aload_n 0, 1) := by decide +kernel
theorem dX5_war_16 : decode cX5_war 16 = .ok (.getfield 9, 3) := by decide +kernel
theorem dX5_war_19 : decode cX5_war 19 = .ok (.bipush 72, 2) := by decide +kernel
theorem dX5_war_21 : decode cX5_war 21 = .ok (.iload_n 2, 1) := by decide +kernel
theorem dX5_war_22 : decode cX5_war 22 = .ok (.iadd, 1) := by decide +kernel
theorem dX5_war_23 : decode cX5_war 23 = .ok (.iaload, 1) := by decide +kernel
theorem dX5_war_24 : decode cX5_war 24 = .ok (.ifCond .ge 19, 3) := by decide +kernel
theorem dX5_war_27 : decode cX5_war 27 = .ok (.aload_n 0, 1) := by decide +kernel
theorem dX5_war_28 : decode cX5_war 28 = .ok (.getfield 9, 3) := by decide +kernel
theorem dX5_war_31 : decode cX5_war 31 = .ok (.bipush 64, 2) := by decide +kernel
theorem dX5_war_33 : decode cX5_war 33 = .ok (.iload_n 2, 1) := by decide +kernel
theorem dX5_war_34 : decode cX5_war 34 = .ok (.iadd, 1) := by decide +kernel
theorem dX5_war_35 : decode cX5_war 35 = .ok (.iaload, 1) := by decide +kernel
theorem dX5_war_36 : decode cX5_war 36 = .ok (.ifCond .ne 7, 3) := by decide +kernel
theorem dX5_war_39 : decode cX5_war 39 = .ok (.iconst 1, 1) := by decide +kernel
theorem dX5_war_40 : decode cX5_war 40 = .ok (.goto 4, 3) := by decide +kernel
theorem dX5_war_43 : decode cX5_war 43 = .ok (.iconst 0, 1) := by decide +kernel
theorem dX5_war_44 : decode cX5_war 44 = .ok (.iadd, 1) := by decide +kernel
theorem dX5_war_45 : decode cX5_war 45 = .ok (.istore_n 1, 1) := by decide +kernel
theorem dX5_war_46 : decode cX5_war 46 = .ok (.iinc 2 1, 3) := by decide +kernel
theorem dX5_war_49 : decode cX5_war 49 = .ok (.goto (-45), 3) := by decide +kernel
theorem dX5_war_52 : decode cX5_war 52 = .ok (.iload_n 1, 1) := by decide +kernel
theorem dX5_war_53 : decode cX5_war 53 = .ok (.ireturn, 1) := by decide +kernel
set_option maxRecDepth 20000 in
theorem ggX5_key_X5_fallsWith : GoodIn wsX5_key wsX5_fallsWith := goodIn_r _ [6, 1, 7, 8, 9, 5, 10, 11, 12, 13, 14, 15, 16, 26, 27, 28, 29, 30, 31, 32, 33, 34, 35, 36, 37, 38, 39, 40, 41, 42] (by decide +kernel) (by decide +kernel)
set_option maxRecDepth 20000 in
theorem gX5_key_X5_fallsWith : GoodIn wsX5_key (wsV RX5 172 RX5 yX5_fallsWith wsX5_fallsWith) := goodIn_app (goodIn_of _ (by decide +kernel)) ggX5_key_X5_fallsWith
set_option maxRecDepth 20000 in
theorem ggX5_key_X5_bits : GoodIn wsX5_key wsX5_bits := goodIn_r _ [19] (by decide +kernel) (by decide +kernel)
set_option maxRecDepth 20000 in
theorem gX5_key_X5_bits : GoodIn wsX5_key (va_wsS RX5 156 yX5_bits wsX5_bits) := goodIn_app (goodIn_of _ (by decide +kernel)) ggX5_key_X5_bits
set_option maxRecDepth 20000 in
theorem ggX5_key_X5_finding : GoodIn wsX5_key wsX5_finding := goodIn_r _ [23, 24, 25, 26, 27, 28, 29, 30, 31, 32, 33, 34, 35, 36, 37, 38, 39, 40, 41, 42] (by decide +kernel) (by decide +kernel)
set_option maxRecDepth 20000 in
theorem gX5_key_X5_finding : GoodIn wsX5_key (wsV RX5 105 RX5 yX5_finding wsX5_finding) := goodIn_app (goodIn_of _ (by decide +kernel)) ggX5_key_X5_finding
theorem dX5_key_0 : decode cX5_key 0 = .ok (.iconst (-1), 1) := by decide +kernel
theorem dX5_key_1 : decode cX5_key 1 = .ok (.istore_n 1, 1) := by decide +kernel
theorem dX5_key_2 : decode cX5_key 2 = .ok (.iconst (-1), 1) := by decide +kernel
theorem dX5_key_3 : decode cX5_key 3 = .ok (.istore_n 2, 1) := by decide +kernel
theorem dX5_key_4 : decode cX5_key 4 = .ok (.iconst 0, 1) := by decide +kernel
theorem dX5_key_5 : decode cX5_key 5 = .ok (.istore_n 3, 1) := by decide +kernel
theorem dX5_key_6 : decode cX5_key 6 = .ok (.iload_n 3, 1) := by decide +kernel
theorem dX5_key_7 : decode cX5_key 7 = .ok (.aload_n 0, 1) := by decide +kernel
theorem dX5_key_8 : decode cX5_key 8 = .ok (.getfield 9, 3) := by decide +kernel
theorem dX5_key_11 : decode cX5_key 11 = .ok (.iconst 0, 1) := by decide +kernel
theorem dX5_key_12 : decode cX5_key 12 = .ok (.iaload, 1) := by decide +kernel
theorem dX5_key_13 : decode cX5_key 13 = .ok (.if_icmp .ge 30, 3) := by decide +kernel
theorem dX5_key_16 : decode cX5_key 16 = .ok (.aload_n 0, 1) := by decide +kernel
theorem dX5_key_17 : decode cX5_key 17 = .ok (.iload_n 3, 1) := by decide +kernel
theorem dX5_key_18 : decode cX5_key 18 = .ok (.invokevirtual 172, 3) := by decide +kernel
theorem dX5_key_21 : decode cX5_key 21 = .ok (.invokestatic 156, 3) := by decide +kernel
theorem dX5_key_24 : decode cX5_key 24 = .ok (.istore 4, 2) := by decide +kernel
theorem dX5_key_26 : decode cX5_key 26 = .ok (.iload 4, 2) := by decide +kernel
theorem dX5_key_28 : decode cX5_key 28 = .ok (.iload_n 2, 1) := by decide +kernel
theorem dX5_key_29 : decode cX5_key 29 = .ok (.if_icmp .le 8, 3) := by decide +kernel
theorem dX5_key_32 : decode cX5_key 32 = .ok (.iload_n 3, 1) := by decide +kernel
theorem dX5_key_33 : decode cX5_key 33 = .ok (.istore_n 1, 1) := by decide +kernel
theorem dX5_key_34 : decode cX5_key 34 = .ok (.iload 4, 2) := by decide +kernel
theorem dX5_key_36 : decode cX5_key 36 = .ok (.istore_n 2, 1) := by decide +kernel
theorem dX5_key_37 : decode cX5_key 37 = .ok (.iinc 3 1, 3) := by decide +kernel
theorem dX5_key_40 : decode cX5_key 40 = .ok (.goto (-34), 3) := by decide +kernel
theorem dX5_key_43 : decode cX5_key 43 = .ok (.iload_n 1, 1) := by decide +kernel
theorem dX5_key_44 : decode cX5_key 44 = .ok (.ifCond .ge 11, 3) := by decide +kernel
theorem dX5_key_47 : decode cX5_key 47 = .ok (.aload_n 0, 1) := by decide +kernel
theorem dX5_key_48 : decode cX5_key 48 = .ok (.iconst 3, 1) := by decide +kernel
theorem dX5_key_49 : decode cX5_key 49 = .ok (.invokevirtual 105, 3) := by decide +kernel
theorem dX5_key_52 : decode cX5_key 52 = .ok (.goto 4, 3) := by decide +kernel
theorem dX5_key_55 : decode cX5_key 55 = .ok (.iload_n 1, 1) := by decide +kernel
theorem dX5_key_56 : decode cX5_key 56 = .ok (.ireturn, 1) := by decide +kernel
set_option maxRecDepth 20000 in
theorem ggX5_began_X5_finding : GoodIn wsX5_began wsX5_finding := goodIn_r _ [7, 8, 9, 62, 63, 64, 65, 66, 67, 68, 69, 70, 71, 72, 73, 74, 75, 76, 77, 78] (by decide +kernel) (by decide +kernel)
set_option maxRecDepth 20000 in
theorem gX5_began_X5_finding : GoodIn wsX5_began (wsV RX5 105 RX5 yX5_finding wsX5_finding) := goodIn_app (goodIn_of _ (by decide +kernel)) ggX5_began_X5_finding
set_option maxRecDepth 20000 in
theorem ggX5_began_X5_row : GoodIn wsX5_began wsX5_row := goodIn_r _ [12] (by decide +kernel) (by decide +kernel)
set_option maxRecDepth 20000 in
theorem gX5_began_X5_row : GoodIn wsX5_began (va_wsS RX5 131 yX5_row wsX5_row) := goodIn_app (goodIn_of _ (by decide +kernel)) ggX5_began_X5_row
set_option maxRecDepth 20000 in
theorem ggX5_began_X5_holdingBehind : GoodIn wsX5_began wsX5_holdingBehind := goodIn_r _ [16, 2, 17, 18, 19, 6, 20, 21, 22, 23, 24, 25, 26, 27, 28, 29, 30, 31, 32, 33, 34, 35, 36, 37, 38, 39, 40, 41, 42, 43, 44, 45, 46, 47, 48, 49, 50, 51, 52, 53, 54, 55, 56, 57, 58, 62, 63, 64, 65, 66, 67, 68, 69, 70, 71, 72, 73, 74, 75, 76, 77, 78] (by decide +kernel) (by decide +kernel)
set_option maxRecDepth 20000 in
theorem gX5_began_X5_holdingBehind : GoodIn wsX5_began (wsV RX5 135 RX5 yX5_holdingBehind wsX5_holdingBehind) := goodIn_app (goodIn_of _ (by decide +kernel)) ggX5_began_X5_holdingBehind
set_option maxRecDepth 20000 in
theorem ggX5_began_X5_ran : GoodIn wsX5_began wsX5_ran := goodIn_r _ [61] (by decide +kernel) (by decide +kernel)
set_option maxRecDepth 20000 in
theorem gX5_began_X5_ran : GoodIn wsX5_began (va_wsS RX5 121 yX5_ran wsX5_ran) := goodIn_app (goodIn_of _ (by decide +kernel)) ggX5_began_X5_ran
theorem dX5_began_0 : decode cX5_began 0 = .ok (.aload_n 0, 1) := by decide +kernel
theorem dX5_began_1 : decode cX5_began 1 = .ok (.getfield 9, 3) := by decide +kernel
theorem dX5_began_4 : decode cX5_began 4 = .ok (.iconst 2, 1) := by decide +kernel
theorem dX5_began_5 : decode cX5_began 5 = .ok (.iaload, 1) := by decide +kernel
theorem dX5_began_6 : decode cX5_began 6 = .ok (.bipush 24, 2) := by decide +kernel
theorem dX5_began_8 : decode cX5_began 8 = .ok (.if_icmp .ge 9, 3) := by decide +kernel
theorem dX5_began_11 : decode cX5_began 11 = .ok (.aload_n 0, 1) := by decide +kernel
theorem dX5_began_12 : decode cX5_began 12 = .ok (.iconst 4, 1) := by decide +kernel
theorem dX5_began_13 : decode cX5_began 13 = .ok (.invokevirtual 105, 3) := by decide +kernel
theorem dX5_began_16 : decode cX5_began 16 = .ok (.ireturn, 1) := by decide +kernel
theorem dX5_began_17 : decode cX5_began 17 = .ok (.iconst 0, 1) := by decide +kernel
theorem dX5_began_18 : decode cX5_began 18 = .ok (.istore_n 1, 1) := by decide +kernel
theorem dX5_began_19 : decode cX5_began 19 = .ok (.iconst 1, 1) := by decide +kernel
theorem dX5_began_20 : decode cX5_began 20 = .ok (.istore_n 2, 1) := by decide +kernel
theorem dX5_began_21 : decode cX5_began 21 = .ok (.iload_n 2, 1) := by decide +kernel
theorem dX5_began_22 : decode cX5_began 22 = .ok (.bipush 24, 2) := by decide +kernel
theorem dX5_began_24 : decode cX5_began 24 = .ok (.if_icmp .gt 101, 3) := by decide +kernel
theorem dX5_began_27 : decode cX5_began 27 = .ok (.aload_n 0, 1) := by decide +kernel
theorem dX5_began_28 : decode cX5_began 28 = .ok (.getfield 9, 3) := by decide +kernel
theorem dX5_began_31 : decode cX5_began 31 = .ok (.aload_n 0, 1) := by decide +kernel
theorem dX5_began_32 : decode cX5_began 32 = .ok (.getfield 16, 3) := by decide +kernel
theorem dX5_began_35 : decode cX5_began 35 = .ok (.invokestatic 131, 3) := by decide +kernel
theorem dX5_began_38 : decode cX5_began 38 = .ok (.aload_n 0, 1) := by decide +kernel
theorem dX5_began_39 : decode cX5_began 39 = .ok (.getfield 16, 3) := by decide +kernel
theorem dX5_began_42 : decode cX5_began 42 = .ok (.iconst 2, 1) := by decide +kernel
theorem dX5_began_43 : decode cX5_began 43 = .ok (.dup2, 1) := by decide +kernel
theorem dX5_began_44 : decode cX5_began 44 = .ok (.iaload, 1) := by decide +kernel
theorem dX5_began_45 : decode cX5_began 45 = .ok (.iload_n 2, 1) := by decide +kernel
theorem dX5_began_46 : decode cX5_began 46 = .ok (.isub, 1) := by decide +kernel
theorem dX5_began_47 : decode cX5_began 47 = .ok (.iastore, 1) := by decide +kernel
theorem dX5_began_48 : decode cX5_began 48 = .ok (.iconst 0, 1) := by decide +kernel
theorem dX5_began_49 : decode cX5_began 49 = .ok (.istore_n 3, 1) := by decide +kernel
theorem dX5_began_50 : decode cX5_began 50 = .ok (.iload_n 3, 1) := by decide +kernel
theorem dX5_began_51 : decode cX5_began 51 = .ok (.aload_n 0, 1) := by decide +kernel
theorem dX5_began_52 : decode cX5_began 52 = .ok (.getfield 9, 3) := by decide +kernel
theorem dX5_began_55 : decode cX5_began 55 = .ok (.iconst 0, 1) := by decide +kernel
theorem dX5_began_56 : decode cX5_began 56 = .ok (.iaload, 1) := by decide +kernel
theorem dX5_began_57 : decode cX5_began 57 = .ok (.if_icmp .ge 29, 3) := by decide +kernel
theorem dX5_began_60 : decode cX5_began 60 = .ok (.aload_n 0, 1) := by decide +kernel
theorem dX5_began_61 : decode cX5_began 61 = .ok (.getfield 16, 3) := by decide +kernel
theorem dX5_began_64 : decode cX5_began 64 = .ok (.bipush 56, 2) := by decide +kernel
theorem dX5_began_66 : decode cX5_began 66 = .ok (.iload_n 3, 1) := by decide +kernel
theorem dX5_began_67 : decode cX5_began 67 = .ok (.iadd, 1) := by decide +kernel
theorem dX5_began_68 : decode cX5_began 68 = .ok (.iconst 0, 1) := by decide +kernel
theorem dX5_began_69 : decode cX5_began 69 = .ok (.iastore, 1) := by decide +kernel
theorem dX5_began_70 : decode cX5_began 70 = .ok (.aload_n 0, 1) := by decide +kernel
theorem dX5_began_71 : decode cX5_began 71 = .ok (.getfield 16, 3) := by decide +kernel
theorem dX5_began_74 : decode cX5_began 74 = .ok (.bipush 64, 2) := by decide +kernel
theorem dX5_began_76 : decode cX5_began 76 = .ok (.iload_n 3, 1) := by decide +kernel
theorem dX5_began_77 : decode cX5_began 77 = .ok (.iadd, 1) := by decide +kernel
theorem dX5_began_78 : decode cX5_began 78 = .ok (.iconst 0, 1) := by decide +kernel
theorem dX5_began_79 : decode cX5_began 79 = .ok (.iastore, 1) := by decide +kernel
theorem dX5_began_80 : decode cX5_began 80 = .ok (.iinc 3 1, 3) := by decide +kernel
theorem dX5_began_83 : decode cX5_began 83 = .ok (.goto (-33), 3) := by decide +kernel
theorem dX5_began_86 : decode cX5_began 86 = .ok (.aload_n 0, 1) := by decide +kernel
theorem dX5_began_87 : decode cX5_began 87 = .ok (.iload_n 2, 1) := by decide +kernel
theorem dX5_began_88 : decode cX5_began 88 = .ok (.invokevirtual 135, 3) := by decide +kernel
theorem dX5_began_91 : decode cX5_began 91 = .ok (.istore_n 3, 1) := by decide +kernel
theorem dX5_began_92 : decode cX5_began 92 = .ok (.iload_n 1, 1) := by decide +kernel
theorem dX5_began_93 : decode cX5_began 93 = .ok (.aload_n 0, 1) := by decide +kernel
theorem dX5_began_94 : decode cX5_began 94 = .ok (.getfield 16, 3) := by decide +kernel
theorem dX5_began_97 : decode cX5_began 97 = .ok (.invokestatic 121, 3) := by decide +kernel
theorem dX5_began_100 : decode cX5_began 100 = .ok (.aload_n 0, 1) := by decide +kernel
theorem dX5_began_101 : decode cX5_began 101 = .ok (.getfield 9, 3) := by decide +kernel
theorem dX5_began_104 : decode cX5_began 104 = .ok (.invokestatic 121, 3) := by decide +kernel
theorem dX5_began_107 : decode cX5_began 107 = .ok (.if_icmp .ne 9, 3) := by decide +kernel
theorem dX5_began_110 : decode cX5_began 110 = .ok (.iconst 1, 1) := by decide +kernel
theorem dX5_began_111 : decode cX5_began 111 = .ok (.iload_n 2, 1) := by decide +kernel
theorem dX5_began_112 : decode cX5_began 112 = .ok (.ishl, 1) := by decide +kernel
theorem dX5_began_113 : decode cX5_began 113 = .ok (.goto 4, 3) := by decide +kernel
theorem dX5_began_116 : decode cX5_began 116 = .ok (.iconst 0, 1) := by decide +kernel
theorem dX5_began_117 : decode cX5_began 117 = .ok (.ior, 1) := by decide +kernel
theorem dX5_began_118 : decode cX5_began 118 = .ok (.istore_n 1, 1) := by decide +kernel
theorem dX5_began_119 : decode cX5_began 119 = .ok (.iinc 2 1, 3) := by decide +kernel
theorem dX5_began_122 : decode cX5_began 122 = .ok (.goto (-101), 3) := by decide +kernel
theorem dX5_began_125 : decode cX5_began 125 = .ok (.iload_n 1, 1) := by decide +kernel
theorem dX5_began_126 : decode cX5_began 126 = .ok (.ireturn, 1) := by decide +kernel
set_option maxRecDepth 20000 in
theorem ggX5_opened_X5_within : GoodIn wsX5_opened wsX5_within := goodIn_r _ [6] (by decide +kernel) (by decide +kernel)
set_option maxRecDepth 20000 in
theorem gX5_opened_X5_within : GoodIn wsX5_opened (va_wsS RX5 44 yX5_within wsX5_within) := goodIn_app (goodIn_of _ (by decide +kernel)) ggX5_opened_X5_within
set_option maxRecDepth 20000 in
theorem ggX5_opened_X5_lacks : GoodIn wsX5_opened wsX5_lacks := goodIn_r _ [10, 11, 12, 13, 5, 14, 1, 73, 74, 75, 76, 77, 78, 79, 80, 81, 82, 83, 84, 85, 86, 87, 88, 89] (by decide +kernel) (by decide +kernel)
set_option maxRecDepth 20000 in
theorem gX5_opened_X5_lacks : GoodIn wsX5_opened (wsV RX5 141 RX5 yX5_lacks wsX5_lacks) := goodIn_app (goodIn_of _ (by decide +kernel)) ggX5_opened_X5_lacks
set_option maxRecDepth 20000 in
theorem ggX5_opened_X5_finding : GoodIn wsX5_opened wsX5_finding := goodIn_r _ [18, 19, 20, 73, 74, 75, 76, 77, 78, 79, 80, 81, 82, 83, 84, 85, 86, 87, 88, 89] (by decide +kernel) (by decide +kernel)
set_option maxRecDepth 20000 in
theorem gX5_opened_X5_finding : GoodIn wsX5_opened (wsV RX5 105 RX5 yX5_finding wsX5_finding) := goodIn_app (goodIn_of _ (by decide +kernel)) ggX5_opened_X5_finding
set_option maxRecDepth 20000 in
theorem ggX5_opened_X5_row : GoodIn wsX5_opened wsX5_row := goodIn_r _ [23] (by decide +kernel) (by decide +kernel)
set_option maxRecDepth 20000 in
theorem gX5_opened_X5_row : GoodIn wsX5_opened (va_wsS RX5 131 yX5_row wsX5_row) := goodIn_app (goodIn_of _ (by decide +kernel)) ggX5_opened_X5_row
set_option maxRecDepth 20000 in
theorem ggX5_opened_X5_holdingBehind : GoodIn wsX5_opened wsX5_holdingBehind := goodIn_r _ [27, 2, 28, 29, 30, 5, 31, 32, 33, 34, 35, 36, 37, 38, 39, 40, 41, 42, 43, 44, 45, 46, 47, 48, 49, 50, 51, 52, 53, 54, 55, 56, 57, 58, 59, 60, 61, 62, 63, 64, 65, 66, 67, 68, 69, 73, 74, 75, 76, 77, 78, 79, 80, 81, 82, 83, 84, 85, 86, 87, 88, 89] (by decide +kernel) (by decide +kernel)
set_option maxRecDepth 20000 in
theorem gX5_opened_X5_holdingBehind : GoodIn wsX5_opened (wsV RX5 135 RX5 yX5_holdingBehind wsX5_holdingBehind) := goodIn_app (goodIn_of _ (by decide +kernel)) ggX5_opened_X5_holdingBehind
set_option maxRecDepth 20000 in
theorem ggX5_opened_X5_ran : GoodIn wsX5_opened wsX5_ran := goodIn_r _ [72] (by decide +kernel) (by decide +kernel)
set_option maxRecDepth 20000 in
theorem gX5_opened_X5_ran : GoodIn wsX5_opened (va_wsS RX5 121 yX5_ran wsX5_ran) := goodIn_app (goodIn_of _ (by decide +kernel)) ggX5_opened_X5_ran
theorem dX5_opened_0 : decode cX5_opened 0 = .ok (.aload_n 0, 1) := by decide +kernel
theorem dX5_opened_1 : decode cX5_opened 1 = .ok (.iload_n 1, 1) := by decide +kernel
theorem dX5_opened_2 : decode cX5_opened 2 = .ok (.ifCond .lt 29, 3) := by decide +kernel
theorem dX5_opened_5 : decode cX5_opened 5 = .ok (.iload_n 1, 1) := by decide +kernel
theorem dX5_opened_6 : decode cX5_opened 6 = .ok (.iconst 1, 1) := by decide +kernel
theorem dX5_opened_7 : decode cX5_opened 7 = .ok (.aload_n 0, 1) := by decide +kernel
theorem dX5_opened_8 : decode cX5_opened 8 = .ok (.getfield 9, 3) := by decide +kernel
theorem dX5_opened_11 : decode cX5_opened 11 = .ok (.iconst 0, 1) := by decide +kernel
theorem dX5_opened_12 : decode cX5_opened 12 = .ok (.iaload, 1) := by decide +kernel
theorem dX5_opened_13 : decode cX5_opened 13 = .ok (.ishl, 1) := by decide +kernel
theorem dX5_opened_14 : decode cX5_opened 14 = .ok (.if_icmp .ge 17, 3) := by decide +kernel
theorem dX5_opened_17 : decode cX5_opened 17 = .ok (.iload_n 2, 1) := by decide +kernel
theorem dX5_opened_18 : decode cX5_opened 18 = .ok (.iconst 1, 1) := by decide +kernel
theorem dX5_opened_19 : decode cX5_opened 19 = .ok (.bipush 24, 2) := by decide +kernel
theorem dX5_opened_21 : decode cX5_opened 21 = .ok (.invokestatic 44, 3) := by decide +kernel
theorem dX5_opened_24 : decode cX5_opened 24 = .ok (.ifCond .eq 7, 3) := by decide +kernel
theorem dX5_opened_27 : decode cX5_opened 27 = .ok (.iconst 1, 1) := by decide +kernel
theorem dX5_opened_28 : decode cX5_opened 28 = .ok (.goto 4, 3) := by decide +kernel
theorem dX5_opened_31 : decode cX5_opened 31 = .ok (.iconst 0, 1) := by decide +kernel
theorem dX5_opened_32 : decode cX5_opened 32 = .ok (.iload_n 2, 1) := by decide +kernel
theorem dX5_opened_33 : decode cX5_opened 33 = .ok (.invokevirtual 141, 3) := by decide +kernel
theorem dX5_opened_36 : decode cX5_opened 36 = .ok (.istore_n 3, 1) := by decide +kernel
theorem dX5_opened_37 : decode cX5_opened 37 = .ok (.iload_n 3, 1) := by decide +kernel
theorem dX5_opened_38 : decode cX5_opened 38 = .ok (.ifCond .lt 9, 3) := by decide +kernel
theorem dX5_opened_41 : decode cX5_opened 41 = .ok (.aload_n 0, 1) := by decide +kernel
theorem dX5_opened_42 : decode cX5_opened 42 = .ok (.iload_n 3, 1) := by decide +kernel
theorem dX5_opened_43 : decode cX5_opened 43 = .ok (.invokevirtual 105, 3) := by decide +kernel
theorem dX5_opened_46 : decode cX5_opened 46 = .ok (.ireturn, 1) := by decide +kernel
theorem dX5_opened_47 : decode cX5_opened 47 = .ok (.iconst 0, 1) := by decide +kernel
theorem dX5_opened_48 : decode cX5_opened 48 = .ok (.istore 4, 2) := by decide +kernel
theorem dX5_opened_50 : decode cX5_opened 50 = .ok (.iconst 0, 1) := by decide +kernel
theorem dX5_opened_51 : decode cX5_opened 51 = .ok (.istore 5, 2) := by decide +kernel
theorem dX5_opened_53 : decode cX5_opened 53 = .ok (.iload 5, 2) := by decide +kernel
theorem dX5_opened_55 : decode cX5_opened 55 = .ok (.bipush 64, 2) := by decide +kernel
theorem dX5_opened_57 : decode cX5_opened 57 = .ok (.if_icmp .ge 80, 3) := by decide +kernel
theorem dX5_opened_60 : decode cX5_opened 60 = .ok (.aload_n 0, 1) := by decide +kernel
theorem dX5_opened_61 : decode cX5_opened 61 = .ok (.getfield 9, 3) := by decide +kernel
theorem dX5_opened_64 : decode cX5_opened 64 = .ok (.aload_n 0, 1) := by decide +kernel
theorem dX5_opened_65 : decode cX5_opened 65 = .ok (.getfield 16, 3) := by decide +kernel
theorem dX5_opened_68 : decode cX5_opened 68 = .ok (.invokestatic 131, 3) := by decide +kernel
theorem dX5_opened_71 : decode cX5_opened 71 = .ok (.iconst 0, 1) := by decide +kernel
theorem dX5_opened_72 : decode cX5_opened 72 = .ok (.istore 6, 2) := by decide +kernel
theorem dX5_opened_74 : decode cX5_opened 74 = .ok (.iload 6, 2) := by decide +kernel
theorem dX5_opened_76 : decode cX5_opened 76 = .ok (.bipush 6, 2) := by decide +kernel
theorem dX5_opened_78 : decode cX5_opened 78 = .ok (.if_icmp .ge 25, 3) := by decide +kernel
theorem dX5_opened_81 : decode cX5_opened 81 = .ok (.aload_n 0, 1) := by decide +kernel
theorem dX5_opened_82 : decode cX5_opened 82 = .ok (.getfield 16, 3) := by decide +kernel
theorem dX5_opened_85 : decode cX5_opened 85 = .ok (.iconst 4, 1) := by decide +kernel
theorem dX5_opened_86 : decode cX5_opened 86 = .ok (.iload 6, 2) := by decide +kernel
theorem dX5_opened_88 : decode cX5_opened 88 = .ok (.iadd, 1) := by decide +kernel
theorem dX5_opened_89 : decode cX5_opened 89 = .ok (.iload 5, 2) := by decide +kernel
theorem dX5_opened_91 : decode cX5_opened 91 = .ok (.iload 6, 2) := by decide +kernel
theorem dX5_opened_93 : decode cX5_opened 93 = .ok (.ishr, 1) := by decide +kernel
theorem dX5_opened_94 : decode cX5_opened 94 = .ok (.iconst 1, 1) := by decide +kernel
theorem dX5_opened_95 : decode cX5_opened 95 = .ok (.iand, 1) := by decide +kernel
theorem dX5_opened_96 : decode cX5_opened 96 = .ok (.iastore, 1) := by decide +kernel
theorem dX5_opened_97 : decode cX5_opened 97 = .ok (.iinc 6 1, 3) := by decide +kernel
theorem dX5_opened_100 : decode cX5_opened 100 = .ok (.goto (-26), 3) := by decide +kernel
theorem dX5_opened_103 : decode cX5_opened 103 = .ok (.aload_n 0, 1) := by decide +kernel
theorem dX5_opened_104 : decode cX5_opened 104 = .ok (.iload_n 2, 1) := by decide +kernel
theorem dX5_opened_105 : decode cX5_opened 105 = .ok (.invokevirtual 135, 3) := by decide +kernel
theorem dX5_opened_108 : decode cX5_opened 108 = .ok (.istore 6, 2) := by decide +kernel
theorem dX5_opened_110 : decode cX5_opened 110 = .ok (.iload 4, 2) := by decide +kernel
theorem dX5_opened_112 : decode cX5_opened 112 = .ok (.aload_n 0, 1) := by decide +kernel
theorem dX5_opened_113 : decode cX5_opened 113 = .ok (.getfield 16, 3) := by decide +kernel
theorem dX5_opened_116 : decode cX5_opened 116 = .ok (.invokestatic 121, 3) := by decide +kernel
theorem dX5_opened_119 : decode cX5_opened 119 = .ok (.iload_n 1, 1) := by decide +kernel
theorem dX5_opened_120 : decode cX5_opened 120 = .ok (.if_icmp .ne 7, 3) := by decide +kernel
theorem dX5_opened_123 : decode cX5_opened 123 = .ok (.iconst 1, 1) := by decide +kernel
theorem dX5_opened_124 : decode cX5_opened 124 = .ok (.goto 4, 3) := by decide +kernel
theorem dX5_opened_127 : decode cX5_opened 127 = .ok (.iconst 0, 1) := by decide +kernel
theorem dX5_opened_128 : decode cX5_opened 128 = .ok (.iadd, 1) := by decide +kernel
theorem dX5_opened_129 : decode cX5_opened 129 = .ok (.istore 4, 2) := by decide +kernel
theorem dX5_opened_131 : decode cX5_opened 131 = .ok (.iinc 5 1, 3) := by decide +kernel
theorem dX5_opened_134 : decode cX5_opened 134 = .ok (.goto (-81), 3) := by decide +kernel
theorem dX5_opened_137 : decode cX5_opened 137 = .ok (.iload 4, 2) := by decide +kernel
theorem dX5_opened_139 : decode cX5_opened 139 = .ok (.ireturn, 1) := by decide +kernel
theorem dX5_draw_0 : decode cX5_draw 0 = .ok (.aload_n 0, 1) := by decide +kernel
theorem dX5_draw_1 : decode cX5_draw 1 = .ok (.getfield 9, 3) := by decide +kernel
theorem dX5_draw_4 : decode cX5_draw 4 = .ok (.iconst 3, 1) := by decide +kernel
theorem dX5_draw_5 : decode cX5_draw 5 = .ok (.aload_n 0, 1) := by decide +kernel
theorem dX5_draw_6 : decode cX5_draw 6 = .ok (.getfield 9, 3) := by decide +kernel
theorem dX5_draw_9 : decode cX5_draw 9 = .ok (.iconst 3, 1) := by decide +kernel
theorem dX5_draw_10 : decode cX5_draw 10 = .ok (.iaload, 1) := by decide +kernel
theorem dX5_draw_11 : decode cX5_draw 11 = .ok (.ldc 175, 2) := by decide +kernel
theorem dX5_draw_13 : decode cX5_draw 13 = .ok (.imul, 1) := by decide +kernel
theorem dX5_draw_14 : decode cX5_draw 14 = .ok (.sipush 12345, 3) := by decide +kernel
theorem dX5_draw_17 : decode cX5_draw 17 = .ok (.iadd, 1) := by decide +kernel
theorem dX5_draw_18 : decode cX5_draw 18 = .ok (.iastore, 1) := by decide +kernel
theorem dX5_draw_19 : decode cX5_draw 19 = .ok (.aload_n 0, 1) := by decide +kernel
theorem dX5_draw_20 : decode cX5_draw 20 = .ok (.getfield 9, 3) := by decide +kernel
theorem dX5_draw_23 : decode cX5_draw 23 = .ok (.iconst 3, 1) := by decide +kernel
theorem dX5_draw_24 : decode cX5_draw 24 = .ok (.iaload, 1) := by decide +kernel
theorem dX5_draw_25 : decode cX5_draw 25 = .ok (.bipush 8, 2) := by decide +kernel
theorem dX5_draw_27 : decode cX5_draw 27 = .ok (.iushr, 1) := by decide +kernel
theorem dX5_draw_28 : decode cX5_draw 28 = .ok (.ireturn, 1) := by decide +kernel
set_option maxRecDepth 20000 in
theorem ggX5_days_X5_within : GoodIn wsX5_days wsX5_within := goodIn_r _ [5] (by decide +kernel) (by decide +kernel)
set_option maxRecDepth 20000 in
theorem gX5_days_X5_within : GoodIn wsX5_days (va_wsS RX5 44 yX5_within wsX5_within) := goodIn_app (goodIn_of _ (by decide +kernel)) ggX5_days_X5_within
set_option maxRecDepth 20000 in
theorem ggX5_days_X5_finding : GoodIn wsX5_days wsX5_finding := goodIn_r _ [9, 10, 11, 57, 58, 59, 60, 61, 62, 63, 64, 65, 66, 67, 68, 69, 70, 71, 72, 73] (by decide +kernel) (by decide +kernel)
set_option maxRecDepth 20000 in
theorem gX5_days_X5_finding : GoodIn wsX5_days (wsV RX5 105 RX5 yX5_finding wsX5_finding) := goodIn_app (goodIn_of _ (by decide +kernel)) ggX5_days_X5_finding
set_option maxRecDepth 20000 in
theorem ggX5_days_X5_isTime : GoodIn wsX5_days wsX5_isTime := goodIn_r _ [15, 1, 57, 58, 59, 60, 61, 62, 63, 64, 65, 66, 67, 68, 69, 70, 71, 72, 73] (by decide +kernel) (by decide +kernel)
set_option maxRecDepth 20000 in
theorem gX5_days_X5_isTime : GoodIn wsX5_days (wsV RX5 118 RX5 yX5_isTime wsX5_isTime) := goodIn_app (goodIn_of _ (by decide +kernel)) ggX5_days_X5_isTime
set_option maxRecDepth 20000 in
theorem ggX5_days_X5_draw : GoodIn wsX5_days wsX5_draw := goodIn_r _ [19, 1, 20, 57, 58, 59, 60, 61, 62, 63, 64, 65, 66, 67, 68, 69, 70, 71, 72, 73] (by decide +kernel) (by decide +kernel)
set_option maxRecDepth 20000 in
theorem gX5_days_X5_draw : GoodIn wsX5_days (wsV RX5 176 RX5 yX5_draw wsX5_draw) := goodIn_app (goodIn_of _ (by decide +kernel)) ggX5_days_X5_draw
set_option maxRecDepth 20000 in
theorem ggX5_days_X5_anHour : GoodIn wsX5_days wsX5_anHour := goodIn_r _ [24, 25, 26, 27, 4, 28, 29, 30, 31, 32, 33, 34, 35, 36, 37, 38, 39, 40, 41, 42, 43, 44, 45, 46, 47, 48, 49, 50, 51, 52, 53, 54, 55, 56, 57, 58, 59, 60, 61, 62, 63, 64, 65, 66, 67, 68, 69, 70, 71, 72, 73] (by decide +kernel) (by decide +kernel)
set_option maxRecDepth 20000 in
theorem gX5_days_X5_anHour : GoodIn wsX5_days (wsV RX5 91 RX5 yX5_anHour wsX5_anHour) := goodIn_app (goodIn_of _ (by decide +kernel)) ggX5_days_X5_anHour
theorem dX5_days_0 : decode cX5_days 0 = .ok (.iload_n 1, 1) := by decide +kernel
theorem dX5_days_1 : decode cX5_days 1 = .ok (.iconst 1, 1) := by decide +kernel
theorem dX5_days_2 : decode cX5_days 2 = .ok (.bipush 12, 2) := by decide +kernel
theorem dX5_days_4 : decode cX5_days 4 = .ok (.invokestatic 44, 3) := by decide +kernel
theorem dX5_days_7 : decode cX5_days 7 = .ok (.ifCond .ne 9, 3) := by decide +kernel
theorem dX5_days_10 : decode cX5_days 10 = .ok (.aload_n 0, 1) := by decide +kernel
theorem dX5_days_11 : decode cX5_days 11 = .ok (.iconst 0, 1) := by decide +kernel
theorem dX5_days_12 : decode cX5_days 12 = .ok (.invokevirtual 105, 3) := by decide +kernel
theorem dX5_days_15 : decode cX5_days 15 = .ok (.ireturn, 1) := by decide +kernel
theorem dX5_days_16 : decode cX5_days 16 = .ok (.aload_n 0, 1) := by decide +kernel
theorem dX5_days_17 : decode cX5_days 17 = .ok (.bipush 24, 2) := by decide +kernel
theorem dX5_days_19 : decode cX5_days 19 = .ok (.iload_n 1, 1) := by decide +kernel
theorem dX5_days_20 : decode cX5_days 20 = .ok (.imul, 1) := by decide +kernel
theorem dX5_days_21 : decode cX5_days 21 = .ok (.invokevirtual 118, 3) := by decide +kernel
theorem dX5_days_24 : decode cX5_days 24 = .ok (.ifCond .ne 9, 3) := by decide +kernel
theorem dX5_days_27 : decode cX5_days 27 = .ok (.aload_n 0, 1) := by decide +kernel
theorem dX5_days_28 : decode cX5_days 28 = .ok (.iconst 4, 1) := by decide +kernel
theorem dX5_days_29 : decode cX5_days 29 = .ok (.invokevirtual 105, 3) := by decide +kernel
theorem dX5_days_32 : decode cX5_days 32 = .ok (.ireturn, 1) := by decide +kernel
theorem dX5_days_33 : decode cX5_days 33 = .ok (.iconst 0, 1) := by decide +kernel
theorem dX5_days_34 : decode cX5_days 34 = .ok (.istore_n 2, 1) := by decide +kernel
theorem dX5_days_35 : decode cX5_days 35 = .ok (.iconst 0, 1) := by decide +kernel
theorem dX5_days_36 : decode cX5_days 36 = .ok (.istore_n 3, 1) := by decide +kernel
theorem dX5_days_37 : decode cX5_days 37 = .ok (.iload_n 3, 1) := by decide +kernel
theorem dX5_days_38 : decode cX5_days 38 = .ok (.iload_n 1, 1) := by decide +kernel
theorem dX5_days_39 : decode cX5_days 39 = .ok (.if_icmp .ge 78, 3) := by decide +kernel
theorem dX5_days_42 : decode cX5_days 42 = .ok (.aload_n 0, 1) := by decide +kernel
theorem dX5_days_43 : decode cX5_days 43 = .ok (.getfield 9, 3) := by decide +kernel
theorem dX5_days_46 : decode cX5_days 46 = .ok (.iconst 1, 1) := by decide +kernel
theorem dX5_days_47 : decode cX5_days 47 = .ok (.aload_n 0, 1) := by decide +kernel
theorem dX5_days_48 : decode cX5_days 48 = .ok (.invokevirtual 176, 3) := by decide +kernel
theorem dX5_days_51 : decode cX5_days 51 = .ok (.bipush 41, 2) := by decide +kernel
theorem dX5_days_53 : decode cX5_days 53 = .ok (.irem, 1) := by decide +kernel
theorem dX5_days_54 : decode cX5_days 54 = .ok (.iastore, 1) := by decide +kernel
theorem dX5_days_55 : decode cX5_days 55 = .ok (.aload_n 0, 1) := by decide +kernel
theorem dX5_days_56 : decode cX5_days 56 = .ok (.invokevirtual 176, 3) := by decide +kernel
theorem dX5_days_59 : decode cX5_days 59 = .ok (.bipush 6, 2) := by decide +kernel
theorem dX5_days_61 : decode cX5_days 61 = .ok (.irem, 1) := by decide +kernel
theorem dX5_days_62 : decode cX5_days 62 = .ok (.istore 4, 2) := by decide +kernel
theorem dX5_days_64 : decode cX5_days 64 = .ok (.aload_n 0, 1) := by decide +kernel
theorem dX5_days_65 : decode cX5_days 65 = .ok (.getfield 9, 3) := by decide +kernel
theorem dX5_days_68 : decode cX5_days 68 = .ok (.iconst 4, 1) := by decide +kernel
theorem dX5_days_69 : decode cX5_days 69 = .ok (.iload 4, 2) := by decide +kernel
theorem dX5_days_71 : decode cX5_days 71 = .ok (.iadd, 1) := by decide +kernel
theorem dX5_days_72 : decode cX5_days 72 = .ok (.iconst 1, 1) := by decide +kernel
theorem dX5_days_73 : decode cX5_days 73 = .ok (.aload_n 0, 1) := by decide +kernel
theorem dX5_days_74 : decode cX5_days 74 = .ok (.getfield 9, 3) := by decide +kernel
theorem dX5_days_77 : decode cX5_days 77 = .ok (.iconst 4, 1) := by decide +kernel
theorem dX5_days_78 : decode cX5_days 78 = .ok (.iload 4, 2) := by decide +kernel
theorem dX5_days_80 : decode cX5_days 80 = .ok (.iadd, 1) := by decide +kernel
theorem dX5_days_81 : decode cX5_days 81 = .ok (.iaload, 1) := by decide +kernel
theorem dX5_days_82 : decode cX5_days 82 = .ok (.isub, 1) := by decide +kernel
theorem dX5_days_83 : decode cX5_days 83 = .ok (.iastore, 1) := by decide +kernel
theorem dX5_days_84 : decode cX5_days 84 = .ok (.iconst 0, 1) := by decide +kernel
theorem dX5_days_85 : decode cX5_days 85 = .ok (.istore 5, 2) := by decide +kernel
theorem dX5_days_87 : decode cX5_days 87 = .ok (.iload 5, 2) := by decide +kernel
theorem dX5_days_89 : decode cX5_days 89 = .ok (.bipush 24, 2) := by decide +kernel
theorem dX5_days_91 : decode cX5_days 91 = .ok (.if_icmp .ge 20, 3) := by decide +kernel
theorem dX5_days_94 : decode cX5_days 94 = .ok (.iload_n 2, 1) := by decide +kernel
theorem dX5_days_95 : decode cX5_days 95 = .ok (.aload_n 0, 1) := by decide +kernel
theorem dX5_days_96 : decode cX5_days 96 = .ok (.aload_n 0, 1) := by decide +kernel
theorem dX5_days_97 : decode cX5_days 97 = .ok (.getfield 9, 3) := by decide +kernel
theorem dX5_days_100 : decode cX5_days 100 = .ok (.invokevirtual 91, 3) := by decide +kernel
theorem dX5_days_103 : decode cX5_days 103 = .ok (.iadd, 1) := by decide +kernel
theorem dX5_days_104 : decode cX5_days 104 = .ok (.istore_n 2, 1) := by decide +kernel
theorem dX5_days_105 : decode cX5_days 105 = .ok (.iinc 5 1, 3) := by decide +kernel
theorem dX5_days_108 : decode cX5_days 108 = .ok (.goto (-21), 3) := by decide +kernel
theorem dX5_days_111 : decode cX5_days 111 = .ok (.iinc 3 1, 3) := by decide +kernel
theorem dX5_days_114 : decode cX5_days 114 = .ok (.goto (-77), 3) := by decide +kernel
theorem dX5_days_117 : decode cX5_days 117 = .ok (.iload_n 2, 1) := by decide +kernel
theorem dX5_days_118 : decode cX5_days 118 = .ok (.ireturn, 1) := by decide +kernel
theorem dX5_seed_0 : decode cX5_seed 0 = .ok (.aload_n 0, 1) := by decide +kernel
theorem dX5_seed_1 : decode cX5_seed 1 = .ok (.getfield 9, 3) := by decide +kernel
theorem dX5_seed_4 : decode cX5_seed 4 = .ok (.iconst 3, 1) := by decide +kernel
theorem dX5_seed_5 : decode cX5_seed 5 = .ok (.iaload, 1) := by decide +kernel
theorem dX5_seed_6 : decode cX5_seed 6 = .ok (.istore_n 2, 1) := by decide +kernel
theorem dX5_seed_7 : decode cX5_seed 7 = .ok (.aload_n 0, 1) := by decide +kernel
theorem dX5_seed_8 : decode cX5_seed 8 = .ok (.getfield 9, 3) := by decide +kernel
theorem dX5_seed_11 : decode cX5_seed 11 = .ok (.iconst 3, 1) := by decide +kernel
theorem dX5_seed_12 : decode cX5_seed 12 = .ok (.iload_n 1, 1) := by decide +kernel
theorem dX5_seed_13 : decode cX5_seed 13 = .ok (.iastore, 1) := by decide +kernel
theorem dX5_seed_14 : decode cX5_seed 14 = .ok (.iload_n 2, 1) := by decide +kernel
theorem dX5_seed_15 : decode cX5_seed 15 = .ok (.ireturn, 1) := by decide +kernel
set_option maxRecDepth 20000 in
theorem ggX5_feed_X5_within : GoodIn wsX5_feed wsX5_within := goodIn_r _ [6] (by decide +kernel) (by decide +kernel)
set_option maxRecDepth 20000 in
theorem gX5_feed_X5_within : GoodIn wsX5_feed (va_wsS RX5 44 yX5_within wsX5_within) := goodIn_app (goodIn_of _ (by decide +kernel)) ggX5_feed_X5_within
set_option maxRecDepth 20000 in
theorem ggX5_feed_X5_finding : GoodIn wsX5_feed wsX5_finding := goodIn_r _ [10, 11, 12, 13, 14, 15, 16, 17, 18, 19, 20, 21, 22, 23, 24, 25, 26, 27, 28, 29] (by decide +kernel) (by decide +kernel)
set_option maxRecDepth 20000 in
theorem gX5_feed_X5_finding : GoodIn wsX5_feed (wsV RX5 105 RX5 yX5_finding wsX5_finding) := goodIn_app (goodIn_of _ (by decide +kernel)) ggX5_feed_X5_finding
theorem dX5_feed_0 : decode cX5_feed 0 = .ok (.iload_n 2, 1) := by decide +kernel
theorem dX5_feed_1 : decode cX5_feed 1 = .ok (.iconst 1, 1) := by decide +kernel
theorem dX5_feed_2 : decode cX5_feed 2 = .ok (.iconst 4, 1) := by decide +kernel
theorem dX5_feed_3 : decode cX5_feed 3 = .ok (.invokestatic 44, 3) := by decide +kernel
theorem dX5_feed_6 : decode cX5_feed 6 = .ok (.ifCond .ne 9, 3) := by decide +kernel
theorem dX5_feed_9 : decode cX5_feed 9 = .ok (.aload_n 0, 1) := by decide +kernel
theorem dX5_feed_10 : decode cX5_feed 10 = .ok (.iconst 0, 1) := by decide +kernel
theorem dX5_feed_11 : decode cX5_feed 11 = .ok (.invokevirtual 105, 3) := by decide +kernel
theorem dX5_feed_14 : decode cX5_feed 14 = .ok (.ireturn, 1) := by decide +kernel
theorem dX5_feed_15 : decode cX5_feed 15 = .ok (.aload_n 0, 1) := by decide +kernel
theorem dX5_feed_16 : decode cX5_feed 16 = .ok (.getfield 179, 3) := by decide +kernel
theorem dX5_feed_19 : decode cX5_feed 19 = .ok (.iload_n 2, 1) := by decide +kernel
theorem dX5_feed_20 : decode cX5_feed 20 = .ok (.iadd, 1) := by decide +kernel
theorem dX5_feed_21 : decode cX5_feed 21 = .ok (.bipush 120, 2) := by decide +kernel
theorem dX5_feed_23 : decode cX5_feed 23 = .ok (.if_icmp .le 9, 3) := by decide +kernel
theorem dX5_feed_26 : decode cX5_feed 26 = .ok (.aload_n 0, 1) := by decide +kernel
theorem dX5_feed_27 : decode cX5_feed 27 = .ok (.iconst 1, 1) := by decide +kernel
theorem dX5_feed_28 : decode cX5_feed 28 = .ok (.invokevirtual 105, 3) := by decide +kernel
theorem dX5_feed_31 : decode cX5_feed 31 = .ok (.ireturn, 1) := by decide +kernel
theorem dX5_feed_32 : decode cX5_feed 32 = .ok (.bipush 8, 2) := by decide +kernel
theorem dX5_feed_34 : decode cX5_feed 34 = .ok (.iload_n 2, 1) := by decide +kernel
theorem dX5_feed_35 : decode cX5_feed 35 = .ok (.imul, 1) := by decide +kernel
theorem dX5_feed_36 : decode cX5_feed 36 = .ok (.bipush 8, 2) := by decide +kernel
theorem dX5_feed_38 : decode cX5_feed 38 = .ok (.isub, 1) := by decide +kernel
theorem dX5_feed_39 : decode cX5_feed 39 = .ok (.istore_n 3, 1) := by decide +kernel
theorem dX5_feed_40 : decode cX5_feed 40 = .ok (.iload_n 3, 1) := by decide +kernel
theorem dX5_feed_41 : decode cX5_feed 41 = .ok (.ifCond .lt 35, 3) := by decide +kernel
theorem dX5_feed_44 : decode cX5_feed 44 = .ok (.aload_n 0, 1) := by decide +kernel
theorem dX5_feed_45 : decode cX5_feed 45 = .ok (.getfield 22, 3) := by decide +kernel
theorem dX5_feed_48 : decode cX5_feed 48 = .ok (.aload_n 0, 1) := by decide +kernel
theorem dX5_feed_49 : decode cX5_feed 49 = .ok (.getfield 179, 3) := by decide +kernel
theorem dX5_feed_52 : decode cX5_feed 52 = .ok (.iload_n 1, 1) := by decide +kernel
theorem dX5_feed_53 : decode cX5_feed 53 = .ok (.iload_n 3, 1) := by decide +kernel
theorem dX5_feed_54 : decode cX5_feed 54 = .ok (.ishr, 1) := by decide +kernel
theorem dX5_feed_55 : decode cX5_feed 55 = .ok (.sipush 255, 3) := by decide +kernel
theorem dX5_feed_58 : decode cX5_feed 58 = .ok (.iand, 1) := by decide +kernel
theorem dX5_feed_59 : decode cX5_feed 59 = .ok (.iastore, 1) := by decide +kernel
theorem dX5_feed_60 : decode cX5_feed 60 = .ok (.aload_n 0, 1) := by decide +kernel
theorem dX5_feed_61 : decode cX5_feed 61 = .ok (.dup, 1) := by decide +kernel
theorem dX5_feed_62 : decode cX5_feed 62 = .ok (.getfield 179, 3) := by decide +kernel
theorem dX5_feed_65 : decode cX5_feed 65 = .ok (.iconst 1, 1) := by decide +kernel
theorem dX5_feed_66 : decode cX5_feed 66 = .ok (.iadd, 1) := by decide +kernel
theorem dX5_feed_67 : decode cX5_feed 67 = .ok (.putfield 179, 3) := by decide +kernel
theorem dX5_feed_70 : decode cX5_feed 70 = .ok (.iinc 3 (-8), 3) := by decide +kernel
theorem dX5_feed_73 : decode cX5_feed 73 = .ok (.goto (-33), 3) := by decide +kernel
theorem dX5_feed_76 : decode cX5_feed 76 = .ok (.aload_n 0, 1) := by decide +kernel
theorem dX5_feed_77 : decode cX5_feed 77 = .ok (.getfield 179, 3) := by decide +kernel
theorem dX5_feed_80 : decode cX5_feed 80 = .ok (.ireturn, 1) := by decide +kernel
theorem dX5_wipe_0 : decode cX5_wipe 0 = .ok (.aload_n 0, 1) := by decide +kernel
theorem dX5_wipe_1 : decode cX5_wipe 1 = .ok (.getfield 179, 3) := by decide +kernel
theorem dX5_wipe_4 : decode cX5_wipe 4 = .ok (.istore_n 1, 1) := by decide +kernel
theorem dX5_wipe_5 : decode cX5_wipe 5 = .ok (.aload_n 0, 1) := by decide +kernel
theorem dX5_wipe_6 : decode cX5_wipe 6 = .ok (.iconst 0, 1) := by decide +kernel
theorem dX5_wipe_7 : decode cX5_wipe 7 = .ok (.putfield 179, 3) := by decide +kernel
theorem dX5_wipe_10 : decode cX5_wipe 10 = .ok (.iload_n 1, 1) := by decide +kernel
theorem dX5_wipe_11 : decode cX5_wipe 11 = .ok (.ireturn, 1) := by decide +kernel
set_option maxRecDepth 20000 in
theorem ggX5_isByte_X5_within : GoodIn wsX5_isByte wsX5_within := goodIn_r _ [6] (by decide +kernel) (by decide +kernel)
set_option maxRecDepth 20000 in
theorem gX5_isByte_X5_within : GoodIn wsX5_isByte (va_wsS RX5 44 yX5_within wsX5_within) := goodIn_app (goodIn_of _ (by decide +kernel)) ggX5_isByte_X5_within
theorem dX5_isByte_0 : decode cX5_isByte 0 = .ok (.iload_n 1, 1) := by decide +kernel
theorem dX5_isByte_1 : decode cX5_isByte 1 = .ok (.aload_n 0, 1) := by decide +kernel
theorem dX5_isByte_2 : decode cX5_isByte 2 = .ok (.getfield 179, 3) := by decide +kernel
theorem dX5_isByte_5 : decode cX5_isByte 5 = .ok (.if_icmp .ge 21, 3) := by decide +kernel
theorem dX5_isByte_8 : decode cX5_isByte 8 = .ok (.aload_n 0, 1) := by decide +kernel
theorem dX5_isByte_9 : decode cX5_isByte 9 = .ok (.getfield 22, 3) := by decide +kernel
theorem dX5_isByte_12 : decode cX5_isByte 12 = .ok (.iload_n 1, 1) := by decide +kernel
theorem dX5_isByte_13 : decode cX5_isByte 13 = .ok (.iaload, 1) := by decide +kernel
theorem dX5_isByte_14 : decode cX5_isByte 14 = .ok (.iload_n 2, 1) := by decide +kernel
theorem dX5_isByte_15 : decode cX5_isByte 15 = .ok (.iload_n 3, 1) := by decide +kernel
theorem dX5_isByte_16 : decode cX5_isByte 16 = .ok (.invokestatic 44, 3) := by decide +kernel
theorem dX5_isByte_19 : decode cX5_isByte 19 = .ok (.ifCond .eq 7, 3) := by decide +kernel
theorem dX5_isByte_22 : decode cX5_isByte 22 = .ok (.iconst 1, 1) := by decide +kernel
theorem dX5_isByte_23 : decode cX5_isByte 23 = .ok (.goto 4, 3) := by decide +kernel
theorem dX5_isByte_26 : decode cX5_isByte 26 = .ok (.iconst 0, 1) := by decide +kernel
theorem dX5_isByte_27 : decode cX5_isByte 27 = .ok (.ireturn, 1) := by decide +kernel
set_option maxRecDepth 20000 in
theorem ggX5_next_X5_isByte : GoodIn wsX5_next wsX5_isByte := goodIn_r _ [8, 3, 9, 10, 11, 7, 12, 13, 14, 15, 16, 17, 18, 19, 20, 21, 22, 23, 24, 25, 26, 27, 28, 29] (by decide +kernel) (by decide +kernel)
set_option maxRecDepth 20000 in
theorem gX5_next_X5_isByte : GoodIn wsX5_next (wsV RX5 188 RX5 yX5_isByte wsX5_isByte) := goodIn_app (goodIn_of _ (by decide +kernel)) ggX5_next_X5_isByte
theorem dX5_next_0 : decode cX5_next 0 = .ok (.aload_n 0, 1) := by decide +kernel
theorem dX5_next_1 : decode cX5_next 1 = .ok (.aload_n 0, 1) := by decide +kernel
theorem dX5_next_2 : decode cX5_next 2 = .ok (.getfield 182, 3) := by decide +kernel
theorem dX5_next_5 : decode cX5_next 5 = .ok (.putfield 185, 3) := by decide +kernel
theorem dX5_next_8 : decode cX5_next 8 = .ok (.aload_n 0, 1) := by decide +kernel
theorem dX5_next_9 : decode cX5_next 9 = .ok (.aload_n 0, 1) := by decide +kernel
theorem dX5_next_10 : decode cX5_next 10 = .ok (.getfield 185, 3) := by decide +kernel
theorem dX5_next_13 : decode cX5_next 13 = .ok (.bipush 32, 2) := by decide +kernel
theorem dX5_next_15 : decode cX5_next 15 = .ok (.bipush 32, 2) := by decide +kernel
theorem dX5_next_17 : decode cX5_next 17 = .ok (.invokevirtual 188, 3) := by decide +kernel
theorem dX5_next_20 : decode cX5_next 20 = .ok (.ifCond .eq 16, 3) := by decide +kernel
theorem dX5_next_23 : decode cX5_next 23 = .ok (.aload_n 0, 1) := by decide +kernel
theorem dX5_next_24 : decode cX5_next 24 = .ok (.dup, 1) := by decide +kernel
theorem dX5_next_25 : decode cX5_next 25 = .ok (.getfield 185, 3) := by decide +kernel
theorem dX5_next_28 : decode cX5_next 28 = .ok (.iconst 1, 1) := by decide +kernel
theorem dX5_next_29 : decode cX5_next 29 = .ok (.iadd, 1) := by decide +kernel
theorem dX5_next_30 : decode cX5_next 30 = .ok (.putfield 185, 3) := by decide +kernel
theorem dX5_next_33 : decode cX5_next 33 = .ok (.goto (-25), 3) := by decide +kernel
theorem dX5_next_36 : decode cX5_next 36 = .ok (.aload_n 0, 1) := by decide +kernel
theorem dX5_next_37 : decode cX5_next 37 = .ok (.aload_n 0, 1) := by decide +kernel
theorem dX5_next_38 : decode cX5_next 38 = .ok (.getfield 185, 3) := by decide +kernel
theorem dX5_next_41 : decode cX5_next 41 = .ok (.putfield 182, 3) := by decide +kernel
theorem dX5_next_44 : decode cX5_next 44 = .ok (.aload_n 0, 1) := by decide +kernel
theorem dX5_next_45 : decode cX5_next 45 = .ok (.aload_n 0, 1) := by decide +kernel
theorem dX5_next_46 : decode cX5_next 46 = .ok (.getfield 185, 3) := by decide +kernel
theorem dX5_next_49 : decode cX5_next 49 = .ok (.bipush 97, 2) := by decide +kernel
theorem dX5_next_51 : decode cX5_next 51 = .ok (.bipush 122, 2) := by decide +kernel
theorem dX5_next_53 : decode cX5_next 53 = .ok (.invokevirtual 188, 3) := by decide +kernel
theorem dX5_next_56 : decode cX5_next 56 = .ok (.istore_n 1, 1) := by decide +kernel
theorem dX5_next_57 : decode cX5_next 57 = .ok (.aload_n 0, 1) := by decide +kernel
theorem dX5_next_58 : decode cX5_next 58 = .ok (.aload_n 0, 1) := by decide +kernel
theorem dX5_next_59 : decode cX5_next 59 = .ok (.getfield 185, 3) := by decide +kernel
theorem dX5_next_62 : decode cX5_next 62 = .ok (.bipush 48, 2) := by decide +kernel
theorem dX5_next_64 : decode cX5_next 64 = .ok (.bipush 57, 2) := by decide +kernel
theorem dX5_next_66 : decode cX5_next 66 = .ok (.invokevirtual 188, 3) := by decide +kernel
theorem dX5_next_69 : decode cX5_next 69 = .ok (.istore_n 2, 1) := by decide +kernel
theorem dX5_next_70 : decode cX5_next 70 = .ok (.iload_n 1, 1) := by decide +kernel
theorem dX5_next_71 : decode cX5_next 71 = .ok (.ifCond .eq 18, 3) := by decide +kernel
theorem dX5_next_74 : decode cX5_next 74 = .ok (.aload_n 0, 1) := by decide +kernel
theorem dX5_next_75 : decode cX5_next 75 = .ok (.aload_n 0, 1) := by decide +kernel
theorem dX5_next_76 : decode cX5_next 76 = .ok (.getfield 182, 3) := by decide +kernel
theorem dX5_next_79 : decode cX5_next 79 = .ok (.bipush 97, 2) := by decide +kernel
theorem dX5_next_81 : decode cX5_next 81 = .ok (.bipush 122, 2) := by decide +kernel
theorem dX5_next_83 : decode cX5_next 83 = .ok (.invokevirtual 188, 3) := by decide +kernel
theorem dX5_next_86 : decode cX5_next 86 = .ok (.ifCond .ne 22, 3) := by decide +kernel
theorem dX5_next_89 : decode cX5_next 89 = .ok (.iload_n 2, 1) := by decide +kernel
theorem dX5_next_90 : decode cX5_next 90 = .ok (.ifCond .eq 31, 3) := by decide +kernel
theorem dX5_next_93 : decode cX5_next 93 = .ok (.aload_n 0, 1) := by decide +kernel
theorem dX5_next_94 : decode cX5_next 94 = .ok (.aload_n 0, 1) := by decide +kernel
theorem dX5_next_95 : decode cX5_next 95 = .ok (.getfield 182, 3) := by decide +kernel
theorem dX5_next_98 : decode cX5_next 98 = .ok (.bipush 48, 2) := by decide +kernel
theorem dX5_next_100 : decode cX5_next 100 = .ok (.bipush 57, 2) := by decide +kernel
theorem dX5_next_102 : decode cX5_next 102 = .ok (.invokevirtual 188, 3) := by decide +kernel
theorem dX5_next_105 : decode cX5_next 105 = .ok (.ifCond .eq 16, 3) := by decide +kernel
theorem dX5_next_108 : decode cX5_next 108 = .ok (.aload_n 0, 1) := by decide +kernel
theorem dX5_next_109 : decode cX5_next 109 = .ok (.dup, 1) := by decide +kernel
theorem dX5_next_110 : decode cX5_next 110 = .ok (.getfield 182, 3) := by decide +kernel
theorem dX5_next_113 : decode cX5_next 113 = .ok (.iconst 1, 1) := by decide +kernel
theorem dX5_next_114 : decode cX5_next 114 = .ok (.iadd, 1) := by decide +kernel
theorem dX5_next_115 : decode cX5_next 115 = .ok (.putfield 182, 3) := by decide +kernel
theorem dX5_next_118 : decode cX5_next 118 = .ok (.goto (-48), 3) := by decide +kernel
theorem dX5_next_121 : decode cX5_next 121 = .ok (.aload_n 0, 1) := by decide +kernel
theorem dX5_next_122 : decode cX5_next 122 = .ok (.dup, 1) := by decide +kernel
theorem dX5_next_123 : decode cX5_next 123 = .ok (.getfield 182, 3) := by decide +kernel
theorem dX5_next_126 : decode cX5_next 126 = .ok (.iload_n 1, 1) := by decide +kernel
theorem dX5_next_127 : decode cX5_next 127 = .ok (.ifCond .ne 22, 3) := by decide +kernel
theorem dX5_next_130 : decode cX5_next 130 = .ok (.iload_n 2, 1) := by decide +kernel
theorem dX5_next_131 : decode cX5_next 131 = .ok (.ifCond .ne 18, 3) := by decide +kernel
theorem dX5_next_134 : decode cX5_next 134 = .ok (.aload_n 0, 1) := by decide +kernel
theorem dX5_next_135 : decode cX5_next 135 = .ok (.getfield 185, 3) := by decide +kernel
theorem dX5_next_138 : decode cX5_next 138 = .ok (.aload_n 0, 1) := by decide +kernel
theorem dX5_next_139 : decode cX5_next 139 = .ok (.getfield 179, 3) := by decide +kernel
theorem dX5_next_142 : decode cX5_next 142 = .ok (.if_icmp .ge 7, 3) := by decide +kernel
theorem dX5_next_145 : decode cX5_next 145 = .ok (.iconst 1, 1) := by decide +kernel
theorem dX5_next_146 : decode cX5_next 146 = .ok (.goto 4, 3) := by decide +kernel
theorem dX5_next_149 : decode cX5_next 149 = .ok (.iconst 0, 1) := by decide +kernel
theorem dX5_next_150 : decode cX5_next 150 = .ok (.iadd, 1) := by decide +kernel
theorem dX5_next_151 : decode cX5_next 151 = .ok (.putfield 182, 3) := by decide +kernel
theorem dX5_next_154 : decode cX5_next 154 = .ok (.return_, 1) := by decide +kernel
set_option maxRecDepth 20000 in
theorem ggX5_isWord_J0_length_8abf5 : GoodIn wsX5_isWord wsJ0_length_8abf5 := goodIn_r _ [9, 10, 11, 12, 13, 8, 14, 15, 16] (by decide +kernel) (by decide +kernel)
set_option maxRecDepth 20000 in
theorem gX5_isWord_J0_length_8abf5 : GoodIn wsX5_isWord (wsV RX5 195 RJ0 yJ0_length_8abf5 wsJ0_length_8abf5) := goodIn_app (goodIn_of _ (by decide +kernel)) ggX5_isWord_J0_length_8abf5
set_option maxRecDepth 20000 in
theorem ggX5_isWord_J0_charAt_5068e : GoodIn wsX5_isWord wsJ0_charAt_5068e := goodIn_r _ [20, 10, 21, 22, 23, 8, 24, 15, 16, 25, 26, 27, 28, 29, 30, 31, 32, 33, 34, 35, 36, 37, 38, 39, 40, 41, 42, 43, 44, 45, 46, 47, 48, 49, 50, 51, 52, 53] (by decide +kernel) (by decide +kernel)
set_option maxRecDepth 20000 in
theorem gX5_isWord_J0_charAt_5068e : GoodIn wsX5_isWord (wsV RX5 200 RJ0 yJ0_charAt_5068e wsJ0_charAt_5068e) := goodIn_app (goodIn_of _ (by decide +kernel)) ggX5_isWord_J0_charAt_5068e
theorem dX5_isWord_0 : decode cX5_isWord 0 = .ok (.aload_n 0, 1) := by decide +kernel
theorem dX5_isWord_1 : decode cX5_isWord 1 = .ok (.getfield 191, 3) := by decide +kernel
theorem dX5_isWord_4 : decode cX5_isWord 4 = .ok (.ifCond .ne 23, 3) := by decide +kernel
theorem dX5_isWord_7 : decode cX5_isWord 7 = .ok (.aload_n 0, 1) := by decide +kernel
theorem dX5_isWord_8 : decode cX5_isWord 8 = .ok (.getfield 182, 3) := by decide +kernel
theorem dX5_isWord_11 : decode cX5_isWord 11 = .ok (.aload_n 0, 1) := by decide +kernel
theorem dX5_isWord_12 : decode cX5_isWord 12 = .ok (.getfield 185, 3) := by decide +kernel
theorem dX5_isWord_15 : decode cX5_isWord 15 = .ok (.isub, 1) := by decide +kernel
theorem dX5_isWord_16 : decode cX5_isWord 16 = .ok (.aload_n 1, 1) := by decide +kernel
theorem dX5_isWord_17 : decode cX5_isWord 17 = .ok (.invokevirtual 195, 3) := by decide +kernel
theorem dX5_isWord_20 : decode cX5_isWord 20 = .ok (.if_icmp .ne 7, 3) := by decide +kernel
theorem dX5_isWord_23 : decode cX5_isWord 23 = .ok (.iconst 1, 1) := by decide +kernel
theorem dX5_isWord_24 : decode cX5_isWord 24 = .ok (.goto 4, 3) := by decide +kernel
theorem dX5_isWord_27 : decode cX5_isWord 27 = .ok (.iconst 0, 1) := by decide +kernel
theorem dX5_isWord_28 : decode cX5_isWord 28 = .ok (.istore_n 2, 1) := by decide +kernel
theorem dX5_isWord_29 : decode cX5_isWord 29 = .ok (.iconst 0, 1) := by decide +kernel
theorem dX5_isWord_30 : decode cX5_isWord 30 = .ok (.istore_n 3, 1) := by decide +kernel
theorem dX5_isWord_31 : decode cX5_isWord 31 = .ok (.iload_n 2, 1) := by decide +kernel
theorem dX5_isWord_32 : decode cX5_isWord 32 = .ok (.ifCond .eq 42, 3) := by decide +kernel
theorem dX5_isWord_35 : decode cX5_isWord 35 = .ok (.iload_n 3, 1) := by decide +kernel
theorem dX5_isWord_36 : decode cX5_isWord 36 = .ok (.aload_n 1, 1) := by decide +kernel
theorem dX5_isWord_37 : decode cX5_isWord 37 = .ok (.invokevirtual 195, 3) := by decide +kernel
theorem dX5_isWord_40 : decode cX5_isWord 40 = .ok (.if_icmp .ge 34, 3) := by decide +kernel
theorem dX5_isWord_43 : decode cX5_isWord 43 = .ok (.aload_n 0, 1) := by decide +kernel
theorem dX5_isWord_44 : decode cX5_isWord 44 = .ok (.getfield 22, 3) := by decide +kernel
theorem dX5_isWord_47 : decode cX5_isWord 47 = .ok (.aload_n 0, 1) := by decide +kernel
theorem dX5_isWord_48 : decode cX5_isWord 48 = .ok (.getfield 185, 3) := by decide +kernel
theorem dX5_isWord_51 : decode cX5_isWord 51 = .ok (.iload_n 3, 1) := by decide +kernel
theorem dX5_isWord_52 : decode cX5_isWord 52 = .ok (.iadd, 1) := by decide +kernel
theorem dX5_isWord_53 : decode cX5_isWord 53 = .ok (.iaload, 1) := by decide +kernel
theorem dX5_isWord_54 : decode cX5_isWord 54 = .ok (.aload_n 1, 1) := by decide +kernel
theorem dX5_isWord_55 : decode cX5_isWord 55 = .ok (.iload_n 3, 1) := by decide +kernel
theorem dX5_isWord_56 : decode cX5_isWord 56 = .ok (.invokevirtual 200, 3) := by decide +kernel
theorem dX5_isWord_59 : decode cX5_isWord 59 = .ok (.if_icmp .ne 7, 3) := by decide +kernel
theorem dX5_isWord_62 : decode cX5_isWord 62 = .ok (.iconst 1, 1) := by decide +kernel
theorem dX5_isWord_63 : decode cX5_isWord 63 = .ok (.goto 4, 3) := by decide +kernel
theorem dX5_isWord_66 : decode cX5_isWord 66 = .ok (.iconst 0, 1) := by decide +kernel
theorem dX5_isWord_67 : decode cX5_isWord 67 = .ok (.istore_n 2, 1) := by decide +kernel
theorem dX5_isWord_68 : decode cX5_isWord 68 = .ok (.iinc 3 1, 3) := by decide +kernel
theorem dX5_isWord_71 : decode cX5_isWord 71 = .ok (.goto (-40), 3) := by decide +kernel
theorem dX5_isWord_74 : decode cX5_isWord 74 = .ok (.iload_n 2, 1) := by decide +kernel
theorem dX5_isWord_75 : decode cX5_isWord 75 = .ok (.ireturn, 1) := by decide +kernel
set_option maxRecDepth 20000 in
theorem ggX5_takes_X5_isWord : GoodIn wsX5_takes wsX5_isWord := goodIn_r _ [5, 6, 7, 8, 9, 10, 11, 12, 13, 14, 15, 16, 17, 18, 19, 20, 21, 22, 23, 24, 25, 26, 27, 28, 29, 30, 31, 32, 33, 34, 35, 36, 37, 38, 39, 40, 41, 42, 43, 44, 45, 46, 47, 48, 49, 50, 51, 52, 53, 54, 55, 56, 57, 58, 71, 72, 73, 74, 75, 76, 77, 78, 79, 80, 81, 82, 83, 84, 85, 86, 87] (by decide +kernel) (by decide +kernel)
set_option maxRecDepth 20000 in
theorem gX5_takes_X5_isWord : GoodIn wsX5_takes (wsV RX5 204 RX5 yX5_isWord wsX5_isWord) := goodIn_app (goodIn_of _ (by decide +kernel)) ggX5_takes_X5_isWord
set_option maxRecDepth 20000 in
theorem ggX5_takes_X5_next : GoodIn wsX5_takes wsX5_next := goodIn_r _ [62, 7, 8, 63, 64, 65, 66, 4, 67, 9, 68, 69, 70, 71, 72, 73, 74, 75, 76, 77, 78, 79, 80, 81, 82, 83, 84, 85, 86, 87] (by decide +kernel) (by decide +kernel)
set_option maxRecDepth 20000 in
theorem gX5_takes_X5_next : GoodIn wsX5_takes (wsV RX5 208 RX5 yX5_next wsX5_next) := goodIn_app (goodIn_of _ (by decide +kernel)) ggX5_takes_X5_next
theorem dX5_takes_0 : decode cX5_takes 0 = .ok (.aload_n 0, 1) := by decide +kernel
theorem dX5_takes_1 : decode cX5_takes 1 = .ok (.aload_n 1, 1) := by decide +kernel
theorem dX5_takes_2 : decode cX5_takes 2 = .ok (.invokevirtual 204, 3) := by decide +kernel
theorem dX5_takes_5 : decode cX5_takes 5 = .ok (.istore_n 2, 1) := by decide +kernel
theorem dX5_takes_6 : decode cX5_takes 6 = .ok (.iload_n 2, 1) := by decide +kernel
theorem dX5_takes_7 : decode cX5_takes 7 = .ok (.ifCond .eq 7, 3) := by decide +kernel
theorem dX5_takes_10 : decode cX5_takes 10 = .ok (.aload_n 0, 1) := by decide +kernel
theorem dX5_takes_11 : decode cX5_takes 11 = .ok (.invokevirtual 208, 3) := by decide +kernel
theorem dX5_takes_14 : decode cX5_takes 14 = .ok (.iload_n 2, 1) := by decide +kernel
theorem dX5_takes_15 : decode cX5_takes 15 = .ok (.ireturn, 1) := by decide +kernel
set_option maxRecDepth 20000 in
theorem ggX5_wants_X5_isWord : GoodIn wsX5_wants wsX5_isWord := goodIn_r _ [6, 1, 7, 8, 9, 10, 11, 12, 13, 14, 15, 16, 17, 18, 19, 20, 21, 22, 23, 24, 25, 26, 27, 28, 29, 30, 31, 32, 33, 34, 35, 36, 37, 38, 39, 40, 41, 42, 43, 44, 45, 46, 47, 48, 49, 50, 51, 52, 53, 54, 55, 56, 57, 58, 71, 72, 73, 74, 75, 76, 77, 78, 79, 80, 81, 82, 83, 84, 85, 86, 87] (by decide +kernel) (by decide +kernel)
set_option maxRecDepth 20000 in
theorem gX5_wants_X5_isWord : GoodIn wsX5_wants (wsV RX5 204 RX5 yX5_isWord wsX5_isWord) := goodIn_app (goodIn_of _ (by decide +kernel)) ggX5_wants_X5_isWord
set_option maxRecDepth 20000 in
theorem ggX5_wants_X5_next : GoodIn wsX5_wants wsX5_next := goodIn_r _ [62, 7, 8, 63, 64, 65, 66, 5, 67, 9, 68, 69, 70, 71, 72, 73, 74, 75, 76, 77, 78, 79, 80, 81, 82, 83, 84, 85, 86, 87] (by decide +kernel) (by decide +kernel)
set_option maxRecDepth 20000 in
theorem gX5_wants_X5_next : GoodIn wsX5_wants (wsV RX5 208 RX5 yX5_next wsX5_next) := goodIn_app (goodIn_of _ (by decide +kernel)) ggX5_wants_X5_next
theorem dX5_wants_0 : decode cX5_wants 0 = .ok (.aload_n 0, 1) := by decide +kernel
theorem dX5_wants_1 : decode cX5_wants 1 = .ok (.aload_n 0, 1) := by decide +kernel
theorem dX5_wants_2 : decode cX5_wants 2 = .ok (.getfield 191, 3) := by decide +kernel
theorem dX5_wants_5 : decode cX5_wants 5 = .ok (.ifCond .ne 11, 3) := by decide +kernel
theorem dX5_wants_8 : decode cX5_wants 8 = .ok (.aload_n 0, 1) := by decide +kernel
theorem dX5_wants_9 : decode cX5_wants 9 = .ok (.aload_n 1, 1) := by decide +kernel
theorem dX5_wants_10 : decode cX5_wants 10 = .ok (.invokevirtual 204, 3) := by decide +kernel
theorem dX5_wants_13 : decode cX5_wants 13 = .ok (.ifCond .ne 7, 3) := by decide +kernel
theorem dX5_wants_16 : decode cX5_wants 16 = .ok (.iconst 1, 1) := by decide +kernel
theorem dX5_wants_17 : decode cX5_wants 17 = .ok (.goto 4, 3) := by decide +kernel
theorem dX5_wants_20 : decode cX5_wants 20 = .ok (.iconst 0, 1) := by decide +kernel
theorem dX5_wants_21 : decode cX5_wants 21 = .ok (.putfield 191, 3) := by decide +kernel
theorem dX5_wants_24 : decode cX5_wants 24 = .ok (.aload_n 0, 1) := by decide +kernel
theorem dX5_wants_25 : decode cX5_wants 25 = .ok (.getfield 191, 3) := by decide +kernel
theorem dX5_wants_28 : decode cX5_wants 28 = .ok (.ifCond .ne 7, 3) := by decide +kernel
theorem dX5_wants_31 : decode cX5_wants 31 = .ok (.aload_n 0, 1) := by decide +kernel
theorem dX5_wants_32 : decode cX5_wants 32 = .ok (.invokevirtual 208, 3) := by decide +kernel
theorem dX5_wants_35 : decode cX5_wants 35 = .ok (.return_, 1) := by decide +kernel
set_option maxRecDepth 20000 in
theorem ggX5_numberHere_X5_isByte : GoodIn wsX5_numberHere wsX5_isByte := goodIn_r _ [8, 9, 3, 10, 11, 7, 12, 13, 14, 15, 16, 17, 18, 19, 20, 21, 22, 23, 24, 25, 26, 27, 28, 29] (by decide +kernel) (by decide +kernel)
set_option maxRecDepth 20000 in
theorem gX5_numberHere_X5_isByte : GoodIn wsX5_numberHere (wsV RX5 188 RX5 yX5_isByte wsX5_isByte) := goodIn_app (goodIn_of _ (by decide +kernel)) ggX5_numberHere_X5_isByte
theorem dX5_numberHere_0 : decode cX5_numberHere 0 = .ok (.aload_n 0, 1) := by decide +kernel
theorem dX5_numberHere_1 : decode cX5_numberHere 1 = .ok (.aload_n 0, 1) := by decide +kernel
theorem dX5_numberHere_2 : decode cX5_numberHere 2 = .ok (.getfield 185, 3) := by decide +kernel
theorem dX5_numberHere_5 : decode cX5_numberHere 5 = .ok (.bipush 48, 2) := by decide +kernel
theorem dX5_numberHere_7 : decode cX5_numberHere 7 = .ok (.bipush 57, 2) := by decide +kernel
theorem dX5_numberHere_9 : decode cX5_numberHere 9 = .ok (.invokevirtual 188, 3) := by decide +kernel
theorem dX5_numberHere_12 : decode cX5_numberHere 12 = .ok (.ifCond .eq 7, 3) := by decide +kernel
theorem dX5_numberHere_15 : decode cX5_numberHere 15 = .ok (.iconst 0, 1) := by decide +kernel
theorem dX5_numberHere_16 : decode cX5_numberHere 16 = .ok (.goto 4, 3) := by decide +kernel
theorem dX5_numberHere_19 : decode cX5_numberHere 19 = .ok (.iconst (-1), 1) := by decide +kernel
theorem dX5_numberHere_20 : decode cX5_numberHere 20 = .ok (.istore_n 1, 1) := by decide +kernel
theorem dX5_numberHere_21 : decode cX5_numberHere 21 = .ok (.aload_n 0, 1) := by decide +kernel
theorem dX5_numberHere_22 : decode cX5_numberHere 22 = .ok (.getfield 185, 3) := by decide +kernel
theorem dX5_numberHere_25 : decode cX5_numberHere 25 = .ok (.istore_n 2, 1) := by decide +kernel
theorem dX5_numberHere_26 : decode cX5_numberHere 26 = .ok (.iload_n 2, 1) := by decide +kernel
theorem dX5_numberHere_27 : decode cX5_numberHere 27 = .ok (.aload_n 0, 1) := by decide +kernel
theorem dX5_numberHere_28 : decode cX5_numberHere 28 = .ok (.getfield 182, 3) := by decide +kernel
theorem dX5_numberHere_31 : decode cX5_numberHere 31 = .ok (.if_icmp .ge 39, 3) := by decide +kernel
theorem dX5_numberHere_34 : decode cX5_numberHere 34 = .ok (.iload_n 1, 1) := by decide +kernel
theorem dX5_numberHere_35 : decode cX5_numberHere 35 = .ok (.ifCond .lt 35, 3) := by decide +kernel
theorem dX5_numberHere_38 : decode cX5_numberHere 38 = .ok (.iload_n 1, 1) := by decide +kernel
theorem dX5_numberHere_39 : decode cX5_numberHere 39 = .ok (.sipush 999, 3) := by decide +kernel
theorem dX5_numberHere_42 : decode cX5_numberHere 42 = .ok (.if_icmp .le 7, 3) := by decide +kernel
theorem dX5_numberHere_45 : decode cX5_numberHere 45 = .ok (.iload_n 1, 1) := by decide +kernel
theorem dX5_numberHere_46 : decode cX5_numberHere 46 = .ok (.goto 17, 3) := by decide +kernel
theorem dX5_numberHere_49 : decode cX5_numberHere 49 = .ok (.bipush 10, 2) := by decide +kernel
theorem dX5_numberHere_51 : decode cX5_numberHere 51 = .ok (.iload_n 1, 1) := by decide +kernel
theorem dX5_numberHere_52 : decode cX5_numberHere 52 = .ok (.imul, 1) := by decide +kernel
theorem dX5_numberHere_53 : decode cX5_numberHere 53 = .ok (.aload_n 0, 1) := by decide +kernel
theorem dX5_numberHere_54 : decode cX5_numberHere 54 = .ok (.getfield 22, 3) := by decide +kernel
theorem dX5_numberHere_57 : decode cX5_numberHere 57 = .ok (.iload_n 2, 1) := by decide +kernel
theorem dX5_numberHere_58 : decode cX5_numberHere 58 = .ok (.iaload, 1) := by decide +kernel
theorem dX5_numberHere_59 : decode cX5_numberHere 59 = .ok (.iadd, 1) := by decide +kernel
theorem dX5_numberHere_60 : decode cX5_numberHere 60 = .ok (.bipush 48, 2) := by decide +kernel
theorem dX5_numberHere_62 : decode cX5_numberHere 62 = .ok (.isub, 1) := by decide +kernel
theorem dX5_numberHere_63 : decode cX5_numberHere 63 = .ok (.istore_n 1, 1) := by decide +kernel
theorem dX5_numberHere_64 : decode cX5_numberHere 64 = .ok (.iinc 2 1, 3) := by decide +kernel
theorem dX5_numberHere_67 : decode cX5_numberHere 67 = .ok (.goto (-41), 3) := by decide +kernel
theorem dX5_numberHere_70 : decode cX5_numberHere 70 = .ok (.iload_n 1, 1) := by decide +kernel
theorem dX5_numberHere_71 : decode cX5_numberHere 71 = .ok (.ireturn, 1) := by decide +kernel
set_option maxRecDepth 20000 in
theorem ggX5_number_X5_numberHere : GoodIn wsX5_number wsX5_numberHere := goodIn_r _ [6, 7, 8, 9, 10, 11, 12, 5, 13, 14, 15, 16, 17, 22, 23, 24, 25, 26, 27, 28, 29, 30, 31, 32, 33, 34, 35, 36, 37, 38] (by decide +kernel) (by decide +kernel)
set_option maxRecDepth 20000 in
theorem gX5_number_X5_numberHere : GoodIn wsX5_number (wsV RX5 211 RX5 yX5_numberHere wsX5_numberHere) := goodIn_app (goodIn_of _ (by decide +kernel)) ggX5_number_X5_numberHere
set_option maxRecDepth 20000 in
theorem ggX5_number_X5_within : GoodIn wsX5_number wsX5_within := goodIn_r _ [17] (by decide +kernel) (by decide +kernel)
set_option maxRecDepth 20000 in
theorem gX5_number_X5_within : GoodIn wsX5_number (va_wsS RX5 44 yX5_within wsX5_within) := goodIn_app (goodIn_of _ (by decide +kernel)) ggX5_number_X5_within
set_option maxRecDepth 20000 in
theorem ggX5_number_X5_next : GoodIn wsX5_number wsX5_next := goodIn_r _ [21, 8, 7, 14, 10, 11, 12, 5, 13, 9, 15, 16, 17, 22, 23, 24, 25, 26, 27, 28, 29, 30, 31, 32, 33, 34, 35, 36, 37, 38] (by decide +kernel) (by decide +kernel)
set_option maxRecDepth 20000 in
theorem gX5_number_X5_next : GoodIn wsX5_number (wsV RX5 208 RX5 yX5_next wsX5_next) := goodIn_app (goodIn_of _ (by decide +kernel)) ggX5_number_X5_next
theorem dX5_number_0 : decode cX5_number 0 = .ok (.aload_n 0, 1) := by decide +kernel
theorem dX5_number_1 : decode cX5_number 1 = .ok (.invokevirtual 211, 3) := by decide +kernel
theorem dX5_number_4 : decode cX5_number 4 = .ok (.istore_n 2, 1) := by decide +kernel
theorem dX5_number_5 : decode cX5_number 5 = .ok (.aload_n 0, 1) := by decide +kernel
theorem dX5_number_6 : decode cX5_number 6 = .ok (.aload_n 0, 1) := by decide +kernel
theorem dX5_number_7 : decode cX5_number 7 = .ok (.getfield 191, 3) := by decide +kernel
theorem dX5_number_10 : decode cX5_number 10 = .ok (.ifCond .ne 12, 3) := by decide +kernel
theorem dX5_number_13 : decode cX5_number 13 = .ok (.iload_n 2, 1) := by decide +kernel
theorem dX5_number_14 : decode cX5_number 14 = .ok (.iconst 0, 1) := by decide +kernel
theorem dX5_number_15 : decode cX5_number 15 = .ok (.iload_n 1, 1) := by decide +kernel
theorem dX5_number_16 : decode cX5_number 16 = .ok (.invokestatic 44, 3) := by decide +kernel
theorem dX5_number_19 : decode cX5_number 19 = .ok (.ifCond .ne 7, 3) := by decide +kernel
theorem dX5_number_22 : decode cX5_number 22 = .ok (.iconst 1, 1) := by decide +kernel
theorem dX5_number_23 : decode cX5_number 23 = .ok (.goto 4, 3) := by decide +kernel
theorem dX5_number_26 : decode cX5_number 26 = .ok (.iconst 0, 1) := by decide +kernel
theorem dX5_number_27 : decode cX5_number 27 = .ok (.putfield 191, 3) := by decide +kernel
theorem dX5_number_30 : decode cX5_number 30 = .ok (.aload_n 0, 1) := by decide +kernel
theorem dX5_number_31 : decode cX5_number 31 = .ok (.getfield 191, 3) := by decide +kernel
theorem dX5_number_34 : decode cX5_number 34 = .ok (.ifCond .ne 7, 3) := by decide +kernel
theorem dX5_number_37 : decode cX5_number 37 = .ok (.aload_n 0, 1) := by decide +kernel
theorem dX5_number_38 : decode cX5_number 38 = .ok (.invokevirtual 208, 3) := by decide +kernel
theorem dX5_number_41 : decode cX5_number 41 = .ok (.iload_n 2, 1) := by decide +kernel
theorem dX5_number_42 : decode cX5_number 42 = .ok (.ireturn, 1) := by decide +kernel
theorem dX5_wordOf_0 : decode cX5_wordOf 0 = .ok (.iload_n 0, 1) := by decide +kernel
theorem dX5_wordOf_1 : decode cX5_wordOf 1 = .ok (.tableswitch 57 0 5 #[39, 42, 45, 48, 51, 54], 39) := by decide +kernel
theorem dX5_wordOf_40 : decode cX5_wordOf 40 = .ok (.ldc 214, 2) := by decide +kernel
theorem dX5_wordOf_42 : decode cX5_wordOf 42 = .ok (.areturn, 1) := by decide +kernel
theorem dX5_wordOf_43 : decode cX5_wordOf 43 = .ok (.ldc 216, 2) := by decide +kernel
theorem dX5_wordOf_45 : decode cX5_wordOf 45 = .ok (.areturn, 1) := by decide +kernel
theorem dX5_wordOf_46 : decode cX5_wordOf 46 = .ok (.ldc 218, 2) := by decide +kernel
theorem dX5_wordOf_48 : decode cX5_wordOf 48 = .ok (.areturn, 1) := by decide +kernel
theorem dX5_wordOf_49 : decode cX5_wordOf 49 = .ok (.ldc 220, 2) := by decide +kernel
theorem dX5_wordOf_51 : decode cX5_wordOf 51 = .ok (.areturn, 1) := by decide +kernel
theorem dX5_wordOf_52 : decode cX5_wordOf 52 = .ok (.ldc 222, 2) := by decide +kernel
theorem dX5_wordOf_54 : decode cX5_wordOf 54 = .ok (.areturn, 1) := by decide +kernel
theorem dX5_wordOf_55 : decode cX5_wordOf 55 = .ok (.ldc 224, 2) := by decide +kernel
theorem dX5_wordOf_57 : decode cX5_wordOf 57 = .ok (.areturn, 1) := by decide +kernel
theorem dX5_wordOf_58 : decode cX5_wordOf 58 = .ok (.ldc 226, 2) := by decide +kernel
theorem dX5_wordOf_60 : decode cX5_wordOf 60 = .ok (.areturn, 1) := by decide +kernel
set_option maxRecDepth 20000 in
theorem ggX5_kindHere_X5_wordOf : GoodIn wsX5_kindHere wsX5_wordOf := goodIn_r _ [4] (by decide +kernel) (by decide +kernel)
set_option maxRecDepth 20000 in
theorem gX5_kindHere_X5_wordOf : GoodIn wsX5_kindHere (va_wsS RX5 228 yX5_wordOf wsX5_wordOf) := goodIn_app (goodIn_of _ (by decide +kernel)) ggX5_kindHere_X5_wordOf
set_option maxRecDepth 20000 in
theorem ggX5_kindHere_X5_isWord : GoodIn wsX5_kindHere wsX5_isWord := goodIn_r _ [8, 9, 10, 11, 12, 13, 14, 15, 16, 17, 18, 19, 20, 21, 22, 23, 24, 25, 26, 27, 28, 29, 30, 31, 32, 33, 34, 35, 36, 37, 38, 39, 40, 41, 42, 43, 44, 45, 46, 47, 48, 49, 50, 51, 52, 53, 54, 55, 56, 57, 58, 59, 60, 61, 62, 63, 64, 65, 66, 67, 68, 69, 70, 71, 72, 73, 74, 75, 76, 77, 78] (by decide +kernel) (by decide +kernel)
set_option maxRecDepth 20000 in
theorem gX5_kindHere_X5_isWord : GoodIn wsX5_kindHere (wsV RX5 204 RX5 yX5_isWord wsX5_isWord) := goodIn_app (goodIn_of _ (by decide +kernel)) ggX5_kindHere_X5_isWord
theorem dX5_kindHere_0 : decode cX5_kindHere 0 = .ok (.bipush 6, 2) := by decide +kernel
theorem dX5_kindHere_2 : decode cX5_kindHere 2 = .ok (.istore_n 1, 1) := by decide +kernel
theorem dX5_kindHere_3 : decode cX5_kindHere 3 = .ok (.iload_n 1, 1) := by decide +kernel
theorem dX5_kindHere_4 : decode cX5_kindHere 4 = .ok (.ifCond .lt 20, 3) := by decide +kernel
theorem dX5_kindHere_7 : decode cX5_kindHere 7 = .ok (.aload_n 0, 1) := by decide +kernel
theorem dX5_kindHere_8 : decode cX5_kindHere 8 = .ok (.iload_n 1, 1) := by decide +kernel
theorem dX5_kindHere_9 : decode cX5_kindHere 9 = .ok (.invokestatic 228, 3) := by decide +kernel
theorem dX5_kindHere_12 : decode cX5_kindHere 12 = .ok (.invokevirtual 204, 3) := by decide +kernel
theorem dX5_kindHere_15 : decode cX5_kindHere 15 = .ok (.ifCond .ne 9, 3) := by decide +kernel
theorem dX5_kindHere_18 : decode cX5_kindHere 18 = .ok (.iinc 1 (-1), 3) := by decide +kernel
theorem dX5_kindHere_21 : decode cX5_kindHere 21 = .ok (.goto (-18), 3) := by decide +kernel
theorem dX5_kindHere_24 : decode cX5_kindHere 24 = .ok (.iload_n 1, 1) := by decide +kernel
theorem dX5_kindHere_25 : decode cX5_kindHere 25 = .ok (.ireturn, 1) := by decide +kernel
set_option maxRecDepth 20000 in
theorem ggX5_shelfTold_X5_number : GoodIn wsX5_shelfTold wsX5_number := goodIn_r _ [5, 6, 7, 8, 9, 4, 10, 11, 12, 13, 14, 15, 16, 17, 18, 19, 20, 21, 22, 23, 24, 25, 26, 27, 28, 29, 30, 31, 32, 33, 34, 35, 36, 37, 38, 39, 40, 41, 42] (by decide +kernel) (by decide +kernel)
set_option maxRecDepth 20000 in
theorem gX5_shelfTold_X5_number : GoodIn wsX5_shelfTold (wsV RX5 232 RX5 yX5_number wsX5_number) := goodIn_app (goodIn_of _ (by decide +kernel)) ggX5_shelfTold_X5_number
theorem dX5_shelfTold_0 : decode cX5_shelfTold 0 = .ok (.aload_n 0, 1) := by decide +kernel
theorem dX5_shelfTold_1 : decode cX5_shelfTold 1 = .ok (.iconst 5, 1) := by decide +kernel
theorem dX5_shelfTold_2 : decode cX5_shelfTold 2 = .ok (.invokevirtual 232, 3) := by decide +kernel
theorem dX5_shelfTold_5 : decode cX5_shelfTold 5 = .ok (.ireturn, 1) := by decide +kernel
set_option maxRecDepth 20000 in
theorem ggX5_deedTold_X5_next : GoodIn wsX5_deedTold wsX5_next := goodIn_r _ [7, 8, 9, 10, 11, 12, 13, 6, 14, 15, 16, 17, 18, 92, 93, 94, 95, 96, 97, 98, 99, 100, 101, 102, 103, 104, 105, 106, 107, 108] (by decide +kernel) (by decide +kernel)
set_option maxRecDepth 20000 in
theorem gX5_deedTold_X5_next : GoodIn wsX5_deedTold (wsV RX5 208 RX5 yX5_next wsX5_next) := goodIn_app (goodIn_of _ (by decide +kernel)) ggX5_deedTold_X5_next
set_option maxRecDepth 20000 in
theorem ggX5_deedTold_X5_shelfTold : GoodIn wsX5_deedTold wsX5_shelfTold := goodIn_r _ [22, 23, 24, 25, 6, 26, 2, 27, 28, 29, 30, 9, 8, 15, 11, 12, 13, 14, 10, 16, 17, 18, 3, 4, 5, 7, 92, 93, 94, 95, 96, 97, 98, 99, 100, 101, 102, 103, 104, 105, 106, 107, 108] (by decide +kernel) (by decide +kernel)
set_option maxRecDepth 20000 in
theorem gX5_deedTold_X5_shelfTold : GoodIn wsX5_deedTold (wsV RX5 234 RX5 yX5_shelfTold wsX5_shelfTold) := goodIn_app (goodIn_of _ (by decide +kernel)) ggX5_deedTold_X5_shelfTold
set_option maxRecDepth 20000 in
theorem ggX5_deedTold_X5_lays : GoodIn wsX5_deedTold wsX5_lays := goodIn_r _ [34, 1, 92, 93, 94, 95, 96, 97, 98, 99, 100, 101, 102, 103, 104, 105, 106, 107, 108] (by decide +kernel) (by decide +kernel)
set_option maxRecDepth 20000 in
theorem gX5_deedTold_X5_lays : GoodIn wsX5_deedTold (wsV RX5 108 RX5 yX5_lays wsX5_lays) := goodIn_app (goodIn_of _ (by decide +kernel)) ggX5_deedTold_X5_lays
set_option maxRecDepth 20000 in
theorem ggX5_deedTold_X5_takes : GoodIn wsX5_deedTold wsX5_takes := goodIn_r _ [38, 39, 40, 41, 6, 42, 2, 8, 9, 15, 43, 44, 45, 46, 47, 48, 49, 50, 51, 52, 53, 54, 55, 56, 57, 58, 59, 60, 61, 62, 63, 64, 65, 66, 67, 68, 69, 70, 71, 72, 73, 74, 75, 76, 77, 78, 79, 80, 81, 82, 83, 84, 85, 86, 87, 88, 89, 90, 91, 3, 4, 5, 7, 10, 11, 12, 13, 14, 16, 17, 18, 92, 93, 94, 95, 96, 97, 98, 99, 100, 101, 102, 103, 104, 105, 106, 107, 108] (by decide +kernel) (by decide +kernel)
set_option maxRecDepth 20000 in
theorem gX5_deedTold_X5_takes : GoodIn wsX5_deedTold (wsV RX5 239 RX5 yX5_takes wsX5_takes) := goodIn_app (goodIn_of _ (by decide +kernel)) ggX5_deedTold_X5_takes
set_option maxRecDepth 20000 in
theorem ggX5_deedTold_X5_numberHere : GoodIn wsX5_deedTold wsX5_numberHere := goodIn_r _ [30, 9, 8, 15, 11, 12, 13, 6, 14, 10, 16, 17, 18, 92, 93, 94, 95, 96, 97, 98, 99, 100, 101, 102, 103, 104, 105, 106, 107, 108] (by decide +kernel) (by decide +kernel)
set_option maxRecDepth 20000 in
theorem gX5_deedTold_X5_numberHere : GoodIn wsX5_deedTold (wsV RX5 211 RX5 yX5_numberHere wsX5_numberHere) := goodIn_app (goodIn_of _ (by decide +kernel)) ggX5_deedTold_X5_numberHere
set_option maxRecDepth 20000 in
theorem ggX5_deedTold_X5_within : GoodIn wsX5_deedTold wsX5_within := goodIn_r _ [18] (by decide +kernel) (by decide +kernel)
set_option maxRecDepth 20000 in
theorem gX5_deedTold_X5_within : GoodIn wsX5_deedTold (va_wsS RX5 44 yX5_within wsX5_within) := goodIn_app (goodIn_of _ (by decide +kernel)) ggX5_deedTold_X5_within
set_option maxRecDepth 20000 in
theorem ggX5_deedTold_X5_number : GoodIn wsX5_deedTold wsX5_number := goodIn_r _ [26, 2, 27, 28, 29, 6, 30, 9, 8, 15, 11, 12, 13, 14, 10, 16, 17, 18, 3, 4, 5, 7, 92, 93, 94, 95, 96, 97, 98, 99, 100, 101, 102, 103, 104, 105, 106, 107, 108] (by decide +kernel) (by decide +kernel)
set_option maxRecDepth 20000 in
theorem gX5_deedTold_X5_number : GoodIn wsX5_deedTold (wsV RX5 232 RX5 yX5_number wsX5_number) := goodIn_app (goodIn_of _ (by decide +kernel)) ggX5_deedTold_X5_number
theorem dX5_deedTold_0 : decode cX5_deedTold 0 = .ok (.aload_n 0, 1) := by decide +kernel
theorem dX5_deedTold_1 : decode cX5_deedTold 1 = .ok (.aload_n 0, 1) := by decide +kernel
theorem dX5_deedTold_2 : decode cX5_deedTold 2 = .ok (.getfield 9, 3) := by decide +kernel
theorem dX5_deedTold_5 : decode cX5_deedTold 5 = .ok (.iconst 0, 1) := by decide +kernel
theorem dX5_deedTold_6 : decode cX5_deedTold 6 = .ok (.iaload, 1) := by decide +kernel
theorem dX5_deedTold_7 : decode cX5_deedTold 7 = .ok (.bipush 8, 2) := by decide +kernel
theorem dX5_deedTold_9 : decode cX5_deedTold 9 = .ok (.if_icmp .ne 7, 3) := by decide +kernel
theorem dX5_deedTold_12 : decode cX5_deedTold 12 = .ok (.iconst 1, 1) := by decide +kernel
theorem dX5_deedTold_13 : decode cX5_deedTold 13 = .ok (.goto 4, 3) := by decide +kernel
theorem dX5_deedTold_16 : decode cX5_deedTold 16 = .ok (.iconst 0, 1) := by decide +kernel
theorem dX5_deedTold_17 : decode cX5_deedTold 17 = .ok (.putfield 191, 3) := by decide +kernel
theorem dX5_deedTold_20 : decode cX5_deedTold 20 = .ok (.aload_n 0, 1) := by decide +kernel
theorem dX5_deedTold_21 : decode cX5_deedTold 21 = .ok (.getfield 191, 3) := by decide +kernel
theorem dX5_deedTold_24 : decode cX5_deedTold 24 = .ok (.ifCond .eq 4, 3) := by decide +kernel
theorem dX5_deedTold_27 : decode cX5_deedTold 27 = .ok (.return_, 1) := by decide +kernel
theorem dX5_deedTold_28 : decode cX5_deedTold 28 = .ok (.aload_n 0, 1) := by decide +kernel
theorem dX5_deedTold_29 : decode cX5_deedTold 29 = .ok (.invokevirtual 208, 3) := by decide +kernel
theorem dX5_deedTold_32 : decode cX5_deedTold 32 = .ok (.aload_n 0, 1) := by decide +kernel
theorem dX5_deedTold_33 : decode cX5_deedTold 33 = .ok (.invokevirtual 234, 3) := by decide +kernel
theorem dX5_deedTold_36 : decode cX5_deedTold 36 = .ok (.istore_n 2, 1) := by decide +kernel
theorem dX5_deedTold_37 : decode cX5_deedTold 37 = .ok (.aload_n 0, 1) := by decide +kernel
theorem dX5_deedTold_38 : decode cX5_deedTold 38 = .ok (.getfield 191, 3) := by decide +kernel
theorem dX5_deedTold_41 : decode cX5_deedTold 41 = .ok (.ifCond .eq 4, 3) := by decide +kernel
theorem dX5_deedTold_44 : decode cX5_deedTold 44 = .ok (.return_, 1) := by decide +kernel
theorem dX5_deedTold_45 : decode cX5_deedTold 45 = .ok (.aload_n 0, 1) := by decide +kernel
theorem dX5_deedTold_46 : decode cX5_deedTold 46 = .ok (.getfield 9, 3) := by decide +kernel
theorem dX5_deedTold_49 : decode cX5_deedTold 49 = .ok (.iconst 0, 1) := by decide +kernel
theorem dX5_deedTold_50 : decode cX5_deedTold 50 = .ok (.iaload, 1) := by decide +kernel
theorem dX5_deedTold_51 : decode cX5_deedTold 51 = .ok (.istore_n 3, 1) := by decide +kernel
theorem dX5_deedTold_52 : decode cX5_deedTold 52 = .ok (.aload_n 0, 1) := by decide +kernel
theorem dX5_deedTold_53 : decode cX5_deedTold 53 = .ok (.iload_n 1, 1) := by decide +kernel
theorem dX5_deedTold_54 : decode cX5_deedTold 54 = .ok (.iload_n 2, 1) := by decide +kernel
theorem dX5_deedTold_55 : decode cX5_deedTold 55 = .ok (.invokevirtual 108, 3) := by decide +kernel
theorem dX5_deedTold_58 : decode cX5_deedTold 58 = .ok (.aload_n 0, 1) := by decide +kernel
theorem dX5_deedTold_59 : decode cX5_deedTold 59 = .ok (.ldc 237, 2) := by decide +kernel
theorem dX5_deedTold_61 : decode cX5_deedTold 61 = .ok (.invokevirtual 239, 3) := by decide +kernel
theorem dX5_deedTold_64 : decode cX5_deedTold 64 = .ok (.ifCond .eq 44, 3) := by decide +kernel
theorem dX5_deedTold_67 : decode cX5_deedTold 67 = .ok (.aload_n 0, 1) := by decide +kernel
theorem dX5_deedTold_68 : decode cX5_deedTold 68 = .ok (.invokevirtual 211, 3) := by decide +kernel
theorem dX5_deedTold_71 : decode cX5_deedTold 71 = .ok (.istore 4, 2) := by decide +kernel
theorem dX5_deedTold_73 : decode cX5_deedTold 73 = .ok (.aload_n 0, 1) := by decide +kernel
theorem dX5_deedTold_74 : decode cX5_deedTold 74 = .ok (.iload 4, 2) := by decide +kernel
theorem dX5_deedTold_76 : decode cX5_deedTold 76 = .ok (.iconst 1, 1) := by decide +kernel
theorem dX5_deedTold_77 : decode cX5_deedTold 77 = .ok (.bipush 99, 2) := by decide +kernel
theorem dX5_deedTold_79 : decode cX5_deedTold 79 = .ok (.invokestatic 44, 3) := by decide +kernel
theorem dX5_deedTold_82 : decode cX5_deedTold 82 = .ok (.ifCond .ne 7, 3) := by decide +kernel
theorem dX5_deedTold_85 : decode cX5_deedTold 85 = .ok (.iconst 1, 1) := by decide +kernel
theorem dX5_deedTold_86 : decode cX5_deedTold 86 = .ok (.goto 4, 3) := by decide +kernel
theorem dX5_deedTold_89 : decode cX5_deedTold 89 = .ok (.iconst 0, 1) := by decide +kernel
theorem dX5_deedTold_90 : decode cX5_deedTold 90 = .ok (.putfield 191, 3) := by decide +kernel
theorem dX5_deedTold_93 : decode cX5_deedTold 93 = .ok (.aload_n 0, 1) := by decide +kernel
theorem dX5_deedTold_94 : decode cX5_deedTold 94 = .ok (.getfield 9, 3) := by decide +kernel
theorem dX5_deedTold_97 : decode cX5_deedTold 97 = .ok (.bipush 48, 2) := by decide +kernel
theorem dX5_deedTold_99 : decode cX5_deedTold 99 = .ok (.iload_n 3, 1) := by decide +kernel
theorem dX5_deedTold_100 : decode cX5_deedTold 100 = .ok (.iadd, 1) := by decide +kernel
theorem dX5_deedTold_101 : decode cX5_deedTold 101 = .ok (.aload_n 0, 1) := by decide +kernel
theorem dX5_deedTold_102 : decode cX5_deedTold 102 = .ok (.bipush 99, 2) := by decide +kernel
theorem dX5_deedTold_104 : decode cX5_deedTold 104 = .ok (.invokevirtual 232, 3) := by decide +kernel
theorem dX5_deedTold_107 : decode cX5_deedTold 107 = .ok (.iastore, 1) := by decide +kernel
theorem dX5_deedTold_108 : decode cX5_deedTold 108 = .ok (.aload_n 0, 1) := by decide +kernel
theorem dX5_deedTold_109 : decode cX5_deedTold 109 = .ok (.ldc 242, 2) := by decide +kernel
theorem dX5_deedTold_111 : decode cX5_deedTold 111 = .ok (.invokevirtual 239, 3) := by decide +kernel
theorem dX5_deedTold_114 : decode cX5_deedTold 114 = .ok (.ifCond .eq 19, 3) := by decide +kernel
theorem dX5_deedTold_117 : decode cX5_deedTold 117 = .ok (.aload_n 0, 1) := by decide +kernel
theorem dX5_deedTold_118 : decode cX5_deedTold 118 = .ok (.getfield 9, 3) := by decide +kernel
theorem dX5_deedTold_121 : decode cX5_deedTold 121 = .ok (.bipush 72, 2) := by decide +kernel
theorem dX5_deedTold_123 : decode cX5_deedTold 123 = .ok (.iload_n 3, 1) := by decide +kernel
theorem dX5_deedTold_124 : decode cX5_deedTold 124 = .ok (.iadd, 1) := by decide +kernel
theorem dX5_deedTold_125 : decode cX5_deedTold 125 = .ok (.aload_n 0, 1) := by decide +kernel
theorem dX5_deedTold_126 : decode cX5_deedTold 126 = .ok (.iload_n 3, 1) := by decide +kernel
theorem dX5_deedTold_127 : decode cX5_deedTold 127 = .ok (.iconst 1, 1) := by decide +kernel
theorem dX5_deedTold_128 : decode cX5_deedTold 128 = .ok (.isub, 1) := by decide +kernel
theorem dX5_deedTold_129 : decode cX5_deedTold 129 = .ok (.invokevirtual 232, 3) := by decide +kernel
theorem dX5_deedTold_132 : decode cX5_deedTold 132 = .ok (.iastore, 1) := by decide +kernel
theorem dX5_deedTold_133 : decode cX5_deedTold 133 = .ok (.return_, 1) := by decide +kernel
set_option maxRecDepth 20000 in
theorem ggX5_either_X5_takes : GoodIn wsX5_either wsX5_takes := goodIn_r _ [5, 6, 7, 8, 4, 9, 10, 11, 12, 13, 14, 15, 16, 17, 18, 19, 20, 21, 22, 23, 24, 25, 26, 27, 28, 29, 30, 31, 32, 33, 34, 35, 36, 37, 38, 39, 40, 41, 42, 43, 44, 45, 46, 47, 48, 49, 50, 51, 52, 53, 54, 55, 56, 57, 58, 59, 60, 61, 62, 63, 64, 65, 66, 67, 68, 69, 70, 71, 72, 73, 74, 79, 80, 81, 82, 83, 84, 85, 86, 87, 88, 89, 90, 91, 92, 93, 94, 95] (by decide +kernel) (by decide +kernel)
set_option maxRecDepth 20000 in
theorem gX5_either_X5_takes : GoodIn wsX5_either (wsV RX5 239 RX5 yX5_takes wsX5_takes) := goodIn_app (goodIn_of _ (by decide +kernel)) ggX5_either_X5_takes
set_option maxRecDepth 20000 in
theorem ggX5_either_X5_wants : GoodIn wsX5_either wsX5_wants := goodIn_r _ [78, 10, 6, 7, 8, 4, 9, 11, 12, 13, 14, 15, 16, 17, 18, 19, 20, 21, 22, 23, 24, 25, 26, 27, 28, 29, 30, 31, 32, 33, 34, 35, 36, 37, 38, 39, 40, 41, 42, 43, 44, 45, 46, 47, 48, 49, 50, 51, 52, 53, 54, 55, 56, 57, 58, 59, 60, 61, 62, 63, 64, 65, 66, 67, 68, 69, 70, 71, 72, 73, 74, 79, 80, 81, 82, 83, 84, 85, 86, 87, 88, 89, 90, 91, 92, 93, 94, 95] (by decide +kernel) (by decide +kernel)
set_option maxRecDepth 20000 in
theorem gX5_either_X5_wants : GoodIn wsX5_either (wsV RX5 244 RX5 yX5_wants wsX5_wants) := goodIn_app (goodIn_of _ (by decide +kernel)) ggX5_either_X5_wants
theorem dX5_either_0 : decode cX5_either 0 = .ok (.aload_n 0, 1) := by decide +kernel
theorem dX5_either_1 : decode cX5_either 1 = .ok (.aload_n 1, 1) := by decide +kernel
theorem dX5_either_2 : decode cX5_either 2 = .ok (.invokevirtual 239, 3) := by decide +kernel
theorem dX5_either_5 : decode cX5_either 5 = .ok (.istore_n 3, 1) := by decide +kernel
theorem dX5_either_6 : decode cX5_either 6 = .ok (.iload_n 3, 1) := by decide +kernel
theorem dX5_either_7 : decode cX5_either 7 = .ok (.ifCond .ne 8, 3) := by decide +kernel
theorem dX5_either_10 : decode cX5_either 10 = .ok (.aload_n 0, 1) := by decide +kernel
theorem dX5_either_11 : decode cX5_either 11 = .ok (.aload_n 2, 1) := by decide +kernel
theorem dX5_either_12 : decode cX5_either 12 = .ok (.invokevirtual 244, 3) := by decide +kernel
theorem dX5_either_15 : decode cX5_either 15 = .ok (.iload_n 3, 1) := by decide +kernel
theorem dX5_either_16 : decode cX5_either 16 = .ok (.ifCond .eq 7, 3) := by decide +kernel
theorem dX5_either_19 : decode cX5_either 19 = .ok (.iconst 1, 1) := by decide +kernel
theorem dX5_either_20 : decode cX5_either 20 = .ok (.goto 4, 3) := by decide +kernel
theorem dX5_either_23 : decode cX5_either 23 = .ok (.iconst 0, 1) := by decide +kernel
theorem dX5_either_24 : decode cX5_either 24 = .ok (.ireturn, 1) := by decide +kernel
set_option maxRecDepth 20000 in
theorem ggX5_shelfItem_X5_shelfTold : GoodIn wsX5_shelfItem wsX5_shelfTold := goodIn_r _ [7, 8, 9, 10, 6, 11, 1, 12, 13, 14, 15, 16, 17, 18, 19, 20, 21, 22, 23, 24, 25, 26, 27, 28, 29, 30, 96, 97, 98, 99, 100, 101, 102, 103, 104, 105, 106, 107, 108, 109, 110, 111, 112] (by decide +kernel) (by decide +kernel)
set_option maxRecDepth 20000 in
theorem gX5_shelfItem_X5_shelfTold : GoodIn wsX5_shelfItem (wsV RX5 234 RX5 yX5_shelfTold wsX5_shelfTold) := goodIn_app (goodIn_of _ (by decide +kernel)) ggX5_shelfItem_X5_shelfTold
set_option maxRecDepth 20000 in
theorem ggX5_shelfItem_X5_number : GoodIn wsX5_shelfItem wsX5_number := goodIn_r _ [11, 1, 12, 13, 14, 6, 15, 16, 17, 18, 19, 20, 21, 22, 23, 24, 25, 26, 27, 28, 29, 30, 96, 97, 98, 99, 100, 101, 102, 103, 104, 105, 106, 107, 108, 109, 110, 111, 112] (by decide +kernel) (by decide +kernel)
set_option maxRecDepth 20000 in
theorem gX5_shelfItem_X5_number : GoodIn wsX5_shelfItem (wsV RX5 232 RX5 yX5_number wsX5_number) := goodIn_app (goodIn_of _ (by decide +kernel)) ggX5_shelfItem_X5_number
set_option maxRecDepth 20000 in
theorem ggX5_shelfItem_X5_either : GoodIn wsX5_shelfItem wsX5_either := goodIn_r _ [34, 35, 36, 37, 6, 38, 39, 40, 41, 42, 1, 17, 16, 18, 43, 44, 45, 46, 47, 48, 49, 50, 51, 52, 53, 54, 55, 56, 57, 58, 59, 60, 61, 62, 63, 64, 65, 66, 67, 68, 69, 70, 71, 72, 73, 74, 75, 76, 77, 78, 79, 80, 81, 82, 83, 84, 85, 86, 87, 88, 89, 90, 91, 27, 28, 29, 30, 23, 19, 20, 21, 22, 24, 25, 26, 92, 93, 94, 95, 96, 97, 98, 99, 100, 101, 102, 103, 104, 105, 106, 107, 108, 109, 110, 111, 112] (by decide +kernel) (by decide +kernel)
set_option maxRecDepth 20000 in
theorem gX5_shelfItem_X5_either : GoodIn wsX5_shelfItem (wsV RX5 251 RX5 yX5_either wsX5_either) := goodIn_app (goodIn_of _ (by decide +kernel)) ggX5_shelfItem_X5_either
theorem dX5_shelfItem_0 : decode cX5_shelfItem 0 = .ok (.aload_n 0, 1) := by decide +kernel
theorem dX5_shelfItem_1 : decode cX5_shelfItem 1 = .ok (.invokevirtual 234, 3) := by decide +kernel
theorem dX5_shelfItem_4 : decode cX5_shelfItem 4 = .ok (.istore_n 2, 1) := by decide +kernel
theorem dX5_shelfItem_5 : decode cX5_shelfItem 5 = .ok (.iload_n 1, 1) := by decide +kernel
theorem dX5_shelfItem_6 : decode cX5_shelfItem 6 = .ok (.iconst 1, 1) := by decide +kernel
theorem dX5_shelfItem_7 : decode cX5_shelfItem 7 = .ok (.if_icmp .ne 12, 3) := by decide +kernel
theorem dX5_shelfItem_10 : decode cX5_shelfItem 10 = .ok (.aload_n 0, 1) := by decide +kernel
theorem dX5_shelfItem_11 : decode cX5_shelfItem 11 = .ok (.bipush 99, 2) := by decide +kernel
theorem dX5_shelfItem_13 : decode cX5_shelfItem 13 = .ok (.invokevirtual 232, 3) := by decide +kernel
theorem dX5_shelfItem_16 : decode cX5_shelfItem 16 = .ok (.goto 27, 3) := by decide +kernel
theorem dX5_shelfItem_19 : decode cX5_shelfItem 19 = .ok (.iload_n 1, 1) := by decide +kernel
theorem dX5_shelfItem_20 : decode cX5_shelfItem 20 = .ok (.ifCond .ne 14, 3) := by decide +kernel
theorem dX5_shelfItem_23 : decode cX5_shelfItem 23 = .ok (.aload_n 0, 1) := by decide +kernel
theorem dX5_shelfItem_24 : decode cX5_shelfItem 24 = .ok (.ldc 248, 2) := by decide +kernel
theorem dX5_shelfItem_26 : decode cX5_shelfItem 26 = .ok (.ldc 250, 2) := by decide +kernel
theorem dX5_shelfItem_28 : decode cX5_shelfItem 28 = .ok (.invokevirtual 251, 3) := by decide +kernel
theorem dX5_shelfItem_31 : decode cX5_shelfItem 31 = .ok (.goto 12, 3) := by decide +kernel
theorem dX5_shelfItem_34 : decode cX5_shelfItem 34 = .ok (.aload_n 0, 1) := by decide +kernel
theorem dX5_shelfItem_35 : decode cX5_shelfItem 35 = .ok (.ldc 255, 2) := by decide +kernel
theorem dX5_shelfItem_37 : decode cX5_shelfItem 37 = .ok (.ldc_w 257, 3) := by decide +kernel
theorem dX5_shelfItem_40 : decode cX5_shelfItem 40 = .ok (.invokevirtual 251, 3) := by decide +kernel
theorem dX5_shelfItem_43 : decode cX5_shelfItem 43 = .ok (.istore_n 3, 1) := by decide +kernel
theorem dX5_shelfItem_44 : decode cX5_shelfItem 44 = .ok (.aload_n 0, 1) := by decide +kernel
theorem dX5_shelfItem_45 : decode cX5_shelfItem 45 = .ok (.getfield 191, 3) := by decide +kernel
theorem dX5_shelfItem_48 : decode cX5_shelfItem 48 = .ok (.ifCond .ne 17, 3) := by decide +kernel
theorem dX5_shelfItem_51 : decode cX5_shelfItem 51 = .ok (.aload_n 0, 1) := by decide +kernel
theorem dX5_shelfItem_52 : decode cX5_shelfItem 52 = .ok (.getfield 9, 3) := by decide +kernel
theorem dX5_shelfItem_55 : decode cX5_shelfItem 55 = .ok (.iconst 4, 1) := by decide +kernel
theorem dX5_shelfItem_56 : decode cX5_shelfItem 56 = .ok (.bipush 6, 2) := by decide +kernel
theorem dX5_shelfItem_58 : decode cX5_shelfItem 58 = .ok (.iload_n 1, 1) := by decide +kernel
theorem dX5_shelfItem_59 : decode cX5_shelfItem 59 = .ok (.imul, 1) := by decide +kernel
theorem dX5_shelfItem_60 : decode cX5_shelfItem 60 = .ok (.iadd, 1) := by decide +kernel
theorem dX5_shelfItem_61 : decode cX5_shelfItem 61 = .ok (.iload_n 2, 1) := by decide +kernel
theorem dX5_shelfItem_62 : decode cX5_shelfItem 62 = .ok (.iadd, 1) := by decide +kernel
theorem dX5_shelfItem_63 : decode cX5_shelfItem 63 = .ok (.iload_n 3, 1) := by decide +kernel
theorem dX5_shelfItem_64 : decode cX5_shelfItem 64 = .ok (.iastore, 1) := by decide +kernel
theorem dX5_shelfItem_65 : decode cX5_shelfItem 65 = .ok (.return_, 1) := by decide +kernel
set_option maxRecDepth 20000 in
theorem ggX5_item_X5_kindHere : GoodIn wsX5_item wsX5_kindHere := goodIn_r _ [7, 8, 9, 6, 10, 11, 12, 13, 14, 2, 15, 16, 17, 18, 19, 20, 21, 22, 23, 24, 25, 26, 27, 28, 29, 30, 31, 32, 33, 34, 35, 36, 37, 38, 39, 40, 41, 42, 43, 44, 45, 46, 47, 48, 49, 50, 51, 52, 53, 54, 55, 56, 57, 58, 59, 60, 61, 62, 63, 64, 65, 66, 115, 116, 117, 118, 119, 120, 121, 122, 123, 124, 125, 126, 127, 128, 129, 130, 131] (by decide +kernel) (by decide +kernel)
set_option maxRecDepth 20000 in
theorem gX5_item_X5_kindHere : GoodIn wsX5_item (wsV RX5 259 RX5 yX5_kindHere wsX5_kindHere) := goodIn_app (goodIn_of _ (by decide +kernel)) ggX5_item_X5_kindHere
set_option maxRecDepth 20000 in
theorem ggX5_item_X5_deedTold : GoodIn wsX5_item wsX5_deedTold := goodIn_r _ [70, 1, 2, 71, 72, 73, 6, 74, 15, 16, 75, 76, 77, 78, 79, 17, 80, 81, 82, 83, 84, 85, 86, 87, 88, 89, 90, 91, 92, 93, 94, 95, 96, 97, 98, 99, 100, 101, 102, 11, 12, 13, 14, 18, 19, 20, 21, 22, 23, 24, 25, 26, 27, 28, 29, 30, 31, 32, 33, 34, 35, 36, 37, 38, 39, 40, 41, 42, 43, 44, 45, 46, 47, 48, 49, 50, 51, 52, 53, 54, 55, 56, 57, 58, 59, 60, 61, 62, 63, 64, 65, 66, 115, 116, 117, 118, 119, 120, 121, 122, 123, 124, 125, 126, 127, 128, 129, 130, 131] (by decide +kernel) (by decide +kernel)
set_option maxRecDepth 20000 in
theorem gX5_item_X5_deedTold : GoodIn wsX5_item (wsV RX5 262 RX5 yX5_deedTold wsX5_deedTold) := goodIn_app (goodIn_of _ (by decide +kernel)) ggX5_item_X5_deedTold
set_option maxRecDepth 20000 in
theorem ggX5_item_X5_takes : GoodIn wsX5_item wsX5_takes := goodIn_r _ [102, 11, 12, 13, 6, 14, 2, 15, 16, 17, 18, 19, 20, 21, 22, 23, 24, 25, 26, 27, 28, 29, 30, 31, 32, 33, 34, 35, 36, 37, 38, 39, 40, 41, 42, 43, 44, 45, 46, 47, 48, 49, 50, 51, 52, 53, 54, 55, 56, 57, 58, 59, 60, 61, 62, 63, 64, 65, 66, 71, 72, 73, 74, 75, 76, 77, 78, 79, 80, 81, 82, 115, 116, 117, 118, 119, 120, 121, 122, 123, 124, 125, 126, 127, 128, 129, 130, 131] (by decide +kernel) (by decide +kernel)
set_option maxRecDepth 20000 in
theorem gX5_item_X5_takes : GoodIn wsX5_item (wsV RX5 239 RX5 yX5_takes wsX5_takes) := goodIn_app (goodIn_of _ (by decide +kernel)) ggX5_item_X5_takes
set_option maxRecDepth 20000 in
theorem ggX5_item_X5_shelfItem : GoodIn wsX5_item wsX5_shelfItem := goodIn_r _ [106, 2, 1, 83, 84, 85, 6, 86, 87, 88, 89, 90, 91, 92, 93, 94, 16, 15, 17, 76, 77, 78, 79, 75, 80, 81, 82, 71, 72, 73, 74, 107, 108, 109, 110, 99, 100, 101, 102, 11, 12, 13, 14, 18, 19, 20, 21, 22, 23, 24, 25, 26, 27, 28, 29, 30, 31, 32, 33, 34, 35, 36, 37, 38, 39, 40, 41, 42, 43, 44, 45, 46, 47, 48, 49, 50, 51, 52, 53, 54, 55, 56, 57, 58, 59, 60, 61, 62, 63, 64, 65, 66, 111, 112, 113, 114, 115, 116, 117, 118, 119, 120, 121, 122, 123, 124, 125, 126, 127, 128, 129, 130, 131] (by decide +kernel) (by decide +kernel)
set_option maxRecDepth 20000 in
theorem gX5_item_X5_shelfItem : GoodIn wsX5_item (wsV RX5 268 RX5 yX5_shelfItem wsX5_shelfItem) := goodIn_app (goodIn_of _ (by decide +kernel)) ggX5_item_X5_shelfItem
set_option maxRecDepth 20000 in
theorem ggX5_item_X5_number : GoodIn wsX5_item wsX5_number := goodIn_r _ [90, 2, 91, 92, 93, 6, 94, 16, 15, 17, 76, 77, 78, 79, 75, 80, 81, 82, 71, 72, 73, 74, 115, 116, 117, 118, 119, 120, 121, 122, 123, 124, 125, 126, 127, 128, 129, 130, 131] (by decide +kernel) (by decide +kernel)
set_option maxRecDepth 20000 in
theorem gX5_item_X5_number : GoodIn wsX5_item (wsV RX5 232 RX5 yX5_number wsX5_number) := goodIn_app (goodIn_of _ (by decide +kernel)) ggX5_item_X5_number
theorem dX5_item_0 : decode cX5_item 0 = .ok (.aload_n 0, 1) := by decide +kernel
theorem dX5_item_1 : decode cX5_item 1 = .ok (.invokevirtual 259, 3) := by decide +kernel
theorem dX5_item_4 : decode cX5_item 4 = .ok (.istore_n 1, 1) := by decide +kernel
theorem dX5_item_5 : decode cX5_item 5 = .ok (.iload_n 1, 1) := by decide +kernel
theorem dX5_item_6 : decode cX5_item 6 = .ok (.ifCond .lt 11, 3) := by decide +kernel
theorem dX5_item_9 : decode cX5_item 9 = .ok (.aload_n 0, 1) := by decide +kernel
theorem dX5_item_10 : decode cX5_item 10 = .ok (.iload_n 1, 1) := by decide +kernel
theorem dX5_item_11 : decode cX5_item 11 = .ok (.invokevirtual 262, 3) := by decide +kernel
theorem dX5_item_14 : decode cX5_item 14 = .ok (.goto 87, 3) := by decide +kernel
theorem dX5_item_17 : decode cX5_item 17 = .ok (.aload_n 0, 1) := by decide +kernel
theorem dX5_item_18 : decode cX5_item 18 = .ok (.ldc_w 266, 3) := by decide +kernel
theorem dX5_item_21 : decode cX5_item 21 = .ok (.invokevirtual 239, 3) := by decide +kernel
theorem dX5_item_24 : decode cX5_item 24 = .ok (.ifCond .eq 11, 3) := by decide +kernel
theorem dX5_item_27 : decode cX5_item 27 = .ok (.aload_n 0, 1) := by decide +kernel
theorem dX5_item_28 : decode cX5_item 28 = .ok (.iconst 0, 1) := by decide +kernel
theorem dX5_item_29 : decode cX5_item 29 = .ok (.invokevirtual 268, 3) := by decide +kernel
theorem dX5_item_32 : decode cX5_item 32 = .ok (.goto 69, 3) := by decide +kernel
theorem dX5_item_35 : decode cX5_item 35 = .ok (.aload_n 0, 1) := by decide +kernel
theorem dX5_item_36 : decode cX5_item 36 = .ok (.ldc_w 271, 3) := by decide +kernel
theorem dX5_item_39 : decode cX5_item 39 = .ok (.invokevirtual 239, 3) := by decide +kernel
theorem dX5_item_42 : decode cX5_item 42 = .ok (.ifCond .eq 11, 3) := by decide +kernel
theorem dX5_item_45 : decode cX5_item 45 = .ok (.aload_n 0, 1) := by decide +kernel
theorem dX5_item_46 : decode cX5_item 46 = .ok (.iconst 1, 1) := by decide +kernel
theorem dX5_item_47 : decode cX5_item 47 = .ok (.invokevirtual 268, 3) := by decide +kernel
theorem dX5_item_50 : decode cX5_item 50 = .ok (.goto 51, 3) := by decide +kernel
theorem dX5_item_53 : decode cX5_item 53 = .ok (.aload_n 0, 1) := by decide +kernel
theorem dX5_item_54 : decode cX5_item 54 = .ok (.ldc_w 273, 3) := by decide +kernel
theorem dX5_item_57 : decode cX5_item 57 = .ok (.invokevirtual 239, 3) := by decide +kernel
theorem dX5_item_60 : decode cX5_item 60 = .ok (.ifCond .eq 11, 3) := by decide +kernel
theorem dX5_item_63 : decode cX5_item 63 = .ok (.aload_n 0, 1) := by decide +kernel
theorem dX5_item_64 : decode cX5_item 64 = .ok (.iconst 2, 1) := by decide +kernel
theorem dX5_item_65 : decode cX5_item 65 = .ok (.invokevirtual 268, 3) := by decide +kernel
theorem dX5_item_68 : decode cX5_item 68 = .ok (.goto 33, 3) := by decide +kernel
theorem dX5_item_71 : decode cX5_item 71 = .ok (.aload_n 0, 1) := by decide +kernel
theorem dX5_item_72 : decode cX5_item 72 = .ok (.ldc_w 275, 3) := by decide +kernel
theorem dX5_item_75 : decode cX5_item 75 = .ok (.invokevirtual 239, 3) := by decide +kernel
theorem dX5_item_78 : decode cX5_item 78 = .ok (.ifCond .eq 18, 3) := by decide +kernel
theorem dX5_item_81 : decode cX5_item 81 = .ok (.aload_n 0, 1) := by decide +kernel
theorem dX5_item_82 : decode cX5_item 82 = .ok (.getfield 9, 3) := by decide +kernel
theorem dX5_item_85 : decode cX5_item 85 = .ok (.iconst 1, 1) := by decide +kernel
theorem dX5_item_86 : decode cX5_item 86 = .ok (.aload_n 0, 1) := by decide +kernel
theorem dX5_item_87 : decode cX5_item 87 = .ok (.bipush 40, 2) := by decide +kernel
theorem dX5_item_89 : decode cX5_item 89 = .ok (.invokevirtual 232, 3) := by decide +kernel
theorem dX5_item_92 : decode cX5_item 92 = .ok (.iastore, 1) := by decide +kernel
theorem dX5_item_93 : decode cX5_item 93 = .ok (.goto 8, 3) := by decide +kernel
theorem dX5_item_96 : decode cX5_item 96 = .ok (.aload_n 0, 1) := by decide +kernel
theorem dX5_item_97 : decode cX5_item 97 = .ok (.iconst 1, 1) := by decide +kernel
theorem dX5_item_98 : decode cX5_item 98 = .ok (.putfield 191, 3) := by decide +kernel
theorem dX5_item_101 : decode cX5_item 101 = .ok (.return_, 1) := by decide +kernel
