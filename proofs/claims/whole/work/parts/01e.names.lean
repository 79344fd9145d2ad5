set_option maxRecDepth 20000 in
theorem ggX4_ice_X4_isWithin : GoodIn wsX4_ice wsX4_isWithin := goodIn_r _ [7] (by decide +kernel) (by decide +kernel)
set_option maxRecDepth 20000 in
theorem gX4_ice_X4_isWithin : GoodIn wsX4_ice (va_wsS RX4 115 yX4_isWithin wsX4_isWithin) := goodIn_app (goodIn_of _ (by decide +kernel)) ggX4_ice_X4_isWithin
set_option maxRecDepth 20000 in
theorem ggX4_ice_X4_refusal : GoodIn wsX4_ice wsX4_refusal := goodIn_r _ [11, 1, 12, 4, 5, 6, 7, 13, 14, 15, 16, 3, 17, 109, 110, 111, 112, 113, 114, 115, 116, 117, 118, 119, 120, 121, 122, 123, 124, 125, 126, 127, 128, 129, 130] (by decide +kernel) (by decide +kernel)
set_option maxRecDepth 20000 in
theorem gX4_ice_X4_refusal : GoodIn wsX4_ice (wsV RX4 157 RX4 yX4_refusal wsX4_refusal) := goodIn_app (goodIn_of _ (by decide +kernel)) ggX4_ice_X4_refusal
set_option maxRecDepth 20000 in
theorem ggX4_ice_X4_found : GoodIn wsX4_ice wsX4_found := goodIn_r _ [21, 1, 22, 4, 5, 6, 7, 109, 110, 111, 112, 113, 114, 115] (by decide +kernel) (by decide +kernel)
set_option maxRecDepth 20000 in
theorem gX4_ice_X4_found : GoodIn wsX4_ice (wsV RX4 54 RX4 yX4_found wsX4_found) := goodIn_app (goodIn_of _ (by decide +kernel)) ggX4_ice_X4_found
set_option maxRecDepth 20000 in
theorem ggX4_ice_X0_take : GoodIn wsX4_ice wsX0_take := goodIn_r _ [27, 28, 29, 30, 31, 32, 33, 34, 35, 36, 37, 38, 39, 40, 41, 42, 43, 44, 45, 116, 117, 118, 119, 120, 121, 122, 123, 124, 125, 126, 127, 128, 129, 130] (by decide +kernel) (by decide +kernel)
set_option maxRecDepth 20000 in
theorem gX4_ice_X0_take : GoodIn wsX4_ice (wsV RX4 180 RX0 yX0_take wsX0_take) := goodIn_app (goodIn_of _ (by decide +kernel)) ggX4_ice_X0_take
set_option maxRecDepth 20000 in
theorem ggX4_ice_X0_bringIce : GoodIn wsX4_ice wsX0_bringIce := goodIn_r _ [49, 37, 50, 51, 52, 53, 116, 117, 118, 119, 120, 121, 122, 123, 124, 125, 126, 127, 128, 129, 130] (by decide +kernel) (by decide +kernel)
set_option maxRecDepth 20000 in
theorem gX4_ice_X0_bringIce : GoodIn wsX4_ice (wsV RX4 194 RX0 yX0_bringIce wsX0_bringIce) := goodIn_app (goodIn_of _ (by decide +kernel)) ggX4_ice_X0_bringIce
set_option maxRecDepth 20000 in
theorem ggX4_ice_X0_holdingBehind : GoodIn wsX4_ice wsX0_holdingBehind := goodIn_r _ [57, 39, 58, 59, 60, 26, 61, 43, 62, 40, 33, 37, 63, 64, 65, 66, 67, 52, 68, 69, 70, 71, 72, 44, 41, 42, 73, 6, 74, 75, 76, 77, 78, 28, 34, 35, 50, 51, 53, 79, 80, 81, 82, 83, 84, 85, 86, 87, 88, 89, 90, 91, 92, 93, 94, 95, 96, 97, 98, 99, 100, 101, 36, 102, 103, 104, 105, 106, 107, 108, 116, 117, 118, 119, 120, 121, 122, 123, 124, 125, 126, 127, 128, 129, 130] (by decide +kernel) (by decide +kernel)
set_option maxRecDepth 20000 in
theorem gX4_ice_X0_holdingBehind : GoodIn wsX4_ice (wsV RX4 198 RX0 yX0_holdingBehind wsX0_holdingBehind) := goodIn_app (goodIn_of _ (by decide +kernel)) ggX4_ice_X0_holdingBehind
theorem dX4_ice_0 : decode cX4_ice 0 = .ok (.iload_n 1, 1) := by decide +kernel
theorem dX4_ice_1 : decode cX4_ice 1 = .ok (.iconst 1, 1) := by decide +kernel
theorem dX4_ice_2 : decode cX4_ice 2 = .ok (.bipush 99, 2) := by decide +kernel
theorem dX4_ice_4 : decode cX4_ice 4 = .ok (.invokestatic 115, 3) := by decide +kernel
theorem dX4_ice_7 : decode cX4_ice 7 = .ok (.ifCond .eq 13, 3) := by decide +kernel
theorem dX4_ice_10 : decode cX4_ice 10 = .ok (.aload_n 0, 1) := by decide +kernel
theorem dX4_ice_11 : decode cX4_ice 11 = .ok (.iload_n 2, 1) := by decide +kernel
theorem dX4_ice_12 : decode cX4_ice 12 = .ok (.bipush 100, 2) := by decide +kernel
theorem dX4_ice_14 : decode cX4_ice 14 = .ok (.invokevirtual 157, 3) := by decide +kernel
theorem dX4_ice_17 : decode cX4_ice 17 = .ok (.goto 5, 3) := by decide +kernel
theorem dX4_ice_20 : decode cX4_ice 20 = .ok (.ldc 53, 2) := by decide +kernel
theorem dX4_ice_22 : decode cX4_ice 22 = .ok (.istore_n 3, 1) := by decide +kernel
theorem dX4_ice_23 : decode cX4_ice 23 = .ok (.iload_n 3, 1) := by decide +kernel
theorem dX4_ice_24 : decode cX4_ice 24 = .ok (.ifCond .eq 9, 3) := by decide +kernel
theorem dX4_ice_27 : decode cX4_ice 27 = .ok (.aload_n 0, 1) := by decide +kernel
theorem dX4_ice_28 : decode cX4_ice 28 = .ok (.iload_n 3, 1) := by decide +kernel
theorem dX4_ice_29 : decode cX4_ice 29 = .ok (.invokevirtual 54, 3) := by decide +kernel
theorem dX4_ice_32 : decode cX4_ice 32 = .ok (.ireturn, 1) := by decide +kernel
theorem dX4_ice_33 : decode cX4_ice 33 = .ok (.iconst 0, 1) := by decide +kernel
theorem dX4_ice_34 : decode cX4_ice 34 = .ok (.istore 4, 2) := by decide +kernel
theorem dX4_ice_36 : decode cX4_ice 36 = .ok (.iconst (-1), 1) := by decide +kernel
theorem dX4_ice_37 : decode cX4_ice 37 = .ok (.istore 5, 2) := by decide +kernel
theorem dX4_ice_39 : decode cX4_ice 39 = .ok (.iconst 0, 1) := by decide +kernel
theorem dX4_ice_40 : decode cX4_ice 40 = .ok (.istore 6, 2) := by decide +kernel
theorem dX4_ice_42 : decode cX4_ice 42 = .ok (.iload 6, 2) := by decide +kernel
theorem dX4_ice_44 : decode cX4_ice 44 = .ok (.bipush 6, 2) := by decide +kernel
theorem dX4_ice_46 : decode cX4_ice 46 = .ok (.if_icmp .ge 55, 3) := by decide +kernel
theorem dX4_ice_49 : decode cX4_ice 49 = .ok (.aload_n 0, 1) := by decide +kernel
theorem dX4_ice_50 : decode cX4_ice 50 = .ok (.getfield 16, 3) := by decide +kernel
theorem dX4_ice_53 : decode cX4_ice 53 = .ok (.aload_n 0, 1) := by decide +kernel
theorem dX4_ice_54 : decode cX4_ice 54 = .ok (.getfield 12, 3) := by decide +kernel
theorem dX4_ice_57 : decode cX4_ice 57 = .ok (.invokevirtual 180, 3) := by decide +kernel
theorem dX4_ice_60 : decode cX4_ice 60 = .ok (.aload_n 0, 1) := by decide +kernel
theorem dX4_ice_61 : decode cX4_ice 61 = .ok (.getfield 16, 3) := by decide +kernel
theorem dX4_ice_64 : decode cX4_ice 64 = .ok (.iload 6, 2) := by decide +kernel
theorem dX4_ice_66 : decode cX4_ice 66 = .ok (.iload_n 1, 1) := by decide +kernel
theorem dX4_ice_67 : decode cX4_ice 67 = .ok (.invokevirtual 194, 3) := by decide +kernel
theorem dX4_ice_70 : decode cX4_ice 70 = .ok (.aload_n 0, 1) := by decide +kernel
theorem dX4_ice_71 : decode cX4_ice 71 = .ok (.getfield 16, 3) := by decide +kernel
theorem dX4_ice_74 : decode cX4_ice 74 = .ok (.iload_n 2, 1) := by decide +kernel
theorem dX4_ice_75 : decode cX4_ice 75 = .ok (.invokevirtual 198, 3) := by decide +kernel
theorem dX4_ice_78 : decode cX4_ice 78 = .ok (.istore 7, 2) := by decide +kernel
theorem dX4_ice_80 : decode cX4_ice 80 = .ok (.iload 7, 2) := by decide +kernel
theorem dX4_ice_82 : decode cX4_ice 82 = .ok (.iload 5, 2) := by decide +kernel
theorem dX4_ice_84 : decode cX4_ice 84 = .ok (.if_icmp .le 11, 3) := by decide +kernel
theorem dX4_ice_87 : decode cX4_ice 87 = .ok (.iload 6, 2) := by decide +kernel
theorem dX4_ice_89 : decode cX4_ice 89 = .ok (.istore 4, 2) := by decide +kernel
theorem dX4_ice_91 : decode cX4_ice 91 = .ok (.iload 7, 2) := by decide +kernel
theorem dX4_ice_93 : decode cX4_ice 93 = .ok (.istore 5, 2) := by decide +kernel
theorem dX4_ice_95 : decode cX4_ice 95 = .ok (.iinc 6 1, 3) := by decide +kernel
theorem dX4_ice_98 : decode cX4_ice 98 = .ok (.goto (-56), 3) := by decide +kernel
theorem dX4_ice_101 : decode cX4_ice 101 = .ok (.iload 4, 2) := by decide +kernel
theorem dX4_ice_103 : decode cX4_ice 103 = .ok (.ireturn, 1) := by decide +kernel
set_option maxRecDepth 20000 in
theorem ggX4_blocks_X4_refusalOfDeed : GoodIn wsX4_blocks wsX4_refusalOfDeed := goodIn_r _ [14, 1, 15, 16, 17, 18, 19, 20, 21, 22, 13, 23, 24, 25, 26, 27, 28, 29, 30, 31, 32, 33, 34, 118, 119, 120, 121, 122, 123, 124, 125, 126, 127, 128, 129, 130, 131, 132, 133, 134, 135, 136, 137, 138, 139] (by decide +kernel) (by decide +kernel)
set_option maxRecDepth 20000 in
theorem gX4_blocks_X4_refusalOfDeed : GoodIn wsX4_blocks (wsV RX4 201 RX4 yX4_refusalOfDeed wsX4_refusalOfDeed) := goodIn_app (goodIn_of _ (by decide +kernel)) ggX4_blocks_X4_refusalOfDeed
set_option maxRecDepth 20000 in
theorem ggX4_blocks_X4_found : GoodIn wsX4_blocks wsX4_found := goodIn_r _ [38, 15, 39, 29, 22, 13, 23, 118, 119, 120, 121, 122, 123, 124] (by decide +kernel) (by decide +kernel)
set_option maxRecDepth 20000 in
theorem gX4_blocks_X4_found : GoodIn wsX4_blocks (wsV RX4 54 RX4 yX4_found wsX4_found) := goodIn_app (goodIn_of _ (by decide +kernel)) ggX4_blocks_X4_found
set_option maxRecDepth 20000 in
theorem ggX4_blocks_X0_take : GoodIn wsX4_blocks wsX0_take := goodIn_r _ [43, 44, 45, 46, 47, 48, 49, 50, 51, 52, 53, 54, 55, 21, 56, 57, 58, 59, 60, 125, 126, 127, 128, 129, 130, 131, 132, 133, 134, 135, 136, 137, 138, 139] (by decide +kernel) (by decide +kernel)
set_option maxRecDepth 20000 in
theorem gX4_blocks_X0_take : GoodIn wsX4_blocks (wsV RX4 180 RX0 yX0_take wsX0_take) := goodIn_app (goodIn_of _ (by decide +kernel)) ggX4_blocks_X0_take
set_option maxRecDepth 20000 in
theorem ggX4_blocks_X0_bringIce : GoodIn wsX4_blocks wsX0_bringIce := goodIn_r _ [64, 53, 65, 5, 6, 7, 125, 126, 127, 128, 129, 130, 131, 132, 133, 134, 135, 136, 137, 138, 139] (by decide +kernel) (by decide +kernel)
set_option maxRecDepth 20000 in
theorem gX4_blocks_X0_bringIce : GoodIn wsX4_blocks (wsV RX4 194 RX0 yX0_bringIce wsX0_bringIce) := goodIn_app (goodIn_of _ (by decide +kernel)) ggX4_blocks_X0_bringIce
set_option maxRecDepth 20000 in
theorem ggX4_blocks_X0_holdsBehind : GoodIn wsX4_blocks wsX0_holdsBehind := goodIn_r _ [69, 70, 71, 72, 19, 73, 55, 74, 75, 76, 77, 21, 52, 78, 13, 79, 80, 81, 82, 83, 84, 85, 58, 86, 49, 53, 87, 88, 89, 90, 91, 6, 92, 93, 94, 95, 96, 59, 56, 57, 97, 98, 99, 100, 44, 50, 51, 65, 5, 7, 101, 102, 103, 104, 105, 106, 107, 108, 109, 110, 111, 112, 113, 114, 115, 116, 117, 125, 126, 127, 128, 129, 130, 131, 132, 133, 134, 135, 136, 137, 138, 139] (by decide +kernel) (by decide +kernel)
set_option maxRecDepth 20000 in
theorem gX4_blocks_X0_holdsBehind : GoodIn wsX4_blocks (wsV RX4 209 RX0 yX0_holdsBehind wsX0_holdsBehind) := goodIn_app (goodIn_of _ (by decide +kernel)) ggX4_blocks_X0_holdsBehind
theorem dX4_blocks_0 : decode cX4_blocks 0 = .ok (.aload_n 0, 1) := by decide +kernel
theorem dX4_blocks_1 : decode cX4_blocks 1 = .ok (.iload_n 1, 1) := by decide +kernel
theorem dX4_blocks_2 : decode cX4_blocks 2 = .ok (.iload_n 2, 1) := by decide +kernel
theorem dX4_blocks_3 : decode cX4_blocks 3 = .ok (.invokevirtual 201, 3) := by decide +kernel
theorem dX4_blocks_6 : decode cX4_blocks 6 = .ok (.istore_n 3, 1) := by decide +kernel
theorem dX4_blocks_7 : decode cX4_blocks 7 = .ok (.iload_n 3, 1) := by decide +kernel
theorem dX4_blocks_8 : decode cX4_blocks 8 = .ok (.ifCond .eq 9, 3) := by decide +kernel
theorem dX4_blocks_11 : decode cX4_blocks 11 = .ok (.aload_n 0, 1) := by decide +kernel
theorem dX4_blocks_12 : decode cX4_blocks 12 = .ok (.iload_n 3, 1) := by decide +kernel
theorem dX4_blocks_13 : decode cX4_blocks 13 = .ok (.invokevirtual 54, 3) := by decide +kernel
theorem dX4_blocks_16 : decode cX4_blocks 16 = .ok (.ireturn, 1) := by decide +kernel
theorem dX4_blocks_17 : decode cX4_blocks 17 = .ok (.aload_n 0, 1) := by decide +kernel
theorem dX4_blocks_18 : decode cX4_blocks 18 = .ok (.getfield 12, 3) := by decide +kernel
theorem dX4_blocks_21 : decode cX4_blocks 21 = .ok (.getfield 73, 3) := by decide +kernel
theorem dX4_blocks_24 : decode cX4_blocks 24 = .ok (.iload_n 1, 1) := by decide +kernel
theorem dX4_blocks_25 : decode cX4_blocks 25 = .ok (.iaload, 1) := by decide +kernel
theorem dX4_blocks_26 : decode cX4_blocks 26 = .ok (.istore 4, 2) := by decide +kernel
theorem dX4_blocks_28 : decode cX4_blocks 28 = .ok (.iload_n 2, 1) := by decide +kernel
theorem dX4_blocks_29 : decode cX4_blocks 29 = .ok (.bipush 99, 2) := by decide +kernel
theorem dX4_blocks_31 : decode cX4_blocks 31 = .ok (.aload_n 0, 1) := by decide +kernel
theorem dX4_blocks_32 : decode cX4_blocks 32 = .ok (.getfield 12, 3) := by decide +kernel
theorem dX4_blocks_35 : decode cX4_blocks 35 = .ok (.getfield 125, 3) := by decide +kernel
theorem dX4_blocks_38 : decode cX4_blocks 38 = .ok (.iload 4, 2) := by decide +kernel
theorem dX4_blocks_40 : decode cX4_blocks 40 = .ok (.iaload, 1) := by decide +kernel
theorem dX4_blocks_41 : decode cX4_blocks 41 = .ok (.isub, 1) := by decide +kernel
theorem dX4_blocks_42 : decode cX4_blocks 42 = .ok (.invokestatic 204, 3) := by decide +kernel
theorem dX4_blocks_45 : decode cX4_blocks 45 = .ok (.istore 5, 2) := by decide +kernel
theorem dX4_blocks_47 : decode cX4_blocks 47 = .ok (.iconst 0, 1) := by decide +kernel
theorem dX4_blocks_48 : decode cX4_blocks 48 = .ok (.istore 6, 2) := by decide +kernel
theorem dX4_blocks_50 : decode cX4_blocks 50 = .ok (.iload 6, 2) := by decide +kernel
theorem dX4_blocks_52 : decode cX4_blocks 52 = .ok (.iload 5, 2) := by decide +kernel
theorem dX4_blocks_54 : decode cX4_blocks 54 = .ok (.if_icmp .gt 46, 3) := by decide +kernel
theorem dX4_blocks_57 : decode cX4_blocks 57 = .ok (.aload_n 0, 1) := by decide +kernel
theorem dX4_blocks_58 : decode cX4_blocks 58 = .ok (.getfield 16, 3) := by decide +kernel
theorem dX4_blocks_61 : decode cX4_blocks 61 = .ok (.aload_n 0, 1) := by decide +kernel
theorem dX4_blocks_62 : decode cX4_blocks 62 = .ok (.getfield 12, 3) := by decide +kernel
theorem dX4_blocks_65 : decode cX4_blocks 65 = .ok (.invokevirtual 180, 3) := by decide +kernel
theorem dX4_blocks_68 : decode cX4_blocks 68 = .ok (.aload_n 0, 1) := by decide +kernel
theorem dX4_blocks_69 : decode cX4_blocks 69 = .ok (.getfield 16, 3) := by decide +kernel
theorem dX4_blocks_72 : decode cX4_blocks 72 = .ok (.iload 4, 2) := by decide +kernel
theorem dX4_blocks_74 : decode cX4_blocks 74 = .ok (.iload 6, 2) := by decide +kernel
theorem dX4_blocks_76 : decode cX4_blocks 76 = .ok (.invokevirtual 194, 3) := by decide +kernel
theorem dX4_blocks_79 : decode cX4_blocks 79 = .ok (.aload_n 0, 1) := by decide +kernel
theorem dX4_blocks_80 : decode cX4_blocks 80 = .ok (.getfield 16, 3) := by decide +kernel
theorem dX4_blocks_83 : decode cX4_blocks 83 = .ok (.iload_n 1, 1) := by decide +kernel
theorem dX4_blocks_84 : decode cX4_blocks 84 = .ok (.iload_n 2, 1) := by decide +kernel
theorem dX4_blocks_85 : decode cX4_blocks 85 = .ok (.invokevirtual 209, 3) := by decide +kernel
theorem dX4_blocks_88 : decode cX4_blocks 88 = .ok (.ifCond .eq 6, 3) := by decide +kernel
theorem dX4_blocks_91 : decode cX4_blocks 91 = .ok (.iload 6, 2) := by decide +kernel
theorem dX4_blocks_93 : decode cX4_blocks 93 = .ok (.ireturn, 1) := by decide +kernel
theorem dX4_blocks_94 : decode cX4_blocks 94 = .ok (.iinc 6 1, 3) := by decide +kernel
theorem dX4_blocks_97 : decode cX4_blocks 97 = .ok (.goto (-47), 3) := by decide +kernel
theorem dX4_blocks_100 : decode cX4_blocks 100 = .ok (.aload_n 0, 1) := by decide +kernel
theorem dX4_blocks_101 : decode cX4_blocks 101 = .ok (.ldc 190, 2) := by decide +kernel
theorem dX4_blocks_103 : decode cX4_blocks 103 = .ok (.invokevirtual 54, 3) := by decide +kernel
theorem dX4_blocks_106 : decode cX4_blocks 106 = .ok (.ireturn, 1) := by decide +kernel
set_option maxRecDepth 20000 in
theorem ggX4_bears_X4_refusalOfDeed : GoodIn wsX4_bears wsX4_refusalOfDeed := goodIn_r _ [9, 2, 10, 11, 12, 13, 14, 15, 16, 17, 8, 18, 19, 20, 21, 22, 23, 24, 25, 26, 27, 28, 29, 112, 113, 114, 115, 116, 117, 118, 119, 120, 121, 122, 123, 124, 125, 126, 127, 128, 129, 130, 131, 132, 133] (by decide +kernel) (by decide +kernel)
set_option maxRecDepth 20000 in
theorem gX4_bears_X4_refusalOfDeed : GoodIn wsX4_bears (wsV RX4 201 RX4 yX4_refusalOfDeed wsX4_refusalOfDeed) := goodIn_app (goodIn_of _ (by decide +kernel)) ggX4_bears_X4_refusalOfDeed
set_option maxRecDepth 20000 in
theorem ggX4_bears_X4_found : GoodIn wsX4_bears wsX4_found := goodIn_r _ [33, 10, 34, 24, 17, 8, 18, 112, 113, 114, 115, 116, 117, 118] (by decide +kernel) (by decide +kernel)
set_option maxRecDepth 20000 in
theorem gX4_bears_X4_found : GoodIn wsX4_bears (wsV RX4 54 RX4 yX4_found wsX4_found) := goodIn_app (goodIn_of _ (by decide +kernel)) ggX4_bears_X4_found
set_option maxRecDepth 20000 in
theorem ggX4_bears_X0_take : GoodIn wsX4_bears wsX0_take := goodIn_r _ [38, 39, 40, 41, 42, 43, 44, 45, 46, 47, 48, 49, 50, 16, 51, 52, 53, 54, 55, 119, 120, 121, 122, 123, 124, 125, 126, 127, 128, 129, 130, 131, 132, 133] (by decide +kernel) (by decide +kernel)
set_option maxRecDepth 20000 in
theorem gX4_bears_X0_take : GoodIn wsX4_bears (wsV RX4 180 RX0 yX0_take wsX0_take) := goodIn_app (goodIn_of _ (by decide +kernel)) ggX4_bears_X0_take
set_option maxRecDepth 20000 in
theorem ggX4_bears_X0_holdsBehind : GoodIn wsX4_bears wsX0_holdsBehind := goodIn_r _ [59, 60, 61, 62, 14, 63, 50, 64, 65, 66, 67, 16, 47, 68, 8, 69, 70, 71, 72, 73, 74, 75, 53, 76, 44, 48, 77, 78, 79, 80, 81, 82, 83, 84, 85, 86, 87, 54, 51, 52, 88, 89, 90, 91, 39, 45, 46, 92, 93, 94, 95, 96, 97, 98, 99, 100, 101, 102, 103, 104, 105, 106, 107, 108, 109, 110, 111, 119, 120, 121, 122, 123, 124, 125, 126, 127, 128, 129, 130, 131, 132, 133] (by decide +kernel) (by decide +kernel)
set_option maxRecDepth 20000 in
theorem gX4_bears_X0_holdsBehind : GoodIn wsX4_bears (wsV RX4 209 RX0 yX0_holdsBehind wsX0_holdsBehind) := goodIn_app (goodIn_of _ (by decide +kernel)) ggX4_bears_X0_holdsBehind
theorem dX4_bears_0 : decode cX4_bears 0 = .ok (.aload_n 0, 1) := by decide +kernel
theorem dX4_bears_1 : decode cX4_bears 1 = .ok (.iload_n 1, 1) := by decide +kernel
theorem dX4_bears_2 : decode cX4_bears 2 = .ok (.iload_n 2, 1) := by decide +kernel
theorem dX4_bears_3 : decode cX4_bears 3 = .ok (.invokevirtual 201, 3) := by decide +kernel
theorem dX4_bears_6 : decode cX4_bears 6 = .ok (.istore_n 3, 1) := by decide +kernel
theorem dX4_bears_7 : decode cX4_bears 7 = .ok (.iload_n 3, 1) := by decide +kernel
theorem dX4_bears_8 : decode cX4_bears 8 = .ok (.ifCond .eq 9, 3) := by decide +kernel
theorem dX4_bears_11 : decode cX4_bears 11 = .ok (.aload_n 0, 1) := by decide +kernel
theorem dX4_bears_12 : decode cX4_bears 12 = .ok (.iload_n 3, 1) := by decide +kernel
theorem dX4_bears_13 : decode cX4_bears 13 = .ok (.invokevirtual 54, 3) := by decide +kernel
theorem dX4_bears_16 : decode cX4_bears 16 = .ok (.ireturn, 1) := by decide +kernel
theorem dX4_bears_17 : decode cX4_bears 17 = .ok (.bipush 40, 2) := by decide +kernel
theorem dX4_bears_19 : decode cX4_bears 19 = .ok (.istore 4, 2) := by decide +kernel
theorem dX4_bears_21 : decode cX4_bears 21 = .ok (.iload 4, 2) := by decide +kernel
theorem dX4_bears_23 : decode cX4_bears 23 = .ok (.ifCond .lt 44, 3) := by decide +kernel
theorem dX4_bears_26 : decode cX4_bears 26 = .ok (.aload_n 0, 1) := by decide +kernel
theorem dX4_bears_27 : decode cX4_bears 27 = .ok (.getfield 16, 3) := by decide +kernel
theorem dX4_bears_30 : decode cX4_bears 30 = .ok (.aload_n 0, 1) := by decide +kernel
theorem dX4_bears_31 : decode cX4_bears 31 = .ok (.getfield 12, 3) := by decide +kernel
theorem dX4_bears_34 : decode cX4_bears 34 = .ok (.invokevirtual 180, 3) := by decide +kernel
theorem dX4_bears_37 : decode cX4_bears 37 = .ok (.aload_n 0, 1) := by decide +kernel
theorem dX4_bears_38 : decode cX4_bears 38 = .ok (.getfield 16, 3) := by decide +kernel
theorem dX4_bears_41 : decode cX4_bears 41 = .ok (.iload 4, 2) := by decide +kernel
theorem dX4_bears_43 : decode cX4_bears 43 = .ok (.putfield 145, 3) := by decide +kernel
theorem dX4_bears_46 : decode cX4_bears 46 = .ok (.aload_n 0, 1) := by decide +kernel
theorem dX4_bears_47 : decode cX4_bears 47 = .ok (.getfield 16, 3) := by decide +kernel
theorem dX4_bears_50 : decode cX4_bears 50 = .ok (.iload_n 1, 1) := by decide +kernel
theorem dX4_bears_51 : decode cX4_bears 51 = .ok (.iload_n 2, 1) := by decide +kernel
theorem dX4_bears_52 : decode cX4_bears 52 = .ok (.invokevirtual 209, 3) := by decide +kernel
theorem dX4_bears_55 : decode cX4_bears 55 = .ok (.ifCond .eq 6, 3) := by decide +kernel
theorem dX4_bears_58 : decode cX4_bears 58 = .ok (.iload 4, 2) := by decide +kernel
theorem dX4_bears_60 : decode cX4_bears 60 = .ok (.ireturn, 1) := by decide +kernel
theorem dX4_bears_61 : decode cX4_bears 61 = .ok (.iinc 4 (-1), 3) := by decide +kernel
theorem dX4_bears_64 : decode cX4_bears 64 = .ok (.goto (-43), 3) := by decide +kernel
theorem dX4_bears_67 : decode cX4_bears 67 = .ok (.aload_n 0, 1) := by decide +kernel
theorem dX4_bears_68 : decode cX4_bears 68 = .ok (.ldc 190, 2) := by decide +kernel
theorem dX4_bears_70 : decode cX4_bears 70 = .ok (.invokevirtual 54, 3) := by decide +kernel
theorem dX4_bears_73 : decode cX4_bears 73 = .ok (.ireturn, 1) := by decide +kernel
set_option maxRecDepth 20000 in
theorem ggX4_swap_X4_refusal : GoodIn wsX4_swap wsX4_refusal := goodIn_r _ [9, 10, 11, 12, 13, 8, 14, 15, 16, 17, 18, 2, 19, 112, 113, 114, 115, 116, 117, 118, 119, 120, 121, 122, 123, 124, 125, 126, 127, 128, 129, 130, 131, 132, 133] (by decide +kernel) (by decide +kernel)
set_option maxRecDepth 20000 in
theorem gX4_swap_X4_refusal : GoodIn wsX4_swap (wsV RX4 157 RX4 yX4_refusal wsX4_refusal) := goodIn_app (goodIn_of _ (by decide +kernel)) ggX4_swap_X4_refusal
set_option maxRecDepth 20000 in
theorem ggX4_swap_X4_found : GoodIn wsX4_swap wsX4_found := goodIn_r _ [23, 10, 24, 12, 13, 8, 14, 112, 113, 114, 115, 116, 117, 118] (by decide +kernel) (by decide +kernel)
set_option maxRecDepth 20000 in
theorem gX4_swap_X4_found : GoodIn wsX4_swap (wsV RX4 54 RX4 yX4_found wsX4_found) := goodIn_app (goodIn_of _ (by decide +kernel)) ggX4_swap_X4_found
set_option maxRecDepth 20000 in
theorem ggX4_swap_X0_take : GoodIn wsX4_swap wsX0_take := goodIn_r _ [29, 30, 31, 32, 33, 34, 35, 36, 37, 38, 39, 40, 41, 42, 43, 44, 45, 46, 47, 119, 120, 121, 122, 123, 124, 125, 126, 127, 128, 129, 130, 131, 132, 133] (by decide +kernel) (by decide +kernel)
set_option maxRecDepth 20000 in
theorem gX4_swap_X0_take : GoodIn wsX4_swap (wsV RX4 180 RX0 yX0_take wsX0_take) := goodIn_app (goodIn_of _ (by decide +kernel)) ggX4_swap_X0_take
set_option maxRecDepth 20000 in
theorem ggX4_swap_X0_holdingBehind : GoodIn wsX4_swap wsX0_holdingBehind := goodIn_r _ [51, 41, 52, 53, 54, 28, 55, 45, 56, 42, 35, 39, 57, 58, 59, 60, 61, 62, 63, 64, 65, 66, 67, 46, 43, 44, 68, 8, 69, 70, 71, 72, 73, 30, 36, 37, 74, 75, 76, 77, 78, 79, 80, 81, 82, 83, 84, 85, 86, 87, 88, 89, 90, 91, 92, 93, 94, 95, 96, 97, 98, 99, 38, 100, 101, 102, 103, 104, 105, 106, 119, 120, 121, 122, 123, 124, 125, 126, 127, 128, 129, 130, 131, 132, 133] (by decide +kernel) (by decide +kernel)
set_option maxRecDepth 20000 in
theorem gX4_swap_X0_holdingBehind : GoodIn wsX4_swap (wsV RX4 198 RX0 yX0_holdingBehind wsX0_holdingBehind) := goodIn_app (goodIn_of _ (by decide +kernel)) ggX4_swap_X0_holdingBehind
set_option maxRecDepth 20000 in
theorem ggX4_swap_X4_holdingSwapped : GoodIn wsX4_swap wsX4_holdingSwapped := goodIn_r _ [110, 1, 2, 111, 25, 26, 27, 28, 29, 30, 31, 32, 33, 34, 35, 36, 37, 38, 39, 40, 41, 42, 43, 44, 45, 46, 47, 48, 49, 50, 51, 52, 53, 54, 55, 56, 57, 58, 59, 60, 61, 62, 63, 64, 65, 66, 67, 68, 8, 69, 70, 71, 72, 73, 74, 75, 76, 77, 78, 79, 80, 81, 82, 83, 84, 85, 86, 87, 88, 89, 90, 91, 92, 93, 94, 95, 96, 97, 98, 99, 100, 101, 102, 103, 104, 105, 106, 112, 113, 114, 115, 116, 117, 118, 119, 120, 121, 122, 123, 124, 125, 126, 127, 128, 129, 130, 131, 132, 133] (by decide +kernel) (by decide +kernel)
set_option maxRecDepth 20000 in
theorem gX4_swap_X4_holdingSwapped : GoodIn wsX4_swap (wsV RX4 212 RX4 yX4_holdingSwapped wsX4_holdingSwapped) := goodIn_app (goodIn_of _ (by decide +kernel)) ggX4_swap_X4_holdingSwapped
theorem dX4_swap_0 : decode cX4_swap 0 = .ok (.aload_n 0, 1) := by decide +kernel
theorem dX4_swap_1 : decode cX4_swap 1 = .ok (.iload_n 1, 1) := by decide +kernel
theorem dX4_swap_2 : decode cX4_swap 2 = .ok (.bipush 100, 2) := by decide +kernel
theorem dX4_swap_4 : decode cX4_swap 4 = .ok (.invokevirtual 157, 3) := by decide +kernel
theorem dX4_swap_7 : decode cX4_swap 7 = .ok (.istore_n 2, 1) := by decide +kernel
theorem dX4_swap_8 : decode cX4_swap 8 = .ok (.iload_n 2, 1) := by decide +kernel
theorem dX4_swap_9 : decode cX4_swap 9 = .ok (.ifCond .eq 9, 3) := by decide +kernel
theorem dX4_swap_12 : decode cX4_swap 12 = .ok (.aload_n 0, 1) := by decide +kernel
theorem dX4_swap_13 : decode cX4_swap 13 = .ok (.iload_n 2, 1) := by decide +kernel
theorem dX4_swap_14 : decode cX4_swap 14 = .ok (.invokevirtual 54, 3) := by decide +kernel
theorem dX4_swap_17 : decode cX4_swap 17 = .ok (.ireturn, 1) := by decide +kernel
theorem dX4_swap_18 : decode cX4_swap 18 = .ok (.aload_n 0, 1) := by decide +kernel
theorem dX4_swap_19 : decode cX4_swap 19 = .ok (.getfield 16, 3) := by decide +kernel
theorem dX4_swap_22 : decode cX4_swap 22 = .ok (.aload_n 0, 1) := by decide +kernel
theorem dX4_swap_23 : decode cX4_swap 23 = .ok (.getfield 12, 3) := by decide +kernel
theorem dX4_swap_26 : decode cX4_swap 26 = .ok (.invokevirtual 180, 3) := by decide +kernel
theorem dX4_swap_29 : decode cX4_swap 29 = .ok (.aload_n 0, 1) := by decide +kernel
theorem dX4_swap_30 : decode cX4_swap 30 = .ok (.getfield 16, 3) := by decide +kernel
theorem dX4_swap_33 : decode cX4_swap 33 = .ok (.iload_n 1, 1) := by decide +kernel
theorem dX4_swap_34 : decode cX4_swap 34 = .ok (.invokevirtual 198, 3) := by decide +kernel
theorem dX4_swap_37 : decode cX4_swap 37 = .ok (.istore_n 3, 1) := by decide +kernel
theorem dX4_swap_38 : decode cX4_swap 38 = .ok (.iconst (-1), 1) := by decide +kernel
theorem dX4_swap_39 : decode cX4_swap 39 = .ok (.istore 4, 2) := by decide +kernel
theorem dX4_swap_41 : decode cX4_swap 41 = .ok (.iconst 0, 1) := by decide +kernel
theorem dX4_swap_42 : decode cX4_swap 42 = .ok (.istore 5, 2) := by decide +kernel
theorem dX4_swap_44 : decode cX4_swap 44 = .ok (.iload 5, 2) := by decide +kernel
theorem dX4_swap_46 : decode cX4_swap 46 = .ok (.aload_n 0, 1) := by decide +kernel
theorem dX4_swap_47 : decode cX4_swap 47 = .ok (.getfield 12, 3) := by decide +kernel
theorem dX4_swap_50 : decode cX4_swap 50 = .ok (.getfield 151, 3) := by decide +kernel
theorem dX4_swap_53 : decode cX4_swap 53 = .ok (.if_icmp .ge 63, 3) := by decide +kernel
theorem dX4_swap_56 : decode cX4_swap 56 = .ok (.iload 5, 2) := by decide +kernel
theorem dX4_swap_58 : decode cX4_swap 58 = .ok (.iconst 1, 1) := by decide +kernel
theorem dX4_swap_59 : decode cX4_swap 59 = .ok (.iadd, 1) := by decide +kernel
theorem dX4_swap_60 : decode cX4_swap 60 = .ok (.istore 6, 2) := by decide +kernel
theorem dX4_swap_62 : decode cX4_swap 62 = .ok (.iload 6, 2) := by decide +kernel
theorem dX4_swap_64 : decode cX4_swap 64 = .ok (.aload_n 0, 1) := by decide +kernel
theorem dX4_swap_65 : decode cX4_swap 65 = .ok (.getfield 12, 3) := by decide +kernel
theorem dX4_swap_68 : decode cX4_swap 68 = .ok (.getfield 151, 3) := by decide +kernel
theorem dX4_swap_71 : decode cX4_swap 71 = .ok (.if_icmp .ge 39, 3) := by decide +kernel
theorem dX4_swap_74 : decode cX4_swap 74 = .ok (.aload_n 0, 1) := by decide +kernel
theorem dX4_swap_75 : decode cX4_swap 75 = .ok (.iload 5, 2) := by decide +kernel
theorem dX4_swap_77 : decode cX4_swap 77 = .ok (.iload 6, 2) := by decide +kernel
theorem dX4_swap_79 : decode cX4_swap 79 = .ok (.iload_n 1, 1) := by decide +kernel
theorem dX4_swap_80 : decode cX4_swap 80 = .ok (.invokevirtual 212, 3) := by decide +kernel
theorem dX4_swap_83 : decode cX4_swap 83 = .ok (.istore 7, 2) := by decide +kernel
theorem dX4_swap_85 : decode cX4_swap 85 = .ok (.iload 7, 2) := by decide +kernel
theorem dX4_swap_87 : decode cX4_swap 87 = .ok (.iload_n 3, 1) := by decide +kernel
theorem dX4_swap_88 : decode cX4_swap 88 = .ok (.if_icmp .le 16, 3) := by decide +kernel
theorem dX4_swap_91 : decode cX4_swap 91 = .ok (.bipush 10, 2) := by decide +kernel
theorem dX4_swap_93 : decode cX4_swap 93 = .ok (.iload 5, 2) := by decide +kernel
theorem dX4_swap_95 : decode cX4_swap 95 = .ok (.imul, 1) := by decide +kernel
theorem dX4_swap_96 : decode cX4_swap 96 = .ok (.iload 6, 2) := by decide +kernel
theorem dX4_swap_98 : decode cX4_swap 98 = .ok (.iadd, 1) := by decide +kernel
theorem dX4_swap_99 : decode cX4_swap 99 = .ok (.istore 4, 2) := by decide +kernel
theorem dX4_swap_101 : decode cX4_swap 101 = .ok (.iload 7, 2) := by decide +kernel
theorem dX4_swap_103 : decode cX4_swap 103 = .ok (.istore_n 3, 1) := by decide +kernel
theorem dX4_swap_104 : decode cX4_swap 104 = .ok (.iinc 6 1, 3) := by decide +kernel
theorem dX4_swap_107 : decode cX4_swap 107 = .ok (.goto (-45), 3) := by decide +kernel
theorem dX4_swap_110 : decode cX4_swap 110 = .ok (.iinc 5 1, 3) := by decide +kernel
theorem dX4_swap_113 : decode cX4_swap 113 = .ok (.goto (-69), 3) := by decide +kernel
theorem dX4_swap_116 : decode cX4_swap 116 = .ok (.iload 4, 2) := by decide +kernel
theorem dX4_swap_118 : decode cX4_swap 118 = .ok (.iconst (-1), 1) := by decide +kernel
theorem dX4_swap_119 : decode cX4_swap 119 = .ok (.if_icmp .ne 12, 3) := by decide +kernel
theorem dX4_swap_122 : decode cX4_swap 122 = .ok (.aload_n 0, 1) := by decide +kernel
theorem dX4_swap_123 : decode cX4_swap 123 = .ok (.ldc 190, 2) := by decide +kernel
theorem dX4_swap_125 : decode cX4_swap 125 = .ok (.invokevirtual 54, 3) := by decide +kernel
theorem dX4_swap_128 : decode cX4_swap 128 = .ok (.goto 5, 3) := by decide +kernel
theorem dX4_swap_131 : decode cX4_swap 131 = .ok (.iload 4, 2) := by decide +kernel
theorem dX4_swap_133 : decode cX4_swap 133 = .ok (.ireturn, 1) := by decide +kernel
set_option maxRecDepth 20000 in
theorem ggX4_law_X4_refusal : GoodIn wsX4_law wsX4_refusal := goodIn_r _ [7, 8, 9, 10, 11, 6, 12, 13, 14, 15, 16, 2, 17, 109, 110, 111, 112, 113, 114, 115, 116, 117, 118, 119, 120, 121, 122, 123, 124, 125, 126, 127, 128, 129, 130] (by decide +kernel) (by decide +kernel)
set_option maxRecDepth 20000 in
theorem gX4_law_X4_refusal : GoodIn wsX4_law (wsV RX4 157 RX4 yX4_refusal wsX4_refusal) := goodIn_app (goodIn_of _ (by decide +kernel)) ggX4_law_X4_refusal
set_option maxRecDepth 20000 in
theorem ggX4_law_X4_found : GoodIn wsX4_law wsX4_found := goodIn_r _ [21, 8, 22, 10, 11, 6, 12, 109, 110, 111, 112, 113, 114, 115] (by decide +kernel) (by decide +kernel)
set_option maxRecDepth 20000 in
theorem gX4_law_X4_found : GoodIn wsX4_law (wsV RX4 54 RX4 yX4_found wsX4_found) := goodIn_app (goodIn_of _ (by decide +kernel)) ggX4_law_X4_found
set_option maxRecDepth 20000 in
theorem ggX4_law_X0_take : GoodIn wsX4_law wsX0_take := goodIn_r _ [27, 28, 29, 30, 31, 32, 33, 34, 35, 36, 37, 38, 39, 40, 41, 42, 43, 44, 45, 116, 117, 118, 119, 120, 121, 122, 123, 124, 125, 126, 127, 128, 129, 130] (by decide +kernel) (by decide +kernel)
set_option maxRecDepth 20000 in
theorem gX4_law_X0_take : GoodIn wsX4_law (wsV RX4 180 RX0 yX0_take wsX0_take) := goodIn_app (goodIn_of _ (by decide +kernel)) ggX4_law_X0_take
set_option maxRecDepth 20000 in
theorem ggX4_law_X0_setAllKinds : GoodIn wsX4_law wsX0_setAllKinds := goodIn_r _ [49, 40, 28, 116, 117, 118, 119, 120, 121, 122, 123, 124, 125, 126, 127, 128, 129, 130] (by decide +kernel) (by decide +kernel)
set_option maxRecDepth 20000 in
theorem gX4_law_X0_setAllKinds : GoodIn wsX4_law (wsV RX4 216 RX0 yX0_setAllKinds wsX0_setAllKinds) := goodIn_app (goodIn_of _ (by decide +kernel)) ggX4_law_X0_setAllKinds
set_option maxRecDepth 20000 in
theorem ggX4_law_X0_holdingBehind : GoodIn wsX4_law wsX0_holdingBehind := goodIn_r _ [53, 39, 54, 55, 56, 26, 57, 43, 58, 40, 33, 37, 59, 60, 61, 62, 63, 64, 65, 66, 67, 68, 69, 44, 41, 42, 70, 6, 71, 72, 73, 74, 75, 28, 34, 35, 76, 77, 78, 79, 80, 81, 82, 83, 84, 85, 86, 87, 88, 89, 90, 91, 92, 93, 94, 95, 96, 97, 98, 99, 100, 101, 36, 102, 103, 104, 105, 106, 107, 108, 116, 117, 118, 119, 120, 121, 122, 123, 124, 125, 126, 127, 128, 129, 130] (by decide +kernel) (by decide +kernel)
set_option maxRecDepth 20000 in
theorem gX4_law_X0_holdingBehind : GoodIn wsX4_law (wsV RX4 198 RX0 yX0_holdingBehind wsX0_holdingBehind) := goodIn_app (goodIn_of _ (by decide +kernel)) ggX4_law_X0_holdingBehind
theorem dX4_law_0 : decode cX4_law 0 = .ok (.aload_n 0, 1) := by decide +kernel
theorem dX4_law_1 : decode cX4_law 1 = .ok (.iload_n 1, 1) := by decide +kernel
theorem dX4_law_2 : decode cX4_law 2 = .ok (.bipush 100, 2) := by decide +kernel
theorem dX4_law_4 : decode cX4_law 4 = .ok (.invokevirtual 157, 3) := by decide +kernel
theorem dX4_law_7 : decode cX4_law 7 = .ok (.istore_n 2, 1) := by decide +kernel
theorem dX4_law_8 : decode cX4_law 8 = .ok (.iload_n 2, 1) := by decide +kernel
theorem dX4_law_9 : decode cX4_law 9 = .ok (.ifCond .eq 9, 3) := by decide +kernel
theorem dX4_law_12 : decode cX4_law 12 = .ok (.aload_n 0, 1) := by decide +kernel
theorem dX4_law_13 : decode cX4_law 13 = .ok (.iload_n 2, 1) := by decide +kernel
theorem dX4_law_14 : decode cX4_law 14 = .ok (.invokevirtual 54, 3) := by decide +kernel
theorem dX4_law_17 : decode cX4_law 17 = .ok (.ireturn, 1) := by decide +kernel
theorem dX4_law_18 : decode cX4_law 18 = .ok (.iconst 0, 1) := by decide +kernel
theorem dX4_law_19 : decode cX4_law 19 = .ok (.istore_n 3, 1) := by decide +kernel
theorem dX4_law_20 : decode cX4_law 20 = .ok (.iconst (-1), 1) := by decide +kernel
theorem dX4_law_21 : decode cX4_law 21 = .ok (.istore 4, 2) := by decide +kernel
theorem dX4_law_23 : decode cX4_law 23 = .ok (.iconst 0, 1) := by decide +kernel
theorem dX4_law_24 : decode cX4_law 24 = .ok (.istore 5, 2) := by decide +kernel
theorem dX4_law_26 : decode cX4_law 26 = .ok (.iload 5, 2) := by decide +kernel
theorem dX4_law_28 : decode cX4_law 28 = .ok (.bipush 7, 2) := by decide +kernel
theorem dX4_law_30 : decode cX4_law 30 = .ok (.if_icmp .ge 53, 3) := by decide +kernel
theorem dX4_law_33 : decode cX4_law 33 = .ok (.aload_n 0, 1) := by decide +kernel
theorem dX4_law_34 : decode cX4_law 34 = .ok (.getfield 16, 3) := by decide +kernel
theorem dX4_law_37 : decode cX4_law 37 = .ok (.aload_n 0, 1) := by decide +kernel
theorem dX4_law_38 : decode cX4_law 38 = .ok (.getfield 12, 3) := by decide +kernel
theorem dX4_law_41 : decode cX4_law 41 = .ok (.invokevirtual 180, 3) := by decide +kernel
theorem dX4_law_44 : decode cX4_law 44 = .ok (.aload_n 0, 1) := by decide +kernel
theorem dX4_law_45 : decode cX4_law 45 = .ok (.getfield 16, 3) := by decide +kernel
theorem dX4_law_48 : decode cX4_law 48 = .ok (.iload 5, 2) := by decide +kernel
theorem dX4_law_50 : decode cX4_law 50 = .ok (.invokevirtual 216, 3) := by decide +kernel
theorem dX4_law_53 : decode cX4_law 53 = .ok (.aload_n 0, 1) := by decide +kernel
theorem dX4_law_54 : decode cX4_law 54 = .ok (.getfield 16, 3) := by decide +kernel
theorem dX4_law_57 : decode cX4_law 57 = .ok (.iload_n 1, 1) := by decide +kernel
theorem dX4_law_58 : decode cX4_law 58 = .ok (.invokevirtual 198, 3) := by decide +kernel
theorem dX4_law_61 : decode cX4_law 61 = .ok (.istore 6, 2) := by decide +kernel
theorem dX4_law_63 : decode cX4_law 63 = .ok (.iload 6, 2) := by decide +kernel
theorem dX4_law_65 : decode cX4_law 65 = .ok (.iload 4, 2) := by decide +kernel
theorem dX4_law_67 : decode cX4_law 67 = .ok (.if_icmp .le 10, 3) := by decide +kernel
theorem dX4_law_70 : decode cX4_law 70 = .ok (.iload 5, 2) := by decide +kernel
theorem dX4_law_72 : decode cX4_law 72 = .ok (.istore_n 3, 1) := by decide +kernel
theorem dX4_law_73 : decode cX4_law 73 = .ok (.iload 6, 2) := by decide +kernel
theorem dX4_law_75 : decode cX4_law 75 = .ok (.istore 4, 2) := by decide +kernel
theorem dX4_law_77 : decode cX4_law 77 = .ok (.iinc 5 1, 3) := by decide +kernel
theorem dX4_law_80 : decode cX4_law 80 = .ok (.goto (-54), 3) := by decide +kernel
theorem dX4_law_83 : decode cX4_law 83 = .ok (.iload_n 3, 1) := by decide +kernel
theorem dX4_law_84 : decode cX4_law 84 = .ok (.ireturn, 1) := by decide +kernel
set_option maxRecDepth 20000 in
theorem ggX4_enemy_X4_refusalOfEnemy : GoodIn wsX4_enemy wsX4_refusalOfEnemy := goodIn_r _ [5, 6, 7, 8, 9, 10, 11, 4, 12, 13, 14, 15, 16, 17, 18, 19, 20, 21, 22, 23, 24, 25, 26, 27, 28, 29, 120, 121, 122, 123, 124, 125, 126, 127, 128, 129, 130, 131, 132, 133, 134, 135, 136, 137, 138, 139, 140, 141] (by decide +kernel) (by decide +kernel)
set_option maxRecDepth 20000 in
theorem gX4_enemy_X4_refusalOfEnemy : GoodIn wsX4_enemy (wsV RX4 220 RX4 yX4_refusalOfEnemy wsX4_refusalOfEnemy) := goodIn_app (goodIn_of _ (by decide +kernel)) ggX4_enemy_X4_refusalOfEnemy
set_option maxRecDepth 20000 in
theorem ggX4_enemy_X4_worstSet : GoodIn wsX4_enemy wsX4_worstSet := goodIn_r _ [33, 7, 8, 23, 24, 25, 26, 27, 28, 29, 34, 35, 36, 4, 37, 38, 39, 40, 41, 42, 43, 44, 45, 46, 47, 48, 49, 50, 51, 52, 53, 54, 55, 56, 57, 58, 59, 60, 61, 62, 63, 64, 65, 66, 67, 68, 69, 70, 71, 72, 73, 74, 75, 76, 77, 78, 79, 80, 81, 82, 83, 84, 85, 86, 87, 88, 89, 90, 91, 92, 93, 94, 95, 96, 97, 98, 99, 100, 101, 102, 103, 104, 105, 106, 107, 108, 109, 110, 111, 112, 113, 114, 120, 121, 122, 123, 124, 125, 126, 127, 128, 129, 130, 131, 132, 133, 134, 135, 136, 137, 138, 139, 140, 141] (by decide +kernel) (by decide +kernel)
set_option maxRecDepth 20000 in
theorem gX4_enemy_X4_worstSet : GoodIn wsX4_enemy (wsV RX4 223 RX4 yX4_worstSet wsX4_worstSet) := goodIn_app (goodIn_of _ (by decide +kernel)) ggX4_enemy_X4_worstSet
set_option maxRecDepth 20000 in
theorem ggX4_enemy_X4_found : GoodIn wsX4_enemy wsX4_found := goodIn_r _ [118, 6, 119, 10, 11, 4, 12, 120, 121, 122, 123, 124, 125, 126] (by decide +kernel) (by decide +kernel)
set_option maxRecDepth 20000 in
theorem gX4_enemy_X4_found : GoodIn wsX4_enemy (wsV RX4 54 RX4 yX4_found wsX4_found) := goodIn_app (goodIn_of _ (by decide +kernel)) ggX4_enemy_X4_found
theorem dX4_enemy_0 : decode cX4_enemy 0 = .ok (.aload_n 0, 1) := by decide +kernel
theorem dX4_enemy_1 : decode cX4_enemy 1 = .ok (.iload_n 1, 1) := by decide +kernel
theorem dX4_enemy_2 : decode cX4_enemy 2 = .ok (.iload_n 2, 1) := by decide +kernel
theorem dX4_enemy_3 : decode cX4_enemy 3 = .ok (.invokevirtual 220, 3) := by decide +kernel
theorem dX4_enemy_6 : decode cX4_enemy 6 = .ok (.istore_n 3, 1) := by decide +kernel
theorem dX4_enemy_7 : decode cX4_enemy 7 = .ok (.iload_n 3, 1) := by decide +kernel
theorem dX4_enemy_8 : decode cX4_enemy 8 = .ok (.ifCond .ne 12, 3) := by decide +kernel
theorem dX4_enemy_11 : decode cX4_enemy 11 = .ok (.aload_n 0, 1) := by decide +kernel
theorem dX4_enemy_12 : decode cX4_enemy 12 = .ok (.iload_n 1, 1) := by decide +kernel
theorem dX4_enemy_13 : decode cX4_enemy 13 = .ok (.iload_n 2, 1) := by decide +kernel
theorem dX4_enemy_14 : decode cX4_enemy 14 = .ok (.invokevirtual 223, 3) := by decide +kernel
theorem dX4_enemy_17 : decode cX4_enemy 17 = .ok (.goto 8, 3) := by decide +kernel
theorem dX4_enemy_20 : decode cX4_enemy 20 = .ok (.aload_n 0, 1) := by decide +kernel
theorem dX4_enemy_21 : decode cX4_enemy 21 = .ok (.iload_n 3, 1) := by decide +kernel
theorem dX4_enemy_22 : decode cX4_enemy 22 = .ok (.invokevirtual 54, 3) := by decide +kernel
theorem dX4_enemy_25 : decode cX4_enemy 25 = .ok (.ireturn, 1) := by decide +kernel
set_option maxRecDepth 20000 in
theorem ggX4_worst_X4_refusalOfEnemy : GoodIn wsX4_worst wsX4_refusalOfEnemy := goodIn_r _ [5, 6, 7, 8, 9, 10, 11, 4, 12, 13, 14, 15, 16, 17, 18, 19, 20, 21, 22, 23, 24, 25, 26, 27, 28, 29, 120, 121, 122, 123, 124, 125, 126, 127, 128, 129, 130, 131, 132, 133, 134, 135, 136, 137, 138, 139, 140, 141] (by decide +kernel) (by decide +kernel)
set_option maxRecDepth 20000 in
theorem gX4_worst_X4_refusalOfEnemy : GoodIn wsX4_worst (wsV RX4 220 RX4 yX4_refusalOfEnemy wsX4_refusalOfEnemy) := goodIn_app (goodIn_of _ (by decide +kernel)) ggX4_worst_X4_refusalOfEnemy
set_option maxRecDepth 20000 in
theorem ggX4_worst_X4_worstSet : GoodIn wsX4_worst wsX4_worstSet := goodIn_r _ [33, 7, 8, 23, 24, 25, 26, 27, 28, 29, 34, 35, 36, 4, 37, 38, 39, 40, 41, 42, 43, 44, 45, 46, 47, 48, 49, 50, 51, 52, 53, 54, 55, 56, 57, 58, 59, 60, 61, 62, 63, 64, 65, 66, 67, 68, 69, 70, 71, 72, 73, 74, 75, 76, 77, 78, 79, 80, 81, 82, 83, 84, 85, 86, 87, 88, 89, 90, 91, 92, 93, 94, 95, 96, 97, 98, 99, 100, 101, 102, 103, 104, 105, 106, 107, 108, 109, 110, 111, 112, 113, 114, 120, 121, 122, 123, 124, 125, 126, 127, 128, 129, 130, 131, 132, 133, 134, 135, 136, 137, 138, 139, 140, 141] (by decide +kernel) (by decide +kernel)
set_option maxRecDepth 20000 in
theorem gX4_worst_X4_worstSet : GoodIn wsX4_worst (wsV RX4 223 RX4 yX4_worstSet wsX4_worstSet) := goodIn_app (goodIn_of _ (by decide +kernel)) ggX4_worst_X4_worstSet
set_option maxRecDepth 20000 in
theorem ggX4_worst_X4_holdingOpened : GoodIn wsX4_worst wsX4_holdingOpened := goodIn_r _ [37, 38, 7, 8, 39, 40, 41, 42, 43, 44, 45, 46, 47, 48, 49, 50, 51, 52, 53, 54, 55, 56, 57, 58, 59, 60, 61, 62, 63, 64, 65, 66, 67, 68, 69, 70, 71, 72, 73, 74, 75, 76, 77, 78, 79, 80, 81, 82, 4, 83, 84, 85, 86, 87, 88, 89, 90, 91, 92, 93, 94, 95, 96, 97, 98, 99, 100, 101, 102, 103, 104, 105, 106, 107, 108, 109, 110, 111, 112, 113, 114, 24, 25, 26, 27, 28, 29, 120, 121, 122, 123, 124, 125, 126, 127, 128, 129, 130, 131, 132, 133, 134, 135, 136, 137, 138, 139, 140, 141] (by decide +kernel) (by decide +kernel)
set_option maxRecDepth 20000 in
theorem gX4_worst_X4_holdingOpened : GoodIn wsX4_worst (wsV RX4 226 RX4 yX4_holdingOpened wsX4_holdingOpened) := goodIn_app (goodIn_of _ (by decide +kernel)) ggX4_worst_X4_holdingOpened
set_option maxRecDepth 20000 in
theorem ggX4_worst_X4_found : GoodIn wsX4_worst wsX4_found := goodIn_r _ [118, 6, 119, 10, 11, 4, 12, 120, 121, 122, 123, 124, 125, 126] (by decide +kernel) (by decide +kernel)
set_option maxRecDepth 20000 in
theorem gX4_worst_X4_found : GoodIn wsX4_worst (wsV RX4 54 RX4 yX4_found wsX4_found) := goodIn_app (goodIn_of _ (by decide +kernel)) ggX4_worst_X4_found
theorem dX4_worst_0 : decode cX4_worst 0 = .ok (.aload_n 0, 1) := by decide +kernel
theorem dX4_worst_1 : decode cX4_worst 1 = .ok (.iload_n 1, 1) := by decide +kernel
theorem dX4_worst_2 : decode cX4_worst 2 = .ok (.iload_n 2, 1) := by decide +kernel
theorem dX4_worst_3 : decode cX4_worst 3 = .ok (.invokevirtual 220, 3) := by decide +kernel
theorem dX4_worst_6 : decode cX4_worst 6 = .ok (.istore_n 3, 1) := by decide +kernel
theorem dX4_worst_7 : decode cX4_worst 7 = .ok (.iload_n 3, 1) := by decide +kernel
theorem dX4_worst_8 : decode cX4_worst 8 = .ok (.ifCond .ne 17, 3) := by decide +kernel
theorem dX4_worst_11 : decode cX4_worst 11 = .ok (.aload_n 0, 1) := by decide +kernel
theorem dX4_worst_12 : decode cX4_worst 12 = .ok (.aload_n 0, 1) := by decide +kernel
theorem dX4_worst_13 : decode cX4_worst 13 = .ok (.iload_n 1, 1) := by decide +kernel
theorem dX4_worst_14 : decode cX4_worst 14 = .ok (.iload_n 2, 1) := by decide +kernel
theorem dX4_worst_15 : decode cX4_worst 15 = .ok (.invokevirtual 223, 3) := by decide +kernel
theorem dX4_worst_18 : decode cX4_worst 18 = .ok (.iload_n 2, 1) := by decide +kernel
theorem dX4_worst_19 : decode cX4_worst 19 = .ok (.invokevirtual 226, 3) := by decide +kernel
theorem dX4_worst_22 : decode cX4_worst 22 = .ok (.goto 8, 3) := by decide +kernel
theorem dX4_worst_25 : decode cX4_worst 25 = .ok (.aload_n 0, 1) := by decide +kernel
theorem dX4_worst_26 : decode cX4_worst 26 = .ok (.iload_n 3, 1) := by decide +kernel
theorem dX4_worst_27 : decode cX4_worst 27 = .ok (.invokevirtual 54, 3) := by decide +kernel
theorem dX4_worst_30 : decode cX4_worst 30 = .ok (.ireturn, 1) := by decide +kernel
set_option maxRecDepth 20000 in
theorem ggX4_least_X4_refusalOfDeed : GoodIn wsX4_least wsX4_refusalOfDeed := goodIn_r _ [8, 1, 9, 10, 11, 12, 13, 14, 15, 16, 7, 17, 18, 19, 20, 21, 22, 23, 24, 25, 26, 27, 28, 123, 124, 125, 126, 127, 128, 129, 130, 131, 132, 133, 134, 135, 136, 137, 138, 139, 140, 141, 142, 143, 144] (by decide +kernel) (by decide +kernel)
set_option maxRecDepth 20000 in
theorem gX4_least_X4_refusalOfDeed : GoodIn wsX4_least (wsV RX4 201 RX4 yX4_refusalOfDeed wsX4_refusalOfDeed) := goodIn_app (goodIn_of _ (by decide +kernel)) ggX4_least_X4_refusalOfDeed
set_option maxRecDepth 20000 in
theorem ggX4_least_X4_found : GoodIn wsX4_least wsX4_found := goodIn_r _ [32, 9, 33, 23, 16, 7, 17, 123, 124, 125, 126, 127, 128, 129] (by decide +kernel) (by decide +kernel)
set_option maxRecDepth 20000 in
theorem gX4_least_X4_found : GoodIn wsX4_least (wsV RX4 54 RX4 yX4_found wsX4_found) := goodIn_app (goodIn_of _ (by decide +kernel)) ggX4_least_X4_found
set_option maxRecDepth 20000 in
theorem ggX4_least_J6_bitCount_0f7a4 : GoodIn wsX4_least wsJ6_bitCount_0f7a4 := goodIn_r _ [37, 38, 39, 40] (by decide +kernel) (by decide +kernel)
set_option maxRecDepth 20000 in
theorem gX4_least_J6_bitCount_0f7a4 : GoodIn wsX4_least (va_wsS RX4 229 yJ6_bitCount_0f7a4 wsJ6_bitCount_0f7a4) := goodIn_app (goodIn_of _ (by decide +kernel)) ggX4_least_J6_bitCount_0f7a4
set_option maxRecDepth 20000 in
theorem ggX4_least_X4_endsOpened : GoodIn wsX4_least wsX4_endsOpened := goodIn_r _ [44, 45, 1, 2, 46, 47, 48, 13, 49, 50, 51, 52, 53, 54, 55, 56, 57, 58, 59, 60, 61, 15, 62, 63, 64, 65, 66, 67, 68, 69, 70, 71, 72, 73, 74, 75, 76, 77, 78, 79, 7, 80, 81, 82, 83, 84, 85, 86, 87, 88, 89, 90, 91, 92, 93, 94, 95, 96, 97, 98, 99, 100, 101, 102, 103, 104, 105, 106, 107, 108, 109, 110, 111, 112, 113, 114, 115, 116, 117, 118, 119, 120, 121, 122, 123, 124, 125, 126, 127, 128, 129, 130, 131, 132, 133, 134, 135, 136, 137, 138, 139, 140, 141, 142, 143, 144] (by decide +kernel) (by decide +kernel)
set_option maxRecDepth 20000 in
theorem gX4_least_X4_endsOpened : GoodIn wsX4_least (wsV RX4 234 RX4 yX4_endsOpened wsX4_endsOpened) := goodIn_app (goodIn_of _ (by decide +kernel)) ggX4_least_X4_endsOpened
theorem dX4_least_0 : decode cX4_least 0 = .ok (.aload_n 0, 1) := by decide +kernel
theorem dX4_least_1 : decode cX4_least 1 = .ok (.iload_n 1, 1) := by decide +kernel
theorem dX4_least_2 : decode cX4_least 2 = .ok (.iload_n 2, 1) := by decide +kernel
theorem dX4_least_3 : decode cX4_least 3 = .ok (.invokevirtual 201, 3) := by decide +kernel
theorem dX4_least_6 : decode cX4_least 6 = .ok (.istore_n 3, 1) := by decide +kernel
theorem dX4_least_7 : decode cX4_least 7 = .ok (.iload_n 3, 1) := by decide +kernel
theorem dX4_least_8 : decode cX4_least 8 = .ok (.ifCond .eq 9, 3) := by decide +kernel
theorem dX4_least_11 : decode cX4_least 11 = .ok (.aload_n 0, 1) := by decide +kernel
theorem dX4_least_12 : decode cX4_least 12 = .ok (.iload_n 3, 1) := by decide +kernel
theorem dX4_least_13 : decode cX4_least 13 = .ok (.invokevirtual 54, 3) := by decide +kernel
theorem dX4_least_16 : decode cX4_least 16 = .ok (.ireturn, 1) := by decide +kernel
theorem dX4_least_17 : decode cX4_least 17 = .ok (.bipush 7, 2) := by decide +kernel
theorem dX4_least_19 : decode cX4_least 19 = .ok (.istore 4, 2) := by decide +kernel
theorem dX4_least_21 : decode cX4_least 21 = .ok (.iconst 0, 1) := by decide +kernel
theorem dX4_least_22 : decode cX4_least 22 = .ok (.istore 5, 2) := by decide +kernel
theorem dX4_least_24 : decode cX4_least 24 = .ok (.iload 5, 2) := by decide +kernel
theorem dX4_least_26 : decode cX4_least 26 = .ok (.bipush 64, 2) := by decide +kernel
theorem dX4_least_28 : decode cX4_least 28 = .ok (.if_icmp .ge 51, 3) := by decide +kernel
theorem dX4_least_31 : decode cX4_least 31 = .ok (.iload 5, 2) := by decide +kernel
theorem dX4_least_33 : decode cX4_least 33 = .ok (.invokestatic 229, 3) := by decide +kernel
theorem dX4_least_36 : decode cX4_least 36 = .ok (.istore 6, 2) := by decide +kernel
theorem dX4_least_38 : decode cX4_least 38 = .ok (.iload 5, 2) := by decide +kernel
theorem dX4_least_40 : decode cX4_least 40 = .ok (.aload_n 0, 1) := by decide +kernel
theorem dX4_least_41 : decode cX4_least 41 = .ok (.getfield 12, 3) := by decide +kernel
theorem dX4_least_44 : decode cX4_least 44 = .ok (.getfield 128, 3) := by decide +kernel
theorem dX4_least_47 : decode cX4_least 47 = .ok (.iand, 1) := by decide +kernel
theorem dX4_least_48 : decode cX4_least 48 = .ok (.ifCond .ne 25, 3) := by decide +kernel
theorem dX4_least_51 : decode cX4_least 51 = .ok (.iload 6, 2) := by decide +kernel
theorem dX4_least_53 : decode cX4_least 53 = .ok (.iload 4, 2) := by decide +kernel
theorem dX4_least_55 : decode cX4_least 55 = .ok (.if_icmp .ge 18, 3) := by decide +kernel
theorem dX4_least_58 : decode cX4_least 58 = .ok (.aload_n 0, 1) := by decide +kernel
theorem dX4_least_59 : decode cX4_least 59 = .ok (.iload 5, 2) := by decide +kernel
theorem dX4_least_61 : decode cX4_least 61 = .ok (.iload_n 1, 1) := by decide +kernel
theorem dX4_least_62 : decode cX4_least 62 = .ok (.iload_n 2, 1) := by decide +kernel
theorem dX4_least_63 : decode cX4_least 63 = .ok (.invokevirtual 234, 3) := by decide +kernel
theorem dX4_least_66 : decode cX4_least 66 = .ok (.ifCond .eq 7, 3) := by decide +kernel
theorem dX4_least_69 : decode cX4_least 69 = .ok (.iload 6, 2) := by decide +kernel
theorem dX4_least_71 : decode cX4_least 71 = .ok (.istore 4, 2) := by decide +kernel
theorem dX4_least_73 : decode cX4_least 73 = .ok (.iinc 5 1, 3) := by decide +kernel
theorem dX4_least_76 : decode cX4_least 76 = .ok (.goto (-52), 3) := by decide +kernel
theorem dX4_least_79 : decode cX4_least 79 = .ok (.iload 4, 2) := by decide +kernel
theorem dX4_least_81 : decode cX4_least 81 = .ok (.bipush 6, 2) := by decide +kernel
theorem dX4_least_83 : decode cX4_least 83 = .ok (.if_icmp .gt 8, 3) := by decide +kernel
theorem dX4_least_86 : decode cX4_least 86 = .ok (.iload 4, 2) := by decide +kernel
theorem dX4_least_88 : decode cX4_least 88 = .ok (.goto 9, 3) := by decide +kernel
theorem dX4_least_91 : decode cX4_least 91 = .ok (.aload_n 0, 1) := by decide +kernel
theorem dX4_least_92 : decode cX4_least 92 = .ok (.ldc 190, 2) := by decide +kernel
theorem dX4_least_94 : decode cX4_least 94 = .ok (.invokevirtual 54, 3) := by decide +kernel
theorem dX4_least_97 : decode cX4_least 97 = .ok (.ireturn, 1) := by decide +kernel
set_option maxRecDepth 20000 in
theorem ggX4_nail_X4_refusal : GoodIn wsX4_nail wsX4_refusal := goodIn_r _ [8, 9, 10, 11, 12, 7, 13, 14, 15, 16, 17, 1, 18, 117, 118, 119, 120, 121, 122, 123, 124, 125, 126, 127, 128, 129, 130, 131, 132, 133, 134, 135, 136, 137, 138] (by decide +kernel) (by decide +kernel)
set_option maxRecDepth 20000 in
theorem gX4_nail_X4_refusal : GoodIn wsX4_nail (wsV RX4 157 RX4 yX4_refusal wsX4_refusal) := goodIn_app (goodIn_of _ (by decide +kernel)) ggX4_nail_X4_refusal
set_option maxRecDepth 20000 in
theorem ggX4_nail_X4_found : GoodIn wsX4_nail wsX4_found := goodIn_r _ [22, 9, 23, 11, 12, 7, 13, 117, 118, 119, 120, 121, 122, 123] (by decide +kernel) (by decide +kernel)
set_option maxRecDepth 20000 in
theorem gX4_nail_X4_found : GoodIn wsX4_nail (wsV RX4 54 RX4 yX4_found wsX4_found) := goodIn_app (goodIn_of _ (by decide +kernel)) ggX4_nail_X4_found
set_option maxRecDepth 20000 in
theorem ggX4_nail_X4_has : GoodIn wsX4_nail wsX4_has := goodIn_r _ [26] (by decide +kernel) (by decide +kernel)
set_option maxRecDepth 20000 in
theorem gX4_nail_X4_has : GoodIn wsX4_nail (va_wsS RX4 131 yX4_has wsX4_has) := goodIn_app (goodIn_of _ (by decide +kernel)) ggX4_nail_X4_has
set_option maxRecDepth 20000 in
theorem ggX4_nail_X4_worstBesides : GoodIn wsX4_nail wsX4_worstBesides := goodIn_r _ [30, 1, 2, 31, 32, 33, 34, 24, 25, 7, 26, 35, 36, 37, 38, 39, 40, 41, 42, 43, 44, 45, 46, 47, 48, 49, 50, 51, 52, 53, 54, 55, 56, 57, 58, 59, 60, 61, 62, 63, 64, 65, 66, 67, 68, 69, 70, 71, 72, 73, 74, 75, 76, 77, 78, 79, 80, 81, 82, 83, 84, 85, 86, 87, 88, 89, 90, 91, 92, 93, 94, 95, 96, 97, 98, 99, 100, 101, 102, 103, 104, 105, 106, 107, 108, 109, 110, 111, 112, 113, 114, 115, 116, 117, 118, 119, 120, 121, 122, 123, 124, 125, 126, 127, 128, 129, 130, 131, 132, 133, 134, 135, 136, 137, 138] (by decide +kernel) (by decide +kernel)
set_option maxRecDepth 20000 in
theorem gX4_nail_X4_worstBesides : GoodIn wsX4_nail (wsV RX4 237 RX4 yX4_worstBesides wsX4_worstBesides) := goodIn_app (goodIn_of _ (by decide +kernel)) ggX4_nail_X4_worstBesides
theorem dX4_nail_0 : decode cX4_nail 0 = .ok (.aload_n 0, 1) := by decide +kernel
theorem dX4_nail_1 : decode cX4_nail 1 = .ok (.iload_n 1, 1) := by decide +kernel
theorem dX4_nail_2 : decode cX4_nail 2 = .ok (.bipush 100, 2) := by decide +kernel
theorem dX4_nail_4 : decode cX4_nail 4 = .ok (.invokevirtual 157, 3) := by decide +kernel
theorem dX4_nail_7 : decode cX4_nail 7 = .ok (.istore_n 2, 1) := by decide +kernel
theorem dX4_nail_8 : decode cX4_nail 8 = .ok (.iload_n 2, 1) := by decide +kernel
theorem dX4_nail_9 : decode cX4_nail 9 = .ok (.ifCond .eq 9, 3) := by decide +kernel
theorem dX4_nail_12 : decode cX4_nail 12 = .ok (.aload_n 0, 1) := by decide +kernel
theorem dX4_nail_13 : decode cX4_nail 13 = .ok (.iload_n 2, 1) := by decide +kernel
theorem dX4_nail_14 : decode cX4_nail 14 = .ok (.invokevirtual 54, 3) := by decide +kernel
theorem dX4_nail_17 : decode cX4_nail 17 = .ok (.ireturn, 1) := by decide +kernel
theorem dX4_nail_18 : decode cX4_nail 18 = .ok (.iconst (-1), 1) := by decide +kernel
theorem dX4_nail_19 : decode cX4_nail 19 = .ok (.istore_n 3, 1) := by decide +kernel
theorem dX4_nail_20 : decode cX4_nail 20 = .ok (.iconst (-1), 1) := by decide +kernel
theorem dX4_nail_21 : decode cX4_nail 21 = .ok (.istore 4, 2) := by decide +kernel
theorem dX4_nail_23 : decode cX4_nail 23 = .ok (.iconst 0, 1) := by decide +kernel
theorem dX4_nail_24 : decode cX4_nail 24 = .ok (.istore 5, 2) := by decide +kernel
theorem dX4_nail_26 : decode cX4_nail 26 = .ok (.iload 5, 2) := by decide +kernel
theorem dX4_nail_28 : decode cX4_nail 28 = .ok (.bipush 6, 2) := by decide +kernel
theorem dX4_nail_30 : decode cX4_nail 30 = .ok (.if_icmp .ge 47, 3) := by decide +kernel
theorem dX4_nail_33 : decode cX4_nail 33 = .ok (.aload_n 0, 1) := by decide +kernel
theorem dX4_nail_34 : decode cX4_nail 34 = .ok (.getfield 12, 3) := by decide +kernel
theorem dX4_nail_37 : decode cX4_nail 37 = .ok (.getfield 128, 3) := by decide +kernel
theorem dX4_nail_40 : decode cX4_nail 40 = .ok (.iload 5, 2) := by decide +kernel
theorem dX4_nail_42 : decode cX4_nail 42 = .ok (.invokestatic 131, 3) := by decide +kernel
theorem dX4_nail_45 : decode cX4_nail 45 = .ok (.ifCond .ne 26, 3) := by decide +kernel
theorem dX4_nail_48 : decode cX4_nail 48 = .ok (.aload_n 0, 1) := by decide +kernel
theorem dX4_nail_49 : decode cX4_nail 49 = .ok (.iload 5, 2) := by decide +kernel
theorem dX4_nail_51 : decode cX4_nail 51 = .ok (.iload_n 1, 1) := by decide +kernel
theorem dX4_nail_52 : decode cX4_nail 52 = .ok (.invokevirtual 237, 3) := by decide +kernel
theorem dX4_nail_55 : decode cX4_nail 55 = .ok (.istore 6, 2) := by decide +kernel
theorem dX4_nail_57 : decode cX4_nail 57 = .ok (.iload 6, 2) := by decide +kernel
theorem dX4_nail_59 : decode cX4_nail 59 = .ok (.iload 4, 2) := by decide +kernel
theorem dX4_nail_61 : decode cX4_nail 61 = .ok (.if_icmp .le 10, 3) := by decide +kernel
theorem dX4_nail_64 : decode cX4_nail 64 = .ok (.iload 5, 2) := by decide +kernel
theorem dX4_nail_66 : decode cX4_nail 66 = .ok (.istore_n 3, 1) := by decide +kernel
theorem dX4_nail_67 : decode cX4_nail 67 = .ok (.iload 6, 2) := by decide +kernel
theorem dX4_nail_69 : decode cX4_nail 69 = .ok (.istore 4, 2) := by decide +kernel
theorem dX4_nail_71 : decode cX4_nail 71 = .ok (.iinc 5 1, 3) := by decide +kernel
theorem dX4_nail_74 : decode cX4_nail 74 = .ok (.goto (-48), 3) := by decide +kernel
theorem dX4_nail_77 : decode cX4_nail 77 = .ok (.iload_n 3, 1) := by decide +kernel
theorem dX4_nail_78 : decode cX4_nail 78 = .ok (.iconst (-1), 1) := by decide +kernel
theorem dX4_nail_79 : decode cX4_nail 79 = .ok (.if_icmp .ne 12, 3) := by decide +kernel
theorem dX4_nail_82 : decode cX4_nail 82 = .ok (.aload_n 0, 1) := by decide +kernel
theorem dX4_nail_83 : decode cX4_nail 83 = .ok (.ldc 190, 2) := by decide +kernel
theorem dX4_nail_85 : decode cX4_nail 85 = .ok (.invokevirtual 54, 3) := by decide +kernel
theorem dX4_nail_88 : decode cX4_nail 88 = .ok (.goto 4, 3) := by decide +kernel
theorem dX4_nail_91 : decode cX4_nail 91 = .ok (.iload_n 3, 1) := by decide +kernel
theorem dX4_nail_92 : decode cX4_nail 92 = .ok (.ireturn, 1) := by decide +kernel
set_option maxRecDepth 20000 in
theorem ggX4_hang_X0_isDeed : GoodIn wsX4_hang wsX0_isDeed := goodIn_r _ [7, 8, 9, 10, 11, 34, 35, 36, 37, 38, 39, 40, 41, 42, 43, 44, 45, 46, 47, 48] (by decide +kernel) (by decide +kernel)
set_option maxRecDepth 20000 in
theorem gX4_hang_X0_isDeed : GoodIn wsX4_hang (wsV RX4 67 RX0 yX0_isDeed wsX0_isDeed) := goodIn_app (goodIn_of _ (by decide +kernel)) ggX4_hang_X0_isDeed
set_option maxRecDepth 20000 in
theorem ggX4_hang_X0_hangingOn : GoodIn wsX4_hang wsX0_hangingOn := goodIn_r _ [15, 8, 16, 17, 10, 18, 19, 20, 34, 35, 36, 37, 38, 39, 40, 41, 42, 43, 44, 45, 46, 47, 48] (by decide +kernel) (by decide +kernel)
set_option maxRecDepth 20000 in
theorem gX4_hang_X0_hangingOn : GoodIn wsX4_hang (wsV RX4 240 RX0 yX0_hangingOn wsX0_hangingOn) := goodIn_app (goodIn_of _ (by decide +kernel)) ggX4_hang_X0_hangingOn
set_option maxRecDepth 20000 in
theorem ggX4_hang_X4_found : GoodIn wsX4_hang wsX4_found := goodIn_r _ [24, 2, 25, 26, 9, 10, 11, 27, 28, 29, 30, 31, 32, 33] (by decide +kernel) (by decide +kernel)
set_option maxRecDepth 20000 in
theorem gX4_hang_X4_found : GoodIn wsX4_hang (wsV RX4 54 RX4 yX4_found wsX4_found) := goodIn_app (goodIn_of _ (by decide +kernel)) ggX4_hang_X4_found
theorem dX4_hang_0 : decode cX4_hang 0 = .ok (.aload_n 0, 1) := by decide +kernel
theorem dX4_hang_1 : decode cX4_hang 1 = .ok (.getfield 12, 3) := by decide +kernel
theorem dX4_hang_4 : decode cX4_hang 4 = .ok (.iload_n 1, 1) := by decide +kernel
theorem dX4_hang_5 : decode cX4_hang 5 = .ok (.invokevirtual 67, 3) := by decide +kernel
theorem dX4_hang_8 : decode cX4_hang 8 = .ok (.ifCond .eq 14, 3) := by decide +kernel
theorem dX4_hang_11 : decode cX4_hang 11 = .ok (.aload_n 0, 1) := by decide +kernel
theorem dX4_hang_12 : decode cX4_hang 12 = .ok (.getfield 12, 3) := by decide +kernel
theorem dX4_hang_15 : decode cX4_hang 15 = .ok (.iload_n 1, 1) := by decide +kernel
theorem dX4_hang_16 : decode cX4_hang 16 = .ok (.invokevirtual 240, 3) := by decide +kernel
theorem dX4_hang_19 : decode cX4_hang 19 = .ok (.goto 9, 3) := by decide +kernel
theorem dX4_hang_22 : decode cX4_hang 22 = .ok (.aload_n 0, 1) := by decide +kernel
theorem dX4_hang_23 : decode cX4_hang 23 = .ok (.ldc 53, 2) := by decide +kernel
theorem dX4_hang_25 : decode cX4_hang 25 = .ok (.invokevirtual 54, 3) := by decide +kernel
theorem dX4_hang_28 : decode cX4_hang 28 = .ok (.ireturn, 1) := by decide +kernel
set_option maxRecDepth 20000 in
theorem ggX4_falls_X0_isDeed : GoodIn wsX4_falls wsX0_isDeed := goodIn_r _ [7, 8, 9, 10, 11, 39, 40, 41, 42, 43, 44, 45, 46, 47, 48, 49, 50, 51, 52, 53] (by decide +kernel) (by decide +kernel)
set_option maxRecDepth 20000 in
theorem gX4_falls_X0_isDeed : GoodIn wsX4_falls (wsV RX4 67 RX0 yX0_isDeed wsX0_isDeed) := goodIn_app (goodIn_of _ (by decide +kernel)) ggX4_falls_X0_isDeed
set_option maxRecDepth 20000 in
theorem ggX4_falls_X0_fallingWith : GoodIn wsX4_falls wsX0_fallingWith := goodIn_r _ [15, 16, 17, 18, 19, 6, 20, 8, 21, 22, 10, 23, 24, 25, 39, 40, 41, 42, 43, 44, 45, 46, 47, 48, 49, 50, 51, 52, 53] (by decide +kernel) (by decide +kernel)
set_option maxRecDepth 20000 in
theorem gX4_falls_X0_fallingWith : GoodIn wsX4_falls (wsV RX4 243 RX0 yX0_fallingWith wsX0_fallingWith) := goodIn_app (goodIn_of _ (by decide +kernel)) ggX4_falls_X0_fallingWith
set_option maxRecDepth 20000 in
theorem ggX4_falls_X4_found : GoodIn wsX4_falls wsX4_found := goodIn_r _ [29, 2, 30, 31, 9, 10, 11, 32, 33, 34, 35, 36, 37, 38] (by decide +kernel) (by decide +kernel)
set_option maxRecDepth 20000 in
theorem gX4_falls_X4_found : GoodIn wsX4_falls (wsV RX4 54 RX4 yX4_found wsX4_found) := goodIn_app (goodIn_of _ (by decide +kernel)) ggX4_falls_X4_found
theorem dX4_falls_0 : decode cX4_falls 0 = .ok (.aload_n 0, 1) := by decide +kernel
theorem dX4_falls_1 : decode cX4_falls 1 = .ok (.getfield 12, 3) := by decide +kernel
theorem dX4_falls_4 : decode cX4_falls 4 = .ok (.iload_n 1, 1) := by decide +kernel
theorem dX4_falls_5 : decode cX4_falls 5 = .ok (.invokevirtual 67, 3) := by decide +kernel
theorem dX4_falls_8 : decode cX4_falls 8 = .ok (.ifCond .eq 14, 3) := by decide +kernel
theorem dX4_falls_11 : decode cX4_falls 11 = .ok (.aload_n 0, 1) := by decide +kernel
theorem dX4_falls_12 : decode cX4_falls 12 = .ok (.getfield 12, 3) := by decide +kernel
theorem dX4_falls_15 : decode cX4_falls 15 = .ok (.iload_n 1, 1) := by decide +kernel
theorem dX4_falls_16 : decode cX4_falls 16 = .ok (.invokevirtual 243, 3) := by decide +kernel
theorem dX4_falls_19 : decode cX4_falls 19 = .ok (.goto 9, 3) := by decide +kernel
theorem dX4_falls_22 : decode cX4_falls 22 = .ok (.aload_n 0, 1) := by decide +kernel
theorem dX4_falls_23 : decode cX4_falls 23 = .ok (.ldc 53, 2) := by decide +kernel
theorem dX4_falls_25 : decode cX4_falls 25 = .ok (.invokevirtual 54, 3) := by decide +kernel
theorem dX4_falls_28 : decode cX4_falls 28 = .ok (.ireturn, 1) := by decide +kernel
set_option maxRecDepth 20000 in
theorem ggX4_war_X0_peaces : GoodIn wsX4_war wsX0_peaces := goodIn_r _ [9, 10, 11, 12, 13, 14, 15, 16, 25, 26, 27, 28, 29, 30, 31, 32, 33, 34, 35, 36, 37, 38, 39] (by decide +kernel) (by decide +kernel)
set_option maxRecDepth 20000 in
theorem gX4_war_X0_peaces : GoodIn wsX4_war (wsV RX4 163 RX0 yX0_peaces wsX0_peaces) := goodIn_app (goodIn_of _ (by decide +kernel)) ggX4_war_X0_peaces
set_option maxRecDepth 20000 in
theorem ggX4_war_X4_has : GoodIn wsX4_war wsX4_has := goodIn_r _ [14] (by decide +kernel) (by decide +kernel)
set_option maxRecDepth 20000 in
theorem gX4_war_X4_has : GoodIn wsX4_war (va_wsS RX4 131 yX4_has wsX4_has) := goodIn_app (goodIn_of _ (by decide +kernel)) ggX4_war_X4_has
theorem dX4_war_0 : decode cX4_war 0 = .ok (.aload_n 0, 1) := by decide +kernel
theorem dX4_war_1 : decode cX4_war 1 = .ok (.getfield 12, 3) := by decide +kernel
theorem dX4_war_4 : decode cX4_war 4 = .ok (.aload_n 0, 1) := by decide +kernel
theorem dX4_war_5 : decode cX4_war 5 = .ok (.getfield 12, 3) := by decide +kernel
theorem dX4_war_8 : decode cX4_war 8 = .ok (.getfield 119, 3) := by decide +kernel
theorem dX4_war_11 : decode cX4_war 11 = .ok (.invokevirtual 163, 3) := by decide +kernel
theorem dX4_war_14 : decode cX4_war 14 = .ok (.istore_n 1, 1) := by decide +kernel
theorem dX4_war_15 : decode cX4_war 15 = .ok (.iconst 0, 1) := by decide +kernel
theorem dX4_war_16 : decode cX4_war 16 = .ok (.istore_n 2, 1) := by decide +kernel
theorem dX4_war_17 : decode cX4_war 17 = .ok (.iconst 0, 1) := by decide +kernel
theorem dX4_war_18 : decode cX4_war 18 = .ok (.istore_n 3, 1) := by decide +kernel
theorem dX4_war_19 : decode cX4_war 19 = .ok (.iload_n 3, 1) := by decide +kernel
theorem dX4_war_20 : decode cX4_war 20 = .ok (.aload_n 0, 1) := by decide +kernel
theorem dX4_war_21 : decode cX4_war 21 = .ok (.getfield 12, 3) := by decide +kernel
theorem dX4_war_24 : decode cX4_war 24 = .ok (.getfield 151, 3) := by decide +kernel
theorem dX4_war_27 : decode cX4_war 27 = .ok (.if_icmp .ge 33, 3) := by decide +kernel
theorem dX4_war_30 : decode cX4_war 30 = .ok (.iload_n 1, 1) := by decide +kernel
theorem dX4_war_31 : decode cX4_war 31 = .ok (.iload_n 3, 1) := by decide +kernel
theorem dX4_war_32 : decode cX4_war 32 = .ok (.invokestatic 131, 3) := by decide +kernel
theorem dX4_war_35 : decode cX4_war 35 = .ok (.ifCond .eq 19, 3) := by decide +kernel
theorem dX4_war_38 : decode cX4_war 38 = .ok (.aload_n 0, 1) := by decide +kernel
theorem dX4_war_39 : decode cX4_war 39 = .ok (.getfield 12, 3) := by decide +kernel
theorem dX4_war_42 : decode cX4_war 42 = .ok (.getfield 85, 3) := by decide +kernel
theorem dX4_war_45 : decode cX4_war 45 = .ok (.iload_n 3, 1) := by decide +kernel
theorem dX4_war_46 : decode cX4_war 46 = .ok (.iaload, 1) := by decide +kernel
theorem dX4_war_47 : decode cX4_war 47 = .ok (.iconst (-1), 1) := by decide +kernel
theorem dX4_war_48 : decode cX4_war 48 = .ok (.if_icmp .ne 6, 3) := by decide +kernel
theorem dX4_war_51 : decode cX4_war 51 = .ok (.iinc 2 1, 3) := by decide +kernel
theorem dX4_war_54 : decode cX4_war 54 = .ok (.iinc 3 1, 3) := by decide +kernel
theorem dX4_war_57 : decode cX4_war 57 = .ok (.goto (-38), 3) := by decide +kernel
theorem dX4_war_60 : decode cX4_war 60 = .ok (.iload_n 2, 1) := by decide +kernel
theorem dX4_war_61 : decode cX4_war 61 = .ok (.ireturn, 1) := by decide +kernel
set_option maxRecDepth 20000 in
theorem ggX4_key_X0_fallingWith : GoodIn wsX4_key wsX0_fallingWith := goodIn_r _ [8, 9, 10, 11, 12, 7, 13, 14, 15, 16, 17, 18, 19, 20, 44, 45, 46, 47, 48, 49, 50, 51, 52, 53, 54, 55, 56, 57, 58] (by decide +kernel) (by decide +kernel)
set_option maxRecDepth 20000 in
theorem gX4_key_X0_fallingWith : GoodIn wsX4_key (wsV RX4 243 RX0 yX0_fallingWith wsX0_fallingWith) := goodIn_app (goodIn_of _ (by decide +kernel)) ggX4_key_X0_fallingWith
set_option maxRecDepth 20000 in
theorem ggX4_key_J6_bitCount_0f7a4 : GoodIn wsX4_key wsJ6_bitCount_0f7a4 := goodIn_r _ [24, 25, 26, 27] (by decide +kernel) (by decide +kernel)
set_option maxRecDepth 20000 in
theorem gX4_key_J6_bitCount_0f7a4 : GoodIn wsX4_key (va_wsS RX4 229 yJ6_bitCount_0f7a4 wsJ6_bitCount_0f7a4) := goodIn_app (goodIn_of _ (by decide +kernel)) ggX4_key_J6_bitCount_0f7a4
set_option maxRecDepth 20000 in
theorem ggX4_key_X4_found : GoodIn wsX4_key wsX4_found := goodIn_r _ [31, 32, 33, 34, 35, 17, 36, 37, 38, 39, 40, 41, 42, 43] (by decide +kernel) (by decide +kernel)
set_option maxRecDepth 20000 in
theorem gX4_key_X4_found : GoodIn wsX4_key (wsV RX4 54 RX4 yX4_found wsX4_found) := goodIn_app (goodIn_of _ (by decide +kernel)) ggX4_key_X4_found
theorem dX4_key_0 : decode cX4_key 0 = .ok (.iconst (-1), 1) := by decide +kernel
theorem dX4_key_1 : decode cX4_key 1 = .ok (.istore_n 1, 1) := by decide +kernel
theorem dX4_key_2 : decode cX4_key 2 = .ok (.iconst (-1), 1) := by decide +kernel
theorem dX4_key_3 : decode cX4_key 3 = .ok (.istore_n 2, 1) := by decide +kernel
theorem dX4_key_4 : decode cX4_key 4 = .ok (.iconst 0, 1) := by decide +kernel
theorem dX4_key_5 : decode cX4_key 5 = .ok (.istore_n 3, 1) := by decide +kernel
theorem dX4_key_6 : decode cX4_key 6 = .ok (.iload_n 3, 1) := by decide +kernel
theorem dX4_key_7 : decode cX4_key 7 = .ok (.aload_n 0, 1) := by decide +kernel
theorem dX4_key_8 : decode cX4_key 8 = .ok (.getfield 12, 3) := by decide +kernel
theorem dX4_key_11 : decode cX4_key 11 = .ok (.getfield 151, 3) := by decide +kernel
theorem dX4_key_14 : decode cX4_key 14 = .ok (.if_icmp .ge 33, 3) := by decide +kernel
theorem dX4_key_17 : decode cX4_key 17 = .ok (.aload_n 0, 1) := by decide +kernel
theorem dX4_key_18 : decode cX4_key 18 = .ok (.getfield 12, 3) := by decide +kernel
theorem dX4_key_21 : decode cX4_key 21 = .ok (.iload_n 3, 1) := by decide +kernel
theorem dX4_key_22 : decode cX4_key 22 = .ok (.invokevirtual 243, 3) := by decide +kernel
theorem dX4_key_25 : decode cX4_key 25 = .ok (.invokestatic 229, 3) := by decide +kernel
theorem dX4_key_28 : decode cX4_key 28 = .ok (.istore 4, 2) := by decide +kernel
theorem dX4_key_30 : decode cX4_key 30 = .ok (.iload 4, 2) := by decide +kernel
theorem dX4_key_32 : decode cX4_key 32 = .ok (.iload_n 2, 1) := by decide +kernel
theorem dX4_key_33 : decode cX4_key 33 = .ok (.if_icmp .le 8, 3) := by decide +kernel
theorem dX4_key_36 : decode cX4_key 36 = .ok (.iload_n 3, 1) := by decide +kernel
theorem dX4_key_37 : decode cX4_key 37 = .ok (.istore_n 1, 1) := by decide +kernel
theorem dX4_key_38 : decode cX4_key 38 = .ok (.iload 4, 2) := by decide +kernel
theorem dX4_key_40 : decode cX4_key 40 = .ok (.istore_n 2, 1) := by decide +kernel
theorem dX4_key_41 : decode cX4_key 41 = .ok (.iinc 3 1, 3) := by decide +kernel
theorem dX4_key_44 : decode cX4_key 44 = .ok (.goto (-38), 3) := by decide +kernel
theorem dX4_key_47 : decode cX4_key 47 = .ok (.iload_n 1, 1) := by decide +kernel
theorem dX4_key_48 : decode cX4_key 48 = .ok (.iconst (-1), 1) := by decide +kernel
theorem dX4_key_49 : decode cX4_key 49 = .ok (.if_icmp .ne 12, 3) := by decide +kernel
theorem dX4_key_52 : decode cX4_key 52 = .ok (.aload_n 0, 1) := by decide +kernel
theorem dX4_key_53 : decode cX4_key 53 = .ok (.ldc 190, 2) := by decide +kernel
theorem dX4_key_55 : decode cX4_key 55 = .ok (.invokevirtual 54, 3) := by decide +kernel
theorem dX4_key_58 : decode cX4_key 58 = .ok (.goto 4, 3) := by decide +kernel
theorem dX4_key_61 : decode cX4_key 61 = .ok (.iload_n 1, 1) := by decide +kernel
theorem dX4_key_62 : decode cX4_key 62 = .ok (.ireturn, 1) := by decide +kernel
set_option maxRecDepth 20000 in
theorem ggX4_began_X4_found : GoodIn wsX4_began wsX4_found := goodIn_r _ [10, 11, 12, 13, 14, 9, 15, 92, 93, 94, 95, 96, 97, 98] (by decide +kernel) (by decide +kernel)
set_option maxRecDepth 20000 in
theorem gX4_began_X4_found : GoodIn wsX4_began (wsV RX4 54 RX4 yX4_found wsX4_found) := goodIn_app (goodIn_of _ (by decide +kernel)) ggX4_began_X4_found
set_option maxRecDepth 20000 in
theorem ggX4_began_X0_take : GoodIn wsX4_began wsX0_take := goodIn_r _ [20, 21, 22, 23, 24, 25, 26, 27, 28, 29, 30, 31, 32, 33, 34, 35, 36, 37, 38, 99, 100, 101, 102, 103, 104, 105, 106, 107, 108, 109, 110, 111, 112, 113] (by decide +kernel) (by decide +kernel)
set_option maxRecDepth 20000 in
theorem gX4_began_X0_take : GoodIn wsX4_began (wsV RX4 180 RX0 yX0_take wsX0_take) := goodIn_app (goodIn_of _ (by decide +kernel)) ggX4_began_X0_take
set_option maxRecDepth 20000 in
theorem ggX4_began_X0_makeSealsAnew : GoodIn wsX4_began wsX0_makeSealsAnew := goodIn_r _ [42, 33, 28, 32, 99, 100, 101, 102, 103, 104, 105, 106, 107, 108, 109, 110, 111, 112, 113] (by decide +kernel) (by decide +kernel)
set_option maxRecDepth 20000 in
theorem gX4_began_X0_makeSealsAnew : GoodIn wsX4_began (wsV RX4 246 RX0 yX0_makeSealsAnew wsX0_makeSealsAnew) := goodIn_app (goodIn_of _ (by decide +kernel)) ggX4_began_X0_makeSealsAnew
set_option maxRecDepth 20000 in
theorem ggX4_began_X0_pass : GoodIn wsX4_began wsX0_pass := goodIn_r _ [46, 47, 48, 49, 19, 50, 36, 51, 33, 32, 26, 30, 52, 53, 54, 55, 56, 57, 58, 59, 60, 61, 62, 37, 34, 35, 63, 9, 64, 65, 66, 67, 68, 21, 27, 28, 69, 70, 71, 72, 73, 74, 75, 76, 77, 78, 79, 80, 81, 82, 83, 84, 85, 86, 87, 88, 89, 90, 99, 100, 101, 102, 103, 104, 105, 106, 107, 108, 109, 110, 111, 112, 113] (by decide +kernel) (by decide +kernel)
set_option maxRecDepth 20000 in
theorem gX4_began_X0_pass : GoodIn wsX4_began (wsV RX4 160 RX0 yX0_pass wsX0_pass) := goodIn_app (goodIn_of _ (by decide +kernel)) ggX4_began_X0_pass
set_option maxRecDepth 20000 in
theorem ggX4_began_X4_with : GoodIn wsX4_began wsX4_with := goodIn_r _ [86] (by decide +kernel) (by decide +kernel)
set_option maxRecDepth 20000 in
theorem gX4_began_X4_with : GoodIn wsX4_began (va_wsS RX4 154 yX4_with wsX4_with) := goodIn_app (goodIn_of _ (by decide +kernel)) ggX4_began_X4_with
theorem dX4_began_0 : decode cX4_began 0 = .ok (.aload_n 0, 1) := by decide +kernel
theorem dX4_began_1 : decode cX4_began 1 = .ok (.getfield 12, 3) := by decide +kernel
theorem dX4_began_4 : decode cX4_began 4 = .ok (.getfield 95, 3) := by decide +kernel
theorem dX4_began_7 : decode cX4_began 7 = .ok (.bipush 24, 2) := by decide +kernel
theorem dX4_began_9 : decode cX4_began 9 = .ok (.if_icmp .ge 10, 3) := by decide +kernel
theorem dX4_began_12 : decode cX4_began 12 = .ok (.aload_n 0, 1) := by decide +kernel
theorem dX4_began_13 : decode cX4_began 13 = .ok (.ldc 179, 2) := by decide +kernel
theorem dX4_began_15 : decode cX4_began 15 = .ok (.invokevirtual 54, 3) := by decide +kernel
theorem dX4_began_18 : decode cX4_began 18 = .ok (.ireturn, 1) := by decide +kernel
theorem dX4_began_19 : decode cX4_began 19 = .ok (.iconst 0, 1) := by decide +kernel
theorem dX4_began_20 : decode cX4_began 20 = .ok (.istore_n 1, 1) := by decide +kernel
theorem dX4_began_21 : decode cX4_began 21 = .ok (.iconst 1, 1) := by decide +kernel
theorem dX4_began_22 : decode cX4_began 22 = .ok (.istore_n 2, 1) := by decide +kernel
theorem dX4_began_23 : decode cX4_began 23 = .ok (.iload_n 2, 1) := by decide +kernel
theorem dX4_began_24 : decode cX4_began 24 = .ok (.bipush 24, 2) := by decide +kernel
theorem dX4_began_26 : decode cX4_began 26 = .ok (.if_icmp .gt 75, 3) := by decide +kernel
theorem dX4_began_29 : decode cX4_began 29 = .ok (.aload_n 0, 1) := by decide +kernel
theorem dX4_began_30 : decode cX4_began 30 = .ok (.getfield 16, 3) := by decide +kernel
theorem dX4_began_33 : decode cX4_began 33 = .ok (.aload_n 0, 1) := by decide +kernel
theorem dX4_began_34 : decode cX4_began 34 = .ok (.getfield 12, 3) := by decide +kernel
theorem dX4_began_37 : decode cX4_began 37 = .ok (.invokevirtual 180, 3) := by decide +kernel
theorem dX4_began_40 : decode cX4_began 40 = .ok (.aload_n 0, 1) := by decide +kernel
theorem dX4_began_41 : decode cX4_began 41 = .ok (.getfield 16, 3) := by decide +kernel
theorem dX4_began_44 : decode cX4_began 44 = .ok (.invokevirtual 246, 3) := by decide +kernel
theorem dX4_began_47 : decode cX4_began 47 = .ok (.aload_n 0, 1) := by decide +kernel
theorem dX4_began_48 : decode cX4_began 48 = .ok (.getfield 16, 3) := by decide +kernel
theorem dX4_began_51 : decode cX4_began 51 = .ok (.aload_n 0, 1) := by decide +kernel
theorem dX4_began_52 : decode cX4_began 52 = .ok (.getfield 12, 3) := by decide +kernel
theorem dX4_began_55 : decode cX4_began 55 = .ok (.getfield 95, 3) := by decide +kernel
theorem dX4_began_58 : decode cX4_began 58 = .ok (.iload_n 2, 1) := by decide +kernel
theorem dX4_began_59 : decode cX4_began 59 = .ok (.isub, 1) := by decide +kernel
theorem dX4_began_60 : decode cX4_began 60 = .ok (.putfield 95, 3) := by decide +kernel
theorem dX4_began_63 : decode cX4_began 63 = .ok (.aload_n 0, 1) := by decide +kernel
theorem dX4_began_64 : decode cX4_began 64 = .ok (.getfield 16, 3) := by decide +kernel
theorem dX4_began_67 : decode cX4_began 67 = .ok (.iload_n 2, 1) := by decide +kernel
theorem dX4_began_68 : decode cX4_began 68 = .ok (.invokevirtual 160, 3) := by decide +kernel
theorem dX4_began_71 : decode cX4_began 71 = .ok (.pop, 1) := by decide +kernel
theorem dX4_began_72 : decode cX4_began 72 = .ok (.aload_n 0, 1) := by decide +kernel
theorem dX4_began_73 : decode cX4_began 73 = .ok (.getfield 16, 3) := by decide +kernel
theorem dX4_began_76 : decode cX4_began 76 = .ok (.getfield 119, 3) := by decide +kernel
theorem dX4_began_79 : decode cX4_began 79 = .ok (.aload_n 0, 1) := by decide +kernel
theorem dX4_began_80 : decode cX4_began 80 = .ok (.getfield 12, 3) := by decide +kernel
theorem dX4_began_83 : decode cX4_began 83 = .ok (.getfield 119, 3) := by decide +kernel
theorem dX4_began_86 : decode cX4_began 86 = .ok (.if_icmp .ne 9, 3) := by decide +kernel
theorem dX4_began_89 : decode cX4_began 89 = .ok (.iload_n 1, 1) := by decide +kernel
theorem dX4_began_90 : decode cX4_began 90 = .ok (.iload_n 2, 1) := by decide +kernel
theorem dX4_began_91 : decode cX4_began 91 = .ok (.invokestatic 154, 3) := by decide +kernel
theorem dX4_began_94 : decode cX4_began 94 = .ok (.istore_n 1, 1) := by decide +kernel
theorem dX4_began_95 : decode cX4_began 95 = .ok (.iinc 2 1, 3) := by decide +kernel
theorem dX4_began_98 : decode cX4_began 98 = .ok (.goto (-75), 3) := by decide +kernel
theorem dX4_began_101 : decode cX4_began 101 = .ok (.iload_n 1, 1) := by decide +kernel
theorem dX4_began_102 : decode cX4_began 102 = .ok (.ireturn, 1) := by decide +kernel
set_option maxRecDepth 20000 in
theorem ggX4_opened_X4_isWithin : GoodIn wsX4_opened wsX4_isWithin := goodIn_r _ [10] (by decide +kernel) (by decide +kernel)
set_option maxRecDepth 20000 in
theorem gX4_opened_X4_isWithin : GoodIn wsX4_opened (va_wsS RX4 115 yX4_isWithin wsX4_isWithin) := goodIn_app (goodIn_of _ (by decide +kernel)) ggX4_opened_X4_isWithin
set_option maxRecDepth 20000 in
theorem ggX4_opened_X4_refusal : GoodIn wsX4_opened wsX4_refusal := goodIn_r _ [14, 3, 15, 7, 8, 9, 10, 16, 17, 18, 19, 1, 20, 97, 98, 99, 100, 101, 102, 103, 104, 105, 106, 107, 108, 109, 110, 111, 112, 113, 114, 115, 116, 117, 118] (by decide +kernel) (by decide +kernel)
set_option maxRecDepth 20000 in
theorem gX4_opened_X4_refusal : GoodIn wsX4_opened (wsV RX4 157 RX4 yX4_refusal wsX4_refusal) := goodIn_app (goodIn_of _ (by decide +kernel)) ggX4_opened_X4_refusal
set_option maxRecDepth 20000 in
theorem ggX4_opened_X4_found : GoodIn wsX4_opened wsX4_found := goodIn_r _ [24, 3, 25, 7, 8, 9, 10, 97, 98, 99, 100, 101, 102, 103] (by decide +kernel) (by decide +kernel)
set_option maxRecDepth 20000 in
theorem gX4_opened_X4_found : GoodIn wsX4_opened (wsV RX4 54 RX4 yX4_found wsX4_found) := goodIn_app (goodIn_of _ (by decide +kernel)) ggX4_opened_X4_found
set_option maxRecDepth 20000 in
theorem ggX4_opened_X0_take : GoodIn wsX4_opened wsX0_take := goodIn_r _ [30, 31, 32, 33, 34, 35, 36, 37, 38, 39, 40, 41, 42, 43, 44, 45, 46, 47, 48, 104, 105, 106, 107, 108, 109, 110, 111, 112, 113, 114, 115, 116, 117, 118] (by decide +kernel) (by decide +kernel)
set_option maxRecDepth 20000 in
theorem gX4_opened_X0_take : GoodIn wsX4_opened (wsV RX4 180 RX0 yX0_take wsX0_take) := goodIn_app (goodIn_of _ (by decide +kernel)) ggX4_opened_X0_take
set_option maxRecDepth 20000 in
theorem ggX4_opened_X0_pass : GoodIn wsX4_opened wsX0_pass := goodIn_r _ [52, 53, 54, 55, 29, 56, 46, 57, 43, 42, 36, 40, 58, 59, 60, 61, 62, 63, 64, 65, 66, 67, 68, 47, 44, 45, 69, 9, 70, 71, 72, 73, 74, 31, 37, 38, 75, 76, 77, 78, 79, 80, 81, 82, 83, 84, 85, 86, 87, 88, 89, 90, 91, 92, 93, 94, 95, 96, 104, 105, 106, 107, 108, 109, 110, 111, 112, 113, 114, 115, 116, 117, 118] (by decide +kernel) (by decide +kernel)
set_option maxRecDepth 20000 in
theorem gX4_opened_X0_pass : GoodIn wsX4_opened (wsV RX4 160 RX0 yX0_pass wsX0_pass) := goodIn_app (goodIn_of _ (by decide +kernel)) ggX4_opened_X0_pass
theorem dX4_opened_0 : decode cX4_opened 0 = .ok (.iload_n 1, 1) := by decide +kernel
theorem dX4_opened_1 : decode cX4_opened 1 = .ok (.iconst 0, 1) := by decide +kernel
theorem dX4_opened_2 : decode cX4_opened 2 = .ok (.iconst 1, 1) := by decide +kernel
theorem dX4_opened_3 : decode cX4_opened 3 = .ok (.aload_n 0, 1) := by decide +kernel
theorem dX4_opened_4 : decode cX4_opened 4 = .ok (.getfield 12, 3) := by decide +kernel
theorem dX4_opened_7 : decode cX4_opened 7 = .ok (.getfield 151, 3) := by decide +kernel
theorem dX4_opened_10 : decode cX4_opened 10 = .ok (.ishl, 1) := by decide +kernel
theorem dX4_opened_11 : decode cX4_opened 11 = .ok (.iconst 1, 1) := by decide +kernel
theorem dX4_opened_12 : decode cX4_opened 12 = .ok (.isub, 1) := by decide +kernel
theorem dX4_opened_13 : decode cX4_opened 13 = .ok (.invokestatic 115, 3) := by decide +kernel
theorem dX4_opened_16 : decode cX4_opened 16 = .ok (.ifCond .eq 13, 3) := by decide +kernel
theorem dX4_opened_19 : decode cX4_opened 19 = .ok (.aload_n 0, 1) := by decide +kernel
theorem dX4_opened_20 : decode cX4_opened 20 = .ok (.iload_n 2, 1) := by decide +kernel
theorem dX4_opened_21 : decode cX4_opened 21 = .ok (.bipush 24, 2) := by decide +kernel
theorem dX4_opened_23 : decode cX4_opened 23 = .ok (.invokevirtual 157, 3) := by decide +kernel
theorem dX4_opened_26 : decode cX4_opened 26 = .ok (.goto 5, 3) := by decide +kernel
theorem dX4_opened_29 : decode cX4_opened 29 = .ok (.ldc 53, 2) := by decide +kernel
theorem dX4_opened_31 : decode cX4_opened 31 = .ok (.istore_n 3, 1) := by decide +kernel
theorem dX4_opened_32 : decode cX4_opened 32 = .ok (.iload_n 3, 1) := by decide +kernel
theorem dX4_opened_33 : decode cX4_opened 33 = .ok (.ifCond .eq 9, 3) := by decide +kernel
theorem dX4_opened_36 : decode cX4_opened 36 = .ok (.aload_n 0, 1) := by decide +kernel
theorem dX4_opened_37 : decode cX4_opened 37 = .ok (.iload_n 3, 1) := by decide +kernel
theorem dX4_opened_38 : decode cX4_opened 38 = .ok (.invokevirtual 54, 3) := by decide +kernel
theorem dX4_opened_41 : decode cX4_opened 41 = .ok (.ireturn, 1) := by decide +kernel
theorem dX4_opened_42 : decode cX4_opened 42 = .ok (.iconst 0, 1) := by decide +kernel
theorem dX4_opened_43 : decode cX4_opened 43 = .ok (.istore 4, 2) := by decide +kernel
theorem dX4_opened_45 : decode cX4_opened 45 = .ok (.iconst 0, 1) := by decide +kernel
theorem dX4_opened_46 : decode cX4_opened 46 = .ok (.istore 5, 2) := by decide +kernel
theorem dX4_opened_48 : decode cX4_opened 48 = .ok (.iload 5, 2) := by decide +kernel
theorem dX4_opened_50 : decode cX4_opened 50 = .ok (.bipush 64, 2) := by decide +kernel
theorem dX4_opened_52 : decode cX4_opened 52 = .ok (.if_icmp .ge 52, 3) := by decide +kernel
theorem dX4_opened_55 : decode cX4_opened 55 = .ok (.aload_n 0, 1) := by decide +kernel
theorem dX4_opened_56 : decode cX4_opened 56 = .ok (.getfield 16, 3) := by decide +kernel
theorem dX4_opened_59 : decode cX4_opened 59 = .ok (.aload_n 0, 1) := by decide +kernel
theorem dX4_opened_60 : decode cX4_opened 60 = .ok (.getfield 12, 3) := by decide +kernel
theorem dX4_opened_63 : decode cX4_opened 63 = .ok (.invokevirtual 180, 3) := by decide +kernel
theorem dX4_opened_66 : decode cX4_opened 66 = .ok (.aload_n 0, 1) := by decide +kernel
theorem dX4_opened_67 : decode cX4_opened 67 = .ok (.getfield 16, 3) := by decide +kernel
theorem dX4_opened_70 : decode cX4_opened 70 = .ok (.iload 5, 2) := by decide +kernel
theorem dX4_opened_72 : decode cX4_opened 72 = .ok (.putfield 128, 3) := by decide +kernel
theorem dX4_opened_75 : decode cX4_opened 75 = .ok (.aload_n 0, 1) := by decide +kernel
theorem dX4_opened_76 : decode cX4_opened 76 = .ok (.getfield 16, 3) := by decide +kernel
theorem dX4_opened_79 : decode cX4_opened 79 = .ok (.iload_n 2, 1) := by decide +kernel
theorem dX4_opened_80 : decode cX4_opened 80 = .ok (.invokevirtual 160, 3) := by decide +kernel
theorem dX4_opened_83 : decode cX4_opened 83 = .ok (.pop, 1) := by decide +kernel
theorem dX4_opened_84 : decode cX4_opened 84 = .ok (.aload_n 0, 1) := by decide +kernel
theorem dX4_opened_85 : decode cX4_opened 85 = .ok (.getfield 16, 3) := by decide +kernel
theorem dX4_opened_88 : decode cX4_opened 88 = .ok (.getfield 119, 3) := by decide +kernel
theorem dX4_opened_91 : decode cX4_opened 91 = .ok (.iload_n 1, 1) := by decide +kernel
theorem dX4_opened_92 : decode cX4_opened 92 = .ok (.if_icmp .ne 6, 3) := by decide +kernel
theorem dX4_opened_95 : decode cX4_opened 95 = .ok (.iinc 4 1, 3) := by decide +kernel
theorem dX4_opened_98 : decode cX4_opened 98 = .ok (.iinc 5 1, 3) := by decide +kernel
theorem dX4_opened_101 : decode cX4_opened 101 = .ok (.goto (-53), 3) := by decide +kernel
theorem dX4_opened_104 : decode cX4_opened 104 = .ok (.iload 4, 2) := by decide +kernel
theorem dX4_opened_106 : decode cX4_opened 106 = .ok (.ireturn, 1) := by decide +kernel
