theorem dX0_init_0 : decode cX0_init 0 = .ok (.aload_n 0, 1) := by decide +kernel
theorem dX0_init_1 : decode cX0_init 1 = .ok (.invokespecial 3, 3) := by decide +kernel
theorem dX0_init_4 : decode cX0_init 4 = .ok (.aload_n 0, 1) := by decide +kernel
theorem dX0_init_5 : decode cX0_init 5 = .ok (.bipush 8, 2) := by decide +kernel
theorem dX0_init_7 : decode cX0_init 7 = .ok (.newarray .int, 2) := by decide +kernel
theorem dX0_init_9 : decode cX0_init 9 = .ok (.putfield 9, 3) := by decide +kernel
theorem dX0_init_12 : decode cX0_init 12 = .ok (.aload_n 0, 1) := by decide +kernel
theorem dX0_init_13 : decode cX0_init 13 = .ok (.bipush 8, 2) := by decide +kernel
theorem dX0_init_15 : decode cX0_init 15 = .ok (.newarray .int, 2) := by decide +kernel
theorem dX0_init_17 : decode cX0_init 17 = .ok (.putfield 15, 3) := by decide +kernel
theorem dX0_init_20 : decode cX0_init 20 = .ok (.aload_n 0, 1) := by decide +kernel
theorem dX0_init_21 : decode cX0_init 21 = .ok (.bipush 8, 2) := by decide +kernel
theorem dX0_init_23 : decode cX0_init 23 = .ok (.newarray .int, 2) := by decide +kernel
theorem dX0_init_25 : decode cX0_init 25 = .ok (.putfield 18, 3) := by decide +kernel
theorem dX0_init_28 : decode cX0_init 28 = .ok (.aload_n 0, 1) := by decide +kernel
theorem dX0_init_29 : decode cX0_init 29 = .ok (.bipush 8, 2) := by decide +kernel
theorem dX0_init_31 : decode cX0_init 31 = .ok (.newarray .int, 2) := by decide +kernel
theorem dX0_init_33 : decode cX0_init 33 = .ok (.putfield 21, 3) := by decide +kernel
theorem dX0_init_36 : decode cX0_init 36 = .ok (.aload_n 0, 1) := by decide +kernel
theorem dX0_init_37 : decode cX0_init 37 = .ok (.bipush 8, 2) := by decide +kernel
theorem dX0_init_39 : decode cX0_init 39 = .ok (.newarray .int, 2) := by decide +kernel
theorem dX0_init_41 : decode cX0_init 41 = .ok (.putfield 24, 3) := by decide +kernel
theorem dX0_init_44 : decode cX0_init 44 = .ok (.aload_n 0, 1) := by decide +kernel
theorem dX0_init_45 : decode cX0_init 45 = .ok (.bipush 6, 2) := by decide +kernel
theorem dX0_init_47 : decode cX0_init 47 = .ok (.newarray .int, 2) := by decide +kernel
theorem dX0_init_49 : decode cX0_init 49 = .ok (.putfield 27, 3) := by decide +kernel
theorem dX0_init_52 : decode cX0_init 52 = .ok (.aload_n 0, 1) := by decide +kernel
theorem dX0_init_53 : decode cX0_init 53 = .ok (.bipush 10, 2) := by decide +kernel
theorem dX0_init_55 : decode cX0_init 55 = .ok (.newarray .int, 2) := by decide +kernel
theorem dX0_init_57 : decode cX0_init 57 = .ok (.putfield 30, 3) := by decide +kernel
theorem dX0_init_60 : decode cX0_init 60 = .ok (.aload_n 0, 1) := by decide +kernel
theorem dX0_init_61 : decode cX0_init 61 = .ok (.iconst 0, 1) := by decide +kernel
theorem dX0_init_62 : decode cX0_init 62 = .ok (.putfield 33, 3) := by decide +kernel
theorem dX0_init_65 : decode cX0_init 65 = .ok (.aload_n 0, 1) := by decide +kernel
theorem dX0_init_66 : decode cX0_init 66 = .ok (.iconst 0, 1) := by decide +kernel
theorem dX0_init_67 : decode cX0_init 67 = .ok (.putfield 37, 3) := by decide +kernel
theorem dX0_init_70 : decode cX0_init 70 = .ok (.aload_n 0, 1) := by decide +kernel
theorem dX0_init_71 : decode cX0_init 71 = .ok (.iconst 0, 1) := by decide +kernel
theorem dX0_init_72 : decode cX0_init 72 = .ok (.putfield 40, 3) := by decide +kernel
theorem dX0_init_75 : decode cX0_init 75 = .ok (.aload_n 0, 1) := by decide +kernel
theorem dX0_init_76 : decode cX0_init 76 = .ok (.iconst 0, 1) := by decide +kernel
theorem dX0_init_77 : decode cX0_init 77 = .ok (.putfield 43, 3) := by decide +kernel
theorem dX0_init_80 : decode cX0_init 80 = .ok (.aload_n 0, 1) := by decide +kernel
theorem dX0_init_81 : decode cX0_init 81 = .ok (.iconst 0, 1) := by decide +kernel
theorem dX0_init_82 : decode cX0_init 82 = .ok (.putfield 46, 3) := by decide +kernel
theorem dX0_init_85 : decode cX0_init 85 = .ok (.aload_n 0, 1) := by decide +kernel
theorem dX0_init_86 : decode cX0_init 86 = .ok (.bipush 15, 2) := by decide +kernel
theorem dX0_init_88 : decode cX0_init 88 = .ok (.putfield 49, 3) := by decide +kernel
theorem dX0_init_91 : decode cX0_init 91 = .ok (.aload_n 0, 1) := by decide +kernel
theorem dX0_init_92 : decode cX0_init 92 = .ok (.iconst 1, 1) := by decide +kernel
theorem dX0_init_93 : decode cX0_init 93 = .ok (.putfield 52, 3) := by decide +kernel
theorem dX0_init_96 : decode cX0_init 96 = .ok (.aload_n 0, 1) := by decide +kernel
theorem dX0_init_97 : decode cX0_init 97 = .ok (.bipush 6, 2) := by decide +kernel
theorem dX0_init_99 : decode cX0_init 99 = .ok (.newarray .int, 2) := by decide +kernel
theorem dX0_init_101 : decode cX0_init 101 = .ok (.putfield 55, 3) := by decide +kernel
theorem dX0_init_104 : decode cX0_init 104 = .ok (.iconst 0, 1) := by decide +kernel
theorem dX0_init_105 : decode cX0_init 105 = .ok (.istore_n 1, 1) := by decide +kernel
theorem dX0_init_106 : decode cX0_init 106 = .ok (.iload_n 1, 1) := by decide +kernel
theorem dX0_init_107 : decode cX0_init 107 = .ok (.bipush 10, 2) := by decide +kernel
theorem dX0_init_109 : decode cX0_init 109 = .ok (.if_icmp .ge 16, 3) := by decide +kernel
theorem dX0_init_112 : decode cX0_init 112 = .ok (.aload_n 0, 1) := by decide +kernel
theorem dX0_init_113 : decode cX0_init 113 = .ok (.getfield 30, 3) := by decide +kernel
theorem dX0_init_116 : decode cX0_init 116 = .ok (.iload_n 1, 1) := by decide +kernel
theorem dX0_init_117 : decode cX0_init 117 = .ok (.iconst (-1), 1) := by decide +kernel
theorem dX0_init_118 : decode cX0_init 118 = .ok (.iastore, 1) := by decide +kernel
theorem dX0_init_119 : decode cX0_init 119 = .ok (.iinc 1 1, 3) := by decide +kernel
theorem dX0_init_122 : decode cX0_init 122 = .ok (.goto (-16), 3) := by decide +kernel
theorem dX0_init_125 : decode cX0_init 125 = .ok (.return_, 1) := by decide +kernel
theorem dX0_take_0 : decode cX0_take 0 = .ok (.aload_n 1, 1) := by decide +kernel
theorem dX0_take_1 : decode cX0_take 1 = .ok (.getfield 9, 3) := by decide +kernel
theorem dX0_take_4 : decode cX0_take 4 = .ok (.iconst 0, 1) := by decide +kernel
theorem dX0_take_5 : decode cX0_take 5 = .ok (.aload_n 0, 1) := by decide +kernel
theorem dX0_take_6 : decode cX0_take 6 = .ok (.getfield 9, 3) := by decide +kernel
theorem dX0_take_9 : decode cX0_take 9 = .ok (.iconst 0, 1) := by decide +kernel
theorem dX0_take_10 : decode cX0_take 10 = .ok (.bipush 8, 2) := by decide +kernel
theorem dX0_take_12 : decode cX0_take 12 = .ok (.invokestatic 58, 3) := by decide +kernel
theorem dX0_take_15 : decode cX0_take 15 = .ok (.aload_n 1, 1) := by decide +kernel
theorem dX0_take_16 : decode cX0_take 16 = .ok (.getfield 15, 3) := by decide +kernel
theorem dX0_take_19 : decode cX0_take 19 = .ok (.iconst 0, 1) := by decide +kernel
theorem dX0_take_20 : decode cX0_take 20 = .ok (.aload_n 0, 1) := by decide +kernel
theorem dX0_take_21 : decode cX0_take 21 = .ok (.getfield 15, 3) := by decide +kernel
theorem dX0_take_24 : decode cX0_take 24 = .ok (.iconst 0, 1) := by decide +kernel
theorem dX0_take_25 : decode cX0_take 25 = .ok (.bipush 8, 2) := by decide +kernel
theorem dX0_take_27 : decode cX0_take 27 = .ok (.invokestatic 58, 3) := by decide +kernel
theorem dX0_take_30 : decode cX0_take 30 = .ok (.aload_n 1, 1) := by decide +kernel
theorem dX0_take_31 : decode cX0_take 31 = .ok (.getfield 18, 3) := by decide +kernel
theorem dX0_take_34 : decode cX0_take 34 = .ok (.iconst 0, 1) := by decide +kernel
theorem dX0_take_35 : decode cX0_take 35 = .ok (.aload_n 0, 1) := by decide +kernel
theorem dX0_take_36 : decode cX0_take 36 = .ok (.getfield 18, 3) := by decide +kernel
theorem dX0_take_39 : decode cX0_take 39 = .ok (.iconst 0, 1) := by decide +kernel
theorem dX0_take_40 : decode cX0_take 40 = .ok (.bipush 8, 2) := by decide +kernel
theorem dX0_take_42 : decode cX0_take 42 = .ok (.invokestatic 58, 3) := by decide +kernel
theorem dX0_take_45 : decode cX0_take 45 = .ok (.aload_n 1, 1) := by decide +kernel
theorem dX0_take_46 : decode cX0_take 46 = .ok (.getfield 21, 3) := by decide +kernel
theorem dX0_take_49 : decode cX0_take 49 = .ok (.iconst 0, 1) := by decide +kernel
theorem dX0_take_50 : decode cX0_take 50 = .ok (.aload_n 0, 1) := by decide +kernel
theorem dX0_take_51 : decode cX0_take 51 = .ok (.getfield 21, 3) := by decide +kernel
theorem dX0_take_54 : decode cX0_take 54 = .ok (.iconst 0, 1) := by decide +kernel
theorem dX0_take_55 : decode cX0_take 55 = .ok (.bipush 8, 2) := by decide +kernel
theorem dX0_take_57 : decode cX0_take 57 = .ok (.invokestatic 58, 3) := by decide +kernel
theorem dX0_take_60 : decode cX0_take 60 = .ok (.aload_n 1, 1) := by decide +kernel
theorem dX0_take_61 : decode cX0_take 61 = .ok (.getfield 24, 3) := by decide +kernel
theorem dX0_take_64 : decode cX0_take 64 = .ok (.iconst 0, 1) := by decide +kernel
theorem dX0_take_65 : decode cX0_take 65 = .ok (.aload_n 0, 1) := by decide +kernel
theorem dX0_take_66 : decode cX0_take 66 = .ok (.getfield 24, 3) := by decide +kernel
theorem dX0_take_69 : decode cX0_take 69 = .ok (.iconst 0, 1) := by decide +kernel
theorem dX0_take_70 : decode cX0_take 70 = .ok (.bipush 8, 2) := by decide +kernel
theorem dX0_take_72 : decode cX0_take 72 = .ok (.invokestatic 58, 3) := by decide +kernel
theorem dX0_take_75 : decode cX0_take 75 = .ok (.aload_n 1, 1) := by decide +kernel
theorem dX0_take_76 : decode cX0_take 76 = .ok (.getfield 27, 3) := by decide +kernel
theorem dX0_take_79 : decode cX0_take 79 = .ok (.iconst 0, 1) := by decide +kernel
theorem dX0_take_80 : decode cX0_take 80 = .ok (.aload_n 0, 1) := by decide +kernel
theorem dX0_take_81 : decode cX0_take 81 = .ok (.getfield 27, 3) := by decide +kernel
theorem dX0_take_84 : decode cX0_take 84 = .ok (.iconst 0, 1) := by decide +kernel
theorem dX0_take_85 : decode cX0_take 85 = .ok (.bipush 6, 2) := by decide +kernel
theorem dX0_take_87 : decode cX0_take 87 = .ok (.invokestatic 58, 3) := by decide +kernel
theorem dX0_take_90 : decode cX0_take 90 = .ok (.aload_n 1, 1) := by decide +kernel
theorem dX0_take_91 : decode cX0_take 91 = .ok (.getfield 30, 3) := by decide +kernel
theorem dX0_take_94 : decode cX0_take 94 = .ok (.iconst 0, 1) := by decide +kernel
theorem dX0_take_95 : decode cX0_take 95 = .ok (.aload_n 0, 1) := by decide +kernel
theorem dX0_take_96 : decode cX0_take 96 = .ok (.getfield 30, 3) := by decide +kernel
theorem dX0_take_99 : decode cX0_take 99 = .ok (.iconst 0, 1) := by decide +kernel
theorem dX0_take_100 : decode cX0_take 100 = .ok (.bipush 10, 2) := by decide +kernel
theorem dX0_take_102 : decode cX0_take 102 = .ok (.invokestatic 58, 3) := by decide +kernel
theorem dX0_take_105 : decode cX0_take 105 = .ok (.aload_n 0, 1) := by decide +kernel
theorem dX0_take_106 : decode cX0_take 106 = .ok (.aload_n 1, 1) := by decide +kernel
theorem dX0_take_107 : decode cX0_take 107 = .ok (.getfield 33, 3) := by decide +kernel
theorem dX0_take_110 : decode cX0_take 110 = .ok (.putfield 33, 3) := by decide +kernel
theorem dX0_take_113 : decode cX0_take 113 = .ok (.aload_n 0, 1) := by decide +kernel
theorem dX0_take_114 : decode cX0_take 114 = .ok (.aload_n 1, 1) := by decide +kernel
theorem dX0_take_115 : decode cX0_take 115 = .ok (.getfield 37, 3) := by decide +kernel
theorem dX0_take_118 : decode cX0_take 118 = .ok (.putfield 37, 3) := by decide +kernel
theorem dX0_take_121 : decode cX0_take 121 = .ok (.aload_n 0, 1) := by decide +kernel
theorem dX0_take_122 : decode cX0_take 122 = .ok (.aload_n 1, 1) := by decide +kernel
theorem dX0_take_123 : decode cX0_take 123 = .ok (.getfield 40, 3) := by decide +kernel
theorem dX0_take_126 : decode cX0_take 126 = .ok (.putfield 40, 3) := by decide +kernel
theorem dX0_take_129 : decode cX0_take 129 = .ok (.aload_n 0, 1) := by decide +kernel
theorem dX0_take_130 : decode cX0_take 130 = .ok (.aload_n 1, 1) := by decide +kernel
theorem dX0_take_131 : decode cX0_take 131 = .ok (.getfield 43, 3) := by decide +kernel
theorem dX0_take_134 : decode cX0_take 134 = .ok (.putfield 43, 3) := by decide +kernel
theorem dX0_take_137 : decode cX0_take 137 = .ok (.aload_n 0, 1) := by decide +kernel
theorem dX0_take_138 : decode cX0_take 138 = .ok (.aload_n 1, 1) := by decide +kernel
theorem dX0_take_139 : decode cX0_take 139 = .ok (.getfield 46, 3) := by decide +kernel
theorem dX0_take_142 : decode cX0_take 142 = .ok (.putfield 46, 3) := by decide +kernel
theorem dX0_take_145 : decode cX0_take 145 = .ok (.aload_n 0, 1) := by decide +kernel
theorem dX0_take_146 : decode cX0_take 146 = .ok (.aload_n 1, 1) := by decide +kernel
theorem dX0_take_147 : decode cX0_take 147 = .ok (.getfield 49, 3) := by decide +kernel
theorem dX0_take_150 : decode cX0_take 150 = .ok (.putfield 49, 3) := by decide +kernel
theorem dX0_take_153 : decode cX0_take 153 = .ok (.aload_n 0, 1) := by decide +kernel
theorem dX0_take_154 : decode cX0_take 154 = .ok (.aload_n 1, 1) := by decide +kernel
theorem dX0_take_155 : decode cX0_take 155 = .ok (.getfield 52, 3) := by decide +kernel
theorem dX0_take_158 : decode cX0_take 158 = .ok (.putfield 52, 3) := by decide +kernel
theorem dX0_take_161 : decode cX0_take 161 = .ok (.return_, 1) := by decide +kernel
set_option maxRecDepth 20000 in
theorem ggX0_isDeed_X4_isWithin : GoodIn wsX0_isDeed wsX4_isWithin := goodIn_r _ [4] (by decide +kernel) (by decide +kernel)
set_option maxRecDepth 20000 in
theorem gX0_isDeed_X4_isWithin_n64 : GoodIn wsX0_isDeed (wsX4_isWithin) := ggX0_isDeed_X4_isWithin
theorem dX0_isDeed_0 : decode cX0_isDeed 0 = .ok (.iload_n 1, 1) := by decide +kernel
theorem dX0_isDeed_1 : decode cX0_isDeed 1 = .ok (.iconst 0, 1) := by decide +kernel
theorem dX0_isDeed_2 : decode cX0_isDeed 2 = .ok (.aload_n 0, 1) := by decide +kernel
theorem dX0_isDeed_3 : decode cX0_isDeed 3 = .ok (.getfield 37, 3) := by decide +kernel
theorem dX0_isDeed_6 : decode cX0_isDeed 6 = .ok (.iconst 1, 1) := by decide +kernel
theorem dX0_isDeed_7 : decode cX0_isDeed 7 = .ok (.isub, 1) := by decide +kernel
theorem dX0_isDeed_8 : decode cX0_isDeed 8 = .ok (.invokestatic 64, 3) := by decide +kernel
theorem dX0_isDeed_11 : decode cX0_isDeed 11 = .ok (.ireturn, 1) := by decide +kernel
theorem dX0_isFull_0 : decode cX0_isFull 0 = .ok (.aload_n 0, 1) := by decide +kernel
theorem dX0_isFull_1 : decode cX0_isFull 1 = .ok (.getfield 37, 3) := by decide +kernel
theorem dX0_isFull_4 : decode cX0_isFull 4 = .ok (.bipush 8, 2) := by decide +kernel
theorem dX0_isFull_6 : decode cX0_isFull 6 = .ok (.if_icmp .lt 7, 3) := by decide +kernel
theorem dX0_isFull_9 : decode cX0_isFull 9 = .ok (.iconst 1, 1) := by decide +kernel
theorem dX0_isFull_10 : decode cX0_isFull 10 = .ok (.goto 4, 3) := by decide +kernel
theorem dX0_isFull_13 : decode cX0_isFull 13 = .ok (.iconst 0, 1) := by decide +kernel
theorem dX0_isFull_14 : decode cX0_isFull 14 = .ok (.ireturn, 1) := by decide +kernel
set_option maxRecDepth 20000 in
theorem ggX0_addDeed_X0_isFull : GoodIn wsX0_addDeed wsX0_isFull := goodIn_r _ [11, 1, 12, 13, 14, 15, 16, 17, 18, 19, 20, 21, 22, 23, 24, 25, 26] (by decide +kernel) (by decide +kernel)
set_option maxRecDepth 20000 in
theorem gX0_addDeed_X0_isFull : GoodIn wsX0_addDeed (wsV RX0 68 RX0 yX0_isFull wsX0_isFull) := goodIn_app (goodIn_of _ (by decide +kernel)) ggX0_addDeed_X0_isFull
theorem dX0_addDeed_0 : decode cX0_addDeed 0 = .ok (.aload_n 0, 1) := by decide +kernel
theorem dX0_addDeed_1 : decode cX0_addDeed 1 = .ok (.invokevirtual 68, 3) := by decide +kernel
theorem dX0_addDeed_4 : decode cX0_addDeed 4 = .ok (.ifCond .eq 5, 3) := by decide +kernel
theorem dX0_addDeed_7 : decode cX0_addDeed 7 = .ok (.iconst (-1), 1) := by decide +kernel
theorem dX0_addDeed_8 : decode cX0_addDeed 8 = .ok (.ireturn, 1) := by decide +kernel
theorem dX0_addDeed_9 : decode cX0_addDeed 9 = .ok (.aload_n 0, 1) := by decide +kernel
theorem dX0_addDeed_10 : decode cX0_addDeed 10 = .ok (.getfield 37, 3) := by decide +kernel
theorem dX0_addDeed_13 : decode cX0_addDeed 13 = .ok (.istore 5, 2) := by decide +kernel
theorem dX0_addDeed_15 : decode cX0_addDeed 15 = .ok (.aload_n 0, 1) := by decide +kernel
theorem dX0_addDeed_16 : decode cX0_addDeed 16 = .ok (.getfield 9, 3) := by decide +kernel
theorem dX0_addDeed_19 : decode cX0_addDeed 19 = .ok (.iload 5, 2) := by decide +kernel
theorem dX0_addDeed_21 : decode cX0_addDeed 21 = .ok (.iload_n 1, 1) := by decide +kernel
theorem dX0_addDeed_22 : decode cX0_addDeed 22 = .ok (.iastore, 1) := by decide +kernel
theorem dX0_addDeed_23 : decode cX0_addDeed 23 = .ok (.aload_n 0, 1) := by decide +kernel
theorem dX0_addDeed_24 : decode cX0_addDeed 24 = .ok (.getfield 15, 3) := by decide +kernel
theorem dX0_addDeed_27 : decode cX0_addDeed 27 = .ok (.iload 5, 2) := by decide +kernel
theorem dX0_addDeed_29 : decode cX0_addDeed 29 = .ok (.iload_n 2, 1) := by decide +kernel
theorem dX0_addDeed_30 : decode cX0_addDeed 30 = .ok (.iastore, 1) := by decide +kernel
theorem dX0_addDeed_31 : decode cX0_addDeed 31 = .ok (.aload_n 0, 1) := by decide +kernel
theorem dX0_addDeed_32 : decode cX0_addDeed 32 = .ok (.getfield 18, 3) := by decide +kernel
theorem dX0_addDeed_35 : decode cX0_addDeed 35 = .ok (.iload 5, 2) := by decide +kernel
theorem dX0_addDeed_37 : decode cX0_addDeed 37 = .ok (.iload_n 3, 1) := by decide +kernel
theorem dX0_addDeed_38 : decode cX0_addDeed 38 = .ok (.iastore, 1) := by decide +kernel
theorem dX0_addDeed_39 : decode cX0_addDeed 39 = .ok (.aload_n 0, 1) := by decide +kernel
theorem dX0_addDeed_40 : decode cX0_addDeed 40 = .ok (.getfield 21, 3) := by decide +kernel
theorem dX0_addDeed_43 : decode cX0_addDeed 43 = .ok (.iload 5, 2) := by decide +kernel
theorem dX0_addDeed_45 : decode cX0_addDeed 45 = .ok (.iconst 0, 1) := by decide +kernel
theorem dX0_addDeed_46 : decode cX0_addDeed 46 = .ok (.iastore, 1) := by decide +kernel
theorem dX0_addDeed_47 : decode cX0_addDeed 47 = .ok (.aload_n 0, 1) := by decide +kernel
theorem dX0_addDeed_48 : decode cX0_addDeed 48 = .ok (.getfield 24, 3) := by decide +kernel
theorem dX0_addDeed_51 : decode cX0_addDeed 51 = .ok (.iload 5, 2) := by decide +kernel
theorem dX0_addDeed_53 : decode cX0_addDeed 53 = .ok (.iload 4, 2) := by decide +kernel
theorem dX0_addDeed_55 : decode cX0_addDeed 55 = .ok (.iastore, 1) := by decide +kernel
theorem dX0_addDeed_56 : decode cX0_addDeed 56 = .ok (.aload_n 0, 1) := by decide +kernel
theorem dX0_addDeed_57 : decode cX0_addDeed 57 = .ok (.dup, 1) := by decide +kernel
theorem dX0_addDeed_58 : decode cX0_addDeed 58 = .ok (.getfield 37, 3) := by decide +kernel
theorem dX0_addDeed_61 : decode cX0_addDeed 61 = .ok (.iconst 1, 1) := by decide +kernel
theorem dX0_addDeed_62 : decode cX0_addDeed 62 = .ok (.iadd, 1) := by decide +kernel
theorem dX0_addDeed_63 : decode cX0_addDeed 63 = .ok (.putfield 37, 3) := by decide +kernel
theorem dX0_addDeed_66 : decode cX0_addDeed 66 = .ok (.iload 5, 2) := by decide +kernel
theorem dX0_addDeed_68 : decode cX0_addDeed 68 = .ok (.ireturn, 1) := by decide +kernel
set_option maxRecDepth 20000 in
theorem ggX0_setShutter_X4_with : GoodIn wsX0_setShutter wsX4_with := goodIn_r _ [4] (by decide +kernel) (by decide +kernel)
set_option maxRecDepth 20000 in
theorem gX0_setShutter_X4_with_n72 : GoodIn wsX0_setShutter (wsX4_with) := ggX0_setShutter_X4_with
set_option maxRecDepth 20000 in
theorem ggX0_setShutter_X4_without : GoodIn wsX0_setShutter wsX4_without := goodIn_r _ [6] (by decide +kernel) (by decide +kernel)
set_option maxRecDepth 20000 in
theorem gX0_setShutter_X4_without_n76 : GoodIn wsX0_setShutter (wsX4_without) := ggX0_setShutter_X4_without
theorem dX0_setShutter_0 : decode cX0_setShutter 0 = .ok (.aload_n 0, 1) := by decide +kernel
theorem dX0_setShutter_1 : decode cX0_setShutter 1 = .ok (.iload_n 2, 1) := by decide +kernel
theorem dX0_setShutter_2 : decode cX0_setShutter 2 = .ok (.ifCond .eq 14, 3) := by decide +kernel
theorem dX0_setShutter_5 : decode cX0_setShutter 5 = .ok (.aload_n 0, 1) := by decide +kernel
theorem dX0_setShutter_6 : decode cX0_setShutter 6 = .ok (.getfield 40, 3) := by decide +kernel
theorem dX0_setShutter_9 : decode cX0_setShutter 9 = .ok (.iload_n 1, 1) := by decide +kernel
theorem dX0_setShutter_10 : decode cX0_setShutter 10 = .ok (.invokestatic 72, 3) := by decide +kernel
theorem dX0_setShutter_13 : decode cX0_setShutter 13 = .ok (.goto 11, 3) := by decide +kernel
theorem dX0_setShutter_16 : decode cX0_setShutter 16 = .ok (.aload_n 0, 1) := by decide +kernel
theorem dX0_setShutter_17 : decode cX0_setShutter 17 = .ok (.getfield 40, 3) := by decide +kernel
theorem dX0_setShutter_20 : decode cX0_setShutter 20 = .ok (.iload_n 1, 1) := by decide +kernel
theorem dX0_setShutter_21 : decode cX0_setShutter 21 = .ok (.invokestatic 76, 3) := by decide +kernel
theorem dX0_setShutter_24 : decode cX0_setShutter 24 = .ok (.putfield 40, 3) := by decide +kernel
theorem dX0_setShutter_27 : decode cX0_setShutter 27 = .ok (.return_, 1) := by decide +kernel
set_option maxRecDepth 20000 in
theorem ggX0_setCandle_X4_with : GoodIn wsX0_setCandle wsX4_with := goodIn_r _ [4] (by decide +kernel) (by decide +kernel)
set_option maxRecDepth 20000 in
theorem gX0_setCandle_X4_with_n72 : GoodIn wsX0_setCandle (wsX4_with) := ggX0_setCandle_X4_with
set_option maxRecDepth 20000 in
theorem ggX0_setCandle_X4_without : GoodIn wsX0_setCandle wsX4_without := goodIn_r _ [6] (by decide +kernel) (by decide +kernel)
set_option maxRecDepth 20000 in
theorem gX0_setCandle_X4_without_n76 : GoodIn wsX0_setCandle (wsX4_without) := ggX0_setCandle_X4_without
theorem dX0_setCandle_0 : decode cX0_setCandle 0 = .ok (.aload_n 0, 1) := by decide +kernel
theorem dX0_setCandle_1 : decode cX0_setCandle 1 = .ok (.iload_n 2, 1) := by decide +kernel
theorem dX0_setCandle_2 : decode cX0_setCandle 2 = .ok (.ifCond .eq 14, 3) := by decide +kernel
theorem dX0_setCandle_5 : decode cX0_setCandle 5 = .ok (.aload_n 0, 1) := by decide +kernel
theorem dX0_setCandle_6 : decode cX0_setCandle 6 = .ok (.getfield 43, 3) := by decide +kernel
theorem dX0_setCandle_9 : decode cX0_setCandle 9 = .ok (.iload_n 1, 1) := by decide +kernel
theorem dX0_setCandle_10 : decode cX0_setCandle 10 = .ok (.invokestatic 72, 3) := by decide +kernel
theorem dX0_setCandle_13 : decode cX0_setCandle 13 = .ok (.goto 11, 3) := by decide +kernel
theorem dX0_setCandle_16 : decode cX0_setCandle 16 = .ok (.aload_n 0, 1) := by decide +kernel
theorem dX0_setCandle_17 : decode cX0_setCandle 17 = .ok (.getfield 43, 3) := by decide +kernel
theorem dX0_setCandle_20 : decode cX0_setCandle 20 = .ok (.iload_n 1, 1) := by decide +kernel
theorem dX0_setCandle_21 : decode cX0_setCandle 21 = .ok (.invokestatic 76, 3) := by decide +kernel
theorem dX0_setCandle_24 : decode cX0_setCandle 24 = .ok (.putfield 43, 3) := by decide +kernel
theorem dX0_setCandle_27 : decode cX0_setCandle 27 = .ok (.return_, 1) := by decide +kernel
theorem dX0_setAllKinds_0 : decode cX0_setAllKinds 0 = .ok (.iconst 0, 1) := by decide +kernel
theorem dX0_setAllKinds_1 : decode cX0_setAllKinds 1 = .ok (.istore_n 2, 1) := by decide +kernel
theorem dX0_setAllKinds_2 : decode cX0_setAllKinds 2 = .ok (.iload_n 2, 1) := by decide +kernel
theorem dX0_setAllKinds_3 : decode cX0_setAllKinds 3 = .ok (.aload_n 0, 1) := by decide +kernel
theorem dX0_setAllKinds_4 : decode cX0_setAllKinds 4 = .ok (.getfield 37, 3) := by decide +kernel
theorem dX0_setAllKinds_7 : decode cX0_setAllKinds 7 = .ok (.if_icmp .ge 16, 3) := by decide +kernel
theorem dX0_setAllKinds_10 : decode cX0_setAllKinds 10 = .ok (.aload_n 0, 1) := by decide +kernel
theorem dX0_setAllKinds_11 : decode cX0_setAllKinds 11 = .ok (.getfield 9, 3) := by decide +kernel
theorem dX0_setAllKinds_14 : decode cX0_setAllKinds 14 = .ok (.iload_n 2, 1) := by decide +kernel
theorem dX0_setAllKinds_15 : decode cX0_setAllKinds 15 = .ok (.iload_n 1, 1) := by decide +kernel
theorem dX0_setAllKinds_16 : decode cX0_setAllKinds 16 = .ok (.iastore, 1) := by decide +kernel
theorem dX0_setAllKinds_17 : decode cX0_setAllKinds 17 = .ok (.iinc 2 1, 3) := by decide +kernel
theorem dX0_setAllKinds_20 : decode cX0_setAllKinds 20 = .ok (.goto (-18), 3) := by decide +kernel
theorem dX0_setAllKinds_23 : decode cX0_setAllKinds 23 = .ok (.return_, 1) := by decide +kernel
theorem dX0_bringIce_0 : decode cX0_bringIce 0 = .ok (.aload_n 0, 1) := by decide +kernel
theorem dX0_bringIce_1 : decode cX0_bringIce 1 = .ok (.getfield 27, 3) := by decide +kernel
theorem dX0_bringIce_4 : decode cX0_bringIce 4 = .ok (.iload_n 1, 1) := by decide +kernel
theorem dX0_bringIce_5 : decode cX0_bringIce 5 = .ok (.bipush 99, 2) := by decide +kernel
theorem dX0_bringIce_7 : decode cX0_bringIce 7 = .ok (.aload_n 0, 1) := by decide +kernel
theorem dX0_bringIce_8 : decode cX0_bringIce 8 = .ok (.getfield 27, 3) := by decide +kernel
theorem dX0_bringIce_11 : decode cX0_bringIce 11 = .ok (.iload_n 1, 1) := by decide +kernel
theorem dX0_bringIce_12 : decode cX0_bringIce 12 = .ok (.iaload, 1) := by decide +kernel
theorem dX0_bringIce_13 : decode cX0_bringIce 13 = .ok (.iload_n 2, 1) := by decide +kernel
theorem dX0_bringIce_14 : decode cX0_bringIce 14 = .ok (.iadd, 1) := by decide +kernel
theorem dX0_bringIce_15 : decode cX0_bringIce 15 = .ok (.invokestatic 79, 3) := by decide +kernel
theorem dX0_bringIce_18 : decode cX0_bringIce 18 = .ok (.iastore, 1) := by decide +kernel
theorem dX0_bringIce_19 : decode cX0_bringIce 19 = .ok (.return_, 1) := by decide +kernel
theorem dX0_makeSealsAnew_0 : decode cX0_makeSealsAnew 0 = .ok (.iconst 0, 1) := by decide +kernel
theorem dX0_makeSealsAnew_1 : decode cX0_makeSealsAnew 1 = .ok (.istore_n 1, 1) := by decide +kernel
theorem dX0_makeSealsAnew_2 : decode cX0_makeSealsAnew 2 = .ok (.iload_n 1, 1) := by decide +kernel
theorem dX0_makeSealsAnew_3 : decode cX0_makeSealsAnew 3 = .ok (.aload_n 0, 1) := by decide +kernel
theorem dX0_makeSealsAnew_4 : decode cX0_makeSealsAnew 4 = .ok (.getfield 37, 3) := by decide +kernel
theorem dX0_makeSealsAnew_7 : decode cX0_makeSealsAnew 7 = .ok (.if_icmp .ge 16, 3) := by decide +kernel
theorem dX0_makeSealsAnew_10 : decode cX0_makeSealsAnew 10 = .ok (.aload_n 0, 1) := by decide +kernel
theorem dX0_makeSealsAnew_11 : decode cX0_makeSealsAnew 11 = .ok (.getfield 21, 3) := by decide +kernel
theorem dX0_makeSealsAnew_14 : decode cX0_makeSealsAnew 14 = .ok (.iload_n 1, 1) := by decide +kernel
theorem dX0_makeSealsAnew_15 : decode cX0_makeSealsAnew 15 = .ok (.iconst 0, 1) := by decide +kernel
theorem dX0_makeSealsAnew_16 : decode cX0_makeSealsAnew 16 = .ok (.iastore, 1) := by decide +kernel
theorem dX0_makeSealsAnew_17 : decode cX0_makeSealsAnew 17 = .ok (.iinc 1 1, 3) := by decide +kernel
theorem dX0_makeSealsAnew_20 : decode cX0_makeSealsAnew 20 = .ok (.goto (-18), 3) := by decide +kernel
theorem dX0_makeSealsAnew_23 : decode cX0_makeSealsAnew 23 = .ok (.aload_n 0, 1) := by decide +kernel
theorem dX0_makeSealsAnew_24 : decode cX0_makeSealsAnew 24 = .ok (.iconst 0, 1) := by decide +kernel
theorem dX0_makeSealsAnew_25 : decode cX0_makeSealsAnew 25 = .ok (.putfield 33, 3) := by decide +kernel
theorem dX0_makeSealsAnew_28 : decode cX0_makeSealsAnew 28 = .ok (.return_, 1) := by decide +kernel
theorem dX0_draw_0 : decode cX0_draw 0 = .ok (.aload_n 0, 1) := by decide +kernel
theorem dX0_draw_1 : decode cX0_draw 1 = .ok (.aload_n 0, 1) := by decide +kernel
theorem dX0_draw_2 : decode cX0_draw 2 = .ok (.getfield 52, 3) := by decide +kernel
theorem dX0_draw_5 : decode cX0_draw 5 = .ok (.ldc 84, 2) := by decide +kernel
theorem dX0_draw_7 : decode cX0_draw 7 = .ok (.imul, 1) := by decide +kernel
theorem dX0_draw_8 : decode cX0_draw 8 = .ok (.sipush 12345, 3) := by decide +kernel
theorem dX0_draw_11 : decode cX0_draw 11 = .ok (.iadd, 1) := by decide +kernel
theorem dX0_draw_12 : decode cX0_draw 12 = .ok (.putfield 52, 3) := by decide +kernel
theorem dX0_draw_15 : decode cX0_draw 15 = .ok (.aload_n 0, 1) := by decide +kernel
theorem dX0_draw_16 : decode cX0_draw 16 = .ok (.getfield 52, 3) := by decide +kernel
theorem dX0_draw_19 : decode cX0_draw 19 = .ok (.bipush 8, 2) := by decide +kernel
theorem dX0_draw_21 : decode cX0_draw 21 = .ok (.iushr, 1) := by decide +kernel
theorem dX0_draw_22 : decode cX0_draw 22 = .ok (.ireturn, 1) := by decide +kernel
theorem dX0_softOfAll_0 : decode cX0_softOfAll 0 = .ok (.iconst 0, 1) := by decide +kernel
theorem dX0_softOfAll_1 : decode cX0_softOfAll 1 = .ok (.istore_n 1, 1) := by decide +kernel
theorem dX0_softOfAll_2 : decode cX0_softOfAll 2 = .ok (.iconst 0, 1) := by decide +kernel
theorem dX0_softOfAll_3 : decode cX0_softOfAll 3 = .ok (.istore_n 2, 1) := by decide +kernel
theorem dX0_softOfAll_4 : decode cX0_softOfAll 4 = .ok (.iload_n 2, 1) := by decide +kernel
theorem dX0_softOfAll_5 : decode cX0_softOfAll 5 = .ok (.aload_n 0, 1) := by decide +kernel
theorem dX0_softOfAll_6 : decode cX0_softOfAll 6 = .ok (.getfield 37, 3) := by decide +kernel
theorem dX0_softOfAll_9 : decode cX0_softOfAll 9 = .ok (.if_icmp .ge 18, 3) := by decide +kernel
theorem dX0_softOfAll_12 : decode cX0_softOfAll 12 = .ok (.iload_n 1, 1) := by decide +kernel
theorem dX0_softOfAll_13 : decode cX0_softOfAll 13 = .ok (.aload_n 0, 1) := by decide +kernel
theorem dX0_softOfAll_14 : decode cX0_softOfAll 14 = .ok (.getfield 21, 3) := by decide +kernel
theorem dX0_softOfAll_17 : decode cX0_softOfAll 17 = .ok (.iload_n 2, 1) := by decide +kernel
theorem dX0_softOfAll_18 : decode cX0_softOfAll 18 = .ok (.iaload, 1) := by decide +kernel
theorem dX0_softOfAll_19 : decode cX0_softOfAll 19 = .ok (.iadd, 1) := by decide +kernel
theorem dX0_softOfAll_20 : decode cX0_softOfAll 20 = .ok (.istore_n 1, 1) := by decide +kernel
theorem dX0_softOfAll_21 : decode cX0_softOfAll 21 = .ok (.iinc 2 1, 3) := by decide +kernel
theorem dX0_softOfAll_24 : decode cX0_softOfAll 24 = .ok (.goto (-20), 3) := by decide +kernel
theorem dX0_softOfAll_27 : decode cX0_softOfAll 27 = .ok (.iload_n 1, 1) := by decide +kernel
theorem dX0_softOfAll_28 : decode cX0_softOfAll 28 = .ok (.ireturn, 1) := by decide +kernel
theorem dX0_iceOfAll_0 : decode cX0_iceOfAll 0 = .ok (.iconst 0, 1) := by decide +kernel
theorem dX0_iceOfAll_1 : decode cX0_iceOfAll 1 = .ok (.istore_n 1, 1) := by decide +kernel
theorem dX0_iceOfAll_2 : decode cX0_iceOfAll 2 = .ok (.iconst 0, 1) := by decide +kernel
theorem dX0_iceOfAll_3 : decode cX0_iceOfAll 3 = .ok (.istore_n 2, 1) := by decide +kernel
theorem dX0_iceOfAll_4 : decode cX0_iceOfAll 4 = .ok (.iload_n 2, 1) := by decide +kernel
theorem dX0_iceOfAll_5 : decode cX0_iceOfAll 5 = .ok (.bipush 6, 2) := by decide +kernel
theorem dX0_iceOfAll_7 : decode cX0_iceOfAll 7 = .ok (.if_icmp .ge 18, 3) := by decide +kernel
theorem dX0_iceOfAll_10 : decode cX0_iceOfAll 10 = .ok (.iload_n 1, 1) := by decide +kernel
theorem dX0_iceOfAll_11 : decode cX0_iceOfAll 11 = .ok (.aload_n 0, 1) := by decide +kernel
theorem dX0_iceOfAll_12 : decode cX0_iceOfAll 12 = .ok (.getfield 27, 3) := by decide +kernel
theorem dX0_iceOfAll_15 : decode cX0_iceOfAll 15 = .ok (.iload_n 2, 1) := by decide +kernel
theorem dX0_iceOfAll_16 : decode cX0_iceOfAll 16 = .ok (.iaload, 1) := by decide +kernel
theorem dX0_iceOfAll_17 : decode cX0_iceOfAll 17 = .ok (.iadd, 1) := by decide +kernel
theorem dX0_iceOfAll_18 : decode cX0_iceOfAll 18 = .ok (.istore_n 1, 1) := by decide +kernel
theorem dX0_iceOfAll_19 : decode cX0_iceOfAll 19 = .ok (.iinc 2 1, 3) := by decide +kernel
theorem dX0_iceOfAll_22 : decode cX0_iceOfAll 22 = .ok (.goto (-18), 3) := by decide +kernel
theorem dX0_iceOfAll_25 : decode cX0_iceOfAll 25 = .ok (.iload_n 1, 1) := by decide +kernel
theorem dX0_iceOfAll_26 : decode cX0_iceOfAll 26 = .ok (.ireturn, 1) := by decide +kernel
theorem dX0_spotsHeld_0 : decode cX0_spotsHeld 0 = .ok (.iconst 0, 1) := by decide +kernel
theorem dX0_spotsHeld_1 : decode cX0_spotsHeld 1 = .ok (.istore_n 1, 1) := by decide +kernel
theorem dX0_spotsHeld_2 : decode cX0_spotsHeld 2 = .ok (.iconst 0, 1) := by decide +kernel
theorem dX0_spotsHeld_3 : decode cX0_spotsHeld 3 = .ok (.istore_n 2, 1) := by decide +kernel
theorem dX0_spotsHeld_4 : decode cX0_spotsHeld 4 = .ok (.iload_n 2, 1) := by decide +kernel
theorem dX0_spotsHeld_5 : decode cX0_spotsHeld 5 = .ok (.bipush 10, 2) := by decide +kernel
theorem dX0_spotsHeld_7 : decode cX0_spotsHeld 7 = .ok (.if_icmp .ge 22, 3) := by decide +kernel
theorem dX0_spotsHeld_10 : decode cX0_spotsHeld 10 = .ok (.aload_n 0, 1) := by decide +kernel
theorem dX0_spotsHeld_11 : decode cX0_spotsHeld 11 = .ok (.getfield 30, 3) := by decide +kernel
theorem dX0_spotsHeld_14 : decode cX0_spotsHeld 14 = .ok (.iload_n 2, 1) := by decide +kernel
theorem dX0_spotsHeld_15 : decode cX0_spotsHeld 15 = .ok (.iaload, 1) := by decide +kernel
theorem dX0_spotsHeld_16 : decode cX0_spotsHeld 16 = .ok (.iconst (-1), 1) := by decide +kernel
theorem dX0_spotsHeld_17 : decode cX0_spotsHeld 17 = .ok (.if_icmp .eq 6, 3) := by decide +kernel
theorem dX0_spotsHeld_20 : decode cX0_spotsHeld 20 = .ok (.iinc 1 1, 3) := by decide +kernel
theorem dX0_spotsHeld_23 : decode cX0_spotsHeld 23 = .ok (.iinc 2 1, 3) := by decide +kernel
theorem dX0_spotsHeld_26 : decode cX0_spotsHeld 26 = .ok (.goto (-22), 3) := by decide +kernel
theorem dX0_spotsHeld_29 : decode cX0_spotsHeld 29 = .ok (.iload_n 1, 1) := by decide +kernel
theorem dX0_spotsHeld_30 : decode cX0_spotsHeld 30 = .ok (.ireturn, 1) := by decide +kernel
theorem dX0_sunAt_0 : decode cX0_sunAt 0 = .ok (.iload_n 0, 1) := by decide +kernel
theorem dX0_sunAt_1 : decode cX0_sunAt 1 = .ok (.bipush 24, 2) := by decide +kernel
theorem dX0_sunAt_3 : decode cX0_sunAt 3 = .ok (.irem, 1) := by decide +kernel
theorem dX0_sunAt_4 : decode cX0_sunAt 4 = .ok (.istore_n 1, 1) := by decide +kernel
theorem dX0_sunAt_5 : decode cX0_sunAt 5 = .ok (.iload_n 1, 1) := by decide +kernel
theorem dX0_sunAt_6 : decode cX0_sunAt 6 = .ok (.bipush 6, 2) := by decide +kernel
theorem dX0_sunAt_8 : decode cX0_sunAt 8 = .ok (.if_icmp .lt 9, 3) := by decide +kernel
theorem dX0_sunAt_11 : decode cX0_sunAt 11 = .ok (.iload_n 1, 1) := by decide +kernel
theorem dX0_sunAt_12 : decode cX0_sunAt 12 = .ok (.bipush 20, 2) := by decide +kernel
theorem dX0_sunAt_14 : decode cX0_sunAt 14 = .ok (.if_icmp .lt 7, 3) := by decide +kernel
theorem dX0_sunAt_17 : decode cX0_sunAt 17 = .ok (.iconst 0, 1) := by decide +kernel
theorem dX0_sunAt_18 : decode cX0_sunAt 18 = .ok (.goto 15, 3) := by decide +kernel
theorem dX0_sunAt_21 : decode cX0_sunAt 21 = .ok (.bipush 28, 2) := by decide +kernel
theorem dX0_sunAt_23 : decode cX0_sunAt 23 = .ok (.iconst 4, 1) := by decide +kernel
theorem dX0_sunAt_24 : decode cX0_sunAt 24 = .ok (.iload_n 1, 1) := by decide +kernel
theorem dX0_sunAt_25 : decode cX0_sunAt 25 = .ok (.bipush 13, 2) := by decide +kernel
theorem dX0_sunAt_27 : decode cX0_sunAt 27 = .ok (.isub, 1) := by decide +kernel
theorem dX0_sunAt_28 : decode cX0_sunAt 28 = .ok (.invokestatic 85, 3) := by decide +kernel
theorem dX0_sunAt_31 : decode cX0_sunAt 31 = .ok (.imul, 1) := by decide +kernel
theorem dX0_sunAt_32 : decode cX0_sunAt 32 = .ok (.isub, 1) := by decide +kernel
theorem dX0_sunAt_33 : decode cX0_sunAt 33 = .ok (.ireturn, 1) := by decide +kernel
set_option maxRecDepth 20000 in
theorem ggX0_heatOf_X0_sunAt : GoodIn wsX0_heatOf wsX0_sunAt := goodIn_r _ [4, 5, 6, 7, 8] (by decide +kernel) (by decide +kernel)
set_option maxRecDepth 20000 in
theorem gX0_heatOf_X0_sunAt : GoodIn wsX0_heatOf (va_wsS RX0 89 yX0_sunAt wsX0_sunAt) := goodIn_app (goodIn_of _ (by decide +kernel)) ggX0_heatOf_X0_sunAt
set_option maxRecDepth 20000 in
theorem ggX0_heatOf_X0_heatUnder : GoodIn wsX0_heatOf wsX0_heatUnder := goodIn_r _ [12, 13, 14, 15, 16, 17, 18, 19, 20, 21, 22, 23, 24, 25, 26, 27, 28, 29, 30, 31, 32, 33, 34] (by decide +kernel) (by decide +kernel)
set_option maxRecDepth 20000 in
theorem gX0_heatOf_X0_heatUnder : GoodIn wsX0_heatOf (wsV RX0 92 RX0 yX0_heatUnder wsX0_heatUnder) := goodIn_app (goodIn_of _ (by decide +kernel)) ggX0_heatOf_X0_heatUnder
theorem dX0_heatOf_0 : decode cX0_heatOf 0 = .ok (.aload_n 0, 1) := by decide +kernel
theorem dX0_heatOf_1 : decode cX0_heatOf 1 = .ok (.iload_n 2, 1) := by decide +kernel
theorem dX0_heatOf_2 : decode cX0_heatOf 2 = .ok (.invokestatic 89, 3) := by decide +kernel
theorem dX0_heatOf_5 : decode cX0_heatOf 5 = .ok (.iload_n 1, 1) := by decide +kernel
theorem dX0_heatOf_6 : decode cX0_heatOf 6 = .ok (.invokevirtual 92, 3) := by decide +kernel
theorem dX0_heatOf_9 : decode cX0_heatOf 9 = .ok (.ireturn, 1) := by decide +kernel
set_option maxRecDepth 20000 in
theorem ggX0_heatUnder_X4_has : GoodIn wsX0_heatUnder wsX4_has := goodIn_r _ [7] (by decide +kernel) (by decide +kernel)
set_option maxRecDepth 20000 in
theorem gX0_heatUnder_X4_has_n95 : GoodIn wsX0_heatUnder (wsX4_has) := ggX0_heatUnder_X4_has
theorem dX0_heatUnder_0 : decode cX0_heatUnder 0 = .ok (.aload_n 0, 1) := by decide +kernel
theorem dX0_heatUnder_1 : decode cX0_heatUnder 1 = .ok (.getfield 49, 3) := by decide +kernel
theorem dX0_heatUnder_4 : decode cX0_heatUnder 4 = .ok (.bipush 6, 2) := by decide +kernel
theorem dX0_heatUnder_6 : decode cX0_heatUnder 6 = .ok (.iload_n 2, 1) := by decide +kernel
theorem dX0_heatUnder_7 : decode cX0_heatUnder 7 = .ok (.imul, 1) := by decide +kernel
theorem dX0_heatUnder_8 : decode cX0_heatUnder 8 = .ok (.isub, 1) := by decide +kernel
theorem dX0_heatUnder_9 : decode cX0_heatUnder 9 = .ok (.aload_n 0, 1) := by decide +kernel
theorem dX0_heatUnder_10 : decode cX0_heatUnder 10 = .ok (.getfield 40, 3) := by decide +kernel
theorem dX0_heatUnder_13 : decode cX0_heatUnder 13 = .ok (.iload_n 2, 1) := by decide +kernel
theorem dX0_heatUnder_14 : decode cX0_heatUnder 14 = .ok (.invokestatic 95, 3) := by decide +kernel
theorem dX0_heatUnder_17 : decode cX0_heatUnder 17 = .ok (.ifCond .eq 7, 3) := by decide +kernel
theorem dX0_heatUnder_20 : decode cX0_heatUnder 20 = .ok (.iload_n 1, 1) := by decide +kernel
theorem dX0_heatUnder_21 : decode cX0_heatUnder 21 = .ok (.goto 6, 3) := by decide +kernel
theorem dX0_heatUnder_24 : decode cX0_heatUnder 24 = .ok (.iload_n 1, 1) := by decide +kernel
theorem dX0_heatUnder_25 : decode cX0_heatUnder 25 = .ok (.iconst 2, 1) := by decide +kernel
theorem dX0_heatUnder_26 : decode cX0_heatUnder 26 = .ok (.idiv, 1) := by decide +kernel
theorem dX0_heatUnder_27 : decode cX0_heatUnder 27 = .ok (.iadd, 1) := by decide +kernel
theorem dX0_heatUnder_28 : decode cX0_heatUnder 28 = .ok (.istore_n 3, 1) := by decide +kernel
theorem dX0_heatUnder_29 : decode cX0_heatUnder 29 = .ok (.aload_n 0, 1) := by decide +kernel
theorem dX0_heatUnder_30 : decode cX0_heatUnder 30 = .ok (.getfield 27, 3) := by decide +kernel
theorem dX0_heatUnder_33 : decode cX0_heatUnder 33 = .ok (.iload_n 2, 1) := by decide +kernel
theorem dX0_heatUnder_34 : decode cX0_heatUnder 34 = .ok (.iaload, 1) := by decide +kernel
theorem dX0_heatUnder_35 : decode cX0_heatUnder 35 = .ok (.ifCond .le 6, 3) := by decide +kernel
theorem dX0_heatUnder_38 : decode cX0_heatUnder 38 = .ok (.iinc 3 (-10), 3) := by decide +kernel
theorem dX0_heatUnder_41 : decode cX0_heatUnder 41 = .ok (.aload_n 0, 1) := by decide +kernel
theorem dX0_heatUnder_42 : decode cX0_heatUnder 42 = .ok (.getfield 43, 3) := by decide +kernel
theorem dX0_heatUnder_45 : decode cX0_heatUnder 45 = .ok (.iload_n 2, 1) := by decide +kernel
theorem dX0_heatUnder_46 : decode cX0_heatUnder 46 = .ok (.invokestatic 95, 3) := by decide +kernel
theorem dX0_heatUnder_49 : decode cX0_heatUnder 49 = .ok (.ifCond .eq 6, 3) := by decide +kernel
theorem dX0_heatUnder_52 : decode cX0_heatUnder 52 = .ok (.iinc 3 12, 3) := by decide +kernel
theorem dX0_heatUnder_55 : decode cX0_heatUnder 55 = .ok (.iload_n 3, 1) := by decide +kernel
theorem dX0_heatUnder_56 : decode cX0_heatUnder 56 = .ok (.ireturn, 1) := by decide +kernel
set_option maxRecDepth 20000 in
theorem ggX0_hottest_X0_heatOf : GoodIn wsX0_hottest wsX0_heatOf := goodIn_r _ [6, 7, 8, 5, 9, 10, 11, 12, 13, 14, 15, 16, 17, 18, 19, 20, 21, 22, 23, 24, 25, 26, 27, 28, 29, 30, 31, 32, 33, 34, 35, 36, 37, 38, 39] (by decide +kernel) (by decide +kernel)
set_option maxRecDepth 20000 in
theorem gX0_hottest_X0_heatOf : GoodIn wsX0_hottest (wsV RX0 99 RX0 yX0_heatOf wsX0_heatOf) := goodIn_app (goodIn_of _ (by decide +kernel)) ggX0_hottest_X0_heatOf
theorem dX0_hottest_0 : decode cX0_hottest 0 = .ok (.iconst 0, 1) := by decide +kernel
theorem dX0_hottest_1 : decode cX0_hottest 1 = .ok (.istore_n 1, 1) := by decide +kernel
theorem dX0_hottest_2 : decode cX0_hottest 2 = .ok (.iconst 1, 1) := by decide +kernel
theorem dX0_hottest_3 : decode cX0_hottest 3 = .ok (.istore_n 2, 1) := by decide +kernel
theorem dX0_hottest_4 : decode cX0_hottest 4 = .ok (.iload_n 2, 1) := by decide +kernel
theorem dX0_hottest_5 : decode cX0_hottest 5 = .ok (.bipush 6, 2) := by decide +kernel
theorem dX0_hottest_7 : decode cX0_hottest 7 = .ok (.if_icmp .ge 32, 3) := by decide +kernel
theorem dX0_hottest_10 : decode cX0_hottest 10 = .ok (.aload_n 0, 1) := by decide +kernel
theorem dX0_hottest_11 : decode cX0_hottest 11 = .ok (.iload_n 2, 1) := by decide +kernel
theorem dX0_hottest_12 : decode cX0_hottest 12 = .ok (.aload_n 0, 1) := by decide +kernel
theorem dX0_hottest_13 : decode cX0_hottest 13 = .ok (.getfield 46, 3) := by decide +kernel
theorem dX0_hottest_16 : decode cX0_hottest 16 = .ok (.invokevirtual 99, 3) := by decide +kernel
theorem dX0_hottest_19 : decode cX0_hottest 19 = .ok (.aload_n 0, 1) := by decide +kernel
theorem dX0_hottest_20 : decode cX0_hottest 20 = .ok (.iload_n 1, 1) := by decide +kernel
theorem dX0_hottest_21 : decode cX0_hottest 21 = .ok (.aload_n 0, 1) := by decide +kernel
theorem dX0_hottest_22 : decode cX0_hottest 22 = .ok (.getfield 46, 3) := by decide +kernel
theorem dX0_hottest_25 : decode cX0_hottest 25 = .ok (.invokevirtual 99, 3) := by decide +kernel
theorem dX0_hottest_28 : decode cX0_hottest 28 = .ok (.if_icmp .le 5, 3) := by decide +kernel
theorem dX0_hottest_31 : decode cX0_hottest 31 = .ok (.iload_n 2, 1) := by decide +kernel
theorem dX0_hottest_32 : decode cX0_hottest 32 = .ok (.istore_n 1, 1) := by decide +kernel
theorem dX0_hottest_33 : decode cX0_hottest 33 = .ok (.iinc 2 1, 3) := by decide +kernel
theorem dX0_hottest_36 : decode cX0_hottest 36 = .ok (.goto (-32), 3) := by decide +kernel
theorem dX0_hottest_39 : decode cX0_hottest 39 = .ok (.iload_n 1, 1) := by decide +kernel
theorem dX0_hottest_40 : decode cX0_hottest 40 = .ok (.ireturn, 1) := by decide +kernel
set_option maxRecDepth 20000 in
theorem ggX0_hasRun_X4_has : GoodIn wsX0_hasRun wsX4_has := goodIn_r _ [4] (by decide +kernel) (by decide +kernel)
set_option maxRecDepth 20000 in
theorem gX0_hasRun_X4_has_n95 : GoodIn wsX0_hasRun (wsX4_has) := ggX0_hasRun_X4_has
theorem dX0_hasRun_0 : decode cX0_hasRun 0 = .ok (.aload_n 0, 1) := by decide +kernel
theorem dX0_hasRun_1 : decode cX0_hasRun 1 = .ok (.getfield 33, 3) := by decide +kernel
theorem dX0_hasRun_4 : decode cX0_hasRun 4 = .ok (.iload_n 1, 1) := by decide +kernel
theorem dX0_hasRun_5 : decode cX0_hasRun 5 = .ok (.invokestatic 95, 3) := by decide +kernel
theorem dX0_hasRun_8 : decode cX0_hasRun 8 = .ok (.ireturn, 1) := by decide +kernel
set_option maxRecDepth 20000 in
theorem ggX0_peaces_X4_has : GoodIn wsX0_peaces wsX4_has := goodIn_r _ [5] (by decide +kernel) (by decide +kernel)
set_option maxRecDepth 20000 in
theorem gX0_peaces_X4_has_n95 : GoodIn wsX0_peaces (wsX4_has) := ggX0_peaces_X4_has
set_option maxRecDepth 20000 in
theorem ggX0_peaces_X4_with : GoodIn wsX0_peaces wsX4_with := goodIn_r _ [7] (by decide +kernel) (by decide +kernel)
set_option maxRecDepth 20000 in
theorem gX0_peaces_X4_with_n72 : GoodIn wsX0_peaces (wsX4_with) := ggX0_peaces_X4_with
theorem dX0_peaces_0 : decode cX0_peaces 0 = .ok (.iconst 0, 1) := by decide +kernel
theorem dX0_peaces_1 : decode cX0_peaces 1 = .ok (.istore_n 2, 1) := by decide +kernel
theorem dX0_peaces_2 : decode cX0_peaces 2 = .ok (.iconst 0, 1) := by decide +kernel
theorem dX0_peaces_3 : decode cX0_peaces 3 = .ok (.istore_n 3, 1) := by decide +kernel
theorem dX0_peaces_4 : decode cX0_peaces 4 = .ok (.iload_n 3, 1) := by decide +kernel
theorem dX0_peaces_5 : decode cX0_peaces 5 = .ok (.aload_n 0, 1) := by decide +kernel
theorem dX0_peaces_6 : decode cX0_peaces 6 = .ok (.getfield 37, 3) := by decide +kernel
theorem dX0_peaces_9 : decode cX0_peaces 9 = .ok (.if_icmp .ge 58, 3) := by decide +kernel
theorem dX0_peaces_12 : decode cX0_peaces 12 = .ok (.aload_n 0, 1) := by decide +kernel
theorem dX0_peaces_13 : decode cX0_peaces 13 = .ok (.getfield 24, 3) := by decide +kernel
theorem dX0_peaces_16 : decode cX0_peaces 16 = .ok (.iload_n 3, 1) := by decide +kernel
theorem dX0_peaces_17 : decode cX0_peaces 17 = .ok (.iaload, 1) := by decide +kernel
theorem dX0_peaces_18 : decode cX0_peaces 18 = .ok (.iconst (-1), 1) := by decide +kernel
theorem dX0_peaces_19 : decode cX0_peaces 19 = .ok (.if_icmp .eq 16, 3) := by decide +kernel
theorem dX0_peaces_22 : decode cX0_peaces 22 = .ok (.iload_n 2, 1) := by decide +kernel
theorem dX0_peaces_23 : decode cX0_peaces 23 = .ok (.aload_n 0, 1) := by decide +kernel
theorem dX0_peaces_24 : decode cX0_peaces 24 = .ok (.getfield 24, 3) := by decide +kernel
theorem dX0_peaces_27 : decode cX0_peaces 27 = .ok (.iload_n 3, 1) := by decide +kernel
theorem dX0_peaces_28 : decode cX0_peaces 28 = .ok (.iaload, 1) := by decide +kernel
theorem dX0_peaces_29 : decode cX0_peaces 29 = .ok (.invokestatic 95, 3) := by decide +kernel
theorem dX0_peaces_32 : decode cX0_peaces 32 = .ok (.ifCond .eq 7, 3) := by decide +kernel
theorem dX0_peaces_35 : decode cX0_peaces 35 = .ok (.iconst 1, 1) := by decide +kernel
theorem dX0_peaces_36 : decode cX0_peaces 36 = .ok (.goto 4, 3) := by decide +kernel
theorem dX0_peaces_39 : decode cX0_peaces 39 = .ok (.iconst 0, 1) := by decide +kernel
theorem dX0_peaces_40 : decode cX0_peaces 40 = .ok (.istore 4, 2) := by decide +kernel
theorem dX0_peaces_42 : decode cX0_peaces 42 = .ok (.iload 4, 2) := by decide +kernel
theorem dX0_peaces_44 : decode cX0_peaces 44 = .ok (.ifCond .eq 17, 3) := by decide +kernel
theorem dX0_peaces_47 : decode cX0_peaces 47 = .ok (.iload_n 1, 1) := by decide +kernel
theorem dX0_peaces_48 : decode cX0_peaces 48 = .ok (.iload_n 3, 1) := by decide +kernel
theorem dX0_peaces_49 : decode cX0_peaces 49 = .ok (.invokestatic 95, 3) := by decide +kernel
theorem dX0_peaces_52 : decode cX0_peaces 52 = .ok (.ifCond .ne 9, 3) := by decide +kernel
theorem dX0_peaces_55 : decode cX0_peaces 55 = .ok (.iload_n 2, 1) := by decide +kernel
theorem dX0_peaces_56 : decode cX0_peaces 56 = .ok (.iload_n 3, 1) := by decide +kernel
theorem dX0_peaces_57 : decode cX0_peaces 57 = .ok (.invokestatic 72, 3) := by decide +kernel
theorem dX0_peaces_60 : decode cX0_peaces 60 = .ok (.istore_n 2, 1) := by decide +kernel
theorem dX0_peaces_61 : decode cX0_peaces 61 = .ok (.iinc 3 1, 3) := by decide +kernel
theorem dX0_peaces_64 : decode cX0_peaces 64 = .ok (.goto (-60), 3) := by decide +kernel
theorem dX0_peaces_67 : decode cX0_peaces 67 = .ok (.iload_n 2, 1) := by decide +kernel
theorem dX0_peaces_68 : decode cX0_peaces 68 = .ok (.ireturn, 1) := by decide +kernel
set_option maxRecDepth 20000 in
theorem ggX0_peaceHolds_X0_peaces : GoodIn wsX0_peaceHolds wsX0_peaces := goodIn_r _ [6, 7, 8, 9, 10, 11, 12, 13, 14, 15, 16, 17, 18, 19, 20, 21, 22, 23, 24, 25, 26, 27, 28] (by decide +kernel) (by decide +kernel)
set_option maxRecDepth 20000 in
theorem gX0_peaceHolds_X0_peaces : GoodIn wsX0_peaceHolds (wsV RX0 102 RX0 yX0_peaces wsX0_peaces) := goodIn_app (goodIn_of _ (by decide +kernel)) ggX0_peaceHolds_X0_peaces
set_option maxRecDepth 20000 in
theorem ggX0_peaceHolds_X4_has : GoodIn wsX0_peaceHolds wsX4_has := goodIn_r _ [11] (by decide +kernel) (by decide +kernel)
set_option maxRecDepth 20000 in
theorem gX0_peaceHolds_X4_has_n95 : GoodIn wsX0_peaceHolds (wsX4_has) := ggX0_peaceHolds_X4_has
theorem dX0_peaceHolds_0 : decode cX0_peaceHolds 0 = .ok (.aload_n 0, 1) := by decide +kernel
theorem dX0_peaceHolds_1 : decode cX0_peaceHolds 1 = .ok (.aload_n 0, 1) := by decide +kernel
theorem dX0_peaceHolds_2 : decode cX0_peaceHolds 2 = .ok (.getfield 33, 3) := by decide +kernel
theorem dX0_peaceHolds_5 : decode cX0_peaceHolds 5 = .ok (.invokevirtual 102, 3) := by decide +kernel
theorem dX0_peaceHolds_8 : decode cX0_peaceHolds 8 = .ok (.iload_n 1, 1) := by decide +kernel
theorem dX0_peaceHolds_9 : decode cX0_peaceHolds 9 = .ok (.invokestatic 95, 3) := by decide +kernel
theorem dX0_peaceHolds_12 : decode cX0_peaceHolds 12 = .ok (.ireturn, 1) := by decide +kernel
set_option maxRecDepth 20000 in
theorem ggX0_hangingOn_X4_has : GoodIn wsX0_hangingOn wsX4_has := goodIn_r _ [5] (by decide +kernel) (by decide +kernel)
set_option maxRecDepth 20000 in
theorem gX0_hangingOn_X4_has_n95 : GoodIn wsX0_hangingOn (wsX4_has) := ggX0_hangingOn_X4_has
set_option maxRecDepth 20000 in
theorem ggX0_hangingOn_X4_with : GoodIn wsX0_hangingOn wsX4_with := goodIn_r _ [7] (by decide +kernel) (by decide +kernel)
set_option maxRecDepth 20000 in
theorem gX0_hangingOn_X4_with_n72 : GoodIn wsX0_hangingOn (wsX4_with) := ggX0_hangingOn_X4_with
theorem dX0_hangingOn_0 : decode cX0_hangingOn 0 = .ok (.iconst 0, 1) := by decide +kernel
theorem dX0_hangingOn_1 : decode cX0_hangingOn 1 = .ok (.istore_n 2, 1) := by decide +kernel
theorem dX0_hangingOn_2 : decode cX0_hangingOn 2 = .ok (.iload_n 1, 1) := by decide +kernel
theorem dX0_hangingOn_3 : decode cX0_hangingOn 3 = .ok (.iconst 1, 1) := by decide +kernel
theorem dX0_hangingOn_4 : decode cX0_hangingOn 4 = .ok (.iadd, 1) := by decide +kernel
theorem dX0_hangingOn_5 : decode cX0_hangingOn 5 = .ok (.istore_n 3, 1) := by decide +kernel
theorem dX0_hangingOn_6 : decode cX0_hangingOn 6 = .ok (.iload_n 3, 1) := by decide +kernel
theorem dX0_hangingOn_7 : decode cX0_hangingOn 7 = .ok (.aload_n 0, 1) := by decide +kernel
theorem dX0_hangingOn_8 : decode cX0_hangingOn 8 = .ok (.getfield 37, 3) := by decide +kernel
theorem dX0_hangingOn_11 : decode cX0_hangingOn 11 = .ok (.if_icmp .ge 44, 3) := by decide +kernel
theorem dX0_hangingOn_14 : decode cX0_hangingOn 14 = .ok (.aload_n 0, 1) := by decide +kernel
theorem dX0_hangingOn_15 : decode cX0_hangingOn 15 = .ok (.getfield 24, 3) := by decide +kernel
theorem dX0_hangingOn_18 : decode cX0_hangingOn 18 = .ok (.iload_n 3, 1) := by decide +kernel
theorem dX0_hangingOn_19 : decode cX0_hangingOn 19 = .ok (.iaload, 1) := by decide +kernel
theorem dX0_hangingOn_20 : decode cX0_hangingOn 20 = .ok (.istore 4, 2) := by decide +kernel
theorem dX0_hangingOn_22 : decode cX0_hangingOn 22 = .ok (.iload 4, 2) := by decide +kernel
theorem dX0_hangingOn_24 : decode cX0_hangingOn 24 = .ok (.iload_n 1, 1) := by decide +kernel
theorem dX0_hangingOn_25 : decode cX0_hangingOn 25 = .ok (.if_icmp .eq 18, 3) := by decide +kernel
theorem dX0_hangingOn_28 : decode cX0_hangingOn 28 = .ok (.iload 4, 2) := by decide +kernel
theorem dX0_hangingOn_30 : decode cX0_hangingOn 30 = .ok (.iconst (-1), 1) := by decide +kernel
theorem dX0_hangingOn_31 : decode cX0_hangingOn 31 = .ok (.if_icmp .eq 18, 3) := by decide +kernel
theorem dX0_hangingOn_34 : decode cX0_hangingOn 34 = .ok (.iload_n 2, 1) := by decide +kernel
theorem dX0_hangingOn_35 : decode cX0_hangingOn 35 = .ok (.iload 4, 2) := by decide +kernel
theorem dX0_hangingOn_37 : decode cX0_hangingOn 37 = .ok (.invokestatic 95, 3) := by decide +kernel
theorem dX0_hangingOn_40 : decode cX0_hangingOn 40 = .ok (.ifCond .eq 9, 3) := by decide +kernel
theorem dX0_hangingOn_43 : decode cX0_hangingOn 43 = .ok (.iload_n 2, 1) := by decide +kernel
theorem dX0_hangingOn_44 : decode cX0_hangingOn 44 = .ok (.iload_n 3, 1) := by decide +kernel
theorem dX0_hangingOn_45 : decode cX0_hangingOn 45 = .ok (.invokestatic 72, 3) := by decide +kernel
theorem dX0_hangingOn_48 : decode cX0_hangingOn 48 = .ok (.istore_n 2, 1) := by decide +kernel
theorem dX0_hangingOn_49 : decode cX0_hangingOn 49 = .ok (.iinc 3 1, 3) := by decide +kernel
theorem dX0_hangingOn_52 : decode cX0_hangingOn 52 = .ok (.goto (-46), 3) := by decide +kernel
theorem dX0_hangingOn_55 : decode cX0_hangingOn 55 = .ok (.iload_n 2, 1) := by decide +kernel
theorem dX0_hangingOn_56 : decode cX0_hangingOn 56 = .ok (.ireturn, 1) := by decide +kernel
set_option maxRecDepth 20000 in
theorem ggX0_fallingWith_X0_peaces : GoodIn wsX0_fallingWith wsX0_peaces := goodIn_r _ [6, 7, 8, 9, 10, 11, 12, 13, 14, 15, 16, 17, 18, 19, 20, 21, 22, 23, 24, 25, 26, 27, 28] (by decide +kernel) (by decide +kernel)
set_option maxRecDepth 20000 in
theorem gX0_fallingWith_X0_peaces : GoodIn wsX0_fallingWith (wsV RX0 102 RX0 yX0_peaces wsX0_peaces) := goodIn_app (goodIn_of _ (by decide +kernel)) ggX0_fallingWith_X0_peaces
set_option maxRecDepth 20000 in
theorem ggX0_fallingWith_X4_with : GoodIn wsX0_fallingWith wsX4_with := goodIn_r _ [13] (by decide +kernel) (by decide +kernel)
set_option maxRecDepth 20000 in
theorem gX0_fallingWith_X4_with_n72 : GoodIn wsX0_fallingWith (wsX4_with) := ggX0_fallingWith_X4_with
theorem dX0_fallingWith_0 : decode cX0_fallingWith 0 = .ok (.aload_n 0, 1) := by decide +kernel
theorem dX0_fallingWith_1 : decode cX0_fallingWith 1 = .ok (.aload_n 0, 1) := by decide +kernel
theorem dX0_fallingWith_2 : decode cX0_fallingWith 2 = .ok (.getfield 33, 3) := by decide +kernel
theorem dX0_fallingWith_5 : decode cX0_fallingWith 5 = .ok (.invokevirtual 102, 3) := by decide +kernel
theorem dX0_fallingWith_8 : decode cX0_fallingWith 8 = .ok (.aload_n 0, 1) := by decide +kernel
theorem dX0_fallingWith_9 : decode cX0_fallingWith 9 = .ok (.aload_n 0, 1) := by decide +kernel
theorem dX0_fallingWith_10 : decode cX0_fallingWith 10 = .ok (.getfield 33, 3) := by decide +kernel
theorem dX0_fallingWith_13 : decode cX0_fallingWith 13 = .ok (.iload_n 1, 1) := by decide +kernel
theorem dX0_fallingWith_14 : decode cX0_fallingWith 14 = .ok (.invokestatic 72, 3) := by decide +kernel
theorem dX0_fallingWith_17 : decode cX0_fallingWith 17 = .ok (.invokevirtual 102, 3) := by decide +kernel
theorem dX0_fallingWith_20 : decode cX0_fallingWith 20 = .ok (.iconst (-1), 1) := by decide +kernel
theorem dX0_fallingWith_21 : decode cX0_fallingWith 21 = .ok (.ixor, 1) := by decide +kernel
theorem dX0_fallingWith_22 : decode cX0_fallingWith 22 = .ok (.iand, 1) := by decide +kernel
theorem dX0_fallingWith_23 : decode cX0_fallingWith 23 = .ok (.ireturn, 1) := by decide +kernel
set_option maxRecDepth 20000 in
theorem ggX0_pass_X0_passHour : GoodIn wsX0_pass wsX0_passHour := goodIn_r _ [5, 6, 7, 8, 9, 10, 11, 12, 13, 4, 14, 15, 16, 17, 18, 19, 20, 21, 22, 23, 24, 25, 26, 27, 28, 29, 30, 31, 32, 33, 34, 35, 36, 37, 38, 39, 40, 41, 42, 43, 44, 45, 46, 47, 48, 49, 50, 51, 52, 53, 54, 55, 56, 57, 58, 59, 60, 61, 62, 63, 64, 65, 66, 67, 68, 69, 70, 71, 72] (by decide +kernel) (by decide +kernel)
set_option maxRecDepth 20000 in
theorem gX0_pass_X0_passHour : GoodIn wsX0_pass (wsV RX0 105 RX0 yX0_passHour wsX0_passHour) := goodIn_app (goodIn_of _ (by decide +kernel)) ggX0_pass_X0_passHour
theorem dX0_pass_0 : decode cX0_pass 0 = .ok (.iconst 0, 1) := by decide +kernel
theorem dX0_pass_1 : decode cX0_pass 1 = .ok (.istore_n 2, 1) := by decide +kernel
theorem dX0_pass_2 : decode cX0_pass 2 = .ok (.iconst 0, 1) := by decide +kernel
theorem dX0_pass_3 : decode cX0_pass 3 = .ok (.istore_n 3, 1) := by decide +kernel
theorem dX0_pass_4 : decode cX0_pass 4 = .ok (.iload_n 3, 1) := by decide +kernel
theorem dX0_pass_5 : decode cX0_pass 5 = .ok (.iload_n 1, 1) := by decide +kernel
theorem dX0_pass_6 : decode cX0_pass 6 = .ok (.if_icmp .ge 16, 3) := by decide +kernel
theorem dX0_pass_9 : decode cX0_pass 9 = .ok (.iload_n 2, 1) := by decide +kernel
theorem dX0_pass_10 : decode cX0_pass 10 = .ok (.aload_n 0, 1) := by decide +kernel
theorem dX0_pass_11 : decode cX0_pass 11 = .ok (.invokevirtual 105, 3) := by decide +kernel
theorem dX0_pass_14 : decode cX0_pass 14 = .ok (.iadd, 1) := by decide +kernel
theorem dX0_pass_15 : decode cX0_pass 15 = .ok (.istore_n 2, 1) := by decide +kernel
theorem dX0_pass_16 : decode cX0_pass 16 = .ok (.iinc 3 1, 3) := by decide +kernel
theorem dX0_pass_19 : decode cX0_pass 19 = .ok (.goto (-15), 3) := by decide +kernel
theorem dX0_pass_22 : decode cX0_pass 22 = .ok (.iload_n 2, 1) := by decide +kernel
theorem dX0_pass_23 : decode cX0_pass 23 = .ok (.ireturn, 1) := by decide +kernel
set_option maxRecDepth 20000 in
theorem ggX0_passHour_X0_sunAt : GoodIn wsX0_passHour wsX0_sunAt := goodIn_r _ [10, 11, 12, 13, 14] (by decide +kernel) (by decide +kernel)
set_option maxRecDepth 20000 in
theorem gX0_passHour_X0_sunAt : GoodIn wsX0_passHour (va_wsS RX0 89 yX0_sunAt wsX0_sunAt) := goodIn_app (goodIn_of _ (by decide +kernel)) ggX0_passHour_X0_sunAt
set_option maxRecDepth 20000 in
theorem ggX0_passHour_X0_heatUnder : GoodIn wsX0_passHour wsX0_heatUnder := goodIn_r _ [18, 19, 20, 6, 21, 22, 23, 24, 54, 55, 56, 57, 58, 59, 60, 61, 62, 63, 64, 65, 66, 67, 68] (by decide +kernel) (by decide +kernel)
set_option maxRecDepth 20000 in
theorem gX0_passHour_X0_heatUnder : GoodIn wsX0_passHour (wsV RX0 92 RX0 yX0_heatUnder wsX0_heatUnder) := goodIn_app (goodIn_of _ (by decide +kernel)) ggX0_passHour_X0_heatUnder
set_option maxRecDepth 20000 in
theorem ggX0_passHour_X4_has : GoodIn wsX0_passHour wsX4_has := goodIn_r _ [24] (by decide +kernel) (by decide +kernel)
set_option maxRecDepth 20000 in
theorem gX0_passHour_X4_has_n95 : GoodIn wsX0_passHour (wsX4_has) := ggX0_passHour_X4_has
set_option maxRecDepth 20000 in
theorem ggX0_passHour_X0_softens : GoodIn wsX0_passHour wsX0_softens := goodIn_r _ [28, 29, 2, 5, 30, 31, 32, 33, 13, 34, 35, 36, 37, 38, 39, 40, 41, 42, 43, 44, 45, 46, 47, 54, 55, 56, 57, 58, 59, 60, 61, 62, 63, 64, 65, 66, 67, 68] (by decide +kernel) (by decide +kernel)
set_option maxRecDepth 20000 in
theorem gX0_passHour_X0_softens : GoodIn wsX0_passHour (wsV RX0 109 RX0 yX0_softens wsX0_softens) := goodIn_app (goodIn_of _ (by decide +kernel)) ggX0_passHour_X0_softens
set_option maxRecDepth 20000 in
theorem ggX0_passHour_X4_with : GoodIn wsX0_passHour wsX4_with := goodIn_r _ [49] (by decide +kernel) (by decide +kernel)
set_option maxRecDepth 20000 in
theorem gX0_passHour_X4_with_n72 : GoodIn wsX0_passHour (wsX4_with) := ggX0_passHour_X4_with
set_option maxRecDepth 20000 in
theorem ggX0_passHour_X0_dropOn : GoodIn wsX0_passHour wsX0_dropOn := goodIn_r _ [53, 3, 5, 4, 31, 32, 33, 13, 34, 22, 23, 24, 54, 55, 56, 57, 58, 59, 60, 61, 62, 63, 64, 65, 66, 67, 68] (by decide +kernel) (by decide +kernel)
set_option maxRecDepth 20000 in
theorem gX0_passHour_X0_dropOn : GoodIn wsX0_passHour (wsV RX0 113 RX0 yX0_dropOn wsX0_dropOn) := goodIn_app (goodIn_of _ (by decide +kernel)) ggX0_passHour_X0_dropOn
theorem dX0_passHour_0 : decode cX0_passHour 0 = .ok (.aload_n 0, 1) := by decide +kernel
theorem dX0_passHour_1 : decode cX0_passHour 1 = .ok (.getfield 46, 3) := by decide +kernel
theorem dX0_passHour_4 : decode cX0_passHour 4 = .ok (.invokestatic 89, 3) := by decide +kernel
theorem dX0_passHour_7 : decode cX0_passHour 7 = .ok (.istore_n 1, 1) := by decide +kernel
theorem dX0_passHour_8 : decode cX0_passHour 8 = .ok (.iconst 0, 1) := by decide +kernel
theorem dX0_passHour_9 : decode cX0_passHour 9 = .ok (.istore_n 2, 1) := by decide +kernel
theorem dX0_passHour_10 : decode cX0_passHour 10 = .ok (.iload_n 2, 1) := by decide +kernel
theorem dX0_passHour_11 : decode cX0_passHour 11 = .ok (.bipush 6, 2) := by decide +kernel
theorem dX0_passHour_13 : decode cX0_passHour 13 = .ok (.if_icmp .ge 21, 3) := by decide +kernel
theorem dX0_passHour_16 : decode cX0_passHour 16 = .ok (.aload_n 0, 1) := by decide +kernel
theorem dX0_passHour_17 : decode cX0_passHour 17 = .ok (.getfield 55, 3) := by decide +kernel
theorem dX0_passHour_20 : decode cX0_passHour 20 = .ok (.iload_n 2, 1) := by decide +kernel
theorem dX0_passHour_21 : decode cX0_passHour 21 = .ok (.aload_n 0, 1) := by decide +kernel
theorem dX0_passHour_22 : decode cX0_passHour 22 = .ok (.iload_n 1, 1) := by decide +kernel
theorem dX0_passHour_23 : decode cX0_passHour 23 = .ok (.iload_n 2, 1) := by decide +kernel
theorem dX0_passHour_24 : decode cX0_passHour 24 = .ok (.invokevirtual 92, 3) := by decide +kernel
theorem dX0_passHour_27 : decode cX0_passHour 27 = .ok (.iastore, 1) := by decide +kernel
theorem dX0_passHour_28 : decode cX0_passHour 28 = .ok (.iinc 2 1, 3) := by decide +kernel
theorem dX0_passHour_31 : decode cX0_passHour 31 = .ok (.goto (-21), 3) := by decide +kernel
theorem dX0_passHour_34 : decode cX0_passHour 34 = .ok (.iconst 0, 1) := by decide +kernel
theorem dX0_passHour_35 : decode cX0_passHour 35 = .ok (.istore_n 2, 1) := by decide +kernel
theorem dX0_passHour_36 : decode cX0_passHour 36 = .ok (.iconst 0, 1) := by decide +kernel
theorem dX0_passHour_37 : decode cX0_passHour 37 = .ok (.istore_n 3, 1) := by decide +kernel
theorem dX0_passHour_38 : decode cX0_passHour 38 = .ok (.iload_n 3, 1) := by decide +kernel
theorem dX0_passHour_39 : decode cX0_passHour 39 = .ok (.aload_n 0, 1) := by decide +kernel
theorem dX0_passHour_40 : decode cX0_passHour 40 = .ok (.getfield 37, 3) := by decide +kernel
theorem dX0_passHour_43 : decode cX0_passHour 43 = .ok (.if_icmp .ge 55, 3) := by decide +kernel
theorem dX0_passHour_46 : decode cX0_passHour 46 = .ok (.aload_n 0, 1) := by decide +kernel
theorem dX0_passHour_47 : decode cX0_passHour 47 = .ok (.getfield 33, 3) := by decide +kernel
theorem dX0_passHour_50 : decode cX0_passHour 50 = .ok (.iload_n 3, 1) := by decide +kernel
theorem dX0_passHour_51 : decode cX0_passHour 51 = .ok (.invokestatic 95, 3) := by decide +kernel
theorem dX0_passHour_54 : decode cX0_passHour 54 = .ok (.ifCond .ne 38, 3) := by decide +kernel
theorem dX0_passHour_57 : decode cX0_passHour 57 = .ok (.aload_n 0, 1) := by decide +kernel
theorem dX0_passHour_58 : decode cX0_passHour 58 = .ok (.iload_n 3, 1) := by decide +kernel
theorem dX0_passHour_59 : decode cX0_passHour 59 = .ok (.invokevirtual 109, 3) := by decide +kernel
theorem dX0_passHour_62 : decode cX0_passHour 62 = .ok (.ifCond .eq 30, 3) := by decide +kernel
theorem dX0_passHour_65 : decode cX0_passHour 65 = .ok (.aload_n 0, 1) := by decide +kernel
theorem dX0_passHour_66 : decode cX0_passHour 66 = .ok (.aload_n 0, 1) := by decide +kernel
theorem dX0_passHour_67 : decode cX0_passHour 67 = .ok (.getfield 33, 3) := by decide +kernel
theorem dX0_passHour_70 : decode cX0_passHour 70 = .ok (.iload_n 3, 1) := by decide +kernel
theorem dX0_passHour_71 : decode cX0_passHour 71 = .ok (.invokestatic 72, 3) := by decide +kernel
theorem dX0_passHour_74 : decode cX0_passHour 74 = .ok (.putfield 33, 3) := by decide +kernel
theorem dX0_passHour_77 : decode cX0_passHour 77 = .ok (.aload_n 0, 1) := by decide +kernel
theorem dX0_passHour_78 : decode cX0_passHour 78 = .ok (.aload_n 0, 1) := by decide +kernel
theorem dX0_passHour_79 : decode cX0_passHour 79 = .ok (.getfield 15, 3) := by decide +kernel
theorem dX0_passHour_82 : decode cX0_passHour 82 = .ok (.iload_n 3, 1) := by decide +kernel
theorem dX0_passHour_83 : decode cX0_passHour 83 = .ok (.iaload, 1) := by decide +kernel
theorem dX0_passHour_84 : decode cX0_passHour 84 = .ok (.iconst 1, 1) := by decide +kernel
theorem dX0_passHour_85 : decode cX0_passHour 85 = .ok (.iadd, 1) := by decide +kernel
theorem dX0_passHour_86 : decode cX0_passHour 86 = .ok (.invokevirtual 113, 3) := by decide +kernel
theorem dX0_passHour_89 : decode cX0_passHour 89 = .ok (.iinc 2 1, 3) := by decide +kernel
theorem dX0_passHour_92 : decode cX0_passHour 92 = .ok (.iinc 3 1, 3) := by decide +kernel
theorem dX0_passHour_95 : decode cX0_passHour 95 = .ok (.goto (-57), 3) := by decide +kernel
theorem dX0_passHour_98 : decode cX0_passHour 98 = .ok (.iconst 0, 1) := by decide +kernel
theorem dX0_passHour_99 : decode cX0_passHour 99 = .ok (.istore_n 3, 1) := by decide +kernel
theorem dX0_passHour_100 : decode cX0_passHour 100 = .ok (.iload_n 3, 1) := by decide +kernel
theorem dX0_passHour_101 : decode cX0_passHour 101 = .ok (.bipush 6, 2) := by decide +kernel
theorem dX0_passHour_103 : decode cX0_passHour 103 = .ok (.if_icmp .ge 39, 3) := by decide +kernel
theorem dX0_passHour_106 : decode cX0_passHour 106 = .ok (.aload_n 0, 1) := by decide +kernel
theorem dX0_passHour_107 : decode cX0_passHour 107 = .ok (.getfield 55, 3) := by decide +kernel
theorem dX0_passHour_110 : decode cX0_passHour 110 = .ok (.iload_n 3, 1) := by decide +kernel
theorem dX0_passHour_111 : decode cX0_passHour 111 = .ok (.iaload, 1) := by decide +kernel
theorem dX0_passHour_112 : decode cX0_passHour 112 = .ok (.bipush 20, 2) := by decide +kernel
theorem dX0_passHour_114 : decode cX0_passHour 114 = .ok (.if_icmp .le 22, 3) := by decide +kernel
theorem dX0_passHour_117 : decode cX0_passHour 117 = .ok (.aload_n 0, 1) := by decide +kernel
theorem dX0_passHour_118 : decode cX0_passHour 118 = .ok (.getfield 27, 3) := by decide +kernel
theorem dX0_passHour_121 : decode cX0_passHour 121 = .ok (.iload_n 3, 1) := by decide +kernel
theorem dX0_passHour_122 : decode cX0_passHour 122 = .ok (.iaload, 1) := by decide +kernel
theorem dX0_passHour_123 : decode cX0_passHour 123 = .ok (.ifCond .le 13, 3) := by decide +kernel
theorem dX0_passHour_126 : decode cX0_passHour 126 = .ok (.aload_n 0, 1) := by decide +kernel
theorem dX0_passHour_127 : decode cX0_passHour 127 = .ok (.getfield 27, 3) := by decide +kernel
theorem dX0_passHour_130 : decode cX0_passHour 130 = .ok (.iload_n 3, 1) := by decide +kernel
theorem dX0_passHour_131 : decode cX0_passHour 131 = .ok (.dup2, 1) := by decide +kernel
theorem dX0_passHour_132 : decode cX0_passHour 132 = .ok (.iaload, 1) := by decide +kernel
theorem dX0_passHour_133 : decode cX0_passHour 133 = .ok (.iconst 1, 1) := by decide +kernel
theorem dX0_passHour_134 : decode cX0_passHour 134 = .ok (.isub, 1) := by decide +kernel
theorem dX0_passHour_135 : decode cX0_passHour 135 = .ok (.iastore, 1) := by decide +kernel
theorem dX0_passHour_136 : decode cX0_passHour 136 = .ok (.iinc 3 1, 3) := by decide +kernel
theorem dX0_passHour_139 : decode cX0_passHour 139 = .ok (.goto (-39), 3) := by decide +kernel
theorem dX0_passHour_142 : decode cX0_passHour 142 = .ok (.aload_n 0, 1) := by decide +kernel
theorem dX0_passHour_143 : decode cX0_passHour 143 = .ok (.dup, 1) := by decide +kernel
theorem dX0_passHour_144 : decode cX0_passHour 144 = .ok (.getfield 46, 3) := by decide +kernel
theorem dX0_passHour_147 : decode cX0_passHour 147 = .ok (.iconst 1, 1) := by decide +kernel
theorem dX0_passHour_148 : decode cX0_passHour 148 = .ok (.iadd, 1) := by decide +kernel
theorem dX0_passHour_149 : decode cX0_passHour 149 = .ok (.putfield 46, 3) := by decide +kernel
theorem dX0_passHour_152 : decode cX0_passHour 152 = .ok (.iload_n 2, 1) := by decide +kernel
theorem dX0_passHour_153 : decode cX0_passHour 153 = .ok (.ireturn, 1) := by decide +kernel
set_option maxRecDepth 20000 in
theorem ggX0_softens_X1_feels : GoodIn wsX0_softens wsX1_feels := goodIn_r _ [16] (by decide +kernel) (by decide +kernel)
set_option maxRecDepth 20000 in
theorem gX0_softens_X1_feels : GoodIn wsX0_softens (va_wsS RX0 117 yX1_feels wsX1_feels) := goodIn_app (goodIn_of _ (by decide +kernel)) ggX0_softens_X1_feels
set_option maxRecDepth 20000 in
theorem ggX0_softens_X1_stands : GoodIn wsX0_softens wsX1_stands := goodIn_r _ [19] (by decide +kernel) (by decide +kernel)
set_option maxRecDepth 20000 in
theorem gX0_softens_X1_stands : GoodIn wsX0_softens (va_wsS RX0 122 yX1_stands wsX1_stands) := goodIn_app (goodIn_of _ (by decide +kernel)) ggX0_softens_X1_stands
set_option maxRecDepth 20000 in
theorem ggX0_softens_X1_runsAt : GoodIn wsX0_softens wsX1_runsAt := goodIn_r _ [22] (by decide +kernel) (by decide +kernel)
set_option maxRecDepth 20000 in
theorem gX0_softens_X1_runsAt : GoodIn wsX0_softens (va_wsS RX0 128 yX1_runsAt wsX1_runsAt) := goodIn_app (goodIn_of _ (by decide +kernel)) ggX0_softens_X1_runsAt
theorem dX0_softens_0 : decode cX0_softens 0 = .ok (.aload_n 0, 1) := by decide +kernel
theorem dX0_softens_1 : decode cX0_softens 1 = .ok (.getfield 9, 3) := by decide +kernel
theorem dX0_softens_4 : decode cX0_softens 4 = .ok (.iload_n 1, 1) := by decide +kernel
theorem dX0_softens_5 : decode cX0_softens 5 = .ok (.iaload, 1) := by decide +kernel
theorem dX0_softens_6 : decode cX0_softens 6 = .ok (.aload_n 0, 1) := by decide +kernel
theorem dX0_softens_7 : decode cX0_softens 7 = .ok (.getfield 55, 3) := by decide +kernel
theorem dX0_softens_10 : decode cX0_softens 10 = .ok (.aload_n 0, 1) := by decide +kernel
theorem dX0_softens_11 : decode cX0_softens 11 = .ok (.getfield 15, 3) := by decide +kernel
theorem dX0_softens_14 : decode cX0_softens 14 = .ok (.iload_n 1, 1) := by decide +kernel
theorem dX0_softens_15 : decode cX0_softens 15 = .ok (.iaload, 1) := by decide +kernel
theorem dX0_softens_16 : decode cX0_softens 16 = .ok (.iaload, 1) := by decide +kernel
theorem dX0_softens_17 : decode cX0_softens 17 = .ok (.invokestatic 117, 3) := by decide +kernel
theorem dX0_softens_20 : decode cX0_softens 20 = .ok (.aload_n 0, 1) := by decide +kernel
theorem dX0_softens_21 : decode cX0_softens 21 = .ok (.getfield 9, 3) := by decide +kernel
theorem dX0_softens_24 : decode cX0_softens 24 = .ok (.iload_n 1, 1) := by decide +kernel
theorem dX0_softens_25 : decode cX0_softens 25 = .ok (.iaload, 1) := by decide +kernel
theorem dX0_softens_26 : decode cX0_softens 26 = .ok (.aload_n 0, 1) := by decide +kernel
theorem dX0_softens_27 : decode cX0_softens 27 = .ok (.getfield 18, 3) := by decide +kernel
theorem dX0_softens_30 : decode cX0_softens 30 = .ok (.iload_n 1, 1) := by decide +kernel
theorem dX0_softens_31 : decode cX0_softens 31 = .ok (.iaload, 1) := by decide +kernel
theorem dX0_softens_32 : decode cX0_softens 32 = .ok (.invokestatic 122, 3) := by decide +kernel
theorem dX0_softens_35 : decode cX0_softens 35 = .ok (.isub, 1) := by decide +kernel
theorem dX0_softens_36 : decode cX0_softens 36 = .ok (.istore_n 2, 1) := by decide +kernel
theorem dX0_softens_37 : decode cX0_softens 37 = .ok (.aload_n 0, 1) := by decide +kernel
theorem dX0_softens_38 : decode cX0_softens 38 = .ok (.getfield 21, 3) := by decide +kernel
theorem dX0_softens_41 : decode cX0_softens 41 = .ok (.iload_n 1, 1) := by decide +kernel
theorem dX0_softens_42 : decode cX0_softens 42 = .ok (.iload_n 2, 1) := by decide +kernel
theorem dX0_softens_43 : decode cX0_softens 43 = .ok (.ifCond .le 19, 3) := by decide +kernel
theorem dX0_softens_46 : decode cX0_softens 46 = .ok (.bipush 99, 2) := by decide +kernel
theorem dX0_softens_48 : decode cX0_softens 48 = .ok (.aload_n 0, 1) := by decide +kernel
theorem dX0_softens_49 : decode cX0_softens 49 = .ok (.getfield 21, 3) := by decide +kernel
theorem dX0_softens_52 : decode cX0_softens 52 = .ok (.iload_n 1, 1) := by decide +kernel
theorem dX0_softens_53 : decode cX0_softens 53 = .ok (.iaload, 1) := by decide +kernel
theorem dX0_softens_54 : decode cX0_softens 54 = .ok (.iload_n 2, 1) := by decide +kernel
theorem dX0_softens_55 : decode cX0_softens 55 = .ok (.iadd, 1) := by decide +kernel
theorem dX0_softens_56 : decode cX0_softens 56 = .ok (.invokestatic 79, 3) := by decide +kernel
theorem dX0_softens_59 : decode cX0_softens 59 = .ok (.goto 15, 3) := by decide +kernel
theorem dX0_softens_62 : decode cX0_softens 62 = .ok (.iconst 0, 1) := by decide +kernel
theorem dX0_softens_63 : decode cX0_softens 63 = .ok (.aload_n 0, 1) := by decide +kernel
theorem dX0_softens_64 : decode cX0_softens 64 = .ok (.getfield 21, 3) := by decide +kernel
theorem dX0_softens_67 : decode cX0_softens 67 = .ok (.iload_n 1, 1) := by decide +kernel
theorem dX0_softens_68 : decode cX0_softens 68 = .ok (.iaload, 1) := by decide +kernel
theorem dX0_softens_69 : decode cX0_softens 69 = .ok (.iconst 1, 1) := by decide +kernel
theorem dX0_softens_70 : decode cX0_softens 70 = .ok (.isub, 1) := by decide +kernel
theorem dX0_softens_71 : decode cX0_softens 71 = .ok (.invokestatic 125, 3) := by decide +kernel
theorem dX0_softens_74 : decode cX0_softens 74 = .ok (.iastore, 1) := by decide +kernel
theorem dX0_softens_75 : decode cX0_softens 75 = .ok (.aload_n 0, 1) := by decide +kernel
theorem dX0_softens_76 : decode cX0_softens 76 = .ok (.getfield 21, 3) := by decide +kernel
theorem dX0_softens_79 : decode cX0_softens 79 = .ok (.iload_n 1, 1) := by decide +kernel
theorem dX0_softens_80 : decode cX0_softens 80 = .ok (.iaload, 1) := by decide +kernel
theorem dX0_softens_81 : decode cX0_softens 81 = .ok (.aload_n 0, 1) := by decide +kernel
theorem dX0_softens_82 : decode cX0_softens 82 = .ok (.getfield 9, 3) := by decide +kernel
theorem dX0_softens_85 : decode cX0_softens 85 = .ok (.iload_n 1, 1) := by decide +kernel
theorem dX0_softens_86 : decode cX0_softens 86 = .ok (.iaload, 1) := by decide +kernel
theorem dX0_softens_87 : decode cX0_softens 87 = .ok (.invokestatic 128, 3) := by decide +kernel
theorem dX0_softens_90 : decode cX0_softens 90 = .ok (.if_icmp .lt 7, 3) := by decide +kernel
theorem dX0_softens_93 : decode cX0_softens 93 = .ok (.iconst 1, 1) := by decide +kernel
theorem dX0_softens_94 : decode cX0_softens 94 = .ok (.goto 4, 3) := by decide +kernel
theorem dX0_softens_97 : decode cX0_softens 97 = .ok (.iconst 0, 1) := by decide +kernel
theorem dX0_softens_98 : decode cX0_softens 98 = .ok (.ireturn, 1) := by decide +kernel
set_option maxRecDepth 20000 in
theorem ggX0_dropOn_X4_has : GoodIn wsX0_dropOn wsX4_has := goodIn_r _ [11] (by decide +kernel) (by decide +kernel)
set_option maxRecDepth 20000 in
theorem gX0_dropOn_X4_has_n95 : GoodIn wsX0_dropOn (wsX4_has) := ggX0_dropOn_X4_has
theorem dX0_dropOn_0 : decode cX0_dropOn 0 = .ok (.iconst 0, 1) := by decide +kernel
theorem dX0_dropOn_1 : decode cX0_dropOn 1 = .ok (.istore_n 2, 1) := by decide +kernel
theorem dX0_dropOn_2 : decode cX0_dropOn 2 = .ok (.iload_n 2, 1) := by decide +kernel
theorem dX0_dropOn_3 : decode cX0_dropOn 3 = .ok (.aload_n 0, 1) := by decide +kernel
theorem dX0_dropOn_4 : decode cX0_dropOn 4 = .ok (.getfield 37, 3) := by decide +kernel
theorem dX0_dropOn_7 : decode cX0_dropOn 7 = .ok (.if_icmp .ge 49, 3) := by decide +kernel
theorem dX0_dropOn_10 : decode cX0_dropOn 10 = .ok (.aload_n 0, 1) := by decide +kernel
theorem dX0_dropOn_11 : decode cX0_dropOn 11 = .ok (.getfield 15, 3) := by decide +kernel
theorem dX0_dropOn_14 : decode cX0_dropOn 14 = .ok (.iload_n 2, 1) := by decide +kernel
theorem dX0_dropOn_15 : decode cX0_dropOn 15 = .ok (.iaload, 1) := by decide +kernel
theorem dX0_dropOn_16 : decode cX0_dropOn 16 = .ok (.iload_n 1, 1) := by decide +kernel
theorem dX0_dropOn_17 : decode cX0_dropOn 17 = .ok (.if_icmp .ne 33, 3) := by decide +kernel
theorem dX0_dropOn_20 : decode cX0_dropOn 20 = .ok (.aload_n 0, 1) := by decide +kernel
theorem dX0_dropOn_21 : decode cX0_dropOn 21 = .ok (.getfield 33, 3) := by decide +kernel
theorem dX0_dropOn_24 : decode cX0_dropOn 24 = .ok (.iload_n 2, 1) := by decide +kernel
theorem dX0_dropOn_25 : decode cX0_dropOn 25 = .ok (.invokestatic 95, 3) := by decide +kernel
theorem dX0_dropOn_28 : decode cX0_dropOn 28 = .ok (.ifCond .ne 22, 3) := by decide +kernel
theorem dX0_dropOn_31 : decode cX0_dropOn 31 = .ok (.aload_n 0, 1) := by decide +kernel
theorem dX0_dropOn_32 : decode cX0_dropOn 32 = .ok (.getfield 21, 3) := by decide +kernel
theorem dX0_dropOn_35 : decode cX0_dropOn 35 = .ok (.iload_n 2, 1) := by decide +kernel
theorem dX0_dropOn_36 : decode cX0_dropOn 36 = .ok (.bipush 99, 2) := by decide +kernel
theorem dX0_dropOn_38 : decode cX0_dropOn 38 = .ok (.aload_n 0, 1) := by decide +kernel
theorem dX0_dropOn_39 : decode cX0_dropOn 39 = .ok (.getfield 21, 3) := by decide +kernel
theorem dX0_dropOn_42 : decode cX0_dropOn 42 = .ok (.iload_n 2, 1) := by decide +kernel
theorem dX0_dropOn_43 : decode cX0_dropOn 43 = .ok (.iaload, 1) := by decide +kernel
theorem dX0_dropOn_44 : decode cX0_dropOn 44 = .ok (.iconst 3, 1) := by decide +kernel
theorem dX0_dropOn_45 : decode cX0_dropOn 45 = .ok (.iadd, 1) := by decide +kernel
theorem dX0_dropOn_46 : decode cX0_dropOn 46 = .ok (.invokestatic 79, 3) := by decide +kernel
theorem dX0_dropOn_49 : decode cX0_dropOn 49 = .ok (.iastore, 1) := by decide +kernel
theorem dX0_dropOn_50 : decode cX0_dropOn 50 = .ok (.iinc 2 1, 3) := by decide +kernel
theorem dX0_dropOn_53 : decode cX0_dropOn 53 = .ok (.goto (-51), 3) := by decide +kernel
theorem dX0_dropOn_56 : decode cX0_dropOn 56 = .ok (.return_, 1) := by decide +kernel
set_option maxRecDepth 20000 in
theorem ggX0_holdingBehind_X0_passHour : GoodIn wsX0_holdingBehind wsX0_passHour := goodIn_r _ [6, 7, 8, 9, 1, 10, 11, 12, 13, 5, 14, 15, 16, 17, 18, 19, 20, 21, 22, 23, 24, 25, 26, 27, 28, 29, 30, 31, 32, 33, 34, 35, 36, 37, 38, 39, 40, 41, 42, 43, 44, 45, 46, 47, 48, 49, 50, 51, 52, 53, 54, 55, 56, 57, 70, 71, 72, 73, 74, 75, 76, 77, 78, 79, 80, 81, 82, 83, 84] (by decide +kernel) (by decide +kernel)
set_option maxRecDepth 20000 in
theorem gX0_holdingBehind_X0_passHour : GoodIn wsX0_holdingBehind (wsV RX0 105 RX0 yX0_passHour wsX0_passHour) := goodIn_app (goodIn_of _ (by decide +kernel)) ggX0_holdingBehind_X0_passHour
set_option maxRecDepth 20000 in
theorem ggX0_holdingBehind_X0_peaces : GoodIn wsX0_holdingBehind wsX0_peaces := goodIn_r _ [61, 9, 62, 26, 27, 28, 52, 53, 70, 71, 72, 73, 74, 75, 76, 77, 78, 79, 80, 81, 82, 83, 84] (by decide +kernel) (by decide +kernel)
set_option maxRecDepth 20000 in
theorem gX0_holdingBehind_X0_peaces : GoodIn wsX0_holdingBehind (wsV RX0 102 RX0 yX0_peaces wsX0_peaces) := goodIn_app (goodIn_of _ (by decide +kernel)) ggX0_holdingBehind_X0_peaces
set_option maxRecDepth 20000 in
theorem ggX0_holdingBehind_J6_bitCount_0f7a4 : GoodIn wsX0_holdingBehind wsJ6_bitCount_0f7a4 := goodIn_r _ [66, 67, 68, 69] (by decide +kernel) (by decide +kernel)
set_option maxRecDepth 20000 in
theorem gX0_holdingBehind_J6_bitCount_0f7a4 : GoodIn wsX0_holdingBehind (va_wsS RX0 131 yJ6_bitCount_0f7a4 wsJ6_bitCount_0f7a4) := goodIn_app (goodIn_of _ (by decide +kernel)) ggX0_holdingBehind_J6_bitCount_0f7a4
theorem dX0_holdingBehind_0 : decode cX0_holdingBehind 0 = .ok (.iconst 0, 1) := by decide +kernel
theorem dX0_holdingBehind_1 : decode cX0_holdingBehind 1 = .ok (.istore_n 2, 1) := by decide +kernel
theorem dX0_holdingBehind_2 : decode cX0_holdingBehind 2 = .ok (.iload_n 2, 1) := by decide +kernel
theorem dX0_holdingBehind_3 : decode cX0_holdingBehind 3 = .ok (.iload_n 1, 1) := by decide +kernel
theorem dX0_holdingBehind_4 : decode cX0_holdingBehind 4 = .ok (.if_icmp .ge 14, 3) := by decide +kernel
theorem dX0_holdingBehind_7 : decode cX0_holdingBehind 7 = .ok (.aload_n 0, 1) := by decide +kernel
theorem dX0_holdingBehind_8 : decode cX0_holdingBehind 8 = .ok (.invokevirtual 105, 3) := by decide +kernel
theorem dX0_holdingBehind_11 : decode cX0_holdingBehind 11 = .ok (.pop, 1) := by decide +kernel
theorem dX0_holdingBehind_12 : decode cX0_holdingBehind 12 = .ok (.iinc 2 1, 3) := by decide +kernel
theorem dX0_holdingBehind_15 : decode cX0_holdingBehind 15 = .ok (.goto (-13), 3) := by decide +kernel
theorem dX0_holdingBehind_18 : decode cX0_holdingBehind 18 = .ok (.aload_n 0, 1) := by decide +kernel
theorem dX0_holdingBehind_19 : decode cX0_holdingBehind 19 = .ok (.aload_n 0, 1) := by decide +kernel
theorem dX0_holdingBehind_20 : decode cX0_holdingBehind 20 = .ok (.getfield 33, 3) := by decide +kernel
theorem dX0_holdingBehind_23 : decode cX0_holdingBehind 23 = .ok (.invokevirtual 102, 3) := by decide +kernel
theorem dX0_holdingBehind_26 : decode cX0_holdingBehind 26 = .ok (.invokestatic 131, 3) := by decide +kernel
theorem dX0_holdingBehind_29 : decode cX0_holdingBehind 29 = .ok (.ireturn, 1) := by decide +kernel
set_option maxRecDepth 20000 in
theorem ggX0_holdsBehind_X0_peaceHolds : GoodIn wsX0_holdsBehind wsX0_peaceHolds := goodIn_r _ [5, 6, 7, 8, 9, 4, 10, 11, 12, 13, 14, 15, 16, 17, 67, 68, 69, 70, 71, 72, 73, 74, 75, 76, 77, 78, 79, 80, 81] (by decide +kernel) (by decide +kernel)
set_option maxRecDepth 20000 in
theorem gX0_holdsBehind_X0_peaceHolds : GoodIn wsX0_holdsBehind (wsV RX0 136 RX0 yX0_peaceHolds wsX0_peaceHolds) := goodIn_app (goodIn_of _ (by decide +kernel)) ggX0_holdsBehind_X0_peaceHolds
set_option maxRecDepth 20000 in
theorem ggX0_holdsBehind_X0_passHour : GoodIn wsX0_holdsBehind wsX0_passHour := goodIn_r _ [21, 22, 23, 11, 6, 24, 25, 26, 27, 4, 28, 29, 30, 31, 32, 33, 34, 35, 36, 37, 38, 39, 13, 14, 15, 40, 41, 42, 43, 44, 45, 46, 47, 48, 49, 50, 51, 52, 53, 54, 55, 56, 57, 58, 59, 60, 61, 62, 16, 17, 63, 64, 65, 66, 67, 68, 69, 70, 71, 72, 73, 74, 75, 76, 77, 78, 79, 80, 81] (by decide +kernel) (by decide +kernel)
set_option maxRecDepth 20000 in
theorem gX0_holdsBehind_X0_passHour : GoodIn wsX0_holdsBehind (wsV RX0 105 RX0 yX0_passHour wsX0_passHour) := goodIn_app (goodIn_of _ (by decide +kernel)) ggX0_holdsBehind_X0_passHour
theorem dX0_holdsBehind_0 : decode cX0_holdsBehind 0 = .ok (.aload_n 0, 1) := by decide +kernel
theorem dX0_holdsBehind_1 : decode cX0_holdsBehind 1 = .ok (.iload_n 1, 1) := by decide +kernel
theorem dX0_holdsBehind_2 : decode cX0_holdsBehind 2 = .ok (.invokevirtual 136, 3) := by decide +kernel
theorem dX0_holdsBehind_5 : decode cX0_holdsBehind 5 = .ok (.istore_n 3, 1) := by decide +kernel
theorem dX0_holdsBehind_6 : decode cX0_holdsBehind 6 = .ok (.iconst 0, 1) := by decide +kernel
theorem dX0_holdsBehind_7 : decode cX0_holdsBehind 7 = .ok (.istore 4, 2) := by decide +kernel
theorem dX0_holdsBehind_9 : decode cX0_holdsBehind 9 = .ok (.iload 4, 2) := by decide +kernel
theorem dX0_holdsBehind_11 : decode cX0_holdsBehind 11 = .ok (.iload_n 2, 1) := by decide +kernel
theorem dX0_holdsBehind_12 : decode cX0_holdsBehind 12 = .ok (.if_icmp .ge 34, 3) := by decide +kernel
theorem dX0_holdsBehind_15 : decode cX0_holdsBehind 15 = .ok (.iload_n 3, 1) := by decide +kernel
theorem dX0_holdsBehind_16 : decode cX0_holdsBehind 16 = .ok (.ifCond .eq 30, 3) := by decide +kernel
theorem dX0_holdsBehind_19 : decode cX0_holdsBehind 19 = .ok (.aload_n 0, 1) := by decide +kernel
theorem dX0_holdsBehind_20 : decode cX0_holdsBehind 20 = .ok (.invokevirtual 105, 3) := by decide +kernel
theorem dX0_holdsBehind_23 : decode cX0_holdsBehind 23 = .ok (.ifCond .eq 11, 3) := by decide +kernel
theorem dX0_holdsBehind_26 : decode cX0_holdsBehind 26 = .ok (.aload_n 0, 1) := by decide +kernel
theorem dX0_holdsBehind_27 : decode cX0_holdsBehind 27 = .ok (.iload_n 1, 1) := by decide +kernel
theorem dX0_holdsBehind_28 : decode cX0_holdsBehind 28 = .ok (.invokevirtual 136, 3) := by decide +kernel
theorem dX0_holdsBehind_31 : decode cX0_holdsBehind 31 = .ok (.ifCond .eq 7, 3) := by decide +kernel
theorem dX0_holdsBehind_34 : decode cX0_holdsBehind 34 = .ok (.iconst 1, 1) := by decide +kernel
theorem dX0_holdsBehind_35 : decode cX0_holdsBehind 35 = .ok (.goto 4, 3) := by decide +kernel
theorem dX0_holdsBehind_38 : decode cX0_holdsBehind 38 = .ok (.iconst 0, 1) := by decide +kernel
theorem dX0_holdsBehind_39 : decode cX0_holdsBehind 39 = .ok (.istore_n 3, 1) := by decide +kernel
theorem dX0_holdsBehind_40 : decode cX0_holdsBehind 40 = .ok (.iinc 4 1, 3) := by decide +kernel
theorem dX0_holdsBehind_43 : decode cX0_holdsBehind 43 = .ok (.goto (-34), 3) := by decide +kernel
theorem dX0_holdsBehind_46 : decode cX0_holdsBehind 46 = .ok (.iload_n 3, 1) := by decide +kernel
theorem dX0_holdsBehind_47 : decode cX0_holdsBehind 47 = .ok (.ireturn, 1) := by decide +kernel
set_option maxRecDepth 20000 in
theorem ggX0_endOf_X0_peaceHolds : GoodIn wsX0_endOf wsX0_peaceHolds := goodIn_r _ [5, 6, 7, 8, 9, 4, 10, 11, 12, 13, 14, 15, 16, 17, 71, 72, 73, 74, 75, 76, 77, 78, 79, 80, 81, 82, 83, 84, 85] (by decide +kernel) (by decide +kernel)
set_option maxRecDepth 20000 in
theorem gX0_endOf_X0_peaceHolds : GoodIn wsX0_endOf (wsV RX0 136 RX0 yX0_peaceHolds wsX0_peaceHolds) := goodIn_app (goodIn_of _ (by decide +kernel)) ggX0_endOf_X0_peaceHolds
set_option maxRecDepth 20000 in
theorem ggX0_endOf_X0_pass : GoodIn wsX0_endOf wsX0_pass := goodIn_r _ [21, 22, 23, 24, 4, 25, 26, 27, 11, 6, 28, 29, 30, 31, 32, 33, 34, 35, 36, 37, 38, 39, 40, 41, 42, 43, 13, 14, 15, 44, 45, 46, 47, 48, 49, 50, 51, 52, 53, 54, 55, 56, 57, 58, 59, 60, 61, 62, 63, 64, 65, 66, 16, 17, 67, 68, 69, 70, 71, 72, 73, 74, 75, 76, 77, 78, 79, 80, 81, 82, 83, 84, 85] (by decide +kernel) (by decide +kernel)
set_option maxRecDepth 20000 in
theorem gX0_endOf_X0_pass : GoodIn wsX0_endOf (wsV RX0 139 RX0 yX0_pass wsX0_pass) := goodIn_app (goodIn_of _ (by decide +kernel)) ggX0_endOf_X0_pass
theorem dX0_endOf_0 : decode cX0_endOf 0 = .ok (.iconst 0, 1) := by decide +kernel
theorem dX0_endOf_1 : decode cX0_endOf 1 = .ok (.istore_n 2, 1) := by decide +kernel
theorem dX0_endOf_2 : decode cX0_endOf 2 = .ok (.iload_n 2, 1) := by decide +kernel
theorem dX0_endOf_3 : decode cX0_endOf 3 = .ok (.bipush 100, 2) := by decide +kernel
theorem dX0_endOf_5 : decode cX0_endOf 5 = .ok (.if_icmp .ge 25, 3) := by decide +kernel
theorem dX0_endOf_8 : decode cX0_endOf 8 = .ok (.aload_n 0, 1) := by decide +kernel
theorem dX0_endOf_9 : decode cX0_endOf 9 = .ok (.iload_n 1, 1) := by decide +kernel
theorem dX0_endOf_10 : decode cX0_endOf 10 = .ok (.invokevirtual 136, 3) := by decide +kernel
theorem dX0_endOf_13 : decode cX0_endOf 13 = .ok (.ifCond .ne 5, 3) := by decide +kernel
theorem dX0_endOf_16 : decode cX0_endOf 16 = .ok (.iload_n 2, 1) := by decide +kernel
theorem dX0_endOf_17 : decode cX0_endOf 17 = .ok (.ireturn, 1) := by decide +kernel
theorem dX0_endOf_18 : decode cX0_endOf 18 = .ok (.aload_n 0, 1) := by decide +kernel
theorem dX0_endOf_19 : decode cX0_endOf 19 = .ok (.iconst 1, 1) := by decide +kernel
theorem dX0_endOf_20 : decode cX0_endOf 20 = .ok (.invokevirtual 139, 3) := by decide +kernel
theorem dX0_endOf_23 : decode cX0_endOf 23 = .ok (.pop, 1) := by decide +kernel
theorem dX0_endOf_24 : decode cX0_endOf 24 = .ok (.iinc 2 1, 3) := by decide +kernel
theorem dX0_endOf_27 : decode cX0_endOf 27 = .ok (.goto (-25), 3) := by decide +kernel
theorem dX0_endOf_30 : decode cX0_endOf 30 = .ok (.aload_n 0, 1) := by decide +kernel
theorem dX0_endOf_31 : decode cX0_endOf 31 = .ok (.iload_n 1, 1) := by decide +kernel
theorem dX0_endOf_32 : decode cX0_endOf 32 = .ok (.invokevirtual 136, 3) := by decide +kernel
theorem dX0_endOf_35 : decode cX0_endOf 35 = .ok (.ifCond .eq 8, 3) := by decide +kernel
theorem dX0_endOf_38 : decode cX0_endOf 38 = .ok (.bipush 101, 2) := by decide +kernel
theorem dX0_endOf_40 : decode cX0_endOf 40 = .ok (.goto 5, 3) := by decide +kernel
theorem dX0_endOf_43 : decode cX0_endOf 43 = .ok (.bipush 100, 2) := by decide +kernel
theorem dX0_endOf_45 : decode cX0_endOf 45 = .ok (.ireturn, 1) := by decide +kernel
set_option maxRecDepth 20000 in
theorem ggX0_firstToEnd_X0_firstEnded : GoodIn wsX0_firstToEnd wsX0_firstEnded := goodIn_r _ [5, 6, 7, 8, 9, 10, 4, 11, 12, 13, 14, 15, 16, 17, 71, 72, 73, 74, 75, 76, 77, 78, 79, 80, 81, 82, 83, 84, 85] (by decide +kernel) (by decide +kernel)
set_option maxRecDepth 20000 in
theorem gX0_firstToEnd_X0_firstEnded : GoodIn wsX0_firstToEnd (wsV RX0 142 RX0 yX0_firstEnded wsX0_firstEnded) := goodIn_app (goodIn_of _ (by decide +kernel)) ggX0_firstToEnd_X0_firstEnded
set_option maxRecDepth 20000 in
theorem ggX0_firstToEnd_X0_pass : GoodIn wsX0_firstToEnd wsX0_pass := goodIn_r _ [21, 22, 23, 24, 4, 25, 26, 27, 7, 6, 28, 29, 30, 31, 32, 33, 34, 35, 36, 37, 38, 39, 40, 41, 42, 43, 13, 14, 15, 44, 45, 46, 47, 48, 49, 50, 51, 52, 53, 54, 55, 56, 57, 58, 59, 60, 61, 62, 63, 64, 65, 66, 16, 17, 67, 68, 69, 70, 71, 72, 73, 74, 75, 76, 77, 78, 79, 80, 81, 82, 83, 84, 85] (by decide +kernel) (by decide +kernel)
set_option maxRecDepth 20000 in
theorem gX0_firstToEnd_X0_pass : GoodIn wsX0_firstToEnd (wsV RX0 139 RX0 yX0_pass wsX0_pass) := goodIn_app (goodIn_of _ (by decide +kernel)) ggX0_firstToEnd_X0_pass
theorem dX0_firstToEnd_0 : decode cX0_firstToEnd 0 = .ok (.aload_n 0, 1) := by decide +kernel
theorem dX0_firstToEnd_1 : decode cX0_firstToEnd 1 = .ok (.invokevirtual 142, 3) := by decide +kernel
theorem dX0_firstToEnd_4 : decode cX0_firstToEnd 4 = .ok (.istore_n 1, 1) := by decide +kernel
theorem dX0_firstToEnd_5 : decode cX0_firstToEnd 5 = .ok (.iconst 0, 1) := by decide +kernel
theorem dX0_firstToEnd_6 : decode cX0_firstToEnd 6 = .ok (.istore_n 2, 1) := by decide +kernel
theorem dX0_firstToEnd_7 : decode cX0_firstToEnd 7 = .ok (.iload_n 2, 1) := by decide +kernel
theorem dX0_firstToEnd_8 : decode cX0_firstToEnd 8 = .ok (.bipush 100, 2) := by decide +kernel
theorem dX0_firstToEnd_10 : decode cX0_firstToEnd 10 = .ok (.if_icmp .ge 25, 3) := by decide +kernel
theorem dX0_firstToEnd_13 : decode cX0_firstToEnd 13 = .ok (.iload_n 1, 1) := by decide +kernel
theorem dX0_firstToEnd_14 : decode cX0_firstToEnd 14 = .ok (.iconst (-1), 1) := by decide +kernel
theorem dX0_firstToEnd_15 : decode cX0_firstToEnd 15 = .ok (.if_icmp .ne 20, 3) := by decide +kernel
theorem dX0_firstToEnd_18 : decode cX0_firstToEnd 18 = .ok (.aload_n 0, 1) := by decide +kernel
theorem dX0_firstToEnd_19 : decode cX0_firstToEnd 19 = .ok (.iconst 1, 1) := by decide +kernel
theorem dX0_firstToEnd_20 : decode cX0_firstToEnd 20 = .ok (.invokevirtual 139, 3) := by decide +kernel
theorem dX0_firstToEnd_23 : decode cX0_firstToEnd 23 = .ok (.pop, 1) := by decide +kernel
theorem dX0_firstToEnd_24 : decode cX0_firstToEnd 24 = .ok (.aload_n 0, 1) := by decide +kernel
theorem dX0_firstToEnd_25 : decode cX0_firstToEnd 25 = .ok (.invokevirtual 142, 3) := by decide +kernel
theorem dX0_firstToEnd_28 : decode cX0_firstToEnd 28 = .ok (.istore_n 1, 1) := by decide +kernel
theorem dX0_firstToEnd_29 : decode cX0_firstToEnd 29 = .ok (.iinc 2 1, 3) := by decide +kernel
theorem dX0_firstToEnd_32 : decode cX0_firstToEnd 32 = .ok (.goto (-25), 3) := by decide +kernel
theorem dX0_firstToEnd_35 : decode cX0_firstToEnd 35 = .ok (.iload_n 1, 1) := by decide +kernel
theorem dX0_firstToEnd_36 : decode cX0_firstToEnd 36 = .ok (.ireturn, 1) := by decide +kernel
set_option maxRecDepth 20000 in
theorem ggX0_firstEnded_X0_peaces : GoodIn wsX0_firstEnded wsX0_peaces := goodIn_r _ [7, 2, 8, 9, 10, 11, 12, 13, 14, 15, 16, 17, 18, 19, 20, 21, 22, 23, 24, 25, 26, 27, 28] (by decide +kernel) (by decide +kernel)
set_option maxRecDepth 20000 in
theorem gX0_firstEnded_X0_peaces : GoodIn wsX0_firstEnded (wsV RX0 102 RX0 yX0_peaces wsX0_peaces) := goodIn_app (goodIn_of _ (by decide +kernel)) ggX0_firstEnded_X0_peaces
set_option maxRecDepth 20000 in
theorem ggX0_firstEnded_X4_has : GoodIn wsX0_firstEnded wsX4_has := goodIn_r _ [11] (by decide +kernel) (by decide +kernel)
set_option maxRecDepth 20000 in
theorem gX0_firstEnded_X4_has_n95 : GoodIn wsX0_firstEnded (wsX4_has) := ggX0_firstEnded_X4_has
theorem dX0_firstEnded_0 : decode cX0_firstEnded 0 = .ok (.aload_n 0, 1) := by decide +kernel
theorem dX0_firstEnded_1 : decode cX0_firstEnded 1 = .ok (.aload_n 0, 1) := by decide +kernel
theorem dX0_firstEnded_2 : decode cX0_firstEnded 2 = .ok (.getfield 33, 3) := by decide +kernel
theorem dX0_firstEnded_5 : decode cX0_firstEnded 5 = .ok (.invokevirtual 102, 3) := by decide +kernel
theorem dX0_firstEnded_8 : decode cX0_firstEnded 8 = .ok (.istore_n 1, 1) := by decide +kernel
theorem dX0_firstEnded_9 : decode cX0_firstEnded 9 = .ok (.iconst 0, 1) := by decide +kernel
theorem dX0_firstEnded_10 : decode cX0_firstEnded 10 = .ok (.istore_n 2, 1) := by decide +kernel
theorem dX0_firstEnded_11 : decode cX0_firstEnded 11 = .ok (.iload_n 2, 1) := by decide +kernel
theorem dX0_firstEnded_12 : decode cX0_firstEnded 12 = .ok (.aload_n 0, 1) := by decide +kernel
theorem dX0_firstEnded_13 : decode cX0_firstEnded 13 = .ok (.getfield 37, 3) := by decide +kernel
theorem dX0_firstEnded_16 : decode cX0_firstEnded 16 = .ok (.if_icmp .ge 19, 3) := by decide +kernel
theorem dX0_firstEnded_19 : decode cX0_firstEnded 19 = .ok (.iload_n 1, 1) := by decide +kernel
theorem dX0_firstEnded_20 : decode cX0_firstEnded 20 = .ok (.iload_n 2, 1) := by decide +kernel
theorem dX0_firstEnded_21 : decode cX0_firstEnded 21 = .ok (.invokestatic 95, 3) := by decide +kernel
theorem dX0_firstEnded_24 : decode cX0_firstEnded 24 = .ok (.ifCond .ne 5, 3) := by decide +kernel
theorem dX0_firstEnded_27 : decode cX0_firstEnded 27 = .ok (.iload_n 2, 1) := by decide +kernel
theorem dX0_firstEnded_28 : decode cX0_firstEnded 28 = .ok (.ireturn, 1) := by decide +kernel
theorem dX0_firstEnded_29 : decode cX0_firstEnded 29 = .ok (.iinc 2 1, 3) := by decide +kernel
theorem dX0_firstEnded_32 : decode cX0_firstEnded 32 = .ok (.goto (-21), 3) := by decide +kernel
theorem dX0_firstEnded_35 : decode cX0_firstEnded 35 = .ok (.iconst (-1), 1) := by decide +kernel
theorem dX0_firstEnded_36 : decode cX0_firstEnded 36 = .ok (.ireturn, 1) := by decide +kernel
