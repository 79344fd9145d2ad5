set_option maxRecDepth 20000 in
theorem ggL_law_X4_init : GoodIn wsL_law wsX4_init := goodIn_r _ [8, 9, 10, 11, 12, 13, 14, 15, 16, 17, 18, 19, 20, 21, 22, 23, 24, 25, 26, 27, 28, 29, 30, 31, 32, 33, 34, 35, 36, 37, 38, 39, 40, 41, 42, 43, 44, 45, 46, 47, 48, 49, 50, 51, 52, 53, 54, 55, 56, 57, 58, 59, 60, 61, 62, 1098, 1099, 1100, 1101, 1102, 1103, 1104, 1105, 1106, 1107, 1108, 1109, 1110, 1111, 1112, 1074, 1075, 1076, 1077, 1078, 1079, 1080, 1113, 1114, 1115, 1116, 1117, 1118, 1119, 1120, 1121] (by decide +kernel) (by decide +kernel)
set_option maxRecDepth 20000 in
theorem gL_law_X4_init : GoodIn wsL_law (wsX4_init) := ggL_law_X4_init
set_option maxRecDepth 20000 in
theorem ggL_law_X5_init : GoodIn wsL_law wsX5_init := goodIn_r _ [65, 66, 10, 11, 25, 67, 68, 69, 70, 71, 72, 73, 74, 75, 76, 77, 1081, 1082, 1083, 1084, 1085, 1086, 1087, 1088, 1089, 1090, 1091, 1092, 1093, 1094, 1095, 1096, 1097] (by decide +kernel) (by decide +kernel)
set_option maxRecDepth 20000 in
theorem gL_law_X5_init : GoodIn wsL_law (wsX5_init) := ggL_law_X5_init
set_option maxRecDepth 20000 in
theorem ggL_law_X4_deed : GoodIn wsL_law wsX4_deed := goodIn_r _ [81, 82, 15, 83, 84, 85, 86, 87, 88, 2, 89, 90, 91, 92, 93, 94, 95, 96, 97, 26, 98, 99, 100, 14, 101, 41, 102, 103, 104, 105, 33, 34, 35, 36, 37, 106, 1074, 1075, 1076, 1077, 1078, 1079, 1080, 1098, 1099, 1100, 1101, 1102, 1103, 1104, 1105, 1106, 1107, 1108, 1109, 1110, 1111, 1112] (by decide +kernel) (by decide +kernel)
set_option maxRecDepth 20000 in
theorem gL_law_X4_deed : GoodIn wsL_law (wsV RL 13 RX4 yX4_deed wsX4_deed) := goodIn_app (goodIn_of _ (by decide +kernel)) ggL_law_X4_deed
set_option maxRecDepth 20000 in
theorem ggL_law_X5_deed : GoodIn wsL_law wsX5_deed := goodIn_r _ [110, 67, 111, 112, 5, 113, 114, 115, 116, 117, 118, 119, 120, 121, 122, 123, 72, 124, 125, 126, 127, 128, 1081, 1082, 1083, 1084, 1085, 1086, 1087, 1088, 1089, 1090, 1091, 1092, 1093, 1094, 1095, 1096, 1097] (by decide +kernel) (by decide +kernel)
set_option maxRecDepth 20000 in
theorem gL_law_X5_deed : GoodIn wsL_law (wsV RL 17 RX5 yX5_deed wsX5_deed) := goodIn_app (goodIn_of _ (by decide +kernel)) ggL_law_X5_deed
set_option maxRecDepth 20000 in
theorem ggL_law_X4_of : GoodIn wsL_law wsX4_of := goodIn_r _ [132, 15, 82, 133, 134, 135, 136, 137, 138, 139, 140, 141, 14, 142, 41, 88, 2, 89, 94, 95, 96, 97, 26, 93, 143, 144, 145, 146, 40, 147, 148, 149, 150, 86, 151, 152, 153, 154, 155, 156, 157, 158, 159, 160, 161, 162, 163, 164, 165, 166, 167, 168, 169, 45, 42, 38, 43, 170, 171, 172, 173, 174, 175, 176, 177, 178, 179, 180, 37, 181, 182, 1074, 1075, 1076, 1077, 1078, 1079, 1080, 1098, 1099, 1100, 1101, 1102, 1103, 1104, 1105, 1106, 1107, 1108, 1109, 1110, 1111, 1112] (by decide +kernel) (by decide +kernel)
set_option maxRecDepth 20000 in
theorem gL_law_X4_of : GoodIn wsL_law (wsV RL 18 RX4 yX4_of wsX4_of) := goodIn_app (goodIn_of _ (by decide +kernel)) ggL_law_X4_of
set_option maxRecDepth 20000 in
theorem ggL_law_X5_of : GoodIn wsL_law wsX5_of := goodIn_r _ [186, 67, 187, 188, 189, 5, 190, 114, 115, 116, 120, 121, 122, 123, 72, 124, 191, 192, 193, 194, 195, 196, 197, 198, 199, 200, 201, 202, 203, 163, 164, 165, 204, 205, 206, 207, 208, 209, 1081, 1082, 1083, 1084, 1085, 1086, 1087, 1088, 1089, 1090, 1091, 1092, 1093, 1094, 1095, 1096, 1097] (by decide +kernel) (by decide +kernel)
set_option maxRecDepth 20000 in
theorem gL_law_X5_of : GoodIn wsL_law (wsV RL 21 RX5 yX5_of wsX5_of) := goodIn_app (goodIn_of _ (by decide +kernel)) ggL_law_X5_of
set_option maxRecDepth 20000 in
theorem ggL_law_X4_change : GoodIn wsL_law wsX4_change := goodIn_r _ [213, 15, 82, 133, 134, 135, 136, 137, 139, 140, 141, 14, 142, 41, 88, 2, 89, 94, 95, 96, 97, 26, 93, 84, 85, 86, 87, 214, 215, 216, 90, 91, 92, 217, 218, 219, 1074, 1075, 1076, 1077, 1078, 1079, 1080, 1098, 1099, 1100, 1101, 1102, 1103, 1104, 1105, 1106, 1107, 1108, 1109, 1110, 1111, 1112] (by decide +kernel) (by decide +kernel)
set_option maxRecDepth 20000 in
theorem gL_law_X4_change : GoodIn wsL_law (wsV RL 22 RX4 yX4_change wsX4_change) := goodIn_app (goodIn_of _ (by decide +kernel)) ggL_law_X4_change
set_option maxRecDepth 20000 in
theorem ggL_law_X5_change : GoodIn wsL_law wsX5_change := goodIn_r _ [223, 67, 187, 188, 189, 5, 190, 114, 115, 116, 224, 225, 226, 111, 112, 113, 117, 118, 119, 120, 121, 122, 123, 72, 124, 1081, 1082, 1083, 1084, 1085, 1086, 1087, 1088, 1089, 1090, 1091, 1092, 1093, 1094, 1095, 1096, 1097] (by decide +kernel) (by decide +kernel)
set_option maxRecDepth 20000 in
theorem gL_law_X5_change : GoodIn wsL_law (wsV RL 26 RX5 yX5_change wsX5_change) := goodIn_app (goodIn_of _ (by decide +kernel)) ggL_law_X5_change
set_option maxRecDepth 20000 in
theorem ggL_law_X4_renew : GoodIn wsL_law wsX4_renew := goodIn_r _ [230, 15, 82, 136, 231, 139, 140, 141, 14, 142, 41, 88, 2, 89, 94, 95, 96, 97, 26, 93, 143, 144, 145, 146, 40, 147, 148, 232, 233, 234, 1074, 1075, 1076, 1077, 1078, 1079, 1080, 1098, 1099, 1100, 1101, 1102, 1103, 1104, 1105, 1106, 1107, 1108, 1109, 1110, 1111, 1112] (by decide +kernel) (by decide +kernel)
set_option maxRecDepth 20000 in
theorem gL_law_X4_renew : GoodIn wsL_law (wsV RL 27 RX4 yX4_renew wsX4_renew) := goodIn_app (goodIn_of _ (by decide +kernel)) ggL_law_X4_renew
set_option maxRecDepth 20000 in
theorem ggL_law_X5_renew : GoodIn wsL_law wsX5_renew := goodIn_r _ [238, 67, 187, 188, 189, 5, 190, 114, 115, 116, 120, 121, 122, 123, 72, 124, 1081, 1082, 1083, 1084, 1085, 1086, 1087, 1088, 1089, 1090, 1091, 1092, 1093, 1094, 1095, 1096, 1097] (by decide +kernel) (by decide +kernel)
set_option maxRecDepth 20000 in
theorem gL_law_X5_renew : GoodIn wsL_law (wsV RL 31 RX5 yX5_renew wsX5_renew) := goodIn_app (goodIn_of _ (by decide +kernel)) ggL_law_X5_renew
set_option maxRecDepth 20000 in
theorem ggL_law_X4_shelf : GoodIn wsL_law wsX4_shelf := goodIn_r _ [242, 82, 15, 243, 244, 245, 90, 91, 2, 92, 93, 88, 89, 94, 95, 96, 97, 26, 214, 215, 216, 246, 147, 148, 247, 248, 249, 14, 250, 42, 181, 182, 233, 234, 251, 252, 253, 254, 43, 1074, 1075, 1076, 1077, 1078, 1079, 1080, 1098, 1099, 1100, 1101, 1102, 1103, 1104, 1105, 1106, 1107, 1108, 1109, 1110, 1111, 1112] (by decide +kernel) (by decide +kernel)
set_option maxRecDepth 20000 in
theorem gL_law_X4_shelf : GoodIn wsL_law (wsV RL 32 RX4 yX4_shelf wsX4_shelf) := goodIn_app (goodIn_of _ (by decide +kernel)) ggL_law_X4_shelf
set_option maxRecDepth 20000 in
theorem ggL_law_X5_shelf : GoodIn wsL_law wsX5_shelf := goodIn_r _ [258, 67, 114, 115, 5, 116, 117, 118, 119, 120, 121, 122, 123, 72, 124, 1081, 1082, 1083, 1084, 1085, 1086, 1087, 1088, 1089, 1090, 1091, 1092, 1093, 1094, 1095, 1096, 1097] (by decide +kernel) (by decide +kernel)
set_option maxRecDepth 20000 in
theorem gL_law_X5_shelf : GoodIn wsL_law (wsV RL 35 RX5 yX5_shelf wsX5_shelf) := goodIn_app (goodIn_of _ (by decide +kernel)) ggL_law_X5_shelf
set_option maxRecDepth 20000 in
theorem ggL_law_X4_summer : GoodIn wsL_law wsX4_summer := goodIn_r _ [262, 82, 15, 263, 93, 88, 2, 89, 94, 95, 96, 97, 26, 1074, 1075, 1076, 1077, 1078, 1079, 1080, 1098, 1099, 1100, 1101, 1102, 1103, 1104, 1105, 1106, 1107, 1108, 1109, 1110, 1111, 1112] (by decide +kernel) (by decide +kernel)
set_option maxRecDepth 20000 in
theorem gL_law_X4_summer : GoodIn wsL_law (wsV RL 36 RX4 yX4_summer wsX4_summer) := goodIn_app (goodIn_of _ (by decide +kernel)) ggL_law_X4_summer
set_option maxRecDepth 20000 in
theorem ggL_law_X5_summer : GoodIn wsL_law wsX5_summer := goodIn_r _ [267, 67, 114, 115, 5, 116, 120, 121, 122, 123, 72, 124, 1081, 1082, 1083, 1084, 1085, 1086, 1087, 1088, 1089, 1090, 1091, 1092, 1093, 1094, 1095, 1096, 1097] (by decide +kernel) (by decide +kernel)
set_option maxRecDepth 20000 in
theorem gL_law_X5_summer : GoodIn wsL_law (wsV RL 39 RX5 yX5_summer wsX5_summer) := goodIn_app (goodIn_of _ (by decide +kernel)) ggL_law_X5_summer
set_option maxRecDepth 20000 in
theorem ggL_law_X4_sun : GoodIn wsL_law wsX4_sun := goodIn_r _ [271, 82, 93, 88, 2, 89, 272, 160, 14, 161, 162, 163, 164, 165, 94, 95, 96, 97, 26, 1074, 1075, 1076, 1077, 1078, 1079, 1080] (by decide +kernel) (by decide +kernel)
set_option maxRecDepth 20000 in
theorem gL_law_X4_sun : GoodIn wsL_law (wsV RL 40 RX4 yX4_sun wsX4_sun) := goodIn_app (goodIn_of _ (by decide +kernel)) ggL_law_X4_sun
set_option maxRecDepth 20000 in
theorem ggL_law_X5_sun : GoodIn wsL_law wsX5_sun := goodIn_r _ [276, 114, 115, 5, 116, 200, 201, 202, 203, 163, 164, 165, 120, 121, 122, 123, 72, 124, 1081, 1082, 1083, 1084, 1085, 1086, 1087, 1088, 1089, 1090, 1091, 1092, 1093, 1094, 1095, 1096, 1097] (by decide +kernel) (by decide +kernel)
set_option maxRecDepth 20000 in
theorem gL_law_X5_sun : GoodIn wsL_law (wsV RL 43 RX5 yX5_sun wsX5_sun) := goodIn_app (goodIn_of _ (by decide +kernel)) ggL_law_X5_sun
set_option maxRecDepth 20000 in
theorem ggL_law_X4_heat : GoodIn wsL_law wsX4_heat := goodIn_r _ [280, 82, 15, 90, 91, 2, 92, 93, 88, 89, 94, 95, 96, 97, 26, 155, 156, 157, 14, 158, 159, 160, 161, 162, 163, 164, 165, 166, 167, 168, 169, 45, 42, 38, 43, 147, 148, 1074, 1075, 1076, 1077, 1078, 1079, 1080, 1098, 1099, 1100, 1101, 1102, 1103, 1104, 1105, 1106, 1107, 1108, 1109, 1110, 1111, 1112] (by decide +kernel) (by decide +kernel)
set_option maxRecDepth 20000 in
theorem gL_law_X4_heat : GoodIn wsL_law (wsV RL 44 RX4 yX4_heat wsX4_heat) := goodIn_app (goodIn_of _ (by decide +kernel)) ggL_law_X4_heat
set_option maxRecDepth 20000 in
theorem ggL_law_X5_heat : GoodIn wsL_law wsX5_heat := goodIn_r _ [284, 67, 117, 118, 5, 119, 114, 115, 116, 197, 198, 199, 200, 201, 202, 203, 163, 164, 165, 120, 121, 122, 123, 72, 124, 1081, 1082, 1083, 1084, 1085, 1086, 1087, 1088, 1089, 1090, 1091, 1092, 1093, 1094, 1095, 1096, 1097] (by decide +kernel) (by decide +kernel)
set_option maxRecDepth 20000 in
theorem gL_law_X5_heat : GoodIn wsL_law (wsV RL 47 RX5 yX5_heat wsX5_heat) := goodIn_app (goodIn_of _ (by decide +kernel)) ggL_law_X5_heat
set_option maxRecDepth 20000 in
theorem ggL_law_X4_lie : GoodIn wsL_law wsX4_lie := goodIn_r _ [288, 82, 15, 289, 134, 90, 91, 2, 92, 93, 88, 89, 94, 95, 96, 97, 26, 290, 181, 182, 1074, 1075, 1076, 1077, 1078, 1079, 1080, 1098, 1099, 1100, 1101, 1102, 1103, 1104, 1105, 1106, 1107, 1108, 1109, 1110, 1111, 1112] (by decide +kernel) (by decide +kernel)
set_option maxRecDepth 20000 in
theorem gL_law_X4_lie : GoodIn wsL_law (wsV RL 48 RX4 yX4_lie wsX4_lie) := goodIn_app (goodIn_of _ (by decide +kernel)) ggL_law_X4_lie
set_option maxRecDepth 20000 in
theorem ggL_law_X5_lie : GoodIn wsL_law wsX5_lie := goodIn_r _ [294, 67, 117, 118, 5, 119, 114, 115, 116, 120, 121, 122, 123, 72, 124, 1081, 1082, 1083, 1084, 1085, 1086, 1087, 1088, 1089, 1090, 1091, 1092, 1093, 1094, 1095, 1096, 1097] (by decide +kernel) (by decide +kernel)
set_option maxRecDepth 20000 in
theorem gL_law_X5_lie : GoodIn wsL_law (wsV RL 51 RX5 yX5_lie wsX5_lie) := goodIn_app (goodIn_of _ (by decide +kernel)) ggL_law_X5_lie
set_option maxRecDepth 20000 in
theorem ggL_law_X4_hours : GoodIn wsL_law wsX4_hours := goodIn_r _ [298, 15, 299, 300, 301, 2, 302, 82, 303, 93, 88, 89, 304, 305, 306, 307, 138, 308, 309, 310, 14, 311, 312, 313, 314, 315, 44, 47, 41, 40, 34, 38, 159, 160, 161, 162, 163, 164, 165, 166, 167, 168, 169, 45, 42, 43, 147, 148, 316, 317, 318, 319, 33, 35, 36, 320, 321, 322, 323, 324, 325, 326, 171, 86, 172, 327, 150, 151, 328, 153, 154, 181, 182, 329, 330, 331, 332, 94, 95, 96, 97, 26, 1074, 1075, 1076, 1077, 1078, 1079, 1080, 1098, 1099, 1100, 1101, 1102, 1103, 1104, 1105, 1106, 1107, 1108, 1109, 1110, 1111, 1112] (by decide +kernel) (by decide +kernel)
set_option maxRecDepth 20000 in
theorem gL_law_X4_hours : GoodIn wsL_law (wsV RL 52 RX4 yX4_hours wsX4_hours) := goodIn_app (goodIn_of _ (by decide +kernel)) ggL_law_X4_hours
set_option maxRecDepth 20000 in
theorem ggL_law_X5_hours : GoodIn wsL_law wsX5_hours := goodIn_r _ [336, 67, 114, 115, 5, 116, 120, 121, 122, 123, 72, 124, 337, 338, 339, 340, 341, 342, 343, 344, 73, 197, 198, 199, 200, 201, 202, 203, 163, 164, 165, 204, 205, 206, 191, 192, 193, 345, 346, 347, 348, 321, 322, 349, 324, 325, 194, 195, 196, 350, 351, 352, 1081, 1082, 1083, 1084, 1085, 1086, 1087, 1088, 1089, 1090, 1091, 1092, 1093, 1094, 1095, 1096, 1097] (by decide +kernel) (by decide +kernel)
set_option maxRecDepth 20000 in
theorem gL_law_X5_hours : GoodIn wsL_law (wsV RL 55 RX5 yX5_hours wsX5_hours) := goodIn_app (goodIn_of _ (by decide +kernel)) ggL_law_X5_hours
set_option maxRecDepth 20000 in
theorem ggL_law_X4_now : GoodIn wsL_law wsX4_now := goodIn_r _ [356, 15, 138, 231, 263, 82, 357, 178, 179, 14, 180, 41, 37, 147, 2, 148, 181, 182, 358, 359, 360, 361, 36, 362, 363, 364, 365, 38, 366, 367, 368, 369, 44, 370, 156, 157, 158, 159, 160, 161, 162, 163, 164, 165, 166, 167, 168, 169, 45, 42, 43, 94, 95, 96, 97, 26, 93, 88, 89, 1074, 1075, 1076, 1077, 1078, 1079, 1080, 1098, 1099, 1100, 1101, 1102, 1103, 1104, 1105, 1106, 1107, 1108, 1109, 1110, 1111, 1112] (by decide +kernel) (by decide +kernel)
set_option maxRecDepth 20000 in
theorem gL_law_X4_now : GoodIn wsL_law (wsV RL 56 RX4 yX4_now wsX4_now) := goodIn_app (goodIn_of _ (by decide +kernel)) ggL_law_X4_now
set_option maxRecDepth 20000 in
theorem ggL_law_X5_now : GoodIn wsL_law wsX5_now := goodIn_r _ [374, 67, 375, 376, 5, 377, 207, 208, 209, 378, 379, 380, 381, 382, 383, 384, 385, 386, 387, 197, 198, 199, 200, 201, 202, 203, 163, 164, 165, 120, 121, 122, 123, 72, 124, 1081, 1082, 1083, 1084, 1085, 1086, 1087, 1088, 1089, 1090, 1091, 1092, 1093, 1094, 1095, 1096, 1097] (by decide +kernel) (by decide +kernel)
set_option maxRecDepth 20000 in
theorem gL_law_X5_now : GoodIn wsL_law (wsV RL 59 RX5 yX5_now wsX5_now) := goodIn_app (goodIn_of _ (by decide +kernel)) ggL_law_X5_now
set_option maxRecDepth 20000 in
theorem ggL_law_X4_ahead : GoodIn wsL_law wsX4_ahead := goodIn_r _ [391, 15, 289, 82, 303, 16, 231, 136, 93, 88, 2, 89, 94, 95, 96, 97, 26, 304, 305, 306, 307, 138, 392, 393, 394, 14, 395, 33, 396, 397, 398, 399, 34, 35, 36, 37, 38, 39, 40, 41, 42, 43, 44, 45, 46, 308, 309, 310, 311, 312, 313, 314, 315, 47, 159, 160, 161, 162, 163, 164, 165, 166, 167, 168, 169, 147, 148, 316, 317, 318, 319, 320, 321, 322, 323, 324, 325, 326, 171, 86, 172, 327, 150, 151, 328, 153, 154, 181, 182, 329, 330, 331, 332, 357, 178, 179, 180, 362, 363, 364, 365, 1074, 1075, 1076, 1077, 1078, 1079, 1080, 1098, 1099, 1100, 1101, 1102, 1103, 1104, 1105, 1106, 1107, 1108, 1109, 1110, 1111, 1112] (by decide +kernel) (by decide +kernel)
set_option maxRecDepth 20000 in
theorem gL_law_X4_ahead : GoodIn wsL_law (wsV RL 60 RX4 yX4_ahead wsX4_ahead) := goodIn_app (goodIn_of _ (by decide +kernel)) ggL_law_X4_ahead
set_option maxRecDepth 20000 in
theorem ggL_law_X5_ahead : GoodIn wsL_law wsX5_ahead := goodIn_r _ [403, 67, 69, 114, 115, 5, 116, 120, 121, 122, 123, 72, 124, 337, 338, 339, 340, 404, 405, 406, 407, 408, 409, 410, 341, 342, 343, 344, 73, 197, 198, 199, 200, 201, 202, 203, 163, 164, 165, 204, 205, 206, 191, 192, 193, 345, 346, 347, 348, 321, 322, 349, 324, 325, 194, 195, 196, 350, 351, 352, 375, 376, 377, 207, 208, 209, 378, 379, 380, 381, 382, 383, 1081, 1082, 1083, 1084, 1085, 1086, 1087, 1088, 1089, 1090, 1091, 1092, 1093, 1094, 1095, 1096, 1097] (by decide +kernel) (by decide +kernel)
set_option maxRecDepth 20000 in
theorem gL_law_X5_ahead : GoodIn wsL_law (wsV RL 63 RX5 yX5_ahead wsX5_ahead) := goodIn_app (goodIn_of _ (by decide +kernel)) ggL_law_X5_ahead
set_option maxRecDepth 20000 in
theorem ggL_law_X4_ends : GoodIn wsL_law wsX4_ends := goodIn_r _ [414, 16, 15, 415, 416, 417, 418, 2, 419, 420, 421, 422, 423, 82, 139, 140, 141, 14, 142, 41, 88, 89, 299, 300, 301, 302, 303, 93, 304, 305, 306, 307, 138, 94, 95, 96, 97, 26, 392, 393, 394, 395, 33, 396, 397, 398, 399, 34, 35, 36, 37, 38, 39, 40, 42, 43, 44, 45, 46, 424, 425, 426, 427, 428, 174, 175, 176, 177, 178, 179, 180, 147, 148, 181, 182, 429, 309, 310, 311, 312, 313, 314, 315, 47, 159, 160, 161, 162, 163, 164, 165, 166, 167, 168, 169, 316, 317, 318, 319, 320, 321, 322, 323, 324, 325, 326, 171, 86, 172, 327, 150, 151, 328, 153, 154, 329, 330, 331, 332, 1074, 1075, 1076, 1077, 1078, 1079, 1080, 1098, 1099, 1100, 1101, 1102, 1103, 1104, 1105, 1106, 1107, 1108, 1109, 1110, 1111, 1112] (by decide +kernel) (by decide +kernel)
set_option maxRecDepth 20000 in
theorem gL_law_X4_ends : GoodIn wsL_law (wsV RL 64 RX4 yX4_ends wsX4_ends) := goodIn_app (goodIn_of _ (by decide +kernel)) ggL_law_X4_ends
set_option maxRecDepth 20000 in
theorem ggL_law_X5_ends : GoodIn wsL_law wsX5_ends := goodIn_r _ [433, 67, 69, 187, 188, 189, 5, 190, 114, 115, 116, 120, 121, 122, 123, 72, 124, 337, 338, 339, 340, 404, 405, 406, 434, 435, 436, 437, 207, 208, 209, 341, 342, 343, 344, 73, 197, 198, 199, 200, 201, 202, 203, 163, 164, 165, 204, 205, 206, 191, 192, 193, 345, 346, 347, 348, 321, 322, 349, 324, 325, 194, 195, 196, 350, 351, 352, 1081, 1082, 1083, 1084, 1085, 1086, 1087, 1088, 1089, 1090, 1091, 1092, 1093, 1094, 1095, 1096, 1097] (by decide +kernel) (by decide +kernel)
set_option maxRecDepth 20000 in
theorem gL_law_X5_ends : GoodIn wsL_law (wsV RL 67 RX5 yX5_ends wsX5_ends) := goodIn_app (goodIn_of _ (by decide +kernel)) ggL_law_X5_ends
set_option maxRecDepth 20000 in
theorem ggL_law_X4_soonest : GoodIn wsL_law wsX4_soonest := goodIn_r _ [441, 303, 16, 15, 415, 304, 305, 306, 2, 307, 138, 94, 95, 96, 97, 82, 26, 93, 88, 89, 392, 393, 394, 14, 395, 33, 396, 397, 398, 399, 34, 35, 36, 37, 38, 39, 40, 41, 42, 43, 44, 45, 46, 442, 443, 444, 445, 446, 447, 448, 449, 177, 178, 179, 180, 147, 148, 181, 182, 429, 309, 310, 311, 312, 313, 314, 315, 47, 159, 160, 161, 162, 163, 164, 165, 166, 167, 168, 169, 316, 317, 318, 319, 320, 321, 322, 323, 324, 325, 326, 171, 86, 172, 327, 150, 151, 328, 153, 154, 329, 330, 331, 332, 1074, 1075, 1076, 1077, 1078, 1079, 1080, 1098, 1099, 1100, 1101, 1102, 1103, 1104, 1105, 1106, 1107, 1108, 1109, 1110, 1111, 1112] (by decide +kernel) (by decide +kernel)
set_option maxRecDepth 20000 in
theorem gL_law_X4_soonest : GoodIn wsL_law (wsV RL 68 RX4 yX4_soonest wsX4_soonest) := goodIn_app (goodIn_of _ (by decide +kernel)) ggL_law_X4_soonest
set_option maxRecDepth 20000 in
theorem ggL_law_X5_soonest : GoodIn wsL_law wsX5_soonest := goodIn_r _ [453, 67, 69, 337, 338, 339, 5, 340, 120, 121, 122, 123, 72, 124, 404, 405, 406, 434, 435, 436, 437, 207, 208, 209, 341, 342, 343, 344, 73, 197, 198, 199, 200, 201, 202, 203, 163, 164, 165, 204, 205, 206, 191, 192, 193, 345, 346, 347, 348, 321, 322, 349, 324, 325, 194, 195, 196, 350, 351, 352, 1081, 1082, 1083, 1084, 1085, 1086, 1087, 1088, 1089, 1090, 1091, 1092, 1093, 1094, 1095, 1096, 1097] (by decide +kernel) (by decide +kernel)
set_option maxRecDepth 20000 in
theorem gL_law_X5_soonest : GoodIn wsL_law (wsV RL 72 RX5 yX5_soonest wsX5_soonest) := goodIn_app (goodIn_of _ (by decide +kernel)) ggL_law_X5_soonest
set_option maxRecDepth 20000 in
theorem ggL_law_X4_place : GoodIn wsL_law wsX4_place := goodIn_r _ [457, 16, 15, 134, 416, 417, 418, 2, 419, 420, 421, 422, 423, 82, 139, 140, 141, 14, 142, 41, 88, 89, 299, 300, 301, 302, 303, 93, 304, 305, 306, 307, 138, 94, 95, 96, 97, 26, 392, 393, 394, 395, 33, 396, 397, 398, 399, 34, 35, 36, 37, 38, 39, 40, 42, 43, 44, 45, 46, 424, 425, 426, 427, 428, 174, 175, 176, 177, 178, 179, 180, 147, 148, 181, 182, 429, 309, 310, 311, 312, 313, 314, 315, 47, 159, 160, 161, 162, 163, 164, 165, 166, 167, 168, 169, 316, 317, 318, 319, 320, 321, 322, 323, 324, 325, 326, 171, 86, 172, 327, 150, 151, 328, 153, 154, 329, 330, 331, 332, 1074, 1075, 1076, 1077, 1078, 1079, 1080, 1098, 1099, 1100, 1101, 1102, 1103, 1104, 1105, 1106, 1107, 1108, 1109, 1110, 1111, 1112] (by decide +kernel) (by decide +kernel)
set_option maxRecDepth 20000 in
theorem gL_law_X4_place : GoodIn wsL_law (wsV RL 73 RX4 yX4_place wsX4_place) := goodIn_app (goodIn_of _ (by decide +kernel)) ggL_law_X4_place
set_option maxRecDepth 20000 in
theorem ggL_law_X5_place : GoodIn wsL_law wsX5_place := goodIn_r _ [461, 187, 188, 189, 5, 190, 67, 114, 115, 116, 462, 463, 464, 465, 337, 338, 339, 340, 120, 121, 122, 123, 72, 124, 466, 467, 468, 469, 69, 404, 405, 406, 434, 435, 436, 437, 207, 208, 209, 341, 342, 343, 344, 73, 197, 198, 199, 200, 201, 202, 203, 163, 164, 165, 204, 205, 206, 191, 192, 193, 345, 346, 347, 348, 321, 322, 349, 324, 325, 194, 195, 196, 350, 351, 352, 1081, 1082, 1083, 1084, 1085, 1086, 1087, 1088, 1089, 1090, 1091, 1092, 1093, 1094, 1095, 1096, 1097] (by decide +kernel) (by decide +kernel)
set_option maxRecDepth 20000 in
theorem gL_law_X5_place : GoodIn wsL_law (wsV RL 76 RX5 yX5_place wsX5_place) := goodIn_app (goodIn_of _ (by decide +kernel)) ggL_law_X5_place
set_option maxRecDepth 20000 in
theorem ggL_law_X4_kindFor : GoodIn wsL_law wsX4_kindFor := goodIn_r _ [473, 16, 15, 133, 416, 417, 418, 2, 419, 420, 421, 422, 423, 82, 139, 140, 141, 14, 142, 41, 88, 89, 299, 300, 301, 302, 303, 93, 304, 305, 306, 307, 138, 94, 95, 96, 97, 26, 392, 393, 394, 395, 33, 396, 397, 398, 399, 34, 35, 36, 37, 38, 39, 40, 42, 43, 44, 45, 46, 424, 425, 426, 427, 428, 174, 175, 176, 177, 178, 179, 180, 147, 148, 181, 182, 429, 309, 310, 311, 312, 313, 314, 315, 47, 159, 160, 161, 162, 163, 164, 165, 166, 167, 168, 169, 316, 317, 318, 319, 320, 321, 322, 323, 324, 325, 326, 171, 86, 172, 327, 150, 151, 328, 153, 154, 329, 330, 331, 332, 1074, 1075, 1076, 1077, 1078, 1079, 1080, 1098, 1099, 1100, 1101, 1102, 1103, 1104, 1105, 1106, 1107, 1108, 1109, 1110, 1111, 1112] (by decide +kernel) (by decide +kernel)
set_option maxRecDepth 20000 in
theorem gL_law_X4_kindFor : GoodIn wsL_law (wsV RL 77 RX4 yX4_kindFor wsX4_kindFor) := goodIn_app (goodIn_of _ (by decide +kernel)) ggL_law_X4_kindFor
set_option maxRecDepth 20000 in
theorem ggL_law_X5_kindFor : GoodIn wsL_law wsX5_kindFor := goodIn_r _ [477, 187, 188, 189, 5, 190, 67, 114, 115, 116, 462, 463, 464, 465, 337, 338, 339, 340, 120, 121, 122, 123, 72, 124, 466, 467, 468, 469, 69, 404, 405, 406, 434, 435, 436, 437, 207, 208, 209, 341, 342, 343, 344, 73, 197, 198, 199, 200, 201, 202, 203, 163, 164, 165, 204, 205, 206, 191, 192, 193, 345, 346, 347, 348, 321, 322, 349, 324, 325, 194, 195, 196, 350, 351, 352, 1081, 1082, 1083, 1084, 1085, 1086, 1087, 1088, 1089, 1090, 1091, 1092, 1093, 1094, 1095, 1096, 1097] (by decide +kernel) (by decide +kernel)
set_option maxRecDepth 20000 in
theorem gL_law_X5_kindFor : GoodIn wsL_law (wsV RL 80 RX5 yX5_kindFor wsX5_kindFor) := goodIn_app (goodIn_of _ (by decide +kernel)) ggL_law_X5_kindFor
set_option maxRecDepth 20000 in
theorem ggL_law_X4_ice : GoodIn wsL_law wsX4_ice := goodIn_r _ [481, 82, 16, 15, 93, 88, 2, 89, 299, 300, 301, 302, 303, 304, 305, 306, 307, 138, 94, 95, 96, 97, 26, 392, 393, 394, 14, 395, 33, 396, 397, 398, 399, 34, 35, 36, 37, 38, 39, 40, 41, 42, 43, 44, 45, 46, 482, 483, 484, 485, 320, 321, 164, 322, 486, 487, 488, 489, 312, 313, 314, 315, 47, 159, 160, 161, 162, 163, 165, 166, 167, 168, 169, 147, 148, 316, 317, 318, 319, 323, 324, 325, 326, 171, 86, 172, 327, 150, 151, 328, 153, 154, 181, 182, 329, 330, 331, 332, 177, 178, 179, 180, 490, 491, 492, 493, 494, 495, 496, 1074, 1075, 1076, 1077, 1078, 1079, 1080, 1098, 1099, 1100, 1101, 1102, 1103, 1104, 1105, 1106, 1107, 1108, 1109, 1110, 1111, 1112] (by decide +kernel) (by decide +kernel)
set_option maxRecDepth 20000 in
theorem gL_law_X4_ice : GoodIn wsL_law (wsV RL 81 RX4 yX4_ice wsX4_ice) := goodIn_app (goodIn_of _ (by decide +kernel)) ggL_law_X4_ice
set_option maxRecDepth 20000 in
theorem ggL_law_X5_ice : GoodIn wsL_law wsX5_ice := goodIn_r _ [500, 67, 69, 114, 115, 5, 116, 501, 502, 503, 462, 463, 464, 465, 337, 338, 339, 340, 120, 121, 122, 123, 72, 124, 404, 405, 406, 504, 505, 506, 348, 321, 164, 322, 407, 408, 409, 410, 341, 342, 343, 344, 73, 197, 198, 199, 200, 201, 202, 203, 163, 165, 204, 205, 206, 191, 192, 193, 345, 346, 347, 349, 324, 325, 194, 195, 196, 350, 351, 352, 375, 376, 377, 207, 208, 209, 507, 508, 509, 1081, 1082, 1083, 1084, 1085, 1086, 1087, 1088, 1089, 1090, 1091, 1092, 1093, 1094, 1095, 1096, 1097] (by decide +kernel) (by decide +kernel)
set_option maxRecDepth 20000 in
theorem gL_law_X5_ice : GoodIn wsL_law (wsV RL 84 RX5 yX5_ice wsX5_ice) := goodIn_app (goodIn_of _ (by decide +kernel)) ggL_law_X5_ice
set_option maxRecDepth 20000 in
theorem ggL_law_X4_blocks : GoodIn wsL_law wsX4_blocks := goodIn_r _ [513, 15, 134, 243, 514, 321, 164, 322, 16, 415, 420, 421, 422, 2, 423, 82, 139, 140, 141, 14, 142, 41, 88, 89, 299, 300, 301, 302, 303, 93, 304, 305, 306, 307, 138, 94, 95, 96, 97, 26, 392, 393, 394, 395, 33, 396, 397, 398, 399, 34, 35, 36, 37, 38, 39, 40, 42, 43, 44, 45, 46, 482, 483, 484, 485, 320, 515, 516, 517, 518, 428, 174, 175, 176, 177, 178, 179, 180, 147, 148, 181, 182, 312, 313, 314, 315, 47, 159, 160, 161, 162, 163, 165, 166, 167, 168, 169, 316, 317, 318, 319, 323, 324, 325, 326, 171, 86, 172, 327, 150, 151, 328, 153, 154, 329, 330, 331, 332, 1074, 1075, 1076, 1077, 1078, 1079, 1080, 1098, 1099, 1100, 1101, 1102, 1103, 1104, 1105, 1106, 1107, 1108, 1109, 1110, 1111, 1112] (by decide +kernel) (by decide +kernel)
set_option maxRecDepth 20000 in
theorem gL_law_X4_blocks : GoodIn wsL_law (wsV RL 85 RX4 yX4_blocks wsX4_blocks) := goodIn_app (goodIn_of _ (by decide +kernel)) ggL_law_X4_blocks
set_option maxRecDepth 20000 in
theorem ggL_law_X5_blocks : GoodIn wsL_law wsX5_blocks := goodIn_r _ [522, 67, 69, 187, 188, 189, 5, 190, 114, 115, 116, 501, 502, 503, 462, 463, 464, 465, 337, 338, 339, 340, 120, 121, 122, 123, 72, 124, 404, 405, 406, 504, 505, 506, 348, 321, 164, 322, 407, 408, 409, 410, 341, 342, 343, 344, 73, 197, 198, 199, 200, 201, 202, 203, 163, 165, 204, 205, 206, 191, 192, 193, 345, 346, 347, 349, 324, 325, 194, 195, 196, 350, 351, 352, 375, 376, 377, 207, 208, 209, 1081, 1082, 1083, 1084, 1085, 1086, 1087, 1088, 1089, 1090, 1091, 1092, 1093, 1094, 1095, 1096, 1097] (by decide +kernel) (by decide +kernel)
set_option maxRecDepth 20000 in
theorem gL_law_X5_blocks : GoodIn wsL_law (wsV RL 88 RX5 yX5_blocks wsX5_blocks) := goodIn_app (goodIn_of _ (by decide +kernel)) ggL_law_X5_blocks
set_option maxRecDepth 20000 in
theorem ggL_law_X4_bears : GoodIn wsL_law wsX4_bears := goodIn_r _ [526, 16, 15, 263, 415, 420, 421, 422, 2, 423, 82, 139, 140, 141, 14, 142, 41, 88, 89, 299, 300, 301, 302, 303, 93, 304, 305, 306, 307, 138, 94, 95, 96, 97, 26, 392, 393, 394, 395, 33, 396, 397, 398, 399, 34, 35, 36, 37, 38, 39, 40, 42, 43, 44, 45, 46, 515, 516, 517, 518, 428, 174, 175, 176, 177, 178, 179, 180, 147, 148, 181, 182, 312, 313, 314, 315, 47, 159, 160, 161, 162, 163, 164, 165, 166, 167, 168, 169, 316, 317, 318, 319, 320, 321, 322, 323, 324, 325, 326, 171, 86, 172, 327, 150, 151, 328, 153, 154, 329, 330, 331, 332, 1074, 1075, 1076, 1077, 1078, 1079, 1080, 1098, 1099, 1100, 1101, 1102, 1103, 1104, 1105, 1106, 1107, 1108, 1109, 1110, 1111, 1112] (by decide +kernel) (by decide +kernel)
set_option maxRecDepth 20000 in
theorem gL_law_X4_bears : GoodIn wsL_law (wsV RL 89 RX4 yX4_bears wsX4_bears) := goodIn_app (goodIn_of _ (by decide +kernel)) ggL_law_X4_bears
set_option maxRecDepth 20000 in
theorem ggL_law_X5_bears : GoodIn wsL_law wsX5_bears := goodIn_r _ [530, 67, 69, 187, 188, 189, 5, 190, 114, 115, 116, 501, 502, 503, 462, 463, 464, 465, 337, 338, 339, 340, 120, 121, 122, 123, 72, 124, 404, 405, 406, 407, 408, 409, 410, 341, 342, 343, 344, 73, 197, 198, 199, 200, 201, 202, 203, 163, 164, 165, 204, 205, 206, 191, 192, 193, 345, 346, 347, 348, 321, 322, 349, 324, 325, 194, 195, 196, 350, 351, 352, 375, 376, 377, 207, 208, 209, 1081, 1082, 1083, 1084, 1085, 1086, 1087, 1088, 1089, 1090, 1091, 1092, 1093, 1094, 1095, 1096, 1097] (by decide +kernel) (by decide +kernel)
set_option maxRecDepth 20000 in
theorem gL_law_X5_bears : GoodIn wsL_law (wsV RL 92 RX5 yX5_bears wsX5_bears) := goodIn_app (goodIn_of _ (by decide +kernel)) ggL_law_X5_bears
set_option maxRecDepth 20000 in
theorem ggL_law_X4_swap : GoodIn wsL_law wsX4_swap := goodIn_r _ [534, 16, 15, 289, 415, 299, 300, 301, 2, 302, 82, 303, 93, 88, 89, 304, 305, 306, 307, 138, 94, 95, 96, 97, 26, 392, 393, 394, 14, 395, 33, 396, 397, 398, 399, 34, 35, 36, 37, 38, 39, 40, 41, 42, 43, 44, 45, 46, 486, 487, 488, 489, 312, 313, 314, 315, 47, 159, 160, 161, 162, 163, 164, 165, 166, 167, 168, 169, 147, 148, 316, 317, 318, 319, 320, 321, 322, 323, 324, 325, 326, 171, 86, 172, 327, 150, 151, 328, 153, 154, 181, 182, 329, 330, 331, 332, 177, 178, 179, 180, 490, 491, 492, 493, 494, 495, 496, 535, 536, 537, 538, 134, 1074, 1075, 1076, 1077, 1078, 1079, 1080, 1098, 1099, 1100, 1101, 1102, 1103, 1104, 1105, 1106, 1107, 1108, 1109, 1110, 1111, 1112] (by decide +kernel) (by decide +kernel)
set_option maxRecDepth 20000 in
theorem gL_law_X4_swap : GoodIn wsL_law (wsV RL 93 RX4 yX4_swap wsX4_swap) := goodIn_app (goodIn_of _ (by decide +kernel)) ggL_law_X4_swap
set_option maxRecDepth 20000 in
theorem ggL_law_X5_swap : GoodIn wsL_law wsX5_swap := goodIn_r _ [542, 67, 69, 501, 502, 5, 503, 114, 115, 116, 462, 463, 464, 465, 337, 338, 339, 340, 120, 121, 122, 123, 72, 124, 404, 405, 406, 407, 408, 409, 410, 341, 342, 343, 344, 73, 197, 198, 199, 200, 201, 202, 203, 163, 164, 165, 204, 205, 206, 191, 192, 193, 345, 346, 347, 348, 321, 322, 349, 324, 325, 194, 195, 196, 350, 351, 352, 375, 376, 377, 207, 208, 209, 507, 508, 509, 1081, 1082, 1083, 1084, 1085, 1086, 1087, 1088, 1089, 1090, 1091, 1092, 1093, 1094, 1095, 1096, 1097] (by decide +kernel) (by decide +kernel)
set_option maxRecDepth 20000 in
theorem gL_law_X5_swap : GoodIn wsL_law (wsV RL 96 RX5 yX5_swap wsX5_swap) := goodIn_app (goodIn_of _ (by decide +kernel)) ggL_law_X5_swap
set_option maxRecDepth 20000 in
theorem ggL_law_X4_law : GoodIn wsL_law wsX4_law := goodIn_r _ [546, 16, 15, 299, 300, 301, 2, 302, 82, 303, 93, 88, 89, 304, 305, 306, 307, 138, 94, 95, 96, 97, 26, 392, 393, 394, 14, 395, 33, 396, 397, 398, 399, 34, 35, 36, 37, 38, 39, 40, 41, 42, 43, 44, 45, 46, 547, 548, 549, 550, 486, 487, 488, 489, 312, 313, 314, 315, 47, 159, 160, 161, 162, 163, 164, 165, 166, 167, 168, 169, 147, 148, 316, 317, 318, 319, 320, 321, 322, 323, 324, 325, 326, 171, 86, 172, 327, 150, 151, 328, 153, 154, 181, 182, 329, 330, 331, 332, 177, 178, 179, 180, 490, 491, 492, 493, 494, 495, 496, 1074, 1075, 1076, 1077, 1078, 1079, 1080, 1098, 1099, 1100, 1101, 1102, 1103, 1104, 1105, 1106, 1107, 1108, 1109, 1110, 1111, 1112] (by decide +kernel) (by decide +kernel)
set_option maxRecDepth 20000 in
theorem gL_law_X4_law : GoodIn wsL_law (wsV RL 97 RX4 yX4_law wsX4_law) := goodIn_app (goodIn_of _ (by decide +kernel)) ggL_law_X4_law
set_option maxRecDepth 20000 in
theorem ggL_law_X5_law : GoodIn wsL_law wsX5_law := goodIn_r _ [554, 67, 69, 501, 502, 5, 503, 114, 115, 116, 462, 463, 464, 465, 337, 338, 339, 340, 120, 121, 122, 123, 72, 124, 404, 405, 406, 407, 408, 409, 410, 341, 342, 343, 344, 73, 197, 198, 199, 200, 201, 202, 203, 163, 164, 165, 204, 205, 206, 191, 192, 193, 345, 346, 347, 348, 321, 322, 349, 324, 325, 194, 195, 196, 350, 351, 352, 375, 376, 377, 207, 208, 209, 507, 508, 509, 1081, 1082, 1083, 1084, 1085, 1086, 1087, 1088, 1089, 1090, 1091, 1092, 1093, 1094, 1095, 1096, 1097] (by decide +kernel) (by decide +kernel)
set_option maxRecDepth 20000 in
theorem gL_law_X5_law : GoodIn wsL_law (wsV RL 100 RX5 yX5_law wsX5_law) := goodIn_app (goodIn_of _ (by decide +kernel)) ggL_law_X5_law
set_option maxRecDepth 20000 in
theorem ggL_law_X4_enemy : GoodIn wsL_law wsX4_enemy := goodIn_r _ [558, 559, 560, 561, 2, 562, 82, 15, 244, 415, 93, 88, 89, 299, 300, 301, 302, 303, 304, 305, 306, 307, 138, 563, 491, 492, 493, 494, 495, 496, 564, 565, 566, 567, 568, 569, 570, 571, 16, 392, 393, 394, 14, 395, 33, 396, 397, 398, 399, 34, 35, 36, 37, 38, 39, 40, 41, 42, 43, 44, 45, 46, 486, 487, 488, 489, 312, 313, 314, 315, 47, 159, 160, 161, 162, 163, 164, 165, 166, 167, 168, 169, 147, 148, 316, 317, 318, 319, 320, 321, 322, 323, 324, 325, 326, 171, 86, 172, 327, 150, 151, 328, 153, 154, 181, 182, 329, 330, 331, 332, 177, 178, 179, 180, 490, 94, 95, 96, 97, 26, 1074, 1075, 1076, 1077, 1078, 1079, 1080, 1098, 1099, 1100, 1101, 1102, 1103, 1104, 1105, 1106, 1107, 1108, 1109, 1110, 1111, 1112] (by decide +kernel) (by decide +kernel)
set_option maxRecDepth 20000 in
theorem gL_law_X4_enemy : GoodIn wsL_law (wsV RL 101 RX4 yX4_enemy wsX4_enemy) := goodIn_app (goodIn_of _ (by decide +kernel)) ggL_law_X4_enemy
set_option maxRecDepth 20000 in
theorem ggL_law_X5_enemy : GoodIn wsL_law wsX5_enemy := goodIn_r _ [575, 114, 115, 5, 116, 501, 502, 503, 462, 463, 464, 465, 337, 338, 339, 340, 67, 120, 121, 122, 123, 72, 124, 576, 577, 578, 579, 580, 581, 582, 583, 584, 507, 508, 509, 585, 586, 587, 588, 69, 404, 405, 406, 407, 408, 409, 410, 341, 342, 343, 344, 73, 197, 198, 199, 200, 201, 202, 203, 163, 164, 165, 204, 205, 206, 191, 192, 193, 345, 346, 347, 348, 321, 322, 349, 324, 325, 194, 195, 196, 350, 351, 352, 375, 376, 377, 207, 208, 209, 1081, 1082, 1083, 1084, 1085, 1086, 1087, 1088, 1089, 1090, 1091, 1092, 1093, 1094, 1095, 1096, 1097] (by decide +kernel) (by decide +kernel)
set_option maxRecDepth 20000 in
theorem gL_law_X5_enemy : GoodIn wsL_law (wsV RL 104 RX5 yX5_enemy wsX5_enemy) := goodIn_app (goodIn_of _ (by decide +kernel)) ggL_law_X5_enemy
set_option maxRecDepth 20000 in
theorem ggL_law_X4_worst : GoodIn wsL_law wsX4_worst := goodIn_r _ [592, 559, 560, 561, 2, 562, 82, 15, 244, 415, 93, 88, 89, 299, 300, 301, 302, 303, 304, 305, 306, 307, 138, 563, 491, 492, 493, 494, 495, 496, 564, 565, 566, 567, 568, 569, 570, 571, 16, 392, 393, 394, 14, 395, 33, 396, 397, 398, 399, 34, 35, 36, 37, 38, 39, 40, 41, 42, 43, 44, 45, 46, 486, 487, 488, 489, 312, 313, 314, 315, 47, 159, 160, 161, 162, 163, 164, 165, 166, 167, 168, 169, 147, 148, 316, 317, 318, 319, 320, 321, 322, 323, 324, 325, 326, 171, 86, 172, 327, 150, 151, 328, 153, 154, 181, 182, 329, 330, 331, 332, 177, 178, 179, 180, 490, 94, 95, 96, 97, 26, 1074, 1075, 1076, 1077, 1078, 1079, 1080, 1098, 1099, 1100, 1101, 1102, 1103, 1104, 1105, 1106, 1107, 1108, 1109, 1110, 1111, 1112] (by decide +kernel) (by decide +kernel)
set_option maxRecDepth 20000 in
theorem gL_law_X4_worst : GoodIn wsL_law (wsV RL 105 RX4 yX4_worst wsX4_worst) := goodIn_app (goodIn_of _ (by decide +kernel)) ggL_law_X4_worst
set_option maxRecDepth 20000 in
theorem ggL_law_X5_worst : GoodIn wsL_law wsX5_worst := goodIn_r _ [596, 584, 114, 115, 5, 116, 501, 502, 503, 462, 463, 464, 465, 337, 338, 339, 340, 67, 120, 121, 122, 123, 72, 124, 576, 577, 578, 579, 580, 581, 582, 583, 507, 508, 509, 585, 586, 587, 588, 69, 404, 405, 406, 407, 408, 409, 410, 341, 342, 343, 344, 73, 197, 198, 199, 200, 201, 202, 203, 163, 164, 165, 204, 205, 206, 191, 192, 193, 345, 346, 347, 348, 321, 322, 349, 324, 325, 194, 195, 196, 350, 351, 352, 375, 376, 377, 207, 208, 209, 1081, 1082, 1083, 1084, 1085, 1086, 1087, 1088, 1089, 1090, 1091, 1092, 1093, 1094, 1095, 1096, 1097] (by decide +kernel) (by decide +kernel)
set_option maxRecDepth 20000 in
theorem gL_law_X5_worst : GoodIn wsL_law (wsV RL 108 RX5 yX5_worst wsX5_worst) := goodIn_app (goodIn_of _ (by decide +kernel)) ggL_law_X5_worst
set_option maxRecDepth 20000 in
theorem ggL_law_X4_least : GoodIn wsL_law wsX4_least := goodIn_r _ [600, 15, 244, 415, 420, 421, 422, 2, 423, 82, 139, 140, 141, 14, 142, 41, 88, 89, 299, 300, 301, 302, 303, 93, 304, 305, 306, 307, 138, 94, 95, 96, 97, 26, 563, 491, 492, 493, 494, 495, 496, 601, 602, 603, 604, 16, 392, 393, 394, 395, 33, 396, 397, 398, 399, 34, 35, 36, 37, 38, 39, 40, 42, 43, 44, 45, 46, 515, 516, 517, 518, 428, 174, 175, 176, 177, 178, 179, 180, 147, 148, 181, 182, 312, 313, 314, 315, 47, 159, 160, 161, 162, 163, 164, 165, 166, 167, 168, 169, 316, 317, 318, 319, 320, 321, 322, 323, 324, 325, 326, 171, 86, 172, 327, 150, 151, 328, 153, 154, 329, 330, 331, 332, 1074, 1075, 1076, 1077, 1078, 1079, 1080, 1098, 1099, 1100, 1101, 1102, 1103, 1104, 1105, 1106, 1107, 1108, 1109, 1110, 1111, 1112] (by decide +kernel) (by decide +kernel)
set_option maxRecDepth 20000 in
theorem gL_law_X4_least : GoodIn wsL_law (wsV RL 109 RX4 yX4_least wsX4_least) := goodIn_app (goodIn_of _ (by decide +kernel)) ggL_law_X4_least
set_option maxRecDepth 20000 in
theorem ggL_law_X5_least : GoodIn wsL_law wsX5_least := goodIn_r _ [608, 187, 188, 189, 5, 190, 67, 114, 115, 116, 501, 502, 503, 462, 463, 464, 465, 337, 338, 339, 340, 120, 121, 122, 123, 72, 124, 576, 577, 578, 579, 507, 508, 509, 585, 586, 587, 588, 69, 404, 405, 406, 407, 408, 409, 410, 341, 342, 343, 344, 73, 197, 198, 199, 200, 201, 202, 203, 163, 164, 165, 204, 205, 206, 191, 192, 193, 345, 346, 347, 348, 321, 322, 349, 324, 325, 194, 195, 196, 350, 351, 352, 375, 376, 377, 207, 208, 209, 1081, 1082, 1083, 1084, 1085, 1086, 1087, 1088, 1089, 1090, 1091, 1092, 1093, 1094, 1095, 1096, 1097] (by decide +kernel) (by decide +kernel)
set_option maxRecDepth 20000 in
theorem gL_law_X5_least : GoodIn wsL_law (wsV RL 112 RX5 yX5_least wsX5_least) := goodIn_app (goodIn_of _ (by decide +kernel)) ggL_law_X5_least
set_option maxRecDepth 20000 in
theorem ggL_law_X4_nail : GoodIn wsL_law wsX4_nail := goodIn_r _ [612, 15, 244, 415, 299, 300, 301, 2, 302, 82, 303, 93, 88, 89, 304, 305, 306, 307, 138, 94, 95, 96, 97, 26, 246, 147, 148, 613, 614, 615, 616, 514, 321, 164, 322, 568, 569, 570, 571, 16, 392, 393, 394, 14, 395, 33, 396, 397, 398, 399, 34, 35, 36, 37, 38, 39, 40, 41, 42, 43, 44, 45, 46, 486, 487, 488, 489, 312, 313, 314, 315, 47, 159, 160, 161, 162, 163, 165, 166, 167, 168, 169, 316, 317, 318, 319, 320, 323, 324, 325, 326, 171, 86, 172, 327, 150, 151, 328, 153, 154, 181, 182, 329, 330, 331, 332, 177, 178, 179, 180, 490, 491, 492, 493, 494, 495, 496, 1074, 1075, 1076, 1077, 1078, 1079, 1080, 1098, 1099, 1100, 1101, 1102, 1103, 1104, 1105, 1106, 1107, 1108, 1109, 1110, 1111, 1112] (by decide +kernel) (by decide +kernel)
set_option maxRecDepth 20000 in
theorem gL_law_X4_nail : GoodIn wsL_law (wsV RL 113 RX4 yX4_nail wsX4_nail) := goodIn_app (goodIn_of _ (by decide +kernel)) ggL_law_X4_nail
set_option maxRecDepth 20000 in
theorem ggL_law_X5_nail : GoodIn wsL_law wsX5_nail := goodIn_r _ [620, 584, 501, 502, 5, 503, 114, 115, 116, 462, 463, 464, 465, 337, 338, 339, 340, 67, 120, 121, 122, 123, 72, 124, 576, 577, 578, 579, 580, 581, 582, 583, 507, 508, 509, 585, 586, 587, 588, 69, 404, 405, 406, 407, 408, 409, 410, 341, 342, 343, 344, 73, 197, 198, 199, 200, 201, 202, 203, 163, 164, 165, 204, 205, 206, 191, 192, 193, 345, 346, 347, 348, 321, 322, 349, 324, 325, 194, 195, 196, 350, 351, 352, 375, 376, 377, 207, 208, 209, 1081, 1082, 1083, 1084, 1085, 1086, 1087, 1088, 1089, 1090, 1091, 1092, 1093, 1094, 1095, 1096, 1097] (by decide +kernel) (by decide +kernel)
set_option maxRecDepth 20000 in
theorem gL_law_X5_nail : GoodIn wsL_law (wsV RL 116 RX5 yX5_nail wsX5_nail) := goodIn_app (goodIn_of _ (by decide +kernel)) ggL_law_X5_nail
set_option maxRecDepth 20000 in
theorem ggL_law_X4_hang : GoodIn wsL_law wsX4_hang := goodIn_r _ [624, 15, 82, 139, 140, 141, 14, 142, 41, 88, 2, 89, 625, 626, 627, 628, 37, 147, 148, 181, 182, 94, 95, 96, 97, 26, 93, 1074, 1075, 1076, 1077, 1078, 1079, 1080, 1098, 1099, 1100, 1101, 1102, 1103, 1104, 1105, 1106, 1107, 1108, 1109, 1110, 1111, 1112] (by decide +kernel) (by decide +kernel)
set_option maxRecDepth 20000 in
theorem gL_law_X4_hang : GoodIn wsL_law (wsV RL 117 RX4 yX4_hang wsX4_hang) := goodIn_app (goodIn_of _ (by decide +kernel)) ggL_law_X4_hang
set_option maxRecDepth 20000 in
theorem ggL_law_X5_hang : GoodIn wsL_law wsX5_hang := goodIn_r _ [632, 67, 187, 188, 189, 5, 190, 114, 115, 116, 120, 121, 122, 123, 72, 124, 1081, 1082, 1083, 1084, 1085, 1086, 1087, 1088, 1089, 1090, 1091, 1092, 1093, 1094, 1095, 1096, 1097] (by decide +kernel) (by decide +kernel)
set_option maxRecDepth 20000 in
theorem gL_law_X5_hang : GoodIn wsL_law (wsV RL 120 RX5 yX5_hang wsX5_hang) := goodIn_app (goodIn_of _ (by decide +kernel)) ggL_law_X5_hang
set_option maxRecDepth 20000 in
theorem ggL_law_X4_falls : GoodIn wsL_law wsX4_falls := goodIn_r _ [636, 15, 82, 139, 140, 141, 14, 142, 41, 88, 2, 89, 637, 638, 639, 640, 40, 177, 178, 179, 180, 37, 147, 148, 181, 182, 94, 95, 96, 97, 26, 93, 1074, 1075, 1076, 1077, 1078, 1079, 1080, 1098, 1099, 1100, 1101, 1102, 1103, 1104, 1105, 1106, 1107, 1108, 1109, 1110, 1111, 1112] (by decide +kernel) (by decide +kernel)
set_option maxRecDepth 20000 in
theorem gL_law_X4_falls : GoodIn wsL_law (wsV RL 121 RX4 yX4_falls wsX4_falls) := goodIn_app (goodIn_of _ (by decide +kernel)) ggL_law_X4_falls
set_option maxRecDepth 20000 in
theorem ggL_law_X5_falls : GoodIn wsL_law wsX5_falls := goodIn_r _ [644, 187, 188, 189, 5, 190, 67, 114, 115, 116, 645, 646, 647, 648, 69, 404, 405, 406, 375, 376, 377, 207, 208, 209, 120, 121, 122, 123, 72, 124, 1081, 1082, 1083, 1084, 1085, 1086, 1087, 1088, 1089, 1090, 1091, 1092, 1093, 1094, 1095, 1096, 1097] (by decide +kernel) (by decide +kernel)
set_option maxRecDepth 20000 in
theorem gL_law_X5_falls : GoodIn wsL_law (wsV RL 124 RX5 yX5_falls wsX5_falls) := goodIn_app (goodIn_of _ (by decide +kernel)) ggL_law_X5_falls
set_option maxRecDepth 20000 in
theorem ggL_law_X4_war : GoodIn wsL_law wsX4_war := goodIn_r _ [652, 15, 231, 289, 137, 357, 178, 179, 14, 180, 41, 37, 147, 2, 148, 181, 182, 246, 1074, 1075, 1076, 1077, 1078, 1079, 1080, 1098, 1099, 1100, 1101, 1102, 1103, 1104, 1105, 1106, 1107, 1108, 1109, 1110, 1111, 1112] (by decide +kernel) (by decide +kernel)
set_option maxRecDepth 20000 in
theorem gL_law_X4_war : GoodIn wsL_law (wsV RL 125 RX4 yX4_war wsX4_war) := goodIn_app (goodIn_of _ (by decide +kernel)) ggL_law_X4_war
set_option maxRecDepth 20000 in
theorem ggL_law_X5_war : GoodIn wsL_law wsX5_war := goodIn_r _ [656, 67, 1081, 1082, 1083, 1084, 1085, 1086, 1087, 1088, 1089, 1090, 1091, 1092, 1093, 1094, 1095, 1096, 1097] (by decide +kernel) (by decide +kernel)
set_option maxRecDepth 20000 in
theorem gL_law_X5_war : GoodIn wsL_law (wsV RL 128 RX5 yX5_war wsX5_war) := goodIn_app (goodIn_of _ (by decide +kernel)) ggL_law_X5_war
set_option maxRecDepth 20000 in
theorem ggL_law_X4_key : GoodIn wsL_law wsX4_key := goodIn_r _ [660, 15, 289, 415, 637, 638, 639, 14, 640, 40, 177, 178, 179, 180, 41, 37, 147, 2, 148, 181, 182, 563, 491, 492, 493, 494, 495, 496, 94, 95, 96, 97, 82, 26, 93, 88, 89, 1074, 1075, 1076, 1077, 1078, 1079, 1080, 1098, 1099, 1100, 1101, 1102, 1103, 1104, 1105, 1106, 1107, 1108, 1109, 1110, 1111, 1112] (by decide +kernel) (by decide +kernel)
set_option maxRecDepth 20000 in
theorem gL_law_X4_key : GoodIn wsL_law (wsV RL 129 RX4 yX4_key wsX4_key) := goodIn_app (goodIn_of _ (by decide +kernel)) ggL_law_X4_key
set_option maxRecDepth 20000 in
theorem ggL_law_X5_key : GoodIn wsL_law wsX5_key := goodIn_r _ [664, 67, 645, 646, 647, 5, 648, 69, 404, 405, 406, 375, 376, 377, 207, 208, 209, 507, 508, 509, 120, 121, 122, 123, 72, 124, 1081, 1082, 1083, 1084, 1085, 1086, 1087, 1088, 1089, 1090, 1091, 1092, 1093, 1094, 1095, 1096, 1097] (by decide +kernel) (by decide +kernel)
set_option maxRecDepth 20000 in
theorem gL_law_X5_key : GoodIn wsL_law (wsV RL 132 RX5 yX5_key wsX5_key) := goodIn_app (goodIn_of _ (by decide +kernel)) ggL_law_X5_key
set_option maxRecDepth 20000 in
theorem ggL_law_X4_began : GoodIn wsL_law wsX4_began := goodIn_r _ [668, 15, 138, 303, 16, 231, 94, 95, 96, 2, 97, 82, 26, 93, 88, 89, 392, 393, 394, 14, 395, 33, 396, 397, 398, 399, 34, 35, 36, 37, 38, 39, 40, 41, 42, 43, 44, 45, 46, 669, 670, 671, 672, 308, 309, 310, 311, 312, 313, 314, 315, 47, 159, 160, 161, 162, 163, 164, 165, 166, 167, 168, 169, 147, 148, 316, 317, 318, 319, 320, 321, 322, 323, 324, 325, 326, 171, 86, 172, 327, 150, 151, 328, 153, 154, 181, 182, 329, 330, 331, 332, 290, 1074, 1075, 1076, 1077, 1078, 1079, 1080, 1098, 1099, 1100, 1101, 1102, 1103, 1104, 1105, 1106, 1107, 1108, 1109, 1110, 1111, 1112] (by decide +kernel) (by decide +kernel)
set_option maxRecDepth 20000 in
theorem gL_law_X4_began : GoodIn wsL_law (wsV RL 133 RX4 yX4_began wsX4_began) := goodIn_app (goodIn_of _ (by decide +kernel)) ggL_law_X4_began
set_option maxRecDepth 20000 in
theorem ggL_law_X5_began : GoodIn wsL_law wsX5_began := goodIn_r _ [676, 67, 69, 120, 121, 122, 5, 123, 72, 124, 404, 405, 406, 407, 408, 409, 410, 341, 342, 343, 344, 73, 197, 198, 199, 200, 201, 202, 203, 163, 164, 165, 204, 205, 206, 191, 192, 193, 345, 346, 347, 348, 321, 322, 349, 324, 325, 194, 195, 196, 350, 351, 352, 375, 376, 377, 207, 208, 209, 378, 379, 380, 1081, 1082, 1083, 1084, 1085, 1086, 1087, 1088, 1089, 1090, 1091, 1092, 1093, 1094, 1095, 1096, 1097] (by decide +kernel) (by decide +kernel)
set_option maxRecDepth 20000 in
theorem gL_law_X5_began : GoodIn wsL_law (wsV RL 136 RX5 yX5_began wsX5_began) := goodIn_app (goodIn_of _ (by decide +kernel)) ggL_law_X5_began
set_option maxRecDepth 20000 in
theorem ggL_law_X4_opened : GoodIn wsL_law wsX4_opened := goodIn_r _ [680, 15, 289, 82, 16, 244, 231, 93, 88, 2, 89, 299, 300, 301, 302, 303, 304, 305, 306, 307, 138, 94, 95, 96, 97, 26, 392, 393, 394, 14, 395, 33, 396, 397, 398, 399, 34, 35, 36, 37, 38, 39, 40, 41, 42, 43, 44, 45, 46, 308, 309, 310, 311, 312, 313, 314, 315, 47, 159, 160, 161, 162, 163, 164, 165, 166, 167, 168, 169, 147, 148, 316, 317, 318, 319, 320, 321, 322, 323, 324, 325, 326, 171, 86, 172, 327, 150, 151, 328, 153, 154, 181, 182, 329, 330, 331, 332, 1074, 1075, 1076, 1077, 1078, 1079, 1080, 1098, 1099, 1100, 1101, 1102, 1103, 1104, 1105, 1106, 1107, 1108, 1109, 1110, 1111, 1112] (by decide +kernel) (by decide +kernel)
set_option maxRecDepth 20000 in
theorem gL_law_X4_opened : GoodIn wsL_law (wsV RL 137 RX4 yX4_opened wsX4_opened) := goodIn_app (goodIn_of _ (by decide +kernel)) ggL_law_X4_opened
set_option maxRecDepth 20000 in
theorem ggL_law_X5_opened : GoodIn wsL_law wsX5_opened := goodIn_r _ [684, 67, 69, 114, 115, 5, 116, 462, 463, 464, 465, 337, 338, 339, 340, 120, 121, 122, 123, 72, 124, 404, 405, 406, 407, 408, 409, 410, 341, 342, 343, 344, 73, 197, 198, 199, 200, 201, 202, 203, 163, 164, 165, 204, 205, 206, 191, 192, 193, 345, 346, 347, 348, 321, 322, 349, 324, 325, 194, 195, 196, 350, 351, 352, 375, 376, 377, 207, 208, 209, 378, 379, 380, 1081, 1082, 1083, 1084, 1085, 1086, 1087, 1088, 1089, 1090, 1091, 1092, 1093, 1094, 1095, 1096, 1097] (by decide +kernel) (by decide +kernel)
set_option maxRecDepth 20000 in
theorem gL_law_X5_opened : GoodIn wsL_law (wsV RL 140 RX5 yX5_opened wsX5_opened) := goodIn_app (goodIn_of _ (by decide +kernel)) ggL_law_X5_opened
set_option maxRecDepth 20000 in
theorem ggL_law_X4_days : GoodIn wsL_law wsX4_days := goodIn_r _ [688, 82, 303, 15, 263, 244, 93, 88, 2, 89, 94, 95, 96, 97, 26, 304, 305, 306, 307, 138, 689, 690, 691, 14, 692, 46, 693, 246, 147, 148, 247, 248, 249, 250, 42, 181, 182, 233, 234, 308, 309, 310, 311, 312, 313, 314, 315, 44, 47, 41, 40, 34, 38, 159, 160, 161, 162, 163, 164, 165, 166, 167, 168, 169, 45, 43, 316, 317, 318, 319, 33, 35, 36, 320, 321, 322, 323, 324, 325, 326, 171, 86, 172, 327, 150, 151, 328, 153, 154, 329, 330, 331, 332, 1074, 1075, 1076, 1077, 1078, 1079, 1080, 1098, 1099, 1100, 1101, 1102, 1103, 1104, 1105, 1106, 1107, 1108, 1109, 1110, 1111, 1112] (by decide +kernel) (by decide +kernel)
set_option maxRecDepth 20000 in
theorem gL_law_X4_days : GoodIn wsL_law (wsV RL 141 RX4 yX4_days wsX4_days) := goodIn_app (goodIn_of _ (by decide +kernel)) ggL_law_X4_days
set_option maxRecDepth 20000 in
theorem ggL_law_X5_days : GoodIn wsL_law wsX5_days := goodIn_r _ [697, 67, 114, 115, 5, 116, 120, 121, 122, 123, 72, 124, 337, 338, 339, 340, 698, 699, 700, 701, 702, 341, 342, 343, 344, 73, 197, 198, 199, 200, 201, 202, 203, 163, 164, 165, 204, 205, 206, 191, 192, 193, 345, 346, 347, 348, 321, 322, 349, 324, 325, 194, 195, 196, 350, 351, 352, 1081, 1082, 1083, 1084, 1085, 1086, 1087, 1088, 1089, 1090, 1091, 1092, 1093, 1094, 1095, 1096, 1097] (by decide +kernel) (by decide +kernel)
set_option maxRecDepth 20000 in
theorem gL_law_X5_days : GoodIn wsL_law (wsV RL 144 RX5 yX5_days wsX5_days) := goodIn_app (goodIn_of _ (by decide +kernel)) ggL_law_X5_days
set_option maxRecDepth 20000 in
theorem ggL_law_X4_seed : GoodIn wsL_law wsX4_seed := goodIn_r _ [706, 15, 707, 1074, 1075, 1076, 1077, 1078, 1079, 1080, 1098, 1099, 1100, 1101, 1102, 1103, 1104, 1105, 1106, 1107, 1108, 1109, 1110, 1111, 1112] (by decide +kernel) (by decide +kernel)
set_option maxRecDepth 20000 in
theorem gL_law_X4_seed : GoodIn wsL_law (wsV RL 145 RX4 yX4_seed wsX4_seed) := goodIn_app (goodIn_of _ (by decide +kernel)) ggL_law_X4_seed
set_option maxRecDepth 20000 in
theorem ggL_law_X5_seed : GoodIn wsL_law wsX5_seed := goodIn_r _ [711, 67, 1081, 1082, 1083, 1084, 1085, 1086, 1087, 1088, 1089, 1090, 1091, 1092, 1093, 1094, 1095, 1096, 1097] (by decide +kernel) (by decide +kernel)
set_option maxRecDepth 20000 in
theorem gL_law_X5_seed : GoodIn wsL_law (wsV RL 148 RX5 yX5_seed wsX5_seed) := goodIn_app (goodIn_of _ (by decide +kernel)) ggL_law_X5_seed
set_option maxRecDepth 20000 in
theorem ggL_law_X4_feed : GoodIn wsL_law wsX4_feed := goodIn_r _ [715, 82, 22, 716, 83, 93, 88, 2, 89, 94, 95, 96, 97, 26, 717, 718, 719, 21, 720, 52, 51, 1074, 1075, 1076, 1077, 1078, 1079, 1080, 1113, 1114, 1115, 1116, 1117, 1118] (by decide +kernel) (by decide +kernel)
set_option maxRecDepth 20000 in
theorem gL_law_X4_feed : GoodIn wsL_law (wsV RL 149 RX4 yX4_feed wsX4_feed) := goodIn_app (goodIn_of _ (by decide +kernel)) ggL_law_X4_feed
set_option maxRecDepth 20000 in
theorem ggL_law_X5_feed : GoodIn wsL_law wsX5_feed := goodIn_r _ [724, 725, 71, 114, 115, 5, 116, 120, 121, 122, 123, 72, 124, 1081, 1082, 1083, 1084, 1085, 1086, 1087, 1088, 1089, 1090, 1091, 1092, 1093, 1094, 1095, 1096, 1097] (by decide +kernel) (by decide +kernel)
set_option maxRecDepth 20000 in
theorem gL_law_X5_feed : GoodIn wsL_law (wsV RL 152 RX5 yX5_feed wsX5_feed) := goodIn_app (goodIn_of _ (by decide +kernel)) ggL_law_X5_feed
set_option maxRecDepth 20000 in
theorem ggL_law_X4_wipe : GoodIn wsL_law wsX4_wipe := goodIn_r _ [729, 22, 716, 1074, 1075, 1076, 1077, 1078, 1079, 1080, 1113, 1114, 1115, 1116, 1117, 1118] (by decide +kernel) (by decide +kernel)
set_option maxRecDepth 20000 in
theorem gL_law_X4_wipe : GoodIn wsL_law (wsV RL 153 RX4 yX4_wipe wsX4_wipe) := goodIn_app (goodIn_of _ (by decide +kernel)) ggL_law_X4_wipe
set_option maxRecDepth 20000 in
theorem ggL_law_X5_wipe : GoodIn wsL_law wsX5_wipe := goodIn_r _ [733, 725, 1081, 1082, 1083, 1084, 1085, 1086, 1087, 1088, 1089, 1090, 1091, 1092, 1093, 1094, 1095, 1096, 1097] (by decide +kernel) (by decide +kernel)
set_option maxRecDepth 20000 in
theorem gL_law_X5_wipe : GoodIn wsL_law (wsV RL 156 RX5 yX5_wipe wsX5_wipe) := goodIn_app (goodIn_of _ (by decide +kernel)) ggL_law_X5_wipe
set_option maxRecDepth 20000 in
theorem ggL_law_X4_text : GoodIn wsL_law wsX4_text := goodIn_r _ [737, 16, 15, 22, 716, 392, 393, 394, 14, 395, 33, 396, 397, 398, 399, 34, 35, 36, 37, 38, 39, 40, 41, 42, 43, 44, 45, 46, 738, 739, 740, 21, 741, 54, 55, 53, 742, 743, 744, 745, 52, 56, 746, 321, 164, 322, 747, 748, 749, 750, 51, 751, 752, 753, 754, 755, 756, 757, 758, 759, 760, 761, 762, 763, 764, 765, 766, 767, 768, 769, 770, 771, 772, 773, 774, 775, 776, 777, 778, 779, 780, 781, 782, 783, 784, 785, 786, 787, 788, 789, 790, 791, 792, 793, 794, 795, 796, 797, 798, 799, 800, 801, 802, 803, 804, 805, 806, 807, 808, 809, 810, 811, 812, 813, 814, 815, 816, 817, 818, 819, 820, 821, 822, 823, 99, 100, 101, 824, 825, 826, 827, 88, 2, 89, 828, 829, 830, 831, 832, 103, 104, 105, 106, 833, 834, 835, 836, 837, 248, 249, 250, 181, 182, 233, 234, 838, 839, 840, 841, 842, 843, 844, 845, 846, 847, 252, 253, 254, 848, 849, 850, 851, 852, 1074, 1075, 1076, 1077, 1078, 1079, 1080, 1113, 1114, 1115, 1116, 1117, 1118, 1098, 1099, 1100, 1101, 1102, 1103, 1104, 1105, 1106, 1107, 1108, 1109, 1110, 1111, 1112] (by decide +kernel) (by decide +kernel)
set_option maxRecDepth 20000 in
theorem gL_law_X4_text : GoodIn wsL_law (wsV RL 157 RX4 yX4_text wsX4_text) := goodIn_app (goodIn_of _ (by decide +kernel)) ggL_law_X4_text
set_option maxRecDepth 20000 in
theorem ggL_law_X5_text : GoodIn wsL_law wsX5_text := goodIn_r _ [856, 67, 70, 857, 858, 859, 725, 404, 405, 5, 406, 860, 861, 862, 863, 864, 865, 866, 867, 71, 114, 115, 116, 868, 869, 870, 871, 872, 873, 874, 875, 876, 877, 878, 879, 880, 881, 882, 883, 770, 771, 772, 773, 774, 775, 776, 777, 778, 779, 780, 884, 782, 783, 784, 785, 786, 787, 788, 789, 790, 791, 792, 793, 794, 795, 796, 797, 798, 799, 800, 801, 802, 803, 804, 805, 806, 807, 808, 809, 810, 811, 812, 813, 814, 815, 816, 817, 885, 886, 887, 888, 889, 890, 891, 892, 893, 894, 895, 896, 897, 898, 899, 900, 125, 126, 127, 128, 901, 902, 903, 904, 905, 906, 907, 908, 909, 910, 911, 912, 913, 914, 915, 916, 1081, 1082, 1083, 1084, 1085, 1086, 1087, 1088, 1089, 1090, 1091, 1092, 1093, 1094, 1095, 1096, 1097] (by decide +kernel) (by decide +kernel)
set_option maxRecDepth 20000 in
theorem gL_law_X5_text : GoodIn wsL_law (wsV RL 160 RX5 yX5_text wsX5_text) := goodIn_app (goodIn_of _ (by decide +kernel)) ggL_law_X5_text
set_option maxRecDepth 20000 in
theorem ggL_law_X4_hold : GoodIn wsL_law wsX4_hold := goodIn_r _ [920, 15, 289, 82, 921, 93, 88, 2, 89, 94, 95, 96, 97, 26, 1074, 1075, 1076, 1077, 1078, 1079, 1080, 1098, 1099, 1100, 1101, 1102, 1103, 1104, 1105, 1106, 1107, 1108, 1109, 1110, 1111, 1112] (by decide +kernel) (by decide +kernel)
set_option maxRecDepth 20000 in
theorem gL_law_X4_hold : GoodIn wsL_law (wsV RL 161 RX4 yX4_hold wsX4_hold) := goodIn_app (goodIn_of _ (by decide +kernel)) ggL_law_X4_hold
set_option maxRecDepth 20000 in
theorem ggL_law_X5_hold : GoodIn wsL_law wsX5_hold := goodIn_r _ [925, 67, 114, 115, 5, 116, 120, 121, 122, 123, 72, 124, 1081, 1082, 1083, 1084, 1085, 1086, 1087, 1088, 1089, 1090, 1091, 1092, 1093, 1094, 1095, 1096, 1097] (by decide +kernel) (by decide +kernel)
set_option maxRecDepth 20000 in
theorem gL_law_X5_hold : GoodIn wsL_law (wsV RL 164 RX5 yX5_hold wsX5_hold) := goodIn_app (goodIn_of _ (by decide +kernel)) ggL_law_X5_hold
set_option maxRecDepth 20000 in
theorem ggL_law_X4_as : GoodIn wsL_law wsX4_as := goodIn_r _ [929, 82, 15, 921, 930, 133, 931, 93, 88, 2, 89, 84, 85, 86, 87, 94, 95, 96, 97, 26, 139, 140, 141, 14, 142, 41, 932, 933, 934, 935, 936, 1074, 1075, 1076, 1077, 1078, 1079, 1080, 1098, 1099, 1100, 1101, 1102, 1103, 1104, 1105, 1106, 1107, 1108, 1109, 1110, 1111, 1112] (by decide +kernel) (by decide +kernel)
set_option maxRecDepth 20000 in
theorem gL_law_X4_as : GoodIn wsL_law (wsV RL 165 RX4 yX4_as wsX4_as) := goodIn_app (goodIn_of _ (by decide +kernel)) ggL_law_X4_as
set_option maxRecDepth 20000 in
theorem ggL_law_X5_as : GoodIn wsL_law wsX5_as := goodIn_r _ [940, 67, 114, 115, 5, 116, 111, 112, 113, 120, 121, 122, 123, 72, 124, 941, 942, 943, 944, 945, 946, 1081, 1082, 1083, 1084, 1085, 1086, 1087, 1088, 1089, 1090, 1091, 1092, 1093, 1094, 1095, 1096, 1097] (by decide +kernel) (by decide +kernel)
set_option maxRecDepth 20000 in
theorem gL_law_X5_as : GoodIn wsL_law (wsV RL 168 RX5 yX5_as wsX5_as) := goodIn_app (goodIn_of _ (by decide +kernel)) ggL_law_X5_as
set_option maxRecDepth 20000 in
theorem ggL_law_X4_sheet : GoodIn wsL_law wsX4_sheet := goodIn_r _ [950, 82, 951, 24, 952, 953, 954, 2, 955, 93, 88, 89, 94, 95, 96, 97, 26, 956, 957, 958, 28, 959, 61, 62, 60, 1074, 1075, 1076, 1077, 1078, 1079, 1080, 1119, 1120, 1121] (by decide +kernel) (by decide +kernel)
set_option maxRecDepth 20000 in
theorem gL_law_X4_sheet : GoodIn wsL_law (wsV RL 169 RX4 yX4_sheet wsX4_sheet) := goodIn_app (goodIn_of _ (by decide +kernel)) ggL_law_X4_sheet
set_option maxRecDepth 20000 in
theorem ggL_law_X5_sheet : GoodIn wsL_law wsX5_sheet := goodIn_r _ [963, 74, 75, 76, 964, 965, 5, 966, 114, 115, 116, 120, 121, 122, 123, 72, 124, 1081, 1082, 1083, 1084, 1085, 1086, 1087, 1088, 1089, 1090, 1091, 1092, 1093, 1094, 1095, 1096, 1097] (by decide +kernel) (by decide +kernel)
set_option maxRecDepth 20000 in
theorem gL_law_X5_sheet : GoodIn wsL_law (wsV RL 172 RX5 yX5_sheet wsX5_sheet) := goodIn_app (goodIn_of _ (by decide +kernel)) ggL_law_X5_sheet
set_option maxRecDepth 20000 in
theorem ggL_law_X4_write : GoodIn wsL_law wsX4_write := goodIn_r _ [970, 24, 952, 82, 971, 972, 973, 974, 2, 975, 930, 953, 954, 955, 93, 88, 89, 976, 977, 978, 28, 979, 61, 94, 95, 96, 97, 26, 980, 981, 982, 983, 1074, 1075, 1076, 1077, 1078, 1079, 1080, 1119, 1120, 1121] (by decide +kernel) (by decide +kernel)
set_option maxRecDepth 20000 in
theorem gL_law_X4_write : GoodIn wsL_law (wsV RL 173 RX4 yX4_write wsX4_write) := goodIn_app (goodIn_of _ (by decide +kernel)) ggL_law_X4_write
set_option maxRecDepth 20000 in
theorem ggL_law_X5_write : GoodIn wsL_law wsX5_write := goodIn_r _ [987, 75, 76, 74, 988, 989, 990, 5, 991, 964, 965, 966, 114, 115, 116, 120, 121, 122, 123, 72, 124, 992, 993, 994, 1081, 1082, 1083, 1084, 1085, 1086, 1087, 1088, 1089, 1090, 1091, 1092, 1093, 1094, 1095, 1096, 1097] (by decide +kernel) (by decide +kernel)
set_option maxRecDepth 20000 in
theorem gL_law_X5_write : GoodIn wsL_law (wsV RL 176 RX5 yX5_write wsX5_write) := goodIn_app (goodIn_of _ (by decide +kernel)) ggL_law_X5_write
set_option maxRecDepth 20000 in
theorem ggL_law_X4_copy : GoodIn wsL_law wsX4_copy := goodIn_r _ [998, 82, 24, 930, 999, 931, 971, 1000, 397, 398, 399, 953, 954, 2, 955, 93, 88, 89, 94, 95, 96, 97, 26, 976, 977, 978, 28, 979, 61, 1001, 1002, 1003, 1004, 62, 1074, 1075, 1076, 1077, 1078, 1079, 1080, 1119, 1120, 1121] (by decide +kernel) (by decide +kernel)
set_option maxRecDepth 20000 in
theorem gL_law_X4_copy : GoodIn wsL_law (wsV RL 177 RX4 yX4_copy wsX4_copy) := goodIn_app (goodIn_of _ (by decide +kernel)) ggL_law_X4_copy
set_option maxRecDepth 20000 in
theorem ggL_law_X5_copy : GoodIn wsL_law wsX5_copy := goodIn_r _ [1008, 74, 75, 77, 76, 964, 965, 5, 966, 114, 115, 116, 120, 121, 122, 123, 72, 124, 1081, 1082, 1083, 1084, 1085, 1086, 1087, 1088, 1089, 1090, 1091, 1092, 1093, 1094, 1095, 1096, 1097] (by decide +kernel) (by decide +kernel)
set_option maxRecDepth 20000 in
theorem gL_law_X5_copy : GoodIn wsL_law (wsV RL 181 RX5 yX5_copy wsX5_copy) := goodIn_app (goodIn_of _ (by decide +kernel)) ggL_law_X5_copy
set_option maxRecDepth 20000 in
theorem ggL_law_X4_load : GoodIn wsL_law wsX4_load := goodIn_r _ [1012, 24, 952, 15, 289, 971, 135, 972, 973, 974, 2, 975, 82, 930, 953, 954, 955, 93, 88, 89, 976, 977, 978, 28, 979, 61, 94, 95, 96, 97, 26, 217, 218, 219, 1074, 1075, 1076, 1077, 1078, 1079, 1080, 1119, 1120, 1121, 1098, 1099, 1100, 1101, 1102, 1103, 1104, 1105, 1106, 1107, 1108, 1109, 1110, 1111, 1112] (by decide +kernel) (by decide +kernel)
set_option maxRecDepth 20000 in
theorem gL_law_X4_load : GoodIn wsL_law (wsV RL 182 RX4 yX4_load wsX4_load) := goodIn_app (goodIn_of _ (by decide +kernel)) ggL_law_X4_load
set_option maxRecDepth 20000 in
theorem ggL_law_X5_load : GoodIn wsL_law wsX5_load := goodIn_r _ [1016, 75, 67, 76, 988, 989, 990, 5, 991, 74, 964, 965, 966, 114, 115, 116, 120, 121, 122, 123, 72, 124, 1081, 1082, 1083, 1084, 1085, 1086, 1087, 1088, 1089, 1090, 1091, 1092, 1093, 1094, 1095, 1096, 1097] (by decide +kernel) (by decide +kernel)
set_option maxRecDepth 20000 in
theorem gL_law_X5_load : GoodIn wsL_law (wsV RL 185 RX5 yX5_load wsX5_load) := goodIn_app (goodIn_of _ (by decide +kernel)) ggL_law_X5_load
set_option maxRecDepth 20000 in
theorem ggL_law_X4_judge : GoodIn wsL_law wsX4_judge := goodIn_r _ [1020, 24, 15, 82, 952, 303, 16, 136, 971, 972, 973, 974, 2, 975, 930, 953, 954, 955, 93, 88, 89, 976, 977, 978, 28, 979, 61, 94, 95, 96, 97, 26, 139, 140, 141, 14, 142, 41, 304, 305, 306, 307, 138, 392, 393, 394, 395, 33, 396, 397, 398, 399, 34, 35, 36, 37, 38, 39, 40, 42, 43, 44, 45, 46, 308, 309, 310, 311, 312, 313, 314, 315, 47, 159, 160, 161, 162, 163, 164, 165, 166, 167, 168, 169, 147, 148, 316, 317, 318, 319, 320, 321, 322, 323, 324, 325, 326, 171, 86, 172, 327, 150, 151, 328, 153, 154, 181, 182, 329, 330, 331, 332, 1074, 1075, 1076, 1077, 1078, 1079, 1080, 1119, 1120, 1121, 1098, 1099, 1100, 1101, 1102, 1103, 1104, 1105, 1106, 1107, 1108, 1109, 1110, 1111, 1112] (by decide +kernel) (by decide +kernel)
set_option maxRecDepth 20000 in
theorem gL_law_X4_judge : GoodIn wsL_law (wsV RL 186 RX4 yX4_judge wsX4_judge) := goodIn_app (goodIn_of _ (by decide +kernel)) ggL_law_X4_judge
set_option maxRecDepth 20000 in
theorem ggL_law_X5_judge : GoodIn wsL_law wsX5_judge := goodIn_r _ [1024, 75, 67, 69, 76, 988, 989, 990, 5, 991, 74, 964, 965, 966, 114, 115, 116, 120, 121, 122, 123, 72, 124, 187, 188, 189, 190, 462, 463, 464, 465, 337, 338, 339, 340, 404, 405, 406, 341, 342, 343, 344, 73, 197, 198, 199, 200, 201, 202, 203, 163, 164, 165, 204, 205, 206, 191, 192, 193, 345, 346, 347, 348, 321, 322, 349, 324, 325, 194, 195, 196, 350, 351, 352, 1081, 1082, 1083, 1084, 1085, 1086, 1087, 1088, 1089, 1090, 1091, 1092, 1093, 1094, 1095, 1096, 1097] (by decide +kernel) (by decide +kernel)
set_option maxRecDepth 20000 in
theorem gL_law_X5_judge : GoodIn wsL_law (wsV RL 189 RX5 yX5_judge wsX5_judge) := goodIn_app (goodIn_of _ (by decide +kernel)) ggL_law_X5_judge
set_option maxRecDepth 20000 in
theorem ggL_law_X4_image : GoodIn wsL_law wsX4_image := goodIn_r _ [1028, 17, 15, 18, 392, 393, 394, 14, 395, 33, 396, 397, 398, 399, 34, 35, 36, 37, 38, 39, 40, 41, 42, 43, 44, 45, 46, 1074, 1075, 1076, 1077, 1078, 1079, 1080, 1098, 1099, 1100, 1101, 1102, 1103, 1104, 1105, 1106, 1107, 1108, 1109, 1110, 1111, 1112] (by decide +kernel) (by decide +kernel)
set_option maxRecDepth 20000 in
theorem gL_law_X4_image : GoodIn wsL_law (wsV RL 190 RX4 yX4_image wsX4_image) := goodIn_app (goodIn_of _ (by decide +kernel)) ggL_law_X4_image
set_option maxRecDepth 20000 in
theorem ggL_law_X5_image : GoodIn wsL_law wsX5_image := goodIn_r _ [1032, 67, 68, 1033, 404, 405, 5, 406, 1081, 1082, 1083, 1084, 1085, 1086, 1087, 1088, 1089, 1090, 1091, 1092, 1093, 1094, 1095, 1096, 1097] (by decide +kernel) (by decide +kernel)
set_option maxRecDepth 20000 in
theorem gL_law_X5_image : GoodIn wsL_law (wsV RL 193 RX5 yX5_image wsX5_image) := goodIn_app (goodIn_of _ (by decide +kernel)) ggL_law_X5_image
set_option maxRecDepth 20000 in
theorem ggL_law_X4_undo : GoodIn wsL_law wsX4_undo := goodIn_r _ [1037, 18, 415, 15, 17, 138, 94, 95, 96, 2, 97, 82, 26, 93, 88, 89, 392, 393, 394, 14, 395, 33, 396, 397, 398, 399, 34, 35, 36, 37, 38, 39, 40, 41, 42, 43, 44, 45, 46, 1074, 1075, 1076, 1077, 1078, 1079, 1080, 1098, 1099, 1100, 1101, 1102, 1103, 1104, 1105, 1106, 1107, 1108, 1109, 1110, 1111, 1112] (by decide +kernel) (by decide +kernel)
set_option maxRecDepth 20000 in
theorem gL_law_X4_undo : GoodIn wsL_law (wsV RL 194 RX4 yX4_undo wsX4_undo) := goodIn_app (goodIn_of _ (by decide +kernel)) ggL_law_X4_undo
set_option maxRecDepth 20000 in
theorem ggL_law_X5_undo : GoodIn wsL_law wsX5_undo := goodIn_r _ [1041, 1033, 68, 67, 120, 121, 122, 5, 123, 72, 124, 404, 405, 406, 1081, 1082, 1083, 1084, 1085, 1086, 1087, 1088, 1089, 1090, 1091, 1092, 1093, 1094, 1095, 1096, 1097] (by decide +kernel) (by decide +kernel)
set_option maxRecDepth 20000 in
theorem gL_law_X5_undo : GoodIn wsL_law (wsV RL 197 RX5 yX5_undo wsX5_undo) := goodIn_app (goodIn_of _ (by decide +kernel)) ggL_law_X5_undo
set_option maxRecDepth 20000 in
theorem ggL_law_X4_tear : GoodIn wsL_law wsX4_tear := goodIn_r _ [1045, 18, 1074, 1075, 1076, 1077, 1078, 1079, 1080] (by decide +kernel) (by decide +kernel)
set_option maxRecDepth 20000 in
theorem gL_law_X4_tear : GoodIn wsL_law (wsV RL 198 RX4 yX4_tear wsX4_tear) := goodIn_app (goodIn_of _ (by decide +kernel)) ggL_law_X4_tear
set_option maxRecDepth 20000 in
theorem ggL_law_X5_tear : GoodIn wsL_law wsX5_tear := goodIn_r _ [1049, 1033, 1081, 1082, 1083, 1084, 1085, 1086, 1087, 1088, 1089, 1090, 1091, 1092, 1093, 1094, 1095, 1096, 1097] (by decide +kernel) (by decide +kernel)
set_option maxRecDepth 20000 in
theorem gL_law_X5_tear : GoodIn wsL_law (wsV RL 201 RX5 yX5_tear wsX5_tear) := goodIn_app (goodIn_of _ (by decide +kernel)) ggL_law_X5_tear
set_option maxRecDepth 20000 in
theorem ggL_law_X4_count : GoodIn wsL_law wsX4_count := goodIn_r _ [1053, 15, 138, 289, 263, 244, 22, 716, 707, 82, 362, 363, 364, 14, 365, 38, 1054, 1055, 1056, 1057, 39, 94, 95, 96, 2, 97, 26, 93, 88, 89, 1074, 1075, 1076, 1077, 1078, 1079, 1080, 1098, 1099, 1100, 1101, 1102, 1103, 1104, 1105, 1106, 1107, 1108, 1109, 1110, 1111, 1112, 1113, 1114, 1115, 1116, 1117, 1118] (by decide +kernel) (by decide +kernel)
set_option maxRecDepth 20000 in
theorem gL_law_X4_count : GoodIn wsL_law (wsV RL 202 RX4 yX4_count wsX4_count) := goodIn_app (goodIn_of _ (by decide +kernel)) ggL_law_X4_count
set_option maxRecDepth 20000 in
theorem ggL_law_X5_count : GoodIn wsL_law wsX5_count := goodIn_r _ [1061, 67, 725, 576, 577, 578, 5, 579, 381, 382, 383, 1062, 1063, 1064, 1065, 120, 121, 122, 123, 72, 124, 1081, 1082, 1083, 1084, 1085, 1086, 1087, 1088, 1089, 1090, 1091, 1092, 1093, 1094, 1095, 1096, 1097] (by decide +kernel) (by decide +kernel)
set_option maxRecDepth 20000 in
theorem gL_law_X5_count : GoodIn wsL_law (wsV RL 205 RX5 yX5_count wsX5_count) := goodIn_app (goodIn_of _ (by decide +kernel)) ggL_law_X5_count
set_option maxRecDepth 20000 in
theorem ggL_law_X4_status : GoodIn wsL_law wsX4_status := goodIn_r _ [1069, 82, 26, 93, 88, 2, 89, 94, 95, 96, 97, 1074, 1075, 1076, 1077, 1078, 1079, 1080] (by decide +kernel) (by decide +kernel)
set_option maxRecDepth 20000 in
theorem gL_law_X4_status : GoodIn wsL_law (wsV RL 206 RX4 yX4_status wsX4_status) := goodIn_app (goodIn_of _ (by decide +kernel)) ggL_law_X4_status
set_option maxRecDepth 20000 in
theorem ggL_law_X5_status : GoodIn wsL_law wsX5_status := goodIn_r _ [1073, 72, 114, 115, 5, 116, 120, 121, 122, 123, 124, 1081, 1082, 1083, 1084, 1085, 1086, 1087, 1088, 1089, 1090, 1091, 1092, 1093, 1094, 1095, 1096, 1097] (by decide +kernel) (by decide +kernel)
set_option maxRecDepth 20000 in
theorem gL_law_X5_status : GoodIn wsL_law (wsV RL 209 RX5 yX5_status wsX5_status) := goodIn_app (goodIn_of _ (by decide +kernel)) ggL_law_X5_status
