set_option maxRecDepth 20000 in
theorem ggL_law_X10_init : GoodIn wsL_law wsX10_init := goodIn_r _ [9, 10, 11, 12, 13, 14, 15, 16, 17, 18, 19, 20, 21, 22, 23, 24, 25, 26, 27, 28, 29, 30, 31, 32, 33, 34, 35, 36, 37, 38, 39, 40, 41, 42, 43, 44, 45, 46, 47, 48, 49, 50, 51, 52, 53, 54, 55, 56, 57, 58, 59, 60, 61, 62, 63, 64, 65, 66, 67, 68, 69, 70, 71, 72, 73, 74, 75, 76, 77, 78, 79, 80, 81, 82, 83, 84, 85, 86, 87, 88, 1080, 1081, 1082, 1083, 1084, 1085, 1086, 1050, 1051, 1052, 1053, 1054, 1055, 1056, 1057, 1058, 1059, 1060, 1087, 1088, 1089, 1090, 1091, 1092, 1093, 1094, 1095, 1096, 1097, 1098, 1099, 1100, 1101, 1102, 1103, 1104, 1105, 1106, 1107, 1108, 1109, 1110, 1111, 1112] (by decide +kernel) (by decide +kernel)
set_option maxRecDepth 20000 in
theorem gL_law_X10_init : GoodIn wsL_law (wsX10_init) := ggL_law_X10_init
set_option maxRecDepth 20000 in
theorem ggL_law_X11_init : GoodIn wsL_law wsX11_init := goodIn_r _ [91, 92, 11, 12, 52, 93, 94, 95, 96, 97, 98, 99, 100, 50, 101, 102, 103, 104, 105, 106, 107, 1061, 1062, 1063, 1064, 1065, 1066, 1067, 1068, 1069, 1070, 1071, 1072, 1073, 1074, 1075, 1076, 1077, 1078, 1079] (by decide +kernel) (by decide +kernel)
set_option maxRecDepth 20000 in
theorem gL_law_X11_init : GoodIn wsL_law (wsX11_init) := ggL_law_X11_init
set_option maxRecDepth 20000 in
theorem ggL_law_X10_place : GoodIn wsL_law wsX10_place := goodIn_r _ [111, 16, 32, 112, 113, 114, 115, 116, 117, 118, 2, 119, 120, 121, 122, 123, 124, 125, 15, 126, 51, 127, 128, 129, 31, 130, 72, 131, 132, 133, 134, 135, 136, 73, 137, 138, 139, 140, 141, 142, 143, 144, 145, 146, 147, 148, 149, 150, 151, 152, 153, 154, 155, 156, 157, 158, 159, 160, 161, 162, 56, 163, 164, 165, 166, 167, 55, 168, 169, 170, 171, 1050, 1051, 1052, 1053, 1054, 1055, 1056, 1057, 1058, 1059, 1060, 1095, 1096, 1097, 1080, 1081, 1082, 1083, 1084, 1085, 1086] (by decide +kernel) (by decide +kernel)
set_option maxRecDepth 20000 in
theorem gL_law_X10_place : GoodIn wsL_law (wsV RL 13 RX10 yX10_place wsX10_place) := goodIn_app (goodIn_of _ (by decide +kernel)) ggL_law_X10_place
set_option maxRecDepth 20000 in
theorem ggL_law_X11_place : GoodIn wsL_law wsX11_place := goodIn_r _ [175, 93, 176, 177, 5, 178, 179, 180, 181, 182, 183, 184, 185, 186, 187, 188, 102, 189, 190, 191, 192, 193, 194, 195, 196, 197, 198, 199, 200, 201, 202, 203, 204, 205, 206, 207, 208, 209, 210, 211, 212, 213, 214, 215, 216, 217, 218, 219, 220, 221, 222, 223, 224, 225, 226, 227, 228, 229, 230, 1061, 1062, 1063, 1064, 1065, 1066, 1067, 1068, 1069, 1070, 1071, 1072, 1073, 1074, 1075, 1076, 1077, 1078, 1079] (by decide +kernel) (by decide +kernel)
set_option maxRecDepth 20000 in
theorem gL_law_X11_place : GoodIn wsL_law (wsV RL 17 RX11 yX11_place wsX11_place) := goodIn_app (goodIn_of _ (by decide +kernel)) ggL_law_X11_place
set_option maxRecDepth 20000 in
theorem ggL_law_X10_flat : GoodIn wsL_law wsX10_flat := goodIn_r _ [234, 16, 235, 113, 114, 115, 116, 117, 118, 2, 119, 120, 121, 122, 163, 154, 155, 140, 141, 142, 156, 157, 158, 15, 159, 160, 161, 148, 162, 56, 168, 169, 170, 171, 164, 165, 166, 167, 55, 236, 237, 238, 239, 240, 241, 242, 243, 244, 245, 246, 247, 248, 249, 250, 251, 252, 253, 254, 255, 256, 257, 258, 259, 260, 261, 262, 263, 264, 265, 266, 267, 268, 269, 270, 271, 272, 273, 274, 275, 1050, 1051, 1052, 1053, 1054, 1055, 1056, 1057, 1058, 1059, 1060, 1080, 1081, 1082, 1083, 1084, 1085, 1086] (by decide +kernel) (by decide +kernel)
set_option maxRecDepth 20000 in
theorem gL_law_X10_flat : GoodIn wsL_law (wsV RL 18 RX10 yX10_flat wsX10_flat) := goodIn_app (goodIn_of _ (by decide +kernel)) ggL_law_X10_flat
set_option maxRecDepth 20000 in
theorem ggL_law_X11_flat : GoodIn wsL_law wsX11_flat := goodIn_r _ [279, 176, 177, 5, 178, 179, 180, 181, 216, 217, 218, 219, 93, 220, 221, 222, 227, 228, 229, 230, 182, 183, 184, 280, 281, 282, 283, 284, 285, 286, 287, 209, 210, 211, 200, 201, 202, 223, 224, 225, 226, 206, 207, 208, 288, 289, 290, 291, 292, 293, 294, 295, 296, 297, 298, 299, 300, 301, 302, 303, 304, 305, 306, 307, 308, 309, 310, 311, 312, 313, 314, 315, 316, 317, 318, 319, 320, 321, 322, 323, 324, 325, 326, 327, 328, 329, 330, 331, 1061, 1062, 1063, 1064, 1065, 1066, 1067, 1068, 1069, 1070, 1071, 1072, 1073, 1074, 1075, 1076, 1077, 1078, 1079] (by decide +kernel) (by decide +kernel)
set_option maxRecDepth 20000 in
theorem gL_law_X11_flat : GoodIn wsL_law (wsV RL 21 RX11 yX11_flat wsX11_flat) := goodIn_app (goodIn_of _ (by decide +kernel)) ggL_law_X11_flat
set_option maxRecDepth 20000 in
theorem ggL_law_X10_back : GoodIn wsL_law wsX10_back := goodIn_r _ [335, 16, 235, 336, 117, 118, 2, 119, 337, 338, 238, 339, 254, 253, 340, 151, 148, 152, 262, 161, 162, 255, 165, 166, 15, 167, 55, 341, 157, 158, 159, 160, 56, 243, 244, 115, 245, 246, 240, 241, 242, 342, 121, 122, 343, 344, 345, 269, 346, 347, 348, 349, 350, 154, 155, 140, 141, 142, 351, 257, 258, 259, 260, 261, 263, 264, 265, 266, 267, 268, 352, 271, 272, 273, 274, 275, 1050, 1051, 1052, 1053, 1054, 1055, 1056, 1057, 1058, 1059, 1060, 1080, 1081, 1082, 1083, 1084, 1085, 1086] (by decide +kernel) (by decide +kernel)
set_option maxRecDepth 20000 in
theorem gL_law_X10_back : GoodIn wsL_law (wsV RL 22 RX10 yX10_back wsX10_back) := goodIn_app (goodIn_of _ (by decide +kernel)) ggL_law_X10_back
set_option maxRecDepth 20000 in
theorem ggL_law_X11_back : GoodIn wsL_law wsX11_back := goodIn_r _ [356, 93, 179, 180, 5, 181, 357, 358, 359, 360, 223, 224, 225, 226, 216, 217, 218, 219, 220, 221, 222, 296, 297, 298, 299, 300, 301, 302, 303, 304, 305, 306, 307, 288, 289, 290, 291, 292, 293, 294, 295, 182, 183, 184, 361, 362, 363, 364, 365, 206, 207, 208, 227, 228, 229, 230, 324, 325, 326, 327, 209, 210, 211, 200, 201, 202, 328, 329, 330, 331, 1061, 1062, 1063, 1064, 1065, 1066, 1067, 1068, 1069, 1070, 1071, 1072, 1073, 1074, 1075, 1076, 1077, 1078, 1079] (by decide +kernel) (by decide +kernel)
set_option maxRecDepth 20000 in
theorem gL_law_X11_back : GoodIn wsL_law (wsV RL 25 RX11 yX11_back wsX11_back) := goodIn_app (goodIn_of _ (by decide +kernel)) ggL_law_X11_back
set_option maxRecDepth 20000 in
theorem ggL_law_X10_pair : GoodIn wsL_law wsX10_pair := goodIn_r _ [369, 16, 370, 371, 115, 372, 117, 118, 2, 119, 373, 374, 375, 376, 138, 139, 140, 141, 142, 377, 144, 145, 146, 147, 148, 149, 150, 151, 152, 153, 154, 155, 378, 348, 349, 379, 380, 381, 15, 382, 54, 383, 244, 245, 246, 384, 385, 386, 387, 388, 389, 157, 158, 159, 160, 161, 162, 56, 390, 391, 238, 392, 254, 262, 255, 165, 166, 167, 55, 347, 350, 393, 394, 395, 240, 241, 242, 243, 396, 397, 398, 399, 1050, 1051, 1052, 1053, 1054, 1055, 1056, 1057, 1058, 1059, 1060, 1080, 1081, 1082, 1083, 1084, 1085, 1086] (by decide +kernel) (by decide +kernel)
set_option maxRecDepth 20000 in
theorem gL_law_X10_pair : GoodIn wsL_law (wsV RL 26 RX10 yX10_pair wsX10_pair) := goodIn_app (goodIn_of _ (by decide +kernel)) ggL_law_X10_pair
set_option maxRecDepth 20000 in
theorem ggL_law_X11_pair : GoodIn wsL_law wsX11_pair := goodIn_r _ [403, 404, 405, 5, 406, 179, 180, 181, 407, 408, 409, 197, 198, 199, 200, 201, 202, 203, 204, 205, 206, 207, 208, 209, 210, 211, 182, 183, 184, 410, 411, 412, 413, 93, 296, 297, 298, 220, 221, 222, 299, 300, 301, 302, 303, 304, 305, 306, 307, 414, 415, 416, 417, 216, 217, 218, 219, 418, 419, 420, 421, 223, 224, 225, 226, 288, 289, 290, 291, 292, 293, 294, 295, 422, 423, 424, 1061, 1062, 1063, 1064, 1065, 1066, 1067, 1068, 1069, 1070, 1071, 1072, 1073, 1074, 1075, 1076, 1077, 1078, 1079] (by decide +kernel) (by decide +kernel)
set_option maxRecDepth 20000 in
theorem gL_law_X11_pair : GoodIn wsL_law (wsV RL 29 RX11 yX11_pair wsX11_pair) := goodIn_app (goodIn_of _ (by decide +kernel)) ggL_law_X11_pair
set_option maxRecDepth 20000 in
theorem ggL_law_X10_worst : GoodIn wsL_law wsX10_worst := goodIn_r _ [428, 40, 16, 429, 430, 431, 117, 118, 2, 119, 432, 433, 434, 39, 435, 436, 437, 138, 115, 139, 140, 141, 142, 438, 144, 145, 146, 147, 148, 149, 150, 151, 152, 153, 154, 155, 439, 385, 386, 15, 387, 388, 348, 349, 389, 157, 158, 159, 160, 161, 162, 56, 440, 441, 442, 443, 444, 445, 446, 447, 448, 380, 381, 382, 54, 383, 244, 245, 246, 449, 391, 238, 392, 254, 262, 255, 165, 166, 167, 55, 347, 350, 393, 394, 395, 240, 241, 242, 243, 396, 397, 398, 399, 1050, 1051, 1052, 1053, 1054, 1055, 1056, 1057, 1058, 1059, 1060, 1101, 1102, 1103, 1080, 1081, 1082, 1083, 1084, 1085, 1086] (by decide +kernel) (by decide +kernel)
set_option maxRecDepth 20000 in
theorem gL_law_X10_worst : GoodIn wsL_law (wsV RL 30 RX10 yX10_worst wsX10_worst) := goodIn_app (goodIn_of _ (by decide +kernel)) ggL_law_X10_worst
set_option maxRecDepth 20000 in
theorem ggL_law_X11_worst : GoodIn wsL_law wsX11_worst := goodIn_r _ [453, 103, 179, 180, 5, 181, 454, 455, 456, 457, 414, 415, 416, 417, 206, 207, 208, 216, 217, 218, 219, 93, 220, 221, 222, 407, 408, 409, 197, 198, 199, 200, 201, 202, 203, 204, 205, 209, 210, 211, 182, 183, 184, 418, 419, 420, 421, 223, 224, 225, 226, 288, 289, 290, 291, 292, 293, 294, 295, 296, 297, 298, 299, 300, 301, 302, 303, 304, 305, 306, 307, 422, 423, 424, 410, 411, 412, 413, 1061, 1062, 1063, 1064, 1065, 1066, 1067, 1068, 1069, 1070, 1071, 1072, 1073, 1074, 1075, 1076, 1077, 1078, 1079] (by decide +kernel) (by decide +kernel)
set_option maxRecDepth 20000 in
theorem gL_law_X11_worst : GoodIn wsL_law (wsV RL 34 RX11 yX11_worst wsX11_worst) := goodIn_app (goodIn_of _ (by decide +kernel)) ggL_law_X11_worst
set_option maxRecDepth 20000 in
theorem ggL_law_X10_way : GoodIn wsL_law wsX10_way := goodIn_r _ [461, 36, 16, 462, 463, 370, 371, 115, 372, 117, 118, 2, 119, 464, 465, 466, 35, 467, 77, 468, 469, 470, 471, 472, 473, 474, 475, 124, 125, 15, 126, 51, 476, 477, 478, 479, 78, 480, 481, 482, 483, 484, 485, 486, 487, 488, 138, 139, 140, 141, 142, 489, 144, 145, 146, 147, 148, 149, 150, 151, 152, 153, 154, 155, 490, 491, 492, 493, 348, 349, 494, 380, 381, 382, 54, 383, 244, 245, 246, 495, 496, 497, 498, 499, 500, 501, 502, 503, 504, 1050, 1051, 1052, 1053, 1054, 1055, 1056, 1057, 1058, 1059, 1060, 1098, 1099, 1100, 1080, 1081, 1082, 1083, 1084, 1085, 1086] (by decide +kernel) (by decide +kernel)
set_option maxRecDepth 20000 in
theorem gL_law_X10_way : GoodIn wsL_law (wsV RL 35 RX10 yX10_way wsX10_way) := goodIn_app (goodIn_of _ (by decide +kernel)) ggL_law_X10_way
set_option maxRecDepth 20000 in
theorem ggL_law_X11_way : GoodIn wsL_law wsX11_way := goodIn_r _ [508, 104, 365, 105, 404, 405, 5, 406, 179, 180, 181, 509, 510, 511, 512, 189, 190, 191, 192, 93, 197, 198, 199, 200, 201, 202, 203, 204, 205, 206, 207, 208, 209, 210, 211, 182, 183, 184, 513, 514, 515, 516, 410, 411, 412, 413, 296, 297, 298, 220, 221, 222, 299, 300, 301, 302, 303, 304, 305, 306, 307, 517, 518, 519, 520, 1061, 1062, 1063, 1064, 1065, 1066, 1067, 1068, 1069, 1070, 1071, 1072, 1073, 1074, 1075, 1076, 1077, 1078, 1079] (by decide +kernel) (by decide +kernel)
set_option maxRecDepth 20000 in
theorem gL_law_X11_way : GoodIn wsL_law (wsV RL 38 RX11 yX11_way wsX11_way) := goodIn_app (goodIn_of _ (by decide +kernel)) ggL_law_X11_way
set_option maxRecDepth 20000 in
theorem ggL_law_X10_sea : GoodIn wsL_law wsX10_sea := goodIn_r _ [524, 32, 16, 525, 127, 128, 129, 31, 130, 72, 131, 132, 124, 125, 15, 126, 51, 133, 134, 135, 136, 73, 137, 138, 115, 139, 140, 141, 142, 143, 144, 145, 146, 147, 148, 149, 150, 151, 152, 153, 154, 155, 117, 118, 2, 119, 526, 527, 528, 529, 530, 531, 532, 533, 534, 535, 536, 537, 1050, 1051, 1052, 1053, 1054, 1055, 1056, 1057, 1058, 1059, 1060, 1095, 1096, 1097, 1080, 1081, 1082, 1083, 1084, 1085, 1086] (by decide +kernel) (by decide +kernel)
set_option maxRecDepth 20000 in
theorem gL_law_X10_sea : GoodIn wsL_law (wsV RL 39 RX10 yX10_sea wsX10_sea) := goodIn_app (goodIn_of _ (by decide +kernel)) ggL_law_X10_sea
