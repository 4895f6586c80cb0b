set_option maxRecDepth 20000 in
theorem ggL_law_X11_sea : GoodIn wsL_law wsX11_sea := goodIn_r _ [541, 102, 542, 543, 544, 5, 545, 193, 194, 195, 196, 189, 190, 191, 192, 93, 197, 198, 199, 200, 201, 202, 203, 204, 205, 206, 207, 208, 209, 210, 211, 182, 183, 184, 212, 213, 214, 215, 179, 180, 181, 1061, 1062, 1063, 1064, 1065, 1066, 1067, 1068, 1069, 1070, 1071, 1072, 1073, 1074, 1075, 1076, 1077, 1078, 1079] (by decide +kernel) (by decide +kernel)
set_option maxRecDepth 20000 in
theorem gL_law_X11_sea : GoodIn wsL_law (wsV RL 43 RX11 yX11_sea wsX11_sea) := goodIn_app (goodIn_of _ (by decide +kernel)) ggL_law_X11_sea
set_option maxRecDepth 20000 in
theorem ggL_law_X10_stop : GoodIn wsL_law wsX10_stop := goodIn_r _ [549, 16, 550, 551, 1050, 1051, 1052, 1053, 1054, 1055, 1056, 1057, 1058, 1059, 1060, 1080, 1081, 1082, 1083, 1084, 1085, 1086] (by decide +kernel) (by decide +kernel)
set_option maxRecDepth 20000 in
theorem gL_law_X10_stop : GoodIn wsL_law (wsV RL 44 RX10 yX10_stop wsX10_stop) := goodIn_app (goodIn_of _ (by decide +kernel)) ggL_law_X10_stop
set_option maxRecDepth 20000 in
theorem ggL_law_X11_stop : GoodIn wsL_law wsX11_stop := goodIn_r _ [555, 93, 1061, 1062, 1063, 1064, 1065, 1066, 1067, 1068, 1069, 1070, 1071, 1072, 1073, 1074, 1075, 1076, 1077, 1078, 1079] (by decide +kernel) (by decide +kernel)
set_option maxRecDepth 20000 in
theorem gL_law_X11_stop : GoodIn wsL_law (wsV RL 47 RX11 yX11_stop wsX11_stop) := goodIn_app (goodIn_of _ (by decide +kernel)) ggL_law_X11_stop
set_option maxRecDepth 20000 in
theorem ggL_law_X10_route : GoodIn wsL_law wsX10_route := goodIn_r _ [559, 16, 550, 117, 118, 2, 119, 560, 561, 562, 563, 551, 36, 462, 463, 464, 465, 466, 35, 467, 77, 468, 469, 470, 471, 472, 473, 474, 475, 124, 125, 15, 126, 51, 476, 477, 478, 479, 78, 480, 481, 482, 483, 484, 485, 486, 487, 488, 138, 115, 139, 140, 141, 142, 489, 144, 145, 146, 147, 148, 149, 150, 151, 152, 153, 154, 155, 490, 491, 492, 493, 348, 349, 494, 380, 381, 382, 54, 383, 244, 245, 246, 495, 496, 497, 1050, 1051, 1052, 1053, 1054, 1055, 1056, 1057, 1058, 1059, 1060, 1080, 1081, 1082, 1083, 1084, 1085, 1086, 1098, 1099, 1100] (by decide +kernel) (by decide +kernel)
set_option maxRecDepth 20000 in
theorem gL_law_X10_route : GoodIn wsL_law (wsV RL 48 RX10 yX10_route wsX10_route) := goodIn_app (goodIn_of _ (by decide +kernel)) ggL_law_X10_route
set_option maxRecDepth 20000 in
theorem ggL_law_X11_route : GoodIn wsL_law wsX11_route := goodIn_r _ [567, 93, 568, 569, 570, 5, 571, 104, 365, 509, 510, 511, 512, 105, 189, 190, 191, 192, 197, 198, 199, 200, 201, 202, 203, 204, 205, 206, 207, 208, 209, 210, 211, 182, 183, 184, 513, 514, 515, 516, 410, 411, 412, 413, 296, 297, 298, 220, 221, 222, 299, 300, 301, 302, 303, 304, 305, 306, 307, 1061, 1062, 1063, 1064, 1065, 1066, 1067, 1068, 1069, 1070, 1071, 1072, 1073, 1074, 1075, 1076, 1077, 1078, 1079] (by decide +kernel) (by decide +kernel)
set_option maxRecDepth 20000 in
theorem gL_law_X11_route : GoodIn wsL_law (wsV RL 51 RX11 yX11_route wsX11_route) := goodIn_app (goodIn_of _ (by decide +kernel)) ggL_law_X11_route
set_option maxRecDepth 20000 in
theorem ggL_law_X10_rolled : GoodIn wsL_law wsX10_rolled := goodIn_r _ [575, 117, 118, 2, 119, 560, 561, 562, 563, 16, 550, 551, 36, 462, 463, 464, 465, 466, 35, 467, 77, 468, 469, 470, 471, 472, 473, 474, 475, 124, 125, 15, 126, 51, 476, 477, 478, 479, 78, 480, 481, 482, 483, 484, 485, 486, 487, 488, 138, 115, 139, 140, 141, 142, 489, 144, 145, 146, 147, 148, 149, 150, 151, 152, 153, 154, 155, 490, 491, 492, 493, 348, 349, 494, 380, 381, 382, 54, 383, 244, 245, 246, 495, 496, 497, 1050, 1051, 1052, 1053, 1054, 1055, 1056, 1057, 1058, 1059, 1060, 1080, 1081, 1082, 1083, 1084, 1085, 1086, 1098, 1099, 1100] (by decide +kernel) (by decide +kernel)
set_option maxRecDepth 20000 in
theorem gL_law_X10_rolled : GoodIn wsL_law (wsV RL 52 RX10 yX10_rolled wsX10_rolled) := goodIn_app (goodIn_of _ (by decide +kernel)) ggL_law_X10_rolled
set_option maxRecDepth 20000 in
theorem ggL_law_X11_rolled : GoodIn wsL_law wsX11_rolled := goodIn_r _ [579, 179, 180, 5, 181, 568, 569, 570, 571, 93, 104, 365, 509, 510, 511, 512, 105, 189, 190, 191, 192, 197, 198, 199, 200, 201, 202, 203, 204, 205, 206, 207, 208, 209, 210, 211, 182, 183, 184, 513, 514, 515, 516, 410, 411, 412, 413, 296, 297, 298, 220, 221, 222, 299, 300, 301, 302, 303, 304, 305, 306, 307, 1061, 1062, 1063, 1064, 1065, 1066, 1067, 1068, 1069, 1070, 1071, 1072, 1073, 1074, 1075, 1076, 1077, 1078, 1079] (by decide +kernel) (by decide +kernel)
set_option maxRecDepth 20000 in
theorem gL_law_X11_rolled : GoodIn wsL_law (wsV RL 55 RX11 yX11_rolled wsX11_rolled) := goodIn_app (goodIn_of _ (by decide +kernel)) ggL_law_X11_rolled
set_option maxRecDepth 20000 in
theorem ggL_law_X10_lost : GoodIn wsL_law wsX10_lost := goodIn_r _ [583, 584, 44, 16, 585, 586, 117, 118, 2, 119, 587, 588, 589, 43, 590, 591, 592, 593, 594, 595, 596, 597, 148, 598, 599, 600, 601, 602, 603, 604, 605, 165, 166, 15, 167, 55, 606, 124, 125, 126, 51, 607, 348, 115, 349, 608, 157, 158, 159, 160, 161, 162, 56, 609, 154, 155, 140, 141, 142, 610, 611, 612, 613, 614, 615, 616, 617, 618, 619, 620, 1050, 1051, 1052, 1053, 1054, 1055, 1056, 1057, 1058, 1059, 1060, 1104, 1105, 1106, 1107, 1108, 1080, 1081, 1082, 1083, 1084, 1085, 1086] (by decide +kernel) (by decide +kernel)
set_option maxRecDepth 20000 in
theorem gL_law_X10_lost : GoodIn wsL_law (wsV RL 56 RX10 yX10_lost wsX10_lost) := goodIn_app (goodIn_of _ (by decide +kernel)) ggL_law_X10_lost
set_option maxRecDepth 20000 in
theorem ggL_law_X11_lost : GoodIn wsL_law wsX11_lost := goodIn_r _ [624, 625, 93, 626, 179, 180, 5, 181, 627, 628, 629, 630, 631, 189, 190, 191, 192, 206, 207, 208, 216, 217, 218, 219, 220, 221, 222, 209, 210, 211, 200, 201, 202, 223, 224, 225, 226, 312, 313, 314, 315, 320, 321, 322, 323, 632, 633, 634, 635, 106, 636, 637, 638, 639, 640, 641, 642, 643, 644, 645, 646, 1061, 1062, 1063, 1064, 1065, 1066, 1067, 1068, 1069, 1070, 1071, 1072, 1073, 1074, 1075, 1076, 1077, 1078, 1079] (by decide +kernel) (by decide +kernel)
set_option maxRecDepth 20000 in
theorem gL_law_X11_lost : GoodIn wsL_law (wsV RL 60 RX11 yX11_lost wsX11_lost) := goodIn_app (goodIn_of _ (by decide +kernel)) ggL_law_X11_lost
set_option maxRecDepth 20000 in
theorem ggL_law_X10_count : GoodIn wsL_law wsX10_count := goodIn_r _ [650, 16, 235, 651, 336, 32, 525, 20, 652, 653, 654, 655, 15, 656, 51, 657, 658, 659, 660, 661, 662, 663, 127, 128, 129, 31, 130, 72, 131, 132, 124, 125, 126, 133, 134, 135, 136, 73, 137, 138, 115, 139, 140, 141, 142, 143, 144, 145, 146, 147, 148, 149, 150, 151, 152, 153, 154, 155, 664, 665, 666, 667, 668, 388, 348, 349, 389, 157, 158, 159, 160, 161, 162, 56, 1050, 1051, 1052, 1053, 1054, 1055, 1056, 1057, 1058, 1059, 1060, 1080, 1081, 1082, 1083, 1084, 1085, 1086, 1095, 1096, 1097, 1087, 1088, 1089] (by decide +kernel) (by decide +kernel)
set_option maxRecDepth 20000 in
theorem gL_law_X10_count : GoodIn wsL_law (wsV RL 61 RX10 yX10_count wsX10_count) := goodIn_app (goodIn_of _ (by decide +kernel)) ggL_law_X10_count
set_option maxRecDepth 20000 in
theorem ggL_law_X11_count : GoodIn wsL_law wsX11_count := goodIn_r _ [672, 93, 673, 674, 675, 676, 5, 677, 542, 543, 544, 545, 193, 194, 195, 196, 102, 189, 190, 191, 192, 197, 198, 199, 200, 201, 202, 203, 204, 205, 206, 207, 208, 209, 210, 211, 182, 183, 184, 212, 213, 214, 215, 678, 679, 680, 681, 216, 217, 218, 219, 220, 221, 222, 1061, 1062, 1063, 1064, 1065, 1066, 1067, 1068, 1069, 1070, 1071, 1072, 1073, 1074, 1075, 1076, 1077, 1078, 1079] (by decide +kernel) (by decide +kernel)
set_option maxRecDepth 20000 in
theorem gL_law_X11_count : GoodIn wsL_law (wsV RL 64 RX11 yX11_count wsX11_count) := goodIn_app (goodIn_of _ (by decide +kernel)) ggL_law_X11_count
set_option maxRecDepth 20000 in
theorem ggL_law_X10_land : GoodIn wsL_law wsX10_land := goodIn_r _ [685, 16, 20, 370, 371, 115, 372, 117, 118, 2, 119, 123, 124, 125, 15, 126, 51, 686, 687, 688, 19, 689, 63, 690, 691, 692, 693, 694, 695, 696, 697, 698, 699, 53, 700, 54, 55, 56, 57, 701, 702, 703, 704, 653, 654, 655, 656, 657, 658, 659, 660, 661, 662, 663, 1050, 1051, 1052, 1053, 1054, 1055, 1056, 1057, 1058, 1059, 1060, 1080, 1081, 1082, 1083, 1084, 1085, 1086, 1087, 1088, 1089] (by decide +kernel) (by decide +kernel)
set_option maxRecDepth 20000 in
theorem gL_law_X10_land : GoodIn wsL_law (wsV RL 65 RX10 yX10_land wsX10_land) := goodIn_app (goodIn_of _ (by decide +kernel)) ggL_law_X10_land
set_option maxRecDepth 20000 in
theorem ggL_law_X11_land : GoodIn wsL_law wsX11_land := goodIn_r _ [708, 93, 404, 405, 5, 406, 179, 180, 181, 709, 710, 711, 712, 673, 94, 713, 714, 715, 674, 675, 676, 677, 1061, 1062, 1063, 1064, 1065, 1066, 1067, 1068, 1069, 1070, 1071, 1072, 1073, 1074, 1075, 1076, 1077, 1078, 1079] (by decide +kernel) (by decide +kernel)
set_option maxRecDepth 20000 in
theorem gL_law_X11_land : GoodIn wsL_law (wsV RL 68 RX11 yX11_land wsX11_land) := goodIn_app (goodIn_of _ (by decide +kernel)) ggL_law_X11_land
set_option maxRecDepth 20000 in
theorem ggL_law_X10_tell : GoodIn wsL_law wsX10_tell := goodIn_r _ [719, 16, 235, 651, 336, 20, 720, 721, 2, 722, 117, 118, 119, 723, 724, 725, 726, 686, 687, 688, 19, 689, 63, 690, 691, 692, 693, 694, 15, 695, 51, 696, 697, 698, 699, 53, 700, 54, 55, 56, 57, 1050, 1051, 1052, 1053, 1054, 1055, 1056, 1057, 1058, 1059, 1060, 1080, 1081, 1082, 1083, 1084, 1085, 1086, 1087, 1088, 1089] (by decide +kernel) (by decide +kernel)
set_option maxRecDepth 20000 in
theorem gL_law_X10_tell : GoodIn wsL_law (wsV RL 69 RX10 yX10_tell wsX10_tell) := goodIn_app (goodIn_of _ (by decide +kernel)) ggL_law_X10_tell
set_option maxRecDepth 20000 in
theorem ggL_law_X11_tell : GoodIn wsL_law wsX11_tell := goodIn_r _ [730, 93, 731, 732, 5, 733, 179, 180, 181, 734, 735, 736, 737, 738, 739, 709, 710, 711, 712, 673, 94, 713, 714, 715, 1061, 1062, 1063, 1064, 1065, 1066, 1067, 1068, 1069, 1070, 1071, 1072, 1073, 1074, 1075, 1076, 1077, 1078, 1079] (by decide +kernel) (by decide +kernel)
set_option maxRecDepth 20000 in
theorem gL_law_X11_tell : GoodIn wsL_law (wsV RL 72 RX11 yX11_tell wsX11_tell) := goodIn_app (goodIn_of _ (by decide +kernel)) ggL_law_X11_tell
set_option maxRecDepth 20000 in
theorem ggL_law_X10_add : GoodIn wsL_law wsX10_add := goodIn_r _ [743, 16, 550, 20, 551, 370, 371, 115, 372, 686, 687, 688, 19, 689, 63, 690, 691, 692, 693, 694, 15, 695, 51, 696, 697, 698, 699, 53, 700, 54, 55, 56, 57, 1050, 1051, 1052, 1053, 1054, 1055, 1056, 1057, 1058, 1059, 1060, 1080, 1081, 1082, 1083, 1084, 1085, 1086, 1087, 1088, 1089] (by decide +kernel) (by decide +kernel)
set_option maxRecDepth 20000 in
theorem gL_law_X10_add : GoodIn wsL_law (wsV RL 73 RX10 yX10_add wsX10_add) := goodIn_app (goodIn_of _ (by decide +kernel)) ggL_law_X10_add
