set_option maxRecDepth 20000 in
theorem ggL_law_X10_image : GoodIn wsL_law wsX10_image := goodIn_r _ [920, 21, 16, 22, 20, 921, 922, 693, 694, 15, 695, 51, 696, 697, 698, 699, 53, 700, 54, 55, 56, 57, 923, 924, 925, 19, 926, 63, 690, 691, 692, 1050, 1051, 1052, 1053, 1054, 1055, 1056, 1057, 1058, 1059, 1060, 1080, 1081, 1082, 1083, 1084, 1085, 1086, 1087, 1088, 1089] (by decide +kernel) (by decide +kernel)
set_option maxRecDepth 20000 in
theorem gL_law_X10_image : GoodIn wsL_law (wsV RL 106 RX10 yX10_image wsX10_image) := goodIn_app (goodIn_of _ (by decide +kernel)) ggL_law_X10_image
set_option maxRecDepth 20000 in
theorem ggL_law_X11_image : GoodIn wsL_law wsX11_image := goodIn_r _ [930, 93, 95, 94, 96, 673, 97, 713, 714, 5, 715, 1061, 1062, 1063, 1064, 1065, 1066, 1067, 1068, 1069, 1070, 1071, 1072, 1073, 1074, 1075, 1076, 1077, 1078, 1079] (by decide +kernel) (by decide +kernel)
set_option maxRecDepth 20000 in
theorem gL_law_X11_image : GoodIn wsL_law (wsV RL 109 RX11 yX11_image wsX11_image) := goodIn_app (goodIn_of _ (by decide +kernel)) ggL_law_X11_image
set_option maxRecDepth 20000 in
theorem ggL_law_X10_restore : GoodIn wsL_law wsX10_restore := goodIn_r _ [934, 921, 16, 21, 20, 22, 922, 693, 694, 15, 695, 51, 696, 697, 698, 699, 53, 700, 54, 55, 56, 57, 923, 924, 925, 19, 926, 63, 690, 691, 692, 1050, 1051, 1052, 1053, 1054, 1055, 1056, 1057, 1058, 1059, 1060, 1080, 1081, 1082, 1083, 1084, 1085, 1086, 1087, 1088, 1089] (by decide +kernel) (by decide +kernel)
set_option maxRecDepth 20000 in
theorem gL_law_X10_restore : GoodIn wsL_law (wsV RL 110 RX10 yX10_restore wsX10_restore) := goodIn_app (goodIn_of _ (by decide +kernel)) ggL_law_X10_restore
set_option maxRecDepth 20000 in
theorem ggL_law_X11_restore : GoodIn wsL_law wsX11_restore := goodIn_r _ [938, 97, 95, 93, 96, 94, 673, 713, 714, 5, 715, 1061, 1062, 1063, 1064, 1065, 1066, 1067, 1068, 1069, 1070, 1071, 1072, 1073, 1074, 1075, 1076, 1077, 1078, 1079] (by decide +kernel) (by decide +kernel)
set_option maxRecDepth 20000 in
theorem gL_law_X11_restore : GoodIn wsL_law (wsV RL 113 RX11 yX11_restore wsX11_restore) := goodIn_app (goodIn_of _ (by decide +kernel)) ggL_law_X11_restore
set_option maxRecDepth 20000 in
theorem ggL_law_X10_seen : GoodIn wsL_law wsX10_seen := goodIn_r _ [942, 28, 726, 16, 235, 943, 944, 2, 945, 117, 118, 119, 946, 947, 948, 46, 949, 950, 951, 952, 953, 954, 955, 956, 957, 958, 959, 960, 88, 961, 962, 963, 964, 965, 966, 967, 968, 121, 115, 122, 969, 154, 155, 140, 141, 142, 970, 237, 238, 239, 240, 241, 242, 243, 244, 245, 246, 1050, 1051, 1052, 1053, 1054, 1055, 1056, 1057, 1058, 1059, 1060, 1080, 1081, 1082, 1083, 1084, 1085, 1086, 1109, 1110, 1111, 1112] (by decide +kernel) (by decide +kernel)
set_option maxRecDepth 20000 in
theorem gL_law_X10_seen : GoodIn wsL_law (wsV RL 114 RX10 yX10_seen wsX10_seen) := goodIn_app (goodIn_of _ (by decide +kernel)) ggL_law_X10_seen
set_option maxRecDepth 20000 in
theorem ggL_law_X11_seen : GoodIn wsL_law wsX11_seen := goodIn_r _ [974, 101, 975, 976, 977, 978, 979, 5, 980, 179, 180, 181, 981, 982, 983, 984, 99, 100, 737, 738, 739, 985, 986, 987, 988, 989, 990, 991, 992, 220, 221, 222, 292, 293, 294, 295, 93, 296, 297, 298, 299, 300, 301, 302, 303, 304, 305, 306, 307, 1061, 1062, 1063, 1064, 1065, 1066, 1067, 1068, 1069, 1070, 1071, 1072, 1073, 1074, 1075, 1076, 1077, 1078, 1079] (by decide +kernel) (by decide +kernel)
set_option maxRecDepth 20000 in
theorem gL_law_X11_seen : GoodIn wsL_law (wsV RL 118 RX11 yX11_seen wsX11_seen) := goodIn_app (goodIn_of _ (by decide +kernel)) ggL_law_X11_seen
set_option maxRecDepth 20000 in
theorem ggL_law_X10_film : GoodIn wsL_law wsX10_film := goodIn_r _ [996, 16, 28, 235, 113, 114, 115, 116, 943, 944, 2, 945, 117, 118, 119, 156, 157, 158, 15, 159, 160, 161, 148, 162, 56, 946, 947, 948, 46, 949, 950, 951, 952, 953, 954, 955, 956, 120, 121, 122, 163, 154, 155, 140, 141, 142, 164, 165, 166, 167, 55, 236, 237, 238, 239, 240, 241, 242, 243, 244, 245, 246, 997, 998, 999, 1000, 88, 1050, 1051, 1052, 1053, 1054, 1055, 1056, 1057, 1058, 1059, 1060, 1080, 1081, 1082, 1083, 1084, 1085, 1086, 1109, 1110, 1111, 1112] (by decide +kernel) (by decide +kernel)
set_option maxRecDepth 20000 in
theorem gL_law_X10_film : GoodIn wsL_law (wsV RL 119 RX10 yX10_film wsX10_film) := goodIn_app (goodIn_of _ (by decide +kernel)) ggL_law_X10_film
set_option maxRecDepth 20000 in
theorem ggL_law_X11_film : GoodIn wsL_law wsX11_film := goodIn_r _ [1004, 101, 179, 180, 5, 181, 978, 979, 980, 216, 217, 218, 219, 93, 220, 221, 222, 981, 982, 983, 984, 99, 100, 182, 183, 184, 284, 285, 286, 287, 209, 210, 211, 200, 201, 202, 223, 224, 225, 226, 206, 207, 208, 288, 289, 290, 291, 292, 293, 294, 295, 296, 297, 298, 299, 300, 301, 302, 303, 304, 305, 306, 307, 1005, 1006, 1007, 1061, 1062, 1063, 1064, 1065, 1066, 1067, 1068, 1069, 1070, 1071, 1072, 1073, 1074, 1075, 1076, 1077, 1078, 1079] (by decide +kernel) (by decide +kernel)
set_option maxRecDepth 20000 in
theorem gL_law_X11_film : GoodIn wsL_law (wsV RL 122 RX11 yX11_film wsX11_film) := goodIn_app (goodIn_of _ (by decide +kernel)) ggL_law_X11_film
set_option maxRecDepth 20000 in
theorem ggL_law_X10_sheet : GoodIn wsL_law wsX10_sheet := goodIn_r _ [1011, 28, 943, 944, 2, 945, 117, 118, 119, 1012, 1013, 1014, 46, 1015, 88, 950, 951, 956, 1016, 800, 473, 801, 1050, 1051, 1052, 1053, 1054, 1055, 1056, 1057, 1058, 1059, 1060, 1109, 1110, 1111, 1112] (by decide +kernel) (by decide +kernel)
set_option maxRecDepth 20000 in
theorem gL_law_X10_sheet : GoodIn wsL_law (wsV RL 123 RX10 yX10_sheet wsX10_sheet) := goodIn_app (goodIn_of _ (by decide +kernel)) ggL_law_X10_sheet
set_option maxRecDepth 20000 in
theorem ggL_law_X11_sheet : GoodIn wsL_law wsX11_sheet := goodIn_r _ [1020, 99, 100, 101, 978, 979, 5, 980, 179, 180, 181, 1061, 1062, 1063, 1064, 1065, 1066, 1067, 1068, 1069, 1070, 1071, 1072, 1073, 1074, 1075, 1076, 1077, 1078, 1079] (by decide +kernel) (by decide +kernel)
set_option maxRecDepth 20000 in
theorem gL_law_X11_sheet : GoodIn wsL_law (wsV RL 126 RX11 yX11_sheet wsX11_sheet) := goodIn_app (goodIn_of _ (by decide +kernel)) ggL_law_X11_sheet
set_option maxRecDepth 20000 in
theorem ggL_law_X10_drop : GoodIn wsL_law wsX10_drop := goodIn_r _ [1024, 28, 1025, 1026, 117, 118, 2, 119, 1050, 1051, 1052, 1053, 1054, 1055, 1056, 1057, 1058, 1059, 1060, 1109, 1110, 1111, 1112] (by decide +kernel) (by decide +kernel)
set_option maxRecDepth 20000 in
theorem gL_law_X10_drop : GoodIn wsL_law (wsV RL 127 RX10 yX10_drop wsX10_drop) := goodIn_app (goodIn_of _ (by decide +kernel)) ggL_law_X10_drop
set_option maxRecDepth 20000 in
theorem ggL_law_X11_drop : GoodIn wsL_law wsX11_drop := goodIn_r _ [1030, 99, 100, 179, 180, 5, 181, 1061, 1062, 1063, 1064, 1065, 1066, 1067, 1068, 1069, 1070, 1071, 1072, 1073, 1074, 1075, 1076, 1077, 1078, 1079] (by decide +kernel) (by decide +kernel)
set_option maxRecDepth 20000 in
theorem gL_law_X11_drop : GoodIn wsL_law (wsV RL 130 RX11 yX11_drop wsX11_drop) := goodIn_app (goodIn_of _ (by decide +kernel)) ggL_law_X11_drop
set_option maxRecDepth 20000 in
theorem ggL_law_X10_item : GoodIn wsL_law wsX10_item := goodIn_r _ [1034, 28, 943, 944, 2, 945, 117, 118, 119, 946, 947, 948, 46, 949, 950, 951, 952, 953, 954, 955, 956, 997, 998, 999, 1000, 88, 1050, 1051, 1052, 1053, 1054, 1055, 1056, 1057, 1058, 1059, 1060, 1109, 1110, 1111, 1112] (by decide +kernel) (by decide +kernel)
set_option maxRecDepth 20000 in
theorem gL_law_X10_item : GoodIn wsL_law (wsV RL 133 RX10 yX10_item wsX10_item) := goodIn_app (goodIn_of _ (by decide +kernel)) ggL_law_X10_item
set_option maxRecDepth 20000 in
theorem ggL_law_X11_item : GoodIn wsL_law wsX11_item := goodIn_r _ [1038, 101, 978, 979, 5, 980, 179, 180, 181, 981, 982, 983, 984, 99, 100, 1005, 1006, 1007, 1061, 1062, 1063, 1064, 1065, 1066, 1067, 1068, 1069, 1070, 1071, 1072, 1073, 1074, 1075, 1076, 1077, 1078, 1079] (by decide +kernel) (by decide +kernel)
set_option maxRecDepth 20000 in
theorem gL_law_X11_item : GoodIn wsL_law (wsV RL 137 RX11 yX11_item wsX11_item) := goodIn_app (goodIn_of _ (by decide +kernel)) ggL_law_X11_item
set_option maxRecDepth 20000 in
theorem ggL_law_X10_copy : GoodIn wsL_law wsX10_copy := goodIn_r _ [1042, 28, 1025, 1043, 1044, 793, 697, 698, 699, 117, 118, 2, 119, 1045, 953, 954, 46, 955, 956, 1050, 1051, 1052, 1053, 1054, 1055, 1056, 1057, 1058, 1059, 1060, 1109, 1110, 1111, 1112] (by decide +kernel) (by decide +kernel)
set_option maxRecDepth 20000 in
theorem gL_law_X10_copy : GoodIn wsL_law (wsV RL 138 RX10 yX10_copy wsX10_copy) := goodIn_app (goodIn_of _ (by decide +kernel)) ggL_law_X10_copy
set_option maxRecDepth 20000 in
theorem ggL_law_X11_copy : GoodIn wsL_law wsX11_copy := goodIn_r _ [1049, 99, 100, 101, 179, 180, 5, 181, 1061, 1062, 1063, 1064, 1065, 1066, 1067, 1068, 1069, 1070, 1071, 1072, 1073, 1074, 1075, 1076, 1077, 1078, 1079] (by decide +kernel) (by decide +kernel)
set_option maxRecDepth 20000 in
theorem gL_law_X11_copy : GoodIn wsL_law (wsV RL 142 RX11 yX11_copy wsX11_copy) := goodIn_app (goodIn_of _ (by decide +kernel)) ggL_law_X11_copy
