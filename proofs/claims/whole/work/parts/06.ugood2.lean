set_option maxRecDepth 20000 in
theorem ggX11_init_X9_init : GoodIn wsX11_init wsX9_init := goodIn_r _ [36, 37, 2, 3, 38, 39, 137, 138, 139, 140, 141, 142] (by decide +kernel) (by decide +kernel)
set_option maxRecDepth 20000 in
theorem gX11_init_X9_init_n11 : GoodIn wsX11_init (wsX9_init) := ggX11_init_X9_init
set_option maxRecDepth 20000 in
theorem ggX11_init_X6_init : GoodIn wsX11_init wsX6_init := goodIn_r _ [41, 42, 2, 3] (by decide +kernel) (by decide +kernel)
set_option maxRecDepth 20000 in
theorem gX11_init_X6_init_n18 : GoodIn wsX11_init (wsX6_init) := ggX11_init_X6_init
set_option maxRecDepth 20000 in
theorem ggX11_init_X7_init : GoodIn wsX11_init wsX7_init := goodIn_r _ [45, 46, 2, 3, 47, 48, 49, 50, 51, 52, 38, 53, 54, 55, 56, 57, 58, 59, 60, 61, 62, 63, 64, 65, 66, 67, 14, 68, 69, 70, 71, 72, 73, 74, 75, 76, 77, 78, 79, 80, 81, 196, 197, 198, 199, 200, 155, 156, 157, 158, 159, 160, 161, 162, 163, 164, 201, 202, 203, 204, 205] (by decide +kernel) (by decide +kernel)
set_option maxRecDepth 20000 in
theorem gX11_init_X7_init : GoodIn wsX11_init (wsX7_init) := ggX11_init_X7_init
set_option maxRecDepth 20000 in
theorem ggX11_init_X1_init : GoodIn wsX11_init wsX1_init := goodIn_r _ [83, 84, 2, 3, 38, 85, 86, 165, 166, 167] (by decide +kernel) (by decide +kernel)
set_option maxRecDepth 20000 in
theorem gX11_init_X1_init_n45 : GoodIn wsX11_init (wsX1_init) := ggX11_init_X1_init
set_option maxRecDepth 20000 in
theorem ggX11_init_X8_init : GoodIn wsX11_init wsX8_init := goodIn_r _ [88, 89, 2, 3, 90, 38, 91, 92, 93, 94, 95, 96, 97, 98, 99, 100, 101, 102, 103, 104, 105, 106, 107, 108, 168, 169, 170, 171, 172, 173, 174, 175, 176, 177, 178, 179, 180, 181, 206, 207, 208] (by decide +kernel) (by decide +kernel)
set_option maxRecDepth 20000 in
theorem gX11_init_X8_init_n46 : GoodIn wsX11_init (wsX8_init) := ggX11_init_X8_init
set_option maxRecDepth 20000 in
theorem ggX11_init_X3_init : GoodIn wsX11_init wsX3_init := goodIn_r _ [110, 111, 2, 3, 38, 112, 113, 114, 115, 116, 182, 183, 184, 185, 186] (by decide +kernel) (by decide +kernel)
set_option maxRecDepth 20000 in
theorem gX11_init_X3_init_n49 : GoodIn wsX11_init (wsX3_init) := ggX11_init_X3_init
set_option maxRecDepth 20000 in
theorem ggX11_init_X0_init : GoodIn wsX11_init wsX0_init := goodIn_r _ [118, 119, 2, 3, 120, 121, 122, 123, 38, 124, 125, 126, 127, 128, 129, 130, 131, 132, 133, 134, 135, 136, 209, 210, 211, 212, 213, 187, 188, 189, 190, 191, 192, 193, 194, 195] (by decide +kernel) (by decide +kernel)
set_option maxRecDepth 20000 in
theorem gX11_init_X0_init_n64 : GoodIn wsX11_init (wsX0_init) := ggX11_init_X0_init
set_option maxRecDepth 20000 in
theorem ggX11_feed_X9_hasRoom : GoodIn wsX11_feed wsX9_hasRoom := goodIn_r _ [7, 8, 9, 24, 25, 26, 27, 28, 29] (by decide +kernel) (by decide +kernel)
set_option maxRecDepth 20000 in
theorem gX11_feed_X9_hasRoom : GoodIn wsX11_feed (wsV RX11 69 RX9 yX9_hasRoom wsX9_hasRoom) := goodIn_app (goodIn_of _ (by decide +kernel)) ggX11_feed_X9_hasRoom
set_option maxRecDepth 20000 in
theorem ggX11_feed_X9_put : GoodIn wsX11_feed wsX9_put := goodIn_r _ [13, 8, 9, 24, 25, 26, 27, 28, 29] (by decide +kernel) (by decide +kernel)
set_option maxRecDepth 20000 in
theorem gX11_feed_X9_put : GoodIn wsX11_feed (wsV RX11 73 RX9 yX9_put wsX9_put) := goodIn_app (goodIn_of _ (by decide +kernel)) ggX11_feed_X9_put
set_option maxRecDepth 20000 in
theorem ggX11_rules_X6_read : GoodIn wsX11_rules wsX6_read := goodIn_r _ [11, 12, 13, 14, 15, 16, 17, 18, 19, 20, 21, 22, 23, 24, 25, 26, 27, 28, 29, 30, 31, 32, 33, 34, 35, 36, 37, 38, 39, 40, 41, 42, 43, 44, 45, 46, 47, 48, 49, 50, 51, 52, 53, 54, 55, 56, 57, 58, 59, 60, 61, 62, 63, 64, 65, 10, 66, 67, 68, 69, 70, 71, 72, 73, 74, 75, 76, 77, 78, 79, 80, 81, 82, 83, 84, 85, 86, 87, 88, 89, 90, 91, 92, 93, 94, 95, 96, 97, 98, 99, 100, 101, 102, 103, 104, 105, 106, 107, 108, 109, 110, 111, 112, 113, 114, 115, 116, 117, 118, 119, 120, 121, 122, 123, 124, 125, 126, 127, 128, 129, 130, 131, 132, 133, 134, 135, 136, 137, 138, 139, 140, 141, 142, 143, 144, 145, 146, 147, 148, 149, 150, 151, 152, 153, 154, 155, 156, 157, 158, 159, 160, 161, 162, 163, 164, 165, 166, 167, 168, 169, 170, 171, 172, 173, 174, 175, 176, 177, 178, 179, 180, 181, 231, 232, 215, 216, 217, 218, 219, 220, 221, 222, 223, 224, 225, 226, 227, 228, 229, 230, 233, 234, 235, 236, 237, 238, 239, 240, 241, 242] (by decide +kernel) (by decide +kernel)
set_option maxRecDepth 20000 in
theorem gX11_rules_X6_read : GoodIn wsX11_rules (wsV RX11 81 RX6 yX6_read wsX6_read) := goodIn_app (goodIn_of _ (by decide +kernel)) ggX11_rules_X6_read
set_option maxRecDepth 20000 in
theorem ggX11_rules_X11_replaceRules : GoodIn wsX11_rules wsX11_replaceRules := goodIn_r _ [186, 5, 187, 4, 188, 189, 190, 191, 192, 193, 194, 195, 196, 31, 197, 33, 34, 35, 198, 199, 200, 201, 202, 203, 204, 205, 206, 207, 208, 209, 210, 211, 212, 213, 214, 221, 222, 223, 224, 225, 226, 227, 228, 229, 230, 243, 244, 245, 246, 247, 248, 249, 250, 233, 234, 235, 236, 237, 251, 252, 253, 254, 255, 256, 257, 258, 259, 260, 261, 262, 263, 264] (by decide +kernel) (by decide +kernel)
set_option maxRecDepth 20000 in
theorem gX11_rules_X11_replaceRules : GoodIn wsX11_rules (wsV RX11 85 RX11 yX11_replaceRules wsX11_replaceRules) := goodIn_app (goodIn_of _ (by decide +kernel)) ggX11_rules_X11_replaceRules
set_option maxRecDepth 20000 in
theorem ggX11_replaceRules_X2_sameAs : GoodIn wsX11_replaceRules wsX2_sameAs := goodIn_r _ [14, 15, 16, 17, 53, 54, 55, 56, 57] (by decide +kernel) (by decide +kernel)
set_option maxRecDepth 20000 in
theorem gX11_replaceRules_X2_sameAs : GoodIn wsX11_replaceRules (wsV RX11 95 RX2 yX2_sameAs wsX2_sameAs) := goodIn_app (goodIn_of _ (by decide +kernel)) ggX11_replaceRules_X2_sameAs
set_option maxRecDepth 20000 in
theorem ggX11_replaceRules_X8_forget : GoodIn wsX11_replaceRules wsX8_forget := goodIn_r _ [22, 23, 24, 58, 59, 60, 61, 62, 63, 64, 65, 66, 67, 68, 69, 70, 71] (by decide +kernel) (by decide +kernel)
set_option maxRecDepth 20000 in
theorem gX11_replaceRules_X8_forget : GoodIn wsX11_replaceRules (wsV RX11 102 RX8 yX8_forget wsX8_forget) := goodIn_app (goodIn_of _ (by decide +kernel)) ggX11_replaceRules_X8_forget
set_option maxRecDepth 20000 in
theorem ggX11_premium_X11_isPremium : GoodIn wsX11_premium wsX11_isPremium := goodIn_r _ [14, 3, 15, 16, 17, 18, 19, 20, 21, 22, 23, 24, 25, 26, 27, 28, 29, 30, 31, 32, 33, 34, 35] (by decide +kernel) (by decide +kernel)
set_option maxRecDepth 20000 in
theorem gX11_premium_X11_isPremium : GoodIn wsX11_premium (wsV RX11 133 RX11 yX11_isPremium wsX11_isPremium) := goodIn_app (goodIn_of _ (by decide +kernel)) ggX11_premium_X11_isPremium
set_option maxRecDepth 20000 in
theorem ggX11_moment_X2_momentAt : GoodIn wsX11_moment wsX2_momentAt := goodIn_r _ [7, 8, 9, 10, 31, 32, 33, 34, 35] (by decide +kernel) (by decide +kernel)
set_option maxRecDepth 20000 in
theorem gX11_moment_X2_momentAt : GoodIn wsX11_moment (wsV RX11 161 RX2 yX2_momentAt wsX2_momentAt) := goodIn_app (goodIn_of _ (by decide +kernel)) ggX11_moment_X2_momentAt
set_option maxRecDepth 20000 in
theorem ggX11_clock_X2_momentsAhead : GoodIn wsX11_clock wsX2_momentsAhead := goodIn_r _ [7, 8, 9, 40, 41, 42, 43, 44] (by decide +kernel) (by decide +kernel)
set_option maxRecDepth 20000 in
theorem gX11_clock_X2_momentsAhead : GoodIn wsX11_clock (wsV RX11 165 RX2 yX2_momentsAhead wsX2_momentsAhead) := goodIn_app (goodIn_of _ (by decide +kernel)) ggX11_clock_X2_momentsAhead
set_option maxRecDepth 20000 in
theorem ggX11_clock_X2_toldAt : GoodIn wsX11_clock wsX2_toldAt := goodIn_r _ [13, 14, 15, 40, 41, 42, 43, 44] (by decide +kernel) (by decide +kernel)
set_option maxRecDepth 20000 in
theorem gX11_clock_X2_toldAt : GoodIn wsX11_clock (wsV RX11 169 RX2 yX2_toldAt wsX2_toldAt) := goodIn_app (goodIn_of _ (by decide +kernel)) ggX11_clock_X2_toldAt
set_option maxRecDepth 20000 in
theorem ggX11_clock_X2_isAgain : GoodIn wsX11_clock wsX2_isAgain := goodIn_r _ [19, 14, 15, 40, 41, 42, 43, 44] (by decide +kernel) (by decide +kernel)
set_option maxRecDepth 20000 in
theorem gX11_clock_X2_isAgain : GoodIn wsX11_clock (wsV RX11 172 RX2 yX2_isAgain wsX2_isAgain) := goodIn_app (goodIn_of _ (by decide +kernel)) ggX11_clock_X2_isAgain
set_option maxRecDepth 20000 in
theorem ggX11_punch_X11_freeMoment : GoodIn wsX11_punch wsX11_freeMoment := goodIn_r _ [10, 11, 12, 1, 13, 14, 9, 15, 16, 17, 18, 19, 20, 21, 22, 23, 24, 25, 26, 27, 28, 29, 30, 31, 32, 33, 34, 54, 55, 56, 57, 58, 59, 60, 61, 62, 63, 81, 82, 83, 84, 85, 86, 87, 88, 89, 90, 91, 92, 93, 94, 95, 78, 79, 80] (by decide +kernel) (by decide +kernel)
set_option maxRecDepth 20000 in
theorem gX11_punch_X11_freeMoment : GoodIn wsX11_punch (wsV RX11 175 RX11 yX11_freeMoment wsX11_freeMoment) := goodIn_app (goodIn_of _ (by decide +kernel)) ggX11_punch_X11_freeMoment
set_option maxRecDepth 20000 in
theorem ggX11_punch_X1_add : GoodIn wsX11_punch wsX1_add := goodIn_r _ [38, 29, 34, 39, 78, 79, 80] (by decide +kernel) (by decide +kernel)
set_option maxRecDepth 20000 in
theorem gX11_punch_X1_add : GoodIn wsX11_punch (wsV RX11 179 RX1 yX1_add wsX1_add) := goodIn_app (goodIn_of _ (by decide +kernel)) ggX11_punch_X1_add
set_option maxRecDepth 20000 in
theorem ggX11_punch_X3_keep : GoodIn wsX11_punch wsX3_keep := goodIn_r _ [44, 45, 46, 47, 48, 49, 50, 51, 52, 43, 53, 96, 97, 98, 99, 100] (by decide +kernel) (by decide +kernel)
set_option maxRecDepth 20000 in
theorem gX11_punch_X3_keep : GoodIn wsX11_punch (wsV RX11 186 RX3 yX3_keep wsX3_keep) := goodIn_app (goodIn_of _ (by decide +kernel)) ggX11_punch_X3_keep
set_option maxRecDepth 20000 in
theorem ggX11_strike_X2_momentAt : GoodIn wsX11_strike wsX2_momentAt := goodIn_r _ [13, 14, 15, 16, 84, 85, 86, 87, 88] (by decide +kernel) (by decide +kernel)
set_option maxRecDepth 20000 in
theorem gX11_strike_X2_momentAt : GoodIn wsX11_strike (wsV RX11 161 RX2 yX2_momentAt wsX2_momentAt) := goodIn_app (goodIn_of _ (by decide +kernel)) ggX11_strike_X2_momentAt
set_option maxRecDepth 20000 in
theorem ggX11_strike_X11_isWorker : GoodIn wsX11_strike wsX11_isWorker := goodIn_r _ [20] (by decide +kernel) (by decide +kernel)
set_option maxRecDepth 20000 in
theorem gX11_strike_X11_isWorker : GoodIn wsX11_strike (va_wsS RX11 190 yX11_isWorker wsX11_isWorker) := goodIn_app (goodIn_of _ (by decide +kernel)) ggX11_strike_X11_isWorker
set_option maxRecDepth 20000 in
theorem ggX11_strike_X1_find : GoodIn wsX11_strike wsX1_find := goodIn_r _ [25, 26, 27, 67, 68, 69] (by decide +kernel) (by decide +kernel)
set_option maxRecDepth 20000 in
theorem gX11_strike_X1_find : GoodIn wsX11_strike (wsV RX11 193 RX1 yX1_find wsX1_find) := goodIn_app (goodIn_of _ (by decide +kernel)) ggX11_strike_X1_find
set_option maxRecDepth 20000 in
theorem ggX11_strike_X3_keep : GoodIn wsX11_strike wsX3_keep := goodIn_r _ [32, 33, 34, 35, 36, 37, 38, 39, 40, 31, 41, 89, 90, 91, 92, 93] (by decide +kernel) (by decide +kernel)
set_option maxRecDepth 20000 in
theorem gX11_strike_X3_keep : GoodIn wsX11_strike (wsV RX11 186 RX3 yX3_keep wsX3_keep) := goodIn_app (goodIn_of _ (by decide +kernel)) ggX11_strike_X3_keep
set_option maxRecDepth 20000 in
theorem ggX11_strike_X1_removeAt : GoodIn wsX11_strike wsX1_removeAt := goodIn_r _ [45, 26, 27, 46, 67, 68, 69] (by decide +kernel) (by decide +kernel)
set_option maxRecDepth 20000 in
theorem gX11_strike_X1_removeAt : GoodIn wsX11_strike (wsV RX11 200 RX1 yX1_removeAt wsX1_removeAt) := goodIn_app (goodIn_of _ (by decide +kernel)) ggX11_strike_X1_removeAt
set_option maxRecDepth 20000 in
theorem ggX11_undo_X1_find : GoodIn wsX11_undo wsX1_find := goodIn_r _ [14, 15, 16, 55, 56, 57] (by decide +kernel) (by decide +kernel)
set_option maxRecDepth 20000 in
theorem gX11_undo_X1_find : GoodIn wsX11_undo (wsV RX11 193 RX1 yX1_find wsX1_find) := goodIn_app (goodIn_of _ (by decide +kernel)) ggX11_undo_X1_find
set_option maxRecDepth 20000 in
theorem ggX11_undo_X1_removeAt : GoodIn wsX11_undo wsX1_removeAt := goodIn_r _ [20, 15, 16, 21, 55, 56, 57] (by decide +kernel) (by decide +kernel)
set_option maxRecDepth 20000 in
theorem gX11_undo_X1_removeAt : GoodIn wsX11_undo (wsV RX11 200 RX1 yX1_removeAt wsX1_removeAt) := goodIn_app (goodIn_of _ (by decide +kernel)) ggX11_undo_X1_removeAt
set_option maxRecDepth 20000 in
theorem ggX11_undo_X1_add : GoodIn wsX11_undo wsX1_add := goodIn_r _ [25, 15, 16, 21, 55, 56, 57] (by decide +kernel) (by decide +kernel)
set_option maxRecDepth 20000 in
theorem gX11_undo_X1_add : GoodIn wsX11_undo (wsV RX11 179 RX1 yX1_add wsX1_add) := goodIn_app (goodIn_of _ (by decide +kernel)) ggX11_undo_X1_add
set_option maxRecDepth 20000 in
theorem ggX11_punched_X11_isWorker : GoodIn wsX11_punched wsX11_isWorker := goodIn_r _ [9] (by decide +kernel) (by decide +kernel)
set_option maxRecDepth 20000 in
theorem gX11_punched_X11_isWorker : GoodIn wsX11_punched (va_wsS RX11 190 yX11_isWorker wsX11_isWorker) := goodIn_app (goodIn_of _ (by decide +kernel)) ggX11_punched_X11_isWorker
set_option maxRecDepth 20000 in
theorem ggX11_punched_X11_sheetOf : GoodIn wsX11_punched wsX11_sheetOf := goodIn_r _ [13, 14, 15, 1, 16, 17, 18, 19, 20, 21, 22, 23, 24, 25, 26, 27, 28, 29, 30, 31, 32, 33, 34, 35, 36, 37, 38, 39, 40, 41, 42, 43, 44, 45, 46, 47, 48, 49, 50, 51, 52, 53, 54, 55, 56, 57, 58, 59, 60, 61, 62, 63, 64, 65, 66, 67, 68, 69, 70, 71, 72, 73, 74, 75, 76, 77, 78, 79, 80, 81, 82, 83, 84, 85, 86, 87, 88, 89, 90, 91, 92, 93, 94, 95, 96, 97, 98, 99, 100, 101, 102, 103, 104, 105, 106, 107, 108, 109, 110, 111, 112, 113, 114, 115, 116, 117, 118, 119, 120, 121, 122, 123, 124, 125, 126, 127, 128, 129, 130, 131, 132, 133, 134, 135, 136, 137, 138, 139, 140, 141, 142, 143, 144, 145, 146, 147, 148, 149, 150, 151, 152, 153, 154, 155, 156, 157, 158, 159, 160, 161, 162, 163, 164, 165, 166, 167, 168, 169, 170, 171, 172, 173, 174, 175, 176, 177, 178, 179, 180, 181, 182, 183, 184, 185, 186, 187, 188, 189, 190, 191, 192, 193, 194, 195, 196, 197, 198, 199, 200, 201, 202, 203, 204, 205, 206, 207, 208, 209, 210, 211, 212, 213, 214, 215, 216, 217, 218, 219, 220, 221, 222, 223, 224, 225, 226, 227, 228, 229, 230, 231, 232, 233, 234, 235, 236, 237, 238, 239, 240, 241, 242, 243, 244, 245, 246, 247, 248, 249, 250, 254, 255, 256, 257, 258, 259, 260, 261, 262, 263, 264, 265, 266, 267, 268, 269, 270, 271, 272, 273, 274, 275, 276, 277, 278, 279, 280, 251, 252, 253, 281, 282, 283, 284, 285, 286, 287, 288, 289, 290, 291, 292, 293, 294, 295, 296, 297, 298, 299, 300, 301, 302, 303, 304] (by decide +kernel) (by decide +kernel)
set_option maxRecDepth 20000 in
theorem gX11_punched_X11_sheetOf : GoodIn wsX11_punched (wsV RX11 215 RX11 yX11_sheetOf wsX11_sheetOf) := goodIn_app (goodIn_of _ (by decide +kernel)) ggX11_punched_X11_sheetOf
set_option maxRecDepth 20000 in
theorem ggX11_span_X11_isWorker : GoodIn wsX11_span wsX11_isWorker := goodIn_r _ [8] (by decide +kernel) (by decide +kernel)
set_option maxRecDepth 20000 in
theorem gX11_span_X11_isWorker : GoodIn wsX11_span (va_wsS RX11 190 yX11_isWorker wsX11_isWorker) := goodIn_app (goodIn_of _ (by decide +kernel)) ggX11_span_X11_isWorker
set_option maxRecDepth 20000 in
theorem ggX11_span_X11_sheetOf : GoodIn wsX11_span wsX11_sheetOf := goodIn_r _ [12, 13, 14, 15, 16, 17, 18, 19, 20, 21, 22, 23, 24, 25, 26, 27, 28, 29, 30, 31, 32, 33, 34, 35, 36, 37, 38, 39, 40, 41, 42, 43, 44, 45, 46, 47, 48, 49, 50, 51, 52, 53, 54, 55, 56, 57, 58, 59, 60, 61, 62, 63, 64, 65, 66, 67, 68, 69, 70, 71, 72, 73, 74, 75, 76, 77, 78, 79, 80, 81, 82, 83, 84, 85, 86, 87, 88, 89, 90, 91, 92, 93, 94, 95, 96, 97, 98, 99, 100, 101, 102, 103, 104, 105, 106, 107, 108, 109, 110, 111, 112, 113, 114, 115, 116, 117, 118, 119, 120, 121, 122, 123, 124, 125, 126, 127, 128, 129, 130, 131, 132, 133, 134, 135, 136, 137, 138, 139, 140, 141, 142, 143, 144, 145, 146, 147, 148, 149, 150, 151, 152, 153, 154, 155, 156, 157, 158, 159, 160, 161, 162, 163, 164, 165, 166, 167, 168, 169, 170, 171, 172, 173, 174, 175, 176, 177, 178, 179, 180, 181, 182, 183, 184, 185, 186, 187, 188, 189, 190, 191, 192, 193, 194, 195, 196, 197, 198, 199, 200, 201, 202, 203, 204, 205, 206, 207, 208, 209, 210, 211, 212, 213, 214, 215, 216, 217, 218, 219, 220, 221, 222, 223, 224, 225, 226, 227, 228, 229, 230, 231, 232, 233, 234, 235, 236, 237, 238, 239, 240, 255, 256, 257, 258, 259, 260, 261, 262, 263, 264, 241, 242, 243, 244, 245, 246, 247, 248, 249, 250, 251, 252, 253, 254, 265, 266, 267, 268, 269, 270, 271, 272, 273, 274, 275, 276, 277, 278, 279, 280, 281, 282, 283, 284, 285, 286, 287, 288, 289, 290, 291, 292, 293, 294, 295, 296, 297, 298, 299, 300, 301, 302, 303, 304] (by decide +kernel) (by decide +kernel)
set_option maxRecDepth 20000 in
theorem gX11_span_X11_sheetOf : GoodIn wsX11_span (wsV RX11 215 RX11 yX11_sheetOf wsX11_sheetOf) := goodIn_app (goodIn_of _ (by decide +kernel)) ggX11_span_X11_sheetOf
set_option maxRecDepth 20000 in
theorem ggX11_quarter_X11_isWorker : GoodIn wsX11_quarter wsX11_isWorker := goodIn_r _ [11] (by decide +kernel) (by decide +kernel)
set_option maxRecDepth 20000 in
theorem gX11_quarter_X11_isWorker : GoodIn wsX11_quarter (va_wsS RX11 190 yX11_isWorker wsX11_isWorker) := goodIn_app (goodIn_of _ (by decide +kernel)) ggX11_quarter_X11_isWorker
set_option maxRecDepth 20000 in
theorem ggX11_quarter_X11_sheetOf : GoodIn wsX11_quarter wsX11_sheetOf := goodIn_r _ [15, 16, 17, 18, 3, 19, 20, 21, 22, 23, 24, 25, 26, 27, 28, 29, 30, 31, 32, 33, 34, 35, 36, 37, 38, 39, 40, 41, 42, 43, 44, 45, 46, 47, 48, 49, 50, 51, 52, 53, 54, 55, 56, 57, 58, 59, 60, 61, 62, 63, 64, 65, 66, 67, 68, 69, 70, 71, 72, 73, 74, 75, 76, 77, 78, 79, 80, 81, 82, 83, 84, 85, 86, 87, 88, 89, 90, 91, 92, 93, 94, 95, 96, 97, 98, 99, 100, 101, 102, 103, 104, 105, 106, 107, 108, 109, 110, 111, 112, 113, 114, 115, 116, 117, 118, 119, 120, 121, 122, 123, 124, 125, 126, 127, 128, 129, 130, 131, 132, 133, 134, 135, 136, 137, 138, 139, 140, 141, 142, 143, 144, 145, 146, 147, 148, 149, 150, 151, 152, 153, 154, 155, 156, 157, 158, 159, 160, 161, 162, 163, 164, 165, 166, 167, 168, 169, 170, 171, 172, 173, 174, 175, 176, 177, 178, 179, 180, 181, 182, 183, 184, 185, 186, 187, 188, 189, 190, 191, 192, 193, 194, 195, 196, 197, 198, 199, 200, 201, 202, 203, 204, 205, 206, 207, 208, 209, 210, 211, 212, 213, 214, 215, 216, 217, 218, 219, 220, 221, 222, 223, 224, 225, 226, 227, 228, 229, 230, 231, 232, 233, 234, 235, 236, 237, 238, 239, 240, 241, 242, 246, 247, 248, 249, 250, 251, 252, 253, 254, 255, 266, 267, 268, 269, 270, 271, 272, 273, 274, 275, 276, 277, 278, 279, 280, 281, 282, 256, 257, 258, 259, 260, 261, 262, 263, 264, 265, 283, 284, 285, 286, 287, 288, 289, 290, 291, 292, 293, 294, 295, 296, 297, 298, 299, 300, 301, 302, 303, 304, 305, 306, 307, 308, 309] (by decide +kernel) (by decide +kernel)
set_option maxRecDepth 20000 in
theorem gX11_quarter_X11_sheetOf : GoodIn wsX11_quarter (wsV RX11 215 RX11 yX11_sheetOf wsX11_sheetOf) := goodIn_app (goodIn_of _ (by decide +kernel)) ggX11_quarter_X11_sheetOf
set_option maxRecDepth 20000 in
theorem ggX11_quarter_X2_quartersAhead : GoodIn wsX11_quarter wsX2_quartersAhead := goodIn_r _ [65, 66, 67, 68, 64, 69, 70, 71, 286, 287, 288, 289, 290] (by decide +kernel) (by decide +kernel)
set_option maxRecDepth 20000 in
theorem gX11_quarter_X2_quartersAhead : GoodIn wsX11_quarter (wsV RX11 234 RX2 yX2_quartersAhead wsX2_quartersAhead) := goodIn_app (goodIn_of _ (by decide +kernel)) ggX11_quarter_X2_quartersAhead
set_option maxRecDepth 20000 in
theorem ggX11_quarter_X2_toldAt : GoodIn wsX11_quarter wsX2_toldAt := goodIn_r _ [143, 144, 145, 286, 287, 288, 289, 290] (by decide +kernel) (by decide +kernel)
set_option maxRecDepth 20000 in
theorem gX11_quarter_X2_toldAt : GoodIn wsX11_quarter (wsV RX11 169 RX2 yX2_toldAt wsX2_toldAt) := goodIn_app (goodIn_of _ (by decide +kernel)) ggX11_quarter_X2_toldAt
set_option maxRecDepth 20000 in
theorem ggX11_quarter_X2_hourAt : GoodIn wsX11_quarter wsX2_hourAt := goodIn_r _ [139, 140, 141, 142, 64, 143, 144, 145, 286, 287, 288, 289, 290] (by decide +kernel) (by decide +kernel)
set_option maxRecDepth 20000 in
theorem gX11_quarter_X2_hourAt : GoodIn wsX11_quarter (wsV RX11 240 RX2 yX2_hourAt wsX2_hourAt) := goodIn_app (goodIn_of _ (by decide +kernel)) ggX11_quarter_X2_hourAt
set_option maxRecDepth 20000 in
theorem ggX11_day_X11_countDays : GoodIn wsX11_day wsX11_countDays := goodIn_r _ [5, 6, 7, 8, 9, 10, 4, 11, 12, 13, 14, 15, 16, 17, 18, 19, 20, 21, 22, 23, 24, 25, 26, 27, 28, 29, 30, 31, 32, 33, 34, 35, 36, 37, 38, 39, 40, 41, 42, 43, 44, 45, 46, 47, 48, 49, 50, 51, 52, 53, 54, 55, 56, 57, 58, 59, 60, 61, 62, 63, 64, 65, 66, 67, 68, 69, 70, 71, 72, 73, 74, 75, 76, 77, 78, 79, 80, 81, 82, 83, 84, 85, 86, 87, 88, 89, 90, 91, 92, 93, 94, 95, 96, 97, 98, 99, 100, 101, 102, 103, 104, 105, 106, 107, 108, 109, 110, 111, 112, 113, 114, 115, 116, 117, 118, 119, 120, 121, 122, 123, 124, 125, 126, 127, 128, 129, 130, 131, 132, 133, 134, 135, 136, 137, 138, 139, 140, 141, 142, 143, 144, 145, 146, 147, 148, 149, 150, 151, 152, 153, 154, 155, 156, 157, 158, 159, 160, 161, 162, 163, 164, 165, 166, 167, 168, 169, 170, 171, 172, 173, 174, 175, 176, 177, 178, 179, 180, 181, 182, 183, 184, 185, 186, 187, 188, 189, 190, 191, 192, 193, 194, 195, 196, 197, 198, 199, 200, 201, 202, 203, 204, 205, 206, 207, 208, 209, 210, 211, 212, 213, 214, 215, 216, 217, 218, 219, 220, 221, 222, 223, 224, 225, 226, 227, 228, 229, 230, 231, 232, 233, 234, 235, 236, 237, 238, 239, 240, 241, 242, 243, 244, 245, 246, 247, 248, 249, 250, 251, 252, 253, 254, 255, 256, 257, 258, 259, 260, 261, 262, 263, 264, 265, 266, 267, 268, 269, 270, 271, 272, 273, 274, 275, 276, 277, 278, 279, 280, 281, 282, 283, 284, 285, 286, 287, 288, 289, 290, 291, 292, 293, 294, 295, 296, 297, 298, 299, 300, 301, 302, 303, 304, 305, 306, 307, 308, 309, 310, 311, 312] (by decide +kernel) (by decide +kernel)
set_option maxRecDepth 20000 in
theorem gX11_day_X11_countDays : GoodIn wsX11_day (wsV RX11 248 RX11 yX11_countDays wsX11_countDays) := goodIn_app (goodIn_of _ (by decide +kernel)) ggX11_day_X11_countDays
set_option maxRecDepth 20000 in
theorem ggX11_week_X11_isWeek : GoodIn wsX11_week wsX11_isWeek := goodIn_r _ [4] (by decide +kernel) (by decide +kernel)
set_option maxRecDepth 20000 in
theorem gX11_week_X11_isWeek : GoodIn wsX11_week (va_wsS RX11 252 yX11_isWeek wsX11_isWeek) := goodIn_app (goodIn_of _ (by decide +kernel)) ggX11_week_X11_isWeek
set_option maxRecDepth 20000 in
theorem ggX11_week_X11_countDays : GoodIn wsX11_week wsX11_countDays := goodIn_r _ [8, 9, 10, 11, 12, 13, 3, 14, 15, 16, 17, 18, 19, 20, 21, 22, 23, 24, 25, 26, 27, 28, 29, 30, 31, 32, 33, 34, 35, 36, 37, 38, 39, 40, 41, 42, 43, 44, 45, 46, 47, 48, 49, 50, 51, 52, 53, 54, 55, 56, 57, 58, 59, 60, 61, 62, 63, 64, 65, 66, 67, 68, 69, 70, 71, 72, 73, 74, 75, 76, 77, 78, 79, 80, 81, 82, 83, 84, 85, 86, 87, 88, 89, 90, 91, 92, 93, 94, 95, 96, 97, 98, 99, 100, 101, 102, 103, 104, 105, 106, 107, 108, 109, 110, 111, 112, 113, 114, 115, 116, 117, 118, 119, 120, 121, 122, 123, 124, 125, 126, 127, 128, 129, 130, 131, 132, 133, 134, 135, 136, 137, 138, 139, 140, 141, 142, 143, 144, 145, 146, 147, 148, 149, 150, 151, 152, 153, 154, 155, 156, 157, 158, 159, 160, 161, 162, 163, 164, 165, 166, 167, 168, 169, 170, 171, 172, 173, 174, 175, 176, 177, 178, 179, 180, 181, 182, 183, 184, 185, 186, 187, 188, 189, 190, 191, 192, 193, 194, 195, 196, 197, 198, 199, 200, 201, 202, 203, 204, 205, 206, 207, 208, 209, 210, 211, 212, 213, 214, 215, 216, 217, 218, 219, 220, 221, 222, 223, 224, 225, 226, 227, 228, 229, 230, 231, 232, 233, 234, 235, 236, 237, 238, 239, 240, 241, 242, 243, 244, 245, 246, 247, 248, 249, 250, 251, 252, 253, 254, 255, 256, 257, 258, 259, 260, 261, 262, 263, 264, 265, 266, 267, 268, 269, 270, 271, 272, 273, 274, 275, 276, 277, 278, 279, 280, 281, 282, 283, 284, 285, 286, 287, 288, 289, 290, 291, 292, 293, 294, 295, 296, 297, 298, 299, 300, 301, 302, 303, 304, 305, 306, 307, 308, 309, 310, 311, 312, 313, 314, 315] (by decide +kernel) (by decide +kernel)
set_option maxRecDepth 20000 in
theorem gX11_week_X11_countDays : GoodIn wsX11_week (wsV RX11 248 RX11 yX11_countDays wsX11_countDays) := goodIn_app (goodIn_of _ (by decide +kernel)) ggX11_week_X11_countDays
set_option maxRecDepth 20000 in
theorem ggX11_countDays_X11_isWorker : GoodIn wsX11_countDays wsX11_isWorker := goodIn_r _ [7] (by decide +kernel) (by decide +kernel)
set_option maxRecDepth 20000 in
theorem gX11_countDays_X11_isWorker : GoodIn wsX11_countDays (va_wsS RX11 190 yX11_isWorker wsX11_isWorker) := goodIn_app (goodIn_of _ (by decide +kernel)) ggX11_countDays_X11_isWorker
set_option maxRecDepth 20000 in
theorem ggX11_countDays_X11_isPremium : GoodIn wsX11_countDays wsX11_isPremium := goodIn_r _ [11, 2, 12, 259, 260, 261, 262, 263, 264, 265, 266, 267, 268, 269, 270, 271, 272, 273, 274, 275, 276, 277, 278] (by decide +kernel) (by decide +kernel)
set_option maxRecDepth 20000 in
theorem gX11_countDays_X11_isPremium : GoodIn wsX11_countDays (wsV RX11 133 RX11 yX11_isPremium wsX11_isPremium) := goodIn_app (goodIn_of _ (by decide +kernel)) ggX11_countDays_X11_isPremium
set_option maxRecDepth 20000 in
theorem ggX11_countDays_X11_sheetOf : GoodIn wsX11_countDays wsX11_sheetOf := goodIn_r _ [16, 17, 18, 19, 2, 20, 21, 22, 23, 24, 25, 26, 27, 28, 29, 30, 31, 32, 33, 34, 35, 36, 37, 38, 39, 40, 41, 42, 43, 44, 45, 46, 47, 48, 49, 50, 51, 52, 53, 54, 55, 56, 57, 58, 59, 60, 61, 62, 63, 64, 65, 66, 67, 68, 69, 70, 71, 72, 73, 74, 75, 76, 77, 78, 79, 80, 81, 82, 83, 84, 85, 86, 87, 88, 89, 90, 91, 92, 93, 94, 95, 96, 97, 98, 99, 100, 101, 102, 103, 104, 105, 106, 107, 108, 109, 110, 111, 112, 113, 114, 115, 116, 117, 118, 119, 120, 121, 122, 123, 124, 125, 126, 127, 128, 129, 130, 131, 132, 133, 134, 135, 136, 137, 138, 139, 140, 141, 142, 143, 144, 145, 146, 147, 148, 149, 150, 151, 152, 153, 154, 155, 156, 157, 158, 159, 160, 161, 162, 163, 164, 165, 166, 167, 168, 169, 170, 171, 172, 173, 174, 175, 176, 177, 178, 179, 180, 181, 182, 183, 184, 185, 186, 187, 188, 189, 190, 191, 192, 193, 194, 195, 196, 197, 198, 199, 200, 201, 202, 203, 204, 205, 206, 207, 208, 209, 210, 211, 212, 213, 214, 215, 216, 217, 218, 219, 220, 221, 222, 223, 224, 225, 226, 227, 228, 229, 230, 231, 232, 233, 234, 235, 236, 237, 238, 239, 240, 241, 242, 243, 259, 260, 261, 262, 263, 264, 265, 266, 267, 268, 245, 246, 247, 248, 249, 250, 251, 252, 253, 254, 255, 256, 257, 258, 279, 280, 281, 269, 270, 271, 272, 273, 274, 275, 276, 277, 278, 282, 283, 284, 285, 286, 287, 288, 289, 290, 291, 292, 293, 294, 295, 296, 297, 298, 299, 300, 301, 302, 303, 304, 305, 306, 307, 308] (by decide +kernel) (by decide +kernel)
set_option maxRecDepth 20000 in
theorem gX11_countDays_X11_sheetOf : GoodIn wsX11_countDays (wsV RX11 215 RX11 yX11_sheetOf wsX11_sheetOf) := goodIn_app (goodIn_of _ (by decide +kernel)) ggX11_countDays_X11_sheetOf
set_option maxRecDepth 20000 in
theorem ggX11_countDays_X2_quartersAhead : GoodIn wsX11_countDays wsX2_quartersAhead := goodIn_r _ [66, 67, 68, 69, 65, 70, 71, 72, 285, 286, 287, 288, 289] (by decide +kernel) (by decide +kernel)
set_option maxRecDepth 20000 in
theorem gX11_countDays_X2_quartersAhead : GoodIn wsX11_countDays (wsV RX11 234 RX2 yX2_quartersAhead wsX2_quartersAhead) := goodIn_app (goodIn_of _ (by decide +kernel)) ggX11_countDays_X2_quartersAhead
set_option maxRecDepth 20000 in
theorem ggX11_counted_X11_isWorker : GoodIn wsX11_counted wsX11_isWorker := goodIn_r _ [8] (by decide +kernel) (by decide +kernel)
set_option maxRecDepth 20000 in
theorem gX11_counted_X11_isWorker : GoodIn wsX11_counted (va_wsS RX11 190 yX11_isWorker wsX11_isWorker) := goodIn_app (goodIn_of _ (by decide +kernel)) ggX11_counted_X11_isWorker
set_option maxRecDepth 20000 in
theorem ggX11_counted_X11_isWeek : GoodIn wsX11_counted wsX11_isWeek := goodIn_r _ [11] (by decide +kernel) (by decide +kernel)
set_option maxRecDepth 20000 in
theorem gX11_counted_X11_isWeek : GoodIn wsX11_counted (va_wsS RX11 252 yX11_isWeek wsX11_isWeek) := goodIn_app (goodIn_of _ (by decide +kernel)) ggX11_counted_X11_isWeek
set_option maxRecDepth 20000 in
theorem ggX11_counted_X11_sheetOf : GoodIn wsX11_counted wsX11_sheetOf := goodIn_r _ [15, 16, 17, 18, 3, 19, 20, 21, 22, 23, 24, 25, 26, 27, 28, 29, 30, 31, 32, 33, 34, 35, 36, 37, 38, 39, 40, 41, 42, 43, 44, 45, 46, 47, 48, 49, 50, 51, 52, 53, 54, 55, 56, 57, 58, 59, 60, 61, 62, 63, 64, 65, 66, 67, 68, 69, 70, 71, 72, 73, 74, 75, 76, 77, 78, 79, 80, 81, 82, 83, 84, 85, 86, 87, 88, 89, 90, 91, 92, 93, 94, 95, 96, 97, 98, 99, 100, 101, 102, 103, 104, 105, 106, 107, 108, 109, 110, 111, 112, 113, 114, 115, 116, 117, 118, 119, 120, 121, 122, 123, 124, 125, 126, 127, 128, 129, 130, 131, 132, 133, 134, 135, 136, 137, 138, 139, 140, 141, 142, 143, 144, 145, 146, 147, 148, 149, 150, 151, 152, 153, 154, 155, 156, 157, 158, 159, 160, 161, 162, 163, 164, 165, 166, 167, 168, 169, 170, 171, 172, 173, 174, 175, 176, 177, 178, 179, 180, 181, 182, 183, 184, 185, 186, 187, 188, 189, 190, 191, 192, 193, 194, 195, 196, 197, 198, 199, 200, 201, 202, 203, 204, 205, 206, 207, 208, 209, 210, 211, 212, 213, 214, 215, 216, 217, 218, 219, 220, 221, 222, 223, 224, 225, 226, 227, 228, 229, 230, 231, 232, 233, 234, 235, 236, 237, 238, 239, 240, 241, 242, 259, 260, 261, 262, 263, 264, 265, 266, 267, 268, 245, 246, 247, 248, 249, 250, 251, 252, 253, 254, 255, 256, 257, 258, 279, 280, 281, 269, 270, 271, 272, 273, 274, 275, 276, 277, 278, 282, 283, 284, 285, 286, 287, 288, 289, 290, 291, 292, 293, 294, 295, 296, 297, 298, 299, 300, 301, 302, 303, 304, 305, 306, 307, 308] (by decide +kernel) (by decide +kernel)
set_option maxRecDepth 20000 in
theorem gX11_counted_X11_sheetOf : GoodIn wsX11_counted (wsV RX11 215 RX11 yX11_sheetOf wsX11_sheetOf) := goodIn_app (goodIn_of _ (by decide +kernel)) ggX11_counted_X11_sheetOf
set_option maxRecDepth 20000 in
theorem ggX11_counted_X2_quartersAhead : GoodIn wsX11_counted wsX2_quartersAhead := goodIn_r _ [65, 66, 67, 68, 64, 69, 70, 71, 285, 286, 287, 288, 289] (by decide +kernel) (by decide +kernel)
set_option maxRecDepth 20000 in
theorem gX11_counted_X2_quartersAhead : GoodIn wsX11_counted (wsV RX11 234 RX2 yX2_quartersAhead wsX2_quartersAhead) := goodIn_app (goodIn_of _ (by decide +kernel)) ggX11_counted_X2_quartersAhead
set_option maxRecDepth 20000 in
theorem ggX11_counted_X7_countsUnder : GoodIn wsX11_counted wsX7_countsUnder := goodIn_r _ [182, 151, 183, 269, 270, 271, 272, 273, 274, 275, 276, 277, 278, 304, 305, 306, 307, 308] (by decide +kernel) (by decide +kernel)
set_option maxRecDepth 20000 in
theorem gX11_counted_X7_countsUnder : GoodIn wsX11_counted (wsV RX11 255 RX7 yX7_countsUnder wsX7_countsUnder) := goodIn_app (goodIn_of _ (by decide +kernel)) ggX11_counted_X7_countsUnder
set_option maxRecDepth 20000 in
theorem ggX11_pay_X11_isWorker : GoodIn wsX11_pay wsX11_isWorker := goodIn_r _ [6] (by decide +kernel) (by decide +kernel)
set_option maxRecDepth 20000 in
theorem gX11_pay_X11_isWorker : GoodIn wsX11_pay (va_wsS RX11 190 yX11_isWorker wsX11_isWorker) := goodIn_app (goodIn_of _ (by decide +kernel)) ggX11_pay_X11_isWorker
set_option maxRecDepth 20000 in
theorem ggX11_pay_X11_isWeek : GoodIn wsX11_pay wsX11_isWeek := goodIn_r _ [9] (by decide +kernel) (by decide +kernel)
set_option maxRecDepth 20000 in
theorem gX11_pay_X11_isWeek : GoodIn wsX11_pay (va_wsS RX11 252 yX11_isWeek wsX11_isWeek) := goodIn_app (goodIn_of _ (by decide +kernel)) ggX11_pay_X11_isWeek
set_option maxRecDepth 20000 in
theorem ggX11_pay_X11_sheetOf : GoodIn wsX11_pay wsX11_sheetOf := goodIn_r _ [13, 14, 15, 16, 17, 18, 19, 20, 21, 22, 23, 24, 25, 26, 27, 28, 29, 30, 31, 32, 33, 34, 35, 36, 37, 38, 39, 40, 41, 42, 43, 44, 45, 46, 47, 48, 49, 50, 51, 52, 53, 54, 55, 56, 57, 58, 59, 60, 61, 62, 63, 64, 65, 66, 67, 68, 69, 70, 71, 72, 73, 74, 75, 76, 77, 78, 79, 80, 81, 82, 83, 84, 85, 86, 87, 88, 89, 90, 91, 92, 93, 94, 95, 96, 97, 98, 99, 100, 101, 102, 103, 104, 105, 106, 107, 108, 109, 110, 111, 112, 113, 114, 115, 116, 117, 118, 119, 120, 121, 122, 123, 124, 125, 126, 127, 128, 129, 130, 131, 132, 133, 134, 135, 136, 137, 138, 139, 140, 141, 142, 143, 144, 145, 146, 147, 148, 149, 150, 151, 152, 153, 154, 155, 156, 157, 158, 159, 160, 161, 162, 163, 164, 165, 166, 167, 168, 169, 170, 171, 172, 173, 174, 175, 176, 177, 178, 179, 180, 181, 182, 183, 184, 185, 186, 187, 188, 189, 190, 191, 192, 193, 194, 195, 196, 197, 198, 199, 200, 201, 202, 203, 204, 205, 206, 207, 208, 209, 210, 211, 212, 213, 214, 215, 216, 217, 218, 219, 220, 221, 222, 223, 224, 225, 226, 227, 228, 229, 230, 231, 232, 233, 234, 235, 236, 237, 238, 239, 240, 241, 264, 265, 266, 267, 268, 269, 270, 271, 272, 273, 250, 251, 252, 253, 254, 255, 256, 257, 258, 259, 260, 261, 262, 263, 274, 275, 276, 277, 278, 279, 280, 281, 282, 283, 284, 285, 286, 287, 288, 289, 290, 291, 292, 293, 294, 295, 296, 297, 298, 299, 300, 301, 302, 303, 304, 305, 306, 307, 308, 309, 310, 311, 312, 313] (by decide +kernel) (by decide +kernel)
set_option maxRecDepth 20000 in
theorem gX11_pay_X11_sheetOf : GoodIn wsX11_pay (wsV RX11 215 RX11 yX11_sheetOf wsX11_sheetOf) := goodIn_app (goodIn_of _ (by decide +kernel)) ggX11_pay_X11_sheetOf
set_option maxRecDepth 20000 in
theorem ggX11_pay_X11_payOfDays : GoodIn wsX11_pay wsX11_payOfDays := goodIn_r _ [245, 17, 246, 247, 248, 61, 62, 63, 64, 65, 66, 67, 68, 69, 70, 249, 174, 175, 44, 176, 150, 177, 264, 265, 266, 267, 268, 269, 270, 271, 272, 273, 277, 278, 279, 280, 281, 282, 283, 284, 285, 286, 290, 291, 292, 293, 294, 309, 310, 311, 312, 313] (by decide +kernel) (by decide +kernel)
set_option maxRecDepth 20000 in
theorem gX11_pay_X11_payOfDays : GoodIn wsX11_pay (wsV RX11 258 RX11 yX11_payOfDays wsX11_payOfDays) := goodIn_app (goodIn_of _ (by decide +kernel)) ggX11_pay_X11_payOfDays
set_option maxRecDepth 20000 in
theorem ggX11_dayPay_X11_isWorker : GoodIn wsX11_dayPay wsX11_isWorker := goodIn_r _ [5] (by decide +kernel) (by decide +kernel)
set_option maxRecDepth 20000 in
theorem gX11_dayPay_X11_isWorker : GoodIn wsX11_dayPay (va_wsS RX11 190 yX11_isWorker wsX11_isWorker) := goodIn_app (goodIn_of _ (by decide +kernel)) ggX11_dayPay_X11_isWorker
set_option maxRecDepth 20000 in
theorem ggX11_dayPay_X11_sheetOf : GoodIn wsX11_dayPay wsX11_sheetOf := goodIn_r _ [9, 10, 11, 12, 13, 14, 15, 16, 17, 18, 19, 20, 21, 22, 23, 24, 25, 26, 27, 28, 29, 30, 31, 32, 33, 34, 35, 36, 37, 38, 39, 40, 41, 42, 43, 44, 45, 46, 47, 48, 49, 50, 51, 52, 53, 54, 55, 56, 57, 58, 59, 60, 61, 62, 63, 64, 65, 66, 67, 68, 69, 70, 71, 72, 73, 74, 75, 76, 77, 78, 79, 80, 81, 82, 83, 84, 85, 86, 87, 88, 89, 90, 91, 92, 93, 94, 95, 96, 97, 98, 99, 100, 101, 102, 103, 104, 105, 106, 107, 108, 109, 110, 111, 112, 113, 114, 115, 116, 117, 118, 119, 120, 121, 122, 123, 124, 125, 126, 127, 128, 129, 130, 131, 132, 133, 134, 135, 136, 137, 138, 139, 140, 141, 142, 143, 144, 145, 146, 147, 148, 149, 150, 151, 152, 153, 154, 155, 156, 157, 158, 159, 160, 161, 162, 163, 164, 165, 166, 167, 168, 169, 170, 171, 172, 173, 174, 175, 176, 177, 178, 179, 180, 181, 182, 183, 184, 185, 186, 187, 188, 189, 190, 191, 192, 193, 194, 195, 196, 197, 198, 199, 200, 201, 202, 203, 204, 205, 206, 207, 208, 209, 210, 211, 212, 213, 214, 215, 216, 217, 218, 219, 220, 221, 222, 223, 224, 225, 226, 227, 228, 229, 230, 231, 232, 233, 234, 235, 236, 237, 260, 261, 262, 263, 264, 265, 266, 267, 268, 269, 246, 247, 248, 249, 250, 251, 252, 253, 254, 255, 256, 257, 258, 259, 270, 271, 272, 273, 274, 275, 276, 277, 278, 279, 280, 281, 282, 283, 284, 285, 286, 287, 288, 289, 290, 291, 292, 293, 294, 295, 296, 297, 298, 299, 300, 301, 302, 303, 304, 305, 306, 307, 308, 309] (by decide +kernel) (by decide +kernel)
set_option maxRecDepth 20000 in
theorem gX11_dayPay_X11_sheetOf : GoodIn wsX11_dayPay (wsV RX11 215 RX11 yX11_sheetOf wsX11_sheetOf) := goodIn_app (goodIn_of _ (by decide +kernel)) ggX11_dayPay_X11_sheetOf
set_option maxRecDepth 20000 in
theorem ggX11_dayPay_X11_payOfDays : GoodIn wsX11_dayPay wsX11_payOfDays := goodIn_r _ [241, 13, 242, 243, 244, 57, 58, 59, 60, 61, 62, 63, 64, 65, 66, 245, 170, 171, 40, 172, 146, 173, 260, 261, 262, 263, 264, 265, 266, 267, 268, 269, 273, 274, 275, 276, 277, 278, 279, 280, 281, 282, 286, 287, 288, 289, 290, 305, 306, 307, 308, 309] (by decide +kernel) (by decide +kernel)
set_option maxRecDepth 20000 in
theorem gX11_dayPay_X11_payOfDays : GoodIn wsX11_dayPay (wsV RX11 258 RX11 yX11_payOfDays wsX11_payOfDays) := goodIn_app (goodIn_of _ (by decide +kernel)) ggX11_dayPay_X11_payOfDays
set_option maxRecDepth 20000 in
theorem ggX11_payOfDays_X2_quartersAhead : GoodIn wsX11_payOfDays wsX2_quartersAhead := goodIn_r _ [8, 9, 10, 11, 7, 12, 13, 14, 42, 43, 44, 45, 46] (by decide +kernel) (by decide +kernel)
set_option maxRecDepth 20000 in
theorem gX11_payOfDays_X2_quartersAhead : GoodIn wsX11_payOfDays (wsV RX11 234 RX2 yX2_quartersAhead wsX2_quartersAhead) := goodIn_app (goodIn_of _ (by decide +kernel)) ggX11_payOfDays_X2_quartersAhead
set_option maxRecDepth 20000 in
theorem ggX11_payOfDays_X7_hundredthsUnder : GoodIn wsX11_payOfDays wsX7_hundredthsUnder := goodIn_r _ [19, 20, 21, 32, 33, 34, 35, 36, 37, 38, 39, 40, 41, 47, 48, 49, 50, 51] (by decide +kernel) (by decide +kernel)
set_option maxRecDepth 20000 in
theorem gX11_payOfDays_X7_hundredthsUnder : GoodIn wsX11_payOfDays (wsV RX11 262 RX7 yX7_hundredthsUnder wsX7_hundredthsUnder) := goodIn_app (goodIn_of _ (by decide +kernel)) ggX11_payOfDays_X7_hundredthsUnder
set_option maxRecDepth 20000 in
theorem ggX11_total_X11_sheetOf : GoodIn wsX11_total wsX11_sheetOf := goodIn_r _ [5, 6, 7, 8, 9, 10, 11, 12, 13, 14, 15, 16, 17, 18, 19, 20, 21, 22, 23, 24, 25, 26, 27, 28, 29, 30, 31, 32, 33, 34, 35, 36, 37, 38, 39, 40, 41, 42, 43, 44, 45, 46, 47, 48, 49, 50, 51, 52, 53, 54, 55, 56, 57, 58, 59, 60, 61, 62, 63, 64, 65, 66, 67, 68, 69, 70, 71, 72, 73, 74, 75, 76, 77, 78, 79, 80, 81, 82, 83, 84, 85, 86, 87, 88, 89, 90, 91, 92, 93, 94, 95, 96, 97, 98, 99, 100, 101, 102, 103, 104, 105, 106, 107, 108, 109, 110, 111, 112, 113, 114, 115, 116, 117, 118, 119, 120, 121, 122, 123, 124, 125, 126, 127, 128, 129, 130, 131, 132, 133, 134, 135, 136, 137, 138, 139, 140, 141, 142, 143, 144, 145, 146, 147, 148, 149, 150, 151, 152, 153, 154, 155, 156, 157, 158, 159, 160, 161, 162, 163, 164, 165, 166, 167, 168, 169, 170, 171, 172, 173, 174, 175, 176, 177, 178, 179, 180, 181, 182, 183, 184, 185, 186, 187, 188, 189, 190, 191, 192, 193, 194, 195, 196, 197, 198, 199, 200, 201, 202, 203, 204, 205, 206, 207, 208, 209, 210, 211, 212, 213, 214, 215, 216, 217, 218, 219, 220, 221, 222, 223, 224, 225, 226, 227, 228, 229, 230, 231, 232, 233, 238, 239, 240, 241, 242, 243, 244, 245, 246, 247, 248, 249, 250, 251, 252, 253, 254, 255, 256, 257, 258, 259, 260, 261, 262, 263, 264, 265, 266, 267, 268, 269, 270, 271, 272, 273, 274, 275, 276, 277, 278, 279, 280, 281, 282, 283, 284, 285, 286, 287, 288, 289, 290, 291, 292, 293, 294, 295, 296, 297, 298, 299, 300, 301] (by decide +kernel) (by decide +kernel)
set_option maxRecDepth 20000 in
theorem gX11_total_X11_sheetOf : GoodIn wsX11_total (wsV RX11 215 RX11 yX11_sheetOf wsX11_sheetOf) := goodIn_app (goodIn_of _ (by decide +kernel)) ggX11_total_X11_sheetOf
set_option maxRecDepth 20000 in
theorem ggX11_total_X8_allPay : GoodIn wsX11_total wsX8_allPay := goodIn_r _ [237, 99, 248, 249, 250, 251, 252, 253, 254, 255, 256, 257, 258, 259, 260, 261] (by decide +kernel) (by decide +kernel)
set_option maxRecDepth 20000 in
theorem gX11_total_X8_allPay : GoodIn wsX11_total (wsV RX11 265 RX8 yX8_allPay wsX8_allPay) := goodIn_app (goodIn_of _ (by decide +kernel)) ggX11_total_X8_allPay
set_option maxRecDepth 20000 in
theorem ggX11_would_X11_freeMoment : GoodIn wsX11_would wsX11_freeMoment := goodIn_r _ [6, 7, 8, 9, 10, 11, 5, 12, 13, 14, 15, 16, 17, 18, 19, 20, 21, 22, 23, 24, 25, 26, 27, 28, 29, 30, 31, 277, 278, 279, 280, 281, 282, 283, 284, 285, 286, 287, 288, 289, 290, 291, 292, 293, 294, 295, 296, 297, 298, 299, 300, 301, 302, 303, 304] (by decide +kernel) (by decide +kernel)
set_option maxRecDepth 20000 in
theorem gX11_would_X11_freeMoment : GoodIn wsX11_would (wsV RX11 175 RX11 yX11_freeMoment wsX11_freeMoment) := goodIn_app (goodIn_of _ (by decide +kernel)) ggX11_would_X11_freeMoment
set_option maxRecDepth 20000 in
theorem ggX11_would_X11_payWith : GoodIn wsX11_would wsX11_payWith := goodIn_r _ [35, 36, 9, 37, 7, 38, 39, 40, 41, 24, 42, 26, 31, 43, 44, 45, 46, 47, 48, 49, 50, 51, 52, 53, 54, 55, 56, 57, 58, 59, 60, 61, 62, 63, 64, 65, 66, 67, 68, 69, 70, 71, 72, 73, 74, 75, 76, 77, 78, 79, 80, 81, 82, 83, 84, 85, 86, 87, 88, 89, 90, 91, 16, 92, 93, 94, 95, 96, 97, 20, 98, 99, 100, 101, 102, 103, 104, 105, 106, 107, 108, 109, 110, 111, 112, 113, 114, 115, 116, 117, 118, 119, 120, 121, 122, 123, 124, 125, 126, 127, 128, 129, 130, 131, 132, 133, 134, 135, 136, 137, 138, 139, 140, 141, 142, 143, 144, 145, 146, 147, 148, 149, 150, 151, 152, 153, 154, 155, 156, 157, 158, 159, 160, 161, 162, 163, 164, 165, 166, 167, 168, 169, 18, 19, 170, 171, 172, 173, 174, 175, 176, 177, 178, 179, 180, 181, 182, 183, 184, 185, 186, 187, 188, 189, 190, 191, 192, 193, 194, 195, 196, 197, 198, 199, 200, 201, 202, 203, 204, 205, 206, 207, 208, 209, 210, 211, 212, 213, 214, 215, 216, 217, 218, 219, 220, 221, 222, 223, 224, 225, 226, 227, 228, 229, 230, 231, 232, 233, 234, 235, 236, 237, 238, 239, 240, 241, 242, 243, 244, 245, 246, 247, 248, 249, 250, 251, 252, 253, 254, 255, 256, 257, 258, 259, 260, 261, 262, 263, 264, 265, 266, 267, 268, 269, 270, 277, 278, 279, 280, 281, 282, 283, 284, 285, 286, 302, 303, 304, 305, 306, 307, 308, 309, 310, 311, 312, 313, 314, 315, 316, 317, 318, 319, 320, 321, 287, 288, 289, 290, 291, 292, 293, 294, 295, 296, 297, 298, 299, 300, 301, 322, 323, 324, 325, 326, 327, 328, 329, 330, 331, 332, 333, 334, 335, 336, 337, 338, 339, 340] (by decide +kernel) (by decide +kernel)
set_option maxRecDepth 20000 in
theorem gX11_would_X11_payWith : GoodIn wsX11_would (wsV RX11 270 RX11 yX11_payWith wsX11_payWith) := goodIn_app (goodIn_of _ (by decide +kernel)) ggX11_would_X11_payWith
set_option maxRecDepth 20000 in
theorem ggX11_would_X11_sheetOf : GoodIn wsX11_would wsX11_sheetOf := goodIn_r _ [274, 275, 276, 9, 7, 38, 48, 49, 50, 51, 52, 53, 54, 55, 56, 57, 58, 59, 60, 61, 62, 63, 64, 65, 66, 67, 68, 69, 70, 71, 72, 73, 74, 75, 76, 77, 78, 79, 80, 81, 82, 83, 84, 85, 86, 87, 88, 89, 90, 91, 16, 92, 93, 94, 95, 96, 97, 20, 98, 99, 100, 101, 102, 103, 104, 105, 106, 107, 108, 109, 110, 111, 112, 113, 114, 115, 116, 117, 118, 119, 120, 121, 122, 123, 124, 125, 126, 127, 128, 129, 130, 131, 132, 133, 134, 135, 136, 137, 138, 139, 140, 141, 142, 143, 144, 145, 146, 147, 148, 149, 150, 151, 152, 153, 154, 155, 156, 157, 158, 159, 160, 161, 162, 163, 164, 165, 166, 167, 168, 169, 18, 19, 170, 171, 172, 173, 174, 175, 176, 177, 178, 179, 180, 181, 182, 183, 184, 185, 186, 187, 188, 189, 190, 191, 192, 193, 194, 195, 196, 197, 198, 199, 200, 201, 202, 203, 204, 205, 206, 207, 208, 209, 210, 211, 212, 213, 214, 215, 216, 217, 218, 219, 220, 221, 222, 223, 224, 225, 226, 227, 228, 229, 230, 231, 232, 233, 234, 235, 236, 237, 238, 239, 240, 241, 242, 243, 244, 245, 246, 247, 248, 249, 250, 251, 252, 253, 254, 255, 256, 257, 258, 259, 260, 261, 262, 263, 264, 265, 266, 277, 278, 279, 280, 281, 282, 283, 284, 285, 286, 305, 306, 307, 308, 309, 310, 311, 312, 313, 314, 315, 316, 317, 318, 319, 320, 321, 287, 288, 289, 290, 291, 292, 293, 294, 295, 296, 302, 303, 304, 297, 298, 299, 300, 301, 322, 323, 324, 325, 326, 327, 328, 329, 330, 331, 332, 333, 334, 335, 336, 337, 338, 339, 340] (by decide +kernel) (by decide +kernel)
set_option maxRecDepth 20000 in
theorem gX11_would_X11_sheetOf : GoodIn wsX11_would (wsV RX11 215 RX11 yX11_sheetOf wsX11_sheetOf) := goodIn_app (goodIn_of _ (by decide +kernel)) ggX11_would_X11_sheetOf
set_option maxRecDepth 20000 in
theorem ggX11_would_X8_allPay : GoodIn wsX11_would wsX8_allPay := goodIn_r _ [270, 134, 305, 306, 307, 308, 309, 310, 311, 312, 313, 314, 315, 316, 317, 318] (by decide +kernel) (by decide +kernel)
set_option maxRecDepth 20000 in
theorem gX11_would_X8_allPay : GoodIn wsX11_would (wsV RX11 265 RX8 yX8_allPay wsX8_allPay) := goodIn_app (goodIn_of _ (by decide +kernel)) ggX11_would_X8_allPay
set_option maxRecDepth 20000 in
theorem ggX11_dearest_X11_freeMoment : GoodIn wsX11_dearest wsX11_freeMoment := goodIn_r _ [5, 6, 7, 8, 9, 10, 4, 11, 12, 13, 14, 15, 16, 17, 18, 19, 20, 21, 22, 23, 24, 25, 26, 27, 28, 29, 30, 270, 271, 272, 273, 274, 275, 276, 277, 278, 279, 280, 281, 282, 283, 284, 285, 286, 287, 288, 289, 290, 291, 292, 293, 294, 295, 296, 297] (by decide +kernel) (by decide +kernel)
set_option maxRecDepth 20000 in
theorem gX11_dearest_X11_freeMoment : GoodIn wsX11_dearest (wsV RX11 175 RX11 yX11_freeMoment wsX11_freeMoment) := goodIn_app (goodIn_of _ (by decide +kernel)) ggX11_dearest_X11_freeMoment
set_option maxRecDepth 20000 in
theorem ggX11_dearest_X11_payWith : GoodIn wsX11_dearest wsX11_payWith := goodIn_r _ [34, 35, 8, 36, 6, 37, 38, 39, 40, 23, 41, 25, 30, 42, 43, 44, 45, 46, 47, 48, 49, 50, 51, 52, 53, 54, 55, 56, 57, 58, 59, 60, 61, 62, 63, 64, 65, 66, 67, 68, 69, 70, 71, 72, 73, 74, 75, 76, 77, 78, 79, 80, 81, 82, 83, 84, 85, 86, 87, 88, 89, 90, 15, 91, 92, 93, 94, 95, 96, 19, 97, 98, 99, 100, 101, 102, 103, 104, 105, 106, 107, 108, 109, 110, 111, 112, 113, 114, 115, 116, 117, 118, 119, 120, 121, 122, 123, 124, 125, 126, 127, 128, 129, 130, 131, 132, 133, 134, 135, 136, 137, 138, 139, 140, 141, 142, 143, 144, 145, 146, 147, 148, 149, 150, 151, 152, 153, 154, 155, 156, 157, 158, 159, 160, 161, 162, 163, 164, 165, 166, 167, 168, 17, 18, 169, 170, 171, 172, 173, 174, 175, 176, 177, 178, 179, 180, 181, 182, 183, 184, 185, 186, 187, 188, 189, 190, 191, 192, 193, 194, 195, 196, 197, 198, 199, 200, 201, 202, 203, 204, 205, 206, 207, 208, 209, 210, 211, 212, 213, 214, 215, 216, 217, 218, 219, 220, 221, 222, 223, 224, 225, 226, 227, 228, 229, 230, 231, 232, 233, 234, 235, 236, 237, 238, 239, 240, 241, 242, 243, 244, 245, 246, 247, 248, 249, 250, 251, 252, 253, 254, 255, 256, 257, 258, 259, 260, 261, 262, 263, 264, 265, 266, 267, 268, 269, 270, 271, 272, 273, 274, 275, 276, 277, 278, 279, 295, 296, 297, 298, 299, 300, 301, 302, 303, 304, 305, 306, 307, 308, 309, 310, 311, 312, 313, 314, 280, 281, 282, 283, 284, 285, 286, 287, 288, 289, 290, 291, 292, 293, 294, 315, 316, 317, 318, 319, 320, 321, 322, 323, 324, 325, 326, 327, 328, 329, 330, 331, 332, 333] (by decide +kernel) (by decide +kernel)
set_option maxRecDepth 20000 in
theorem gX11_dearest_X11_payWith : GoodIn wsX11_dearest (wsV RX11 270 RX11 yX11_payWith wsX11_payWith) := goodIn_app (goodIn_of _ (by decide +kernel)) ggX11_dearest_X11_payWith
set_option maxRecDepth 20000 in
theorem ggX11_worth_X11_isPremium : GoodIn wsX11_worth wsX11_isPremium := goodIn_r _ [9, 3, 10, 248, 249, 250, 251, 252, 253, 254, 255, 256, 257, 258, 259, 260, 261, 262, 263, 264, 265, 266, 267] (by decide +kernel) (by decide +kernel)
set_option maxRecDepth 20000 in
theorem gX11_worth_X11_isPremium : GoodIn wsX11_worth (wsV RX11 133 RX11 yX11_isPremium wsX11_isPremium) := goodIn_app (goodIn_of _ (by decide +kernel)) ggX11_worth_X11_isPremium
set_option maxRecDepth 20000 in
theorem ggX11_worth_X8_renew : GoodIn wsX11_worth wsX8_renew := goodIn_r _ [15, 16, 17, 18, 19, 20, 21, 22, 23, 24, 25, 14, 26, 27, 28, 29, 30, 31, 32, 33, 34, 35, 36, 37, 38, 39, 40, 41, 42, 43, 44, 45, 46, 47, 48, 49, 50, 51, 52, 53, 54, 55, 56, 57, 58, 59, 60, 61, 62, 63, 64, 65, 66, 67, 68, 69, 70, 71, 72, 73, 74, 75, 76, 77, 78, 79, 80, 81, 82, 83, 84, 85, 86, 87, 88, 89, 90, 91, 92, 93, 94, 95, 96, 97, 98, 99, 100, 101, 102, 103, 104, 105, 106, 107, 108, 109, 110, 111, 112, 113, 114, 115, 116, 117, 118, 119, 120, 121, 122, 123, 124, 125, 126, 127, 128, 129, 130, 131, 132, 133, 134, 135, 136, 137, 138, 139, 140, 141, 142, 143, 144, 145, 146, 147, 148, 149, 150, 151, 152, 153, 154, 155, 156, 157, 158, 159, 160, 161, 162, 163, 164, 165, 166, 167, 168, 169, 170, 171, 172, 173, 174, 175, 176, 177, 178, 179, 180, 181, 182, 183, 184, 185, 186, 187, 188, 189, 190, 191, 192, 193, 194, 195, 196, 197, 198, 199, 200, 201, 202, 203, 204, 205, 206, 207, 208, 209, 210, 211, 212, 213, 214, 215, 216, 217, 218, 219, 220, 221, 222, 223, 224, 225, 226, 227, 228, 229, 230, 231, 232, 233, 268, 269, 270, 271, 272, 273, 274, 275, 276, 277, 278, 279, 280, 281, 282, 283, 284, 258, 259, 260, 261, 262, 263, 264, 265, 266, 267, 285, 286, 287, 288, 289, 290, 291, 292, 293, 294, 295, 296, 297, 298, 299, 300, 301, 302, 303, 304, 305, 306, 307, 308, 309, 310, 311] (by decide +kernel) (by decide +kernel)
set_option maxRecDepth 20000 in
theorem gX11_worth_X8_renew : GoodIn wsX11_worth (wsV RX11 274 RX8 yX8_renew wsX8_renew) := goodIn_app (goodIn_of _ (by decide +kernel)) ggX11_worth_X8_renew
set_option maxRecDepth 20000 in
theorem ggX11_worth_X8_allPay : GoodIn wsX11_worth wsX8_allPay := goodIn_r _ [237, 99, 268, 269, 270, 271, 272, 273, 274, 275, 276, 277, 278, 279, 280, 281] (by decide +kernel) (by decide +kernel)
set_option maxRecDepth 20000 in
theorem gX11_worth_X8_allPay : GoodIn wsX11_worth (wsV RX11 265 RX8 yX8_allPay wsX8_allPay) := goodIn_app (goodIn_of _ (by decide +kernel)) ggX11_worth_X8_allPay
set_option maxRecDepth 20000 in
theorem ggX11_worth_X11_total : GoodIn wsX11_worth wsX11_total := goodIn_r _ [241, 242, 243, 244, 8, 245, 246, 247, 2, 3, 4, 11, 12, 13, 14, 15, 16, 17, 18, 19, 20, 21, 22, 23, 24, 25, 26, 27, 28, 29, 30, 31, 32, 33, 34, 35, 36, 37, 38, 39, 40, 41, 42, 43, 44, 45, 46, 47, 48, 49, 50, 51, 52, 53, 54, 55, 56, 57, 58, 59, 60, 61, 62, 63, 64, 65, 66, 67, 68, 69, 70, 71, 72, 73, 74, 75, 76, 77, 78, 79, 80, 81, 82, 83, 84, 85, 86, 87, 88, 89, 90, 91, 92, 93, 94, 95, 96, 97, 98, 99, 100, 101, 102, 103, 104, 105, 106, 107, 108, 109, 110, 111, 112, 113, 114, 115, 116, 117, 118, 119, 120, 121, 122, 123, 124, 125, 126, 127, 128, 129, 130, 131, 132, 133, 134, 135, 136, 137, 138, 139, 140, 141, 142, 143, 144, 145, 146, 147, 148, 149, 150, 151, 152, 153, 154, 155, 156, 157, 158, 159, 160, 161, 162, 163, 164, 165, 166, 167, 168, 169, 170, 171, 172, 173, 174, 175, 176, 177, 178, 179, 180, 181, 182, 183, 184, 185, 186, 187, 188, 189, 190, 191, 192, 193, 194, 195, 196, 197, 198, 199, 200, 201, 202, 203, 204, 205, 206, 207, 208, 209, 210, 211, 212, 213, 214, 215, 216, 217, 218, 219, 220, 221, 222, 223, 224, 225, 226, 227, 228, 229, 230, 231, 232, 233, 234, 235, 236, 237, 248, 249, 250, 251, 252, 253, 254, 255, 256, 257, 268, 269, 270, 271, 272, 273, 274, 275, 276, 277, 278, 279, 280, 281, 282, 283, 284, 258, 259, 260, 261, 262, 263, 264, 265, 266, 267, 285, 286, 287, 288, 289, 290, 291, 292, 293, 294, 295, 296, 297, 298, 299, 300, 301, 302, 303, 304, 305, 306, 307, 308, 309, 310, 311] (by decide +kernel) (by decide +kernel)
set_option maxRecDepth 20000 in
theorem gX11_worth_X11_total : GoodIn wsX11_worth (wsV RX11 278 RX11 yX11_total wsX11_total) := goodIn_app (goodIn_of _ (by decide +kernel)) ggX11_worth_X11_total
set_option maxRecDepth 20000 in
theorem ggX11_together_X11_isWorker : GoodIn wsX11_together wsX11_isWorker := goodIn_r _ [7] (by decide +kernel) (by decide +kernel)
set_option maxRecDepth 20000 in
theorem gX11_together_X11_isWorker : GoodIn wsX11_together (va_wsS RX11 190 yX11_isWorker wsX11_isWorker) := goodIn_app (goodIn_of _ (by decide +kernel)) ggX11_together_X11_isWorker
set_option maxRecDepth 20000 in
theorem ggX11_together_X11_sheetOf : GoodIn wsX11_together wsX11_sheetOf := goodIn_r _ [11, 12, 13, 14, 2, 15, 16, 17, 18, 19, 20, 21, 22, 23, 24, 25, 26, 27, 28, 29, 30, 31, 32, 33, 34, 35, 36, 37, 38, 39, 40, 41, 42, 43, 44, 45, 46, 47, 48, 49, 50, 51, 52, 53, 54, 55, 56, 57, 58, 59, 60, 61, 62, 63, 64, 65, 66, 67, 68, 69, 70, 71, 72, 73, 74, 75, 76, 77, 78, 79, 80, 81, 82, 83, 84, 85, 86, 87, 88, 89, 90, 91, 92, 93, 94, 95, 96, 97, 98, 99, 100, 101, 102, 103, 104, 105, 106, 107, 108, 109, 110, 111, 112, 113, 114, 115, 116, 117, 118, 119, 120, 121, 122, 123, 124, 125, 126, 127, 128, 129, 130, 131, 132, 133, 134, 135, 136, 137, 138, 139, 140, 141, 142, 143, 144, 145, 146, 147, 148, 149, 150, 151, 152, 153, 154, 155, 156, 157, 158, 159, 160, 161, 162, 163, 164, 165, 166, 167, 168, 169, 170, 171, 172, 173, 174, 175, 176, 177, 178, 179, 180, 181, 182, 183, 184, 185, 186, 187, 188, 189, 190, 191, 192, 193, 194, 195, 196, 197, 198, 199, 200, 201, 202, 203, 204, 205, 206, 207, 208, 209, 210, 211, 212, 213, 214, 215, 216, 217, 218, 219, 220, 221, 222, 223, 224, 225, 226, 227, 228, 229, 230, 231, 232, 233, 234, 235, 236, 237, 238, 254, 255, 256, 257, 258, 259, 260, 261, 262, 263, 240, 241, 242, 243, 244, 245, 246, 247, 248, 249, 250, 251, 252, 253, 274, 275, 276, 264, 265, 266, 267, 268, 269, 270, 271, 272, 273, 277, 278, 279, 280, 281, 282, 283, 284, 285, 286, 287, 288, 289, 290, 291, 292, 293, 294, 295, 296, 297, 298, 299, 300, 301, 302, 303] (by decide +kernel) (by decide +kernel)
set_option maxRecDepth 20000 in
theorem gX11_together_X11_sheetOf : GoodIn wsX11_together (wsV RX11 215 RX11 yX11_sheetOf wsX11_sheetOf) := goodIn_app (goodIn_of _ (by decide +kernel)) ggX11_together_X11_sheetOf
set_option maxRecDepth 20000 in
theorem ggX11_together_X2_quartersAhead : GoodIn wsX11_together wsX2_quartersAhead := goodIn_r _ [61, 62, 63, 64, 60, 65, 66, 67, 280, 281, 282, 283, 284] (by decide +kernel) (by decide +kernel)
set_option maxRecDepth 20000 in
theorem gX11_together_X2_quartersAhead : GoodIn wsX11_together (wsV RX11 234 RX2 yX2_quartersAhead wsX2_quartersAhead) := goodIn_app (goodIn_of _ (by decide +kernel)) ggX11_together_X2_quartersAhead
set_option maxRecDepth 20000 in
theorem ggX11_freeMoment_X11_isWorker : GoodIn wsX11_freeMoment wsX11_isWorker := goodIn_r _ [7] (by decide +kernel) (by decide +kernel)
set_option maxRecDepth 20000 in
theorem gX11_freeMoment_X11_isWorker : GoodIn wsX11_freeMoment (va_wsS RX11 190 yX11_isWorker wsX11_isWorker) := goodIn_app (goodIn_of _ (by decide +kernel)) ggX11_freeMoment_X11_isWorker
set_option maxRecDepth 20000 in
theorem ggX11_freeMoment_X2_momentAt : GoodIn wsX11_freeMoment wsX2_momentAt := goodIn_r _ [12, 13, 14, 15, 47, 48, 49, 50, 51] (by decide +kernel) (by decide +kernel)
set_option maxRecDepth 20000 in
theorem gX11_freeMoment_X2_momentAt : GoodIn wsX11_freeMoment (wsV RX11 161 RX2 yX2_momentAt wsX2_momentAt) := goodIn_app (goodIn_of _ (by decide +kernel)) ggX11_freeMoment_X2_momentAt
set_option maxRecDepth 20000 in
theorem ggX11_freeMoment_X1_takes : GoodIn wsX11_freeMoment wsX1_takes := goodIn_r _ [20, 21, 22, 23, 24, 19, 25, 26, 52, 53, 54] (by decide +kernel) (by decide +kernel)
set_option maxRecDepth 20000 in
theorem gX11_freeMoment_X1_takes : GoodIn wsX11_freeMoment (wsV RX11 281 RX1 yX1_takes wsX1_takes) := goodIn_app (goodIn_of _ (by decide +kernel)) ggX11_freeMoment_X1_takes
set_option maxRecDepth 20000 in
theorem ggX11_sheetOf_X8_renew : GoodIn wsX11_sheetOf wsX8_renew := goodIn_r _ [10, 11, 12, 13, 14, 15, 16, 17, 18, 19, 20, 9, 21, 22, 23, 24, 25, 26, 27, 28, 29, 30, 31, 32, 33, 34, 35, 36, 37, 38, 39, 40, 41, 42, 43, 44, 45, 46, 47, 48, 49, 50, 51, 52, 53, 54, 55, 56, 57, 58, 59, 60, 61, 62, 63, 64, 65, 66, 67, 68, 69, 70, 71, 72, 73, 74, 75, 76, 77, 78, 79, 80, 81, 82, 83, 84, 85, 86, 87, 88, 89, 90, 91, 92, 93, 94, 95, 96, 97, 98, 99, 100, 101, 102, 103, 104, 105, 106, 107, 108, 109, 110, 111, 112, 113, 114, 115, 116, 117, 118, 119, 120, 121, 122, 123, 124, 125, 126, 127, 128, 129, 130, 131, 132, 133, 134, 135, 136, 137, 138, 139, 140, 141, 142, 143, 144, 145, 146, 147, 148, 149, 150, 151, 152, 153, 154, 155, 156, 157, 158, 159, 160, 161, 162, 163, 164, 165, 166, 167, 168, 169, 170, 171, 172, 173, 174, 175, 176, 177, 178, 179, 180, 181, 182, 183, 184, 185, 186, 187, 188, 189, 190, 191, 192, 193, 194, 195, 196, 197, 198, 199, 200, 201, 202, 203, 204, 205, 206, 207, 208, 209, 210, 211, 212, 213, 214, 215, 216, 217, 218, 219, 220, 221, 222, 223, 224, 225, 226, 227, 228, 239, 240, 241, 242, 243, 244, 245, 246, 247, 248, 249, 250, 251, 252, 253, 254, 255, 256, 257, 258, 259, 260, 261, 262, 263, 264, 265, 266, 267, 268, 269, 270, 271, 272, 273, 274, 275, 276, 277, 278, 279, 280, 281, 282, 283, 284, 285, 286, 287, 288, 289, 290, 291, 292] (by decide +kernel) (by decide +kernel)
set_option maxRecDepth 20000 in
theorem gX11_sheetOf_X8_renew : GoodIn wsX11_sheetOf (wsV RX11 274 RX8 yX8_renew wsX8_renew) := goodIn_app (goodIn_of _ (by decide +kernel)) ggX11_sheetOf_X8_renew
set_option maxRecDepth 20000 in
theorem ggX11_payWith_X1_copy : GoodIn wsX11_payWith wsX1_copy := goodIn_r _ [10, 11, 12, 13, 255, 256, 257] (by decide +kernel) (by decide +kernel)
set_option maxRecDepth 20000 in
theorem gX11_payWith_X1_copy : GoodIn wsX11_payWith (wsV RX11 284 RX1 yX1_copy wsX1_copy) := goodIn_app (goodIn_of _ (by decide +kernel)) ggX11_payWith_X1_copy
set_option maxRecDepth 20000 in
theorem ggX11_payWith_X1_add : GoodIn wsX11_payWith wsX1_add := goodIn_r _ [17, 11, 12, 13, 255, 256, 257] (by decide +kernel) (by decide +kernel)
set_option maxRecDepth 20000 in
theorem gX11_payWith_X1_add : GoodIn wsX11_payWith (wsV RX11 179 RX1 yX1_add wsX1_add) := goodIn_app (goodIn_of _ (by decide +kernel)) ggX11_payWith_X1_add
set_option maxRecDepth 20000 in
theorem ggX11_payWith_X8_renew : GoodIn wsX11_payWith wsX8_renew := goodIn_r _ [22, 23, 24, 25, 26, 27, 28, 29, 30, 31, 32, 21, 33, 34, 35, 36, 37, 38, 39, 40, 41, 42, 43, 44, 45, 46, 47, 48, 49, 50, 51, 52, 53, 54, 55, 56, 57, 58, 59, 60, 61, 62, 63, 64, 65, 66, 67, 68, 69, 70, 71, 72, 73, 74, 75, 76, 77, 78, 79, 80, 81, 82, 83, 84, 85, 86, 87, 88, 89, 90, 91, 92, 93, 94, 95, 96, 97, 98, 99, 100, 101, 102, 103, 104, 105, 106, 107, 108, 109, 110, 111, 112, 113, 114, 115, 116, 117, 118, 119, 120, 121, 122, 123, 124, 125, 126, 127, 128, 129, 130, 131, 132, 133, 134, 135, 136, 137, 138, 139, 140, 141, 142, 143, 144, 145, 146, 147, 148, 149, 150, 151, 152, 153, 154, 155, 156, 157, 158, 159, 160, 161, 162, 163, 164, 165, 166, 167, 168, 169, 170, 171, 172, 173, 174, 175, 176, 177, 178, 179, 180, 181, 182, 183, 184, 185, 186, 187, 188, 189, 190, 191, 192, 193, 194, 195, 196, 197, 198, 199, 200, 201, 202, 203, 204, 205, 206, 207, 208, 209, 210, 211, 212, 213, 214, 215, 216, 217, 218, 219, 220, 221, 222, 223, 224, 225, 226, 227, 228, 229, 230, 231, 232, 233, 234, 235, 236, 237, 238, 239, 240, 258, 259, 260, 261, 262, 263, 264, 265, 266, 267, 268, 269, 270, 271, 272, 273, 274, 275, 276, 277, 278, 279, 280, 281, 282, 283, 284, 255, 256, 257, 285, 286, 287, 288, 289, 290, 291, 292, 293, 294, 295, 296, 297, 298, 299, 300, 301, 302, 303, 304, 305, 306, 307, 308] (by decide +kernel) (by decide +kernel)
set_option maxRecDepth 20000 in
theorem gX11_payWith_X8_renew : GoodIn wsX11_payWith (wsV RX11 274 RX8 yX8_renew wsX8_renew) := goodIn_app (goodIn_of _ (by decide +kernel)) ggX11_payWith_X8_renew
set_option maxRecDepth 20000 in
theorem ggX11_payWith_X8_allPay : GoodIn wsX11_payWith wsX8_allPay := goodIn_r _ [244, 106, 258, 259, 260, 261, 262, 263, 264, 265, 266, 267, 268, 269, 270, 271] (by decide +kernel) (by decide +kernel)
set_option maxRecDepth 20000 in
theorem gX11_payWith_X8_allPay : GoodIn wsX11_payWith (wsV RX11 265 RX8 yX8_allPay wsX8_allPay) := goodIn_app (goodIn_of _ (by decide +kernel)) ggX11_payWith_X8_allPay
set_option maxRecDepth 20000 in
theorem ggX12_feed_X12_puts : GoodIn wsX12_feed wsX12_puts := goodIn_r _ [7, 8, 2, 9, 10, 11, 12, 13, 14, 15, 16, 17, 18, 19, 20, 21, 22, 23, 24, 25, 26, 27, 28, 29, 30, 31, 32, 33, 34, 35, 36, 37, 38, 39, 40, 41, 42, 43, 44, 45, 46] (by decide +kernel) (by decide +kernel)
set_option maxRecDepth 20000 in
theorem gX12_feed_X12_puts : GoodIn wsX12_feed (wsV RX12 10 RX12 yX12_puts wsX12_puts) := goodIn_app (goodIn_of _ (by decide +kernel)) ggX12_feed_X12_puts
set_option maxRecDepth 20000 in
theorem ggX12_go_X12_byteAt : GoodIn wsX12_go wsX12_byteAt := goodIn_r _ [10, 11, 12, 16, 17, 18, 19, 20, 21, 22, 23, 24, 25, 26, 27, 28, 29, 30, 31, 32, 33, 34, 35, 36, 37, 38, 39, 40, 41, 42, 43, 44, 45, 46, 47, 48, 49, 50, 51, 52, 53] (by decide +kernel) (by decide +kernel)
set_option maxRecDepth 20000 in
theorem gX12_go_X12_byteAt : GoodIn wsX12_go (wsV RX12 24 RX12 yX12_byteAt wsX12_byteAt) := goodIn_app (goodIn_of _ (by decide +kernel)) ggX12_go_X12_byteAt
set_option maxRecDepth 20000 in
theorem ggX12_go_X12_within : GoodIn wsX12_go wsX12_within := goodIn_r _ [15] (by decide +kernel) (by decide +kernel)
set_option maxRecDepth 20000 in
theorem gX12_go_X12_within : GoodIn wsX12_go (va_wsS RX12 34 yX12_within wsX12_within) := goodIn_app (goodIn_of _ (by decide +kernel)) ggX12_go_X12_within
set_option maxRecDepth 20000 in
theorem ggX12_isWord_X12_byteAt : GoodIn wsX12_isWord wsX12_byteAt := goodIn_r _ [9, 10, 11, 12, 13, 14, 15, 16, 17, 18, 19, 20, 21, 22, 23, 24, 25, 26, 27, 28, 29, 30, 31, 32, 33, 34, 35, 36, 37, 38, 39, 40, 41, 42, 43, 44, 45, 46, 47, 48, 49] (by decide +kernel) (by decide +kernel)
set_option maxRecDepth 20000 in
theorem gX12_isWord_X12_byteAt : GoodIn wsX12_isWord (wsV RX12 24 RX12 yX12_byteAt wsX12_byteAt) := goodIn_app (goodIn_of _ (by decide +kernel)) ggX12_isWord_X12_byteAt
set_option maxRecDepth 20000 in
theorem ggX12_number_X12_bad : GoodIn wsX12_number wsX12_bad := goodIn_r _ [8, 9, 10, 26, 27, 28, 29, 30, 31, 32, 33, 34, 35, 36, 37, 38, 39, 40, 41, 42, 43, 44, 45, 46, 47, 48, 49, 50, 51, 52, 53, 54, 55, 56, 57, 58, 59, 60, 61, 62, 63] (by decide +kernel) (by decide +kernel)
set_option maxRecDepth 20000 in
theorem gX12_number_X12_bad : GoodIn wsX12_number (wsV RX12 45 RX12 yX12_bad wsX12_bad) := goodIn_app (goodIn_of _ (by decide +kernel)) ggX12_number_X12_bad
set_option maxRecDepth 20000 in
theorem ggX12_number_X12_within : GoodIn wsX12_number wsX12_within := goodIn_r _ [13] (by decide +kernel) (by decide +kernel)
set_option maxRecDepth 20000 in
theorem gX12_number_X12_within : GoodIn wsX12_number (va_wsS RX12 34 yX12_within wsX12_within) := goodIn_app (goodIn_of _ (by decide +kernel)) ggX12_number_X12_within
set_option maxRecDepth 20000 in
theorem ggX12_number_X12_go : GoodIn wsX12_number wsX12_go := goodIn_r _ [17, 18, 10, 1, 2, 19, 20, 21, 22, 7, 23, 24, 25, 11, 12, 13, 26, 27, 28, 29, 30, 31, 32, 33, 34, 35, 36, 37, 38, 39, 40, 41, 42, 43, 44, 45, 46, 47, 48, 49, 50, 51, 52, 53, 54, 55, 56, 57, 58, 59, 60, 61, 62, 63] (by decide +kernel) (by decide +kernel)
set_option maxRecDepth 20000 in
theorem gX12_number_X12_go : GoodIn wsX12_number (wsV RX12 52 RX12 yX12_go wsX12_go) := goodIn_app (goodIn_of _ (by decide +kernel)) ggX12_number_X12_go
