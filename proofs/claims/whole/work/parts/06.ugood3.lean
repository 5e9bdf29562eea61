set_option maxRecDepth 20000 in
theorem ggX12_init_X12_clearsDraft : GoodIn wsX12_init wsX12_clearsDraft := goodIn_r _ [35, 8, 36, 41, 42, 43, 44, 45, 46, 47, 48, 49, 50, 51, 52, 53, 54, 55, 56, 57, 58, 59, 60, 61, 62, 63, 64, 65, 66, 67, 68, 69, 70, 71, 72, 73, 74, 75, 76, 77, 78] (by decide +kernel) (by decide +kernel)
set_option maxRecDepth 20000 in
theorem gX12_init_X12_clearsDraft : GoodIn wsX12_init (wsV RX12 130 RX12 yX12_clearsDraft wsX12_clearsDraft) := goodIn_app (goodIn_of _ (by decide +kernel)) ggX12_init_X12_clearsDraft
set_option maxRecDepth 20000 in
theorem ggX12_init_X12_takes : GoodIn wsX12_init wsX12_takes := goodIn_r _ [40, 7, 8, 41, 42, 43, 44, 45, 46, 47, 48, 49, 50, 51, 52, 53, 54, 55, 56, 57, 58, 59, 60, 61, 62, 63, 64, 65, 66, 67, 68, 69, 70, 71, 72, 73, 74, 75, 76, 77, 78] (by decide +kernel) (by decide +kernel)
set_option maxRecDepth 20000 in
theorem gX12_init_X12_takes : GoodIn wsX12_init (wsV RX12 133 RX12 yX12_takes wsX12_takes) := goodIn_app (goodIn_of _ (by decide +kernel)) ggX12_init_X12_takes
set_option maxRecDepth 20000 in
theorem ggX12_once_X12_bad : GoodIn wsX12_once wsX12_bad := goodIn_r _ [6, 7, 8, 26, 27, 28, 29, 30, 31, 32, 33, 34, 35, 36, 37, 38, 39, 40, 41, 42, 43, 44, 45, 46, 47, 48, 49, 50, 51, 52, 53, 54, 55, 56, 57, 58, 59, 60, 61, 62, 63] (by decide +kernel) (by decide +kernel)
set_option maxRecDepth 20000 in
theorem gX12_once_X12_bad : GoodIn wsX12_once (wsV RX12 45 RX12 yX12_bad wsX12_bad) := goodIn_app (goodIn_of _ (by decide +kernel)) ggX12_once_X12_bad
set_option maxRecDepth 20000 in
theorem ggX12_once_X12_go : GoodIn wsX12_once wsX12_go := goodIn_r _ [12, 13, 8, 14, 15, 16, 17, 18, 19, 5, 20, 21, 22, 23, 24, 25, 26, 27, 28, 29, 30, 31, 32, 33, 34, 35, 36, 37, 38, 39, 40, 41, 42, 43, 44, 45, 46, 47, 48, 49, 50, 51, 52, 53, 54, 55, 56, 57, 58, 59, 60, 61, 62, 63] (by decide +kernel) (by decide +kernel)
set_option maxRecDepth 20000 in
theorem gX12_once_X12_go : GoodIn wsX12_once (wsV RX12 52 RX12 yX12_go wsX12_go) := goodIn_app (goodIn_of _ (by decide +kernel)) ggX12_once_X12_go
set_option maxRecDepth 20000 in
theorem ggX12_clockLine_X12_once : GoodIn wsX12_clockLine wsX12_once := goodIn_r _ [7, 8, 9, 10, 11, 6, 12, 13, 14, 15, 16, 17, 18, 19, 20, 21, 22, 23, 24, 25, 26, 27, 28, 29, 30, 31, 41, 42, 43, 44, 45, 46, 47, 48, 49, 50, 51, 52, 53, 54, 55, 56, 57, 58, 59, 60, 61, 62, 63, 64, 65, 66, 67, 68, 69, 70, 71, 72, 73, 74, 75, 76, 77, 78] (by decide +kernel) (by decide +kernel)
set_option maxRecDepth 20000 in
theorem gX12_clockLine_X12_once : GoodIn wsX12_clockLine (wsV RX12 139 RX12 yX12_once wsX12_once) := goodIn_app (goodIn_of _ (by decide +kernel)) ggX12_clockLine_X12_once
set_option maxRecDepth 20000 in
theorem ggX12_clockLine_X12_number : GoodIn wsX12_clockLine wsX12_number := goodIn_r _ [35, 20, 21, 2, 9, 10, 11, 6, 12, 13, 14, 29, 30, 31, 15, 16, 17, 18, 19, 22, 23, 24, 25, 26, 27, 28, 41, 42, 43, 44, 45, 46, 47, 48, 49, 50, 51, 52, 53, 54, 55, 56, 57, 58, 59, 60, 61, 62, 63, 64, 65, 66, 67, 68, 69, 70, 71, 72, 73, 74, 75, 76, 77, 78] (by decide +kernel) (by decide +kernel)
set_option maxRecDepth 20000 in
theorem gX12_clockLine_X12_number : GoodIn wsX12_clockLine (wsV RX12 142 RX12 yX12_number wsX12_number) := goodIn_app (goodIn_of _ (by decide +kernel)) ggX12_clockLine_X12_number
set_option maxRecDepth 20000 in
theorem ggX12_clockLine_X12_isWord : GoodIn wsX12_clockLine wsX12_isWord := goodIn_r _ [39, 40, 20, 19, 14, 23, 24, 25, 6, 26, 27, 28, 41, 42, 43, 44, 45, 46, 47, 48, 49, 50, 51, 52, 53, 54, 55, 56, 57, 58, 59, 60, 61, 62, 63, 64, 65, 66, 67, 68, 69, 70, 71, 72, 73, 74, 75, 76, 77, 78] (by decide +kernel) (by decide +kernel)
set_option maxRecDepth 20000 in
theorem gX12_clockLine_X12_isWord : GoodIn wsX12_clockLine (wsV RX12 146 RX12 yX12_isWord wsX12_isWord) := goodIn_app (goodIn_of _ (by decide +kernel)) ggX12_clockLine_X12_isWord
set_option maxRecDepth 20000 in
theorem ggX12_clockLine_X12_bad : GoodIn wsX12_clockLine wsX12_bad := goodIn_r _ [12, 13, 14, 41, 42, 43, 44, 45, 46, 47, 48, 49, 50, 51, 52, 53, 54, 55, 56, 57, 58, 59, 60, 61, 62, 63, 64, 65, 66, 67, 68, 69, 70, 71, 72, 73, 74, 75, 76, 77, 78] (by decide +kernel) (by decide +kernel)
set_option maxRecDepth 20000 in
theorem gX12_clockLine_X12_bad : GoodIn wsX12_clockLine (wsV RX12 45 RX12 yX12_bad wsX12_bad) := goodIn_app (goodIn_of _ (by decide +kernel)) ggX12_clockLine_X12_bad
set_option maxRecDepth 20000 in
theorem ggX12_clockLine_X12_go : GoodIn wsX12_clockLine wsX12_go := goodIn_r _ [18, 19, 14, 20, 21, 22, 23, 24, 25, 6, 26, 27, 28, 29, 30, 31, 41, 42, 43, 44, 45, 46, 47, 48, 49, 50, 51, 52, 53, 54, 55, 56, 57, 58, 59, 60, 61, 62, 63, 64, 65, 66, 67, 68, 69, 70, 71, 72, 73, 74, 75, 76, 77, 78] (by decide +kernel) (by decide +kernel)
set_option maxRecDepth 20000 in
theorem gX12_clockLine_X12_go : GoodIn wsX12_clockLine (wsV RX12 52 RX12 yX12_go wsX12_go) := goodIn_app (goodIn_of _ (by decide +kernel)) ggX12_clockLine_X12_go
set_option maxRecDepth 20000 in
theorem ggX12_feastLine_X12_bad : GoodIn wsX12_feastLine wsX12_bad := goodIn_r _ [9, 10, 11, 31, 32, 33, 34, 35, 36, 37, 38, 39, 40, 41, 42, 43, 44, 45, 46, 47, 48, 49, 50, 51, 52, 53, 54, 55, 56, 57, 58, 59, 60, 61, 62, 63, 64, 65, 66, 67, 68] (by decide +kernel) (by decide +kernel)
set_option maxRecDepth 20000 in
theorem gX12_feastLine_X12_bad : GoodIn wsX12_feastLine (wsV RX12 45 RX12 yX12_bad wsX12_bad) := goodIn_app (goodIn_of _ (by decide +kernel)) ggX12_feastLine_X12_bad
set_option maxRecDepth 20000 in
theorem ggX12_feastLine_X12_go : GoodIn wsX12_feastLine wsX12_go := goodIn_r _ [15, 16, 11, 2, 3, 17, 18, 19, 20, 8, 21, 22, 23, 24, 25, 26, 31, 32, 33, 34, 35, 36, 37, 38, 39, 40, 41, 42, 43, 44, 45, 46, 47, 48, 49, 50, 51, 52, 53, 54, 55, 56, 57, 58, 59, 60, 61, 62, 63, 64, 65, 66, 67, 68] (by decide +kernel) (by decide +kernel)
set_option maxRecDepth 20000 in
theorem gX12_feastLine_X12_go : GoodIn wsX12_feastLine (wsV RX12 52 RX12 yX12_go wsX12_go) := goodIn_app (goodIn_of _ (by decide +kernel)) ggX12_feastLine_X12_go
set_option maxRecDepth 20000 in
theorem ggX12_feastLine_X12_within : GoodIn wsX12_feastLine wsX12_within := goodIn_r _ [26] (by decide +kernel) (by decide +kernel)
set_option maxRecDepth 20000 in
theorem gX12_feastLine_X12_within : GoodIn wsX12_feastLine (va_wsS RX12 34 yX12_within wsX12_within) := goodIn_app (goodIn_of _ (by decide +kernel)) ggX12_feastLine_X12_within
set_option maxRecDepth 20000 in
theorem ggX12_feastLine_X12_number : GoodIn wsX12_feastLine wsX12_number := goodIn_r _ [30, 2, 3, 4, 5, 6, 7, 8, 9, 10, 11, 24, 25, 26, 12, 13, 14, 15, 16, 17, 18, 19, 20, 21, 22, 23, 31, 32, 33, 34, 35, 36, 37, 38, 39, 40, 41, 42, 43, 44, 45, 46, 47, 48, 49, 50, 51, 52, 53, 54, 55, 56, 57, 58, 59, 60, 61, 62, 63, 64, 65, 66, 67, 68] (by decide +kernel) (by decide +kernel)
set_option maxRecDepth 20000 in
theorem gX12_feastLine_X12_number : GoodIn wsX12_feastLine (wsV RX12 142 RX12 yX12_number wsX12_number) := goodIn_app (goodIn_of _ (by decide +kernel)) ggX12_feastLine_X12_number
set_option maxRecDepth 20000 in
theorem ggX12_mealLine_X12_once : GoodIn wsX12_mealLine wsX12_once := goodIn_r _ [7, 8, 9, 10, 11, 6, 12, 13, 14, 15, 16, 17, 18, 19, 20, 21, 22, 23, 24, 25, 26, 27, 28, 29, 30, 31, 36, 37, 38, 39, 40, 41, 42, 43, 44, 45, 46, 47, 48, 49, 50, 51, 52, 53, 54, 55, 56, 57, 58, 59, 60, 61, 62, 63, 64, 65, 66, 67, 68, 69, 70, 71, 72, 73] (by decide +kernel) (by decide +kernel)
set_option maxRecDepth 20000 in
theorem gX12_mealLine_X12_once : GoodIn wsX12_mealLine (wsV RX12 139 RX12 yX12_once wsX12_once) := goodIn_app (goodIn_of _ (by decide +kernel)) ggX12_mealLine_X12_once
set_option maxRecDepth 20000 in
theorem ggX12_mealLine_X12_number : GoodIn wsX12_mealLine wsX12_number := goodIn_r _ [35, 20, 21, 2, 9, 10, 11, 6, 12, 13, 14, 29, 30, 31, 15, 16, 17, 18, 19, 22, 23, 24, 25, 26, 27, 28, 36, 37, 38, 39, 40, 41, 42, 43, 44, 45, 46, 47, 48, 49, 50, 51, 52, 53, 54, 55, 56, 57, 58, 59, 60, 61, 62, 63, 64, 65, 66, 67, 68, 69, 70, 71, 72, 73] (by decide +kernel) (by decide +kernel)
set_option maxRecDepth 20000 in
theorem gX12_mealLine_X12_number : GoodIn wsX12_mealLine (wsV RX12 142 RX12 yX12_number wsX12_number) := goodIn_app (goodIn_of _ (by decide +kernel)) ggX12_mealLine_X12_number
set_option maxRecDepth 20000 in
theorem ggX12_oneLine_X12_once : GoodIn wsX12_oneLine wsX12_once := goodIn_r _ [7, 8, 9, 10, 11, 6, 12, 13, 14, 15, 16, 17, 18, 19, 20, 21, 22, 23, 24, 25, 26, 27, 28, 29, 30, 31, 36, 37, 38, 39, 40, 41, 42, 43, 44, 45, 46, 47, 48, 49, 50, 51, 52, 53, 54, 55, 56, 57, 58, 59, 60, 61, 62, 63, 64, 65, 66, 67, 68, 69, 70, 71, 72, 73] (by decide +kernel) (by decide +kernel)
set_option maxRecDepth 20000 in
theorem gX12_oneLine_X12_once : GoodIn wsX12_oneLine (wsV RX12 139 RX12 yX12_once wsX12_once) := goodIn_app (goodIn_of _ (by decide +kernel)) ggX12_oneLine_X12_once
set_option maxRecDepth 20000 in
theorem ggX12_oneLine_X12_number : GoodIn wsX12_oneLine wsX12_number := goodIn_r _ [35, 20, 21, 2, 9, 10, 11, 6, 12, 13, 14, 29, 30, 31, 15, 16, 17, 18, 19, 22, 23, 24, 25, 26, 27, 28, 36, 37, 38, 39, 40, 41, 42, 43, 44, 45, 46, 47, 48, 49, 50, 51, 52, 53, 54, 55, 56, 57, 58, 59, 60, 61, 62, 63, 64, 65, 66, 67, 68, 69, 70, 71, 72, 73] (by decide +kernel) (by decide +kernel)
set_option maxRecDepth 20000 in
theorem gX12_oneLine_X12_number : GoodIn wsX12_oneLine (wsV RX12 142 RX12 yX12_number wsX12_number) := goodIn_app (goodIn_of _ (by decide +kernel)) ggX12_oneLine_X12_number
set_option maxRecDepth 20000 in
theorem ggX12_kindOf_X12_isWord : GoodIn wsX12_kindOf wsX12_isWord := goodIn_r _ [5, 6, 7, 8, 9, 10, 11, 12, 4, 13, 14, 15, 16, 17, 18, 19, 20, 21, 22, 23, 24, 25, 26, 27, 28, 29, 30, 31, 32, 33, 34, 35, 36, 37, 38, 39, 40, 41, 42, 43, 44, 45, 46, 47, 48, 49, 50, 51, 52, 53] (by decide +kernel) (by decide +kernel)
set_option maxRecDepth 20000 in
theorem gX12_kindOf_X12_isWord : GoodIn wsX12_kindOf (wsV RX12 146 RX12 yX12_isWord wsX12_isWord) := goodIn_app (goodIn_of _ (by decide +kernel)) ggX12_kindOf_X12_isWord
set_option maxRecDepth 20000 in
theorem ggX12_premiumLine_X12_bad : GoodIn wsX12_premiumLine wsX12_bad := goodIn_r _ [9, 10, 11, 40, 41, 42, 43, 44, 45, 46, 47, 48, 49, 50, 51, 52, 53, 54, 55, 56, 57, 58, 59, 60, 61, 62, 63, 64, 65, 66, 67, 68, 69, 70, 71, 72, 73, 74, 75, 76, 77] (by decide +kernel) (by decide +kernel)
set_option maxRecDepth 20000 in
theorem gX12_premiumLine_X12_bad : GoodIn wsX12_premiumLine (wsV RX12 45 RX12 yX12_bad wsX12_bad) := goodIn_app (goodIn_of _ (by decide +kernel)) ggX12_premiumLine_X12_bad
set_option maxRecDepth 20000 in
theorem ggX12_premiumLine_X12_go : GoodIn wsX12_premiumLine wsX12_go := goodIn_r _ [15, 16, 11, 3, 4, 17, 18, 19, 20, 8, 21, 22, 23, 24, 25, 26, 40, 41, 42, 43, 44, 45, 46, 47, 48, 49, 50, 51, 52, 53, 54, 55, 56, 57, 58, 59, 60, 61, 62, 63, 64, 65, 66, 67, 68, 69, 70, 71, 72, 73, 74, 75, 76, 77] (by decide +kernel) (by decide +kernel)
set_option maxRecDepth 20000 in
theorem gX12_premiumLine_X12_go : GoodIn wsX12_premiumLine (wsV RX12 52 RX12 yX12_go wsX12_go) := goodIn_app (goodIn_of _ (by decide +kernel)) ggX12_premiumLine_X12_go
set_option maxRecDepth 20000 in
theorem ggX12_premiumLine_X12_kindOf : GoodIn wsX12_premiumLine wsX12_kindOf := goodIn_r _ [30, 31, 32, 33, 8, 34, 35, 3, 16, 11, 18, 19, 20, 21, 22, 23, 40, 41, 42, 43, 44, 45, 46, 47, 48, 49, 50, 51, 52, 53, 54, 55, 56, 57, 58, 59, 60, 61, 62, 63, 64, 65, 66, 67, 68, 69, 70, 71, 72, 73, 74, 75, 76, 77] (by decide +kernel) (by decide +kernel)
set_option maxRecDepth 20000 in
theorem gX12_premiumLine_X12_kindOf : GoodIn wsX12_premiumLine (wsV RX12 150 RX12 yX12_kindOf wsX12_kindOf) := goodIn_app (goodIn_of _ (by decide +kernel)) ggX12_premiumLine_X12_kindOf
set_option maxRecDepth 20000 in
theorem ggX12_premiumLine_X12_number : GoodIn wsX12_premiumLine wsX12_number := goodIn_r _ [39, 3, 4, 2, 5, 6, 7, 8, 9, 10, 11, 24, 25, 26, 12, 13, 14, 15, 16, 17, 18, 19, 20, 21, 22, 23, 40, 41, 42, 43, 44, 45, 46, 47, 48, 49, 50, 51, 52, 53, 54, 55, 56, 57, 58, 59, 60, 61, 62, 63, 64, 65, 66, 67, 68, 69, 70, 71, 72, 73, 74, 75, 76, 77] (by decide +kernel) (by decide +kernel)
set_option maxRecDepth 20000 in
theorem gX12_premiumLine_X12_number : GoodIn wsX12_premiumLine (wsV RX12 142 RX12 yX12_number wsX12_number) := goodIn_app (goodIn_of _ (by decide +kernel)) ggX12_premiumLine_X12_number
set_option maxRecDepth 20000 in
theorem ggX12_premiumLine_X12_isWord : GoodIn wsX12_premiumLine wsX12_isWord := goodIn_r _ [34, 35, 3, 16, 11, 18, 19, 20, 8, 21, 22, 23, 40, 41, 42, 43, 44, 45, 46, 47, 48, 49, 50, 51, 52, 53, 54, 55, 56, 57, 58, 59, 60, 61, 62, 63, 64, 65, 66, 67, 68, 69, 70, 71, 72, 73, 74, 75, 76, 77] (by decide +kernel) (by decide +kernel)
set_option maxRecDepth 20000 in
theorem gX12_premiumLine_X12_isWord : GoodIn wsX12_premiumLine (wsV RX12 146 RX12 yX12_isWord wsX12_isWord) := goodIn_app (goodIn_of _ (by decide +kernel)) ggX12_premiumLine_X12_isWord
set_option maxRecDepth 20000 in
theorem ggX12_line_X12_isWord : GoodIn wsX12_line wsX12_isWord := goodIn_r _ [5, 6, 7, 8, 9, 10, 11, 12, 4, 13, 14, 15, 65, 66, 67, 68, 69, 70, 71, 72, 73, 74, 75, 76, 77, 78, 79, 80, 81, 82, 83, 84, 85, 86, 87, 88, 89, 90, 91, 92, 93, 94, 95, 96, 97, 98, 99, 100, 101, 102] (by decide +kernel) (by decide +kernel)
set_option maxRecDepth 20000 in
theorem gX12_line_X12_isWord : GoodIn wsX12_line (wsV RX12 146 RX12 yX12_isWord wsX12_isWord) := goodIn_app (goodIn_of _ (by decide +kernel)) ggX12_line_X12_isWord
set_option maxRecDepth 20000 in
theorem ggX12_line_X12_clockLine : GoodIn wsX12_line wsX12_clockLine := goodIn_r _ [19, 20, 21, 22, 23, 24, 4, 25, 26, 27, 28, 29, 30, 31, 9, 32, 33, 34, 35, 8, 7, 36, 37, 10, 11, 12, 13, 14, 15, 38, 39, 40, 41, 42, 43, 44, 1, 2, 3, 5, 6, 65, 66, 67, 68, 69, 70, 71, 72, 73, 74, 75, 76, 77, 78, 79, 80, 81, 82, 83, 84, 85, 86, 87, 88, 89, 90, 91, 92, 93, 94, 95, 96, 97, 98, 99, 100, 101, 102] (by decide +kernel) (by decide +kernel)
set_option maxRecDepth 20000 in
theorem gX12_line_X12_clockLine : GoodIn wsX12_line (wsV RX12 154 RX12 yX12_clockLine wsX12_clockLine) := goodIn_app (goodIn_of _ (by decide +kernel)) ggX12_line_X12_clockLine
set_option maxRecDepth 20000 in
theorem ggX12_line_X12_feastLine : GoodIn wsX12_line wsX12_feastLine := goodIn_r _ [48, 20, 7, 36, 21, 27, 28, 29, 4, 30, 31, 9, 32, 33, 34, 35, 8, 37, 10, 11, 12, 13, 14, 15, 38, 39, 40, 41, 42, 43, 44, 65, 66, 67, 68, 69, 70, 71, 72, 73, 74, 75, 76, 77, 78, 79, 80, 81, 82, 83, 84, 85, 86, 87, 88, 89, 90, 91, 92, 93, 94, 95, 96, 97, 98, 99, 100, 101, 102] (by decide +kernel) (by decide +kernel)
set_option maxRecDepth 20000 in
theorem gX12_line_X12_feastLine : GoodIn wsX12_line (wsV RX12 158 RX12 yX12_feastLine wsX12_feastLine) := goodIn_app (goodIn_of _ (by decide +kernel)) ggX12_line_X12_feastLine
set_option maxRecDepth 20000 in
theorem ggX12_line_X12_oneLine : GoodIn wsX12_line wsX12_oneLine := goodIn_r _ [52, 20, 21, 22, 23, 24, 4, 25, 26, 27, 28, 29, 30, 31, 9, 32, 33, 34, 35, 8, 7, 36, 37, 10, 11, 12, 13, 14, 15, 38, 39, 40, 41, 42, 43, 44, 65, 66, 67, 68, 69, 70, 71, 72, 73, 74, 75, 76, 77, 78, 79, 80, 81, 82, 83, 84, 85, 86, 87, 88, 89, 90, 91, 92, 93, 94, 95, 96, 97, 98, 99, 100, 101, 102] (by decide +kernel) (by decide +kernel)
set_option maxRecDepth 20000 in
theorem gX12_line_X12_oneLine : GoodIn wsX12_line (wsV RX12 161 RX12 yX12_oneLine wsX12_oneLine) := goodIn_app (goodIn_of _ (by decide +kernel)) ggX12_line_X12_oneLine
set_option maxRecDepth 20000 in
theorem ggX12_line_X12_mealLine : GoodIn wsX12_line wsX12_mealLine := goodIn_r _ [56, 20, 21, 22, 23, 24, 4, 25, 26, 27, 28, 29, 30, 31, 9, 32, 33, 34, 35, 8, 7, 36, 37, 10, 11, 12, 13, 14, 15, 38, 39, 40, 41, 42, 43, 44, 65, 66, 67, 68, 69, 70, 71, 72, 73, 74, 75, 76, 77, 78, 79, 80, 81, 82, 83, 84, 85, 86, 87, 88, 89, 90, 91, 92, 93, 94, 95, 96, 97, 98, 99, 100, 101, 102] (by decide +kernel) (by decide +kernel)
set_option maxRecDepth 20000 in
theorem gX12_line_X12_mealLine : GoodIn wsX12_line (wsV RX12 165 RX12 yX12_mealLine wsX12_mealLine) := goodIn_app (goodIn_of _ (by decide +kernel)) ggX12_line_X12_mealLine
set_option maxRecDepth 20000 in
theorem ggX12_line_X12_premiumLine : GoodIn wsX12_line wsX12_premiumLine := goodIn_r _ [60, 20, 21, 7, 36, 27, 28, 29, 4, 30, 31, 9, 32, 33, 34, 35, 8, 37, 10, 11, 12, 13, 14, 15, 38, 39, 40, 61, 62, 63, 64, 1, 2, 3, 5, 6, 41, 42, 43, 44, 65, 66, 67, 68, 69, 70, 71, 72, 73, 74, 75, 76, 77, 78, 79, 80, 81, 82, 83, 84, 85, 86, 87, 88, 89, 90, 91, 92, 93, 94, 95, 96, 97, 98, 99, 100, 101, 102] (by decide +kernel) (by decide +kernel)
set_option maxRecDepth 20000 in
theorem gX12_line_X12_premiumLine : GoodIn wsX12_line (wsV RX12 168 RX12 yX12_premiumLine wsX12_premiumLine) := goodIn_app (goodIn_of _ (by decide +kernel)) ggX12_line_X12_premiumLine
set_option maxRecDepth 20000 in
theorem ggX12_line_X12_bad : GoodIn wsX12_line wsX12_bad := goodIn_r _ [30, 31, 9, 65, 66, 67, 68, 69, 70, 71, 72, 73, 74, 75, 76, 77, 78, 79, 80, 81, 82, 83, 84, 85, 86, 87, 88, 89, 90, 91, 92, 93, 94, 95, 96, 97, 98, 99, 100, 101, 102] (by decide +kernel) (by decide +kernel)
set_option maxRecDepth 20000 in
theorem gX12_line_X12_bad : GoodIn wsX12_line (wsV RX12 45 RX12 yX12_bad wsX12_bad) := goodIn_app (goodIn_of _ (by decide +kernel)) ggX12_line_X12_bad
set_option maxRecDepth 20000 in
theorem ggX12_rules_X12_within : GoodIn wsX12_rules wsX12_within := goodIn_r _ [14] (by decide +kernel) (by decide +kernel)
set_option maxRecDepth 20000 in
theorem gX12_rules_X12_within : GoodIn wsX12_rules (va_wsS RX12 34 yX12_within wsX12_within) := goodIn_app (goodIn_of _ (by decide +kernel)) ggX12_rules_X12_within
set_option maxRecDepth 20000 in
theorem ggX12_rules_X12_clearsDraft : GoodIn wsX12_rules wsX12_clearsDraft := goodIn_r _ [18, 8, 19, 82, 83, 84, 85, 86, 87, 88, 89, 90, 91, 92, 93, 94, 95, 96, 97, 98, 99, 100, 101, 102, 103, 104, 105, 106, 107, 108, 109, 110, 111, 112, 113, 114, 115, 116, 117, 118, 119] (by decide +kernel) (by decide +kernel)
set_option maxRecDepth 20000 in
theorem gX12_rules_X12_clearsDraft : GoodIn wsX12_rules (wsV RX12 130 RX12 yX12_clearsDraft wsX12_clearsDraft) := goodIn_app (goodIn_of _ (by decide +kernel)) ggX12_rules_X12_clearsDraft
set_option maxRecDepth 20000 in
theorem ggX12_rules_X12_go : GoodIn wsX12_rules wsX12_go := goodIn_r _ [23, 4, 24, 6, 25, 26, 27, 28, 29, 13, 30, 3, 31, 11, 12, 14, 82, 83, 84, 85, 86, 87, 88, 89, 90, 91, 92, 93, 94, 95, 96, 97, 98, 99, 100, 101, 102, 103, 104, 105, 106, 107, 108, 109, 110, 111, 112, 113, 114, 115, 116, 117, 118, 119] (by decide +kernel) (by decide +kernel)
set_option maxRecDepth 20000 in
theorem gX12_rules_X12_go : GoodIn wsX12_rules (wsV RX12 52 RX12 yX12_go wsX12_go) := goodIn_app (goodIn_of _ (by decide +kernel)) ggX12_rules_X12_go
set_option maxRecDepth 20000 in
theorem ggX12_rules_X12_line : GoodIn wsX12_rules wsX12_line := goodIn_r _ [35, 36, 37, 38, 13, 39, 40, 6, 4, 24, 27, 28, 29, 30, 3, 31, 41, 42, 43, 44, 8, 45, 46, 47, 48, 49, 19, 50, 51, 52, 53, 5, 20, 21, 22, 23, 25, 26, 11, 12, 14, 54, 55, 56, 57, 58, 59, 60, 61, 62, 63, 64, 65, 66, 67, 68, 69, 70, 71, 72, 73, 74, 75, 76, 77, 82, 83, 84, 85, 86, 87, 88, 89, 90, 91, 92, 93, 94, 95, 96, 97, 98, 99, 100, 101, 102, 103, 104, 105, 106, 107, 108, 109, 110, 111, 112, 113, 114, 115, 116, 117, 118, 119] (by decide +kernel) (by decide +kernel)
set_option maxRecDepth 20000 in
theorem gX12_rules_X12_line : GoodIn wsX12_rules (wsV RX12 171 RX12 yX12_line wsX12_line) := goodIn_app (goodIn_of _ (by decide +kernel)) ggX12_rules_X12_line
set_option maxRecDepth 20000 in
theorem ggX12_rules_X12_bad : GoodIn wsX12_rules wsX12_bad := goodIn_r _ [53, 5, 24, 82, 83, 84, 85, 86, 87, 88, 89, 90, 91, 92, 93, 94, 95, 96, 97, 98, 99, 100, 101, 102, 103, 104, 105, 106, 107, 108, 109, 110, 111, 112, 113, 114, 115, 116, 117, 118, 119] (by decide +kernel) (by decide +kernel)
set_option maxRecDepth 20000 in
theorem gX12_rules_X12_bad : GoodIn wsX12_rules (wsV RX12 45 RX12 yX12_bad wsX12_bad) := goodIn_app (goodIn_of _ (by decide +kernel)) ggX12_rules_X12_bad
set_option maxRecDepth 20000 in
theorem ggX12_rules_X12_takes : GoodIn wsX12_rules wsX12_takes := goodIn_r _ [81, 7, 8, 82, 83, 84, 85, 86, 87, 88, 89, 90, 91, 92, 93, 94, 95, 96, 97, 98, 99, 100, 101, 102, 103, 104, 105, 106, 107, 108, 109, 110, 111, 112, 113, 114, 115, 116, 117, 118, 119] (by decide +kernel) (by decide +kernel)
set_option maxRecDepth 20000 in
theorem gX12_rules_X12_takes : GoodIn wsX12_rules (wsV RX12 133 RX12 yX12_takes wsX12_takes) := goodIn_app (goodIn_of _ (by decide +kernel)) ggX12_rules_X12_takes
set_option maxRecDepth 20000 in
theorem ggX12_premium_X12_premiums : GoodIn wsX12_premium wsX12_premiums := goodIn_r _ [6, 7, 15, 16, 17, 18, 19, 20, 21, 22, 23, 24, 25, 26, 27, 28, 29, 30, 31, 32, 33, 34, 35, 36, 37, 38, 39, 40, 41, 42, 43, 44, 45, 46, 47, 48, 49, 50, 51, 52] (by decide +kernel) (by decide +kernel)
set_option maxRecDepth 20000 in
theorem gX12_premium_X12_premiums : GoodIn wsX12_premium (wsV RX12 177 RX12 yX12_premiums wsX12_premiums) := goodIn_app (goodIn_of _ (by decide +kernel)) ggX12_premium_X12_premiums
set_option maxRecDepth 20000 in
theorem ggX12_premium_X12_within : GoodIn wsX12_premium wsX12_within := goodIn_r _ [10] (by decide +kernel) (by decide +kernel)
set_option maxRecDepth 20000 in
theorem gX12_premium_X12_within : GoodIn wsX12_premium (va_wsS RX12 34 yX12_within wsX12_within) := goodIn_app (goodIn_of _ (by decide +kernel)) ggX12_premium_X12_within
set_option maxRecDepth 20000 in
theorem ggX12_premium_X12_premiumIs : GoodIn wsX12_premium wsX12_premiumIs := goodIn_r _ [14, 7, 15, 16, 17, 18, 19, 20, 21, 22, 23, 24, 25, 26, 27, 28, 29, 30, 31, 32, 33, 34, 35, 36, 37, 38, 39, 40, 41, 42, 43, 44, 45, 46, 47, 48, 49, 50, 51, 52] (by decide +kernel) (by decide +kernel)
set_option maxRecDepth 20000 in
theorem gX12_premium_X12_premiumIs : GoodIn wsX12_premium (wsV RX12 180 RX12 yX12_premiumIs wsX12_premiumIs) := goodIn_app (goodIn_of _ (by decide +kernel)) ggX12_premium_X12_premiumIs
set_option maxRecDepth 20000 in
theorem ggX12_momentOf_X12_within : GoodIn wsX12_momentOf wsX12_within := goodIn_r _ [5] (by decide +kernel) (by decide +kernel)
set_option maxRecDepth 20000 in
theorem gX12_momentOf_X12_within : GoodIn wsX12_momentOf (va_wsS RX12 34 yX12_within wsX12_within) := goodIn_app (goodIn_of _ (by decide +kernel)) ggX12_momentOf_X12_within
set_option maxRecDepth 20000 in
theorem ggX12_momentOf_X12_turned : GoodIn wsX12_momentOf wsX12_turned := goodIn_r _ [9, 1, 10, 11, 12, 13, 14, 15, 16, 17, 18, 19, 20, 21, 22, 23, 24, 25, 26, 27, 28, 29, 30, 31, 32, 33, 34, 35, 36, 37, 38, 39, 40, 41, 42, 43, 44, 45, 46, 47] (by decide +kernel) (by decide +kernel)
set_option maxRecDepth 20000 in
theorem gX12_momentOf_X12_turned : GoodIn wsX12_momentOf (wsV RX12 184 RX12 yX12_turned wsX12_turned) := goodIn_app (goodIn_of _ (by decide +kernel)) ggX12_momentOf_X12_turned
set_option maxRecDepth 20000 in
theorem ggX12_toldAt_X12_turned : GoodIn wsX12_toldAt wsX12_turned := goodIn_r _ [7, 1, 11, 12, 13, 14, 15, 16, 17, 18, 19, 20, 21, 22, 23, 24, 25, 26, 27, 28, 29, 30, 31, 32, 33, 34, 35, 36, 37, 38, 39, 40, 41, 42, 43, 44, 45, 46, 47, 48] (by decide +kernel) (by decide +kernel)
set_option maxRecDepth 20000 in
theorem gX12_toldAt_X12_turned : GoodIn wsX12_toldAt (wsV RX12 184 RX12 yX12_turned wsX12_turned) := goodIn_app (goodIn_of _ (by decide +kernel)) ggX12_toldAt_X12_turned
set_option maxRecDepth 20000 in
theorem ggX12_toldAt_X12_within : GoodIn wsX12_toldAt wsX12_within := goodIn_r _ [10] (by decide +kernel) (by decide +kernel)
set_option maxRecDepth 20000 in
theorem gX12_toldAt_X12_within : GoodIn wsX12_toldAt (va_wsS RX12 34 yX12_within wsX12_within) := goodIn_app (goodIn_of _ (by decide +kernel)) ggX12_toldAt_X12_within
set_option maxRecDepth 20000 in
theorem ggX12_moment_X12_momentOf : GoodIn wsX12_moment wsX12_momentOf := goodIn_r _ [6, 7, 8, 9, 5, 10, 11, 12, 13, 14, 15, 16, 17, 18, 19, 20, 21, 22, 23, 24, 25, 26, 27, 28, 29, 30, 31, 32, 33, 34, 35, 36, 37, 38, 39, 40, 41, 42, 43, 44, 45, 46, 47, 48, 49, 50, 51, 52] (by decide +kernel) (by decide +kernel)
set_option maxRecDepth 20000 in
theorem gX12_moment_X12_momentOf : GoodIn wsX12_moment (wsV RX12 188 RX12 yX12_momentOf wsX12_momentOf) := goodIn_app (goodIn_of _ (by decide +kernel)) ggX12_moment_X12_momentOf
set_option maxRecDepth 20000 in
theorem ggX12_clock_X12_toldAt : GoodIn wsX12_clock wsX12_toldAt := goodIn_r _ [8, 3, 9, 10, 11, 12, 7, 13, 14, 15, 16, 17, 18, 19, 20, 21, 22, 23, 24, 25, 26, 27, 28, 29, 30, 31, 32, 33, 34, 35, 36, 37, 38, 39, 40, 41, 42, 43, 44, 45, 46, 47, 48, 49, 50, 51, 52, 53, 54] (by decide +kernel) (by decide +kernel)
set_option maxRecDepth 20000 in
theorem gX12_clock_X12_toldAt : GoodIn wsX12_clock (wsV RX12 193 RX12 yX12_toldAt wsX12_toldAt) := goodIn_app (goodIn_of _ (by decide +kernel)) ggX12_clock_X12_toldAt
set_option maxRecDepth 20000 in
theorem ggX12_clock_X12_within : GoodIn wsX12_clock wsX12_within := goodIn_r _ [16] (by decide +kernel) (by decide +kernel)
set_option maxRecDepth 20000 in
theorem gX12_clock_X12_within : GoodIn wsX12_clock (va_wsS RX12 34 yX12_within wsX12_within) := goodIn_app (goodIn_of _ (by decide +kernel)) ggX12_clock_X12_within
set_option maxRecDepth 20000 in
theorem ggX12_clock_X12_turned : GoodIn wsX12_clock wsX12_turned := goodIn_r _ [13, 3, 17, 18, 19, 20, 21, 22, 23, 24, 25, 26, 27, 28, 29, 30, 31, 32, 33, 34, 35, 36, 37, 38, 39, 40, 41, 42, 43, 44, 45, 46, 47, 48, 49, 50, 51, 52, 53, 54] (by decide +kernel) (by decide +kernel)
set_option maxRecDepth 20000 in
theorem gX12_clock_X12_turned : GoodIn wsX12_clock (wsV RX12 184 RX12 yX12_turned wsX12_turned) := goodIn_app (goodIn_of _ (by decide +kernel)) ggX12_clock_X12_turned
set_option maxRecDepth 20000 in
theorem ggX12_isWorker_X12_within : GoodIn wsX12_isWorker wsX12_within := goodIn_r _ [4] (by decide +kernel) (by decide +kernel)
set_option maxRecDepth 20000 in
theorem gX12_isWorker_X12_within : GoodIn wsX12_isWorker (va_wsS RX12 34 yX12_within wsX12_within) := goodIn_app (goodIn_of _ (by decide +kernel)) ggX12_isWorker_X12_within
set_option maxRecDepth 20000 in
theorem ggX12_canCome_X12_isWorker : GoodIn wsX12_canCome wsX12_isWorker := goodIn_r _ [6, 7, 8, 5, 9] (by decide +kernel) (by decide +kernel)
set_option maxRecDepth 20000 in
theorem gX12_canCome_X12_isWorker : GoodIn wsX12_canCome (wsV RX12 196 RX12 yX12_isWorker wsX12_isWorker) := goodIn_app (goodIn_of _ (by decide +kernel)) ggX12_canCome_X12_isWorker
set_option maxRecDepth 20000 in
theorem ggX12_canCome_X12_within : GoodIn wsX12_canCome wsX12_within := goodIn_r _ [9] (by decide +kernel) (by decide +kernel)
set_option maxRecDepth 20000 in
theorem gX12_canCome_X12_within : GoodIn wsX12_canCome (va_wsS RX12 34 yX12_within wsX12_within) := goodIn_app (goodIn_of _ (by decide +kernel)) ggX12_canCome_X12_within
set_option maxRecDepth 20000 in
theorem ggX12_canCome_X12_placeOf : GoodIn wsX12_canCome wsX12_placeOf := goodIn_r _ [13, 1, 14, 15, 16, 17, 18, 19, 20, 21, 22, 23, 24, 25, 26, 27, 28, 29, 30, 31, 32, 33, 34, 35, 36, 37, 38, 39, 40, 41, 42, 43, 44, 45, 46, 47, 48, 49, 50, 51, 52] (by decide +kernel) (by decide +kernel)
set_option maxRecDepth 20000 in
theorem gX12_canCome_X12_placeOf : GoodIn wsX12_canCome (wsV RX12 199 RX12 yX12_placeOf wsX12_placeOf) := goodIn_app (goodIn_of _ (by decide +kernel)) ggX12_canCome_X12_placeOf
set_option maxRecDepth 20000 in
theorem ggX12_punch_X12_momentOf : GoodIn wsX12_punch wsX12_momentOf := goodIn_r _ [7, 8, 9, 10, 6, 11, 12, 13, 14, 15, 40, 41, 42, 43, 44, 45, 46, 47, 48, 49, 50, 51, 52, 53, 54, 55, 56, 57, 58, 59, 60, 61, 62, 63, 64, 65, 66, 67, 68, 69, 70, 71, 72, 73, 74, 75, 76, 77] (by decide +kernel) (by decide +kernel)
set_option maxRecDepth 20000 in
theorem gX12_punch_X12_momentOf : GoodIn wsX12_punch (wsV RX12 188 RX12 yX12_momentOf wsX12_momentOf) := goodIn_app (goodIn_of _ (by decide +kernel)) ggX12_punch_X12_momentOf
set_option maxRecDepth 20000 in
theorem ggX12_punch_X12_canCome : GoodIn wsX12_punch wsX12_canCome := goodIn_r _ [19, 2, 20, 21, 22, 6, 23, 9, 10, 11, 24, 25, 26, 27, 28, 40, 41, 42, 43, 44, 45, 46, 47, 48, 49, 50, 51, 52, 53, 54, 55, 56, 57, 58, 59, 60, 61, 62, 63, 64, 65, 66, 67, 68, 69, 70, 71, 72, 73, 74, 75, 76, 77] (by decide +kernel) (by decide +kernel)
set_option maxRecDepth 20000 in
theorem gX12_punch_X12_canCome : GoodIn wsX12_punch (wsV RX12 202 RX12 yX12_canCome wsX12_canCome) := goodIn_app (goodIn_of _ (by decide +kernel)) ggX12_punch_X12_canCome
set_option maxRecDepth 20000 in
theorem ggX12_punch_X12_comes : GoodIn wsX12_punch wsX12_comes := goodIn_r _ [32, 2, 28, 33, 40, 41, 42, 43, 44, 45, 46, 47, 48, 49, 50, 51, 52, 53, 54, 55, 56, 57, 58, 59, 60, 61, 62, 63, 64, 65, 66, 67, 68, 69, 70, 71, 72, 73, 74, 75, 76, 77] (by decide +kernel) (by decide +kernel)
set_option maxRecDepth 20000 in
theorem gX12_punch_X12_comes : GoodIn wsX12_punch (wsV RX12 205 RX12 yX12_comes wsX12_comes) := goodIn_app (goodIn_of _ (by decide +kernel)) ggX12_punch_X12_comes
set_option maxRecDepth 20000 in
theorem ggX12_punch_X12_notes : GoodIn wsX12_punch wsX12_notes := goodIn_r _ [37, 38, 39, 40, 41, 42, 43, 44, 45, 46, 47, 48, 49, 50, 51, 52, 53, 54, 55, 56, 57, 58, 59, 60, 61, 62, 63, 64, 65, 66, 67, 68, 69, 70, 71, 72, 73, 74, 75, 76, 77] (by decide +kernel) (by decide +kernel)
set_option maxRecDepth 20000 in
theorem gX12_punch_X12_notes : GoodIn wsX12_punch (wsV RX12 209 RX12 yX12_notes wsX12_notes) := goodIn_app (goodIn_of _ (by decide +kernel)) ggX12_punch_X12_notes
set_option maxRecDepth 20000 in
theorem ggX12_strike_X12_momentOf : GoodIn wsX12_strike wsX12_momentOf := goodIn_r _ [8, 9, 10, 11, 7, 12, 13, 14, 15, 16, 36, 37, 38, 39, 40, 41, 42, 43, 44, 45, 46, 47, 48, 49, 50, 51, 52, 53, 54, 55, 56, 57, 58, 59, 60, 61, 62, 63, 64, 65, 66, 67, 68, 69, 70, 71, 72, 73] (by decide +kernel) (by decide +kernel)
set_option maxRecDepth 20000 in
theorem gX12_strike_X12_momentOf : GoodIn wsX12_strike (wsV RX12 188 RX12 yX12_momentOf wsX12_momentOf) := goodIn_app (goodIn_of _ (by decide +kernel)) ggX12_strike_X12_momentOf
set_option maxRecDepth 20000 in
theorem ggX12_strike_X12_isWorker : GoodIn wsX12_strike wsX12_isWorker := goodIn_r _ [20, 10, 11, 7, 12] (by decide +kernel) (by decide +kernel)
set_option maxRecDepth 20000 in
theorem gX12_strike_X12_isWorker : GoodIn wsX12_strike (wsV RX12 196 RX12 yX12_isWorker wsX12_isWorker) := goodIn_app (goodIn_of _ (by decide +kernel)) ggX12_strike_X12_isWorker
set_option maxRecDepth 20000 in
theorem ggX12_strike_X12_placeOf : GoodIn wsX12_strike wsX12_placeOf := goodIn_r _ [24, 3, 25, 36, 37, 38, 39, 40, 41, 42, 43, 44, 45, 46, 47, 48, 49, 50, 51, 52, 53, 54, 55, 56, 57, 58, 59, 60, 61, 62, 63, 64, 65, 66, 67, 68, 69, 70, 71, 72, 73] (by decide +kernel) (by decide +kernel)
set_option maxRecDepth 20000 in
theorem gX12_strike_X12_placeOf : GoodIn wsX12_strike (wsV RX12 199 RX12 yX12_placeOf wsX12_placeOf) := goodIn_app (goodIn_of _ (by decide +kernel)) ggX12_strike_X12_placeOf
set_option maxRecDepth 20000 in
theorem ggX12_strike_X12_notes : GoodIn wsX12_strike wsX12_notes := goodIn_r _ [29, 30, 31, 36, 37, 38, 39, 40, 41, 42, 43, 44, 45, 46, 47, 48, 49, 50, 51, 52, 53, 54, 55, 56, 57, 58, 59, 60, 61, 62, 63, 64, 65, 66, 67, 68, 69, 70, 71, 72, 73] (by decide +kernel) (by decide +kernel)
set_option maxRecDepth 20000 in
theorem gX12_strike_X12_notes : GoodIn wsX12_strike (wsV RX12 209 RX12 yX12_notes wsX12_notes) := goodIn_app (goodIn_of _ (by decide +kernel)) ggX12_strike_X12_notes
set_option maxRecDepth 20000 in
theorem ggX12_strike_X12_leaves : GoodIn wsX12_strike wsX12_leaves := goodIn_r _ [35, 3, 25, 2, 36, 37, 38, 39, 40, 41, 42, 43, 44, 45, 46, 47, 48, 49, 50, 51, 52, 53, 54, 55, 56, 57, 58, 59, 60, 61, 62, 63, 64, 65, 66, 67, 68, 69, 70, 71, 72, 73] (by decide +kernel) (by decide +kernel)
set_option maxRecDepth 20000 in
theorem gX12_strike_X12_leaves : GoodIn wsX12_strike (wsV RX12 213 RX12 yX12_leaves wsX12_leaves) := goodIn_app (goodIn_of _ (by decide +kernel)) ggX12_strike_X12_leaves
set_option maxRecDepth 20000 in
theorem ggX12_undo_X12_leaves : GoodIn wsX12_undo wsX12_leaves := goodIn_r _ [8, 9, 10, 11, 16, 17, 18, 19, 20, 21, 22, 23, 24, 25, 26, 27, 28, 29, 30, 31, 32, 33, 34, 35, 36, 37, 38, 39, 40, 41, 42, 43, 44, 45, 46, 47, 48, 49, 50, 51, 52, 53] (by decide +kernel) (by decide +kernel)
set_option maxRecDepth 20000 in
theorem gX12_undo_X12_leaves : GoodIn wsX12_undo (wsV RX12 213 RX12 yX12_leaves wsX12_leaves) := goodIn_app (goodIn_of _ (by decide +kernel)) ggX12_undo_X12_leaves
set_option maxRecDepth 20000 in
theorem ggX12_undo_X12_comes : GoodIn wsX12_undo wsX12_comes := goodIn_r _ [15, 9, 10, 11, 16, 17, 18, 19, 20, 21, 22, 23, 24, 25, 26, 27, 28, 29, 30, 31, 32, 33, 34, 35, 36, 37, 38, 39, 40, 41, 42, 43, 44, 45, 46, 47, 48, 49, 50, 51, 52, 53] (by decide +kernel) (by decide +kernel)
set_option maxRecDepth 20000 in
theorem gX12_undo_X12_comes : GoodIn wsX12_undo (wsV RX12 205 RX12 yX12_comes wsX12_comes) := goodIn_app (goodIn_of _ (by decide +kernel)) ggX12_undo_X12_comes
set_option maxRecDepth 20000 in
theorem ggX12_laysPairs_X12_quarterAt : GoodIn wsX12_laysPairs wsX12_quarterAt := goodIn_r _ [13, 6, 14, 15, 16, 17, 18, 19, 20, 21, 22, 23, 24, 25, 26, 27, 28, 29, 30, 31, 32, 33, 34, 35, 36, 37, 38, 39, 40, 41, 42, 43, 44, 45, 46, 47, 48, 49, 50, 51] (by decide +kernel) (by decide +kernel)
set_option maxRecDepth 20000 in
theorem gX12_laysPairs_X12_quarterAt : GoodIn wsX12_laysPairs (wsV RX12 220 RX12 yX12_quarterAt wsX12_quarterAt) := goodIn_app (goodIn_of _ (by decide +kernel)) ggX12_laysPairs_X12_quarterAt
set_option maxRecDepth 20000 in
theorem ggX12_punched_X12_isWorker : GoodIn wsX12_punched wsX12_isWorker := goodIn_r _ [10, 11, 12, 9, 13] (by decide +kernel) (by decide +kernel)
set_option maxRecDepth 20000 in
theorem gX12_punched_X12_isWorker : GoodIn wsX12_punched (wsV RX12 196 RX12 yX12_isWorker wsX12_isWorker) := goodIn_app (goodIn_of _ (by decide +kernel)) ggX12_punched_X12_isWorker
set_option maxRecDepth 20000 in
theorem ggX12_punched_X12_within : GoodIn wsX12_punched wsX12_within := goodIn_r _ [13] (by decide +kernel) (by decide +kernel)
set_option maxRecDepth 20000 in
theorem gX12_punched_X12_within : GoodIn wsX12_punched (va_wsS RX12 34 yX12_within wsX12_within) := goodIn_app (goodIn_of _ (by decide +kernel)) ggX12_punched_X12_within
set_option maxRecDepth 20000 in
theorem ggX12_punched_X12_laysPairs : GoodIn wsX12_punched wsX12_laysPairs := goodIn_r _ [17, 18, 2, 4, 5, 3, 19, 20, 21, 22, 23, 24, 9, 25, 26, 27, 28, 29, 30, 31, 32, 33, 34, 35, 36, 37, 38, 39, 40, 41, 42, 43, 44, 45, 46, 47, 48, 49, 50, 51, 52, 53, 54, 55, 56, 57, 58, 59, 60, 61, 62, 63] (by decide +kernel) (by decide +kernel)
set_option maxRecDepth 20000 in
theorem gX12_punched_X12_laysPairs : GoodIn wsX12_punched (wsV RX12 223 RX12 yX12_laysPairs wsX12_laysPairs) := goodIn_app (goodIn_of _ (by decide +kernel)) ggX12_punched_X12_laysPairs
set_option maxRecDepth 20000 in
theorem ggX12_isOfDays_X12_toldAt : GoodIn wsX12_isOfDays wsX12_toldAt := goodIn_r _ [5, 6, 7, 8, 9, 10, 4, 11, 12, 13, 14, 15, 16, 17, 18, 19, 20, 21, 22, 23, 24, 25, 26, 27, 28, 29, 30, 31, 32, 33, 34, 35, 36, 37, 38, 39, 40, 41, 42, 43, 44, 45, 46, 47, 48, 49, 50, 51, 52] (by decide +kernel) (by decide +kernel)
set_option maxRecDepth 20000 in
theorem gX12_isOfDays_X12_toldAt : GoodIn wsX12_isOfDays (wsV RX12 193 RX12 yX12_toldAt wsX12_toldAt) := goodIn_app (goodIn_of _ (by decide +kernel)) ggX12_isOfDays_X12_toldAt
set_option maxRecDepth 20000 in
theorem ggX12_isOfSpan_X12_isOfDays : GoodIn wsX12_isOfSpan wsX12_isOfDays := goodIn_r _ [8, 9, 10, 11, 7, 12, 3, 13, 14, 15, 16, 17, 18, 19, 20, 21, 22, 23, 24, 25, 26, 27, 28, 29, 30, 31, 32, 33, 34, 35, 36, 37, 38, 39, 40, 41, 42, 43, 44, 45, 46, 47, 48, 49, 50, 51, 52, 53, 54, 55, 56, 57, 58] (by decide +kernel) (by decide +kernel)
set_option maxRecDepth 20000 in
theorem gX12_isOfSpan_X12_isOfDays : GoodIn wsX12_isOfSpan (wsV RX12 226 RX12 yX12_isOfDays wsX12_isOfDays) := goodIn_app (goodIn_of _ (by decide +kernel)) ggX12_isOfSpan_X12_isOfDays
set_option maxRecDepth 20000 in
theorem ggX12_span_X12_isWorker : GoodIn wsX12_span wsX12_isWorker := goodIn_r _ [9, 10, 11, 8, 12] (by decide +kernel) (by decide +kernel)
set_option maxRecDepth 20000 in
theorem gX12_span_X12_isWorker : GoodIn wsX12_span (wsV RX12 196 RX12 yX12_isWorker wsX12_isWorker) := goodIn_app (goodIn_of _ (by decide +kernel)) ggX12_span_X12_isWorker
set_option maxRecDepth 20000 in
theorem ggX12_span_X12_laysPairs : GoodIn wsX12_span wsX12_laysPairs := goodIn_r _ [16, 2, 17, 18, 19, 20, 21, 3, 4, 22, 23, 24, 8, 25, 43, 44, 45, 46, 47, 48, 49, 50, 51, 52, 53, 54, 55, 56, 57, 58, 59, 60, 61, 62, 63, 64, 65, 66, 67, 68, 69, 70, 71, 72, 73, 74, 75, 76, 77, 78, 79, 80] (by decide +kernel) (by decide +kernel)
set_option maxRecDepth 20000 in
theorem gX12_span_X12_laysPairs : GoodIn wsX12_span (wsV RX12 223 RX12 yX12_laysPairs wsX12_laysPairs) := goodIn_app (goodIn_of _ (by decide +kernel)) ggX12_span_X12_laysPairs
set_option maxRecDepth 20000 in
theorem ggX12_span_X12_within : GoodIn wsX12_span wsX12_within := goodIn_r _ [12] (by decide +kernel) (by decide +kernel)
set_option maxRecDepth 20000 in
theorem gX12_span_X12_within : GoodIn wsX12_span (va_wsS RX12 34 yX12_within wsX12_within) := goodIn_app (goodIn_of _ (by decide +kernel)) ggX12_span_X12_within
set_option maxRecDepth 20000 in
theorem ggX12_span_X12_isOfSpan : GoodIn wsX12_span wsX12_isOfSpan := goodIn_r _ [29, 3, 4, 21, 30, 31, 32, 8, 33, 34, 35, 36, 37, 38, 39, 40, 41, 42, 10, 11, 12, 43, 44, 45, 46, 47, 48, 49, 50, 51, 52, 53, 54, 55, 56, 57, 58, 59, 60, 61, 62, 63, 64, 65, 66, 67, 68, 69, 70, 71, 72, 73, 74, 75, 76, 77, 78, 79, 80] (by decide +kernel) (by decide +kernel)
set_option maxRecDepth 20000 in
theorem gX12_span_X12_isOfSpan : GoodIn wsX12_span (wsV RX12 229 RX12 yX12_isOfSpan wsX12_isOfSpan) := goodIn_app (goodIn_of _ (by decide +kernel)) ggX12_span_X12_isOfSpan
set_option maxRecDepth 20000 in
theorem ggX12_laysWorked_X12_laysPairs : GoodIn wsX12_laysWorked wsX12_laysPairs := goodIn_r _ [9, 2, 10, 11, 12, 13, 14, 3, 4, 15, 16, 17, 8, 18, 39, 40, 41, 42, 43, 44, 45, 46, 47, 48, 49, 50, 51, 52, 53, 54, 55, 56, 57, 58, 59, 60, 61, 62, 63, 64, 65, 66, 67, 68, 69, 70, 71, 72, 73, 74, 75, 76] (by decide +kernel) (by decide +kernel)
set_option maxRecDepth 20000 in
theorem gX12_laysWorked_X12_laysPairs : GoodIn wsX12_laysWorked (wsV RX12 223 RX12 yX12_laysPairs wsX12_laysPairs) := goodIn_app (goodIn_of _ (by decide +kernel)) ggX12_laysWorked_X12_laysPairs
set_option maxRecDepth 20000 in
theorem ggX12_laysWorked_X12_isOfSpan : GoodIn wsX12_laysWorked wsX12_isOfSpan := goodIn_r _ [22, 3, 4, 14, 23, 24, 25, 8, 26, 27, 28, 29, 30, 31, 32, 33, 34, 35, 36, 37, 38, 39, 40, 41, 42, 43, 44, 45, 46, 47, 48, 49, 50, 51, 52, 53, 54, 55, 56, 57, 58, 59, 60, 61, 62, 63, 64, 65, 66, 67, 68, 69, 70, 71, 72, 73, 74, 75, 76] (by decide +kernel) (by decide +kernel)
set_option maxRecDepth 20000 in
theorem gX12_laysWorked_X12_isOfSpan : GoodIn wsX12_laysWorked (wsV RX12 229 RX12 yX12_isOfSpan wsX12_isOfSpan) := goodIn_app (goodIn_of _ (by decide +kernel)) ggX12_laysWorked_X12_isOfSpan
set_option maxRecDepth 20000 in
theorem ggX12_dayOf_X12_toldAt : GoodIn wsX12_dayOf wsX12_toldAt := goodIn_r _ [5, 6, 7, 8, 9, 10, 4, 11, 12, 13, 14, 15, 16, 17, 18, 19, 20, 21, 22, 23, 24, 25, 26, 27, 28, 29, 30, 31, 32, 33, 34, 35, 36, 37, 38, 39, 40, 41, 42, 43, 44, 45, 46, 47, 48, 49, 50, 51, 52] (by decide +kernel) (by decide +kernel)
set_option maxRecDepth 20000 in
theorem gX12_dayOf_X12_toldAt : GoodIn wsX12_dayOf (wsV RX12 193 RX12 yX12_toldAt wsX12_toldAt) := goodIn_app (goodIn_of _ (by decide +kernel)) ggX12_dayOf_X12_toldAt
set_option maxRecDepth 20000 in
theorem ggX12_hourOf_X12_toldAt : GoodIn wsX12_hourOf wsX12_toldAt := goodIn_r _ [5, 6, 7, 8, 9, 10, 4, 11, 12, 13, 14, 15, 16, 17, 18, 19, 20, 21, 22, 23, 24, 25, 26, 27, 28, 29, 30, 31, 32, 33, 34, 35, 36, 37, 38, 39, 40, 41, 42, 43, 44, 45, 46, 47, 48, 49, 50, 51, 52] (by decide +kernel) (by decide +kernel)
set_option maxRecDepth 20000 in
theorem gX12_hourOf_X12_toldAt : GoodIn wsX12_hourOf (wsV RX12 193 RX12 yX12_toldAt wsX12_toldAt) := goodIn_app (goodIn_of _ (by decide +kernel)) ggX12_hourOf_X12_toldAt
set_option maxRecDepth 20000 in
theorem ggX12_isNight_X12_premiumIs : GoodIn wsX12_isNight wsX12_premiumIs := goodIn_r _ [5, 6, 7, 8, 9, 10, 11, 12, 13, 14, 15, 16, 17, 18, 19, 20, 21, 22, 23, 24, 25, 26, 27, 28, 29, 30, 31, 32, 33, 34, 35, 36, 37, 38, 39, 40, 41, 42, 43, 44] (by decide +kernel) (by decide +kernel)
set_option maxRecDepth 20000 in
theorem gX12_isNight_X12_premiumIs : GoodIn wsX12_isNight (wsV RX12 180 RX12 yX12_premiumIs wsX12_premiumIs) := goodIn_app (goodIn_of _ (by decide +kernel)) ggX12_isNight_X12_premiumIs
set_option maxRecDepth 20000 in
theorem ggX12_laysQuarters_X12_dayOf : GoodIn wsX12_laysQuarters wsX12_dayOf := goodIn_r _ [9, 10, 11, 12, 8, 13, 14, 15, 16, 17, 18, 19, 20, 21, 22, 43, 44, 45, 46, 47, 48, 49, 50, 51, 52, 53, 54, 55, 56, 57, 58, 59, 60, 61, 62, 63, 64, 65, 66, 67, 68, 69, 70, 71, 72, 73, 74, 75, 76, 77, 78, 79, 80] (by decide +kernel) (by decide +kernel)
set_option maxRecDepth 20000 in
theorem gX12_laysQuarters_X12_dayOf : GoodIn wsX12_laysQuarters (wsV RX12 235 RX12 yX12_dayOf wsX12_dayOf) := goodIn_app (goodIn_of _ (by decide +kernel)) ggX12_laysQuarters_X12_dayOf
set_option maxRecDepth 20000 in
theorem ggX12_laysQuarters_X12_premiums : GoodIn wsX12_laysQuarters wsX12_premiums := goodIn_r _ [26, 14, 43, 44, 45, 46, 47, 48, 49, 50, 51, 52, 53, 54, 55, 56, 57, 58, 59, 60, 61, 62, 63, 64, 65, 66, 67, 68, 69, 70, 71, 72, 73, 74, 75, 76, 77, 78, 79, 80] (by decide +kernel) (by decide +kernel)
set_option maxRecDepth 20000 in
theorem gX12_laysQuarters_X12_premiums : GoodIn wsX12_laysQuarters (wsV RX12 177 RX12 yX12_premiums wsX12_premiums) := goodIn_app (goodIn_of _ (by decide +kernel)) ggX12_laysQuarters_X12_premiums
set_option maxRecDepth 20000 in
theorem ggX12_laysQuarters_X12_isMay : GoodIn wsX12_laysQuarters wsX12_isMay := goodIn_r _ [30, 14, 31, 32, 33, 8, 34, 35, 36, 37, 38, 10, 11, 12, 13, 15, 16, 17, 18, 19, 20, 21, 22, 39, 40, 41, 42, 43, 44, 45, 46, 47, 48, 49, 50, 51, 52, 53, 54, 55, 56, 57, 58, 59, 60, 61, 62, 63, 64, 65, 66, 67, 68, 69, 70, 71, 72, 73, 74, 75, 76, 77, 78, 79, 80] (by decide +kernel) (by decide +kernel)
set_option maxRecDepth 20000 in
theorem gX12_laysQuarters_X12_isMay : GoodIn wsX12_laysQuarters (wsV RX12 238 RX12 yX12_isMay wsX12_isMay) := goodIn_app (goodIn_of _ (by decide +kernel)) ggX12_laysQuarters_X12_isMay
set_option maxRecDepth 20000 in
theorem ggX12_isMay_X12_premiumIs : GoodIn wsX12_isMay wsX12_premiumIs := goodIn_r _ [6, 1, 27, 28, 29, 30, 31, 32, 33, 34, 35, 36, 37, 38, 39, 40, 41, 42, 43, 44, 45, 46, 47, 48, 49, 50, 51, 52, 53, 54, 55, 56, 57, 58, 59, 60, 61, 62, 63, 64] (by decide +kernel) (by decide +kernel)
set_option maxRecDepth 20000 in
theorem gX12_isMay_X12_premiumIs : GoodIn wsX12_isMay (wsV RX12 180 RX12 yX12_premiumIs wsX12_premiumIs) := goodIn_app (goodIn_of _ (by decide +kernel)) ggX12_isMay_X12_premiumIs
set_option maxRecDepth 20000 in
theorem ggX12_isMay_X12_hourOf : GoodIn wsX12_isMay wsX12_hourOf := goodIn_r _ [10, 11, 12, 13, 5, 14, 1, 15, 16, 17, 18, 19, 20, 21, 22, 27, 28, 29, 30, 31, 32, 33, 34, 35, 36, 37, 38, 39, 40, 41, 42, 43, 44, 45, 46, 47, 48, 49, 50, 51, 52, 53, 54, 55, 56, 57, 58, 59, 60, 61, 62, 63, 64] (by decide +kernel) (by decide +kernel)
set_option maxRecDepth 20000 in
theorem gX12_isMay_X12_hourOf : GoodIn wsX12_isMay (wsV RX12 242 RX12 yX12_hourOf wsX12_hourOf) := goodIn_app (goodIn_of _ (by decide +kernel)) ggX12_isMay_X12_hourOf
set_option maxRecDepth 20000 in
theorem ggX12_isMay_X12_isNight : GoodIn wsX12_isMay wsX12_isNight := goodIn_r _ [26, 2, 3, 4, 5, 6, 1, 27, 28, 29, 30, 31, 32, 33, 34, 35, 36, 37, 38, 39, 40, 41, 42, 43, 44, 45, 46, 47, 48, 49, 50, 51, 52, 53, 54, 55, 56, 57, 58, 59, 60, 61, 62, 63, 64] (by decide +kernel) (by decide +kernel)
set_option maxRecDepth 20000 in
theorem gX12_isMay_X12_isNight : GoodIn wsX12_isMay (wsV RX12 245 RX12 yX12_isNight wsX12_isNight) := goodIn_app (goodIn_of _ (by decide +kernel)) ggX12_isMay_X12_isNight
set_option maxRecDepth 20000 in
theorem ggX12_canBe_X12_premiumIs : GoodIn wsX12_canBe wsX12_premiumIs := goodIn_r _ [6, 7, 8, 9, 10, 11, 12, 13, 14, 15, 16, 17, 18, 19, 20, 21, 22, 23, 24, 25, 26, 27, 28, 29, 30, 31, 32, 33, 34, 35, 36, 37, 38, 39, 40, 41, 42, 43, 44, 45] (by decide +kernel) (by decide +kernel)
set_option maxRecDepth 20000 in
theorem gX12_canBe_X12_premiumIs : GoodIn wsX12_canBe (wsV RX12 180 RX12 yX12_premiumIs wsX12_premiumIs) := goodIn_app (goodIn_of _ (by decide +kernel)) ggX12_canBe_X12_premiumIs
set_option maxRecDepth 20000 in
theorem ggX12_laysWeekPremiums_X12_premiums : GoodIn wsX12_laysWeekPremiums wsX12_premiums := goodIn_r _ [7, 8, 17, 18, 19, 20, 21, 22, 23, 24, 25, 26, 27, 28, 29, 30, 31, 32, 33, 34, 35, 36, 37, 38, 39, 40, 41, 42, 43, 44, 45, 46, 47, 48, 49, 50, 51, 52, 53, 54] (by decide +kernel) (by decide +kernel)
set_option maxRecDepth 20000 in
theorem gX12_laysWeekPremiums_X12_premiums : GoodIn wsX12_laysWeekPremiums (wsV RX12 177 RX12 yX12_premiums wsX12_premiums) := goodIn_app (goodIn_of _ (by decide +kernel)) ggX12_laysWeekPremiums_X12_premiums
set_option maxRecDepth 20000 in
theorem ggX12_laysWeekPremiums_X12_premiumIs : GoodIn wsX12_laysWeekPremiums wsX12_premiumIs := goodIn_r _ [12, 8, 17, 18, 19, 20, 21, 22, 23, 24, 25, 26, 27, 28, 29, 30, 31, 32, 33, 34, 35, 36, 37, 38, 39, 40, 41, 42, 43, 44, 45, 46, 47, 48, 49, 50, 51, 52, 53, 54] (by decide +kernel) (by decide +kernel)
set_option maxRecDepth 20000 in
theorem gX12_laysWeekPremiums_X12_premiumIs : GoodIn wsX12_laysWeekPremiums (wsV RX12 180 RX12 yX12_premiumIs wsX12_premiumIs) := goodIn_app (goodIn_of _ (by decide +kernel)) ggX12_laysWeekPremiums_X12_premiumIs
set_option maxRecDepth 20000 in
theorem ggX12_laysWeekPremiums_X12_adds : GoodIn wsX12_laysWeekPremiums wsX12_adds := goodIn_r _ [16, 1, 2, 17, 18, 19, 20, 21, 22, 23, 24, 25, 26, 27, 28, 29, 30, 31, 32, 33, 34, 35, 36, 37, 38, 39, 40, 41, 42, 43, 44, 45, 46, 47, 48, 49, 50, 51, 52, 53, 54] (by decide +kernel) (by decide +kernel)
set_option maxRecDepth 20000 in
theorem gX12_laysWeekPremiums_X12_adds : GoodIn wsX12_laysWeekPremiums (wsV RX12 248 RX12 yX12_adds wsX12_adds) := goodIn_app (goodIn_of _ (by decide +kernel)) ggX12_laysWeekPremiums_X12_adds
set_option maxRecDepth 20000 in
theorem ggX12_mostOf_X12_premiums : GoodIn wsX12_mostOf wsX12_premiums := goodIn_r _ [6, 7, 12, 13, 14, 15, 16, 17, 18, 19, 20, 21, 22, 23, 24, 25, 26, 27, 28, 29, 30, 31, 32, 33, 34, 35, 36, 37, 38, 39, 40, 41, 42, 43, 44, 45, 46, 47, 48, 49] (by decide +kernel) (by decide +kernel)
set_option maxRecDepth 20000 in
theorem gX12_mostOf_X12_premiums : GoodIn wsX12_mostOf (wsV RX12 177 RX12 yX12_premiums wsX12_premiums) := goodIn_app (goodIn_of _ (by decide +kernel)) ggX12_mostOf_X12_premiums
set_option maxRecDepth 20000 in
theorem ggX12_mostOf_X12_premiumIs : GoodIn wsX12_mostOf wsX12_premiumIs := goodIn_r _ [11, 7, 12, 13, 14, 15, 16, 17, 18, 19, 20, 21, 22, 23, 24, 25, 26, 27, 28, 29, 30, 31, 32, 33, 34, 35, 36, 37, 38, 39, 40, 41, 42, 43, 44, 45, 46, 47, 48, 49] (by decide +kernel) (by decide +kernel)
set_option maxRecDepth 20000 in
theorem gX12_mostOf_X12_premiumIs : GoodIn wsX12_mostOf (wsV RX12 180 RX12 yX12_premiumIs wsX12_premiumIs) := goodIn_app (goodIn_of _ (by decide +kernel)) ggX12_mostOf_X12_premiumIs
