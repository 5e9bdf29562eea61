set_option maxRecDepth 20000 in
theorem ggX0_init_X10_init : GoodIn wsX0_init wsX10_init := goodIn_r _ [17, 18, 2, 3, 8, 19, 20, 21, 22, 23, 24, 25, 26] (by decide +kernel) (by decide +kernel)
set_option maxRecDepth 20000 in
theorem gX0_init_X10_init_n13 : GoodIn wsX0_init (wsX10_init) := ggX0_init_X10_init
set_option maxRecDepth 20000 in
theorem ggX0_payBest_X7_largestWeekBelow : GoodIn wsX0_payBest wsX7_largestWeekBelow := goodIn_r _ [11, 12, 13, 14, 15, 16, 17, 18, 19, 91, 92, 93, 94, 95, 96, 97, 98, 99, 100, 101, 102, 103, 104, 105] (by decide +kernel) (by decide +kernel)
set_option maxRecDepth 20000 in
theorem gX0_payBest_X7_largestWeekBelow : GoodIn wsX0_payBest (wsV RX0 44 RX7 yX7_largestWeekBelow wsX7_largestWeekBelow) := goodIn_app (goodIn_of _ (by decide +kernel)) ggX0_payBest_X7_largestWeekBelow
set_option maxRecDepth 20000 in
theorem ggX0_payBest_X7_weekBits : GoodIn wsX0_payBest wsX7_weekBits := goodIn_r _ [23, 12, 13, 14, 15, 91, 92, 93, 94, 95, 96, 97, 98, 99, 100, 101, 102, 103, 104, 105] (by decide +kernel) (by decide +kernel)
set_option maxRecDepth 20000 in
theorem gX0_payBest_X7_weekBits : GoodIn wsX0_payBest (wsV RX0 53 RX7 yX7_weekBits wsX7_weekBits) := goodIn_app (goodIn_of _ (by decide +kernel)) ggX0_payBest_X7_weekBits
set_option maxRecDepth 20000 in
theorem ggX0_payBest_X7_mostOf : GoodIn wsX0_payBest wsX7_mostOf := goodIn_r _ [27, 12, 13, 28, 29, 16, 17, 18, 19, 91, 92, 93, 94, 95, 96, 97, 98, 99, 100, 101, 102, 103, 104, 105] (by decide +kernel) (by decide +kernel)
set_option maxRecDepth 20000 in
theorem gX0_payBest_X7_mostOf : GoodIn wsX0_payBest (wsV RX0 57 RX7 yX7_mostOf wsX7_mostOf) := goodIn_app (goodIn_of _ (by decide +kernel)) ggX0_payBest_X7_mostOf
set_option maxRecDepth 20000 in
theorem ggX0_payBest_X0_measureQuarters : GoodIn wsX0_payBest wsX0_measureQuarters := goodIn_r _ [34, 1, 2, 35, 36, 37, 38, 3, 5, 24, 25, 26, 10, 27, 12, 13, 28, 29, 16, 17, 18, 19, 77, 78, 79, 80, 81, 82, 83, 84, 85, 86, 87, 88, 89, 90, 91, 92, 93, 94, 95, 96, 97, 98, 99, 100, 101, 102, 103, 104, 105] (by decide +kernel) (by decide +kernel)
set_option maxRecDepth 20000 in
theorem gX0_payBest_X0_measureQuarters : GoodIn wsX0_payBest (wsV RX0 61 RX0 yX0_measureQuarters wsX0_measureQuarters) := goodIn_app (goodIn_of _ (by decide +kernel)) ggX0_payBest_X0_measureQuarters
set_option maxRecDepth 20000 in
theorem ggX0_payBest_X0_markQuarter : GoodIn wsX0_payBest wsX0_markQuarter := goodIn_r _ [42, 3, 43, 44, 18, 45, 38, 35, 4, 46, 17, 19, 6, 37, 5, 47, 48, 49, 33, 50, 51, 77, 78, 79, 80, 81, 82, 83, 84, 85] (by decide +kernel) (by decide +kernel)
set_option maxRecDepth 20000 in
theorem gX0_payBest_X0_markQuarter : GoodIn wsX0_payBest (wsV RX0 65 RX0 yX0_markQuarter wsX0_markQuarter) := goodIn_app (goodIn_of _ (by decide +kernel)) ggX0_payBest_X0_markQuarter
set_option maxRecDepth 20000 in
theorem ggX0_payBest_X0_followMarks : GoodIn wsX0_payBest wsX0_followMarks := goodIn_r _ [55, 1, 2, 36, 56, 3, 20, 21, 22, 10, 23, 12, 13, 14, 15, 57, 58, 59, 33, 60, 51, 61, 62, 63, 64, 35, 4, 46, 17, 18, 19, 37, 5, 65, 66, 67, 68, 69, 70, 71, 72, 29, 73, 74, 75, 76, 28, 77, 78, 79, 80, 81, 82, 83, 84, 85, 86, 87, 88, 89, 90, 91, 92, 93, 94, 95, 96, 97, 98, 99, 100, 101, 102, 103, 104, 105] (by decide +kernel) (by decide +kernel)
set_option maxRecDepth 20000 in
theorem gX0_payBest_X0_followMarks : GoodIn wsX0_payBest (wsV RX0 69 RX0 yX0_followMarks wsX0_followMarks) := goodIn_app (goodIn_of _ (by decide +kernel)) ggX0_payBest_X0_followMarks
set_option maxRecDepth 20000 in
theorem ggX0_measureQuarters_X7_mostOf : GoodIn wsX0_measureQuarters wsX7_mostOf := goodIn_r _ [13, 14, 15, 16, 17, 18, 19, 20, 21, 36, 37, 38, 39, 40, 41, 42, 43, 44, 45, 46, 47, 48, 49, 50] (by decide +kernel) (by decide +kernel)
set_option maxRecDepth 20000 in
theorem gX0_measureQuarters_X7_mostOf : GoodIn wsX0_measureQuarters (wsV RX0 57 RX7 yX7_mostOf wsX7_mostOf) := goodIn_app (goodIn_of _ (by decide +kernel)) ggX0_measureQuarters_X7_mostOf
set_option maxRecDepth 20000 in
theorem ggX0_markQuarter_X0_setMark : GoodIn wsX0_markQuarter wsX0_setMark := goodIn_r _ [19, 20, 21, 22, 23, 24, 25, 26, 27, 28, 29] (by decide +kernel) (by decide +kernel)
set_option maxRecDepth 20000 in
theorem gX0_markQuarter_X0_setMark : GoodIn wsX0_markQuarter (wsV RX0 84 RX0 yX0_setMark wsX0_setMark) := goodIn_app (goodIn_of _ (by decide +kernel)) ggX0_markQuarter_X0_setMark
set_option maxRecDepth 20000 in
theorem ggX0_followMarks_X7_weekBits : GoodIn wsX0_followMarks wsX7_weekBits := goodIn_r _ [10, 11, 12, 13, 14, 61, 62, 63, 64, 65, 66, 67, 68, 69, 70, 71, 72, 73, 74, 75] (by decide +kernel) (by decide +kernel)
set_option maxRecDepth 20000 in
theorem gX0_followMarks_X7_weekBits : GoodIn wsX0_followMarks (wsV RX0 53 RX7 yX7_weekBits wsX7_weekBits) := goodIn_app (goodIn_of _ (by decide +kernel)) ggX0_followMarks_X7_weekBits
set_option maxRecDepth 20000 in
theorem ggX0_followMarks_X0_markAt : GoodIn wsX0_followMarks wsX0_markAt := goodIn_r _ [19, 20, 47, 48, 49, 50, 51, 52, 53, 54, 55] (by decide +kernel) (by decide +kernel)
set_option maxRecDepth 20000 in
theorem gX0_followMarks_X0_markAt : GoodIn wsX0_followMarks (wsV RX0 91 RX0 yX0_markAt wsX0_markAt) := goodIn_app (goodIn_of _ (by decide +kernel)) ggX0_followMarks_X0_markAt
set_option maxRecDepth 20000 in
theorem ggX0_followMarks_X0_firstBest : GoodIn wsX0_followMarks wsX0_firstBest := goodIn_r _ [24, 25, 26, 27, 28, 29, 30, 31, 32, 33, 34, 35, 1, 3, 36, 47, 48, 49, 50, 51, 52, 53, 54, 55, 61, 62, 63, 64, 65, 66, 67, 68, 69, 70, 71, 72, 73, 74, 75, 56, 57, 58, 59, 60] (by decide +kernel) (by decide +kernel)
set_option maxRecDepth 20000 in
theorem gX0_followMarks_X0_firstBest : GoodIn wsX0_followMarks (wsV RX0 94 RX0 yX0_firstBest wsX0_firstBest) := goodIn_app (goodIn_of _ (by decide +kernel)) ggX0_followMarks_X0_firstBest
set_option maxRecDepth 20000 in
theorem ggX0_followMarks_X7_hundredthsUnder : GoodIn wsX0_followMarks wsX7_hundredthsUnder := goodIn_r _ [40, 12, 41, 61, 62, 63, 64, 65, 66, 67, 68, 69, 70, 71, 72, 73, 74, 75] (by decide +kernel) (by decide +kernel)
set_option maxRecDepth 20000 in
theorem gX0_followMarks_X7_hundredthsUnder : GoodIn wsX0_followMarks (wsV RX0 98 RX7 yX7_hundredthsUnder wsX7_hundredthsUnder) := goodIn_app (goodIn_of _ (by decide +kernel)) ggX0_followMarks_X7_hundredthsUnder
set_option maxRecDepth 20000 in
theorem ggX0_followMarks_X7_countsUnder : GoodIn wsX0_followMarks wsX7_countsUnder := goodIn_r _ [45, 12, 46, 61, 62, 63, 64, 65, 66, 67, 68, 69, 70, 71, 72, 73, 74, 75] (by decide +kernel) (by decide +kernel)
set_option maxRecDepth 20000 in
theorem gX0_followMarks_X7_countsUnder : GoodIn wsX0_followMarks (wsV RX0 101 RX7 yX7_countsUnder wsX7_countsUnder) := goodIn_app (goodIn_of _ (by decide +kernel)) ggX0_followMarks_X7_countsUnder
set_option maxRecDepth 20000 in
theorem ggX1_takes_X1_find : GoodIn wsX1_takes wsX1_find := goodIn_r _ [6, 1, 7, 8, 9, 10] (by decide +kernel) (by decide +kernel)
set_option maxRecDepth 20000 in
theorem gX1_takes_X1_find : GoodIn wsX1_takes (wsV RX1 22 RX1 yX1_find wsX1_find) := goodIn_app (goodIn_of _ (by decide +kernel)) ggX1_takes_X1_find
set_option maxRecDepth 20000 in
theorem ggX2_hourAt_X2_toldAt : GoodIn wsX2_hourAt wsX2_toldAt := goodIn_r _ [5, 6, 7, 8, 9, 10, 11, 12] (by decide +kernel) (by decide +kernel)
set_option maxRecDepth 20000 in
theorem gX2_hourAt_X2_toldAt : GoodIn wsX2_hourAt (wsV RX2 27 RX2 yX2_toldAt wsX2_toldAt) := goodIn_app (goodIn_of _ (by decide +kernel)) ggX2_hourAt_X2_toldAt
set_option maxRecDepth 20000 in
theorem ggX2_quartersAhead_X2_momentsAhead : GoodIn wsX2_quartersAhead wsX2_momentsAhead := goodIn_r _ [5, 6, 7, 8, 9, 10, 11, 12] (by decide +kernel) (by decide +kernel)
set_option maxRecDepth 20000 in
theorem gX2_quartersAhead_X2_momentsAhead : GoodIn wsX2_quartersAhead (wsV RX2 31 RX2 yX2_momentsAhead wsX2_momentsAhead) := goodIn_app (goodIn_of _ (by decide +kernel)) ggX2_quartersAhead_X2_momentsAhead
set_option maxRecDepth 20000 in
theorem ggX3_keep_X3_dropOldest : GoodIn wsX3_keep wsX3_dropOldest := goodIn_r _ [10, 1, 2, 3, 4, 5, 11, 12, 13, 14, 15] (by decide +kernel) (by decide +kernel)
set_option maxRecDepth 20000 in
theorem gX3_keep_X3_dropOldest : GoodIn wsX3_keep (wsV RX3 27 RX3 yX3_dropOldest wsX3_dropOldest) := goodIn_app (goodIn_of _ (by decide +kernel)) ggX3_keep_X3_dropOldest
set_option maxRecDepth 20000 in
theorem ggX4_sameWithin_X4_firstBehind : GoodIn wsX4_sameWithin wsX4_firstBehind := goodIn_r _ [15, 1, 7, 16, 17, 18] (by decide +kernel) (by decide +kernel)
set_option maxRecDepth 20000 in
theorem gX4_sameWithin_X4_firstBehind : GoodIn wsX4_sameWithin (wsV RX4 22 RX4 yX4_firstBehind wsX4_firstBehind) := goodIn_app (goodIn_of _ (by decide +kernel)) ggX4_sameWithin_X4_firstBehind
set_option maxRecDepth 20000 in
theorem ggX6_read_X7_clear : GoodIn wsX6_read wsX7_clear := goodIn_r _ [8, 9, 10, 11, 12, 13, 14, 15, 16, 17, 18, 19, 20, 21, 22, 23, 24, 25, 26, 180, 181, 182, 183, 184, 185, 186, 187, 188, 189, 190, 191, 192, 193, 194] (by decide +kernel) (by decide +kernel)
set_option maxRecDepth 20000 in
theorem gX6_read_X7_clear : GoodIn wsX6_read (wsV RX6 18 RX7 yX7_clear wsX7_clear) := goodIn_app (goodIn_of _ (by decide +kernel)) ggX6_read_X7_clear
set_option maxRecDepth 20000 in
theorem ggX6_read_X9_open : GoodIn wsX6_read wsX9_open := goodIn_r _ [31, 32, 33, 34, 35, 36, 37, 38, 39, 40, 41, 30, 42, 43, 44, 45, 46, 47, 48, 49, 50, 51, 174, 175, 176, 177, 178, 179] (by decide +kernel) (by decide +kernel)
set_option maxRecDepth 20000 in
theorem gX6_read_X9_open : GoodIn wsX6_read (wsV RX6 23 RX9 yX9_open wsX9_open) := goodIn_app (goodIn_of _ (by decide +kernel)) ggX6_read_X9_open
set_option maxRecDepth 20000 in
theorem ggX6_read_X6_readLine : GoodIn wsX6_read wsX6_readLine := goodIn_r _ [56, 57, 58, 59, 60, 61, 62, 3, 63, 64, 65, 30, 66, 45, 38, 43, 44, 67, 68, 69, 70, 71, 72, 73, 74, 75, 76, 77, 78, 79, 80, 81, 82, 83, 84, 85, 86, 87, 88, 89, 90, 91, 92, 93, 94, 95, 96, 97, 98, 99, 100, 101, 102, 103, 104, 105, 106, 107, 108, 109, 110, 111, 112, 113, 114, 115, 116, 117, 118, 55, 119, 120, 121, 122, 123, 124, 2, 125, 126, 127, 128, 1, 129, 130, 131, 132, 133, 40, 41, 42, 37, 33, 34, 35, 36, 46, 47, 48, 49, 50, 51, 134, 135, 136, 137, 138, 139, 140, 141, 142, 18, 19, 20, 21, 22, 23, 24, 25, 26, 143, 144, 145, 146, 147, 148, 149, 150, 151, 7, 152, 11, 153, 154, 155, 156, 157, 158, 159, 160, 161, 162, 163, 164, 165, 166, 167, 168, 169, 170, 171, 180, 181, 182, 183, 184, 185, 186, 187, 188, 189, 174, 175, 176, 177, 178, 179, 172, 173, 190, 191, 192, 193, 194, 195, 196, 197, 198, 199] (by decide +kernel) (by decide +kernel)
set_option maxRecDepth 20000 in
theorem gX6_read_X6_readLine : GoodIn wsX6_read (wsV RX6 32 RX6 yX6_readLine wsX6_readLine) := goodIn_app (goodIn_of _ (by decide +kernel)) ggX6_read_X6_readLine
set_option maxRecDepth 20000 in
theorem ggX6_readLine_X9_tells : GoodIn wsX6_readLine wsX9_tells := goodIn_r _ [12, 13, 14, 15, 16, 17, 18, 19, 20, 21, 22, 23, 24, 25, 26, 27, 28, 29, 30, 31, 32, 33, 34, 35, 36, 37, 38, 39, 40, 41, 42, 43, 44, 45, 46, 47, 48, 49, 50, 51, 52, 53, 54, 55, 56, 57, 58, 59, 60, 61, 62, 63, 64, 65, 160, 161, 162, 163, 164, 165] (by decide +kernel) (by decide +kernel)
set_option maxRecDepth 20000 in
theorem gX6_readLine_X9_tells : GoodIn wsX6_readLine (wsV RX6 38 RX9 yX9_tells wsX9_tells) := goodIn_app (goodIn_of _ (by decide +kernel)) ggX6_readLine_X9_tells
set_option maxRecDepth 20000 in
theorem ggX6_readLine_X6_readClock : GoodIn wsX6_readLine wsX6_readClock := goodIn_r _ [70, 71, 72, 73, 74, 69, 75, 76, 6, 77, 78, 79, 80, 81, 82, 83, 84, 85, 86, 87, 88, 11, 89, 14, 15, 90, 16, 91, 92, 93, 94, 13, 95, 96, 97, 98, 99, 100, 101, 102, 103, 104, 7, 105, 106, 107, 108, 8, 9, 10, 12, 17, 18, 19, 20, 21, 22, 23, 24, 25, 26, 27, 28, 29, 30, 31, 32, 33, 34, 35, 36, 37, 38, 39, 40, 41, 42, 43, 44, 45, 46, 47, 48, 49, 50, 51, 52, 53, 54, 55, 56, 57, 58, 59, 60, 61, 62, 63, 64, 65, 109, 110, 111, 112, 113, 114, 115, 116, 117, 118, 150, 151, 152, 153, 154, 155, 156, 157, 158, 159, 166, 167, 160, 161, 162, 163, 164, 165, 168, 169, 170, 171, 172] (by decide +kernel) (by decide +kernel)
set_option maxRecDepth 20000 in
theorem gX6_readLine_X6_readClock : GoodIn wsX6_readLine (wsV RX6 42 RX6 yX6_readClock wsX6_readClock) := goodIn_app (goodIn_of _ (by decide +kernel)) ggX6_readLine_X6_readClock
set_option maxRecDepth 20000 in
theorem ggX6_readLine_X6_readHoliday : GoodIn wsX6_readLine wsX6_readHoliday := goodIn_r _ [122, 123, 6, 124, 77, 78, 79, 69, 80, 81, 86, 87, 88, 11, 89, 14, 15, 90, 16, 91, 92, 93, 94, 13, 95, 96, 97, 98, 99, 100, 101, 102, 103, 104, 7, 105, 106, 107, 108, 125, 126, 127, 128, 129, 130, 131, 150, 151, 152, 153, 154, 155, 156, 157, 158, 159, 160, 161, 162, 163, 164, 165, 166, 167] (by decide +kernel) (by decide +kernel)
set_option maxRecDepth 20000 in
theorem gX6_readLine_X6_readHoliday : GoodIn wsX6_readLine (wsV RX6 47 RX6 yX6_readHoliday wsX6_readHoliday) := goodIn_app (goodIn_of _ (by decide +kernel)) ggX6_readLine_X6_readHoliday
set_option maxRecDepth 20000 in
theorem ggX6_readLine_X6_passOnce : GoodIn wsX6_readLine wsX6_passOnce := goodIn_r _ [75, 76, 6, 77, 78, 79, 69, 80, 81, 82, 83, 84, 85, 86, 87, 88, 11, 89, 14, 15, 90, 16, 91, 92, 93, 94, 13, 95, 96, 97, 98, 99, 100, 166, 167, 160, 161, 162, 163, 164, 165] (by decide +kernel) (by decide +kernel)
set_option maxRecDepth 20000 in
theorem gX6_readLine_X6_passOnce : GoodIn wsX6_readLine (wsV RX6 52 RX6 yX6_passOnce wsX6_passOnce) := goodIn_app (goodIn_of _ (by decide +kernel)) ggX6_readLine_X6_passOnce
set_option maxRecDepth 20000 in
theorem ggX6_readLine_X6_readNumber : GoodIn wsX6_readLine wsX6_readNumber := goodIn_r _ [104, 7, 6, 81, 77, 78, 79, 69, 80, 105, 106, 107, 11, 108, 14, 15, 16, 86, 87, 88, 89, 90, 91, 92, 93, 94, 13, 95, 96, 97, 98, 99, 100, 160, 161, 162, 163, 164, 165, 166, 167] (by decide +kernel) (by decide +kernel)
set_option maxRecDepth 20000 in
theorem gX6_readLine_X6_readNumber : GoodIn wsX6_readLine (wsV RX6 56 RX6 yX6_readNumber wsX6_readNumber) := goodIn_app (goodIn_of _ (by decide +kernel)) ggX6_readLine_X6_readNumber
set_option maxRecDepth 20000 in
theorem ggX6_readLine_X6_readPremium : GoodIn wsX6_readLine wsX6_readPremium := goodIn_r _ [135, 136, 6, 137, 138, 139, 77, 78, 79, 69, 80, 81, 86, 87, 88, 11, 89, 14, 15, 90, 16, 91, 92, 93, 94, 13, 95, 96, 97, 98, 99, 100, 140, 141, 142, 143, 144, 145, 146, 147, 148, 149, 8, 9, 10, 12, 17, 18, 19, 20, 21, 22, 23, 24, 25, 26, 27, 28, 29, 30, 31, 32, 33, 34, 35, 36, 37, 38, 39, 40, 41, 42, 43, 44, 45, 46, 47, 48, 49, 50, 51, 52, 53, 54, 55, 56, 57, 58, 59, 60, 61, 62, 63, 64, 65, 82, 83, 84, 85, 101, 102, 103, 104, 7, 105, 106, 107, 108, 150, 151, 152, 153, 154, 155, 156, 157, 158, 159, 160, 161, 162, 163, 164, 165, 173, 174, 175, 176, 177, 166, 167] (by decide +kernel) (by decide +kernel)
set_option maxRecDepth 20000 in
theorem gX6_readLine_X6_readPremium : GoodIn wsX6_readLine (wsV RX6 80 RX6 yX6_readPremium wsX6_readPremium) := goodIn_app (goodIn_of _ (by decide +kernel)) ggX6_readLine_X6_readPremium
set_option maxRecDepth 20000 in
theorem ggX6_readLine_X6_refuse : GoodIn wsX6_readLine wsX6_refuse := goodIn_r _ [80, 81, 166, 167] (by decide +kernel) (by decide +kernel)
set_option maxRecDepth 20000 in
theorem gX6_readLine_X6_refuse : GoodIn wsX6_readLine (wsV RX6 86 RX6 yX6_refuse wsX6_refuse) := goodIn_app (goodIn_of _ (by decide +kernel)) ggX6_readLine_X6_refuse
set_option maxRecDepth 20000 in
theorem ggX6_readLine_X6_passIf : GoodIn wsX6_readLine wsX6_passIf := goodIn_r _ [85, 6, 81, 77, 78, 79, 69, 80, 86, 87, 88, 11, 89, 14, 15, 90, 16, 91, 92, 93, 94, 13, 95, 96, 97, 98, 99, 100, 160, 161, 162, 163, 164, 165, 166, 167] (by decide +kernel) (by decide +kernel)
set_option maxRecDepth 20000 in
theorem gX6_readLine_X6_passIf : GoodIn wsX6_readLine (wsV RX6 90 RX6 yX6_passIf wsX6_passIf) := goodIn_app (goodIn_of _ (by decide +kernel)) ggX6_readLine_X6_passIf
set_option maxRecDepth 20000 in
theorem ggX6_readClock_X6_passOnce : GoodIn wsX6_readClock wsX6_passOnce := goodIn_r _ [6, 7, 8, 9, 10, 11, 5, 12, 13, 14, 15, 16, 17, 18, 19, 20, 21, 22, 23, 24, 25, 26, 27, 28, 29, 30, 31, 32, 33, 34, 35, 36, 37, 120, 121, 122, 123, 124, 125, 126, 127] (by decide +kernel) (by decide +kernel)
set_option maxRecDepth 20000 in
theorem gX6_readClock_X6_passOnce : GoodIn wsX6_readClock (wsV RX6 52 RX6 yX6_passOnce wsX6_passOnce) := goodIn_app (goodIn_of _ (by decide +kernel)) ggX6_readClock_X6_passOnce
set_option maxRecDepth 20000 in
theorem ggX6_readClock_X6_readNumber : GoodIn wsX6_readClock wsX6_readNumber := goodIn_r _ [41, 42, 8, 13, 9, 10, 11, 5, 12, 43, 44, 45, 21, 46, 23, 24, 26, 18, 19, 20, 22, 25, 27, 28, 29, 30, 31, 32, 33, 34, 35, 36, 37, 122, 123, 124, 125, 126, 127, 120, 121] (by decide +kernel) (by decide +kernel)
set_option maxRecDepth 20000 in
theorem gX6_readClock_X6_readNumber : GoodIn wsX6_readClock (wsV RX6 56 RX6 yX6_readNumber wsX6_readNumber) := goodIn_app (goodIn_of _ (by decide +kernel)) ggX6_readClock_X6_readNumber
set_option maxRecDepth 20000 in
theorem ggX6_readClock_X9_tells : GoodIn wsX6_readClock wsX9_tells := goodIn_r _ [50, 31, 23, 24, 26, 51, 52, 53, 54, 55, 56, 57, 58, 59, 60, 61, 62, 63, 64, 65, 66, 67, 68, 69, 70, 71, 72, 73, 74, 75, 76, 77, 78, 79, 80, 81, 82, 83, 84, 85, 86, 87, 88, 89, 90, 91, 92, 93, 94, 95, 96, 97, 98, 99, 122, 123, 124, 125, 126, 127] (by decide +kernel) (by decide +kernel)
set_option maxRecDepth 20000 in
theorem gX6_readClock_X9_tells : GoodIn wsX6_readClock (wsV RX6 38 RX9 yX9_tells wsX9_tells) := goodIn_app (goodIn_of _ (by decide +kernel)) ggX6_readClock_X9_tells
set_option maxRecDepth 20000 in
theorem ggX6_readClock_X6_passIf : GoodIn wsX6_readClock wsX6_passIf := goodIn_r _ [17, 8, 13, 9, 10, 11, 5, 12, 18, 19, 20, 21, 22, 23, 24, 25, 26, 27, 28, 29, 30, 31, 32, 33, 34, 35, 36, 37, 122, 123, 124, 125, 126, 127, 120, 121] (by decide +kernel) (by decide +kernel)
set_option maxRecDepth 20000 in
theorem gX6_readClock_X6_passIf : GoodIn wsX6_readClock (wsV RX6 90 RX6 yX6_passIf wsX6_passIf) := goodIn_app (goodIn_of _ (by decide +kernel)) ggX6_readClock_X6_passIf
set_option maxRecDepth 20000 in
theorem ggX6_readClock_X2_set : GoodIn wsX6_readClock wsX2_set := goodIn_r _ [104, 105, 106, 107, 108, 109, 128, 129, 130, 131, 132] (by decide +kernel) (by decide +kernel)
set_option maxRecDepth 20000 in
theorem gX6_readClock_X2_set : GoodIn wsX6_readClock (wsV RX6 103 RX2 yX2_set wsX2_set) := goodIn_app (goodIn_of _ (by decide +kernel)) ggX6_readClock_X2_set
set_option maxRecDepth 20000 in
theorem ggX6_readHoliday_X6_refuse : GoodIn wsX6_readHoliday wsX6_refuse := goodIn_r _ [8, 9, 62, 63] (by decide +kernel) (by decide +kernel)
set_option maxRecDepth 20000 in
theorem gX6_readHoliday_X6_refuse : GoodIn wsX6_readHoliday (wsV RX6 86 RX6 yX6_refuse wsX6_refuse) := goodIn_app (goodIn_of _ (by decide +kernel)) ggX6_readHoliday_X6_refuse
set_option maxRecDepth 20000 in
theorem ggX6_readHoliday_X9_advance : GoodIn wsX6_readHoliday wsX9_advance := goodIn_r _ [14, 15, 16, 17, 18, 19, 20, 21, 22, 23, 24, 25, 13, 26, 27, 28, 29, 56, 57, 58, 59, 60, 61] (by decide +kernel) (by decide +kernel)
set_option maxRecDepth 20000 in
theorem gX6_readHoliday_X9_advance : GoodIn wsX6_readHoliday (wsV RX6 110 RX9 yX9_advance wsX9_advance) := goodIn_app (goodIn_of _ (by decide +kernel)) ggX6_readHoliday_X9_advance
set_option maxRecDepth 20000 in
theorem ggX6_readHoliday_X6_readNumber : GoodIn wsX6_readHoliday wsX6_readNumber := goodIn_r _ [33, 34, 2, 9, 4, 5, 6, 7, 8, 35, 36, 37, 13, 38, 15, 16, 18, 10, 11, 12, 14, 17, 19, 20, 21, 22, 23, 24, 25, 26, 27, 28, 29, 56, 57, 58, 59, 60, 61, 62, 63] (by decide +kernel) (by decide +kernel)
set_option maxRecDepth 20000 in
theorem gX6_readHoliday_X6_readNumber : GoodIn wsX6_readHoliday (wsV RX6 56 RX6 yX6_readNumber wsX6_readNumber) := goodIn_app (goodIn_of _ (by decide +kernel)) ggX6_readHoliday_X6_readNumber
set_option maxRecDepth 20000 in
theorem ggX6_readHoliday_X7_isHoliday : GoodIn wsX6_readHoliday wsX7_isHoliday := goodIn_r _ [43, 44, 45, 46, 47, 48, 49, 50, 51, 52, 53, 54, 55] (by decide +kernel) (by decide +kernel)
set_option maxRecDepth 20000 in
theorem gX6_readHoliday_X7_isHoliday : GoodIn wsX6_readHoliday (wsV RX6 113 RX7 yX7_isHoliday wsX7_isHoliday) := goodIn_app (goodIn_of _ (by decide +kernel)) ggX6_readHoliday_X7_isHoliday
set_option maxRecDepth 20000 in
theorem ggX6_readPremium_X6_refuse : GoodIn wsX6_readPremium wsX6_refuse := goodIn_r _ [10, 11, 129, 130] (by decide +kernel) (by decide +kernel)
set_option maxRecDepth 20000 in
theorem gX6_readPremium_X6_refuse : GoodIn wsX6_readPremium (wsV RX6 86 RX6 yX6_refuse wsX6_refuse) := goodIn_app (goodIn_of _ (by decide +kernel)) ggX6_readPremium_X6_refuse
set_option maxRecDepth 20000 in
theorem ggX6_readPremium_X9_advance : GoodIn wsX6_readPremium wsX9_advance := goodIn_r _ [16, 17, 18, 19, 20, 21, 22, 23, 24, 25, 26, 27, 15, 28, 29, 30, 31, 118, 119, 120, 121, 122, 123] (by decide +kernel) (by decide +kernel)
set_option maxRecDepth 20000 in
theorem gX6_readPremium_X9_advance : GoodIn wsX6_readPremium (wsV RX6 110 RX9 yX9_advance wsX9_advance) := goodIn_app (goodIn_of _ (by decide +kernel)) ggX6_readPremium_X9_advance
set_option maxRecDepth 20000 in
theorem ggX6_readPremium_X6_readKind : GoodIn wsX6_readPremium wsX6_readKind := goodIn_r _ [35, 36, 37, 38, 2, 39, 40, 9, 41, 42, 43, 44, 15, 45, 25, 17, 18, 20, 46, 47, 48, 49, 50, 51, 52, 53, 54, 55, 56, 57, 58, 59, 60, 61, 62, 63, 64, 65, 66, 67, 68, 69, 70, 71, 72, 73, 74, 75, 76, 77, 78, 79, 80, 81, 82, 83, 84, 85, 86, 87, 88, 89, 90, 91, 92, 93, 94, 95, 96, 97, 98, 11, 6, 7, 8, 10, 12, 13, 14, 16, 19, 21, 22, 23, 24, 26, 27, 28, 29, 30, 31, 99, 100, 101, 102, 103, 104, 105, 106, 107, 124, 125, 126, 127, 128, 118, 119, 120, 121, 122, 123, 129, 130] (by decide +kernel) (by decide +kernel)
set_option maxRecDepth 20000 in
theorem gX6_readPremium_X6_readKind : GoodIn wsX6_readPremium (wsV RX6 128 RX6 yX6_readKind wsX6_readKind) := goodIn_app (goodIn_of _ (by decide +kernel)) ggX6_readPremium_X6_readKind
set_option maxRecDepth 20000 in
theorem ggX6_readPremium_X6_readNumber : GoodIn wsX6_readPremium wsX6_readNumber := goodIn_r _ [102, 103, 2, 11, 6, 7, 8, 9, 10, 104, 105, 106, 15, 107, 17, 18, 20, 12, 13, 14, 16, 19, 21, 22, 23, 24, 25, 26, 27, 28, 29, 30, 31, 118, 119, 120, 121, 122, 123, 129, 130] (by decide +kernel) (by decide +kernel)
set_option maxRecDepth 20000 in
theorem gX6_readPremium_X6_readNumber : GoodIn wsX6_readPremium (wsV RX6 56 RX6 yX6_readNumber wsX6_readNumber) := goodIn_app (goodIn_of _ (by decide +kernel)) ggX6_readPremium_X6_readNumber
set_option maxRecDepth 20000 in
theorem ggX6_readPremium_X9_tells : GoodIn wsX6_readPremium wsX9_tells := goodIn_r _ [45, 25, 17, 18, 20, 46, 47, 48, 49, 50, 51, 52, 53, 54, 55, 56, 57, 58, 59, 60, 61, 62, 63, 64, 65, 66, 67, 68, 69, 70, 71, 72, 73, 74, 75, 76, 77, 78, 79, 80, 81, 82, 83, 84, 85, 86, 87, 88, 89, 90, 91, 92, 93, 94, 118, 119, 120, 121, 122, 123] (by decide +kernel) (by decide +kernel)
set_option maxRecDepth 20000 in
theorem gX6_readPremium_X9_tells : GoodIn wsX6_readPremium (wsV RX6 38 RX9 yX9_tells wsX9_tells) := goodIn_app (goodIn_of _ (by decide +kernel)) ggX6_readPremium_X9_tells
set_option maxRecDepth 20000 in
theorem ggX6_readPremium_X6_passIf : GoodIn wsX6_readPremium wsX6_passIf := goodIn_r _ [98, 2, 11, 6, 7, 8, 9, 10, 12, 13, 14, 15, 16, 17, 18, 19, 20, 21, 22, 23, 24, 25, 26, 27, 28, 29, 30, 31, 118, 119, 120, 121, 122, 123, 129, 130] (by decide +kernel) (by decide +kernel)
set_option maxRecDepth 20000 in
theorem gX6_readPremium_X6_passIf : GoodIn wsX6_readPremium (wsV RX6 90 RX6 yX6_passIf wsX6_passIf) := goodIn_app (goodIn_of _ (by decide +kernel)) ggX6_readPremium_X6_passIf
set_option maxRecDepth 20000 in
theorem ggX6_readKind_X6_kindOf : GoodIn wsX6_readKind wsX6_kindOf := goodIn_r _ [8, 9, 10, 11, 12, 13, 14, 15, 16, 17, 18, 19, 20, 21, 22, 23, 24, 25, 26, 27, 28, 29, 30, 31, 32, 33, 34, 35, 36, 37, 38, 39, 40, 41, 42, 43, 44, 45, 46, 47, 48, 49, 50, 51, 52, 53, 54, 55, 56, 57, 58, 59, 60, 61, 62, 63, 64, 65, 66, 105, 106, 107, 108, 109, 110] (by decide +kernel) (by decide +kernel)
set_option maxRecDepth 20000 in
theorem gX6_readKind_X6_kindOf : GoodIn wsX6_readKind (va_wsS RX6 148 yX6_kindOf wsX6_kindOf) := goodIn_app (goodIn_of _ (by decide +kernel)) ggX6_readKind_X6_kindOf
set_option maxRecDepth 20000 in
theorem ggX6_readKind_X6_passIf : GoodIn wsX6_readKind wsX6_passIf := goodIn_r _ [70, 4, 71, 72, 73, 74, 7, 75, 76, 77, 78, 12, 79, 15, 16, 80, 17, 81, 82, 83, 84, 14, 85, 86, 87, 88, 89, 90, 105, 106, 107, 108, 109, 110, 111, 112] (by decide +kernel) (by decide +kernel)
set_option maxRecDepth 20000 in
theorem gX6_readKind_X6_passIf : GoodIn wsX6_readKind (wsV RX6 90 RX6 yX6_passIf wsX6_passIf) := goodIn_app (goodIn_of _ (by decide +kernel)) ggX6_readKind_X6_passIf
set_option maxRecDepth 20000 in
theorem ggX6_readKind_X6_readNumber : GoodIn wsX6_readKind wsX6_readNumber := goodIn_r _ [94, 95, 4, 71, 72, 73, 74, 7, 75, 96, 97, 98, 12, 99, 15, 16, 17, 76, 77, 78, 79, 80, 81, 82, 83, 84, 14, 85, 86, 87, 88, 89, 90, 105, 106, 107, 108, 109, 110, 111, 112] (by decide +kernel) (by decide +kernel)
set_option maxRecDepth 20000 in
theorem gX6_readKind_X6_readNumber : GoodIn wsX6_readKind (wsV RX6 56 RX6 yX6_readNumber wsX6_readNumber) := goodIn_app (goodIn_of _ (by decide +kernel)) ggX6_readKind_X6_readNumber
set_option maxRecDepth 20000 in
theorem ggX6_readKind_X6_refuse : GoodIn wsX6_readKind wsX6_refuse := goodIn_r _ [75, 71, 111, 112] (by decide +kernel) (by decide +kernel)
set_option maxRecDepth 20000 in
theorem gX6_readKind_X6_refuse : GoodIn wsX6_readKind (wsV RX6 86 RX6 yX6_refuse wsX6_refuse) := goodIn_app (goodIn_of _ (by decide +kernel)) ggX6_readKind_X6_refuse
set_option maxRecDepth 20000 in
theorem ggX6_kindOf_X9_tells : GoodIn wsX6_kindOf wsX9_tells := goodIn_r _ [5, 6, 7, 8, 9, 10, 11, 12, 13, 14, 15, 16, 17, 18, 19, 20, 21, 22, 23, 24, 25, 26, 27, 28, 29, 30, 31, 32, 33, 34, 35, 36, 37, 38, 39, 40, 41, 42, 43, 44, 45, 46, 47, 48, 49, 50, 51, 52, 53, 54, 55, 56, 57, 58, 59, 60, 61, 62, 63, 64] (by decide +kernel) (by decide +kernel)
set_option maxRecDepth 20000 in
theorem gX6_kindOf_X9_tells : GoodIn wsX6_kindOf (wsV RX6 38 RX9 yX9_tells wsX9_tells) := goodIn_app (goodIn_of _ (by decide +kernel)) ggX6_kindOf_X9_tells
set_option maxRecDepth 20000 in
theorem ggX6_passOnce_X6_refuse : GoodIn wsX6_passOnce wsX6_refuse := goodIn_r _ [7, 8, 33, 34] (by decide +kernel) (by decide +kernel)
set_option maxRecDepth 20000 in
theorem gX6_passOnce_X6_refuse : GoodIn wsX6_passOnce (wsV RX6 86 RX6 yX6_refuse wsX6_refuse) := goodIn_app (goodIn_of _ (by decide +kernel)) ggX6_passOnce_X6_refuse
set_option maxRecDepth 20000 in
theorem ggX6_passOnce_X6_passIf : GoodIn wsX6_passOnce wsX6_passIf := goodIn_r _ [12, 2, 8, 3, 4, 5, 6, 7, 13, 14, 15, 16, 17, 18, 19, 20, 21, 22, 23, 24, 25, 26, 27, 28, 29, 30, 31, 32, 35, 36, 37, 38, 39, 40, 33, 34] (by decide +kernel) (by decide +kernel)
set_option maxRecDepth 20000 in
theorem gX6_passOnce_X6_passIf : GoodIn wsX6_passOnce (wsV RX6 90 RX6 yX6_passIf wsX6_passIf) := goodIn_app (goodIn_of _ (by decide +kernel)) ggX6_passOnce_X6_passIf
set_option maxRecDepth 20000 in
theorem ggX6_passIf_X6_refuse : GoodIn wsX6_passIf wsX6_refuse := goodIn_r _ [7, 2, 34, 35] (by decide +kernel) (by decide +kernel)
set_option maxRecDepth 20000 in
theorem gX6_passIf_X6_refuse : GoodIn wsX6_passIf (wsV RX6 86 RX6 yX6_refuse wsX6_refuse) := goodIn_app (goodIn_of _ (by decide +kernel)) ggX6_passIf_X6_refuse
set_option maxRecDepth 20000 in
theorem ggX6_passIf_X9_advance : GoodIn wsX6_passIf wsX9_advance := goodIn_r _ [12, 13, 14, 15, 16, 17, 18, 19, 20, 21, 22, 23, 11, 24, 25, 26, 27, 28, 29, 30, 31, 32, 33] (by decide +kernel) (by decide +kernel)
set_option maxRecDepth 20000 in
theorem gX6_passIf_X9_advance : GoodIn wsX6_passIf (wsV RX6 110 RX9 yX9_advance wsX9_advance) := goodIn_app (goodIn_of _ (by decide +kernel)) ggX6_passIf_X9_advance
set_option maxRecDepth 20000 in
theorem ggX6_readNumber_X6_refuse : GoodIn wsX6_readNumber wsX6_refuse := goodIn_r _ [8, 3, 39, 40] (by decide +kernel) (by decide +kernel)
set_option maxRecDepth 20000 in
theorem gX6_readNumber_X6_refuse : GoodIn wsX6_readNumber (wsV RX6 86 RX6 yX6_refuse wsX6_refuse) := goodIn_app (goodIn_of _ (by decide +kernel)) ggX6_readNumber_X6_refuse
set_option maxRecDepth 20000 in
theorem ggX6_readNumber_X9_value : GoodIn wsX6_readNumber wsX9_value := goodIn_r _ [13, 14, 15, 16, 33, 34, 35, 36, 37, 38] (by decide +kernel) (by decide +kernel)
set_option maxRecDepth 20000 in
theorem gX6_readNumber_X9_value : GoodIn wsX6_readNumber (wsV RX6 163 RX9 yX9_value wsX9_value) := goodIn_app (goodIn_of _ (by decide +kernel)) ggX6_readNumber_X9_value
set_option maxRecDepth 20000 in
theorem ggX6_readNumber_X9_advance : GoodIn wsX6_readNumber wsX9_advance := goodIn_r _ [20, 14, 15, 21, 16, 22, 23, 24, 25, 26, 27, 28, 12, 29, 30, 31, 32, 33, 34, 35, 36, 37, 38] (by decide +kernel) (by decide +kernel)
set_option maxRecDepth 20000 in
theorem gX6_readNumber_X9_advance : GoodIn wsX6_readNumber (wsV RX6 110 RX9 yX9_advance wsX9_advance) := goodIn_app (goodIn_of _ (by decide +kernel)) ggX6_readNumber_X9_advance
set_option maxRecDepth 20000 in
theorem ggX7_init_X2_init : GoodIn wsX7_init wsX2_init := goodIn_r _ [15, 16, 2, 3, 17, 18, 19, 41, 42, 43, 44, 45] (by decide +kernel) (by decide +kernel)
set_option maxRecDepth 20000 in
theorem gX7_init_X2_init_n11 : GoodIn wsX7_init (wsX2_init) := ggX7_init_X2_init
set_option maxRecDepth 20000 in
theorem ggX7_init_X5_init : GoodIn wsX7_init wsX5_init := goodIn_r _ [21, 22, 2, 3] (by decide +kernel) (by decide +kernel)
set_option maxRecDepth 20000 in
theorem gX7_init_X5_init_n28 : GoodIn wsX7_init (wsX5_init) := ggX7_init_X5_init
set_option maxRecDepth 20000 in
theorem ggX7_init_X7_clear : GoodIn wsX7_init wsX7_clear := goodIn_r _ [27, 7, 28, 29, 30, 31, 32, 33, 34, 35, 36, 37, 6, 38, 17, 18, 19, 39, 40, 46, 47, 48, 49, 50, 51, 52, 53, 54, 55, 41, 42, 43, 44, 45] (by decide +kernel) (by decide +kernel)
set_option maxRecDepth 20000 in
theorem gX7_init_X7_clear : GoodIn wsX7_init (wsV RX7 29 RX7 yX7_clear wsX7_clear) := goodIn_app (goodIn_of _ (by decide +kernel)) ggX7_init_X7_clear
set_option maxRecDepth 20000 in
theorem ggX7_clear_X2_set : GoodIn wsX7_clear wsX2_set := goodIn_r _ [13, 14, 15, 16, 17, 18, 29, 30, 31, 32, 33] (by decide +kernel) (by decide +kernel)
set_option maxRecDepth 20000 in
theorem gX7_clear_X2_set : GoodIn wsX7_clear (wsV RX7 32 RX2 yX2_set wsX2_set) := goodIn_app (goodIn_of _ (by decide +kernel)) ggX7_clear_X2_set
set_option maxRecDepth 20000 in
theorem ggX7_steadyBits_X5_isAtNight : GoodIn wsX7_steadyBits wsX5_isAtNight := goodIn_r _ [9, 10, 11, 22, 23, 24, 25, 26] (by decide +kernel) (by decide +kernel)
set_option maxRecDepth 20000 in
theorem gX7_steadyBits_X5_isAtNight : GoodIn wsX7_steadyBits (wsV RX7 71 RX5 yX5_isAtNight wsX5_isAtNight) := goodIn_app (goodIn_of _ (by decide +kernel)) ggX7_steadyBits_X5_isAtNight
set_option maxRecDepth 20000 in
theorem ggX7_dearestOf_X7_hundredthsUnder : GoodIn wsX7_dearestOf wsX7_hundredthsUnder := goodIn_r _ [6, 7, 8, 9, 10, 11, 12, 13, 14, 15, 16, 17, 18, 19, 20, 21, 22, 23] (by decide +kernel) (by decide +kernel)
set_option maxRecDepth 20000 in
theorem gX7_dearestOf_X7_hundredthsUnder : GoodIn wsX7_dearestOf (wsV RX7 75 RX7 yX7_hundredthsUnder wsX7_hundredthsUnder) := goodIn_app (goodIn_of _ (by decide +kernel)) ggX7_dearestOf_X7_hundredthsUnder
set_option maxRecDepth 20000 in
theorem ggX8_init_X4_init : GoodIn wsX8_init wsX4_init := goodIn_r _ [20, 21, 2, 3, 5, 22, 23, 38, 39, 40] (by decide +kernel) (by decide +kernel)
set_option maxRecDepth 20000 in
theorem gX8_init_X4_init_n39 : GoodIn wsX8_init (wsX4_init) := ggX8_init_X4_init
set_option maxRecDepth 20000 in
theorem ggX8_renew_X8_pairUp : GoodIn wsX8_renew wsX8_pairUp := goodIn_r _ [12, 13, 14, 15, 16, 17, 18, 19, 20, 21, 22, 23, 24, 25, 26, 27, 11, 28, 29, 6, 30, 31, 32, 33, 34, 4, 35, 36, 37, 38, 39, 40, 41, 42, 43, 44, 45, 46, 47, 48, 49, 50, 51, 52, 53, 54, 55, 56, 220, 221, 222, 223, 224, 225, 226, 227, 228, 229, 230, 231, 232, 233, 247, 248, 249, 237, 238, 239, 240, 241, 242, 243, 244, 245, 246, 250, 251, 252, 253, 254, 234, 235, 236] (by decide +kernel) (by decide +kernel)
set_option maxRecDepth 20000 in
theorem gX8_renew_X8_pairUp : GoodIn wsX8_renew (wsV RX8 60 RX8 yX8_pairUp wsX8_pairUp) := goodIn_app (goodIn_of _ (by decide +kernel)) ggX8_renew_X8_pairUp
set_option maxRecDepth 20000 in
theorem ggX8_renew_X2_quartersAhead : GoodIn wsX8_renew wsX2_quartersAhead := goodIn_r _ [42, 43, 44, 45, 41, 46, 47, 48, 250, 251, 252, 253, 254] (by decide +kernel) (by decide +kernel)
set_option maxRecDepth 20000 in
theorem gX8_renew_X2_quartersAhead : GoodIn wsX8_renew (wsV RX8 70 RX2 yX2_quartersAhead wsX2_quartersAhead) := goodIn_app (goodIn_of _ (by decide +kernel)) ggX8_renew_X2_quartersAhead
set_option maxRecDepth 20000 in
theorem ggX8_renew_X4_sameWithin : GoodIn wsX8_renew wsX4_sameWithin := goodIn_r _ [60, 54, 55, 61, 62, 32, 63, 56, 64, 31, 33, 65, 66, 67, 52, 68, 234, 235, 236] (by decide +kernel) (by decide +kernel)
set_option maxRecDepth 20000 in
theorem gX8_renew_X4_sameWithin : GoodIn wsX8_renew (wsV RX8 76 RX4 yX4_sameWithin wsX4_sameWithin) := goodIn_app (goodIn_of _ (by decide +kernel)) ggX8_renew_X4_sameWithin
set_option maxRecDepth 20000 in
theorem ggX8_renew_X8_clearQuarters : GoodIn wsX8_renew wsX8_clearQuarters := goodIn_r _ [72, 73, 74, 220, 221, 222, 223, 224, 225, 226, 227, 228, 229, 230, 231, 232, 233] (by decide +kernel) (by decide +kernel)
set_option maxRecDepth 20000 in
theorem gX8_renew_X8_clearQuarters : GoodIn wsX8_renew (wsV RX8 80 RX8 yX8_clearQuarters wsX8_clearQuarters) := goodIn_app (goodIn_of _ (by decide +kernel)) ggX8_renew_X8_clearQuarters
set_option maxRecDepth 20000 in
theorem ggX8_renew_X8_payWeek : GoodIn wsX8_renew wsX8_payWeek := goodIn_r _ [78, 79, 4, 80, 74, 81, 82, 73, 83, 84, 85, 86, 2, 87, 88, 89, 90, 91, 92, 93, 94, 95, 96, 97, 98, 99, 100, 101, 31, 32, 33, 102, 103, 62, 63, 104, 105, 106, 107, 108, 22, 109, 110, 111, 112, 39, 40, 41, 42, 43, 44, 45, 46, 47, 48, 113, 114, 115, 116, 117, 118, 119, 120, 121, 122, 123, 124, 125, 126, 127, 128, 129, 130, 131, 132, 133, 134, 135, 136, 137, 138, 139, 140, 141, 142, 143, 144, 145, 146, 147, 148, 149, 150, 151, 152, 153, 154, 155, 156, 157, 158, 159, 160, 161, 162, 163, 164, 165, 166, 167, 168, 169, 170, 171, 172, 173, 174, 175, 176, 177, 178, 179, 180, 181, 182, 183, 184, 185, 186, 187, 188, 189, 190, 191, 192, 193, 194, 195, 196, 197, 198, 199, 200, 201, 202, 203, 204, 205, 206, 207, 208, 209, 210, 211, 212, 213, 214, 215, 216, 217, 218, 219, 255, 256, 257, 258, 259, 260, 261, 262, 263, 220, 221, 222, 223, 224, 225, 226, 227, 228, 229, 230, 231, 232, 233, 264, 265, 266, 267, 268, 237, 238, 239, 240, 241, 242, 243, 244, 245, 246, 234, 235, 236, 250, 251, 252, 253, 254, 269, 270, 271, 272, 273] (by decide +kernel) (by decide +kernel)
set_option maxRecDepth 20000 in
theorem gX8_renew_X8_payWeek : GoodIn wsX8_renew (wsV RX8 84 RX8 yX8_payWeek wsX8_payWeek) := goodIn_app (goodIn_of _ (by decide +kernel)) ggX8_renew_X8_payWeek
set_option maxRecDepth 20000 in
theorem ggX8_pairUp_X7_rounded : GoodIn wsX8_pairUp wsX7_rounded := goodIn_r _ [11, 12, 65, 66, 67, 68, 69, 70, 71, 72, 73, 74] (by decide +kernel) (by decide +kernel)
set_option maxRecDepth 20000 in
theorem gX8_pairUp_X7_rounded : GoodIn wsX8_pairUp (wsV RX8 103 RX7 yX7_rounded wsX7_rounded) := goodIn_app (goodIn_of _ (by decide +kernel)) ggX8_pairUp_X7_rounded
set_option maxRecDepth 20000 in
theorem ggX8_pairUp_X8_addSpan : GoodIn wsX8_pairUp wsX8_addSpan := goodIn_r _ [17, 1, 18, 19, 20, 21, 22, 23, 24, 25, 26, 27, 28, 29, 30, 31, 32, 33, 34, 35, 36, 37, 38, 39, 40, 41, 42, 43, 44, 45, 46, 47, 48, 49, 50, 51, 52, 53, 54, 55, 56, 57, 58, 59, 60, 61, 65, 66, 67, 68, 69, 70, 71, 72, 73, 74, 75, 76, 77, 78, 79, 80, 81, 82] (by decide +kernel) (by decide +kernel)
set_option maxRecDepth 20000 in
theorem gX8_pairUp_X8_addSpan : GoodIn wsX8_pairUp (wsV RX8 106 RX8 yX8_addSpan wsX8_addSpan) := goodIn_app (goodIn_of _ (by decide +kernel)) ggX8_pairUp_X8_addSpan
set_option maxRecDepth 20000 in
theorem ggX8_addSpan_X2_quartersAhead : GoodIn wsX8_addSpan wsX2_quartersAhead := goodIn_r _ [17, 18, 19, 20, 16, 21, 22, 23, 56, 57, 58, 59, 60] (by decide +kernel) (by decide +kernel)
set_option maxRecDepth 20000 in
theorem gX8_addSpan_X2_quartersAhead : GoodIn wsX8_addSpan (wsV RX8 70 RX2 yX2_quartersAhead wsX2_quartersAhead) := goodIn_app (goodIn_of _ (by decide +kernel)) ggX8_addSpan_X2_quartersAhead
set_option maxRecDepth 20000 in
theorem ggX8_addSpan_X4_put : GoodIn wsX8_addSpan wsX4_put := goodIn_r _ [28, 29, 30, 31, 61, 62, 63] (by decide +kernel) (by decide +kernel)
set_option maxRecDepth 20000 in
theorem gX8_addSpan_X4_put : GoodIn wsX8_addSpan (wsV RX8 119 RX4 yX4_put wsX4_put) := goodIn_app (goodIn_of _ (by decide +kernel)) ggX8_addSpan_X4_put
set_option maxRecDepth 20000 in
theorem ggX8_payWeek_X10_gather : GoodIn wsX8_payWeek wsX10_gather := goodIn_r _ [17, 18, 19, 20, 21, 22, 16, 23, 24, 25, 26, 27, 28, 29, 30, 31, 32, 33, 34, 35, 36, 37, 38, 39, 40, 41, 42, 43, 44, 45, 46, 47, 48, 49, 50, 51, 52, 53, 54, 55, 56, 57, 58, 59, 60, 61, 62, 63, 64, 65, 66, 67, 68, 69, 70, 71, 72, 73, 74, 75, 76, 77, 78, 79, 185, 186, 187, 188, 189, 190, 191, 192, 193, 194, 195, 196, 197, 198, 199, 200, 201, 202, 203, 204, 205, 206, 207, 208, 209, 210, 211, 212] (by decide +kernel) (by decide +kernel)
set_option maxRecDepth 20000 in
theorem gX8_payWeek_X10_gather : GoodIn wsX8_payWeek (wsV RX8 131 RX10 yX10_gather wsX10_gather) := goodIn_app (goodIn_of _ (by decide +kernel)) ggX8_payWeek_X10_gather
set_option maxRecDepth 20000 in
theorem ggX8_payWeek_X10_payAsTheyCome : GoodIn wsX8_payWeek wsX10_payAsTheyCome := goodIn_r _ [83, 18, 84, 36, 85, 86, 87, 40, 88, 69, 70, 71, 72, 89, 90, 91, 92, 93, 94, 95, 96, 97, 98, 99, 100, 101, 102, 185, 186, 187, 188, 189, 190, 191, 192, 193, 194, 195, 196, 197, 198, 199, 208, 209, 210, 211, 212] (by decide +kernel) (by decide +kernel)
set_option maxRecDepth 20000 in
theorem gX8_payWeek_X10_payAsTheyCome : GoodIn wsX8_payWeek (wsV RX8 137 RX10 yX10_payAsTheyCome wsX10_payAsTheyCome) := goodIn_app (goodIn_of _ (by decide +kernel)) ggX8_payWeek_X10_payAsTheyCome
set_option maxRecDepth 20000 in
theorem ggX8_payWeek_X0_payBest : GoodIn wsX8_payWeek wsX0_payBest := goodIn_r _ [107, 108, 109, 110, 111, 112, 113, 114, 115, 116, 40, 117, 69, 70, 71, 72, 118, 33, 29, 34, 119, 86, 87, 88, 120, 121, 122, 123, 102, 97, 124, 125, 126, 106, 127, 128, 129, 130, 131, 132, 133, 134, 135, 136, 28, 30, 137, 138, 139, 140, 141, 142, 143, 144, 145, 146, 147, 148, 149, 150, 151, 152, 153, 154, 155, 156, 157, 158, 159, 160, 94, 95, 96, 161, 99, 100, 101, 162, 163, 164, 165, 166, 167, 168, 169, 170, 185, 186, 187, 188, 189, 190, 191, 192, 193, 194, 195, 196, 197, 198, 199, 208, 209, 210, 211, 212] (by decide +kernel) (by decide +kernel)
set_option maxRecDepth 20000 in
theorem gX8_payWeek_X0_payBest : GoodIn wsX8_payWeek (wsV RX8 146 RX0 yX0_payBest wsX0_payBest) := goodIn_app (goodIn_of _ (by decide +kernel)) ggX8_payWeek_X0_payBest
set_option maxRecDepth 20000 in
theorem ggX9_open_X9_advance : GoodIn wsX9_open wsX9_advance := goodIn_r _ [12, 7, 13, 6, 14, 2, 3, 4, 5, 15, 16, 17, 11, 18, 19, 20, 21, 22, 23, 24, 25, 26, 27] (by decide +kernel) (by decide +kernel)
set_option maxRecDepth 20000 in
theorem gX9_open_X9_advance : GoodIn wsX9_open (wsV RX9 31 RX9 yX9_advance wsX9_advance) := goodIn_app (goodIn_of _ (by decide +kernel)) ggX9_open_X9_advance
set_option maxRecDepth 20000 in
theorem ggX9_advance_X9_isLetter : GoodIn wsX9_advance wsX9_isLetter := goodIn_r _ [13] (by decide +kernel) (by decide +kernel)
set_option maxRecDepth 20000 in
theorem gX9_advance_X9_isLetter : GoodIn wsX9_advance (va_wsS RX9 40 yX9_isLetter wsX9_isLetter) := goodIn_app (goodIn_of _ (by decide +kernel)) ggX9_advance_X9_isLetter
set_option maxRecDepth 20000 in
theorem ggX9_advance_X9_isDigit : GoodIn wsX9_advance wsX9_isDigit := goodIn_r _ [16] (by decide +kernel) (by decide +kernel)
set_option maxRecDepth 20000 in
theorem gX9_advance_X9_isDigit : GoodIn wsX9_advance (va_wsS RX9 44 yX9_isDigit wsX9_isDigit) := goodIn_app (goodIn_of _ (by decide +kernel)) ggX9_advance_X9_isDigit
set_option maxRecDepth 20000 in
theorem ggX9_tells_J0_length_8abf5 : GoodIn wsX9_tells wsJ0_length_8abf5 := goodIn_r _ [9, 10, 11, 12, 13, 8, 14, 15, 16] (by decide +kernel) (by decide +kernel)
set_option maxRecDepth 20000 in
theorem gX9_tells_J0_length_8abf5 : GoodIn wsX9_tells (wsV RX9 47 RJ0 yJ0_length_8abf5 wsJ0_length_8abf5) := goodIn_app (goodIn_of _ (by decide +kernel)) ggX9_tells_J0_length_8abf5
set_option maxRecDepth 20000 in
theorem ggX9_tells_J0_charAt_5068e : GoodIn wsX9_tells wsJ0_charAt_5068e := goodIn_r _ [20, 10, 21, 22, 23, 8, 24, 15, 16, 25, 26, 27, 28, 29, 30, 31, 32, 33, 34, 35, 36, 37, 38, 39, 40, 41, 42, 43, 44, 45, 46, 47, 48, 49, 50, 51, 52, 53] (by decide +kernel) (by decide +kernel)
set_option maxRecDepth 20000 in
theorem gX9_tells_J0_charAt_5068e : GoodIn wsX9_tells (wsV RX9 53 RJ0 yJ0_charAt_5068e wsJ0_charAt_5068e) := goodIn_app (goodIn_of _ (by decide +kernel)) ggX9_tells_J0_charAt_5068e
set_option maxRecDepth 20000 in
theorem ggX10_gather_X10_gatherDay : GoodIn wsX10_gather wsX10_gatherDay := goodIn_r _ [7, 2, 8, 1, 9, 10, 11, 12, 13, 14, 15, 16, 17, 18, 19, 20, 21, 22, 23, 24, 25, 26, 27, 28, 29, 30, 31, 32, 33, 34, 35, 36, 37, 38, 39, 40, 41, 42, 43, 44, 45, 46, 47, 48, 49, 50, 51, 52, 53, 54, 55, 56, 57, 58, 59, 60, 61, 62, 63, 64, 65, 66, 67, 68, 69, 70, 71, 72, 73, 74, 75, 76, 77, 78, 79, 80, 81, 82, 83, 84, 85, 86, 87, 88, 89, 90, 91] (by decide +kernel) (by decide +kernel)
set_option maxRecDepth 20000 in
theorem gX10_gather_X10_gatherDay : GoodIn wsX10_gather (wsV RX10 28 RX10 yX10_gatherDay wsX10_gatherDay) := goodIn_app (goodIn_of _ (by decide +kernel)) ggX10_gather_X10_gatherDay
set_option maxRecDepth 20000 in
theorem ggX10_gatherDay_X7_isHoliday : GoodIn wsX10_gatherDay wsX7_isHoliday := goodIn_r _ [20, 21, 22, 64, 65, 66, 67, 68, 69, 70, 71, 72, 73] (by decide +kernel) (by decide +kernel)
set_option maxRecDepth 20000 in
theorem gX10_gatherDay_X7_isHoliday : GoodIn wsX10_gatherDay (wsV RX10 32 RX7 yX7_isHoliday wsX7_isHoliday) := goodIn_app (goodIn_of _ (by decide +kernel)) ggX10_gatherDay_X7_isHoliday
set_option maxRecDepth 20000 in
theorem ggX10_gatherDay_X2_quartersAhead : GoodIn wsX10_gatherDay wsX2_quartersAhead := goodIn_r _ [27, 28, 29, 30, 26, 31, 32, 33, 77, 78, 79, 80, 81] (by decide +kernel) (by decide +kernel)
set_option maxRecDepth 20000 in
theorem gX10_gatherDay_X2_quartersAhead : GoodIn wsX10_gatherDay (wsV RX10 42 RX2 yX2_quartersAhead wsX2_quartersAhead) := goodIn_app (goodIn_of _ (by decide +kernel)) ggX10_gatherDay_X2_quartersAhead
set_option maxRecDepth 20000 in
theorem ggX10_gatherDay_X2_hourAt : GoodIn wsX10_gatherDay wsX2_hourAt := goodIn_r _ [37, 38, 39, 40, 26, 41, 42, 43, 77, 78, 79, 80, 81] (by decide +kernel) (by decide +kernel)
set_option maxRecDepth 20000 in
theorem gX10_gatherDay_X2_hourAt : GoodIn wsX10_gatherDay (wsV RX10 66 RX2 yX2_hourAt wsX2_hourAt) := goodIn_app (goodIn_of _ (by decide +kernel)) ggX10_gatherDay_X2_hourAt
set_option maxRecDepth 20000 in
theorem ggX10_gatherDay_X7_steadyBits : GoodIn wsX10_gatherDay wsX7_steadyBits := goodIn_r _ [47, 48, 49, 50, 51, 52, 53, 54, 55, 56, 57, 58, 64, 65, 66, 67, 68, 69, 70, 71, 72, 73, 82, 83, 84, 85, 86] (by decide +kernel) (by decide +kernel)
set_option maxRecDepth 20000 in
theorem gX10_gatherDay_X7_steadyBits : GoodIn wsX10_gatherDay (wsV RX10 69 RX7 yX7_steadyBits wsX7_steadyBits) := goodIn_app (goodIn_of _ (by decide +kernel)) ggX10_gatherDay_X7_steadyBits
set_option maxRecDepth 20000 in
theorem ggX10_payAsTheyCome_X7_weekBits : GoodIn wsX10_payAsTheyCome wsX7_weekBits := goodIn_r _ [8, 9, 10, 11, 12, 32, 33, 34, 35, 36, 37, 38, 39, 40, 41, 42, 43, 44, 45, 46] (by decide +kernel) (by decide +kernel)
set_option maxRecDepth 20000 in
theorem gX10_payAsTheyCome_X7_weekBits : GoodIn wsX10_payAsTheyCome (wsV RX10 73 RX7 yX7_weekBits wsX7_weekBits) := goodIn_app (goodIn_of _ (by decide +kernel)) ggX10_payAsTheyCome_X7_weekBits
set_option maxRecDepth 20000 in
theorem ggX10_payAsTheyCome_X7_dearestOf : GoodIn wsX10_payAsTheyCome wsX7_dearestOf := goodIn_r _ [16, 9, 17, 18, 19, 7, 20, 10, 21, 32, 33, 34, 35, 36, 37, 38, 39, 40, 41, 42, 43, 44, 45, 46] (by decide +kernel) (by decide +kernel)
set_option maxRecDepth 20000 in
theorem gX10_payAsTheyCome_X7_dearestOf : GoodIn wsX10_payAsTheyCome (wsV RX10 76 RX7 yX7_dearestOf wsX7_dearestOf) := goodIn_app (goodIn_of _ (by decide +kernel)) ggX10_payAsTheyCome_X7_dearestOf
set_option maxRecDepth 20000 in
theorem ggX10_payAsTheyCome_X7_countsUnder : GoodIn wsX10_payAsTheyCome wsX7_countsUnder := goodIn_r _ [25, 10, 26, 32, 33, 34, 35, 36, 37, 38, 39, 40, 41, 42, 43, 44, 45, 46] (by decide +kernel) (by decide +kernel)
set_option maxRecDepth 20000 in
theorem gX10_payAsTheyCome_X7_countsUnder : GoodIn wsX10_payAsTheyCome (wsV RX10 79 RX7 yX7_countsUnder wsX7_countsUnder) := goodIn_app (goodIn_of _ (by decide +kernel)) ggX10_payAsTheyCome_X7_countsUnder
