set_option maxRecDepth 20000 in
theorem ggX12_laysBest_X12_laysWeekPremiums : GoodIn wsX12_laysBest wsX12_laysWeekPremiums := goodIn_r _ [9, 3, 4, 10, 11, 12, 8, 13, 14, 15, 16, 17, 18, 19, 20, 21, 22, 28, 29, 30, 31, 32, 33, 34, 35, 36, 37, 38, 39, 40, 41, 42, 43, 44, 45, 46, 47, 48, 49, 50, 51, 52, 53, 54, 55, 56, 57, 58, 59, 60, 61, 62, 63, 64, 65] (by decide +kernel) (by decide +kernel)
set_option maxRecDepth 20000 in
theorem gX12_laysBest_X12_laysWeekPremiums : GoodIn wsX12_laysBest (wsV RX12 252 RX12 yX12_laysWeekPremiums wsX12_laysWeekPremiums) := goodIn_app (goodIn_of _ (by decide +kernel)) ggX12_laysBest_X12_laysWeekPremiums
set_option maxRecDepth 20000 in
theorem ggX12_laysBest_X12_mostOf : GoodIn wsX12_laysBest wsX12_mostOf := goodIn_r _ [26, 27, 10, 11, 12, 8, 13, 14, 15, 16, 17, 18, 28, 29, 30, 31, 32, 33, 34, 35, 36, 37, 38, 39, 40, 41, 42, 43, 44, 45, 46, 47, 48, 49, 50, 51, 52, 53, 54, 55, 56, 57, 58, 59, 60, 61, 62, 63, 64, 65] (by decide +kernel) (by decide +kernel)
set_option maxRecDepth 20000 in
theorem gX12_laysBest_X12_mostOf : GoodIn wsX12_laysBest (wsV RX12 255 RX12 yX12_mostOf wsX12_mostOf) := goodIn_app (goodIn_of _ (by decide +kernel)) ggX12_laysBest_X12_mostOf
set_option maxRecDepth 20000 in
theorem ggX12_readsBest_X12_premiums : GoodIn wsX12_readsBest wsX12_premiums := goodIn_r _ [10, 11, 21, 22, 23, 24, 25, 26, 27, 28, 29, 30, 31, 32, 33, 34, 35, 36, 37, 38, 39, 40, 41, 42, 43, 44, 45, 46, 47, 48, 49, 50, 51, 52, 53, 54, 55, 56, 57, 58] (by decide +kernel) (by decide +kernel)
set_option maxRecDepth 20000 in
theorem gX12_readsBest_X12_premiums : GoodIn wsX12_readsBest (wsV RX12 177 RX12 yX12_premiums wsX12_premiums) := goodIn_app (goodIn_of _ (by decide +kernel)) ggX12_readsBest_X12_premiums
set_option maxRecDepth 20000 in
theorem ggX12_readsBest_X12_canBe : GoodIn wsX12_readsBest wsX12_canBe := goodIn_r _ [15, 16, 17, 18, 19, 9, 20, 11, 21, 22, 23, 24, 25, 26, 27, 28, 29, 30, 31, 32, 33, 34, 35, 36, 37, 38, 39, 40, 41, 42, 43, 44, 45, 46, 47, 48, 49, 50, 51, 52, 53, 54, 55, 56, 57, 58] (by decide +kernel) (by decide +kernel)
set_option maxRecDepth 20000 in
theorem gX12_readsBest_X12_canBe : GoodIn wsX12_readsBest (wsV RX12 259 RX12 yX12_canBe wsX12_canBe) := goodIn_app (goodIn_of _ (by decide +kernel)) ggX12_readsBest_X12_canBe
set_option maxRecDepth 20000 in
theorem ggX12_readsBest_X12_premiumIs : GoodIn wsX12_readsBest wsX12_premiumIs := goodIn_r _ [20, 11, 21, 22, 23, 24, 25, 26, 27, 28, 29, 30, 31, 32, 33, 34, 35, 36, 37, 38, 39, 40, 41, 42, 43, 44, 45, 46, 47, 48, 49, 50, 51, 52, 53, 54, 55, 56, 57, 58] (by decide +kernel) (by decide +kernel)
set_option maxRecDepth 20000 in
theorem gX12_readsBest_X12_premiumIs : GoodIn wsX12_readsBest (wsV RX12 180 RX12 yX12_premiumIs wsX12_premiumIs) := goodIn_app (goodIn_of _ (by decide +kernel)) ggX12_readsBest_X12_premiumIs
set_option maxRecDepth 20000 in
theorem ggX12_laysComing_X12_premiums : GoodIn wsX12_laysComing wsX12_premiums := goodIn_r _ [8, 9, 19, 20, 21, 22, 23, 24, 25, 26, 27, 28, 29, 30, 31, 32, 33, 34, 35, 36, 37, 38, 39, 40, 41, 42, 43, 44, 45, 46, 47, 48, 49, 50, 51, 52, 53, 54, 55, 56] (by decide +kernel) (by decide +kernel)
set_option maxRecDepth 20000 in
theorem gX12_laysComing_X12_premiums : GoodIn wsX12_laysComing (wsV RX12 177 RX12 yX12_premiums wsX12_premiums) := goodIn_app (goodIn_of _ (by decide +kernel)) ggX12_laysComing_X12_premiums
set_option maxRecDepth 20000 in
theorem ggX12_laysComing_X12_canBe : GoodIn wsX12_laysComing wsX12_canBe := goodIn_r _ [13, 14, 15, 16, 17, 7, 18, 9, 19, 20, 21, 22, 23, 24, 25, 26, 27, 28, 29, 30, 31, 32, 33, 34, 35, 36, 37, 38, 39, 40, 41, 42, 43, 44, 45, 46, 47, 48, 49, 50, 51, 52, 53, 54, 55, 56] (by decide +kernel) (by decide +kernel)
set_option maxRecDepth 20000 in
theorem gX12_laysComing_X12_canBe : GoodIn wsX12_laysComing (wsV RX12 259 RX12 yX12_canBe wsX12_canBe) := goodIn_app (goodIn_of _ (by decide +kernel)) ggX12_laysComing_X12_canBe
set_option maxRecDepth 20000 in
theorem ggX12_laysComing_X12_premiumIs : GoodIn wsX12_laysComing wsX12_premiumIs := goodIn_r _ [18, 9, 19, 20, 21, 22, 23, 24, 25, 26, 27, 28, 29, 30, 31, 32, 33, 34, 35, 36, 37, 38, 39, 40, 41, 42, 43, 44, 45, 46, 47, 48, 49, 50, 51, 52, 53, 54, 55, 56] (by decide +kernel) (by decide +kernel)
set_option maxRecDepth 20000 in
theorem gX12_laysComing_X12_premiumIs : GoodIn wsX12_laysComing (wsV RX12 180 RX12 yX12_premiumIs wsX12_premiumIs) := goodIn_app (goodIn_of _ (by decide +kernel)) ggX12_laysComing_X12_premiumIs
set_option maxRecDepth 20000 in
theorem ggX12_laysWeek_X12_laysWorked : GoodIn wsX12_laysWeek wsX12_laysWorked := goodIn_r _ [5, 6, 7, 8, 9, 10, 11, 12, 4, 13, 14, 15, 16, 17, 18, 19, 20, 21, 22, 23, 24, 25, 26, 27, 28, 29, 30, 31, 32, 33, 34, 35, 36, 37, 38, 39, 40, 41, 42, 110, 111, 112, 113, 114, 115, 116, 117, 118, 119, 120, 121, 122, 123, 124, 125, 126, 127, 128, 129, 130, 131, 132, 133, 134, 135, 136, 137, 138, 139, 140, 141, 142, 143, 144, 145, 146, 147] (by decide +kernel) (by decide +kernel)
set_option maxRecDepth 20000 in
theorem gX12_laysWeek_X12_laysWorked : GoodIn wsX12_laysWeek (wsV RX12 268 RX12 yX12_laysWorked wsX12_laysWorked) := goodIn_app (goodIn_of _ (by decide +kernel)) ggX12_laysWeek_X12_laysWorked
set_option maxRecDepth 20000 in
theorem ggX12_laysWeek_X12_laysQuarters : GoodIn wsX12_laysWeek wsX12_laysQuarters := goodIn_r _ [46, 47, 6, 48, 49, 50, 51, 52, 4, 53, 31, 32, 33, 34, 18, 35, 36, 37, 38, 39, 40, 41, 42, 54, 55, 56, 57, 58, 59, 60, 61, 62, 63, 64, 65, 66, 67, 68, 69, 70, 71, 72, 73, 110, 111, 112, 113, 114, 115, 116, 117, 118, 119, 120, 121, 122, 123, 124, 125, 126, 127, 128, 129, 130, 131, 132, 133, 134, 135, 136, 137, 138, 139, 140, 141, 142, 143, 144, 145, 146, 147] (by decide +kernel) (by decide +kernel)
set_option maxRecDepth 20000 in
theorem gX12_laysWeek_X12_laysQuarters : GoodIn wsX12_laysWeek (wsV RX12 271 RX12 yX12_laysQuarters wsX12_laysQuarters) := goodIn_app (goodIn_of _ (by decide +kernel)) ggX12_laysWeek_X12_laysQuarters
set_option maxRecDepth 20000 in
theorem ggX12_laysWeek_X12_laysBest : GoodIn wsX12_laysWeek wsX12_laysBest := goodIn_r _ [77, 47, 78, 79, 80, 81, 82, 83, 4, 84, 54, 55, 56, 57, 18, 62, 63, 64, 65, 85, 86, 87, 88, 89, 90, 91, 92, 49, 110, 111, 112, 113, 114, 115, 116, 117, 118, 119, 120, 121, 122, 123, 124, 125, 126, 127, 128, 129, 130, 131, 132, 133, 134, 135, 136, 137, 138, 139, 140, 141, 142, 143, 144, 145, 146, 147] (by decide +kernel) (by decide +kernel)
set_option maxRecDepth 20000 in
theorem gX12_laysWeek_X12_laysBest : GoodIn wsX12_laysWeek (wsV RX12 274 RX12 yX12_laysBest wsX12_laysBest) := goodIn_app (goodIn_of _ (by decide +kernel)) ggX12_laysWeek_X12_laysBest
set_option maxRecDepth 20000 in
theorem ggX12_laysWeek_X12_readsBest : GoodIn wsX12_laysWeek wsX12_readsBest := goodIn_r _ [96, 47, 97, 78, 98, 99, 54, 55, 56, 4, 57, 18, 100, 101, 102, 103, 49, 62, 63, 64, 65, 110, 111, 112, 113, 114, 115, 116, 117, 118, 119, 120, 121, 122, 123, 124, 125, 126, 127, 128, 129, 130, 131, 132, 133, 134, 135, 136, 137, 138, 139, 140, 141, 142, 143, 144, 145, 146, 147] (by decide +kernel) (by decide +kernel)
set_option maxRecDepth 20000 in
theorem gX12_laysWeek_X12_readsBest : GoodIn wsX12_laysWeek (wsV RX12 277 RX12 yX12_readsBest wsX12_readsBest) := goodIn_app (goodIn_of _ (by decide +kernel)) ggX12_laysWeek_X12_readsBest
set_option maxRecDepth 20000 in
theorem ggX12_laysWeek_X12_laysComing : GoodIn wsX12_laysWeek wsX12_laysComing := goodIn_r _ [107, 47, 108, 109, 54, 55, 56, 4, 57, 18, 100, 101, 102, 103, 49, 62, 63, 64, 65, 110, 111, 112, 113, 114, 115, 116, 117, 118, 119, 120, 121, 122, 123, 124, 125, 126, 127, 128, 129, 130, 131, 132, 133, 134, 135, 136, 137, 138, 139, 140, 141, 142, 143, 144, 145, 146, 147] (by decide +kernel) (by decide +kernel)
set_option maxRecDepth 20000 in
theorem gX12_laysWeek_X12_laysComing : GoodIn wsX12_laysWeek (wsV RX12 280 RX12 yX12_laysComing wsX12_laysComing) := goodIn_app (goodIn_of _ (by decide +kernel)) ggX12_laysWeek_X12_laysComing
set_option maxRecDepth 20000 in
theorem ggX12_hundredths_X12_premiumIs : GoodIn wsX12_hundredths wsX12_premiumIs := goodIn_r _ [5, 6, 7, 8, 9, 10, 11, 12, 13, 14, 15, 16, 17, 18, 19, 20, 21, 22, 23, 24, 25, 26, 27, 28, 29, 30, 31, 32, 33, 34, 35, 36, 37, 38, 39, 40, 41, 42, 43, 44] (by decide +kernel) (by decide +kernel)
set_option maxRecDepth 20000 in
theorem gX12_hundredths_X12_premiumIs : GoodIn wsX12_hundredths (wsV RX12 180 RX12 yX12_premiumIs wsX12_premiumIs) := goodIn_app (goodIn_of _ (by decide +kernel)) ggX12_hundredths_X12_premiumIs
set_option maxRecDepth 20000 in
theorem ggX12_quarter_X12_isWorker : GoodIn wsX12_quarter wsX12_isWorker := goodIn_r _ [11, 12, 13, 10, 14] (by decide +kernel) (by decide +kernel)
set_option maxRecDepth 20000 in
theorem gX12_quarter_X12_isWorker : GoodIn wsX12_quarter (wsV RX12 196 RX12 yX12_isWorker wsX12_isWorker) := goodIn_app (goodIn_of _ (by decide +kernel)) ggX12_quarter_X12_isWorker
set_option maxRecDepth 20000 in
theorem ggX12_quarter_X12_within : GoodIn wsX12_quarter wsX12_within := goodIn_r _ [14] (by decide +kernel) (by decide +kernel)
set_option maxRecDepth 20000 in
theorem gX12_quarter_X12_within : GoodIn wsX12_quarter (va_wsS RX12 34 yX12_within wsX12_within) := goodIn_app (goodIn_of _ (by decide +kernel)) ggX12_quarter_X12_within
set_option maxRecDepth 20000 in
theorem ggX12_quarter_X12_laysWorked : GoodIn wsX12_quarter wsX12_laysWorked := goodIn_r _ [18, 2, 19, 20, 21, 22, 23, 24, 10, 25, 26, 27, 28, 29, 30, 31, 32, 33, 34, 35, 36, 37, 38, 39, 40, 41, 42, 43, 44, 45, 46, 47, 48, 49, 50, 51, 12, 13, 14, 119, 120, 121, 122, 123, 124, 125, 126, 127, 128, 129, 130, 131, 132, 133, 134, 135, 136, 137, 138, 139, 140, 141, 142, 143, 144, 145, 146, 147, 148, 149, 150, 151, 152, 153, 154, 155, 156] (by decide +kernel) (by decide +kernel)
set_option maxRecDepth 20000 in
theorem gX12_quarter_X12_laysWorked : GoodIn wsX12_quarter (wsV RX12 268 RX12 yX12_laysWorked wsX12_laysWorked) := goodIn_app (goodIn_of _ (by decide +kernel)) ggX12_quarter_X12_laysWorked
set_option maxRecDepth 20000 in
theorem ggX12_quarter_X12_dayOf : GoodIn wsX12_quarter wsX12_dayOf := goodIn_r _ [55, 43, 44, 45, 10, 46, 30, 47, 48, 49, 50, 51, 12, 13, 14, 119, 120, 121, 122, 123, 124, 125, 126, 127, 128, 129, 130, 131, 132, 133, 134, 135, 136, 137, 138, 139, 140, 141, 142, 143, 144, 145, 146, 147, 148, 149, 150, 151, 152, 153, 154, 155, 156] (by decide +kernel) (by decide +kernel)
set_option maxRecDepth 20000 in
theorem gX12_quarter_X12_dayOf : GoodIn wsX12_quarter (wsV RX12 235 RX12 yX12_dayOf wsX12_dayOf) := goodIn_app (goodIn_of _ (by decide +kernel)) ggX12_quarter_X12_dayOf
set_option maxRecDepth 20000 in
theorem ggX12_quarter_X12_laysWeek : GoodIn wsX12_quarter wsX12_laysWeek := goodIn_r _ [59, 15, 16, 17, 10, 18, 2, 19, 20, 21, 22, 23, 24, 25, 26, 27, 28, 29, 30, 31, 32, 33, 34, 35, 36, 37, 38, 39, 40, 41, 42, 43, 44, 45, 46, 47, 48, 49, 50, 51, 12, 13, 14, 60, 61, 62, 63, 64, 3, 65, 52, 53, 54, 55, 66, 67, 68, 69, 70, 71, 72, 73, 74, 75, 76, 77, 78, 79, 80, 81, 82, 83, 84, 85, 86, 87, 88, 89, 90, 91, 92, 93, 94, 95, 96, 97, 98, 99, 100, 101, 102, 103, 104, 105, 106, 107, 108, 6, 4, 109, 110, 111, 112, 113, 114, 115, 116, 117, 5, 118, 119, 120, 121, 122, 123, 124, 125, 126, 127, 128, 129, 130, 131, 132, 133, 134, 135, 136, 137, 138, 139, 140, 141, 142, 143, 144, 145, 146, 147, 148, 149, 150, 151, 152, 153, 154, 155, 156] (by decide +kernel) (by decide +kernel)
set_option maxRecDepth 20000 in
theorem gX12_quarter_X12_laysWeek : GoodIn wsX12_quarter (wsV RX12 283 RX12 yX12_laysWeek wsX12_laysWeek) := goodIn_app (goodIn_of _ (by decide +kernel)) ggX12_quarter_X12_laysWeek
set_option maxRecDepth 20000 in
theorem ggX12_quarter_X12_hourOf : GoodIn wsX12_quarter wsX12_hourOf := goodIn_r _ [81, 43, 44, 45, 10, 46, 30, 47, 48, 49, 50, 51, 12, 13, 14, 119, 120, 121, 122, 123, 124, 125, 126, 127, 128, 129, 130, 131, 132, 133, 134, 135, 136, 137, 138, 139, 140, 141, 142, 143, 144, 145, 146, 147, 148, 149, 150, 151, 152, 153, 154, 155, 156] (by decide +kernel) (by decide +kernel)
set_option maxRecDepth 20000 in
theorem gX12_quarter_X12_hourOf : GoodIn wsX12_quarter (wsV RX12 242 RX12 yX12_hourOf wsX12_hourOf) := goodIn_app (goodIn_of _ (by decide +kernel)) ggX12_quarter_X12_hourOf
set_option maxRecDepth 20000 in
theorem ggX12_quarter_X12_premiums : GoodIn wsX12_quarter wsX12_premiums := goodIn_r _ [69, 30, 119, 120, 121, 122, 123, 124, 125, 126, 127, 128, 129, 130, 131, 132, 133, 134, 135, 136, 137, 138, 139, 140, 141, 142, 143, 144, 145, 146, 147, 148, 149, 150, 151, 152, 153, 154, 155, 156] (by decide +kernel) (by decide +kernel)
set_option maxRecDepth 20000 in
theorem gX12_quarter_X12_premiums : GoodIn wsX12_quarter (wsV RX12 177 RX12 yX12_premiums wsX12_premiums) := goodIn_app (goodIn_of _ (by decide +kernel)) ggX12_quarter_X12_premiums
set_option maxRecDepth 20000 in
theorem ggX12_quarter_X12_canBe : GoodIn wsX12_quarter wsX12_canBe := goodIn_r _ [113, 65, 74, 75, 76, 10, 77, 30, 119, 120, 121, 122, 123, 124, 125, 126, 127, 128, 129, 130, 131, 132, 133, 134, 135, 136, 137, 138, 139, 140, 141, 142, 143, 144, 145, 146, 147, 148, 149, 150, 151, 152, 153, 154, 155, 156] (by decide +kernel) (by decide +kernel)
set_option maxRecDepth 20000 in
theorem gX12_quarter_X12_canBe : GoodIn wsX12_quarter (wsV RX12 259 RX12 yX12_canBe wsX12_canBe) := goodIn_app (goodIn_of _ (by decide +kernel)) ggX12_quarter_X12_canBe
set_option maxRecDepth 20000 in
theorem ggX12_isAsked_X12_premiums : GoodIn wsX12_isAsked wsX12_premiums := goodIn_r _ [5, 6, 10, 11, 12, 13, 14, 15, 16, 17, 18, 19, 20, 21, 22, 23, 24, 25, 26, 27, 28, 29, 30, 31, 32, 33, 34, 35, 36, 37, 38, 39, 40, 41, 42, 43, 44, 45, 46, 47] (by decide +kernel) (by decide +kernel)
set_option maxRecDepth 20000 in
theorem gX12_isAsked_X12_premiums : GoodIn wsX12_isAsked (wsV RX12 177 RX12 yX12_premiums wsX12_premiums) := goodIn_app (goodIn_of _ (by decide +kernel)) ggX12_isAsked_X12_premiums
set_option maxRecDepth 20000 in
theorem ggX12_isAsked_X12_within : GoodIn wsX12_isAsked wsX12_within := goodIn_r _ [9] (by decide +kernel) (by decide +kernel)
set_option maxRecDepth 20000 in
theorem gX12_isAsked_X12_within : GoodIn wsX12_isAsked (va_wsS RX12 34 yX12_within wsX12_within) := goodIn_app (goodIn_of _ (by decide +kernel)) ggX12_isAsked_X12_within
set_option maxRecDepth 20000 in
theorem ggX12_day_X12_isWorker : GoodIn wsX12_day wsX12_isWorker := goodIn_r _ [8, 9, 10, 7, 11] (by decide +kernel) (by decide +kernel)
set_option maxRecDepth 20000 in
theorem gX12_day_X12_isWorker : GoodIn wsX12_day (wsV RX12 196 RX12 yX12_isWorker wsX12_isWorker) := goodIn_app (goodIn_of _ (by decide +kernel)) ggX12_day_X12_isWorker
set_option maxRecDepth 20000 in
theorem ggX12_day_X12_within : GoodIn wsX12_day wsX12_within := goodIn_r _ [11] (by decide +kernel) (by decide +kernel)
set_option maxRecDepth 20000 in
theorem gX12_day_X12_within : GoodIn wsX12_day (va_wsS RX12 34 yX12_within wsX12_within) := goodIn_app (goodIn_of _ (by decide +kernel)) ggX12_day_X12_within
set_option maxRecDepth 20000 in
theorem ggX12_day_X12_isAsked : GoodIn wsX12_day wsX12_isAsked := goodIn_r _ [15, 16, 17, 18, 7, 19, 20, 9, 10, 11, 127, 128, 129, 130, 131, 132, 133, 134, 135, 136, 137, 138, 139, 140, 141, 142, 143, 144, 145, 146, 147, 148, 149, 150, 151, 152, 153, 154, 155, 156, 157, 158, 159, 160, 161, 162, 163, 164] (by decide +kernel) (by decide +kernel)
set_option maxRecDepth 20000 in
theorem gX12_day_X12_isAsked : GoodIn wsX12_day (wsV RX12 286 RX12 yX12_isAsked wsX12_isAsked) := goodIn_app (goodIn_of _ (by decide +kernel)) ggX12_day_X12_isAsked
set_option maxRecDepth 20000 in
theorem ggX12_day_X12_laysWeek : GoodIn wsX12_day wsX12_laysWeek := goodIn_r _ [24, 25, 26, 27, 7, 28, 29, 30, 31, 32, 33, 34, 35, 36, 37, 38, 39, 40, 20, 41, 42, 43, 44, 45, 46, 47, 48, 49, 50, 51, 52, 53, 54, 55, 56, 57, 58, 59, 60, 61, 9, 10, 11, 62, 63, 64, 65, 2, 3, 66, 67, 68, 69, 70, 16, 17, 18, 19, 71, 72, 73, 74, 75, 76, 77, 78, 79, 80, 81, 82, 83, 84, 85, 86, 87, 88, 89, 90, 91, 92, 93, 94, 95, 96, 97, 98, 99, 100, 101, 102, 103, 104, 105, 106, 107, 108, 109, 110, 111, 112, 113, 114, 115, 116, 117, 118, 119, 120, 121, 122, 127, 128, 129, 130, 131, 132, 133, 134, 135, 136, 137, 138, 139, 140, 141, 142, 143, 144, 145, 146, 147, 148, 149, 150, 151, 152, 153, 154, 155, 156, 157, 158, 159, 160, 161, 162, 163, 164] (by decide +kernel) (by decide +kernel)
set_option maxRecDepth 20000 in
theorem gX12_day_X12_laysWeek : GoodIn wsX12_day (wsV RX12 283 RX12 yX12_laysWeek wsX12_laysWeek) := goodIn_app (goodIn_of _ (by decide +kernel)) ggX12_day_X12_laysWeek
set_option maxRecDepth 20000 in
theorem ggX12_day_X12_dayOf : GoodIn wsX12_day wsX12_dayOf := goodIn_r _ [70, 53, 54, 55, 7, 56, 20, 57, 58, 59, 60, 61, 9, 10, 11, 127, 128, 129, 130, 131, 132, 133, 134, 135, 136, 137, 138, 139, 140, 141, 142, 143, 144, 145, 146, 147, 148, 149, 150, 151, 152, 153, 154, 155, 156, 157, 158, 159, 160, 161, 162, 163, 164] (by decide +kernel) (by decide +kernel)
set_option maxRecDepth 20000 in
theorem gX12_day_X12_dayOf : GoodIn wsX12_day (wsV RX12 235 RX12 yX12_dayOf wsX12_dayOf) := goodIn_app (goodIn_of _ (by decide +kernel)) ggX12_day_X12_dayOf
set_option maxRecDepth 20000 in
theorem ggX12_day_X12_isOf : GoodIn wsX12_day wsX12_isOf := goodIn_r _ [126, 111, 127, 128, 129, 130, 131, 132, 133, 134, 135, 136, 137, 138, 139, 140, 141, 142, 143, 144, 145, 146, 147, 148, 149, 150, 151, 152, 153, 154, 155, 156, 157, 158, 159, 160, 161, 162, 163, 164] (by decide +kernel) (by decide +kernel)
set_option maxRecDepth 20000 in
theorem gX12_day_X12_isOf : GoodIn wsX12_day (wsV RX12 289 RX12 yX12_isOf wsX12_isOf) := goodIn_app (goodIn_of _ (by decide +kernel)) ggX12_day_X12_isOf
set_option maxRecDepth 20000 in
theorem ggX12_isWeek_X12_within : GoodIn wsX12_isWeek wsX12_within := goodIn_r _ [4] (by decide +kernel) (by decide +kernel)
set_option maxRecDepth 20000 in
theorem gX12_isWeek_X12_within : GoodIn wsX12_isWeek (va_wsS RX12 34 yX12_within wsX12_within) := goodIn_app (goodIn_of _ (by decide +kernel)) ggX12_isWeek_X12_within
set_option maxRecDepth 20000 in
theorem ggX12_week_X12_isWorker : GoodIn wsX12_week wsX12_isWorker := goodIn_r _ [7, 8, 9, 6, 10] (by decide +kernel) (by decide +kernel)
set_option maxRecDepth 20000 in
theorem gX12_week_X12_isWorker : GoodIn wsX12_week (wsV RX12 196 RX12 yX12_isWorker wsX12_isWorker) := goodIn_app (goodIn_of _ (by decide +kernel)) ggX12_week_X12_isWorker
set_option maxRecDepth 20000 in
theorem ggX12_week_X12_isWeek : GoodIn wsX12_week wsX12_isWeek := goodIn_r _ [14, 8, 9, 6, 10] (by decide +kernel) (by decide +kernel)
set_option maxRecDepth 20000 in
theorem gX12_week_X12_isWeek : GoodIn wsX12_week (wsV RX12 292 RX12 yX12_isWeek wsX12_isWeek) := goodIn_app (goodIn_of _ (by decide +kernel)) ggX12_week_X12_isWeek
set_option maxRecDepth 20000 in
theorem ggX12_week_X12_isAsked : GoodIn wsX12_week wsX12_isAsked := goodIn_r _ [18, 19, 20, 21, 6, 22, 23, 8, 9, 10, 131, 132, 133, 134, 135, 136, 137, 138, 139, 140, 141, 142, 143, 144, 145, 146, 147, 148, 149, 150, 151, 152, 153, 154, 155, 156, 157, 158, 159, 160, 161, 162, 163, 164, 165, 166, 167, 168] (by decide +kernel) (by decide +kernel)
set_option maxRecDepth 20000 in
theorem gX12_week_X12_isAsked : GoodIn wsX12_week (wsV RX12 286 RX12 yX12_isAsked wsX12_isAsked) := goodIn_app (goodIn_of _ (by decide +kernel)) ggX12_week_X12_isAsked
set_option maxRecDepth 20000 in
theorem ggX12_week_X12_laysWeek : GoodIn wsX12_week wsX12_laysWeek := goodIn_r _ [27, 28, 29, 30, 6, 31, 32, 33, 34, 35, 36, 37, 38, 39, 40, 41, 42, 43, 23, 44, 45, 46, 47, 48, 49, 50, 51, 52, 53, 54, 55, 56, 57, 58, 59, 60, 61, 62, 63, 64, 8, 9, 10, 65, 66, 67, 68, 2, 69, 70, 71, 72, 73, 74, 19, 20, 21, 22, 75, 76, 77, 78, 79, 80, 81, 82, 83, 84, 85, 86, 87, 88, 89, 90, 91, 92, 93, 94, 95, 96, 97, 98, 99, 100, 101, 102, 103, 104, 105, 106, 107, 108, 109, 110, 111, 112, 113, 114, 115, 116, 117, 118, 119, 120, 121, 122, 123, 124, 125, 126, 131, 132, 133, 134, 135, 136, 137, 138, 139, 140, 141, 142, 143, 144, 145, 146, 147, 148, 149, 150, 151, 152, 153, 154, 155, 156, 157, 158, 159, 160, 161, 162, 163, 164, 165, 166, 167, 168] (by decide +kernel) (by decide +kernel)
set_option maxRecDepth 20000 in
theorem gX12_week_X12_laysWeek : GoodIn wsX12_week (wsV RX12 283 RX12 yX12_laysWeek wsX12_laysWeek) := goodIn_app (goodIn_of _ (by decide +kernel)) ggX12_week_X12_laysWeek
set_option maxRecDepth 20000 in
theorem ggX12_week_X12_isOf : GoodIn wsX12_week wsX12_isOf := goodIn_r _ [130, 115, 131, 132, 133, 134, 135, 136, 137, 138, 139, 140, 141, 142, 143, 144, 145, 146, 147, 148, 149, 150, 151, 152, 153, 154, 155, 156, 157, 158, 159, 160, 161, 162, 163, 164, 165, 166, 167, 168] (by decide +kernel) (by decide +kernel)
set_option maxRecDepth 20000 in
theorem gX12_week_X12_isOf : GoodIn wsX12_week (wsV RX12 289 RX12 yX12_isOf wsX12_isOf) := goodIn_app (goodIn_of _ (by decide +kernel)) ggX12_week_X12_isOf
set_option maxRecDepth 20000 in
theorem ggX12_counted_X12_isWorker : GoodIn wsX12_counted wsX12_isWorker := goodIn_r _ [8, 9, 10, 7, 11] (by decide +kernel) (by decide +kernel)
set_option maxRecDepth 20000 in
theorem gX12_counted_X12_isWorker : GoodIn wsX12_counted (wsV RX12 196 RX12 yX12_isWorker wsX12_isWorker) := goodIn_app (goodIn_of _ (by decide +kernel)) ggX12_counted_X12_isWorker
set_option maxRecDepth 20000 in
theorem ggX12_counted_X12_isWeek : GoodIn wsX12_counted wsX12_isWeek := goodIn_r _ [15, 9, 10, 7, 11] (by decide +kernel) (by decide +kernel)
set_option maxRecDepth 20000 in
theorem gX12_counted_X12_isWeek : GoodIn wsX12_counted (wsV RX12 292 RX12 yX12_isWeek wsX12_isWeek) := goodIn_app (goodIn_of _ (by decide +kernel)) ggX12_counted_X12_isWeek
set_option maxRecDepth 20000 in
theorem ggX12_counted_X12_laysWeek : GoodIn wsX12_counted wsX12_laysWeek := goodIn_r _ [19, 20, 21, 22, 7, 23, 24, 25, 26, 27, 28, 29, 30, 31, 32, 33, 34, 35, 36, 37, 38, 39, 40, 41, 42, 43, 44, 45, 46, 47, 48, 49, 50, 51, 52, 53, 54, 55, 56, 57, 9, 10, 11, 58, 59, 60, 61, 62, 63, 64, 65, 66, 67, 68, 69, 70, 71, 72, 73, 74, 75, 76, 77, 78, 79, 80, 81, 82, 83, 84, 85, 86, 87, 88, 89, 90, 91, 92, 93, 94, 95, 96, 97, 98, 99, 100, 101, 102, 103, 104, 105, 106, 107, 108, 109, 110, 111, 112, 113, 3, 114, 115, 116, 117, 118, 119, 120, 121, 122, 2, 123, 124, 125, 126, 127, 128, 129, 130, 131, 132, 133, 134, 135, 136, 137, 138, 139, 140, 141, 142, 143, 144, 145, 146, 147, 148, 149, 150, 151, 152, 153, 154, 155, 156, 157, 158, 159, 160] (by decide +kernel) (by decide +kernel)
set_option maxRecDepth 20000 in
theorem gX12_counted_X12_laysWeek : GoodIn wsX12_counted (wsV RX12 283 RX12 yX12_laysWeek wsX12_laysWeek) := goodIn_app (goodIn_of _ (by decide +kernel)) ggX12_counted_X12_laysWeek
set_option maxRecDepth 20000 in
theorem ggX12_pay_X12_isWorker : GoodIn wsX12_pay wsX12_isWorker := goodIn_r _ [10, 11, 12, 9, 13] (by decide +kernel) (by decide +kernel)
set_option maxRecDepth 20000 in
theorem gX12_pay_X12_isWorker : GoodIn wsX12_pay (wsV RX12 196 RX12 yX12_isWorker wsX12_isWorker) := goodIn_app (goodIn_of _ (by decide +kernel)) ggX12_pay_X12_isWorker
set_option maxRecDepth 20000 in
theorem ggX12_pay_X12_isWeek : GoodIn wsX12_pay wsX12_isWeek := goodIn_r _ [17, 11, 12, 9, 13] (by decide +kernel) (by decide +kernel)
set_option maxRecDepth 20000 in
theorem gX12_pay_X12_isWeek : GoodIn wsX12_pay (wsV RX12 292 RX12 yX12_isWeek wsX12_isWeek) := goodIn_app (goodIn_of _ (by decide +kernel)) ggX12_pay_X12_isWeek
set_option maxRecDepth 20000 in
theorem ggX12_pay_X12_laysWeek : GoodIn wsX12_pay wsX12_laysWeek := goodIn_r _ [21, 22, 23, 24, 9, 25, 26, 27, 28, 29, 30, 31, 32, 33, 34, 35, 36, 37, 5, 38, 39, 40, 41, 42, 43, 44, 45, 46, 47, 48, 49, 50, 51, 52, 53, 54, 55, 56, 57, 58, 11, 12, 13, 59, 60, 61, 62, 2, 63, 64, 65, 66, 67, 68, 69, 70, 71, 72, 73, 74, 75, 76, 77, 78, 79, 80, 81, 82, 83, 84, 85, 86, 87, 88, 89, 90, 91, 92, 93, 94, 95, 96, 97, 98, 99, 100, 101, 102, 103, 104, 105, 106, 107, 108, 109, 110, 111, 112, 4, 113, 114, 115, 116, 117, 118, 119, 120, 121, 3, 122, 127, 128, 129, 130, 131, 132, 133, 134, 135, 136, 137, 138, 139, 140, 141, 142, 143, 144, 145, 146, 147, 148, 149, 150, 151, 152, 153, 154, 155, 156, 157, 158, 159, 160, 161, 162, 163, 164] (by decide +kernel) (by decide +kernel)
set_option maxRecDepth 20000 in
theorem gX12_pay_X12_laysWeek : GoodIn wsX12_pay (wsV RX12 283 RX12 yX12_laysWeek wsX12_laysWeek) := goodIn_app (goodIn_of _ (by decide +kernel)) ggX12_pay_X12_laysWeek
set_option maxRecDepth 20000 in
theorem ggX12_pay_X12_hundredths : GoodIn wsX12_pay wsX12_hundredths := goodIn_r _ [126, 77, 78, 79, 9, 80, 5, 127, 128, 129, 130, 131, 132, 133, 134, 135, 136, 137, 138, 139, 140, 141, 142, 143, 144, 145, 146, 147, 148, 149, 150, 151, 152, 153, 154, 155, 156, 157, 158, 159, 160, 161, 162, 163, 164] (by decide +kernel) (by decide +kernel)
set_option maxRecDepth 20000 in
theorem gX12_pay_X12_hundredths : GoodIn wsX12_pay (wsV RX12 295 RX12 yX12_hundredths wsX12_hundredths) := goodIn_app (goodIn_of _ (by decide +kernel)) ggX12_pay_X12_hundredths
set_option maxRecDepth 20000 in
theorem ggX12_dayPay_X12_isWorker : GoodIn wsX12_dayPay wsX12_isWorker := goodIn_r _ [10, 11, 12, 9, 13] (by decide +kernel) (by decide +kernel)
set_option maxRecDepth 20000 in
theorem gX12_dayPay_X12_isWorker : GoodIn wsX12_dayPay (wsV RX12 196 RX12 yX12_isWorker wsX12_isWorker) := goodIn_app (goodIn_of _ (by decide +kernel)) ggX12_dayPay_X12_isWorker
set_option maxRecDepth 20000 in
theorem ggX12_dayPay_X12_within : GoodIn wsX12_dayPay wsX12_within := goodIn_r _ [13] (by decide +kernel) (by decide +kernel)
set_option maxRecDepth 20000 in
theorem gX12_dayPay_X12_within : GoodIn wsX12_dayPay (va_wsS RX12 34 yX12_within wsX12_within) := goodIn_app (goodIn_of _ (by decide +kernel)) ggX12_dayPay_X12_within
set_option maxRecDepth 20000 in
theorem ggX12_dayPay_X12_laysWeek : GoodIn wsX12_dayPay wsX12_laysWeek := goodIn_r _ [17, 18, 19, 20, 9, 21, 22, 23, 24, 25, 26, 27, 28, 29, 30, 31, 32, 33, 5, 34, 35, 36, 37, 38, 39, 40, 41, 42, 43, 44, 45, 46, 47, 48, 49, 50, 51, 52, 53, 54, 11, 12, 13, 55, 56, 57, 58, 2, 3, 59, 60, 61, 62, 63, 64, 65, 66, 67, 68, 69, 70, 71, 72, 73, 74, 75, 76, 77, 78, 79, 80, 81, 82, 83, 84, 85, 86, 87, 88, 89, 90, 91, 92, 93, 94, 95, 96, 97, 98, 99, 100, 101, 102, 103, 104, 105, 106, 107, 4, 108, 109, 110, 111, 112, 113, 114, 115, 116, 117, 118, 123, 124, 125, 126, 127, 128, 129, 130, 131, 132, 133, 134, 135, 136, 137, 138, 139, 140, 141, 142, 143, 144, 145, 146, 147, 148, 149, 150, 151, 152, 153, 154, 155, 156, 157, 158, 159, 160] (by decide +kernel) (by decide +kernel)
set_option maxRecDepth 20000 in
theorem gX12_dayPay_X12_laysWeek : GoodIn wsX12_dayPay (wsV RX12 283 RX12 yX12_laysWeek wsX12_laysWeek) := goodIn_app (goodIn_of _ (by decide +kernel)) ggX12_dayPay_X12_laysWeek
set_option maxRecDepth 20000 in
theorem ggX12_dayPay_X12_dayOf : GoodIn wsX12_dayPay wsX12_dayOf := goodIn_r _ [63, 46, 47, 48, 9, 49, 5, 50, 51, 52, 53, 54, 11, 12, 13, 123, 124, 125, 126, 127, 128, 129, 130, 131, 132, 133, 134, 135, 136, 137, 138, 139, 140, 141, 142, 143, 144, 145, 146, 147, 148, 149, 150, 151, 152, 153, 154, 155, 156, 157, 158, 159, 160] (by decide +kernel) (by decide +kernel)
set_option maxRecDepth 20000 in
theorem gX12_dayPay_X12_dayOf : GoodIn wsX12_dayPay (wsV RX12 235 RX12 yX12_dayOf wsX12_dayOf) := goodIn_app (goodIn_of _ (by decide +kernel)) ggX12_dayPay_X12_dayOf
set_option maxRecDepth 20000 in
theorem ggX12_dayPay_X12_hundredths : GoodIn wsX12_dayPay wsX12_hundredths := goodIn_r _ [122, 72, 73, 74, 9, 75, 5, 123, 124, 125, 126, 127, 128, 129, 130, 131, 132, 133, 134, 135, 136, 137, 138, 139, 140, 141, 142, 143, 144, 145, 146, 147, 148, 149, 150, 151, 152, 153, 154, 155, 156, 157, 158, 159, 160] (by decide +kernel) (by decide +kernel)
set_option maxRecDepth 20000 in
theorem gX12_dayPay_X12_hundredths : GoodIn wsX12_dayPay (wsV RX12 295 RX12 yX12_hundredths wsX12_hundredths) := goodIn_app (goodIn_of _ (by decide +kernel)) ggX12_dayPay_X12_hundredths
set_option maxRecDepth 20000 in
theorem ggX12_payOf_X12_laysWorked : GoodIn wsX12_payOf wsX12_laysWorked := goodIn_r _ [8, 9, 10, 11, 12, 13, 14, 15, 7, 16, 17, 18, 19, 20, 3, 21, 22, 23, 24, 25, 26, 27, 28, 29, 30, 31, 32, 33, 34, 35, 36, 37, 38, 39, 40, 41, 42, 43, 44, 93, 94, 95, 96, 97, 98, 99, 100, 101, 102, 103, 104, 105, 106, 107, 108, 109, 110, 111, 112, 113, 114, 115, 116, 117, 118, 119, 120, 121, 122, 123, 124, 125, 126, 127, 128, 129, 130] (by decide +kernel) (by decide +kernel)
set_option maxRecDepth 20000 in
theorem gX12_payOf_X12_laysWorked : GoodIn wsX12_payOf (wsV RX12 268 RX12 yX12_laysWorked wsX12_laysWorked) := goodIn_app (goodIn_of _ (by decide +kernel)) ggX12_payOf_X12_laysWorked
set_option maxRecDepth 20000 in
theorem ggX12_payOf_X12_laysQuarters : GoodIn wsX12_payOf wsX12_laysQuarters := goodIn_r _ [48, 1, 9, 49, 50, 51, 52, 53, 7, 54, 33, 34, 35, 36, 3, 37, 38, 39, 40, 41, 42, 43, 44, 55, 56, 57, 58, 59, 60, 61, 62, 63, 64, 65, 66, 67, 68, 69, 70, 71, 72, 73, 74, 93, 94, 95, 96, 97, 98, 99, 100, 101, 102, 103, 104, 105, 106, 107, 108, 109, 110, 111, 112, 113, 114, 115, 116, 117, 118, 119, 120, 121, 122, 123, 124, 125, 126, 127, 128, 129, 130] (by decide +kernel) (by decide +kernel)
set_option maxRecDepth 20000 in
theorem gX12_payOf_X12_laysQuarters : GoodIn wsX12_payOf (wsV RX12 271 RX12 yX12_laysQuarters wsX12_laysQuarters) := goodIn_app (goodIn_of _ (by decide +kernel)) ggX12_payOf_X12_laysQuarters
set_option maxRecDepth 20000 in
theorem ggX12_payOf_X12_laysBest : GoodIn wsX12_payOf wsX12_laysBest := goodIn_r _ [78, 1, 2, 79, 80, 81, 82, 83, 7, 84, 55, 56, 57, 58, 3, 63, 64, 65, 66, 85, 86, 87, 88, 89, 90, 91, 92, 50, 93, 94, 95, 96, 97, 98, 99, 100, 101, 102, 103, 104, 105, 106, 107, 108, 109, 110, 111, 112, 113, 114, 115, 116, 117, 118, 119, 120, 121, 122, 123, 124, 125, 126, 127, 128, 129, 130] (by decide +kernel) (by decide +kernel)
set_option maxRecDepth 20000 in
theorem gX12_payOf_X12_laysBest : GoodIn wsX12_payOf (wsV RX12 274 RX12 yX12_laysBest wsX12_laysBest) := goodIn_app (goodIn_of _ (by decide +kernel)) ggX12_payOf_X12_laysBest
set_option maxRecDepth 20000 in
theorem ggX12_isAsKept_X12_about : GoodIn wsX12_isAsKept wsX12_about := goodIn_r _ [7] (by decide +kernel) (by decide +kernel)
set_option maxRecDepth 20000 in
theorem gX12_isAsKept_X12_about : GoodIn wsX12_isAsKept (va_wsS RX12 299 yX12_about wsX12_about) := goodIn_app (goodIn_of _ (by decide +kernel)) ggX12_isAsKept_X12_about
set_option maxRecDepth 20000 in
theorem ggX12_weekSum_X12_isAsKept : GoodIn wsX12_weekSum wsX12_isAsKept := goodIn_r _ [11, 2, 3, 4, 12, 13, 10, 14, 76, 77, 78, 79, 80, 81, 82, 83, 84, 85, 86, 87, 88, 89, 90, 91, 92, 93, 94, 95, 96, 97, 98, 99, 100, 101, 102, 103, 104, 105, 106, 107, 108, 109, 110, 111, 112, 113] (by decide +kernel) (by decide +kernel)
set_option maxRecDepth 20000 in
theorem gX12_weekSum_X12_isAsKept : GoodIn wsX12_weekSum (wsV RX12 302 RX12 yX12_isAsKept wsX12_isAsKept) := goodIn_app (goodIn_of _ (by decide +kernel)) ggX12_weekSum_X12_isAsKept
set_option maxRecDepth 20000 in
theorem ggX12_weekSum_X12_laysQuarters : GoodIn wsX12_weekSum wsX12_laysQuarters := goodIn_r _ [18, 5, 4, 19, 20, 21, 22, 23, 10, 24, 25, 26, 27, 28, 29, 30, 31, 32, 33, 34, 35, 36, 37, 38, 39, 40, 41, 42, 43, 44, 45, 46, 47, 48, 49, 50, 51, 52, 53, 54, 55, 56, 57, 76, 77, 78, 79, 80, 81, 82, 83, 84, 85, 86, 87, 88, 89, 90, 91, 92, 93, 94, 95, 96, 97, 98, 99, 100, 101, 102, 103, 104, 105, 106, 107, 108, 109, 110, 111, 112, 113] (by decide +kernel) (by decide +kernel)
set_option maxRecDepth 20000 in
theorem gX12_weekSum_X12_laysQuarters : GoodIn wsX12_weekSum (wsV RX12 271 RX12 yX12_laysQuarters wsX12_laysQuarters) := goodIn_app (goodIn_of _ (by decide +kernel)) ggX12_weekSum_X12_laysQuarters
set_option maxRecDepth 20000 in
theorem ggX12_weekSum_X12_laysBest : GoodIn wsX12_weekSum wsX12_laysBest := goodIn_r _ [61, 5, 6, 62, 63, 64, 65, 66, 10, 67, 38, 39, 40, 41, 29, 46, 47, 48, 49, 68, 69, 70, 71, 72, 73, 74, 75, 20, 76, 77, 78, 79, 80, 81, 82, 83, 84, 85, 86, 87, 88, 89, 90, 91, 92, 93, 94, 95, 96, 97, 98, 99, 100, 101, 102, 103, 104, 105, 106, 107, 108, 109, 110, 111, 112, 113] (by decide +kernel) (by decide +kernel)
set_option maxRecDepth 20000 in
theorem gX12_weekSum_X12_laysBest : GoodIn wsX12_weekSum (wsV RX12 274 RX12 yX12_laysBest wsX12_laysBest) := goodIn_app (goodIn_of _ (by decide +kernel)) ggX12_weekSum_X12_laysBest
set_option maxRecDepth 20000 in
theorem ggX12_weekSum_X12_about : GoodIn wsX12_weekSum wsX12_about := goodIn_r _ [14] (by decide +kernel) (by decide +kernel)
set_option maxRecDepth 20000 in
theorem gX12_weekSum_X12_about : GoodIn wsX12_weekSum (va_wsS RX12 299 yX12_about wsX12_about) := goodIn_app (goodIn_of _ (by decide +kernel)) ggX12_weekSum_X12_about
set_option maxRecDepth 20000 in
theorem ggX12_payKept_X12_laysWorked : GoodIn wsX12_payKept wsX12_laysWorked := goodIn_r _ [6, 7, 8, 9, 10, 11, 12, 13, 5, 14, 15, 16, 17, 18, 1, 19, 20, 21, 22, 23, 24, 25, 26, 27, 28, 29, 30, 31, 32, 33, 34, 35, 36, 37, 38, 39, 40, 41, 42, 107, 108, 109, 110, 111, 112, 113, 114, 115, 116, 117, 118, 119, 120, 121, 122, 123, 124, 125, 126, 127, 128, 129, 130, 131, 132, 133, 134, 135, 136, 137, 138, 139, 140, 141, 142, 143, 144] (by decide +kernel) (by decide +kernel)
set_option maxRecDepth 20000 in
theorem gX12_payKept_X12_laysWorked : GoodIn wsX12_payKept (wsV RX12 268 RX12 yX12_laysWorked wsX12_laysWorked) := goodIn_app (goodIn_of _ (by decide +kernel)) ggX12_payKept_X12_laysWorked
set_option maxRecDepth 20000 in
theorem ggX12_payKept_X12_weekSum : GoodIn wsX12_payKept wsX12_weekSum := goodIn_r _ [46, 47, 48, 49, 7, 50, 51, 52, 53, 54, 5, 55, 56, 57, 58, 59, 60, 61, 62, 63, 64, 65, 66, 67, 68, 31, 32, 33, 34, 1, 35, 36, 37, 38, 39, 40, 41, 42, 69, 70, 71, 72, 73, 74, 75, 76, 77, 78, 79, 80, 81, 82, 83, 84, 85, 86, 87, 88, 89, 90, 91, 92, 93, 94, 95, 96, 97, 98, 99, 100, 101, 102, 103, 104, 105, 106, 107, 108, 109, 110, 111, 112, 113, 114, 115, 116, 117, 118, 119, 120, 121, 122, 123, 124, 125, 126, 127, 128, 129, 130, 131, 132, 133, 134, 135, 136, 137, 138, 139, 140, 141, 142, 143, 144] (by decide +kernel) (by decide +kernel)
set_option maxRecDepth 20000 in
theorem gX12_payKept_X12_weekSum : GoodIn wsX12_payKept (wsV RX12 305 RX12 yX12_weekSum wsX12_weekSum) := goodIn_app (goodIn_of _ (by decide +kernel)) ggX12_payKept_X12_weekSum
set_option maxRecDepth 20000 in
theorem ggX12_allPay_X12_payOf : GoodIn wsX12_allPay wsX12_payOf := goodIn_r _ [5, 6, 7, 8, 9, 10, 11, 4, 12, 13, 14, 15, 16, 17, 18, 19, 20, 21, 22, 23, 24, 25, 26, 27, 28, 29, 30, 31, 32, 33, 34, 35, 36, 37, 38, 39, 40, 41, 42, 43, 44, 45, 46, 47, 48, 49, 50, 51, 52, 53, 54, 55, 56, 57, 58, 59, 60, 61, 62, 63, 64, 65, 66, 67, 68, 69, 70, 71, 72, 73, 74, 75, 76, 77, 78, 79, 80, 81, 82, 83, 84, 85, 86, 87, 88, 89, 90, 91, 92, 93, 94, 95, 96, 97, 98, 99, 100, 101, 102, 103, 104, 105, 106, 107, 108, 109, 110, 111, 112, 113, 114, 115, 116, 117, 118, 119, 120, 121, 122, 123, 124, 125, 126, 127, 128, 129, 130, 131, 132, 133, 134] (by decide +kernel) (by decide +kernel)
set_option maxRecDepth 20000 in
theorem gX12_allPay_X12_payOf : GoodIn wsX12_allPay (wsV RX12 308 RX12 yX12_payOf wsX12_payOf) := goodIn_app (goodIn_of _ (by decide +kernel)) ggX12_allPay_X12_payOf
set_option maxRecDepth 20000 in
theorem ggX12_total_X12_allPay : GoodIn wsX12_total wsX12_allPay := goodIn_r _ [6, 7, 8, 9, 5, 10, 11, 12, 13, 14, 15, 16, 17, 18, 19, 20, 21, 22, 23, 24, 25, 26, 27, 28, 29, 30, 31, 32, 33, 34, 35, 36, 37, 38, 39, 40, 41, 42, 43, 44, 45, 46, 47, 48, 49, 50, 51, 52, 53, 54, 55, 56, 57, 58, 59, 60, 61, 62, 63, 64, 65, 66, 67, 68, 69, 70, 71, 72, 73, 74, 75, 76, 77, 78, 79, 80, 81, 82, 83, 84, 85, 86, 87, 88, 89, 90, 91, 92, 93, 94, 95, 96, 97, 98, 99, 100, 101, 102, 103, 104, 105, 106, 107, 108, 109, 110, 111, 112, 113, 114, 115, 116, 117, 118, 119, 120, 121, 122, 123, 124, 125, 126, 127, 128, 129, 130, 131, 132, 133, 134, 135, 136, 137, 138, 139] (by decide +kernel) (by decide +kernel)
set_option maxRecDepth 20000 in
theorem gX12_total_X12_allPay : GoodIn wsX12_total (wsV RX12 311 RX12 yX12_allPay wsX12_allPay) := goodIn_app (goodIn_of _ (by decide +kernel)) ggX12_total_X12_allPay
set_option maxRecDepth 20000 in
theorem ggX12_would_X12_momentOf : GoodIn wsX12_would wsX12_momentOf := goodIn_r _ [7, 8, 9, 10, 6, 11, 12, 13, 14, 15, 123, 124, 125, 126, 127, 128, 129, 130, 131, 132, 133, 134, 135, 136, 137, 138, 139, 140, 141, 142, 143, 144, 145, 146, 147, 148, 149, 150, 151, 152, 153, 154, 155, 156, 157, 158, 159, 160] (by decide +kernel) (by decide +kernel)
set_option maxRecDepth 20000 in
theorem gX12_would_X12_momentOf : GoodIn wsX12_would (wsV RX12 188 RX12 yX12_momentOf wsX12_momentOf) := goodIn_app (goodIn_of _ (by decide +kernel)) ggX12_would_X12_momentOf
set_option maxRecDepth 20000 in
theorem ggX12_would_X12_canCome : GoodIn wsX12_would wsX12_canCome := goodIn_r _ [19, 20, 21, 22, 23, 6, 24, 9, 10, 11, 25, 26, 27, 28, 29, 123, 124, 125, 126, 127, 128, 129, 130, 131, 132, 133, 134, 135, 136, 137, 138, 139, 140, 141, 142, 143, 144, 145, 146, 147, 148, 149, 150, 151, 152, 153, 154, 155, 156, 157, 158, 159, 160] (by decide +kernel) (by decide +kernel)
set_option maxRecDepth 20000 in
theorem gX12_would_X12_canCome : GoodIn wsX12_would (wsV RX12 202 RX12 yX12_canCome wsX12_canCome) := goodIn_app (goodIn_of _ (by decide +kernel)) ggX12_would_X12_canCome
set_option maxRecDepth 20000 in
theorem ggX12_would_X12_payOf : GoodIn wsX12_would wsX12_payOf := goodIn_r _ [33, 34, 35, 8, 36, 37, 38, 6, 39, 40, 41, 42, 43, 44, 45, 46, 47, 20, 48, 49, 29, 50, 51, 52, 53, 54, 55, 56, 57, 58, 59, 60, 61, 62, 63, 64, 65, 66, 12, 13, 14, 15, 9, 10, 11, 67, 68, 69, 70, 71, 72, 73, 74, 75, 76, 77, 78, 79, 80, 81, 82, 83, 84, 85, 86, 87, 88, 89, 90, 91, 92, 93, 94, 95, 96, 97, 98, 99, 100, 101, 102, 103, 104, 105, 106, 107, 108, 109, 110, 111, 112, 113, 114, 123, 124, 125, 126, 127, 128, 129, 130, 131, 132, 133, 134, 135, 136, 137, 138, 139, 140, 141, 142, 143, 144, 145, 146, 147, 148, 149, 150, 151, 152, 153, 154, 155, 156, 157, 158, 159, 160] (by decide +kernel) (by decide +kernel)
set_option maxRecDepth 20000 in
theorem gX12_would_X12_payOf : GoodIn wsX12_would (wsV RX12 308 RX12 yX12_payOf wsX12_payOf) := goodIn_app (goodIn_of _ (by decide +kernel)) ggX12_would_X12_payOf
set_option maxRecDepth 20000 in
theorem ggX12_would_X12_comes : GoodIn wsX12_would wsX12_comes := goodIn_r _ [118, 20, 29, 48, 123, 124, 125, 126, 127, 128, 129, 130, 131, 132, 133, 134, 135, 136, 137, 138, 139, 140, 141, 142, 143, 144, 145, 146, 147, 148, 149, 150, 151, 152, 153, 154, 155, 156, 157, 158, 159, 160] (by decide +kernel) (by decide +kernel)
set_option maxRecDepth 20000 in
theorem gX12_would_X12_comes : GoodIn wsX12_would (wsV RX12 205 RX12 yX12_comes wsX12_comes) := goodIn_app (goodIn_of _ (by decide +kernel)) ggX12_would_X12_comes
set_option maxRecDepth 20000 in
theorem ggX12_would_X12_leaves : GoodIn wsX12_would wsX12_leaves := goodIn_r _ [122, 20, 29, 48, 123, 124, 125, 126, 127, 128, 129, 130, 131, 132, 133, 134, 135, 136, 137, 138, 139, 140, 141, 142, 143, 144, 145, 146, 147, 148, 149, 150, 151, 152, 153, 154, 155, 156, 157, 158, 159, 160] (by decide +kernel) (by decide +kernel)
set_option maxRecDepth 20000 in
theorem gX12_would_X12_leaves : GoodIn wsX12_would (wsV RX12 213 RX12 yX12_leaves wsX12_leaves) := goodIn_app (goodIn_of _ (by decide +kernel)) ggX12_would_X12_leaves
set_option maxRecDepth 20000 in
theorem ggX12_dearest_X12_isWorker : GoodIn wsX12_dearest wsX12_isWorker := goodIn_r _ [7, 8, 9, 6, 10] (by decide +kernel) (by decide +kernel)
set_option maxRecDepth 20000 in
theorem gX12_dearest_X12_isWorker : GoodIn wsX12_dearest (wsV RX12 196 RX12 yX12_isWorker wsX12_isWorker) := goodIn_app (goodIn_of _ (by decide +kernel)) ggX12_dearest_X12_isWorker
set_option maxRecDepth 20000 in
theorem ggX12_dearest_X12_within : GoodIn wsX12_dearest wsX12_within := goodIn_r _ [10] (by decide +kernel) (by decide +kernel)
set_option maxRecDepth 20000 in
theorem gX12_dearest_X12_within : GoodIn wsX12_dearest (va_wsS RX12 34 yX12_within wsX12_within) := goodIn_app (goodIn_of _ (by decide +kernel)) ggX12_dearest_X12_within
set_option maxRecDepth 20000 in
theorem ggX12_dearest_X12_momentOf : GoodIn wsX12_dearest wsX12_momentOf := goodIn_r _ [14, 15, 8, 9, 6, 10, 16, 17, 18, 19, 136, 137, 138, 139, 140, 141, 142, 143, 144, 145, 146, 147, 148, 149, 150, 151, 152, 153, 154, 155, 156, 157, 158, 159, 160, 161, 162, 163, 164, 165, 166, 167, 168, 169, 170, 171, 172, 173] (by decide +kernel) (by decide +kernel)
set_option maxRecDepth 20000 in
theorem gX12_dearest_X12_momentOf : GoodIn wsX12_dearest (wsV RX12 188 RX12 yX12_momentOf wsX12_momentOf) := goodIn_app (goodIn_of _ (by decide +kernel)) ggX12_dearest_X12_momentOf
set_option maxRecDepth 20000 in
theorem ggX12_dearest_X12_canCome : GoodIn wsX12_dearest wsX12_canCome := goodIn_r _ [23, 24, 3, 4, 5, 6, 7, 8, 9, 10, 25, 26, 27, 28, 29, 136, 137, 138, 139, 140, 141, 142, 143, 144, 145, 146, 147, 148, 149, 150, 151, 152, 153, 154, 155, 156, 157, 158, 159, 160, 161, 162, 163, 164, 165, 166, 167, 168, 169, 170, 171, 172, 173] (by decide +kernel) (by decide +kernel)
set_option maxRecDepth 20000 in
theorem gX12_dearest_X12_canCome : GoodIn wsX12_dearest (wsV RX12 202 RX12 yX12_canCome wsX12_canCome) := goodIn_app (goodIn_of _ (by decide +kernel)) ggX12_dearest_X12_canCome
set_option maxRecDepth 20000 in
theorem ggX12_dearest_X12_comes : GoodIn wsX12_dearest wsX12_comes := goodIn_r _ [33, 24, 29, 34, 136, 137, 138, 139, 140, 141, 142, 143, 144, 145, 146, 147, 148, 149, 150, 151, 152, 153, 154, 155, 156, 157, 158, 159, 160, 161, 162, 163, 164, 165, 166, 167, 168, 169, 170, 171, 172, 173] (by decide +kernel) (by decide +kernel)
set_option maxRecDepth 20000 in
theorem gX12_dearest_X12_comes : GoodIn wsX12_dearest (wsV RX12 205 RX12 yX12_comes wsX12_comes) := goodIn_app (goodIn_of _ (by decide +kernel)) ggX12_dearest_X12_comes
set_option maxRecDepth 20000 in
theorem ggX12_dearest_X12_payKept : GoodIn wsX12_dearest wsX12_payKept := goodIn_r _ [38, 15, 39, 40, 41, 6, 42, 43, 44, 45, 46, 47, 48, 49, 50, 24, 34, 51, 29, 52, 53, 54, 55, 56, 57, 58, 59, 60, 61, 62, 63, 64, 65, 66, 67, 68, 16, 17, 18, 19, 8, 9, 10, 69, 70, 71, 72, 73, 2, 74, 75, 76, 77, 78, 79, 80, 81, 82, 83, 84, 85, 86, 87, 88, 89, 90, 91, 92, 93, 94, 95, 96, 97, 98, 99, 100, 101, 102, 103, 104, 105, 106, 107, 108, 109, 110, 111, 112, 113, 114, 115, 116, 117, 118, 119, 120, 121, 122, 123, 124, 125, 126, 127, 128, 129, 130, 131, 136, 137, 138, 139, 140, 141, 142, 143, 144, 145, 146, 147, 148, 149, 150, 151, 152, 153, 154, 155, 156, 157, 158, 159, 160, 161, 162, 163, 164, 165, 166, 167, 168, 169, 170, 171, 172, 173] (by decide +kernel) (by decide +kernel)
set_option maxRecDepth 20000 in
theorem gX12_dearest_X12_payKept : GoodIn wsX12_dearest (wsV RX12 317 RX12 yX12_payKept wsX12_payKept) := goodIn_app (goodIn_of _ (by decide +kernel)) ggX12_dearest_X12_payKept
set_option maxRecDepth 20000 in
theorem ggX12_dearest_X12_leaves : GoodIn wsX12_dearest wsX12_leaves := goodIn_r _ [135, 24, 29, 34, 136, 137, 138, 139, 140, 141, 142, 143, 144, 145, 146, 147, 148, 149, 150, 151, 152, 153, 154, 155, 156, 157, 158, 159, 160, 161, 162, 163, 164, 165, 166, 167, 168, 169, 170, 171, 172, 173] (by decide +kernel) (by decide +kernel)
set_option maxRecDepth 20000 in
theorem gX12_dearest_X12_leaves : GoodIn wsX12_dearest (wsV RX12 213 RX12 yX12_leaves wsX12_leaves) := goodIn_app (goodIn_of _ (by decide +kernel)) ggX12_dearest_X12_leaves
set_option maxRecDepth 20000 in
theorem ggX12_worth_X12_premiums : GoodIn wsX12_worth wsX12_premiums := goodIn_r _ [8, 3, 107, 108, 109, 110, 111, 112, 113, 114, 115, 116, 117, 118, 119, 120, 121, 122, 123, 124, 125, 126, 127, 128, 129, 130, 131, 132, 133, 134, 135, 136, 137, 138, 139, 140, 141, 142, 143, 144] (by decide +kernel) (by decide +kernel)
set_option maxRecDepth 20000 in
theorem gX12_worth_X12_premiums : GoodIn wsX12_worth (wsV RX12 177 RX12 yX12_premiums wsX12_premiums) := goodIn_app (goodIn_of _ (by decide +kernel)) ggX12_worth_X12_premiums
set_option maxRecDepth 20000 in
theorem ggX12_worth_X12_within : GoodIn wsX12_worth wsX12_within := goodIn_r _ [11] (by decide +kernel) (by decide +kernel)
set_option maxRecDepth 20000 in
theorem gX12_worth_X12_within : GoodIn wsX12_worth (va_wsS RX12 34 yX12_within wsX12_within) := goodIn_app (goodIn_of _ (by decide +kernel)) ggX12_worth_X12_within
set_option maxRecDepth 20000 in
theorem ggX12_worth_X12_allPay : GoodIn wsX12_worth wsX12_allPay := goodIn_r _ [15, 16, 17, 18, 7, 19, 20, 21, 3, 22, 23, 24, 25, 26, 27, 28, 29, 30, 31, 32, 33, 34, 35, 36, 37, 38, 39, 40, 41, 42, 43, 44, 45, 46, 47, 48, 49, 50, 51, 52, 53, 54, 55, 56, 57, 58, 9, 10, 11, 59, 60, 61, 62, 63, 64, 65, 66, 67, 68, 4, 5, 6, 8, 69, 70, 71, 72, 73, 74, 75, 76, 77, 78, 79, 80, 81, 82, 83, 84, 85, 86, 87, 88, 89, 90, 91, 92, 93, 94, 95, 96, 97, 98, 99, 100, 101, 102, 107, 108, 109, 110, 111, 112, 113, 114, 115, 116, 117, 118, 119, 120, 121, 122, 123, 124, 125, 126, 127, 128, 129, 130, 131, 132, 133, 134, 135, 136, 137, 138, 139, 140, 141, 142, 143, 144] (by decide +kernel) (by decide +kernel)
set_option maxRecDepth 20000 in
theorem gX12_worth_X12_allPay : GoodIn wsX12_worth (wsV RX12 311 RX12 yX12_allPay wsX12_allPay) := goodIn_app (goodIn_of _ (by decide +kernel)) ggX12_worth_X12_allPay
set_option maxRecDepth 20000 in
theorem ggX12_worth_X12_takes : GoodIn wsX12_worth wsX12_takes := goodIn_r _ [106, 3, 2, 107, 108, 109, 110, 111, 112, 113, 114, 115, 116, 117, 118, 119, 120, 121, 122, 123, 124, 125, 126, 127, 128, 129, 130, 131, 132, 133, 134, 135, 136, 137, 138, 139, 140, 141, 142, 143, 144] (by decide +kernel) (by decide +kernel)
set_option maxRecDepth 20000 in
theorem gX12_worth_X12_takes : GoodIn wsX12_worth (wsV RX12 133 RX12 yX12_takes wsX12_takes) := goodIn_app (goodIn_of _ (by decide +kernel)) ggX12_worth_X12_takes
set_option maxRecDepth 20000 in
theorem ggX12_together_X12_isWorker : GoodIn wsX12_together wsX12_isWorker := goodIn_r _ [8, 9, 10, 7, 11] (by decide +kernel) (by decide +kernel)
set_option maxRecDepth 20000 in
theorem gX12_together_X12_isWorker : GoodIn wsX12_together (wsV RX12 196 RX12 yX12_isWorker wsX12_isWorker) := goodIn_app (goodIn_of _ (by decide +kernel)) ggX12_together_X12_isWorker
set_option maxRecDepth 20000 in
theorem ggX12_together_X12_laysWorked : GoodIn wsX12_together wsX12_laysWorked := goodIn_r _ [15, 3, 16, 17, 18, 19, 20, 21, 7, 22, 23, 24, 25, 26, 27, 28, 29, 30, 31, 32, 33, 34, 35, 36, 37, 38, 39, 40, 41, 42, 43, 44, 45, 46, 47, 48, 9, 10, 11, 49, 50, 51, 52, 53, 54, 55, 56, 57, 58, 59, 60, 61, 62, 63, 64, 65, 66, 67, 68, 69, 70, 71, 72, 73, 74, 75, 76, 77, 78, 79, 80, 81, 82, 83, 84, 85, 86] (by decide +kernel) (by decide +kernel)
set_option maxRecDepth 20000 in
theorem gX12_together_X12_laysWorked : GoodIn wsX12_together (wsV RX12 268 RX12 yX12_laysWorked wsX12_laysWorked) := goodIn_app (goodIn_of _ (by decide +kernel)) ggX12_together_X12_laysWorked
set_option maxRecDepth 20000 in
theorem ggJ0_length_8abf5_J0_coder_7d493 : GoodIn wsJ0_length_8abf5 wsJ0_coder_7d493 := goodIn_r _ [6, 7, 8] (by decide +kernel) (by decide +kernel)
set_option maxRecDepth 20000 in
theorem gJ0_length_8abf5_J0_coder_7d493 : GoodIn wsJ0_length_8abf5 (wsV RJ0 335 RJ0 yJ0_coder_7d493 wsJ0_coder_7d493) := goodIn_app (goodIn_of _ (by decide +kernel)) ggJ0_length_8abf5_J0_coder_7d493
set_option maxRecDepth 20000 in
theorem ggJ0_charAt_5068e_J0_isLatin1_aae02 : GoodIn wsJ0_charAt_5068e wsJ0_isLatin1_aae02 := goodIn_r _ [6, 7, 8] (by decide +kernel) (by decide +kernel)
set_option maxRecDepth 20000 in
theorem gJ0_charAt_5068e_J0_isLatin1_aae02 : GoodIn wsJ0_charAt_5068e (wsV RJ0 492 RJ0 yJ0_isLatin1_aae02 wsJ0_isLatin1_aae02) := goodIn_app (goodIn_of _ (by decide +kernel)) ggJ0_charAt_5068e_J0_isLatin1_aae02
set_option maxRecDepth 20000 in
theorem ggJ0_charAt_5068e_J1_charAt_3b067 : GoodIn wsJ0_charAt_5068e wsJ1_charAt_3b067 := goodIn_r _ [12, 13, 14, 5, 15, 16, 17, 18, 19, 20] (by decide +kernel) (by decide +kernel)
set_option maxRecDepth 20000 in
theorem gJ0_charAt_5068e_J1_charAt_3b067 : GoodIn wsJ0_charAt_5068e (va_wsS RJ0 495 yJ1_charAt_3b067 wsJ1_charAt_3b067) := goodIn_app (goodIn_of _ (by decide +kernel)) ggJ0_charAt_5068e_J1_charAt_3b067
set_option maxRecDepth 20000 in
theorem ggJ0_charAt_5068e_J2_charAt_3b067 : GoodIn wsJ0_charAt_5068e wsJ2_charAt_3b067 := goodIn_r _ [24, 25, 26, 23, 27, 28, 29, 30, 31, 14, 5, 15, 16, 17, 18, 19, 20, 32, 33, 34, 35, 36, 37] (by decide +kernel) (by decide +kernel)
set_option maxRecDepth 20000 in
theorem gJ0_charAt_5068e_J2_charAt_3b067 : GoodIn wsJ0_charAt_5068e (va_wsS RJ0 498 yJ2_charAt_3b067 wsJ2_charAt_3b067) := goodIn_app (goodIn_of _ (by decide +kernel)) ggJ0_charAt_5068e_J2_charAt_3b067
set_option maxRecDepth 20000 in
theorem ggJ0_checkIndex_df160_J3_checkIndex_8e157 : GoodIn wsJ0_checkIndex_df160 wsJ3_checkIndex_8e157 := goodIn_r _ [5] (by decide +kernel) (by decide +kernel)
set_option maxRecDepth 20000 in
theorem gJ0_checkIndex_df160_J3_checkIndex_8e157 : GoodIn wsJ0_checkIndex_df160 (va_wsS RJ0 1059 yJ3_checkIndex_8e157 wsJ3_checkIndex_8e157) := goodIn_app (goodIn_of _ (by decide +kernel)) ggJ0_checkIndex_df160_J3_checkIndex_8e157
set_option maxRecDepth 20000 in
theorem ggJ1_charAt_3b067_J0_checkIndex_df160 : GoodIn wsJ1_charAt_3b067 wsJ0_checkIndex_df160 := goodIn_r _ [4, 5, 6, 7, 8, 9] (by decide +kernel) (by decide +kernel)
set_option maxRecDepth 20000 in
theorem gJ1_charAt_3b067_J0_checkIndex_df160 : GoodIn wsJ1_charAt_3b067 (va_wsS RJ1 9 yJ0_checkIndex_df160 wsJ0_checkIndex_df160) := goodIn_app (goodIn_of _ (by decide +kernel)) ggJ1_charAt_3b067_J0_checkIndex_df160
set_option maxRecDepth 20000 in
theorem ggJ2_getChar_3b067_J2_length_9d52b : GoodIn wsJ2_getChar_3b067 wsJ2_length_9d52b := goodIn_r _ [7] (by decide +kernel) (by decide +kernel)
set_option maxRecDepth 20000 in
theorem gJ2_getChar_3b067_J2_length_9d52b : GoodIn wsJ2_getChar_3b067 (va_wsS RJ2 48 yJ2_length_9d52b wsJ2_length_9d52b) := goodIn_app (goodIn_of _ (by decide +kernel)) ggJ2_getChar_3b067_J2_length_9d52b
set_option maxRecDepth 20000 in
theorem ggJ2_charAt_3b067_J2_checkIndex_2214a : GoodIn wsJ2_charAt_3b067 wsJ2_checkIndex_2214a := goodIn_r _ [4, 5, 6, 3, 7, 8, 9, 10, 11, 12, 13, 14, 15, 16] (by decide +kernel) (by decide +kernel)
set_option maxRecDepth 20000 in
theorem gJ2_charAt_3b067_J2_checkIndex_2214a : GoodIn wsJ2_charAt_3b067 (va_wsS RJ2 67 yJ2_checkIndex_2214a wsJ2_checkIndex_2214a) := goodIn_app (goodIn_of _ (by decide +kernel)) ggJ2_charAt_3b067_J2_checkIndex_2214a
set_option maxRecDepth 20000 in
theorem ggJ2_charAt_3b067_J2_getChar_3b067 : GoodIn wsJ2_charAt_3b067 wsJ2_getChar_3b067 := goodIn_r _ [19, 20, 21, 22, 5, 6, 3, 7] (by decide +kernel) (by decide +kernel)
set_option maxRecDepth 20000 in
theorem gJ2_charAt_3b067_J2_getChar_3b067 : GoodIn wsJ2_charAt_3b067 (va_wsS RJ2 71 yJ2_getChar_3b067 wsJ2_getChar_3b067) := goodIn_app (goodIn_of _ (by decide +kernel)) ggJ2_charAt_3b067_J2_getChar_3b067
set_option maxRecDepth 20000 in
theorem ggJ2_checkIndex_2214a_J2_length_9d52b : GoodIn wsJ2_checkIndex_2214a wsJ2_length_9d52b := goodIn_r _ [4] (by decide +kernel) (by decide +kernel)
set_option maxRecDepth 20000 in
theorem gJ2_checkIndex_2214a_J2_length_9d52b : GoodIn wsJ2_checkIndex_2214a (va_wsS RJ2 48 yJ2_length_9d52b wsJ2_length_9d52b) := goodIn_app (goodIn_of _ (by decide +kernel)) ggJ2_checkIndex_2214a_J2_length_9d52b
set_option maxRecDepth 20000 in
theorem ggJ2_checkIndex_2214a_J0_checkIndex_df160 : GoodIn wsJ2_checkIndex_2214a wsJ0_checkIndex_df160 := goodIn_r _ [8, 9, 10, 11, 12, 13] (by decide +kernel) (by decide +kernel)
set_option maxRecDepth 20000 in
theorem gJ2_checkIndex_2214a_J0_checkIndex_df160 : GoodIn wsJ2_checkIndex_2214a (va_wsS RJ2 414 yJ0_checkIndex_df160 wsJ0_checkIndex_df160) := goodIn_app (goodIn_of _ (by decide +kernel)) ggJ2_checkIndex_2214a_J0_checkIndex_df160
