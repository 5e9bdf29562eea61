set_option maxRecDepth 20000 in
theorem ggX0_init_X10_init : GoodIn wsX0_init wsX10_init := goodIn_r _ [17, 18, 2, 3, 8, 19, 20, 21, 22, 23, 24, 25, 26] (by decide +kernel) (by decide +kernel)
set_option maxRecDepth 20000 in
theorem gX0_init_X10_init_n13 : GoodIn wsX0_init (wsX10_init) := ggX0_init_X10_init
theorem dX0_init_0 : decode cX0_init 0 = .ok (.aload_n 0, 1) := by decide +kernel
theorem dX0_init_1 : decode cX0_init 1 = .ok (.invokespecial 5, 3) := by decide +kernel
theorem dX0_init_4 : decode cX0_init 4 = .ok (.aload_n 0, 1) := by decide +kernel
theorem dX0_init_5 : decode cX0_init 5 = .ok (.new 11, 3) := by decide +kernel
theorem dX0_init_8 : decode cX0_init 8 = .ok (.dup, 1) := by decide +kernel
theorem dX0_init_9 : decode cX0_init 9 = .ok (.invokespecial 13, 3) := by decide +kernel
theorem dX0_init_12 : decode cX0_init 12 = .ok (.putfield 14, 3) := by decide +kernel
theorem dX0_init_15 : decode cX0_init 15 = .ok (.aload_n 0, 1) := by decide +kernel
theorem dX0_init_16 : decode cX0_init 16 = .ok (.sipush 676, 3) := by decide +kernel
theorem dX0_init_19 : decode cX0_init 19 = .ok (.newarray .int, 2) := by decide +kernel
theorem dX0_init_21 : decode cX0_init 21 = .ok (.putfield 18, 3) := by decide +kernel
theorem dX0_init_24 : decode cX0_init 24 = .ok (.aload_n 0, 1) := by decide +kernel
theorem dX0_init_25 : decode cX0_init 25 = .ok (.sipush 676, 3) := by decide +kernel
theorem dX0_init_28 : decode cX0_init 28 = .ok (.newarray .int, 2) := by decide +kernel
theorem dX0_init_30 : decode cX0_init 30 = .ok (.putfield 22, 3) := by decide +kernel
theorem dX0_init_33 : decode cX0_init 33 = .ok (.aload_n 0, 1) := by decide +kernel
theorem dX0_init_34 : decode cX0_init 34 = .ok (.sipush 676, 3) := by decide +kernel
theorem dX0_init_37 : decode cX0_init 37 = .ok (.newarray .int, 2) := by decide +kernel
theorem dX0_init_39 : decode cX0_init 39 = .ok (.putfield 25, 3) := by decide +kernel
theorem dX0_init_42 : decode cX0_init 42 = .ok (.aload_n 0, 1) := by decide +kernel
theorem dX0_init_43 : decode cX0_init 43 = .ok (.sipush 676, 3) := by decide +kernel
theorem dX0_init_46 : decode cX0_init 46 = .ok (.newarray .int, 2) := by decide +kernel
theorem dX0_init_48 : decode cX0_init 48 = .ok (.putfield 28, 3) := by decide +kernel
theorem dX0_init_51 : decode cX0_init 51 = .ok (.aload_n 0, 1) := by decide +kernel
theorem dX0_init_52 : decode cX0_init 52 = .ok (.sipush 676, 3) := by decide +kernel
theorem dX0_init_55 : decode cX0_init 55 = .ok (.newarray .int, 2) := by decide +kernel
theorem dX0_init_57 : decode cX0_init 57 = .ok (.putfield 31, 3) := by decide +kernel
theorem dX0_init_60 : decode cX0_init 60 = .ok (.aload_n 0, 1) := by decide +kernel
theorem dX0_init_61 : decode cX0_init 61 = .ok (.sipush 676, 3) := by decide +kernel
theorem dX0_init_64 : decode cX0_init 64 = .ok (.newarray .int, 2) := by decide +kernel
theorem dX0_init_66 : decode cX0_init 66 = .ok (.putfield 34, 3) := by decide +kernel
theorem dX0_init_69 : decode cX0_init 69 = .ok (.aload_n 0, 1) := by decide +kernel
theorem dX0_init_70 : decode cX0_init 70 = .ok (.sipush 29068, 3) := by decide +kernel
theorem dX0_init_73 : decode cX0_init 73 = .ok (.newarray .int, 2) := by decide +kernel
theorem dX0_init_75 : decode cX0_init 75 = .ok (.putfield 37, 3) := by decide +kernel
theorem dX0_init_78 : decode cX0_init 78 = .ok (.return_, 1) := by decide +kernel
set_option maxRecDepth 20000 in
theorem ggX0_payBest_X7_largestWeekBelow : GoodIn wsX0_payBest wsX7_largestWeekBelow := goodIn_r _ [11, 12, 13, 14, 15, 16, 17, 18, 19, 91, 92, 93, 94, 95, 96, 97, 98, 99, 100, 101, 102, 103, 104, 105] (by decide +kernel) (by decide +kernel)
set_option maxRecDepth 20000 in
theorem gX0_payBest_X7_largestWeekBelow : GoodIn wsX0_payBest (wsV RX0 44 RX7 yX7_largestWeekBelow wsX7_largestWeekBelow) := goodIn_app (goodIn_of _ (by decide +kernel)) ggX0_payBest_X7_largestWeekBelow
set_option maxRecDepth 20000 in
theorem ggX0_payBest_X7_weekBits : GoodIn wsX0_payBest wsX7_weekBits := goodIn_r _ [23, 12, 13, 14, 15, 91, 92, 93, 94, 95, 96, 97, 98, 99, 100, 101, 102, 103, 104, 105] (by decide +kernel) (by decide +kernel)
set_option maxRecDepth 20000 in
theorem gX0_payBest_X7_weekBits : GoodIn wsX0_payBest (wsV RX0 53 RX7 yX7_weekBits wsX7_weekBits) := goodIn_app (goodIn_of _ (by decide +kernel)) ggX0_payBest_X7_weekBits
set_option maxRecDepth 20000 in
theorem ggX0_payBest_X7_mostOf : GoodIn wsX0_payBest wsX7_mostOf := goodIn_r _ [27, 12, 13, 28, 29, 16, 17, 18, 19, 91, 92, 93, 94, 95, 96, 97, 98, 99, 100, 101, 102, 103, 104, 105] (by decide +kernel) (by decide +kernel)
set_option maxRecDepth 20000 in
theorem gX0_payBest_X7_mostOf : GoodIn wsX0_payBest (wsV RX0 57 RX7 yX7_mostOf wsX7_mostOf) := goodIn_app (goodIn_of _ (by decide +kernel)) ggX0_payBest_X7_mostOf
set_option maxRecDepth 20000 in
theorem ggX0_payBest_X0_measureQuarters : GoodIn wsX0_payBest wsX0_measureQuarters := goodIn_r _ [34, 1, 2, 35, 36, 37, 38, 3, 5, 24, 25, 26, 10, 27, 12, 13, 28, 29, 16, 17, 18, 19, 77, 78, 79, 80, 81, 82, 83, 84, 85, 86, 87, 88, 89, 90, 91, 92, 93, 94, 95, 96, 97, 98, 99, 100, 101, 102, 103, 104, 105] (by decide +kernel) (by decide +kernel)
set_option maxRecDepth 20000 in
theorem gX0_payBest_X0_measureQuarters : GoodIn wsX0_payBest (wsV RX0 61 RX0 yX0_measureQuarters wsX0_measureQuarters) := goodIn_app (goodIn_of _ (by decide +kernel)) ggX0_payBest_X0_measureQuarters
set_option maxRecDepth 20000 in
theorem ggX0_payBest_X0_markQuarter : GoodIn wsX0_payBest wsX0_markQuarter := goodIn_r _ [42, 3, 43, 44, 18, 45, 38, 35, 4, 46, 17, 19, 6, 37, 5, 47, 48, 49, 33, 50, 51, 77, 78, 79, 80, 81, 82, 83, 84, 85] (by decide +kernel) (by decide +kernel)
set_option maxRecDepth 20000 in
theorem gX0_payBest_X0_markQuarter : GoodIn wsX0_payBest (wsV RX0 65 RX0 yX0_markQuarter wsX0_markQuarter) := goodIn_app (goodIn_of _ (by decide +kernel)) ggX0_payBest_X0_markQuarter
set_option maxRecDepth 20000 in
theorem ggX0_payBest_X0_followMarks : GoodIn wsX0_payBest wsX0_followMarks := goodIn_r _ [55, 1, 2, 36, 56, 3, 20, 21, 22, 10, 23, 12, 13, 14, 15, 57, 58, 59, 33, 60, 51, 61, 62, 63, 64, 35, 4, 46, 17, 18, 19, 37, 5, 65, 66, 67, 68, 69, 70, 71, 72, 29, 73, 74, 75, 76, 28, 77, 78, 79, 80, 81, 82, 83, 84, 85, 86, 87, 88, 89, 90, 91, 92, 93, 94, 95, 96, 97, 98, 99, 100, 101, 102, 103, 104, 105] (by decide +kernel) (by decide +kernel)
set_option maxRecDepth 20000 in
theorem gX0_payBest_X0_followMarks : GoodIn wsX0_payBest (wsV RX0 69 RX0 yX0_followMarks wsX0_followMarks) := goodIn_app (goodIn_of _ (by decide +kernel)) ggX0_payBest_X0_followMarks
theorem dX0_payBest_0 : decode cX0_payBest 0 = .ok (.aload_n 0, 1) := by decide +kernel
theorem dX0_payBest_1 : decode cX0_payBest 1 = .ok (.aload_n 1, 1) := by decide +kernel
theorem dX0_payBest_2 : decode cX0_payBest 2 = .ok (.aload_n 0, 1) := by decide +kernel
theorem dX0_payBest_3 : decode cX0_payBest 3 = .ok (.getfield 14, 3) := by decide +kernel
theorem dX0_payBest_6 : decode cX0_payBest 6 = .ok (.getfield 40, 3) := by decide +kernel
theorem dX0_payBest_9 : decode cX0_payBest 9 = .ok (.iload_n 2, 1) := by decide +kernel
theorem dX0_payBest_10 : decode cX0_payBest 10 = .ok (.invokevirtual 44, 3) := by decide +kernel
theorem dX0_payBest_13 : decode cX0_payBest 13 = .ok (.putfield 50, 3) := by decide +kernel
theorem dX0_payBest_16 : decode cX0_payBest 16 = .ok (.iconst 0, 1) := by decide +kernel
theorem dX0_payBest_17 : decode cX0_payBest 17 = .ok (.istore_n 3, 1) := by decide +kernel
theorem dX0_payBest_18 : decode cX0_payBest 18 = .ok (.iload_n 3, 1) := by decide +kernel
theorem dX0_payBest_19 : decode cX0_payBest 19 = .ok (.aload_n 0, 1) := by decide +kernel
theorem dX0_payBest_20 : decode cX0_payBest 20 = .ok (.getfield 50, 3) := by decide +kernel
theorem dX0_payBest_23 : decode cX0_payBest 23 = .ok (.if_icmp .gt 53, 3) := by decide +kernel
theorem dX0_payBest_26 : decode cX0_payBest 26 = .ok (.aload_n 1, 1) := by decide +kernel
theorem dX0_payBest_27 : decode cX0_payBest 27 = .ok (.iload_n 3, 1) := by decide +kernel
theorem dX0_payBest_28 : decode cX0_payBest 28 = .ok (.invokevirtual 53, 3) := by decide +kernel
theorem dX0_payBest_31 : decode cX0_payBest 31 = .ok (.iload_n 2, 1) := by decide +kernel
theorem dX0_payBest_32 : decode cX0_payBest 32 = .ok (.iand, 1) := by decide +kernel
theorem dX0_payBest_33 : decode cX0_payBest 33 = .ok (.istore 4, 2) := by decide +kernel
theorem dX0_payBest_35 : decode cX0_payBest 35 = .ok (.aload_n 0, 1) := by decide +kernel
theorem dX0_payBest_36 : decode cX0_payBest 36 = .ok (.getfield 25, 3) := by decide +kernel
theorem dX0_payBest_39 : decode cX0_payBest 39 = .ok (.iload_n 3, 1) := by decide +kernel
theorem dX0_payBest_40 : decode cX0_payBest 40 = .ok (.aload_n 1, 1) := by decide +kernel
theorem dX0_payBest_41 : decode cX0_payBest 41 = .ok (.iload 4, 2) := by decide +kernel
theorem dX0_payBest_43 : decode cX0_payBest 43 = .ok (.iconst 1, 1) := by decide +kernel
theorem dX0_payBest_44 : decode cX0_payBest 44 = .ok (.iconst 0, 1) := by decide +kernel
theorem dX0_payBest_45 : decode cX0_payBest 45 = .ok (.invokevirtual 57, 3) := by decide +kernel
theorem dX0_payBest_48 : decode cX0_payBest 48 = .ok (.iastore, 1) := by decide +kernel
theorem dX0_payBest_49 : decode cX0_payBest 49 = .ok (.aload_n 0, 1) := by decide +kernel
theorem dX0_payBest_50 : decode cX0_payBest 50 = .ok (.getfield 28, 3) := by decide +kernel
theorem dX0_payBest_53 : decode cX0_payBest 53 = .ok (.iload_n 3, 1) := by decide +kernel
theorem dX0_payBest_54 : decode cX0_payBest 54 = .ok (.aload_n 1, 1) := by decide +kernel
theorem dX0_payBest_55 : decode cX0_payBest 55 = .ok (.iload 4, 2) := by decide +kernel
theorem dX0_payBest_57 : decode cX0_payBest 57 = .ok (.iconst 0, 1) := by decide +kernel
theorem dX0_payBest_58 : decode cX0_payBest 58 = .ok (.iconst (-1), 1) := by decide +kernel
theorem dX0_payBest_59 : decode cX0_payBest 59 = .ok (.invokevirtual 57, 3) := by decide +kernel
theorem dX0_payBest_62 : decode cX0_payBest 62 = .ok (.iastore, 1) := by decide +kernel
theorem dX0_payBest_63 : decode cX0_payBest 63 = .ok (.aload_n 0, 1) := by decide +kernel
theorem dX0_payBest_64 : decode cX0_payBest 64 = .ok (.getfield 34, 3) := by decide +kernel
theorem dX0_payBest_67 : decode cX0_payBest 67 = .ok (.iload_n 3, 1) := by decide +kernel
theorem dX0_payBest_68 : decode cX0_payBest 68 = .ok (.iconst 0, 1) := by decide +kernel
theorem dX0_payBest_69 : decode cX0_payBest 69 = .ok (.iastore, 1) := by decide +kernel
theorem dX0_payBest_70 : decode cX0_payBest 70 = .ok (.iinc 3 1, 3) := by decide +kernel
theorem dX0_payBest_73 : decode cX0_payBest 73 = .ok (.goto (-55), 3) := by decide +kernel
theorem dX0_payBest_76 : decode cX0_payBest 76 = .ok (.aload_n 0, 1) := by decide +kernel
theorem dX0_payBest_77 : decode cX0_payBest 77 = .ok (.aload_n 1, 1) := by decide +kernel
theorem dX0_payBest_78 : decode cX0_payBest 78 = .ok (.invokevirtual 61, 3) := by decide +kernel
theorem dX0_payBest_81 : decode cX0_payBest 81 = .ok (.aload_n 0, 1) := by decide +kernel
theorem dX0_payBest_82 : decode cX0_payBest 82 = .ok (.getfield 14, 3) := by decide +kernel
theorem dX0_payBest_85 : decode cX0_payBest 85 = .ok (.getfield 40, 3) := by decide +kernel
theorem dX0_payBest_88 : decode cX0_payBest 88 = .ok (.iconst 1, 1) := by decide +kernel
theorem dX0_payBest_89 : decode cX0_payBest 89 = .ok (.isub, 1) := by decide +kernel
theorem dX0_payBest_90 : decode cX0_payBest 90 = .ok (.istore_n 3, 1) := by decide +kernel
theorem dX0_payBest_91 : decode cX0_payBest 91 = .ok (.iload_n 3, 1) := by decide +kernel
theorem dX0_payBest_92 : decode cX0_payBest 92 = .ok (.ifCond .lt 14, 3) := by decide +kernel
theorem dX0_payBest_95 : decode cX0_payBest 95 = .ok (.aload_n 0, 1) := by decide +kernel
theorem dX0_payBest_96 : decode cX0_payBest 96 = .ok (.iload_n 3, 1) := by decide +kernel
theorem dX0_payBest_97 : decode cX0_payBest 97 = .ok (.invokevirtual 65, 3) := by decide +kernel
theorem dX0_payBest_100 : decode cX0_payBest 100 = .ok (.iinc 3 (-1), 3) := by decide +kernel
theorem dX0_payBest_103 : decode cX0_payBest 103 = .ok (.goto (-12), 3) := by decide +kernel
theorem dX0_payBest_106 : decode cX0_payBest 106 = .ok (.aload_n 0, 1) := by decide +kernel
theorem dX0_payBest_107 : decode cX0_payBest 107 = .ok (.aload_n 1, 1) := by decide +kernel
theorem dX0_payBest_108 : decode cX0_payBest 108 = .ok (.iload_n 2, 1) := by decide +kernel
theorem dX0_payBest_109 : decode cX0_payBest 109 = .ok (.invokevirtual 69, 3) := by decide +kernel
theorem dX0_payBest_112 : decode cX0_payBest 112 = .ok (.ireturn, 1) := by decide +kernel
set_option maxRecDepth 20000 in
theorem ggX0_measureQuarters_X7_mostOf : GoodIn wsX0_measureQuarters wsX7_mostOf := goodIn_r _ [13, 14, 15, 16, 17, 18, 19, 20, 21, 36, 37, 38, 39, 40, 41, 42, 43, 44, 45, 46, 47, 48, 49, 50] (by decide +kernel) (by decide +kernel)
set_option maxRecDepth 20000 in
theorem gX0_measureQuarters_X7_mostOf : GoodIn wsX0_measureQuarters (wsV RX0 57 RX7 yX7_mostOf wsX7_mostOf) := goodIn_app (goodIn_of _ (by decide +kernel)) ggX0_measureQuarters_X7_mostOf
theorem dX0_measureQuarters_0 : decode cX0_measureQuarters 0 = .ok (.iconst 0, 1) := by decide +kernel
theorem dX0_measureQuarters_1 : decode cX0_measureQuarters 1 = .ok (.istore_n 2, 1) := by decide +kernel
theorem dX0_measureQuarters_2 : decode cX0_measureQuarters 2 = .ok (.iconst 0, 1) := by decide +kernel
theorem dX0_measureQuarters_3 : decode cX0_measureQuarters 3 = .ok (.istore_n 3, 1) := by decide +kernel
theorem dX0_measureQuarters_4 : decode cX0_measureQuarters 4 = .ok (.iload_n 3, 1) := by decide +kernel
theorem dX0_measureQuarters_5 : decode cX0_measureQuarters 5 = .ok (.aload_n 0, 1) := by decide +kernel
theorem dX0_measureQuarters_6 : decode cX0_measureQuarters 6 = .ok (.getfield 14, 3) := by decide +kernel
theorem dX0_measureQuarters_9 : decode cX0_measureQuarters 9 = .ok (.getfield 40, 3) := by decide +kernel
theorem dX0_measureQuarters_12 : decode cX0_measureQuarters 12 = .ok (.if_icmp .ge 89, 3) := by decide +kernel
theorem dX0_measureQuarters_15 : decode cX0_measureQuarters 15 = .ok (.aload_n 0, 1) := by decide +kernel
theorem dX0_measureQuarters_16 : decode cX0_measureQuarters 16 = .ok (.getfield 18, 3) := by decide +kernel
theorem dX0_measureQuarters_19 : decode cX0_measureQuarters 19 = .ok (.iload_n 3, 1) := by decide +kernel
theorem dX0_measureQuarters_20 : decode cX0_measureQuarters 20 = .ok (.aload_n 1, 1) := by decide +kernel
theorem dX0_measureQuarters_21 : decode cX0_measureQuarters 21 = .ok (.aload_n 0, 1) := by decide +kernel
theorem dX0_measureQuarters_22 : decode cX0_measureQuarters 22 = .ok (.getfield 14, 3) := by decide +kernel
theorem dX0_measureQuarters_25 : decode cX0_measureQuarters 25 = .ok (.getfield 73, 3) := by decide +kernel
theorem dX0_measureQuarters_28 : decode cX0_measureQuarters 28 = .ok (.iload_n 3, 1) := by decide +kernel
theorem dX0_measureQuarters_29 : decode cX0_measureQuarters 29 = .ok (.iaload, 1) := by decide +kernel
theorem dX0_measureQuarters_30 : decode cX0_measureQuarters 30 = .ok (.iconst 1, 1) := by decide +kernel
theorem dX0_measureQuarters_31 : decode cX0_measureQuarters 31 = .ok (.iconst 0, 1) := by decide +kernel
theorem dX0_measureQuarters_32 : decode cX0_measureQuarters 32 = .ok (.invokevirtual 57, 3) := by decide +kernel
theorem dX0_measureQuarters_35 : decode cX0_measureQuarters 35 = .ok (.iastore, 1) := by decide +kernel
theorem dX0_measureQuarters_36 : decode cX0_measureQuarters 36 = .ok (.aload_n 0, 1) := by decide +kernel
theorem dX0_measureQuarters_37 : decode cX0_measureQuarters 37 = .ok (.getfield 22, 3) := by decide +kernel
theorem dX0_measureQuarters_40 : decode cX0_measureQuarters 40 = .ok (.iload_n 3, 1) := by decide +kernel
theorem dX0_measureQuarters_41 : decode cX0_measureQuarters 41 = .ok (.aload_n 1, 1) := by decide +kernel
theorem dX0_measureQuarters_42 : decode cX0_measureQuarters 42 = .ok (.aload_n 0, 1) := by decide +kernel
theorem dX0_measureQuarters_43 : decode cX0_measureQuarters 43 = .ok (.getfield 14, 3) := by decide +kernel
theorem dX0_measureQuarters_46 : decode cX0_measureQuarters 46 = .ok (.getfield 73, 3) := by decide +kernel
theorem dX0_measureQuarters_49 : decode cX0_measureQuarters 49 = .ok (.iload_n 3, 1) := by decide +kernel
theorem dX0_measureQuarters_50 : decode cX0_measureQuarters 50 = .ok (.iaload, 1) := by decide +kernel
theorem dX0_measureQuarters_51 : decode cX0_measureQuarters 51 = .ok (.iconst 0, 1) := by decide +kernel
theorem dX0_measureQuarters_52 : decode cX0_measureQuarters 52 = .ok (.iconst (-1), 1) := by decide +kernel
theorem dX0_measureQuarters_53 : decode cX0_measureQuarters 53 = .ok (.invokevirtual 57, 3) := by decide +kernel
theorem dX0_measureQuarters_56 : decode cX0_measureQuarters 56 = .ok (.iastore, 1) := by decide +kernel
theorem dX0_measureQuarters_57 : decode cX0_measureQuarters 57 = .ok (.aload_n 0, 1) := by decide +kernel
theorem dX0_measureQuarters_58 : decode cX0_measureQuarters 58 = .ok (.getfield 31, 3) := by decide +kernel
theorem dX0_measureQuarters_61 : decode cX0_measureQuarters 61 = .ok (.iload_n 3, 1) := by decide +kernel
theorem dX0_measureQuarters_62 : decode cX0_measureQuarters 62 = .ok (.iload_n 2, 1) := by decide +kernel
theorem dX0_measureQuarters_63 : decode cX0_measureQuarters 63 = .ok (.iastore, 1) := by decide +kernel
theorem dX0_measureQuarters_64 : decode cX0_measureQuarters 64 = .ok (.iload_n 2, 1) := by decide +kernel
theorem dX0_measureQuarters_65 : decode cX0_measureQuarters 65 = .ok (.aload_n 0, 1) := by decide +kernel
theorem dX0_measureQuarters_66 : decode cX0_measureQuarters 66 = .ok (.getfield 50, 3) := by decide +kernel
theorem dX0_measureQuarters_69 : decode cX0_measureQuarters 69 = .ok (.if_icmp .ge 26, 3) := by decide +kernel
theorem dX0_measureQuarters_72 : decode cX0_measureQuarters 72 = .ok (.aload_n 0, 1) := by decide +kernel
theorem dX0_measureQuarters_73 : decode cX0_measureQuarters 73 = .ok (.getfield 22, 3) := by decide +kernel
theorem dX0_measureQuarters_76 : decode cX0_measureQuarters 76 = .ok (.iload_n 3, 1) := by decide +kernel
theorem dX0_measureQuarters_77 : decode cX0_measureQuarters 77 = .ok (.iaload, 1) := by decide +kernel
theorem dX0_measureQuarters_78 : decode cX0_measureQuarters 78 = .ok (.iconst (-1), 1) := by decide +kernel
theorem dX0_measureQuarters_79 : decode cX0_measureQuarters 79 = .ok (.if_icmp .ne 16, 3) := by decide +kernel
theorem dX0_measureQuarters_82 : decode cX0_measureQuarters 82 = .ok (.aload_n 0, 1) := by decide +kernel
theorem dX0_measureQuarters_83 : decode cX0_measureQuarters 83 = .ok (.getfield 28, 3) := by decide +kernel
theorem dX0_measureQuarters_86 : decode cX0_measureQuarters 86 = .ok (.iload_n 2, 1) := by decide +kernel
theorem dX0_measureQuarters_87 : decode cX0_measureQuarters 87 = .ok (.iaload, 1) := by decide +kernel
theorem dX0_measureQuarters_88 : decode cX0_measureQuarters 88 = .ok (.iconst (-1), 1) := by decide +kernel
theorem dX0_measureQuarters_89 : decode cX0_measureQuarters 89 = .ok (.if_icmp .ne 6, 3) := by decide +kernel
theorem dX0_measureQuarters_92 : decode cX0_measureQuarters 92 = .ok (.iinc 2 1, 3) := by decide +kernel
theorem dX0_measureQuarters_95 : decode cX0_measureQuarters 95 = .ok (.iinc 3 1, 3) := by decide +kernel
theorem dX0_measureQuarters_98 : decode cX0_measureQuarters 98 = .ok (.goto (-94), 3) := by decide +kernel
theorem dX0_measureQuarters_101 : decode cX0_measureQuarters 101 = .ok (.return_, 1) := by decide +kernel
set_option maxRecDepth 20000 in
theorem ggX0_markQuarter_X0_setMark : GoodIn wsX0_markQuarter wsX0_setMark := goodIn_r _ [19, 20, 21, 22, 23, 24, 25, 26, 27, 28, 29] (by decide +kernel) (by decide +kernel)
set_option maxRecDepth 20000 in
theorem gX0_markQuarter_X0_setMark : GoodIn wsX0_markQuarter (wsV RX0 84 RX0 yX0_setMark wsX0_setMark) := goodIn_app (goodIn_of _ (by decide +kernel)) ggX0_markQuarter_X0_setMark
theorem dX0_markQuarter_0 : decode cX0_markQuarter 0 = .ok (.iload_n 1, 1) := by decide +kernel
theorem dX0_markQuarter_1 : decode cX0_markQuarter 1 = .ok (.aload_n 0, 1) := by decide +kernel
theorem dX0_markQuarter_2 : decode cX0_markQuarter 2 = .ok (.getfield 50, 3) := by decide +kernel
theorem dX0_markQuarter_5 : decode cX0_markQuarter 5 = .ok (.invokestatic 76, 3) := by decide +kernel
theorem dX0_markQuarter_8 : decode cX0_markQuarter 8 = .ok (.istore_n 2, 1) := by decide +kernel
theorem dX0_markQuarter_9 : decode cX0_markQuarter 9 = .ok (.aload_n 0, 1) := by decide +kernel
theorem dX0_markQuarter_10 : decode cX0_markQuarter 10 = .ok (.getfield 31, 3) := by decide +kernel
theorem dX0_markQuarter_13 : decode cX0_markQuarter 13 = .ok (.iload_n 1, 1) := by decide +kernel
theorem dX0_markQuarter_14 : decode cX0_markQuarter 14 = .ok (.iaload, 1) := by decide +kernel
theorem dX0_markQuarter_15 : decode cX0_markQuarter 15 = .ok (.istore_n 3, 1) := by decide +kernel
theorem dX0_markQuarter_16 : decode cX0_markQuarter 16 = .ok (.iload_n 3, 1) := by decide +kernel
theorem dX0_markQuarter_17 : decode cX0_markQuarter 17 = .ok (.iload_n 2, 1) := by decide +kernel
theorem dX0_markQuarter_18 : decode cX0_markQuarter 18 = .ok (.if_icmp .gt 129, 3) := by decide +kernel
theorem dX0_markQuarter_21 : decode cX0_markQuarter 21 = .ok (.aload_n 0, 1) := by decide +kernel
theorem dX0_markQuarter_22 : decode cX0_markQuarter 22 = .ok (.getfield 18, 3) := by decide +kernel
theorem dX0_markQuarter_25 : decode cX0_markQuarter 25 = .ok (.iload_n 1, 1) := by decide +kernel
theorem dX0_markQuarter_26 : decode cX0_markQuarter 26 = .ok (.iaload, 1) := by decide +kernel
theorem dX0_markQuarter_27 : decode cX0_markQuarter 27 = .ok (.aload_n 0, 1) := by decide +kernel
theorem dX0_markQuarter_28 : decode cX0_markQuarter 28 = .ok (.getfield 25, 3) := by decide +kernel
theorem dX0_markQuarter_31 : decode cX0_markQuarter 31 = .ok (.iload_n 3, 1) := by decide +kernel
theorem dX0_markQuarter_32 : decode cX0_markQuarter 32 = .ok (.iaload, 1) := by decide +kernel
theorem dX0_markQuarter_33 : decode cX0_markQuarter 33 = .ok (.invokestatic 81, 3) := by decide +kernel
theorem dX0_markQuarter_36 : decode cX0_markQuarter 36 = .ok (.aload_n 0, 1) := by decide +kernel
theorem dX0_markQuarter_37 : decode cX0_markQuarter 37 = .ok (.getfield 34, 3) := by decide +kernel
theorem dX0_markQuarter_40 : decode cX0_markQuarter 40 = .ok (.iload_n 3, 1) := by decide +kernel
theorem dX0_markQuarter_41 : decode cX0_markQuarter 41 = .ok (.iconst 1, 1) := by decide +kernel
theorem dX0_markQuarter_42 : decode cX0_markQuarter 42 = .ok (.iadd, 1) := by decide +kernel
theorem dX0_markQuarter_43 : decode cX0_markQuarter 43 = .ok (.aload_n 0, 1) := by decide +kernel
theorem dX0_markQuarter_44 : decode cX0_markQuarter 44 = .ok (.getfield 50, 3) := by decide +kernel
theorem dX0_markQuarter_47 : decode cX0_markQuarter 47 = .ok (.invokestatic 76, 3) := by decide +kernel
theorem dX0_markQuarter_50 : decode cX0_markQuarter 50 = .ok (.iaload, 1) := by decide +kernel
theorem dX0_markQuarter_51 : decode cX0_markQuarter 51 = .ok (.iadd, 1) := by decide +kernel
theorem dX0_markQuarter_52 : decode cX0_markQuarter 52 = .ok (.istore 4, 2) := by decide +kernel
theorem dX0_markQuarter_54 : decode cX0_markQuarter 54 = .ok (.aload_n 0, 1) := by decide +kernel
theorem dX0_markQuarter_55 : decode cX0_markQuarter 55 = .ok (.getfield 22, 3) := by decide +kernel
theorem dX0_markQuarter_58 : decode cX0_markQuarter 58 = .ok (.iload_n 1, 1) := by decide +kernel
theorem dX0_markQuarter_59 : decode cX0_markQuarter 59 = .ok (.iaload, 1) := by decide +kernel
theorem dX0_markQuarter_60 : decode cX0_markQuarter 60 = .ok (.aload_n 0, 1) := by decide +kernel
theorem dX0_markQuarter_61 : decode cX0_markQuarter 61 = .ok (.getfield 28, 3) := by decide +kernel
theorem dX0_markQuarter_64 : decode cX0_markQuarter 64 = .ok (.iload_n 3, 1) := by decide +kernel
theorem dX0_markQuarter_65 : decode cX0_markQuarter 65 = .ok (.iaload, 1) := by decide +kernel
theorem dX0_markQuarter_66 : decode cX0_markQuarter 66 = .ok (.invokestatic 81, 3) := by decide +kernel
theorem dX0_markQuarter_69 : decode cX0_markQuarter 69 = .ok (.istore 5, 2) := by decide +kernel
theorem dX0_markQuarter_71 : decode cX0_markQuarter 71 = .ok (.iload 5, 2) := by decide +kernel
theorem dX0_markQuarter_73 : decode cX0_markQuarter 73 = .ok (.iconst (-1), 1) := by decide +kernel
theorem dX0_markQuarter_74 : decode cX0_markQuarter 74 = .ok (.if_icmp .ne 7, 3) := by decide +kernel
theorem dX0_markQuarter_77 : decode cX0_markQuarter 77 = .ok (.iconst (-1), 1) := by decide +kernel
theorem dX0_markQuarter_78 : decode cX0_markQuarter 78 = .ok (.goto 12, 3) := by decide +kernel
theorem dX0_markQuarter_81 : decode cX0_markQuarter 81 = .ok (.iload 5, 2) := by decide +kernel
theorem dX0_markQuarter_83 : decode cX0_markQuarter 83 = .ok (.aload_n 0, 1) := by decide +kernel
theorem dX0_markQuarter_84 : decode cX0_markQuarter 84 = .ok (.getfield 34, 3) := by decide +kernel
theorem dX0_markQuarter_87 : decode cX0_markQuarter 87 = .ok (.iload_n 3, 1) := by decide +kernel
theorem dX0_markQuarter_88 : decode cX0_markQuarter 88 = .ok (.iaload, 1) := by decide +kernel
theorem dX0_markQuarter_89 : decode cX0_markQuarter 89 = .ok (.iadd, 1) := by decide +kernel
theorem dX0_markQuarter_90 : decode cX0_markQuarter 90 = .ok (.istore 6, 2) := by decide +kernel
theorem dX0_markQuarter_92 : decode cX0_markQuarter 92 = .ok (.aload_n 0, 1) := by decide +kernel
theorem dX0_markQuarter_93 : decode cX0_markQuarter 93 = .ok (.getfield 34, 3) := by decide +kernel
theorem dX0_markQuarter_96 : decode cX0_markQuarter 96 = .ok (.iload_n 3, 1) := by decide +kernel
theorem dX0_markQuarter_97 : decode cX0_markQuarter 97 = .ok (.iload 4, 2) := by decide +kernel
theorem dX0_markQuarter_99 : decode cX0_markQuarter 99 = .ok (.iload 6, 2) := by decide +kernel
theorem dX0_markQuarter_101 : decode cX0_markQuarter 101 = .ok (.invokestatic 81, 3) := by decide +kernel
theorem dX0_markQuarter_104 : decode cX0_markQuarter 104 = .ok (.iastore, 1) := by decide +kernel
theorem dX0_markQuarter_105 : decode cX0_markQuarter 105 = .ok (.iload 4, 2) := by decide +kernel
theorem dX0_markQuarter_107 : decode cX0_markQuarter 107 = .ok (.iload 6, 2) := by decide +kernel
theorem dX0_markQuarter_109 : decode cX0_markQuarter 109 = .ok (.if_icmp .lt 7, 3) := by decide +kernel
theorem dX0_markQuarter_112 : decode cX0_markQuarter 112 = .ok (.iconst 1, 1) := by decide +kernel
theorem dX0_markQuarter_113 : decode cX0_markQuarter 113 = .ok (.goto 4, 3) := by decide +kernel
theorem dX0_markQuarter_116 : decode cX0_markQuarter 116 = .ok (.iconst 0, 1) := by decide +kernel
theorem dX0_markQuarter_117 : decode cX0_markQuarter 117 = .ok (.istore 7, 2) := by decide +kernel
theorem dX0_markQuarter_119 : decode cX0_markQuarter 119 = .ok (.aload_n 0, 1) := by decide +kernel
theorem dX0_markQuarter_120 : decode cX0_markQuarter 120 = .ok (.iload_n 1, 1) := by decide +kernel
theorem dX0_markQuarter_121 : decode cX0_markQuarter 121 = .ok (.iload_n 3, 1) := by decide +kernel
theorem dX0_markQuarter_122 : decode cX0_markQuarter 122 = .ok (.iload 6, 2) := by decide +kernel
theorem dX0_markQuarter_124 : decode cX0_markQuarter 124 = .ok (.iload 4, 2) := by decide +kernel
theorem dX0_markQuarter_126 : decode cX0_markQuarter 126 = .ok (.if_icmp .lt 10, 3) := by decide +kernel
theorem dX0_markQuarter_129 : decode cX0_markQuarter 129 = .ok (.iload 7, 2) := by decide +kernel
theorem dX0_markQuarter_131 : decode cX0_markQuarter 131 = .ok (.iconst 2, 1) := by decide +kernel
theorem dX0_markQuarter_132 : decode cX0_markQuarter 132 = .ok (.ior, 1) := by decide +kernel
theorem dX0_markQuarter_133 : decode cX0_markQuarter 133 = .ok (.goto 5, 3) := by decide +kernel
theorem dX0_markQuarter_136 : decode cX0_markQuarter 136 = .ok (.iload 7, 2) := by decide +kernel
theorem dX0_markQuarter_138 : decode cX0_markQuarter 138 = .ok (.invokevirtual 84, 3) := by decide +kernel
theorem dX0_markQuarter_141 : decode cX0_markQuarter 141 = .ok (.iinc 3 1, 3) := by decide +kernel
theorem dX0_markQuarter_144 : decode cX0_markQuarter 144 = .ok (.goto (-128), 3) := by decide +kernel
theorem dX0_markQuarter_147 : decode cX0_markQuarter 147 = .ok (.return_, 1) := by decide +kernel
theorem dX0_setMark_0 : decode cX0_setMark 0 = .ok (.iload_n 1, 1) := by decide +kernel
theorem dX0_setMark_1 : decode cX0_setMark 1 = .ok (.bipush 43, 2) := by decide +kernel
theorem dX0_setMark_3 : decode cX0_setMark 3 = .ok (.imul, 1) := by decide +kernel
theorem dX0_setMark_4 : decode cX0_setMark 4 = .ok (.iload_n 2, 1) := by decide +kernel
theorem dX0_setMark_5 : decode cX0_setMark 5 = .ok (.bipush 16, 2) := by decide +kernel
theorem dX0_setMark_7 : decode cX0_setMark 7 = .ok (.idiv, 1) := by decide +kernel
theorem dX0_setMark_8 : decode cX0_setMark 8 = .ok (.iadd, 1) := by decide +kernel
theorem dX0_setMark_9 : decode cX0_setMark 9 = .ok (.istore 4, 2) := by decide +kernel
theorem dX0_setMark_11 : decode cX0_setMark 11 = .ok (.iload_n 2, 1) := by decide +kernel
theorem dX0_setMark_12 : decode cX0_setMark 12 = .ok (.bipush 16, 2) := by decide +kernel
theorem dX0_setMark_14 : decode cX0_setMark 14 = .ok (.irem, 1) := by decide +kernel
theorem dX0_setMark_15 : decode cX0_setMark 15 = .ok (.iconst 2, 1) := by decide +kernel
theorem dX0_setMark_16 : decode cX0_setMark 16 = .ok (.imul, 1) := by decide +kernel
theorem dX0_setMark_17 : decode cX0_setMark 17 = .ok (.istore 5, 2) := by decide +kernel
theorem dX0_setMark_19 : decode cX0_setMark 19 = .ok (.aload_n 0, 1) := by decide +kernel
theorem dX0_setMark_20 : decode cX0_setMark 20 = .ok (.getfield 37, 3) := by decide +kernel
theorem dX0_setMark_23 : decode cX0_setMark 23 = .ok (.iload 4, 2) := by decide +kernel
theorem dX0_setMark_25 : decode cX0_setMark 25 = .ok (.aload_n 0, 1) := by decide +kernel
theorem dX0_setMark_26 : decode cX0_setMark 26 = .ok (.getfield 37, 3) := by decide +kernel
theorem dX0_setMark_29 : decode cX0_setMark 29 = .ok (.iload 4, 2) := by decide +kernel
theorem dX0_setMark_31 : decode cX0_setMark 31 = .ok (.iaload, 1) := by decide +kernel
theorem dX0_setMark_32 : decode cX0_setMark 32 = .ok (.iconst 3, 1) := by decide +kernel
theorem dX0_setMark_33 : decode cX0_setMark 33 = .ok (.iload 5, 2) := by decide +kernel
theorem dX0_setMark_35 : decode cX0_setMark 35 = .ok (.ishl, 1) := by decide +kernel
theorem dX0_setMark_36 : decode cX0_setMark 36 = .ok (.iconst (-1), 1) := by decide +kernel
theorem dX0_setMark_37 : decode cX0_setMark 37 = .ok (.ixor, 1) := by decide +kernel
theorem dX0_setMark_38 : decode cX0_setMark 38 = .ok (.iand, 1) := by decide +kernel
theorem dX0_setMark_39 : decode cX0_setMark 39 = .ok (.iload_n 3, 1) := by decide +kernel
theorem dX0_setMark_40 : decode cX0_setMark 40 = .ok (.iload 5, 2) := by decide +kernel
theorem dX0_setMark_42 : decode cX0_setMark 42 = .ok (.ishl, 1) := by decide +kernel
theorem dX0_setMark_43 : decode cX0_setMark 43 = .ok (.ior, 1) := by decide +kernel
theorem dX0_setMark_44 : decode cX0_setMark 44 = .ok (.iastore, 1) := by decide +kernel
theorem dX0_setMark_45 : decode cX0_setMark 45 = .ok (.return_, 1) := by decide +kernel
theorem dX0_markAt_0 : decode cX0_markAt 0 = .ok (.aload_n 0, 1) := by decide +kernel
theorem dX0_markAt_1 : decode cX0_markAt 1 = .ok (.getfield 37, 3) := by decide +kernel
theorem dX0_markAt_4 : decode cX0_markAt 4 = .ok (.iload_n 1, 1) := by decide +kernel
theorem dX0_markAt_5 : decode cX0_markAt 5 = .ok (.bipush 43, 2) := by decide +kernel
theorem dX0_markAt_7 : decode cX0_markAt 7 = .ok (.imul, 1) := by decide +kernel
theorem dX0_markAt_8 : decode cX0_markAt 8 = .ok (.iload_n 2, 1) := by decide +kernel
theorem dX0_markAt_9 : decode cX0_markAt 9 = .ok (.bipush 16, 2) := by decide +kernel
theorem dX0_markAt_11 : decode cX0_markAt 11 = .ok (.idiv, 1) := by decide +kernel
theorem dX0_markAt_12 : decode cX0_markAt 12 = .ok (.iadd, 1) := by decide +kernel
theorem dX0_markAt_13 : decode cX0_markAt 13 = .ok (.iaload, 1) := by decide +kernel
theorem dX0_markAt_14 : decode cX0_markAt 14 = .ok (.iload_n 2, 1) := by decide +kernel
theorem dX0_markAt_15 : decode cX0_markAt 15 = .ok (.bipush 16, 2) := by decide +kernel
theorem dX0_markAt_17 : decode cX0_markAt 17 = .ok (.irem, 1) := by decide +kernel
theorem dX0_markAt_18 : decode cX0_markAt 18 = .ok (.iconst 2, 1) := by decide +kernel
theorem dX0_markAt_19 : decode cX0_markAt 19 = .ok (.imul, 1) := by decide +kernel
theorem dX0_markAt_20 : decode cX0_markAt 20 = .ok (.ishr, 1) := by decide +kernel
theorem dX0_markAt_21 : decode cX0_markAt 21 = .ok (.iconst 3, 1) := by decide +kernel
theorem dX0_markAt_22 : decode cX0_markAt 22 = .ok (.iand, 1) := by decide +kernel
theorem dX0_markAt_23 : decode cX0_markAt 23 = .ok (.ireturn, 1) := by decide +kernel
set_option maxRecDepth 20000 in
theorem ggX0_followMarks_X7_weekBits : GoodIn wsX0_followMarks wsX7_weekBits := goodIn_r _ [10, 11, 12, 13, 14, 61, 62, 63, 64, 65, 66, 67, 68, 69, 70, 71, 72, 73, 74, 75] (by decide +kernel) (by decide +kernel)
set_option maxRecDepth 20000 in
theorem gX0_followMarks_X7_weekBits : GoodIn wsX0_followMarks (wsV RX0 53 RX7 yX7_weekBits wsX7_weekBits) := goodIn_app (goodIn_of _ (by decide +kernel)) ggX0_followMarks_X7_weekBits
set_option maxRecDepth 20000 in
theorem ggX0_followMarks_X0_markAt : GoodIn wsX0_followMarks wsX0_markAt := goodIn_r _ [19, 20, 47, 48, 49, 50, 51, 52, 53, 54, 55] (by decide +kernel) (by decide +kernel)
set_option maxRecDepth 20000 in
theorem gX0_followMarks_X0_markAt : GoodIn wsX0_followMarks (wsV RX0 91 RX0 yX0_markAt wsX0_markAt) := goodIn_app (goodIn_of _ (by decide +kernel)) ggX0_followMarks_X0_markAt
set_option maxRecDepth 20000 in
theorem ggX0_followMarks_X0_firstBest : GoodIn wsX0_followMarks wsX0_firstBest := goodIn_r _ [24, 25, 26, 27, 28, 29, 30, 31, 32, 33, 34, 35, 1, 3, 36, 47, 48, 49, 50, 51, 52, 53, 54, 55, 61, 62, 63, 64, 65, 66, 67, 68, 69, 70, 71, 72, 73, 74, 75, 56, 57, 58, 59, 60] (by decide +kernel) (by decide +kernel)
set_option maxRecDepth 20000 in
theorem gX0_followMarks_X0_firstBest : GoodIn wsX0_followMarks (wsV RX0 94 RX0 yX0_firstBest wsX0_firstBest) := goodIn_app (goodIn_of _ (by decide +kernel)) ggX0_followMarks_X0_firstBest
set_option maxRecDepth 20000 in
theorem ggX0_followMarks_X7_hundredthsUnder : GoodIn wsX0_followMarks wsX7_hundredthsUnder := goodIn_r _ [40, 12, 41, 61, 62, 63, 64, 65, 66, 67, 68, 69, 70, 71, 72, 73, 74, 75] (by decide +kernel) (by decide +kernel)
set_option maxRecDepth 20000 in
theorem gX0_followMarks_X7_hundredthsUnder : GoodIn wsX0_followMarks (wsV RX0 98 RX7 yX7_hundredthsUnder wsX7_hundredthsUnder) := goodIn_app (goodIn_of _ (by decide +kernel)) ggX0_followMarks_X7_hundredthsUnder
set_option maxRecDepth 20000 in
theorem ggX0_followMarks_X7_countsUnder : GoodIn wsX0_followMarks wsX7_countsUnder := goodIn_r _ [45, 12, 46, 61, 62, 63, 64, 65, 66, 67, 68, 69, 70, 71, 72, 73, 74, 75] (by decide +kernel) (by decide +kernel)
set_option maxRecDepth 20000 in
theorem gX0_followMarks_X7_countsUnder : GoodIn wsX0_followMarks (wsV RX0 101 RX7 yX7_countsUnder wsX7_countsUnder) := goodIn_app (goodIn_of _ (by decide +kernel)) ggX0_followMarks_X7_countsUnder
theorem dX0_followMarks_0 : decode cX0_followMarks 0 = .ok (.iconst 0, 1) := by decide +kernel
theorem dX0_followMarks_1 : decode cX0_followMarks 1 = .ok (.istore_n 3, 1) := by decide +kernel
theorem dX0_followMarks_2 : decode cX0_followMarks 2 = .ok (.iconst 0, 1) := by decide +kernel
theorem dX0_followMarks_3 : decode cX0_followMarks 3 = .ok (.istore 4, 2) := by decide +kernel
theorem dX0_followMarks_5 : decode cX0_followMarks 5 = .ok (.iconst 0, 1) := by decide +kernel
theorem dX0_followMarks_6 : decode cX0_followMarks 6 = .ok (.istore 5, 2) := by decide +kernel
theorem dX0_followMarks_8 : decode cX0_followMarks 8 = .ok (.iload 5, 2) := by decide +kernel
theorem dX0_followMarks_10 : decode cX0_followMarks 10 = .ok (.aload_n 0, 1) := by decide +kernel
theorem dX0_followMarks_11 : decode cX0_followMarks 11 = .ok (.getfield 14, 3) := by decide +kernel
theorem dX0_followMarks_14 : decode cX0_followMarks 14 = .ok (.getfield 40, 3) := by decide +kernel
theorem dX0_followMarks_17 : decode cX0_followMarks 17 = .ok (.if_icmp .ge 103, 3) := by decide +kernel
theorem dX0_followMarks_20 : decode cX0_followMarks 20 = .ok (.aload_n 0, 1) := by decide +kernel
theorem dX0_followMarks_21 : decode cX0_followMarks 21 = .ok (.getfield 14, 3) := by decide +kernel
theorem dX0_followMarks_24 : decode cX0_followMarks 24 = .ok (.getfield 73, 3) := by decide +kernel
theorem dX0_followMarks_27 : decode cX0_followMarks 27 = .ok (.iload 5, 2) := by decide +kernel
theorem dX0_followMarks_29 : decode cX0_followMarks 29 = .ok (.dup2, 1) := by decide +kernel
theorem dX0_followMarks_30 : decode cX0_followMarks 30 = .ok (.iaload, 1) := by decide +kernel
theorem dX0_followMarks_31 : decode cX0_followMarks 31 = .ok (.aload_n 1, 1) := by decide +kernel
theorem dX0_followMarks_32 : decode cX0_followMarks 32 = .ok (.iload 4, 2) := by decide +kernel
theorem dX0_followMarks_34 : decode cX0_followMarks 34 = .ok (.invokevirtual 53, 3) := by decide +kernel
theorem dX0_followMarks_37 : decode cX0_followMarks 37 = .ok (.iload_n 2, 1) := by decide +kernel
theorem dX0_followMarks_38 : decode cX0_followMarks 38 = .ok (.iand, 1) := by decide +kernel
theorem dX0_followMarks_39 : decode cX0_followMarks 39 = .ok (.ior, 1) := by decide +kernel
theorem dX0_followMarks_40 : decode cX0_followMarks 40 = .ok (.iastore, 1) := by decide +kernel
theorem dX0_followMarks_41 : decode cX0_followMarks 41 = .ok (.aload_n 0, 1) := by decide +kernel
theorem dX0_followMarks_42 : decode cX0_followMarks 42 = .ok (.getfield 14, 3) := by decide +kernel
theorem dX0_followMarks_45 : decode cX0_followMarks 45 = .ok (.getfield 88, 3) := by decide +kernel
theorem dX0_followMarks_48 : decode cX0_followMarks 48 = .ok (.iload 5, 2) := by decide +kernel
theorem dX0_followMarks_50 : decode cX0_followMarks 50 = .ok (.aload_n 0, 1) := by decide +kernel
theorem dX0_followMarks_51 : decode cX0_followMarks 51 = .ok (.iload 5, 2) := by decide +kernel
theorem dX0_followMarks_53 : decode cX0_followMarks 53 = .ok (.iload 4, 2) := by decide +kernel
theorem dX0_followMarks_55 : decode cX0_followMarks 55 = .ok (.aload_n 0, 1) := by decide +kernel
theorem dX0_followMarks_56 : decode cX0_followMarks 56 = .ok (.iload 5, 2) := by decide +kernel
theorem dX0_followMarks_58 : decode cX0_followMarks 58 = .ok (.iload 4, 2) := by decide +kernel
theorem dX0_followMarks_60 : decode cX0_followMarks 60 = .ok (.invokevirtual 91, 3) := by decide +kernel
theorem dX0_followMarks_63 : decode cX0_followMarks 63 = .ok (.aload_n 1, 1) := by decide +kernel
theorem dX0_followMarks_64 : decode cX0_followMarks 64 = .ok (.invokevirtual 94, 3) := by decide +kernel
theorem dX0_followMarks_67 : decode cX0_followMarks 67 = .ok (.iastore, 1) := by decide +kernel
theorem dX0_followMarks_68 : decode cX0_followMarks 68 = .ok (.iload_n 3, 1) := by decide +kernel
theorem dX0_followMarks_69 : decode cX0_followMarks 69 = .ok (.aload_n 1, 1) := by decide +kernel
theorem dX0_followMarks_70 : decode cX0_followMarks 70 = .ok (.aload_n 0, 1) := by decide +kernel
theorem dX0_followMarks_71 : decode cX0_followMarks 71 = .ok (.getfield 14, 3) := by decide +kernel
theorem dX0_followMarks_74 : decode cX0_followMarks 74 = .ok (.getfield 88, 3) := by decide +kernel
theorem dX0_followMarks_77 : decode cX0_followMarks 77 = .ok (.iload 5, 2) := by decide +kernel
theorem dX0_followMarks_79 : decode cX0_followMarks 79 = .ok (.iaload, 1) := by decide +kernel
theorem dX0_followMarks_80 : decode cX0_followMarks 80 = .ok (.invokevirtual 98, 3) := by decide +kernel
theorem dX0_followMarks_83 : decode cX0_followMarks 83 = .ok (.iadd, 1) := by decide +kernel
theorem dX0_followMarks_84 : decode cX0_followMarks 84 = .ok (.istore_n 3, 1) := by decide +kernel
theorem dX0_followMarks_85 : decode cX0_followMarks 85 = .ok (.aload_n 1, 1) := by decide +kernel
theorem dX0_followMarks_86 : decode cX0_followMarks 86 = .ok (.aload_n 0, 1) := by decide +kernel
theorem dX0_followMarks_87 : decode cX0_followMarks 87 = .ok (.getfield 14, 3) := by decide +kernel
theorem dX0_followMarks_90 : decode cX0_followMarks 90 = .ok (.getfield 88, 3) := by decide +kernel
theorem dX0_followMarks_93 : decode cX0_followMarks 93 = .ok (.iload 5, 2) := by decide +kernel
theorem dX0_followMarks_95 : decode cX0_followMarks 95 = .ok (.iaload, 1) := by decide +kernel
theorem dX0_followMarks_96 : decode cX0_followMarks 96 = .ok (.invokevirtual 101, 3) := by decide +kernel
theorem dX0_followMarks_99 : decode cX0_followMarks 99 = .ok (.ifCond .eq 15, 3) := by decide +kernel
theorem dX0_followMarks_102 : decode cX0_followMarks 102 = .ok (.iload 4, 2) := by decide +kernel
theorem dX0_followMarks_104 : decode cX0_followMarks 104 = .ok (.aload_n 0, 1) := by decide +kernel
theorem dX0_followMarks_105 : decode cX0_followMarks 105 = .ok (.getfield 50, 3) := by decide +kernel
theorem dX0_followMarks_108 : decode cX0_followMarks 108 = .ok (.if_icmp .ge 6, 3) := by decide +kernel
theorem dX0_followMarks_111 : decode cX0_followMarks 111 = .ok (.iinc 4 1, 3) := by decide +kernel
theorem dX0_followMarks_114 : decode cX0_followMarks 114 = .ok (.iinc 5 1, 3) := by decide +kernel
theorem dX0_followMarks_117 : decode cX0_followMarks 117 = .ok (.goto (-109), 3) := by decide +kernel
theorem dX0_followMarks_120 : decode cX0_followMarks 120 = .ok (.iload_n 3, 1) := by decide +kernel
theorem dX0_followMarks_121 : decode cX0_followMarks 121 = .ok (.ireturn, 1) := by decide +kernel
theorem dX0_firstBest_0 : decode cX0_firstBest 0 = .ok (.aload_n 0, 1) := by decide +kernel
theorem dX0_firstBest_1 : decode cX0_firstBest 1 = .ok (.getfield 18, 3) := by decide +kernel
theorem dX0_firstBest_4 : decode cX0_firstBest 4 = .ok (.iload_n 1, 1) := by decide +kernel
theorem dX0_firstBest_5 : decode cX0_firstBest 5 = .ok (.iaload, 1) := by decide +kernel
theorem dX0_firstBest_6 : decode cX0_firstBest 6 = .ok (.aload_n 0, 1) := by decide +kernel
theorem dX0_firstBest_7 : decode cX0_firstBest 7 = .ok (.getfield 25, 3) := by decide +kernel
theorem dX0_firstBest_10 : decode cX0_firstBest 10 = .ok (.iload_n 2, 1) := by decide +kernel
theorem dX0_firstBest_11 : decode cX0_firstBest 11 = .ok (.iaload, 1) := by decide +kernel
theorem dX0_firstBest_12 : decode cX0_firstBest 12 = .ok (.invokestatic 81, 3) := by decide +kernel
theorem dX0_firstBest_15 : decode cX0_firstBest 15 = .ok (.istore 5, 2) := by decide +kernel
theorem dX0_firstBest_17 : decode cX0_firstBest 17 = .ok (.aload_n 0, 1) := by decide +kernel
theorem dX0_firstBest_18 : decode cX0_firstBest 18 = .ok (.getfield 22, 3) := by decide +kernel
theorem dX0_firstBest_21 : decode cX0_firstBest 21 = .ok (.iload_n 1, 1) := by decide +kernel
theorem dX0_firstBest_22 : decode cX0_firstBest 22 = .ok (.iaload, 1) := by decide +kernel
theorem dX0_firstBest_23 : decode cX0_firstBest 23 = .ok (.aload_n 0, 1) := by decide +kernel
theorem dX0_firstBest_24 : decode cX0_firstBest 24 = .ok (.getfield 28, 3) := by decide +kernel
theorem dX0_firstBest_27 : decode cX0_firstBest 27 = .ok (.iload_n 2, 1) := by decide +kernel
theorem dX0_firstBest_28 : decode cX0_firstBest 28 = .ok (.iaload, 1) := by decide +kernel
theorem dX0_firstBest_29 : decode cX0_firstBest 29 = .ok (.invokestatic 81, 3) := by decide +kernel
theorem dX0_firstBest_32 : decode cX0_firstBest 32 = .ok (.istore 6, 2) := by decide +kernel
theorem dX0_firstBest_34 : decode cX0_firstBest 34 = .ok (.iload_n 3, 1) := by decide +kernel
theorem dX0_firstBest_35 : decode cX0_firstBest 35 = .ok (.iconst 1, 1) := by decide +kernel
theorem dX0_firstBest_36 : decode cX0_firstBest 36 = .ok (.iand, 1) := by decide +kernel
theorem dX0_firstBest_37 : decode cX0_firstBest 37 = .ok (.ifCond .eq 10, 3) := by decide +kernel
theorem dX0_firstBest_40 : decode cX0_firstBest 40 = .ok (.iload 5, 2) := by decide +kernel
theorem dX0_firstBest_42 : decode cX0_firstBest 42 = .ok (.ifCond .ne 5, 3) := by decide +kernel
theorem dX0_firstBest_45 : decode cX0_firstBest 45 = .ok (.iconst (-1), 1) := by decide +kernel
theorem dX0_firstBest_46 : decode cX0_firstBest 46 = .ok (.ireturn, 1) := by decide +kernel
theorem dX0_firstBest_47 : decode cX0_firstBest 47 = .ok (.iconst 0, 1) := by decide +kernel
theorem dX0_firstBest_48 : decode cX0_firstBest 48 = .ok (.istore 7, 2) := by decide +kernel
theorem dX0_firstBest_50 : decode cX0_firstBest 50 = .ok (.iload 7, 2) := by decide +kernel
theorem dX0_firstBest_52 : decode cX0_firstBest 52 = .ok (.aload 4, 2) := by decide +kernel
theorem dX0_firstBest_54 : decode cX0_firstBest 54 = .ok (.getfield 105, 3) := by decide +kernel
theorem dX0_firstBest_57 : decode cX0_firstBest 57 = .ok (.if_icmp .ge 95, 3) := by decide +kernel
theorem dX0_firstBest_60 : decode cX0_firstBest 60 = .ok (.aload 4, 2) := by decide +kernel
theorem dX0_firstBest_62 : decode cX0_firstBest 62 = .ok (.getfield 108, 3) := by decide +kernel
theorem dX0_firstBest_65 : decode cX0_firstBest 65 = .ok (.iload 7, 2) := by decide +kernel
theorem dX0_firstBest_67 : decode cX0_firstBest 67 = .ok (.aaload, 1) := by decide +kernel
theorem dX0_firstBest_68 : decode cX0_firstBest 68 = .ok (.getfield 112, 3) := by decide +kernel
theorem dX0_firstBest_71 : decode cX0_firstBest 71 = .ok (.istore 8, 2) := by decide +kernel
theorem dX0_firstBest_73 : decode cX0_firstBest 73 = .ok (.iload_n 3, 1) := by decide +kernel
theorem dX0_firstBest_74 : decode cX0_firstBest 74 = .ok (.iload 8, 2) := by decide +kernel
theorem dX0_firstBest_76 : decode cX0_firstBest 76 = .ok (.ifCond .eq 7, 3) := by decide +kernel
theorem dX0_firstBest_79 : decode cX0_firstBest 79 = .ok (.iconst 1, 1) := by decide +kernel
theorem dX0_firstBest_80 : decode cX0_firstBest 80 = .ok (.goto 4, 3) := by decide +kernel
theorem dX0_firstBest_83 : decode cX0_firstBest 83 = .ok (.iconst 2, 1) := by decide +kernel
theorem dX0_firstBest_84 : decode cX0_firstBest 84 = .ok (.iand, 1) := by decide +kernel
theorem dX0_firstBest_85 : decode cX0_firstBest 85 = .ok (.ifCond .eq 7, 3) := by decide +kernel
theorem dX0_firstBest_88 : decode cX0_firstBest 88 = .ok (.iconst 1, 1) := by decide +kernel
theorem dX0_firstBest_89 : decode cX0_firstBest 89 = .ok (.goto 4, 3) := by decide +kernel
theorem dX0_firstBest_92 : decode cX0_firstBest 92 = .ok (.iconst 0, 1) := by decide +kernel
theorem dX0_firstBest_93 : decode cX0_firstBest 93 = .ok (.istore 9, 2) := by decide +kernel
theorem dX0_firstBest_95 : decode cX0_firstBest 95 = .ok (.iload 9, 2) := by decide +kernel
theorem dX0_firstBest_97 : decode cX0_firstBest 97 = .ok (.ifCond .eq 49, 3) := by decide +kernel
theorem dX0_firstBest_100 : decode cX0_firstBest 100 = .ok (.aload_n 0, 1) := by decide +kernel
theorem dX0_firstBest_101 : decode cX0_firstBest 101 = .ok (.getfield 14, 3) := by decide +kernel
theorem dX0_firstBest_104 : decode cX0_firstBest 104 = .ok (.getfield 73, 3) := by decide +kernel
theorem dX0_firstBest_107 : decode cX0_firstBest 107 = .ok (.iload_n 1, 1) := by decide +kernel
theorem dX0_firstBest_108 : decode cX0_firstBest 108 = .ok (.iaload, 1) := by decide +kernel
theorem dX0_firstBest_109 : decode cX0_firstBest 109 = .ok (.iload 7, 2) := by decide +kernel
theorem dX0_firstBest_111 : decode cX0_firstBest 111 = .ok (.ishr, 1) := by decide +kernel
theorem dX0_firstBest_112 : decode cX0_firstBest 112 = .ok (.iconst 1, 1) := by decide +kernel
theorem dX0_firstBest_113 : decode cX0_firstBest 113 = .ok (.iand, 1) := by decide +kernel
theorem dX0_firstBest_114 : decode cX0_firstBest 114 = .ok (.ifCond .eq 32, 3) := by decide +kernel
theorem dX0_firstBest_117 : decode cX0_firstBest 117 = .ok (.aload 4, 2) := by decide +kernel
theorem dX0_firstBest_119 : decode cX0_firstBest 119 = .ok (.getfield 108, 3) := by decide +kernel
theorem dX0_firstBest_122 : decode cX0_firstBest 122 = .ok (.iload 7, 2) := by decide +kernel
theorem dX0_firstBest_124 : decode cX0_firstBest 124 = .ok (.aaload, 1) := by decide +kernel
theorem dX0_firstBest_125 : decode cX0_firstBest 125 = .ok (.getfield 118, 3) := by decide +kernel
theorem dX0_firstBest_128 : decode cX0_firstBest 128 = .ok (.iload 8, 2) := by decide +kernel
theorem dX0_firstBest_130 : decode cX0_firstBest 130 = .ok (.ifCond .eq 8, 3) := by decide +kernel
theorem dX0_firstBest_133 : decode cX0_firstBest 133 = .ok (.iload 5, 2) := by decide +kernel
theorem dX0_firstBest_135 : decode cX0_firstBest 135 = .ok (.goto 5, 3) := by decide +kernel
theorem dX0_firstBest_138 : decode cX0_firstBest 138 = .ok (.iload 6, 2) := by decide +kernel
theorem dX0_firstBest_140 : decode cX0_firstBest 140 = .ok (.if_icmp .ne 6, 3) := by decide +kernel
theorem dX0_firstBest_143 : decode cX0_firstBest 143 = .ok (.iload 7, 2) := by decide +kernel
theorem dX0_firstBest_145 : decode cX0_firstBest 145 = .ok (.ireturn, 1) := by decide +kernel
theorem dX0_firstBest_146 : decode cX0_firstBest 146 = .ok (.iinc 7 1, 3) := by decide +kernel
theorem dX0_firstBest_149 : decode cX0_firstBest 149 = .ok (.goto (-99), 3) := by decide +kernel
theorem dX0_firstBest_152 : decode cX0_firstBest 152 = .ok (.iconst (-1), 1) := by decide +kernel
theorem dX0_firstBest_153 : decode cX0_firstBest 153 = .ok (.ireturn, 1) := by decide +kernel
theorem dX1_init_0 : decode cX1_init 0 = .ok (.aload_n 0, 1) := by decide +kernel
theorem dX1_init_1 : decode cX1_init 1 = .ok (.invokespecial 3, 3) := by decide +kernel
theorem dX1_init_4 : decode cX1_init 4 = .ok (.aload_n 0, 1) := by decide +kernel
theorem dX1_init_5 : decode cX1_init 5 = .ok (.bipush 60, 2) := by decide +kernel
theorem dX1_init_7 : decode cX1_init 7 = .ok (.newarray .int, 2) := by decide +kernel
theorem dX1_init_9 : decode cX1_init 9 = .ok (.putfield 9, 3) := by decide +kernel
theorem dX1_init_12 : decode cX1_init 12 = .ok (.aload_n 0, 1) := by decide +kernel
theorem dX1_init_13 : decode cX1_init 13 = .ok (.bipush 60, 2) := by decide +kernel
theorem dX1_init_15 : decode cX1_init 15 = .ok (.newarray .int, 2) := by decide +kernel
theorem dX1_init_17 : decode cX1_init 17 = .ok (.putfield 15, 3) := by decide +kernel
theorem dX1_init_20 : decode cX1_init 20 = .ok (.return_, 1) := by decide +kernel
theorem dX1_find_0 : decode cX1_find 0 = .ok (.iconst 0, 1) := by decide +kernel
theorem dX1_find_1 : decode cX1_find 1 = .ok (.istore_n 2, 1) := by decide +kernel
theorem dX1_find_2 : decode cX1_find 2 = .ok (.iload_n 2, 1) := by decide +kernel
theorem dX1_find_3 : decode cX1_find 3 = .ok (.aload_n 0, 1) := by decide +kernel
theorem dX1_find_4 : decode cX1_find 4 = .ok (.getfield 18, 3) := by decide +kernel
theorem dX1_find_7 : decode cX1_find 7 = .ok (.if_icmp .ge 21, 3) := by decide +kernel
theorem dX1_find_10 : decode cX1_find 10 = .ok (.aload_n 0, 1) := by decide +kernel
theorem dX1_find_11 : decode cX1_find 11 = .ok (.getfield 9, 3) := by decide +kernel
theorem dX1_find_14 : decode cX1_find 14 = .ok (.iload_n 2, 1) := by decide +kernel
theorem dX1_find_15 : decode cX1_find 15 = .ok (.iaload, 1) := by decide +kernel
theorem dX1_find_16 : decode cX1_find 16 = .ok (.iload_n 1, 1) := by decide +kernel
theorem dX1_find_17 : decode cX1_find 17 = .ok (.if_icmp .ne 5, 3) := by decide +kernel
theorem dX1_find_20 : decode cX1_find 20 = .ok (.iload_n 2, 1) := by decide +kernel
theorem dX1_find_21 : decode cX1_find 21 = .ok (.ireturn, 1) := by decide +kernel
theorem dX1_find_22 : decode cX1_find 22 = .ok (.iinc 2 1, 3) := by decide +kernel
theorem dX1_find_25 : decode cX1_find 25 = .ok (.goto (-23), 3) := by decide +kernel
theorem dX1_find_28 : decode cX1_find 28 = .ok (.iconst (-1), 1) := by decide +kernel
theorem dX1_find_29 : decode cX1_find 29 = .ok (.ireturn, 1) := by decide +kernel
set_option maxRecDepth 20000 in
theorem ggX1_takes_X1_find : GoodIn wsX1_takes wsX1_find := goodIn_r _ [6, 1, 7, 8, 9, 10] (by decide +kernel) (by decide +kernel)
set_option maxRecDepth 20000 in
theorem gX1_takes_X1_find : GoodIn wsX1_takes (wsV RX1 22 RX1 yX1_find wsX1_find) := goodIn_app (goodIn_of _ (by decide +kernel)) ggX1_takes_X1_find
theorem dX1_takes_0 : decode cX1_takes 0 = .ok (.aload_n 0, 1) := by decide +kernel
theorem dX1_takes_1 : decode cX1_takes 1 = .ok (.getfield 18, 3) := by decide +kernel
theorem dX1_takes_4 : decode cX1_takes 4 = .ok (.bipush 60, 2) := by decide +kernel
theorem dX1_takes_6 : decode cX1_takes 6 = .ok (.if_icmp .ge 16, 3) := by decide +kernel
theorem dX1_takes_9 : decode cX1_takes 9 = .ok (.aload_n 0, 1) := by decide +kernel
theorem dX1_takes_10 : decode cX1_takes 10 = .ok (.iload_n 1, 1) := by decide +kernel
theorem dX1_takes_11 : decode cX1_takes 11 = .ok (.invokevirtual 22, 3) := by decide +kernel
theorem dX1_takes_14 : decode cX1_takes 14 = .ok (.iconst (-1), 1) := by decide +kernel
theorem dX1_takes_15 : decode cX1_takes 15 = .ok (.if_icmp .ne 7, 3) := by decide +kernel
theorem dX1_takes_18 : decode cX1_takes 18 = .ok (.iconst 1, 1) := by decide +kernel
theorem dX1_takes_19 : decode cX1_takes 19 = .ok (.goto 4, 3) := by decide +kernel
theorem dX1_takes_22 : decode cX1_takes 22 = .ok (.iconst 0, 1) := by decide +kernel
theorem dX1_takes_23 : decode cX1_takes 23 = .ok (.ireturn, 1) := by decide +kernel
theorem dX1_add_0 : decode cX1_add 0 = .ok (.aload_n 0, 1) := by decide +kernel
theorem dX1_add_1 : decode cX1_add 1 = .ok (.getfield 18, 3) := by decide +kernel
theorem dX1_add_4 : decode cX1_add 4 = .ok (.bipush 60, 2) := by decide +kernel
theorem dX1_add_6 : decode cX1_add 6 = .ok (.if_icmp .lt 4, 3) := by decide +kernel
theorem dX1_add_9 : decode cX1_add 9 = .ok (.return_, 1) := by decide +kernel
theorem dX1_add_10 : decode cX1_add 10 = .ok (.aload_n 0, 1) := by decide +kernel
theorem dX1_add_11 : decode cX1_add 11 = .ok (.getfield 18, 3) := by decide +kernel
theorem dX1_add_14 : decode cX1_add 14 = .ok (.istore_n 3, 1) := by decide +kernel
theorem dX1_add_15 : decode cX1_add 15 = .ok (.iload_n 3, 1) := by decide +kernel
theorem dX1_add_16 : decode cX1_add 16 = .ok (.ifCond .le 49, 3) := by decide +kernel
theorem dX1_add_19 : decode cX1_add 19 = .ok (.aload_n 0, 1) := by decide +kernel
theorem dX1_add_20 : decode cX1_add 20 = .ok (.getfield 9, 3) := by decide +kernel
theorem dX1_add_23 : decode cX1_add 23 = .ok (.iload_n 3, 1) := by decide +kernel
theorem dX1_add_24 : decode cX1_add 24 = .ok (.iconst 1, 1) := by decide +kernel
theorem dX1_add_25 : decode cX1_add 25 = .ok (.isub, 1) := by decide +kernel
theorem dX1_add_26 : decode cX1_add 26 = .ok (.iaload, 1) := by decide +kernel
theorem dX1_add_27 : decode cX1_add 27 = .ok (.iload_n 1, 1) := by decide +kernel
theorem dX1_add_28 : decode cX1_add 28 = .ok (.if_icmp .le 37, 3) := by decide +kernel
theorem dX1_add_31 : decode cX1_add 31 = .ok (.aload_n 0, 1) := by decide +kernel
theorem dX1_add_32 : decode cX1_add 32 = .ok (.getfield 9, 3) := by decide +kernel
theorem dX1_add_35 : decode cX1_add 35 = .ok (.iload_n 3, 1) := by decide +kernel
theorem dX1_add_36 : decode cX1_add 36 = .ok (.aload_n 0, 1) := by decide +kernel
theorem dX1_add_37 : decode cX1_add 37 = .ok (.getfield 9, 3) := by decide +kernel
theorem dX1_add_40 : decode cX1_add 40 = .ok (.iload_n 3, 1) := by decide +kernel
theorem dX1_add_41 : decode cX1_add 41 = .ok (.iconst 1, 1) := by decide +kernel
theorem dX1_add_42 : decode cX1_add 42 = .ok (.isub, 1) := by decide +kernel
theorem dX1_add_43 : decode cX1_add 43 = .ok (.iaload, 1) := by decide +kernel
theorem dX1_add_44 : decode cX1_add 44 = .ok (.iastore, 1) := by decide +kernel
theorem dX1_add_45 : decode cX1_add 45 = .ok (.aload_n 0, 1) := by decide +kernel
theorem dX1_add_46 : decode cX1_add 46 = .ok (.getfield 15, 3) := by decide +kernel
theorem dX1_add_49 : decode cX1_add 49 = .ok (.iload_n 3, 1) := by decide +kernel
theorem dX1_add_50 : decode cX1_add 50 = .ok (.aload_n 0, 1) := by decide +kernel
theorem dX1_add_51 : decode cX1_add 51 = .ok (.getfield 15, 3) := by decide +kernel
theorem dX1_add_54 : decode cX1_add 54 = .ok (.iload_n 3, 1) := by decide +kernel
theorem dX1_add_55 : decode cX1_add 55 = .ok (.iconst 1, 1) := by decide +kernel
theorem dX1_add_56 : decode cX1_add 56 = .ok (.isub, 1) := by decide +kernel
theorem dX1_add_57 : decode cX1_add 57 = .ok (.iaload, 1) := by decide +kernel
theorem dX1_add_58 : decode cX1_add 58 = .ok (.iastore, 1) := by decide +kernel
theorem dX1_add_59 : decode cX1_add 59 = .ok (.iinc 3 (-1), 3) := by decide +kernel
theorem dX1_add_62 : decode cX1_add 62 = .ok (.goto (-47), 3) := by decide +kernel
theorem dX1_add_65 : decode cX1_add 65 = .ok (.aload_n 0, 1) := by decide +kernel
theorem dX1_add_66 : decode cX1_add 66 = .ok (.getfield 9, 3) := by decide +kernel
theorem dX1_add_69 : decode cX1_add 69 = .ok (.iload_n 3, 1) := by decide +kernel
theorem dX1_add_70 : decode cX1_add 70 = .ok (.iload_n 1, 1) := by decide +kernel
theorem dX1_add_71 : decode cX1_add 71 = .ok (.iastore, 1) := by decide +kernel
theorem dX1_add_72 : decode cX1_add 72 = .ok (.aload_n 0, 1) := by decide +kernel
theorem dX1_add_73 : decode cX1_add 73 = .ok (.getfield 15, 3) := by decide +kernel
theorem dX1_add_76 : decode cX1_add 76 = .ok (.iload_n 3, 1) := by decide +kernel
theorem dX1_add_77 : decode cX1_add 77 = .ok (.iload_n 2, 1) := by decide +kernel
theorem dX1_add_78 : decode cX1_add 78 = .ok (.iastore, 1) := by decide +kernel
theorem dX1_add_79 : decode cX1_add 79 = .ok (.aload_n 0, 1) := by decide +kernel
theorem dX1_add_80 : decode cX1_add 80 = .ok (.dup, 1) := by decide +kernel
theorem dX1_add_81 : decode cX1_add 81 = .ok (.getfield 18, 3) := by decide +kernel
theorem dX1_add_84 : decode cX1_add 84 = .ok (.iconst 1, 1) := by decide +kernel
theorem dX1_add_85 : decode cX1_add 85 = .ok (.iadd, 1) := by decide +kernel
theorem dX1_add_86 : decode cX1_add 86 = .ok (.putfield 18, 3) := by decide +kernel
theorem dX1_add_89 : decode cX1_add 89 = .ok (.return_, 1) := by decide +kernel
theorem dX1_removeAt_0 : decode cX1_removeAt 0 = .ok (.iload_n 1, 1) := by decide +kernel
theorem dX1_removeAt_1 : decode cX1_removeAt 1 = .ok (.ifCond .lt 11, 3) := by decide +kernel
theorem dX1_removeAt_4 : decode cX1_removeAt 4 = .ok (.iload_n 1, 1) := by decide +kernel
theorem dX1_removeAt_5 : decode cX1_removeAt 5 = .ok (.aload_n 0, 1) := by decide +kernel
theorem dX1_removeAt_6 : decode cX1_removeAt 6 = .ok (.getfield 18, 3) := by decide +kernel
theorem dX1_removeAt_9 : decode cX1_removeAt 9 = .ok (.if_icmp .lt 4, 3) := by decide +kernel
theorem dX1_removeAt_12 : decode cX1_removeAt 12 = .ok (.return_, 1) := by decide +kernel
theorem dX1_removeAt_13 : decode cX1_removeAt 13 = .ok (.aload_n 0, 1) := by decide +kernel
theorem dX1_removeAt_14 : decode cX1_removeAt 14 = .ok (.dup, 1) := by decide +kernel
theorem dX1_removeAt_15 : decode cX1_removeAt 15 = .ok (.getfield 18, 3) := by decide +kernel
theorem dX1_removeAt_18 : decode cX1_removeAt 18 = .ok (.iconst 1, 1) := by decide +kernel
theorem dX1_removeAt_19 : decode cX1_removeAt 19 = .ok (.isub, 1) := by decide +kernel
theorem dX1_removeAt_20 : decode cX1_removeAt 20 = .ok (.putfield 18, 3) := by decide +kernel
theorem dX1_removeAt_23 : decode cX1_removeAt 23 = .ok (.iload_n 1, 1) := by decide +kernel
theorem dX1_removeAt_24 : decode cX1_removeAt 24 = .ok (.istore_n 2, 1) := by decide +kernel
theorem dX1_removeAt_25 : decode cX1_removeAt 25 = .ok (.iload_n 2, 1) := by decide +kernel
theorem dX1_removeAt_26 : decode cX1_removeAt 26 = .ok (.aload_n 0, 1) := by decide +kernel
theorem dX1_removeAt_27 : decode cX1_removeAt 27 = .ok (.getfield 18, 3) := by decide +kernel
theorem dX1_removeAt_30 : decode cX1_removeAt 30 = .ok (.if_icmp .ge 37, 3) := by decide +kernel
theorem dX1_removeAt_33 : decode cX1_removeAt 33 = .ok (.aload_n 0, 1) := by decide +kernel
theorem dX1_removeAt_34 : decode cX1_removeAt 34 = .ok (.getfield 9, 3) := by decide +kernel
theorem dX1_removeAt_37 : decode cX1_removeAt 37 = .ok (.iload_n 2, 1) := by decide +kernel
theorem dX1_removeAt_38 : decode cX1_removeAt 38 = .ok (.aload_n 0, 1) := by decide +kernel
theorem dX1_removeAt_39 : decode cX1_removeAt 39 = .ok (.getfield 9, 3) := by decide +kernel
theorem dX1_removeAt_42 : decode cX1_removeAt 42 = .ok (.iload_n 2, 1) := by decide +kernel
theorem dX1_removeAt_43 : decode cX1_removeAt 43 = .ok (.iconst 1, 1) := by decide +kernel
theorem dX1_removeAt_44 : decode cX1_removeAt 44 = .ok (.iadd, 1) := by decide +kernel
theorem dX1_removeAt_45 : decode cX1_removeAt 45 = .ok (.iaload, 1) := by decide +kernel
theorem dX1_removeAt_46 : decode cX1_removeAt 46 = .ok (.iastore, 1) := by decide +kernel
theorem dX1_removeAt_47 : decode cX1_removeAt 47 = .ok (.aload_n 0, 1) := by decide +kernel
theorem dX1_removeAt_48 : decode cX1_removeAt 48 = .ok (.getfield 15, 3) := by decide +kernel
theorem dX1_removeAt_51 : decode cX1_removeAt 51 = .ok (.iload_n 2, 1) := by decide +kernel
theorem dX1_removeAt_52 : decode cX1_removeAt 52 = .ok (.aload_n 0, 1) := by decide +kernel
theorem dX1_removeAt_53 : decode cX1_removeAt 53 = .ok (.getfield 15, 3) := by decide +kernel
theorem dX1_removeAt_56 : decode cX1_removeAt 56 = .ok (.iload_n 2, 1) := by decide +kernel
theorem dX1_removeAt_57 : decode cX1_removeAt 57 = .ok (.iconst 1, 1) := by decide +kernel
theorem dX1_removeAt_58 : decode cX1_removeAt 58 = .ok (.iadd, 1) := by decide +kernel
theorem dX1_removeAt_59 : decode cX1_removeAt 59 = .ok (.iaload, 1) := by decide +kernel
theorem dX1_removeAt_60 : decode cX1_removeAt 60 = .ok (.iastore, 1) := by decide +kernel
theorem dX1_removeAt_61 : decode cX1_removeAt 61 = .ok (.iinc 2 1, 3) := by decide +kernel
theorem dX1_removeAt_64 : decode cX1_removeAt 64 = .ok (.goto (-39), 3) := by decide +kernel
theorem dX1_removeAt_67 : decode cX1_removeAt 67 = .ok (.return_, 1) := by decide +kernel
theorem dX1_copy_0 : decode cX1_copy 0 = .ok (.aload_n 0, 1) := by decide +kernel
theorem dX1_copy_1 : decode cX1_copy 1 = .ok (.aload_n 1, 1) := by decide +kernel
theorem dX1_copy_2 : decode cX1_copy 2 = .ok (.getfield 18, 3) := by decide +kernel
theorem dX1_copy_5 : decode cX1_copy 5 = .ok (.putfield 18, 3) := by decide +kernel
theorem dX1_copy_8 : decode cX1_copy 8 = .ok (.iconst 0, 1) := by decide +kernel
theorem dX1_copy_9 : decode cX1_copy 9 = .ok (.istore_n 2, 1) := by decide +kernel
theorem dX1_copy_10 : decode cX1_copy 10 = .ok (.iload_n 2, 1) := by decide +kernel
theorem dX1_copy_11 : decode cX1_copy 11 = .ok (.aload_n 0, 1) := by decide +kernel
theorem dX1_copy_12 : decode cX1_copy 12 = .ok (.getfield 18, 3) := by decide +kernel
theorem dX1_copy_15 : decode cX1_copy 15 = .ok (.if_icmp .ge 33, 3) := by decide +kernel
theorem dX1_copy_18 : decode cX1_copy 18 = .ok (.aload_n 0, 1) := by decide +kernel
theorem dX1_copy_19 : decode cX1_copy 19 = .ok (.getfield 9, 3) := by decide +kernel
theorem dX1_copy_22 : decode cX1_copy 22 = .ok (.iload_n 2, 1) := by decide +kernel
theorem dX1_copy_23 : decode cX1_copy 23 = .ok (.aload_n 1, 1) := by decide +kernel
theorem dX1_copy_24 : decode cX1_copy 24 = .ok (.getfield 9, 3) := by decide +kernel
theorem dX1_copy_27 : decode cX1_copy 27 = .ok (.iload_n 2, 1) := by decide +kernel
theorem dX1_copy_28 : decode cX1_copy 28 = .ok (.iaload, 1) := by decide +kernel
theorem dX1_copy_29 : decode cX1_copy 29 = .ok (.iastore, 1) := by decide +kernel
theorem dX1_copy_30 : decode cX1_copy 30 = .ok (.aload_n 0, 1) := by decide +kernel
theorem dX1_copy_31 : decode cX1_copy 31 = .ok (.getfield 15, 3) := by decide +kernel
theorem dX1_copy_34 : decode cX1_copy 34 = .ok (.iload_n 2, 1) := by decide +kernel
theorem dX1_copy_35 : decode cX1_copy 35 = .ok (.aload_n 1, 1) := by decide +kernel
theorem dX1_copy_36 : decode cX1_copy 36 = .ok (.getfield 15, 3) := by decide +kernel
theorem dX1_copy_39 : decode cX1_copy 39 = .ok (.iload_n 2, 1) := by decide +kernel
theorem dX1_copy_40 : decode cX1_copy 40 = .ok (.iaload, 1) := by decide +kernel
theorem dX1_copy_41 : decode cX1_copy 41 = .ok (.iastore, 1) := by decide +kernel
theorem dX1_copy_42 : decode cX1_copy 42 = .ok (.iinc 2 1, 3) := by decide +kernel
theorem dX1_copy_45 : decode cX1_copy 45 = .ok (.goto (-35), 3) := by decide +kernel
theorem dX1_copy_48 : decode cX1_copy 48 = .ok (.return_, 1) := by decide +kernel
theorem dX2_init_0 : decode cX2_init 0 = .ok (.aload_n 0, 1) := by decide +kernel
theorem dX2_init_1 : decode cX2_init 1 = .ok (.invokespecial 3, 3) := by decide +kernel
theorem dX2_init_4 : decode cX2_init 4 = .ok (.aload_n 0, 1) := by decide +kernel
theorem dX2_init_5 : decode cX2_init 5 = .ok (.iconst (-1), 1) := by decide +kernel
theorem dX2_init_6 : decode cX2_init 6 = .ok (.putfield 9, 3) := by decide +kernel
theorem dX2_init_9 : decode cX2_init 9 = .ok (.aload_n 0, 1) := by decide +kernel
theorem dX2_init_10 : decode cX2_init 10 = .ok (.iconst (-1), 1) := by decide +kernel
theorem dX2_init_11 : decode cX2_init 11 = .ok (.putfield 15, 3) := by decide +kernel
theorem dX2_init_14 : decode cX2_init 14 = .ok (.aload_n 0, 1) := by decide +kernel
theorem dX2_init_15 : decode cX2_init 15 = .ok (.iconst (-1), 1) := by decide +kernel
theorem dX2_init_16 : decode cX2_init 16 = .ok (.putfield 18, 3) := by decide +kernel
theorem dX2_init_19 : decode cX2_init 19 = .ok (.return_, 1) := by decide +kernel
theorem dX2_set_0 : decode cX2_set 0 = .ok (.aload_n 0, 1) := by decide +kernel
theorem dX2_set_1 : decode cX2_set 1 = .ok (.iload_n 1, 1) := by decide +kernel
theorem dX2_set_2 : decode cX2_set 2 = .ok (.putfield 9, 3) := by decide +kernel
theorem dX2_set_5 : decode cX2_set 5 = .ok (.aload_n 0, 1) := by decide +kernel
theorem dX2_set_6 : decode cX2_set 6 = .ok (.iload_n 2, 1) := by decide +kernel
theorem dX2_set_7 : decode cX2_set 7 = .ok (.putfield 15, 3) := by decide +kernel
theorem dX2_set_10 : decode cX2_set 10 = .ok (.aload_n 0, 1) := by decide +kernel
theorem dX2_set_11 : decode cX2_set 11 = .ok (.iload_n 3, 1) := by decide +kernel
theorem dX2_set_12 : decode cX2_set 12 = .ok (.putfield 18, 3) := by decide +kernel
theorem dX2_set_15 : decode cX2_set 15 = .ok (.aload_n 0, 1) := by decide +kernel
theorem dX2_set_16 : decode cX2_set 16 = .ok (.iload_n 1, 1) := by decide +kernel
theorem dX2_set_17 : decode cX2_set 17 = .ok (.sipush 1440, 3) := by decide +kernel
theorem dX2_set_20 : decode cX2_set 20 = .ok (.imul, 1) := by decide +kernel
theorem dX2_set_21 : decode cX2_set 21 = .ok (.iload_n 2, 1) := by decide +kernel
theorem dX2_set_22 : decode cX2_set 22 = .ok (.bipush 60, 2) := by decide +kernel
theorem dX2_set_24 : decode cX2_set 24 = .ok (.imul, 1) := by decide +kernel
theorem dX2_set_25 : decode cX2_set 25 = .ok (.iadd, 1) := by decide +kernel
theorem dX2_set_26 : decode cX2_set 26 = .ok (.putfield 21, 3) := by decide +kernel
theorem dX2_set_29 : decode cX2_set 29 = .ok (.aload_n 0, 1) := by decide +kernel
theorem dX2_set_30 : decode cX2_set 30 = .ok (.iload_n 3, 1) := by decide +kernel
theorem dX2_set_31 : decode cX2_set 31 = .ok (.iconst 1, 1) := by decide +kernel
theorem dX2_set_32 : decode cX2_set 32 = .ok (.if_icmp .ne 8, 3) := by decide +kernel
theorem dX2_set_35 : decode cX2_set 35 = .ok (.bipush (-60), 2) := by decide +kernel
theorem dX2_set_37 : decode cX2_set 37 = .ok (.goto 13, 3) := by decide +kernel
theorem dX2_set_40 : decode cX2_set 40 = .ok (.iload_n 3, 1) := by decide +kernel
theorem dX2_set_41 : decode cX2_set 41 = .ok (.ifCond .ne 8, 3) := by decide +kernel
theorem dX2_set_44 : decode cX2_set 44 = .ok (.bipush 60, 2) := by decide +kernel
theorem dX2_set_46 : decode cX2_set 46 = .ok (.goto 4, 3) := by decide +kernel
theorem dX2_set_49 : decode cX2_set 49 = .ok (.iconst 0, 1) := by decide +kernel
theorem dX2_set_50 : decode cX2_set 50 = .ok (.putfield 24, 3) := by decide +kernel
theorem dX2_set_53 : decode cX2_set 53 = .ok (.return_, 1) := by decide +kernel
theorem dX2_sameAs_0 : decode cX2_sameAs 0 = .ok (.aload_n 0, 1) := by decide +kernel
theorem dX2_sameAs_1 : decode cX2_sameAs 1 = .ok (.getfield 9, 3) := by decide +kernel
theorem dX2_sameAs_4 : decode cX2_sameAs 4 = .ok (.aload_n 1, 1) := by decide +kernel
theorem dX2_sameAs_5 : decode cX2_sameAs 5 = .ok (.getfield 9, 3) := by decide +kernel
theorem dX2_sameAs_8 : decode cX2_sameAs 8 = .ok (.if_icmp .ne 29, 3) := by decide +kernel
theorem dX2_sameAs_11 : decode cX2_sameAs 11 = .ok (.aload_n 0, 1) := by decide +kernel
theorem dX2_sameAs_12 : decode cX2_sameAs 12 = .ok (.getfield 15, 3) := by decide +kernel
theorem dX2_sameAs_15 : decode cX2_sameAs 15 = .ok (.aload_n 1, 1) := by decide +kernel
theorem dX2_sameAs_16 : decode cX2_sameAs 16 = .ok (.getfield 15, 3) := by decide +kernel
theorem dX2_sameAs_19 : decode cX2_sameAs 19 = .ok (.if_icmp .ne 18, 3) := by decide +kernel
theorem dX2_sameAs_22 : decode cX2_sameAs 22 = .ok (.aload_n 0, 1) := by decide +kernel
theorem dX2_sameAs_23 : decode cX2_sameAs 23 = .ok (.getfield 18, 3) := by decide +kernel
theorem dX2_sameAs_26 : decode cX2_sameAs 26 = .ok (.aload_n 1, 1) := by decide +kernel
theorem dX2_sameAs_27 : decode cX2_sameAs 27 = .ok (.getfield 18, 3) := by decide +kernel
theorem dX2_sameAs_30 : decode cX2_sameAs 30 = .ok (.if_icmp .ne 7, 3) := by decide +kernel
theorem dX2_sameAs_33 : decode cX2_sameAs 33 = .ok (.iconst 1, 1) := by decide +kernel
theorem dX2_sameAs_34 : decode cX2_sameAs 34 = .ok (.goto 4, 3) := by decide +kernel
theorem dX2_sameAs_37 : decode cX2_sameAs 37 = .ok (.iconst 0, 1) := by decide +kernel
theorem dX2_sameAs_38 : decode cX2_sameAs 38 = .ok (.ireturn, 1) := by decide +kernel
theorem dX2_momentAt_0 : decode cX2_momentAt 0 = .ok (.iload_n 1, 1) := by decide +kernel
theorem dX2_momentAt_1 : decode cX2_momentAt 1 = .ok (.ifCond .lt 20, 3) := by decide +kernel
theorem dX2_momentAt_4 : decode cX2_momentAt 4 = .ok (.iload_n 1, 1) := by decide +kernel
theorem dX2_momentAt_5 : decode cX2_momentAt 5 = .ok (.bipush 28, 2) := by decide +kernel
theorem dX2_momentAt_7 : decode cX2_momentAt 7 = .ok (.if_icmp .ge 14, 3) := by decide +kernel
theorem dX2_momentAt_10 : decode cX2_momentAt 10 = .ok (.iload_n 2, 1) := by decide +kernel
theorem dX2_momentAt_11 : decode cX2_momentAt 11 = .ok (.ifCond .lt 10, 3) := by decide +kernel
theorem dX2_momentAt_14 : decode cX2_momentAt 14 = .ok (.iload_n 2, 1) := by decide +kernel
theorem dX2_momentAt_15 : decode cX2_momentAt 15 = .ok (.sipush 1440, 3) := by decide +kernel
theorem dX2_momentAt_18 : decode cX2_momentAt 18 = .ok (.if_icmp .lt 5, 3) := by decide +kernel
theorem dX2_momentAt_21 : decode cX2_momentAt 21 = .ok (.iconst (-1), 1) := by decide +kernel
theorem dX2_momentAt_22 : decode cX2_momentAt 22 = .ok (.ireturn, 1) := by decide +kernel
theorem dX2_momentAt_23 : decode cX2_momentAt 23 = .ok (.iload_n 1, 1) := by decide +kernel
theorem dX2_momentAt_24 : decode cX2_momentAt 24 = .ok (.sipush 1440, 3) := by decide +kernel
theorem dX2_momentAt_27 : decode cX2_momentAt 27 = .ok (.imul, 1) := by decide +kernel
theorem dX2_momentAt_28 : decode cX2_momentAt 28 = .ok (.iload_n 2, 1) := by decide +kernel
theorem dX2_momentAt_29 : decode cX2_momentAt 29 = .ok (.iadd, 1) := by decide +kernel
theorem dX2_momentAt_30 : decode cX2_momentAt 30 = .ok (.istore 4, 2) := by decide +kernel
theorem dX2_momentAt_32 : decode cX2_momentAt 32 = .ok (.aload_n 0, 1) := by decide +kernel
theorem dX2_momentAt_33 : decode cX2_momentAt 33 = .ok (.getfield 18, 3) := by decide +kernel
theorem dX2_momentAt_36 : decode cX2_momentAt 36 = .ok (.iconst (-1), 1) := by decide +kernel
theorem dX2_momentAt_37 : decode cX2_momentAt 37 = .ok (.if_icmp .eq 51, 3) := by decide +kernel
theorem dX2_momentAt_40 : decode cX2_momentAt 40 = .ok (.iload 4, 2) := by decide +kernel
theorem dX2_momentAt_42 : decode cX2_momentAt 42 = .ok (.aload_n 0, 1) := by decide +kernel
theorem dX2_momentAt_43 : decode cX2_momentAt 43 = .ok (.getfield 21, 3) := by decide +kernel
theorem dX2_momentAt_46 : decode cX2_momentAt 46 = .ok (.if_icmp .lt 42, 3) := by decide +kernel
theorem dX2_momentAt_49 : decode cX2_momentAt 49 = .ok (.iload 4, 2) := by decide +kernel
theorem dX2_momentAt_51 : decode cX2_momentAt 51 = .ok (.aload_n 0, 1) := by decide +kernel
theorem dX2_momentAt_52 : decode cX2_momentAt 52 = .ok (.getfield 21, 3) := by decide +kernel
theorem dX2_momentAt_55 : decode cX2_momentAt 55 = .ok (.bipush 60, 2) := by decide +kernel
theorem dX2_momentAt_57 : decode cX2_momentAt 57 = .ok (.iadd, 1) := by decide +kernel
theorem dX2_momentAt_58 : decode cX2_momentAt 58 = .ok (.if_icmp .ge 30, 3) := by decide +kernel
theorem dX2_momentAt_61 : decode cX2_momentAt 61 = .ok (.aload_n 0, 1) := by decide +kernel
theorem dX2_momentAt_62 : decode cX2_momentAt 62 = .ok (.getfield 18, 3) := by decide +kernel
theorem dX2_momentAt_65 : decode cX2_momentAt 65 = .ok (.iconst 1, 1) := by decide +kernel
theorem dX2_momentAt_66 : decode cX2_momentAt 66 = .ok (.if_icmp .ne 7, 3) := by decide +kernel
theorem dX2_momentAt_69 : decode cX2_momentAt 69 = .ok (.iconst (-1), 1) := by decide +kernel
theorem dX2_momentAt_70 : decode cX2_momentAt 70 = .ok (.goto 17, 3) := by decide +kernel
theorem dX2_momentAt_73 : decode cX2_momentAt 73 = .ok (.iload_n 3, 1) := by decide +kernel
theorem dX2_momentAt_74 : decode cX2_momentAt 74 = .ok (.ifCond .eq 11, 3) := by decide +kernel
theorem dX2_momentAt_77 : decode cX2_momentAt 77 = .ok (.iload 4, 2) := by decide +kernel
theorem dX2_momentAt_79 : decode cX2_momentAt 79 = .ok (.bipush 60, 2) := by decide +kernel
theorem dX2_momentAt_81 : decode cX2_momentAt 81 = .ok (.iadd, 1) := by decide +kernel
theorem dX2_momentAt_82 : decode cX2_momentAt 82 = .ok (.goto 5, 3) := by decide +kernel
theorem dX2_momentAt_85 : decode cX2_momentAt 85 = .ok (.iload 4, 2) := by decide +kernel
theorem dX2_momentAt_87 : decode cX2_momentAt 87 = .ok (.ireturn, 1) := by decide +kernel
theorem dX2_momentAt_88 : decode cX2_momentAt 88 = .ok (.iload_n 3, 1) := by decide +kernel
theorem dX2_momentAt_89 : decode cX2_momentAt 89 = .ok (.ifCond .eq 5, 3) := by decide +kernel
theorem dX2_momentAt_92 : decode cX2_momentAt 92 = .ok (.iconst (-1), 1) := by decide +kernel
theorem dX2_momentAt_93 : decode cX2_momentAt 93 = .ok (.ireturn, 1) := by decide +kernel
theorem dX2_momentAt_94 : decode cX2_momentAt 94 = .ok (.aload_n 0, 1) := by decide +kernel
theorem dX2_momentAt_95 : decode cX2_momentAt 95 = .ok (.getfield 18, 3) := by decide +kernel
theorem dX2_momentAt_98 : decode cX2_momentAt 98 = .ok (.iconst (-1), 1) := by decide +kernel
theorem dX2_momentAt_99 : decode cX2_momentAt 99 = .ok (.if_icmp .eq 12, 3) := by decide +kernel
theorem dX2_momentAt_102 : decode cX2_momentAt 102 = .ok (.iload 4, 2) := by decide +kernel
theorem dX2_momentAt_104 : decode cX2_momentAt 104 = .ok (.aload_n 0, 1) := by decide +kernel
theorem dX2_momentAt_105 : decode cX2_momentAt 105 = .ok (.getfield 21, 3) := by decide +kernel
theorem dX2_momentAt_108 : decode cX2_momentAt 108 = .ok (.if_icmp .ge 8, 3) := by decide +kernel
theorem dX2_momentAt_111 : decode cX2_momentAt 111 = .ok (.iload 4, 2) := by decide +kernel
theorem dX2_momentAt_113 : decode cX2_momentAt 113 = .ok (.goto 10, 3) := by decide +kernel
theorem dX2_momentAt_116 : decode cX2_momentAt 116 = .ok (.iload 4, 2) := by decide +kernel
theorem dX2_momentAt_118 : decode cX2_momentAt 118 = .ok (.aload_n 0, 1) := by decide +kernel
theorem dX2_momentAt_119 : decode cX2_momentAt 119 = .ok (.getfield 24, 3) := by decide +kernel
theorem dX2_momentAt_122 : decode cX2_momentAt 122 = .ok (.iadd, 1) := by decide +kernel
theorem dX2_momentAt_123 : decode cX2_momentAt 123 = .ok (.ireturn, 1) := by decide +kernel
theorem dX2_toldAt_0 : decode cX2_toldAt 0 = .ok (.aload_n 0, 1) := by decide +kernel
theorem dX2_toldAt_1 : decode cX2_toldAt 1 = .ok (.getfield 18, 3) := by decide +kernel
theorem dX2_toldAt_4 : decode cX2_toldAt 4 = .ok (.iconst (-1), 1) := by decide +kernel
theorem dX2_toldAt_5 : decode cX2_toldAt 5 = .ok (.if_icmp .ne 5, 3) := by decide +kernel
theorem dX2_toldAt_8 : decode cX2_toldAt 8 = .ok (.iload_n 1, 1) := by decide +kernel
theorem dX2_toldAt_9 : decode cX2_toldAt 9 = .ok (.ireturn, 1) := by decide +kernel
theorem dX2_toldAt_10 : decode cX2_toldAt 10 = .ok (.aload_n 0, 1) := by decide +kernel
theorem dX2_toldAt_11 : decode cX2_toldAt 11 = .ok (.getfield 18, 3) := by decide +kernel
theorem dX2_toldAt_14 : decode cX2_toldAt 14 = .ok (.iconst 1, 1) := by decide +kernel
theorem dX2_toldAt_15 : decode cX2_toldAt 15 = .ok (.if_icmp .ne 20, 3) := by decide +kernel
theorem dX2_toldAt_18 : decode cX2_toldAt 18 = .ok (.iload_n 1, 1) := by decide +kernel
theorem dX2_toldAt_19 : decode cX2_toldAt 19 = .ok (.aload_n 0, 1) := by decide +kernel
theorem dX2_toldAt_20 : decode cX2_toldAt 20 = .ok (.getfield 21, 3) := by decide +kernel
theorem dX2_toldAt_23 : decode cX2_toldAt 23 = .ok (.if_icmp .ge 7, 3) := by decide +kernel
theorem dX2_toldAt_26 : decode cX2_toldAt 26 = .ok (.iload_n 1, 1) := by decide +kernel
theorem dX2_toldAt_27 : decode cX2_toldAt 27 = .ok (.goto 7, 3) := by decide +kernel
theorem dX2_toldAt_30 : decode cX2_toldAt 30 = .ok (.iload_n 1, 1) := by decide +kernel
theorem dX2_toldAt_31 : decode cX2_toldAt 31 = .ok (.bipush 60, 2) := by decide +kernel
theorem dX2_toldAt_33 : decode cX2_toldAt 33 = .ok (.iadd, 1) := by decide +kernel
theorem dX2_toldAt_34 : decode cX2_toldAt 34 = .ok (.ireturn, 1) := by decide +kernel
theorem dX2_toldAt_35 : decode cX2_toldAt 35 = .ok (.iload_n 1, 1) := by decide +kernel
theorem dX2_toldAt_36 : decode cX2_toldAt 36 = .ok (.aload_n 0, 1) := by decide +kernel
theorem dX2_toldAt_37 : decode cX2_toldAt 37 = .ok (.getfield 21, 3) := by decide +kernel
theorem dX2_toldAt_40 : decode cX2_toldAt 40 = .ok (.bipush 60, 2) := by decide +kernel
theorem dX2_toldAt_42 : decode cX2_toldAt 42 = .ok (.iadd, 1) := by decide +kernel
theorem dX2_toldAt_43 : decode cX2_toldAt 43 = .ok (.if_icmp .ge 7, 3) := by decide +kernel
theorem dX2_toldAt_46 : decode cX2_toldAt 46 = .ok (.iload_n 1, 1) := by decide +kernel
theorem dX2_toldAt_47 : decode cX2_toldAt 47 = .ok (.goto 7, 3) := by decide +kernel
theorem dX2_toldAt_50 : decode cX2_toldAt 50 = .ok (.iload_n 1, 1) := by decide +kernel
theorem dX2_toldAt_51 : decode cX2_toldAt 51 = .ok (.bipush 60, 2) := by decide +kernel
theorem dX2_toldAt_53 : decode cX2_toldAt 53 = .ok (.isub, 1) := by decide +kernel
theorem dX2_toldAt_54 : decode cX2_toldAt 54 = .ok (.ireturn, 1) := by decide +kernel
set_option maxRecDepth 20000 in
theorem ggX2_hourAt_X2_toldAt : GoodIn wsX2_hourAt wsX2_toldAt := goodIn_r _ [5, 6, 7, 8, 9, 10, 11, 12] (by decide +kernel) (by decide +kernel)
set_option maxRecDepth 20000 in
theorem gX2_hourAt_X2_toldAt : GoodIn wsX2_hourAt (wsV RX2 27 RX2 yX2_toldAt wsX2_toldAt) := goodIn_app (goodIn_of _ (by decide +kernel)) ggX2_hourAt_X2_toldAt
theorem dX2_hourAt_0 : decode cX2_hourAt 0 = .ok (.aload_n 0, 1) := by decide +kernel
theorem dX2_hourAt_1 : decode cX2_hourAt 1 = .ok (.iload_n 1, 1) := by decide +kernel
theorem dX2_hourAt_2 : decode cX2_hourAt 2 = .ok (.invokevirtual 27, 3) := by decide +kernel
theorem dX2_hourAt_5 : decode cX2_hourAt 5 = .ok (.sipush 1440, 3) := by decide +kernel
theorem dX2_hourAt_8 : decode cX2_hourAt 8 = .ok (.irem, 1) := by decide +kernel
theorem dX2_hourAt_9 : decode cX2_hourAt 9 = .ok (.bipush 60, 2) := by decide +kernel
theorem dX2_hourAt_11 : decode cX2_hourAt 11 = .ok (.idiv, 1) := by decide +kernel
theorem dX2_hourAt_12 : decode cX2_hourAt 12 = .ok (.ireturn, 1) := by decide +kernel
theorem dX2_isAgain_0 : decode cX2_isAgain 0 = .ok (.aload_n 0, 1) := by decide +kernel
theorem dX2_isAgain_1 : decode cX2_isAgain 1 = .ok (.getfield 18, 3) := by decide +kernel
theorem dX2_isAgain_4 : decode cX2_isAgain 4 = .ok (.ifCond .ne 29, 3) := by decide +kernel
theorem dX2_isAgain_7 : decode cX2_isAgain 7 = .ok (.iload_n 1, 1) := by decide +kernel
theorem dX2_isAgain_8 : decode cX2_isAgain 8 = .ok (.aload_n 0, 1) := by decide +kernel
theorem dX2_isAgain_9 : decode cX2_isAgain 9 = .ok (.getfield 21, 3) := by decide +kernel
theorem dX2_isAgain_12 : decode cX2_isAgain 12 = .ok (.bipush 60, 2) := by decide +kernel
theorem dX2_isAgain_14 : decode cX2_isAgain 14 = .ok (.iadd, 1) := by decide +kernel
theorem dX2_isAgain_15 : decode cX2_isAgain 15 = .ok (.if_icmp .lt 18, 3) := by decide +kernel
theorem dX2_isAgain_18 : decode cX2_isAgain 18 = .ok (.iload_n 1, 1) := by decide +kernel
theorem dX2_isAgain_19 : decode cX2_isAgain 19 = .ok (.aload_n 0, 1) := by decide +kernel
theorem dX2_isAgain_20 : decode cX2_isAgain 20 = .ok (.getfield 21, 3) := by decide +kernel
theorem dX2_isAgain_23 : decode cX2_isAgain 23 = .ok (.bipush 120, 2) := by decide +kernel
theorem dX2_isAgain_25 : decode cX2_isAgain 25 = .ok (.iadd, 1) := by decide +kernel
theorem dX2_isAgain_26 : decode cX2_isAgain 26 = .ok (.if_icmp .ge 7, 3) := by decide +kernel
theorem dX2_isAgain_29 : decode cX2_isAgain 29 = .ok (.iconst 1, 1) := by decide +kernel
theorem dX2_isAgain_30 : decode cX2_isAgain 30 = .ok (.goto 4, 3) := by decide +kernel
theorem dX2_isAgain_33 : decode cX2_isAgain 33 = .ok (.iconst 0, 1) := by decide +kernel
theorem dX2_isAgain_34 : decode cX2_isAgain 34 = .ok (.ireturn, 1) := by decide +kernel
theorem dX2_momentsAhead_0 : decode cX2_momentsAhead 0 = .ok (.iload_n 1, 1) := by decide +kernel
theorem dX2_momentsAhead_1 : decode cX2_momentsAhead 1 = .ok (.sipush 1440, 3) := by decide +kernel
theorem dX2_momentsAhead_4 : decode cX2_momentsAhead 4 = .ok (.imul, 1) := by decide +kernel
theorem dX2_momentsAhead_5 : decode cX2_momentsAhead 5 = .ok (.aload_n 0, 1) := by decide +kernel
theorem dX2_momentsAhead_6 : decode cX2_momentsAhead 6 = .ok (.getfield 9, 3) := by decide +kernel
theorem dX2_momentsAhead_9 : decode cX2_momentsAhead 9 = .ok (.iload_n 1, 1) := by decide +kernel
theorem dX2_momentsAhead_10 : decode cX2_momentsAhead 10 = .ok (.if_icmp .ge 10, 3) := by decide +kernel
theorem dX2_momentsAhead_13 : decode cX2_momentsAhead 13 = .ok (.aload_n 0, 1) := by decide +kernel
theorem dX2_momentsAhead_14 : decode cX2_momentsAhead 14 = .ok (.getfield 24, 3) := by decide +kernel
theorem dX2_momentsAhead_17 : decode cX2_momentsAhead 17 = .ok (.goto 4, 3) := by decide +kernel
theorem dX2_momentsAhead_20 : decode cX2_momentsAhead 20 = .ok (.iconst 0, 1) := by decide +kernel
theorem dX2_momentsAhead_21 : decode cX2_momentsAhead 21 = .ok (.iadd, 1) := by decide +kernel
theorem dX2_momentsAhead_22 : decode cX2_momentsAhead 22 = .ok (.ireturn, 1) := by decide +kernel
set_option maxRecDepth 20000 in
theorem ggX2_quartersAhead_X2_momentsAhead : GoodIn wsX2_quartersAhead wsX2_momentsAhead := goodIn_r _ [5, 6, 7, 8, 9, 10, 11, 12] (by decide +kernel) (by decide +kernel)
set_option maxRecDepth 20000 in
theorem gX2_quartersAhead_X2_momentsAhead : GoodIn wsX2_quartersAhead (wsV RX2 31 RX2 yX2_momentsAhead wsX2_momentsAhead) := goodIn_app (goodIn_of _ (by decide +kernel)) ggX2_quartersAhead_X2_momentsAhead
theorem dX2_quartersAhead_0 : decode cX2_quartersAhead 0 = .ok (.aload_n 0, 1) := by decide +kernel
theorem dX2_quartersAhead_1 : decode cX2_quartersAhead 1 = .ok (.iload_n 1, 1) := by decide +kernel
theorem dX2_quartersAhead_2 : decode cX2_quartersAhead 2 = .ok (.invokevirtual 31, 3) := by decide +kernel
theorem dX2_quartersAhead_5 : decode cX2_quartersAhead 5 = .ok (.bipush 15, 2) := by decide +kernel
theorem dX2_quartersAhead_7 : decode cX2_quartersAhead 7 = .ok (.idiv, 1) := by decide +kernel
theorem dX2_quartersAhead_8 : decode cX2_quartersAhead 8 = .ok (.ireturn, 1) := by decide +kernel
theorem dX3_init_0 : decode cX3_init 0 = .ok (.aload_n 0, 1) := by decide +kernel
theorem dX3_init_1 : decode cX3_init 1 = .ok (.invokespecial 1, 3) := by decide +kernel
theorem dX3_init_4 : decode cX3_init 4 = .ok (.aload_n 0, 1) := by decide +kernel
theorem dX3_init_5 : decode cX3_init 5 = .ok (.bipush 16, 2) := by decide +kernel
theorem dX3_init_7 : decode cX3_init 7 = .ok (.newarray .int, 2) := by decide +kernel
theorem dX3_init_9 : decode cX3_init 9 = .ok (.putfield 9, 3) := by decide +kernel
theorem dX3_init_12 : decode cX3_init 12 = .ok (.aload_n 0, 1) := by decide +kernel
theorem dX3_init_13 : decode cX3_init 13 = .ok (.bipush 16, 2) := by decide +kernel
theorem dX3_init_15 : decode cX3_init 15 = .ok (.newarray .int, 2) := by decide +kernel
theorem dX3_init_17 : decode cX3_init 17 = .ok (.putfield 13, 3) := by decide +kernel
theorem dX3_init_20 : decode cX3_init 20 = .ok (.aload_n 0, 1) := by decide +kernel
theorem dX3_init_21 : decode cX3_init 21 = .ok (.bipush 16, 2) := by decide +kernel
theorem dX3_init_23 : decode cX3_init 23 = .ok (.newarray .int, 2) := by decide +kernel
theorem dX3_init_25 : decode cX3_init 25 = .ok (.putfield 16, 3) := by decide +kernel
theorem dX3_init_28 : decode cX3_init 28 = .ok (.aload_n 0, 1) := by decide +kernel
theorem dX3_init_29 : decode cX3_init 29 = .ok (.bipush 16, 2) := by decide +kernel
theorem dX3_init_31 : decode cX3_init 31 = .ok (.newarray .boolean, 2) := by decide +kernel
theorem dX3_init_33 : decode cX3_init 33 = .ok (.putfield 19, 3) := by decide +kernel
theorem dX3_init_36 : decode cX3_init 36 = .ok (.return_, 1) := by decide +kernel
set_option maxRecDepth 20000 in
theorem ggX3_keep_X3_dropOldest : GoodIn wsX3_keep wsX3_dropOldest := goodIn_r _ [10, 1, 2, 3, 4, 5, 11, 12, 13, 14, 15] (by decide +kernel) (by decide +kernel)
set_option maxRecDepth 20000 in
theorem gX3_keep_X3_dropOldest : GoodIn wsX3_keep (wsV RX3 27 RX3 yX3_dropOldest wsX3_dropOldest) := goodIn_app (goodIn_of _ (by decide +kernel)) ggX3_keep_X3_dropOldest
theorem dX3_keep_0 : decode cX3_keep 0 = .ok (.aload_n 0, 1) := by decide +kernel
theorem dX3_keep_1 : decode cX3_keep 1 = .ok (.getfield 23, 3) := by decide +kernel
theorem dX3_keep_4 : decode cX3_keep 4 = .ok (.bipush 16, 2) := by decide +kernel
theorem dX3_keep_6 : decode cX3_keep 6 = .ok (.if_icmp .ne 7, 3) := by decide +kernel
theorem dX3_keep_9 : decode cX3_keep 9 = .ok (.aload_n 0, 1) := by decide +kernel
theorem dX3_keep_10 : decode cX3_keep 10 = .ok (.invokevirtual 27, 3) := by decide +kernel
theorem dX3_keep_13 : decode cX3_keep 13 = .ok (.aload_n 0, 1) := by decide +kernel
theorem dX3_keep_14 : decode cX3_keep 14 = .ok (.getfield 9, 3) := by decide +kernel
theorem dX3_keep_17 : decode cX3_keep 17 = .ok (.aload_n 0, 1) := by decide +kernel
theorem dX3_keep_18 : decode cX3_keep 18 = .ok (.getfield 23, 3) := by decide +kernel
theorem dX3_keep_21 : decode cX3_keep 21 = .ok (.iload_n 1, 1) := by decide +kernel
theorem dX3_keep_22 : decode cX3_keep 22 = .ok (.iastore, 1) := by decide +kernel
theorem dX3_keep_23 : decode cX3_keep 23 = .ok (.aload_n 0, 1) := by decide +kernel
theorem dX3_keep_24 : decode cX3_keep 24 = .ok (.getfield 13, 3) := by decide +kernel
theorem dX3_keep_27 : decode cX3_keep 27 = .ok (.aload_n 0, 1) := by decide +kernel
theorem dX3_keep_28 : decode cX3_keep 28 = .ok (.getfield 23, 3) := by decide +kernel
theorem dX3_keep_31 : decode cX3_keep 31 = .ok (.iload_n 2, 1) := by decide +kernel
theorem dX3_keep_32 : decode cX3_keep 32 = .ok (.iastore, 1) := by decide +kernel
theorem dX3_keep_33 : decode cX3_keep 33 = .ok (.aload_n 0, 1) := by decide +kernel
theorem dX3_keep_34 : decode cX3_keep 34 = .ok (.getfield 16, 3) := by decide +kernel
theorem dX3_keep_37 : decode cX3_keep 37 = .ok (.aload_n 0, 1) := by decide +kernel
theorem dX3_keep_38 : decode cX3_keep 38 = .ok (.getfield 23, 3) := by decide +kernel
theorem dX3_keep_41 : decode cX3_keep 41 = .ok (.iload_n 3, 1) := by decide +kernel
theorem dX3_keep_42 : decode cX3_keep 42 = .ok (.iastore, 1) := by decide +kernel
theorem dX3_keep_43 : decode cX3_keep 43 = .ok (.aload_n 0, 1) := by decide +kernel
theorem dX3_keep_44 : decode cX3_keep 44 = .ok (.getfield 19, 3) := by decide +kernel
theorem dX3_keep_47 : decode cX3_keep 47 = .ok (.aload_n 0, 1) := by decide +kernel
theorem dX3_keep_48 : decode cX3_keep 48 = .ok (.getfield 23, 3) := by decide +kernel
theorem dX3_keep_51 : decode cX3_keep 51 = .ok (.iload 4, 2) := by decide +kernel
theorem dX3_keep_53 : decode cX3_keep 53 = .ok (.bastore, 1) := by decide +kernel
theorem dX3_keep_54 : decode cX3_keep 54 = .ok (.aload_n 0, 1) := by decide +kernel
theorem dX3_keep_55 : decode cX3_keep 55 = .ok (.dup, 1) := by decide +kernel
theorem dX3_keep_56 : decode cX3_keep 56 = .ok (.getfield 23, 3) := by decide +kernel
theorem dX3_keep_59 : decode cX3_keep 59 = .ok (.iconst 1, 1) := by decide +kernel
theorem dX3_keep_60 : decode cX3_keep 60 = .ok (.iadd, 1) := by decide +kernel
theorem dX3_keep_61 : decode cX3_keep 61 = .ok (.putfield 23, 3) := by decide +kernel
theorem dX3_keep_64 : decode cX3_keep 64 = .ok (.return_, 1) := by decide +kernel
theorem dX3_dropOldest_0 : decode cX3_dropOldest 0 = .ok (.aload_n 0, 1) := by decide +kernel
theorem dX3_dropOldest_1 : decode cX3_dropOldest 1 = .ok (.dup, 1) := by decide +kernel
theorem dX3_dropOldest_2 : decode cX3_dropOldest 2 = .ok (.getfield 23, 3) := by decide +kernel
theorem dX3_dropOldest_5 : decode cX3_dropOldest 5 = .ok (.iconst 1, 1) := by decide +kernel
theorem dX3_dropOldest_6 : decode cX3_dropOldest 6 = .ok (.isub, 1) := by decide +kernel
theorem dX3_dropOldest_7 : decode cX3_dropOldest 7 = .ok (.putfield 23, 3) := by decide +kernel
theorem dX3_dropOldest_10 : decode cX3_dropOldest 10 = .ok (.iconst 0, 1) := by decide +kernel
theorem dX3_dropOldest_11 : decode cX3_dropOldest 11 = .ok (.istore_n 1, 1) := by decide +kernel
theorem dX3_dropOldest_12 : decode cX3_dropOldest 12 = .ok (.iload_n 1, 1) := by decide +kernel
theorem dX3_dropOldest_13 : decode cX3_dropOldest 13 = .ok (.aload_n 0, 1) := by decide +kernel
theorem dX3_dropOldest_14 : decode cX3_dropOldest 14 = .ok (.getfield 23, 3) := by decide +kernel
theorem dX3_dropOldest_17 : decode cX3_dropOldest 17 = .ok (.if_icmp .ge 65, 3) := by decide +kernel
theorem dX3_dropOldest_20 : decode cX3_dropOldest 20 = .ok (.aload_n 0, 1) := by decide +kernel
theorem dX3_dropOldest_21 : decode cX3_dropOldest 21 = .ok (.getfield 9, 3) := by decide +kernel
theorem dX3_dropOldest_24 : decode cX3_dropOldest 24 = .ok (.iload_n 1, 1) := by decide +kernel
theorem dX3_dropOldest_25 : decode cX3_dropOldest 25 = .ok (.aload_n 0, 1) := by decide +kernel
theorem dX3_dropOldest_26 : decode cX3_dropOldest 26 = .ok (.getfield 9, 3) := by decide +kernel
theorem dX3_dropOldest_29 : decode cX3_dropOldest 29 = .ok (.iload_n 1, 1) := by decide +kernel
theorem dX3_dropOldest_30 : decode cX3_dropOldest 30 = .ok (.iconst 1, 1) := by decide +kernel
theorem dX3_dropOldest_31 : decode cX3_dropOldest 31 = .ok (.iadd, 1) := by decide +kernel
theorem dX3_dropOldest_32 : decode cX3_dropOldest 32 = .ok (.iaload, 1) := by decide +kernel
theorem dX3_dropOldest_33 : decode cX3_dropOldest 33 = .ok (.iastore, 1) := by decide +kernel
theorem dX3_dropOldest_34 : decode cX3_dropOldest 34 = .ok (.aload_n 0, 1) := by decide +kernel
theorem dX3_dropOldest_35 : decode cX3_dropOldest 35 = .ok (.getfield 13, 3) := by decide +kernel
theorem dX3_dropOldest_38 : decode cX3_dropOldest 38 = .ok (.iload_n 1, 1) := by decide +kernel
theorem dX3_dropOldest_39 : decode cX3_dropOldest 39 = .ok (.aload_n 0, 1) := by decide +kernel
theorem dX3_dropOldest_40 : decode cX3_dropOldest 40 = .ok (.getfield 13, 3) := by decide +kernel
theorem dX3_dropOldest_43 : decode cX3_dropOldest 43 = .ok (.iload_n 1, 1) := by decide +kernel
theorem dX3_dropOldest_44 : decode cX3_dropOldest 44 = .ok (.iconst 1, 1) := by decide +kernel
theorem dX3_dropOldest_45 : decode cX3_dropOldest 45 = .ok (.iadd, 1) := by decide +kernel
theorem dX3_dropOldest_46 : decode cX3_dropOldest 46 = .ok (.iaload, 1) := by decide +kernel
theorem dX3_dropOldest_47 : decode cX3_dropOldest 47 = .ok (.iastore, 1) := by decide +kernel
theorem dX3_dropOldest_48 : decode cX3_dropOldest 48 = .ok (.aload_n 0, 1) := by decide +kernel
theorem dX3_dropOldest_49 : decode cX3_dropOldest 49 = .ok (.getfield 16, 3) := by decide +kernel
theorem dX3_dropOldest_52 : decode cX3_dropOldest 52 = .ok (.iload_n 1, 1) := by decide +kernel
theorem dX3_dropOldest_53 : decode cX3_dropOldest 53 = .ok (.aload_n 0, 1) := by decide +kernel
theorem dX3_dropOldest_54 : decode cX3_dropOldest 54 = .ok (.getfield 16, 3) := by decide +kernel
theorem dX3_dropOldest_57 : decode cX3_dropOldest 57 = .ok (.iload_n 1, 1) := by decide +kernel
theorem dX3_dropOldest_58 : decode cX3_dropOldest 58 = .ok (.iconst 1, 1) := by decide +kernel
theorem dX3_dropOldest_59 : decode cX3_dropOldest 59 = .ok (.iadd, 1) := by decide +kernel
theorem dX3_dropOldest_60 : decode cX3_dropOldest 60 = .ok (.iaload, 1) := by decide +kernel
theorem dX3_dropOldest_61 : decode cX3_dropOldest 61 = .ok (.iastore, 1) := by decide +kernel
theorem dX3_dropOldest_62 : decode cX3_dropOldest 62 = .ok (.aload_n 0, 1) := by decide +kernel
theorem dX3_dropOldest_63 : decode cX3_dropOldest 63 = .ok (.getfield 19, 3) := by decide +kernel
theorem dX3_dropOldest_66 : decode cX3_dropOldest 66 = .ok (.iload_n 1, 1) := by decide +kernel
theorem dX3_dropOldest_67 : decode cX3_dropOldest 67 = .ok (.aload_n 0, 1) := by decide +kernel
theorem dX3_dropOldest_68 : decode cX3_dropOldest 68 = .ok (.getfield 19, 3) := by decide +kernel
theorem dX3_dropOldest_71 : decode cX3_dropOldest 71 = .ok (.iload_n 1, 1) := by decide +kernel
theorem dX3_dropOldest_72 : decode cX3_dropOldest 72 = .ok (.iconst 1, 1) := by decide +kernel
theorem dX3_dropOldest_73 : decode cX3_dropOldest 73 = .ok (.iadd, 1) := by decide +kernel
theorem dX3_dropOldest_74 : decode cX3_dropOldest 74 = .ok (.baload, 1) := by decide +kernel
theorem dX3_dropOldest_75 : decode cX3_dropOldest 75 = .ok (.bastore, 1) := by decide +kernel
theorem dX3_dropOldest_76 : decode cX3_dropOldest 76 = .ok (.iinc 1 1, 3) := by decide +kernel
theorem dX3_dropOldest_79 : decode cX3_dropOldest 79 = .ok (.goto (-67), 3) := by decide +kernel
theorem dX3_dropOldest_82 : decode cX3_dropOldest 82 = .ok (.return_, 1) := by decide +kernel
theorem dX4_init_0 : decode cX4_init 0 = .ok (.aload_n 0, 1) := by decide +kernel
theorem dX4_init_1 : decode cX4_init 1 = .ok (.invokespecial 3, 3) := by decide +kernel
theorem dX4_init_4 : decode cX4_init 4 = .ok (.aload_n 0, 1) := by decide +kernel
theorem dX4_init_5 : decode cX4_init 5 = .ok (.bipush 60, 2) := by decide +kernel
theorem dX4_init_7 : decode cX4_init 7 = .ok (.newarray .int, 2) := by decide +kernel
theorem dX4_init_9 : decode cX4_init 9 = .ok (.putfield 9, 3) := by decide +kernel
theorem dX4_init_12 : decode cX4_init 12 = .ok (.aload_n 0, 1) := by decide +kernel
theorem dX4_init_13 : decode cX4_init 13 = .ok (.bipush 60, 2) := by decide +kernel
theorem dX4_init_15 : decode cX4_init 15 = .ok (.newarray .int, 2) := by decide +kernel
theorem dX4_init_17 : decode cX4_init 17 = .ok (.putfield 15, 3) := by decide +kernel
theorem dX4_init_20 : decode cX4_init 20 = .ok (.return_, 1) := by decide +kernel
theorem dX4_put_0 : decode cX4_put 0 = .ok (.iload_n 1, 1) := by decide +kernel
theorem dX4_put_1 : decode cX4_put 1 = .ok (.iload_n 2, 1) := by decide +kernel
theorem dX4_put_2 : decode cX4_put 2 = .ok (.if_icmp .ge 15, 3) := by decide +kernel
theorem dX4_put_5 : decode cX4_put 5 = .ok (.aload_n 0, 1) := by decide +kernel
theorem dX4_put_6 : decode cX4_put 6 = .ok (.getfield 18, 3) := by decide +kernel
theorem dX4_put_9 : decode cX4_put 9 = .ok (.aload_n 0, 1) := by decide +kernel
theorem dX4_put_10 : decode cX4_put 10 = .ok (.getfield 9, 3) := by decide +kernel
theorem dX4_put_13 : decode cX4_put 13 = .ok (.arraylength, 1) := by decide +kernel
theorem dX4_put_14 : decode cX4_put 14 = .ok (.if_icmp .lt 5, 3) := by decide +kernel
theorem dX4_put_17 : decode cX4_put 17 = .ok (.iconst 0, 1) := by decide +kernel
theorem dX4_put_18 : decode cX4_put 18 = .ok (.ireturn, 1) := by decide +kernel
theorem dX4_put_19 : decode cX4_put 19 = .ok (.aload_n 0, 1) := by decide +kernel
theorem dX4_put_20 : decode cX4_put 20 = .ok (.getfield 9, 3) := by decide +kernel
theorem dX4_put_23 : decode cX4_put 23 = .ok (.aload_n 0, 1) := by decide +kernel
theorem dX4_put_24 : decode cX4_put 24 = .ok (.getfield 18, 3) := by decide +kernel
theorem dX4_put_27 : decode cX4_put 27 = .ok (.iload_n 1, 1) := by decide +kernel
theorem dX4_put_28 : decode cX4_put 28 = .ok (.iastore, 1) := by decide +kernel
theorem dX4_put_29 : decode cX4_put 29 = .ok (.aload_n 0, 1) := by decide +kernel
theorem dX4_put_30 : decode cX4_put 30 = .ok (.getfield 15, 3) := by decide +kernel
theorem dX4_put_33 : decode cX4_put 33 = .ok (.aload_n 0, 1) := by decide +kernel
theorem dX4_put_34 : decode cX4_put 34 = .ok (.getfield 18, 3) := by decide +kernel
theorem dX4_put_37 : decode cX4_put 37 = .ok (.iload_n 2, 1) := by decide +kernel
theorem dX4_put_38 : decode cX4_put 38 = .ok (.iastore, 1) := by decide +kernel
theorem dX4_put_39 : decode cX4_put 39 = .ok (.aload_n 0, 1) := by decide +kernel
theorem dX4_put_40 : decode cX4_put 40 = .ok (.dup, 1) := by decide +kernel
theorem dX4_put_41 : decode cX4_put 41 = .ok (.getfield 18, 3) := by decide +kernel
theorem dX4_put_44 : decode cX4_put 44 = .ok (.iconst 1, 1) := by decide +kernel
theorem dX4_put_45 : decode cX4_put 45 = .ok (.iadd, 1) := by decide +kernel
theorem dX4_put_46 : decode cX4_put 46 = .ok (.putfield 18, 3) := by decide +kernel
theorem dX4_put_49 : decode cX4_put 49 = .ok (.iload_n 2, 1) := by decide +kernel
theorem dX4_put_50 : decode cX4_put 50 = .ok (.iload_n 1, 1) := by decide +kernel
theorem dX4_put_51 : decode cX4_put 51 = .ok (.isub, 1) := by decide +kernel
theorem dX4_put_52 : decode cX4_put 52 = .ok (.ireturn, 1) := by decide +kernel
set_option maxRecDepth 20000 in
theorem ggX4_sameWithin_X4_firstBehind : GoodIn wsX4_sameWithin wsX4_firstBehind := goodIn_r _ [15, 1, 7, 16, 17, 18] (by decide +kernel) (by decide +kernel)
set_option maxRecDepth 20000 in
theorem gX4_sameWithin_X4_firstBehind : GoodIn wsX4_sameWithin (wsV RX4 22 RX4 yX4_firstBehind wsX4_firstBehind) := goodIn_app (goodIn_of _ (by decide +kernel)) ggX4_sameWithin_X4_firstBehind
theorem dX4_sameWithin_0 : decode cX4_sameWithin 0 = .ok (.aload_n 0, 1) := by decide +kernel
theorem dX4_sameWithin_1 : decode cX4_sameWithin 1 = .ok (.iload_n 2, 1) := by decide +kernel
theorem dX4_sameWithin_2 : decode cX4_sameWithin 2 = .ok (.invokevirtual 22, 3) := by decide +kernel
theorem dX4_sameWithin_5 : decode cX4_sameWithin 5 = .ok (.istore 4, 2) := by decide +kernel
theorem dX4_sameWithin_7 : decode cX4_sameWithin 7 = .ok (.aload_n 1, 1) := by decide +kernel
theorem dX4_sameWithin_8 : decode cX4_sameWithin 8 = .ok (.iload_n 2, 1) := by decide +kernel
theorem dX4_sameWithin_9 : decode cX4_sameWithin 9 = .ok (.invokevirtual 22, 3) := by decide +kernel
theorem dX4_sameWithin_12 : decode cX4_sameWithin 12 = .ok (.istore 5, 2) := by decide +kernel
theorem dX4_sameWithin_14 : decode cX4_sameWithin 14 = .ok (.iconst 0, 1) := by decide +kernel
theorem dX4_sameWithin_15 : decode cX4_sameWithin 15 = .ok (.istore 6, 2) := by decide +kernel
theorem dX4_sameWithin_17 : decode cX4_sameWithin 17 = .ok (.iload 6, 2) := by decide +kernel
theorem dX4_sameWithin_19 : decode cX4_sameWithin 19 = .ok (.aload_n 0, 1) := by decide +kernel
theorem dX4_sameWithin_20 : decode cX4_sameWithin 20 = .ok (.getfield 18, 3) := by decide +kernel
theorem dX4_sameWithin_23 : decode cX4_sameWithin 23 = .ok (.if_icmp .gt 133, 3) := by decide +kernel
theorem dX4_sameWithin_26 : decode cX4_sameWithin 26 = .ok (.iload 4, 2) := by decide +kernel
theorem dX4_sameWithin_28 : decode cX4_sameWithin 28 = .ok (.aload_n 0, 1) := by decide +kernel
theorem dX4_sameWithin_29 : decode cX4_sameWithin 29 = .ok (.getfield 18, 3) := by decide +kernel
theorem dX4_sameWithin_32 : decode cX4_sameWithin 32 = .ok (.if_icmp .ge 18, 3) := by decide +kernel
theorem dX4_sameWithin_35 : decode cX4_sameWithin 35 = .ok (.aload_n 0, 1) := by decide +kernel
theorem dX4_sameWithin_36 : decode cX4_sameWithin 36 = .ok (.getfield 9, 3) := by decide +kernel
theorem dX4_sameWithin_39 : decode cX4_sameWithin 39 = .ok (.iload 4, 2) := by decide +kernel
theorem dX4_sameWithin_41 : decode cX4_sameWithin 41 = .ok (.iaload, 1) := by decide +kernel
theorem dX4_sameWithin_42 : decode cX4_sameWithin 42 = .ok (.iload_n 3, 1) := by decide +kernel
theorem dX4_sameWithin_43 : decode cX4_sameWithin 43 = .ok (.if_icmp .ge 7, 3) := by decide +kernel
theorem dX4_sameWithin_46 : decode cX4_sameWithin 46 = .ok (.iconst 1, 1) := by decide +kernel
theorem dX4_sameWithin_47 : decode cX4_sameWithin 47 = .ok (.goto 4, 3) := by decide +kernel
theorem dX4_sameWithin_50 : decode cX4_sameWithin 50 = .ok (.iconst 0, 1) := by decide +kernel
theorem dX4_sameWithin_51 : decode cX4_sameWithin 51 = .ok (.istore 7, 2) := by decide +kernel
theorem dX4_sameWithin_53 : decode cX4_sameWithin 53 = .ok (.iload 7, 2) := by decide +kernel
theorem dX4_sameWithin_55 : decode cX4_sameWithin 55 = .ok (.iload 5, 2) := by decide +kernel
theorem dX4_sameWithin_57 : decode cX4_sameWithin 57 = .ok (.aload_n 1, 1) := by decide +kernel
theorem dX4_sameWithin_58 : decode cX4_sameWithin 58 = .ok (.getfield 18, 3) := by decide +kernel
theorem dX4_sameWithin_61 : decode cX4_sameWithin 61 = .ok (.if_icmp .ge 18, 3) := by decide +kernel
theorem dX4_sameWithin_64 : decode cX4_sameWithin 64 = .ok (.aload_n 1, 1) := by decide +kernel
theorem dX4_sameWithin_65 : decode cX4_sameWithin 65 = .ok (.getfield 9, 3) := by decide +kernel
theorem dX4_sameWithin_68 : decode cX4_sameWithin 68 = .ok (.iload 5, 2) := by decide +kernel
theorem dX4_sameWithin_70 : decode cX4_sameWithin 70 = .ok (.iaload, 1) := by decide +kernel
theorem dX4_sameWithin_71 : decode cX4_sameWithin 71 = .ok (.iload_n 3, 1) := by decide +kernel
theorem dX4_sameWithin_72 : decode cX4_sameWithin 72 = .ok (.if_icmp .ge 7, 3) := by decide +kernel
theorem dX4_sameWithin_75 : decode cX4_sameWithin 75 = .ok (.iconst 1, 1) := by decide +kernel
theorem dX4_sameWithin_76 : decode cX4_sameWithin 76 = .ok (.goto 4, 3) := by decide +kernel
theorem dX4_sameWithin_79 : decode cX4_sameWithin 79 = .ok (.iconst 0, 1) := by decide +kernel
theorem dX4_sameWithin_80 : decode cX4_sameWithin 80 = .ok (.if_icmp .eq 5, 3) := by decide +kernel
theorem dX4_sameWithin_83 : decode cX4_sameWithin 83 = .ok (.iconst 0, 1) := by decide +kernel
theorem dX4_sameWithin_84 : decode cX4_sameWithin 84 = .ok (.ireturn, 1) := by decide +kernel
theorem dX4_sameWithin_85 : decode cX4_sameWithin 85 = .ok (.iload 7, 2) := by decide +kernel
theorem dX4_sameWithin_87 : decode cX4_sameWithin 87 = .ok (.ifCond .ne 5, 3) := by decide +kernel
theorem dX4_sameWithin_90 : decode cX4_sameWithin 90 = .ok (.iconst 1, 1) := by decide +kernel
theorem dX4_sameWithin_91 : decode cX4_sameWithin 91 = .ok (.ireturn, 1) := by decide +kernel
theorem dX4_sameWithin_92 : decode cX4_sameWithin 92 = .ok (.aload_n 0, 1) := by decide +kernel
theorem dX4_sameWithin_93 : decode cX4_sameWithin 93 = .ok (.getfield 9, 3) := by decide +kernel
theorem dX4_sameWithin_96 : decode cX4_sameWithin 96 = .ok (.iload 4, 2) := by decide +kernel
theorem dX4_sameWithin_98 : decode cX4_sameWithin 98 = .ok (.iaload, 1) := by decide +kernel
theorem dX4_sameWithin_99 : decode cX4_sameWithin 99 = .ok (.iload_n 2, 1) := by decide +kernel
theorem dX4_sameWithin_100 : decode cX4_sameWithin 100 = .ok (.invokestatic 26, 3) := by decide +kernel
theorem dX4_sameWithin_103 : decode cX4_sameWithin 103 = .ok (.aload_n 1, 1) := by decide +kernel
theorem dX4_sameWithin_104 : decode cX4_sameWithin 104 = .ok (.getfield 9, 3) := by decide +kernel
theorem dX4_sameWithin_107 : decode cX4_sameWithin 107 = .ok (.iload 5, 2) := by decide +kernel
theorem dX4_sameWithin_109 : decode cX4_sameWithin 109 = .ok (.iaload, 1) := by decide +kernel
theorem dX4_sameWithin_110 : decode cX4_sameWithin 110 = .ok (.iload_n 2, 1) := by decide +kernel
theorem dX4_sameWithin_111 : decode cX4_sameWithin 111 = .ok (.invokestatic 26, 3) := by decide +kernel
theorem dX4_sameWithin_114 : decode cX4_sameWithin 114 = .ok (.if_icmp .ne 28, 3) := by decide +kernel
theorem dX4_sameWithin_117 : decode cX4_sameWithin 117 = .ok (.aload_n 0, 1) := by decide +kernel
theorem dX4_sameWithin_118 : decode cX4_sameWithin 118 = .ok (.getfield 15, 3) := by decide +kernel
theorem dX4_sameWithin_121 : decode cX4_sameWithin 121 = .ok (.iload 4, 2) := by decide +kernel
theorem dX4_sameWithin_123 : decode cX4_sameWithin 123 = .ok (.iaload, 1) := by decide +kernel
theorem dX4_sameWithin_124 : decode cX4_sameWithin 124 = .ok (.iload_n 3, 1) := by decide +kernel
theorem dX4_sameWithin_125 : decode cX4_sameWithin 125 = .ok (.invokestatic 32, 3) := by decide +kernel
theorem dX4_sameWithin_128 : decode cX4_sameWithin 128 = .ok (.aload_n 1, 1) := by decide +kernel
theorem dX4_sameWithin_129 : decode cX4_sameWithin 129 = .ok (.getfield 15, 3) := by decide +kernel
theorem dX4_sameWithin_132 : decode cX4_sameWithin 132 = .ok (.iload 5, 2) := by decide +kernel
theorem dX4_sameWithin_134 : decode cX4_sameWithin 134 = .ok (.iaload, 1) := by decide +kernel
theorem dX4_sameWithin_135 : decode cX4_sameWithin 135 = .ok (.iload_n 3, 1) := by decide +kernel
theorem dX4_sameWithin_136 : decode cX4_sameWithin 136 = .ok (.invokestatic 32, 3) := by decide +kernel
theorem dX4_sameWithin_139 : decode cX4_sameWithin 139 = .ok (.if_icmp .eq 5, 3) := by decide +kernel
theorem dX4_sameWithin_142 : decode cX4_sameWithin 142 = .ok (.iconst 0, 1) := by decide +kernel
theorem dX4_sameWithin_143 : decode cX4_sameWithin 143 = .ok (.ireturn, 1) := by decide +kernel
theorem dX4_sameWithin_144 : decode cX4_sameWithin 144 = .ok (.iinc 4 1, 3) := by decide +kernel
theorem dX4_sameWithin_147 : decode cX4_sameWithin 147 = .ok (.iinc 5 1, 3) := by decide +kernel
theorem dX4_sameWithin_150 : decode cX4_sameWithin 150 = .ok (.iinc 6 1, 3) := by decide +kernel
theorem dX4_sameWithin_153 : decode cX4_sameWithin 153 = .ok (.goto (-136), 3) := by decide +kernel
theorem dX4_sameWithin_156 : decode cX4_sameWithin 156 = .ok (.iconst 1, 1) := by decide +kernel
theorem dX4_sameWithin_157 : decode cX4_sameWithin 157 = .ok (.ireturn, 1) := by decide +kernel
theorem dX4_firstBehind_0 : decode cX4_firstBehind 0 = .ok (.iconst 0, 1) := by decide +kernel
theorem dX4_firstBehind_1 : decode cX4_firstBehind 1 = .ok (.istore_n 2, 1) := by decide +kernel
theorem dX4_firstBehind_2 : decode cX4_firstBehind 2 = .ok (.iload_n 2, 1) := by decide +kernel
theorem dX4_firstBehind_3 : decode cX4_firstBehind 3 = .ok (.aload_n 0, 1) := by decide +kernel
theorem dX4_firstBehind_4 : decode cX4_firstBehind 4 = .ok (.getfield 18, 3) := by decide +kernel
theorem dX4_firstBehind_7 : decode cX4_firstBehind 7 = .ok (.if_icmp .ge 19, 3) := by decide +kernel
theorem dX4_firstBehind_10 : decode cX4_firstBehind 10 = .ok (.aload_n 0, 1) := by decide +kernel
theorem dX4_firstBehind_11 : decode cX4_firstBehind 11 = .ok (.getfield 15, 3) := by decide +kernel
theorem dX4_firstBehind_14 : decode cX4_firstBehind 14 = .ok (.iload_n 2, 1) := by decide +kernel
theorem dX4_firstBehind_15 : decode cX4_firstBehind 15 = .ok (.iaload, 1) := by decide +kernel
theorem dX4_firstBehind_16 : decode cX4_firstBehind 16 = .ok (.iload_n 1, 1) := by decide +kernel
theorem dX4_firstBehind_17 : decode cX4_firstBehind 17 = .ok (.if_icmp .gt 9, 3) := by decide +kernel
theorem dX4_firstBehind_20 : decode cX4_firstBehind 20 = .ok (.iinc 2 1, 3) := by decide +kernel
theorem dX4_firstBehind_23 : decode cX4_firstBehind 23 = .ok (.goto (-21), 3) := by decide +kernel
theorem dX4_firstBehind_26 : decode cX4_firstBehind 26 = .ok (.iload_n 2, 1) := by decide +kernel
theorem dX4_firstBehind_27 : decode cX4_firstBehind 27 = .ok (.ireturn, 1) := by decide +kernel
theorem dX5_init_0 : decode cX5_init 0 = .ok (.aload_n 0, 1) := by decide +kernel
theorem dX5_init_1 : decode cX5_init 1 = .ok (.invokespecial 1, 3) := by decide +kernel
theorem dX5_init_4 : decode cX5_init 4 = .ok (.return_, 1) := by decide +kernel
theorem dX5_isAtNight_0 : decode cX5_isAtNight 0 = .ok (.iload_n 1, 1) := by decide +kernel
theorem dX5_isAtNight_1 : decode cX5_isAtNight 1 = .ok (.aload_n 0, 1) := by decide +kernel
theorem dX5_isAtNight_2 : decode cX5_isAtNight 2 = .ok (.getfield 7, 3) := by decide +kernel
theorem dX5_isAtNight_5 : decode cX5_isAtNight 5 = .ok (.if_icmp .lt 7, 3) := by decide +kernel
theorem dX5_isAtNight_8 : decode cX5_isAtNight 8 = .ok (.iconst 1, 1) := by decide +kernel
theorem dX5_isAtNight_9 : decode cX5_isAtNight 9 = .ok (.goto 4, 3) := by decide +kernel
theorem dX5_isAtNight_12 : decode cX5_isAtNight 12 = .ok (.iconst 0, 1) := by decide +kernel
theorem dX5_isAtNight_13 : decode cX5_isAtNight 13 = .ok (.istore_n 2, 1) := by decide +kernel
theorem dX5_isAtNight_14 : decode cX5_isAtNight 14 = .ok (.iload_n 1, 1) := by decide +kernel
theorem dX5_isAtNight_15 : decode cX5_isAtNight 15 = .ok (.aload_n 0, 1) := by decide +kernel
theorem dX5_isAtNight_16 : decode cX5_isAtNight 16 = .ok (.getfield 13, 3) := by decide +kernel
theorem dX5_isAtNight_19 : decode cX5_isAtNight 19 = .ok (.if_icmp .ge 7, 3) := by decide +kernel
theorem dX5_isAtNight_22 : decode cX5_isAtNight 22 = .ok (.iconst 1, 1) := by decide +kernel
theorem dX5_isAtNight_23 : decode cX5_isAtNight 23 = .ok (.goto 4, 3) := by decide +kernel
theorem dX5_isAtNight_26 : decode cX5_isAtNight 26 = .ok (.iconst 0, 1) := by decide +kernel
theorem dX5_isAtNight_27 : decode cX5_isAtNight 27 = .ok (.istore_n 3, 1) := by decide +kernel
theorem dX5_isAtNight_28 : decode cX5_isAtNight 28 = .ok (.aload_n 0, 1) := by decide +kernel
theorem dX5_isAtNight_29 : decode cX5_isAtNight 29 = .ok (.getfield 7, 3) := by decide +kernel
theorem dX5_isAtNight_32 : decode cX5_isAtNight 32 = .ok (.aload_n 0, 1) := by decide +kernel
theorem dX5_isAtNight_33 : decode cX5_isAtNight 33 = .ok (.getfield 13, 3) := by decide +kernel
theorem dX5_isAtNight_36 : decode cX5_isAtNight 36 = .ok (.if_icmp .le 19, 3) := by decide +kernel
theorem dX5_isAtNight_39 : decode cX5_isAtNight 39 = .ok (.iload_n 2, 1) := by decide +kernel
theorem dX5_isAtNight_40 : decode cX5_isAtNight 40 = .ok (.ifCond .ne 7, 3) := by decide +kernel
theorem dX5_isAtNight_43 : decode cX5_isAtNight 43 = .ok (.iload_n 3, 1) := by decide +kernel
theorem dX5_isAtNight_44 : decode cX5_isAtNight 44 = .ok (.ifCond .eq 7, 3) := by decide +kernel
theorem dX5_isAtNight_47 : decode cX5_isAtNight 47 = .ok (.iconst 1, 1) := by decide +kernel
theorem dX5_isAtNight_48 : decode cX5_isAtNight 48 = .ok (.goto 20, 3) := by decide +kernel
theorem dX5_isAtNight_51 : decode cX5_isAtNight 51 = .ok (.iconst 0, 1) := by decide +kernel
theorem dX5_isAtNight_52 : decode cX5_isAtNight 52 = .ok (.goto 16, 3) := by decide +kernel
theorem dX5_isAtNight_55 : decode cX5_isAtNight 55 = .ok (.iload_n 2, 1) := by decide +kernel
theorem dX5_isAtNight_56 : decode cX5_isAtNight 56 = .ok (.ifCond .eq 11, 3) := by decide +kernel
theorem dX5_isAtNight_59 : decode cX5_isAtNight 59 = .ok (.iload_n 3, 1) := by decide +kernel
theorem dX5_isAtNight_60 : decode cX5_isAtNight 60 = .ok (.ifCond .eq 7, 3) := by decide +kernel
theorem dX5_isAtNight_63 : decode cX5_isAtNight 63 = .ok (.iconst 1, 1) := by decide +kernel
theorem dX5_isAtNight_64 : decode cX5_isAtNight 64 = .ok (.goto 4, 3) := by decide +kernel
theorem dX5_isAtNight_67 : decode cX5_isAtNight 67 = .ok (.iconst 0, 1) := by decide +kernel
theorem dX5_isAtNight_68 : decode cX5_isAtNight 68 = .ok (.ireturn, 1) := by decide +kernel
theorem dX6_init_0 : decode cX6_init 0 = .ok (.aload_n 0, 1) := by decide +kernel
theorem dX6_init_1 : decode cX6_init 1 = .ok (.invokespecial 3, 3) := by decide +kernel
theorem dX6_init_4 : decode cX6_init 4 = .ok (.return_, 1) := by decide +kernel
set_option maxRecDepth 20000 in
theorem ggX6_read_X7_clear : GoodIn wsX6_read wsX7_clear := goodIn_r _ [8, 9, 10, 11, 12, 13, 14, 15, 16, 17, 18, 19, 20, 21, 22, 23, 24, 25, 26, 180, 181, 182, 183, 184, 185, 186, 187, 188, 189, 190, 191, 192, 193, 194] (by decide +kernel) (by decide +kernel)
set_option maxRecDepth 20000 in
theorem gX6_read_X7_clear : GoodIn wsX6_read (wsV RX6 18 RX7 yX7_clear wsX7_clear) := goodIn_app (goodIn_of _ (by decide +kernel)) ggX6_read_X7_clear
set_option maxRecDepth 20000 in
theorem ggX6_read_X9_open : GoodIn wsX6_read wsX9_open := goodIn_r _ [31, 32, 33, 34, 35, 36, 37, 38, 39, 40, 41, 30, 42, 43, 44, 45, 46, 47, 48, 49, 50, 51, 174, 175, 176, 177, 178, 179] (by decide +kernel) (by decide +kernel)
set_option maxRecDepth 20000 in
theorem gX6_read_X9_open : GoodIn wsX6_read (wsV RX6 23 RX9 yX9_open wsX9_open) := goodIn_app (goodIn_of _ (by decide +kernel)) ggX6_read_X9_open
set_option maxRecDepth 20000 in
theorem ggX6_read_X6_readLine : GoodIn wsX6_read wsX6_readLine := goodIn_r _ [56, 57, 58, 59, 60, 61, 62, 3, 63, 64, 65, 30, 66, 45, 38, 43, 44, 67, 68, 69, 70, 71, 72, 73, 74, 75, 76, 77, 78, 79, 80, 81, 82, 83, 84, 85, 86, 87, 88, 89, 90, 91, 92, 93, 94, 95, 96, 97, 98, 99, 100, 101, 102, 103, 104, 105, 106, 107, 108, 109, 110, 111, 112, 113, 114, 115, 116, 117, 118, 55, 119, 120, 121, 122, 123, 124, 2, 125, 126, 127, 128, 1, 129, 130, 131, 132, 133, 40, 41, 42, 37, 33, 34, 35, 36, 46, 47, 48, 49, 50, 51, 134, 135, 136, 137, 138, 139, 140, 141, 142, 18, 19, 20, 21, 22, 23, 24, 25, 26, 143, 144, 145, 146, 147, 148, 149, 150, 151, 7, 152, 11, 153, 154, 155, 156, 157, 158, 159, 160, 161, 162, 163, 164, 165, 166, 167, 168, 169, 170, 171, 180, 181, 182, 183, 184, 185, 186, 187, 188, 189, 174, 175, 176, 177, 178, 179, 172, 173, 190, 191, 192, 193, 194, 195, 196, 197, 198, 199] (by decide +kernel) (by decide +kernel)
set_option maxRecDepth 20000 in
theorem gX6_read_X6_readLine : GoodIn wsX6_read (wsV RX6 32 RX6 yX6_readLine wsX6_readLine) := goodIn_app (goodIn_of _ (by decide +kernel)) ggX6_read_X6_readLine
theorem dX6_read_0 : decode cX6_read 0 = .ok (.aload_n 0, 1) := by decide +kernel
theorem dX6_read_1 : decode cX6_read 1 = .ok (.iconst (-1), 1) := by decide +kernel
theorem dX6_read_2 : decode cX6_read 2 = .ok (.putfield 9, 3) := by decide +kernel
theorem dX6_read_5 : decode cX6_read 5 = .ok (.aload_n 0, 1) := by decide +kernel
theorem dX6_read_6 : decode cX6_read 6 = .ok (.iconst 0, 1) := by decide +kernel
theorem dX6_read_7 : decode cX6_read 7 = .ok (.putfield 15, 3) := by decide +kernel
theorem dX6_read_10 : decode cX6_read 10 = .ok (.aload_n 3, 1) := by decide +kernel
theorem dX6_read_11 : decode cX6_read 11 = .ok (.invokevirtual 18, 3) := by decide +kernel
theorem dX6_read_14 : decode cX6_read 14 = .ok (.aload_n 1, 1) := by decide +kernel
theorem dX6_read_15 : decode cX6_read 15 = .ok (.iload_n 2, 1) := by decide +kernel
theorem dX6_read_16 : decode cX6_read 16 = .ok (.invokevirtual 23, 3) := by decide +kernel
theorem dX6_read_19 : decode cX6_read 19 = .ok (.iconst 0, 1) := by decide +kernel
theorem dX6_read_20 : decode cX6_read 20 = .ok (.istore 4, 2) := by decide +kernel
theorem dX6_read_22 : decode cX6_read 22 = .ok (.iload 4, 2) := by decide +kernel
theorem dX6_read_24 : decode cX6_read 24 = .ok (.iload_n 2, 1) := by decide +kernel
theorem dX6_read_25 : decode cX6_read 25 = .ok (.if_icmp .ge 30, 3) := by decide +kernel
theorem dX6_read_28 : decode cX6_read 28 = .ok (.aload_n 0, 1) := by decide +kernel
theorem dX6_read_29 : decode cX6_read 29 = .ok (.getfield 9, 3) := by decide +kernel
theorem dX6_read_32 : decode cX6_read 32 = .ok (.iconst (-1), 1) := by decide +kernel
theorem dX6_read_33 : decode cX6_read 33 = .ok (.if_icmp .ne 22, 3) := by decide +kernel
theorem dX6_read_36 : decode cX6_read 36 = .ok (.aload_n 1, 1) := by decide +kernel
theorem dX6_read_37 : decode cX6_read 37 = .ok (.getfield 29, 3) := by decide +kernel
theorem dX6_read_40 : decode cX6_read 40 = .ok (.ifCond .eq 15, 3) := by decide +kernel
theorem dX6_read_43 : decode cX6_read 43 = .ok (.aload_n 0, 1) := by decide +kernel
theorem dX6_read_44 : decode cX6_read 44 = .ok (.aload_n 1, 1) := by decide +kernel
theorem dX6_read_45 : decode cX6_read 45 = .ok (.aload_n 3, 1) := by decide +kernel
theorem dX6_read_46 : decode cX6_read 46 = .ok (.invokevirtual 32, 3) := by decide +kernel
theorem dX6_read_49 : decode cX6_read 49 = .ok (.iinc 4 1, 3) := by decide +kernel
theorem dX6_read_52 : decode cX6_read 52 = .ok (.goto (-30), 3) := by decide +kernel
theorem dX6_read_55 : decode cX6_read 55 = .ok (.aload_n 0, 1) := by decide +kernel
theorem dX6_read_56 : decode cX6_read 56 = .ok (.getfield 9, 3) := by decide +kernel
theorem dX6_read_59 : decode cX6_read 59 = .ok (.ireturn, 1) := by decide +kernel
set_option maxRecDepth 20000 in
theorem ggX6_readLine_X9_tells : GoodIn wsX6_readLine wsX9_tells := goodIn_r _ [12, 13, 14, 15, 16, 17, 18, 19, 20, 21, 22, 23, 24, 25, 26, 27, 28, 29, 30, 31, 32, 33, 34, 35, 36, 37, 38, 39, 40, 41, 42, 43, 44, 45, 46, 47, 48, 49, 50, 51, 52, 53, 54, 55, 56, 57, 58, 59, 60, 61, 62, 63, 64, 65, 160, 161, 162, 163, 164, 165] (by decide +kernel) (by decide +kernel)
set_option maxRecDepth 20000 in
theorem gX6_readLine_X9_tells : GoodIn wsX6_readLine (wsV RX6 38 RX9 yX9_tells wsX9_tells) := goodIn_app (goodIn_of _ (by decide +kernel)) ggX6_readLine_X9_tells
set_option maxRecDepth 20000 in
theorem ggX6_readLine_X6_readClock : GoodIn wsX6_readLine wsX6_readClock := goodIn_r _ [70, 71, 72, 73, 74, 69, 75, 76, 6, 77, 78, 79, 80, 81, 82, 83, 84, 85, 86, 87, 88, 11, 89, 14, 15, 90, 16, 91, 92, 93, 94, 13, 95, 96, 97, 98, 99, 100, 101, 102, 103, 104, 7, 105, 106, 107, 108, 8, 9, 10, 12, 17, 18, 19, 20, 21, 22, 23, 24, 25, 26, 27, 28, 29, 30, 31, 32, 33, 34, 35, 36, 37, 38, 39, 40, 41, 42, 43, 44, 45, 46, 47, 48, 49, 50, 51, 52, 53, 54, 55, 56, 57, 58, 59, 60, 61, 62, 63, 64, 65, 109, 110, 111, 112, 113, 114, 115, 116, 117, 118, 150, 151, 152, 153, 154, 155, 156, 157, 158, 159, 166, 167, 160, 161, 162, 163, 164, 165, 168, 169, 170, 171, 172] (by decide +kernel) (by decide +kernel)
set_option maxRecDepth 20000 in
theorem gX6_readLine_X6_readClock : GoodIn wsX6_readLine (wsV RX6 42 RX6 yX6_readClock wsX6_readClock) := goodIn_app (goodIn_of _ (by decide +kernel)) ggX6_readLine_X6_readClock
set_option maxRecDepth 20000 in
theorem ggX6_readLine_X6_readHoliday : GoodIn wsX6_readLine wsX6_readHoliday := goodIn_r _ [122, 123, 6, 124, 77, 78, 79, 69, 80, 81, 86, 87, 88, 11, 89, 14, 15, 90, 16, 91, 92, 93, 94, 13, 95, 96, 97, 98, 99, 100, 101, 102, 103, 104, 7, 105, 106, 107, 108, 125, 126, 127, 128, 129, 130, 131, 150, 151, 152, 153, 154, 155, 156, 157, 158, 159, 160, 161, 162, 163, 164, 165, 166, 167] (by decide +kernel) (by decide +kernel)
set_option maxRecDepth 20000 in
theorem gX6_readLine_X6_readHoliday : GoodIn wsX6_readLine (wsV RX6 47 RX6 yX6_readHoliday wsX6_readHoliday) := goodIn_app (goodIn_of _ (by decide +kernel)) ggX6_readLine_X6_readHoliday
set_option maxRecDepth 20000 in
theorem ggX6_readLine_X6_passOnce : GoodIn wsX6_readLine wsX6_passOnce := goodIn_r _ [75, 76, 6, 77, 78, 79, 69, 80, 81, 82, 83, 84, 85, 86, 87, 88, 11, 89, 14, 15, 90, 16, 91, 92, 93, 94, 13, 95, 96, 97, 98, 99, 100, 166, 167, 160, 161, 162, 163, 164, 165] (by decide +kernel) (by decide +kernel)
set_option maxRecDepth 20000 in
theorem gX6_readLine_X6_passOnce : GoodIn wsX6_readLine (wsV RX6 52 RX6 yX6_passOnce wsX6_passOnce) := goodIn_app (goodIn_of _ (by decide +kernel)) ggX6_readLine_X6_passOnce
set_option maxRecDepth 20000 in
theorem ggX6_readLine_X6_readNumber : GoodIn wsX6_readLine wsX6_readNumber := goodIn_r _ [104, 7, 6, 81, 77, 78, 79, 69, 80, 105, 106, 107, 11, 108, 14, 15, 16, 86, 87, 88, 89, 90, 91, 92, 93, 94, 13, 95, 96, 97, 98, 99, 100, 160, 161, 162, 163, 164, 165, 166, 167] (by decide +kernel) (by decide +kernel)
set_option maxRecDepth 20000 in
theorem gX6_readLine_X6_readNumber : GoodIn wsX6_readLine (wsV RX6 56 RX6 yX6_readNumber wsX6_readNumber) := goodIn_app (goodIn_of _ (by decide +kernel)) ggX6_readLine_X6_readNumber
set_option maxRecDepth 20000 in
theorem ggX6_readLine_X6_readPremium : GoodIn wsX6_readLine wsX6_readPremium := goodIn_r _ [135, 136, 6, 137, 138, 139, 77, 78, 79, 69, 80, 81, 86, 87, 88, 11, 89, 14, 15, 90, 16, 91, 92, 93, 94, 13, 95, 96, 97, 98, 99, 100, 140, 141, 142, 143, 144, 145, 146, 147, 148, 149, 8, 9, 10, 12, 17, 18, 19, 20, 21, 22, 23, 24, 25, 26, 27, 28, 29, 30, 31, 32, 33, 34, 35, 36, 37, 38, 39, 40, 41, 42, 43, 44, 45, 46, 47, 48, 49, 50, 51, 52, 53, 54, 55, 56, 57, 58, 59, 60, 61, 62, 63, 64, 65, 82, 83, 84, 85, 101, 102, 103, 104, 7, 105, 106, 107, 108, 150, 151, 152, 153, 154, 155, 156, 157, 158, 159, 160, 161, 162, 163, 164, 165, 173, 174, 175, 176, 177, 166, 167] (by decide +kernel) (by decide +kernel)
set_option maxRecDepth 20000 in
theorem gX6_readLine_X6_readPremium : GoodIn wsX6_readLine (wsV RX6 80 RX6 yX6_readPremium wsX6_readPremium) := goodIn_app (goodIn_of _ (by decide +kernel)) ggX6_readLine_X6_readPremium
set_option maxRecDepth 20000 in
theorem ggX6_readLine_X6_refuse : GoodIn wsX6_readLine wsX6_refuse := goodIn_r _ [80, 81, 166, 167] (by decide +kernel) (by decide +kernel)
set_option maxRecDepth 20000 in
theorem gX6_readLine_X6_refuse : GoodIn wsX6_readLine (wsV RX6 86 RX6 yX6_refuse wsX6_refuse) := goodIn_app (goodIn_of _ (by decide +kernel)) ggX6_readLine_X6_refuse
set_option maxRecDepth 20000 in
theorem ggX6_readLine_X6_passIf : GoodIn wsX6_readLine wsX6_passIf := goodIn_r _ [85, 6, 81, 77, 78, 79, 69, 80, 86, 87, 88, 11, 89, 14, 15, 90, 16, 91, 92, 93, 94, 13, 95, 96, 97, 98, 99, 100, 160, 161, 162, 163, 164, 165, 166, 167] (by decide +kernel) (by decide +kernel)
set_option maxRecDepth 20000 in
theorem gX6_readLine_X6_passIf : GoodIn wsX6_readLine (wsV RX6 90 RX6 yX6_passIf wsX6_passIf) := goodIn_app (goodIn_of _ (by decide +kernel)) ggX6_readLine_X6_passIf
theorem dX6_readLine_0 : decode cX6_readLine 0 = .ok (.aload_n 1, 1) := by decide +kernel
theorem dX6_readLine_1 : decode cX6_readLine 1 = .ok (.ldc 36, 2) := by decide +kernel
theorem dX6_readLine_3 : decode cX6_readLine 3 = .ok (.invokevirtual 38, 3) := by decide +kernel
theorem dX6_readLine_6 : decode cX6_readLine 6 = .ok (.ifCond .eq 12, 3) := by decide +kernel
theorem dX6_readLine_9 : decode cX6_readLine 9 = .ok (.aload_n 0, 1) := by decide +kernel
theorem dX6_readLine_10 : decode cX6_readLine 10 = .ok (.aload_n 1, 1) := by decide +kernel
theorem dX6_readLine_11 : decode cX6_readLine 11 = .ok (.aload_n 2, 1) := by decide +kernel
theorem dX6_readLine_12 : decode cX6_readLine 12 = .ok (.invokevirtual 42, 3) := by decide +kernel
theorem dX6_readLine_15 : decode cX6_readLine 15 = .ok (.goto 183, 3) := by decide +kernel
theorem dX6_readLine_18 : decode cX6_readLine 18 = .ok (.aload_n 1, 1) := by decide +kernel
theorem dX6_readLine_19 : decode cX6_readLine 19 = .ok (.ldc 45, 2) := by decide +kernel
theorem dX6_readLine_21 : decode cX6_readLine 21 = .ok (.invokevirtual 38, 3) := by decide +kernel
theorem dX6_readLine_24 : decode cX6_readLine 24 = .ok (.ifCond .eq 12, 3) := by decide +kernel
theorem dX6_readLine_27 : decode cX6_readLine 27 = .ok (.aload_n 0, 1) := by decide +kernel
theorem dX6_readLine_28 : decode cX6_readLine 28 = .ok (.aload_n 1, 1) := by decide +kernel
theorem dX6_readLine_29 : decode cX6_readLine 29 = .ok (.aload_n 2, 1) := by decide +kernel
theorem dX6_readLine_30 : decode cX6_readLine 30 = .ok (.invokevirtual 47, 3) := by decide +kernel
theorem dX6_readLine_33 : decode cX6_readLine 33 = .ok (.goto 165, 3) := by decide +kernel
theorem dX6_readLine_36 : decode cX6_readLine 36 = .ok (.aload_n 1, 1) := by decide +kernel
theorem dX6_readLine_37 : decode cX6_readLine 37 = .ok (.ldc 50, 2) := by decide +kernel
theorem dX6_readLine_39 : decode cX6_readLine 39 = .ok (.invokevirtual 38, 3) := by decide +kernel
theorem dX6_readLine_42 : decode cX6_readLine 42 = .ok (.ifCond .eq 24, 3) := by decide +kernel
theorem dX6_readLine_45 : decode cX6_readLine 45 = .ok (.aload_n 0, 1) := by decide +kernel
theorem dX6_readLine_46 : decode cX6_readLine 46 = .ok (.aload_n 1, 1) := by decide +kernel
theorem dX6_readLine_47 : decode cX6_readLine 47 = .ok (.iconst 2, 1) := by decide +kernel
theorem dX6_readLine_48 : decode cX6_readLine 48 = .ok (.invokevirtual 52, 3) := by decide +kernel
theorem dX6_readLine_51 : decode cX6_readLine 51 = .ok (.aload_n 2, 1) := by decide +kernel
theorem dX6_readLine_52 : decode cX6_readLine 52 = .ok (.aload_n 0, 1) := by decide +kernel
theorem dX6_readLine_53 : decode cX6_readLine 53 = .ok (.aload_n 1, 1) := by decide +kernel
theorem dX6_readLine_54 : decode cX6_readLine 54 = .ok (.iconst 0, 1) := by decide +kernel
theorem dX6_readLine_55 : decode cX6_readLine 55 = .ok (.bipush 14, 2) := by decide +kernel
theorem dX6_readLine_57 : decode cX6_readLine 57 = .ok (.invokevirtual 56, 3) := by decide +kernel
theorem dX6_readLine_60 : decode cX6_readLine 60 = .ok (.putfield 60, 3) := by decide +kernel
theorem dX6_readLine_63 : decode cX6_readLine 63 = .ok (.goto 135, 3) := by decide +kernel
theorem dX6_readLine_66 : decode cX6_readLine 66 = .ok (.aload_n 1, 1) := by decide +kernel
theorem dX6_readLine_67 : decode cX6_readLine 67 = .ok (.ldc 62, 2) := by decide +kernel
theorem dX6_readLine_69 : decode cX6_readLine 69 = .ok (.invokevirtual 38, 3) := by decide +kernel
theorem dX6_readLine_72 : decode cX6_readLine 72 = .ok (.ifCond .eq 36, 3) := by decide +kernel
theorem dX6_readLine_75 : decode cX6_readLine 75 = .ok (.aload_n 0, 1) := by decide +kernel
theorem dX6_readLine_76 : decode cX6_readLine 76 = .ok (.aload_n 1, 1) := by decide +kernel
theorem dX6_readLine_77 : decode cX6_readLine 77 = .ok (.iconst 4, 1) := by decide +kernel
theorem dX6_readLine_78 : decode cX6_readLine 78 = .ok (.invokevirtual 52, 3) := by decide +kernel
theorem dX6_readLine_81 : decode cX6_readLine 81 = .ok (.aload_n 2, 1) := by decide +kernel
theorem dX6_readLine_82 : decode cX6_readLine 82 = .ok (.aload_n 0, 1) := by decide +kernel
theorem dX6_readLine_83 : decode cX6_readLine 83 = .ok (.aload_n 1, 1) := by decide +kernel
theorem dX6_readLine_84 : decode cX6_readLine 84 = .ok (.iconst 1, 1) := by decide +kernel
theorem dX6_readLine_85 : decode cX6_readLine 85 = .ok (.bipush 96, 2) := by decide +kernel
theorem dX6_readLine_87 : decode cX6_readLine 87 = .ok (.invokevirtual 56, 3) := by decide +kernel
theorem dX6_readLine_90 : decode cX6_readLine 90 = .ok (.putfield 64, 3) := by decide +kernel
theorem dX6_readLine_93 : decode cX6_readLine 93 = .ok (.aload_n 2, 1) := by decide +kernel
theorem dX6_readLine_94 : decode cX6_readLine 94 = .ok (.aload_n 0, 1) := by decide +kernel
theorem dX6_readLine_95 : decode cX6_readLine 95 = .ok (.aload_n 1, 1) := by decide +kernel
theorem dX6_readLine_96 : decode cX6_readLine 96 = .ok (.iconst 1, 1) := by decide +kernel
theorem dX6_readLine_97 : decode cX6_readLine 97 = .ok (.bipush 16, 2) := by decide +kernel
theorem dX6_readLine_99 : decode cX6_readLine 99 = .ok (.invokevirtual 56, 3) := by decide +kernel
theorem dX6_readLine_102 : decode cX6_readLine 102 = .ok (.putfield 67, 3) := by decide +kernel
theorem dX6_readLine_105 : decode cX6_readLine 105 = .ok (.goto 93, 3) := by decide +kernel
theorem dX6_readLine_108 : decode cX6_readLine 108 = .ok (.aload_n 1, 1) := by decide +kernel
theorem dX6_readLine_109 : decode cX6_readLine 109 = .ok (.ldc 70, 2) := by decide +kernel
theorem dX6_readLine_111 : decode cX6_readLine 111 = .ok (.invokevirtual 38, 3) := by decide +kernel
theorem dX6_readLine_114 : decode cX6_readLine 114 = .ok (.ifCond .eq 25, 3) := by decide +kernel
theorem dX6_readLine_117 : decode cX6_readLine 117 = .ok (.aload_n 0, 1) := by decide +kernel
theorem dX6_readLine_118 : decode cX6_readLine 118 = .ok (.aload_n 1, 1) := by decide +kernel
theorem dX6_readLine_119 : decode cX6_readLine 119 = .ok (.bipush 8, 2) := by decide +kernel
theorem dX6_readLine_121 : decode cX6_readLine 121 = .ok (.invokevirtual 52, 3) := by decide +kernel
theorem dX6_readLine_124 : decode cX6_readLine 124 = .ok (.aload_n 2, 1) := by decide +kernel
theorem dX6_readLine_125 : decode cX6_readLine 125 = .ok (.aload_n 0, 1) := by decide +kernel
theorem dX6_readLine_126 : decode cX6_readLine 126 = .ok (.aload_n 1, 1) := by decide +kernel
theorem dX6_readLine_127 : decode cX6_readLine 127 = .ok (.iconst 1, 1) := by decide +kernel
theorem dX6_readLine_128 : decode cX6_readLine 128 = .ok (.bipush 24, 2) := by decide +kernel
theorem dX6_readLine_130 : decode cX6_readLine 130 = .ok (.invokevirtual 56, 3) := by decide +kernel
theorem dX6_readLine_133 : decode cX6_readLine 133 = .ok (.putfield 72, 3) := by decide +kernel
theorem dX6_readLine_136 : decode cX6_readLine 136 = .ok (.goto 62, 3) := by decide +kernel
theorem dX6_readLine_139 : decode cX6_readLine 139 = .ok (.aload_n 1, 1) := by decide +kernel
theorem dX6_readLine_140 : decode cX6_readLine 140 = .ok (.ldc 74, 2) := by decide +kernel
theorem dX6_readLine_142 : decode cX6_readLine 142 = .ok (.invokevirtual 38, 3) := by decide +kernel
theorem dX6_readLine_145 : decode cX6_readLine 145 = .ok (.ifCond .eq 26, 3) := by decide +kernel
theorem dX6_readLine_148 : decode cX6_readLine 148 = .ok (.aload_n 0, 1) := by decide +kernel
theorem dX6_readLine_149 : decode cX6_readLine 149 = .ok (.aload_n 1, 1) := by decide +kernel
theorem dX6_readLine_150 : decode cX6_readLine 150 = .ok (.bipush 16, 2) := by decide +kernel
theorem dX6_readLine_152 : decode cX6_readLine 152 = .ok (.invokevirtual 52, 3) := by decide +kernel
theorem dX6_readLine_155 : decode cX6_readLine 155 = .ok (.aload_n 2, 1) := by decide +kernel
theorem dX6_readLine_156 : decode cX6_readLine 156 = .ok (.aload_n 0, 1) := by decide +kernel
theorem dX6_readLine_157 : decode cX6_readLine 157 = .ok (.aload_n 1, 1) := by decide +kernel
theorem dX6_readLine_158 : decode cX6_readLine 158 = .ok (.iconst 1, 1) := by decide +kernel
theorem dX6_readLine_159 : decode cX6_readLine 159 = .ok (.sipush 400, 3) := by decide +kernel
theorem dX6_readLine_162 : decode cX6_readLine 162 = .ok (.invokevirtual 56, 3) := by decide +kernel
theorem dX6_readLine_165 : decode cX6_readLine 165 = .ok (.putfield 76, 3) := by decide +kernel
theorem dX6_readLine_168 : decode cX6_readLine 168 = .ok (.goto 30, 3) := by decide +kernel
theorem dX6_readLine_171 : decode cX6_readLine 171 = .ok (.aload_n 1, 1) := by decide +kernel
theorem dX6_readLine_172 : decode cX6_readLine 172 = .ok (.ldc 78, 2) := by decide +kernel
theorem dX6_readLine_174 : decode cX6_readLine 174 = .ok (.invokevirtual 38, 3) := by decide +kernel
theorem dX6_readLine_177 : decode cX6_readLine 177 = .ok (.ifCond .eq 12, 3) := by decide +kernel
theorem dX6_readLine_180 : decode cX6_readLine 180 = .ok (.aload_n 0, 1) := by decide +kernel
theorem dX6_readLine_181 : decode cX6_readLine 181 = .ok (.aload_n 1, 1) := by decide +kernel
theorem dX6_readLine_182 : decode cX6_readLine 182 = .ok (.aload_n 2, 1) := by decide +kernel
theorem dX6_readLine_183 : decode cX6_readLine 183 = .ok (.invokevirtual 80, 3) := by decide +kernel
theorem dX6_readLine_186 : decode cX6_readLine 186 = .ok (.goto 12, 3) := by decide +kernel
theorem dX6_readLine_189 : decode cX6_readLine 189 = .ok (.aload_n 0, 1) := by decide +kernel
theorem dX6_readLine_190 : decode cX6_readLine 190 = .ok (.aload_n 1, 1) := by decide +kernel
theorem dX6_readLine_191 : decode cX6_readLine 191 = .ok (.getfield 83, 3) := by decide +kernel
theorem dX6_readLine_194 : decode cX6_readLine 194 = .ok (.iconst 1, 1) := by decide +kernel
theorem dX6_readLine_195 : decode cX6_readLine 195 = .ok (.invokevirtual 86, 3) := by decide +kernel
theorem dX6_readLine_198 : decode cX6_readLine 198 = .ok (.aload_n 0, 1) := by decide +kernel
theorem dX6_readLine_199 : decode cX6_readLine 199 = .ok (.aload_n 1, 1) := by decide +kernel
theorem dX6_readLine_200 : decode cX6_readLine 200 = .ok (.aload_n 1, 1) := by decide +kernel
theorem dX6_readLine_201 : decode cX6_readLine 201 = .ok (.getfield 29, 3) := by decide +kernel
theorem dX6_readLine_204 : decode cX6_readLine 204 = .ok (.iconst 3, 1) := by decide +kernel
theorem dX6_readLine_205 : decode cX6_readLine 205 = .ok (.if_icmp .ne 7, 3) := by decide +kernel
theorem dX6_readLine_208 : decode cX6_readLine 208 = .ok (.iconst 1, 1) := by decide +kernel
theorem dX6_readLine_209 : decode cX6_readLine 209 = .ok (.goto 4, 3) := by decide +kernel
theorem dX6_readLine_212 : decode cX6_readLine 212 = .ok (.iconst 0, 1) := by decide +kernel
theorem dX6_readLine_213 : decode cX6_readLine 213 = .ok (.invokevirtual 90, 3) := by decide +kernel
theorem dX6_readLine_216 : decode cX6_readLine 216 = .ok (.return_, 1) := by decide +kernel
set_option maxRecDepth 20000 in
theorem ggX6_readClock_X6_passOnce : GoodIn wsX6_readClock wsX6_passOnce := goodIn_r _ [6, 7, 8, 9, 10, 11, 5, 12, 13, 14, 15, 16, 17, 18, 19, 20, 21, 22, 23, 24, 25, 26, 27, 28, 29, 30, 31, 32, 33, 34, 35, 36, 37, 120, 121, 122, 123, 124, 125, 126, 127] (by decide +kernel) (by decide +kernel)
set_option maxRecDepth 20000 in
theorem gX6_readClock_X6_passOnce : GoodIn wsX6_readClock (wsV RX6 52 RX6 yX6_passOnce wsX6_passOnce) := goodIn_app (goodIn_of _ (by decide +kernel)) ggX6_readClock_X6_passOnce
set_option maxRecDepth 20000 in
theorem ggX6_readClock_X6_readNumber : GoodIn wsX6_readClock wsX6_readNumber := goodIn_r _ [41, 42, 8, 13, 9, 10, 11, 5, 12, 43, 44, 45, 21, 46, 23, 24, 26, 18, 19, 20, 22, 25, 27, 28, 29, 30, 31, 32, 33, 34, 35, 36, 37, 122, 123, 124, 125, 126, 127, 120, 121] (by decide +kernel) (by decide +kernel)
set_option maxRecDepth 20000 in
theorem gX6_readClock_X6_readNumber : GoodIn wsX6_readClock (wsV RX6 56 RX6 yX6_readNumber wsX6_readNumber) := goodIn_app (goodIn_of _ (by decide +kernel)) ggX6_readClock_X6_readNumber
set_option maxRecDepth 20000 in
theorem ggX6_readClock_X9_tells : GoodIn wsX6_readClock wsX9_tells := goodIn_r _ [50, 31, 23, 24, 26, 51, 52, 53, 54, 55, 56, 57, 58, 59, 60, 61, 62, 63, 64, 65, 66, 67, 68, 69, 70, 71, 72, 73, 74, 75, 76, 77, 78, 79, 80, 81, 82, 83, 84, 85, 86, 87, 88, 89, 90, 91, 92, 93, 94, 95, 96, 97, 98, 99, 122, 123, 124, 125, 126, 127] (by decide +kernel) (by decide +kernel)
set_option maxRecDepth 20000 in
theorem gX6_readClock_X9_tells : GoodIn wsX6_readClock (wsV RX6 38 RX9 yX9_tells wsX9_tells) := goodIn_app (goodIn_of _ (by decide +kernel)) ggX6_readClock_X9_tells
set_option maxRecDepth 20000 in
theorem ggX6_readClock_X6_passIf : GoodIn wsX6_readClock wsX6_passIf := goodIn_r _ [17, 8, 13, 9, 10, 11, 5, 12, 18, 19, 20, 21, 22, 23, 24, 25, 26, 27, 28, 29, 30, 31, 32, 33, 34, 35, 36, 37, 122, 123, 124, 125, 126, 127, 120, 121] (by decide +kernel) (by decide +kernel)
set_option maxRecDepth 20000 in
theorem gX6_readClock_X6_passIf : GoodIn wsX6_readClock (wsV RX6 90 RX6 yX6_passIf wsX6_passIf) := goodIn_app (goodIn_of _ (by decide +kernel)) ggX6_readClock_X6_passIf
set_option maxRecDepth 20000 in
theorem ggX6_readClock_X2_set : GoodIn wsX6_readClock wsX2_set := goodIn_r _ [104, 105, 106, 107, 108, 109, 128, 129, 130, 131, 132] (by decide +kernel) (by decide +kernel)
set_option maxRecDepth 20000 in
theorem gX6_readClock_X2_set : GoodIn wsX6_readClock (wsV RX6 103 RX2 yX2_set wsX2_set) := goodIn_app (goodIn_of _ (by decide +kernel)) ggX6_readClock_X2_set
theorem dX6_readClock_0 : decode cX6_readClock 0 = .ok (.aload_n 0, 1) := by decide +kernel
theorem dX6_readClock_1 : decode cX6_readClock 1 = .ok (.aload_n 1, 1) := by decide +kernel
theorem dX6_readClock_2 : decode cX6_readClock 2 = .ok (.iconst 1, 1) := by decide +kernel
theorem dX6_readClock_3 : decode cX6_readClock 3 = .ok (.invokevirtual 52, 3) := by decide +kernel
theorem dX6_readClock_6 : decode cX6_readClock 6 = .ok (.aload_n 0, 1) := by decide +kernel
theorem dX6_readClock_7 : decode cX6_readClock 7 = .ok (.aload_n 1, 1) := by decide +kernel
theorem dX6_readClock_8 : decode cX6_readClock 8 = .ok (.iconst 0, 1) := by decide +kernel
theorem dX6_readClock_9 : decode cX6_readClock 9 = .ok (.bipush 27, 2) := by decide +kernel
theorem dX6_readClock_11 : decode cX6_readClock 11 = .ok (.invokevirtual 56, 3) := by decide +kernel
theorem dX6_readClock_14 : decode cX6_readClock 14 = .ok (.istore_n 3, 1) := by decide +kernel
theorem dX6_readClock_15 : decode cX6_readClock 15 = .ok (.aload_n 0, 1) := by decide +kernel
theorem dX6_readClock_16 : decode cX6_readClock 16 = .ok (.aload_n 1, 1) := by decide +kernel
theorem dX6_readClock_17 : decode cX6_readClock 17 = .ok (.iconst 0, 1) := by decide +kernel
theorem dX6_readClock_18 : decode cX6_readClock 18 = .ok (.bipush 23, 2) := by decide +kernel
theorem dX6_readClock_20 : decode cX6_readClock 20 = .ok (.invokevirtual 56, 3) := by decide +kernel
theorem dX6_readClock_23 : decode cX6_readClock 23 = .ok (.istore 4, 2) := by decide +kernel
theorem dX6_readClock_25 : decode cX6_readClock 25 = .ok (.aload_n 1, 1) := by decide +kernel
theorem dX6_readClock_26 : decode cX6_readClock 26 = .ok (.ldc 94, 2) := by decide +kernel
theorem dX6_readClock_28 : decode cX6_readClock 28 = .ok (.invokevirtual 38, 3) := by decide +kernel
theorem dX6_readClock_31 : decode cX6_readClock 31 = .ok (.istore 5, 2) := by decide +kernel
theorem dX6_readClock_33 : decode cX6_readClock 33 = .ok (.aload_n 0, 1) := by decide +kernel
theorem dX6_readClock_34 : decode cX6_readClock 34 = .ok (.aload_n 1, 1) := by decide +kernel
theorem dX6_readClock_35 : decode cX6_readClock 35 = .ok (.iload 5, 2) := by decide +kernel
theorem dX6_readClock_37 : decode cX6_readClock 37 = .ok (.ifCond .ne 12, 3) := by decide +kernel
theorem dX6_readClock_40 : decode cX6_readClock 40 = .ok (.aload_n 1, 1) := by decide +kernel
theorem dX6_readClock_41 : decode cX6_readClock 41 = .ok (.ldc 96, 2) := by decide +kernel
theorem dX6_readClock_43 : decode cX6_readClock 43 = .ok (.invokevirtual 38, 3) := by decide +kernel
theorem dX6_readClock_46 : decode cX6_readClock 46 = .ok (.ifCond .eq 7, 3) := by decide +kernel
theorem dX6_readClock_49 : decode cX6_readClock 49 = .ok (.iconst 1, 1) := by decide +kernel
theorem dX6_readClock_50 : decode cX6_readClock 50 = .ok (.goto 4, 3) := by decide +kernel
theorem dX6_readClock_53 : decode cX6_readClock 53 = .ok (.iconst 0, 1) := by decide +kernel
theorem dX6_readClock_54 : decode cX6_readClock 54 = .ok (.invokevirtual 90, 3) := by decide +kernel
theorem dX6_readClock_57 : decode cX6_readClock 57 = .ok (.aload_n 2, 1) := by decide +kernel
theorem dX6_readClock_58 : decode cX6_readClock 58 = .ok (.getfield 98, 3) := by decide +kernel
theorem dX6_readClock_61 : decode cX6_readClock 61 = .ok (.iload_n 3, 1) := by decide +kernel
theorem dX6_readClock_62 : decode cX6_readClock 62 = .ok (.iload 4, 2) := by decide +kernel
theorem dX6_readClock_64 : decode cX6_readClock 64 = .ok (.iload 5, 2) := by decide +kernel
theorem dX6_readClock_66 : decode cX6_readClock 66 = .ok (.ifCond .eq 7, 3) := by decide +kernel
theorem dX6_readClock_69 : decode cX6_readClock 69 = .ok (.iconst 1, 1) := by decide +kernel
theorem dX6_readClock_70 : decode cX6_readClock 70 = .ok (.goto 4, 3) := by decide +kernel
theorem dX6_readClock_73 : decode cX6_readClock 73 = .ok (.iconst 0, 1) := by decide +kernel
theorem dX6_readClock_74 : decode cX6_readClock 74 = .ok (.invokevirtual 103, 3) := by decide +kernel
theorem dX6_readClock_77 : decode cX6_readClock 77 = .ok (.return_, 1) := by decide +kernel
set_option maxRecDepth 20000 in
theorem ggX6_readHoliday_X6_refuse : GoodIn wsX6_readHoliday wsX6_refuse := goodIn_r _ [8, 9, 62, 63] (by decide +kernel) (by decide +kernel)
set_option maxRecDepth 20000 in
theorem gX6_readHoliday_X6_refuse : GoodIn wsX6_readHoliday (wsV RX6 86 RX6 yX6_refuse wsX6_refuse) := goodIn_app (goodIn_of _ (by decide +kernel)) ggX6_readHoliday_X6_refuse
set_option maxRecDepth 20000 in
theorem ggX6_readHoliday_X9_advance : GoodIn wsX6_readHoliday wsX9_advance := goodIn_r _ [14, 15, 16, 17, 18, 19, 20, 21, 22, 23, 24, 25, 13, 26, 27, 28, 29, 56, 57, 58, 59, 60, 61] (by decide +kernel) (by decide +kernel)
set_option maxRecDepth 20000 in
theorem gX6_readHoliday_X9_advance : GoodIn wsX6_readHoliday (wsV RX6 110 RX9 yX9_advance wsX9_advance) := goodIn_app (goodIn_of _ (by decide +kernel)) ggX6_readHoliday_X9_advance
set_option maxRecDepth 20000 in
theorem ggX6_readHoliday_X6_readNumber : GoodIn wsX6_readHoliday wsX6_readNumber := goodIn_r _ [33, 34, 2, 9, 4, 5, 6, 7, 8, 35, 36, 37, 13, 38, 15, 16, 18, 10, 11, 12, 14, 17, 19, 20, 21, 22, 23, 24, 25, 26, 27, 28, 29, 56, 57, 58, 59, 60, 61, 62, 63] (by decide +kernel) (by decide +kernel)
set_option maxRecDepth 20000 in
theorem gX6_readHoliday_X6_readNumber : GoodIn wsX6_readHoliday (wsV RX6 56 RX6 yX6_readNumber wsX6_readNumber) := goodIn_app (goodIn_of _ (by decide +kernel)) ggX6_readHoliday_X6_readNumber
set_option maxRecDepth 20000 in
theorem ggX6_readHoliday_X7_isHoliday : GoodIn wsX6_readHoliday wsX7_isHoliday := goodIn_r _ [43, 44, 45, 46, 47, 48, 49, 50, 51, 52, 53, 54, 55] (by decide +kernel) (by decide +kernel)
set_option maxRecDepth 20000 in
theorem gX6_readHoliday_X7_isHoliday : GoodIn wsX6_readHoliday (wsV RX6 113 RX7 yX7_isHoliday wsX7_isHoliday) := goodIn_app (goodIn_of _ (by decide +kernel)) ggX6_readHoliday_X7_isHoliday
theorem dX6_readHoliday_0 : decode cX6_readHoliday 0 = .ok (.aload_n 2, 1) := by decide +kernel
theorem dX6_readHoliday_1 : decode cX6_readHoliday 1 = .ok (.getfield 107, 3) := by decide +kernel
theorem dX6_readHoliday_4 : decode cX6_readHoliday 4 = .ok (.iconst 4, 1) := by decide +kernel
theorem dX6_readHoliday_5 : decode cX6_readHoliday 5 = .ok (.if_icmp .lt 13, 3) := by decide +kernel
theorem dX6_readHoliday_8 : decode cX6_readHoliday 8 = .ok (.aload_n 0, 1) := by decide +kernel
theorem dX6_readHoliday_9 : decode cX6_readHoliday 9 = .ok (.aload_n 1, 1) := by decide +kernel
theorem dX6_readHoliday_10 : decode cX6_readHoliday 10 = .ok (.getfield 83, 3) := by decide +kernel
theorem dX6_readHoliday_13 : decode cX6_readHoliday 13 = .ok (.iconst 3, 1) := by decide +kernel
theorem dX6_readHoliday_14 : decode cX6_readHoliday 14 = .ok (.invokevirtual 86, 3) := by decide +kernel
theorem dX6_readHoliday_17 : decode cX6_readHoliday 17 = .ok (.return_, 1) := by decide +kernel
theorem dX6_readHoliday_18 : decode cX6_readHoliday 18 = .ok (.aload_n 1, 1) := by decide +kernel
theorem dX6_readHoliday_19 : decode cX6_readHoliday 19 = .ok (.invokevirtual 110, 3) := by decide +kernel
theorem dX6_readHoliday_22 : decode cX6_readHoliday 22 = .ok (.aload_n 1, 1) := by decide +kernel
theorem dX6_readHoliday_23 : decode cX6_readHoliday 23 = .ok (.getfield 83, 3) := by decide +kernel
theorem dX6_readHoliday_26 : decode cX6_readHoliday 26 = .ok (.istore_n 3, 1) := by decide +kernel
theorem dX6_readHoliday_27 : decode cX6_readHoliday 27 = .ok (.aload_n 0, 1) := by decide +kernel
theorem dX6_readHoliday_28 : decode cX6_readHoliday 28 = .ok (.aload_n 1, 1) := by decide +kernel
theorem dX6_readHoliday_29 : decode cX6_readHoliday 29 = .ok (.iconst 0, 1) := by decide +kernel
theorem dX6_readHoliday_30 : decode cX6_readHoliday 30 = .ok (.bipush 27, 2) := by decide +kernel
theorem dX6_readHoliday_32 : decode cX6_readHoliday 32 = .ok (.invokevirtual 56, 3) := by decide +kernel
theorem dX6_readHoliday_35 : decode cX6_readHoliday 35 = .ok (.istore 4, 2) := by decide +kernel
theorem dX6_readHoliday_37 : decode cX6_readHoliday 37 = .ok (.aload_n 2, 1) := by decide +kernel
theorem dX6_readHoliday_38 : decode cX6_readHoliday 38 = .ok (.iload 4, 2) := by decide +kernel
theorem dX6_readHoliday_40 : decode cX6_readHoliday 40 = .ok (.invokevirtual 113, 3) := by decide +kernel
theorem dX6_readHoliday_43 : decode cX6_readHoliday 43 = .ok (.ifCond .eq 9, 3) := by decide +kernel
theorem dX6_readHoliday_46 : decode cX6_readHoliday 46 = .ok (.aload_n 0, 1) := by decide +kernel
theorem dX6_readHoliday_47 : decode cX6_readHoliday 47 = .ok (.iload_n 3, 1) := by decide +kernel
theorem dX6_readHoliday_48 : decode cX6_readHoliday 48 = .ok (.iconst 2, 1) := by decide +kernel
theorem dX6_readHoliday_49 : decode cX6_readHoliday 49 = .ok (.invokevirtual 86, 3) := by decide +kernel
theorem dX6_readHoliday_52 : decode cX6_readHoliday 52 = .ok (.aload_n 2, 1) := by decide +kernel
theorem dX6_readHoliday_53 : decode cX6_readHoliday 53 = .ok (.getfield 117, 3) := by decide +kernel
theorem dX6_readHoliday_56 : decode cX6_readHoliday 56 = .ok (.aload_n 2, 1) := by decide +kernel
theorem dX6_readHoliday_57 : decode cX6_readHoliday 57 = .ok (.getfield 107, 3) := by decide +kernel
theorem dX6_readHoliday_60 : decode cX6_readHoliday 60 = .ok (.iload 4, 2) := by decide +kernel
theorem dX6_readHoliday_62 : decode cX6_readHoliday 62 = .ok (.iastore, 1) := by decide +kernel
theorem dX6_readHoliday_63 : decode cX6_readHoliday 63 = .ok (.aload_n 2, 1) := by decide +kernel
theorem dX6_readHoliday_64 : decode cX6_readHoliday 64 = .ok (.dup, 1) := by decide +kernel
theorem dX6_readHoliday_65 : decode cX6_readHoliday 65 = .ok (.getfield 107, 3) := by decide +kernel
theorem dX6_readHoliday_68 : decode cX6_readHoliday 68 = .ok (.iconst 1, 1) := by decide +kernel
theorem dX6_readHoliday_69 : decode cX6_readHoliday 69 = .ok (.iadd, 1) := by decide +kernel
theorem dX6_readHoliday_70 : decode cX6_readHoliday 70 = .ok (.putfield 107, 3) := by decide +kernel
theorem dX6_readHoliday_73 : decode cX6_readHoliday 73 = .ok (.return_, 1) := by decide +kernel
set_option maxRecDepth 20000 in
theorem ggX6_readPremium_X6_refuse : GoodIn wsX6_readPremium wsX6_refuse := goodIn_r _ [10, 11, 129, 130] (by decide +kernel) (by decide +kernel)
set_option maxRecDepth 20000 in
theorem gX6_readPremium_X6_refuse : GoodIn wsX6_readPremium (wsV RX6 86 RX6 yX6_refuse wsX6_refuse) := goodIn_app (goodIn_of _ (by decide +kernel)) ggX6_readPremium_X6_refuse
set_option maxRecDepth 20000 in
theorem ggX6_readPremium_X9_advance : GoodIn wsX6_readPremium wsX9_advance := goodIn_r _ [16, 17, 18, 19, 20, 21, 22, 23, 24, 25, 26, 27, 15, 28, 29, 30, 31, 118, 119, 120, 121, 122, 123] (by decide +kernel) (by decide +kernel)
set_option maxRecDepth 20000 in
theorem gX6_readPremium_X9_advance : GoodIn wsX6_readPremium (wsV RX6 110 RX9 yX9_advance wsX9_advance) := goodIn_app (goodIn_of _ (by decide +kernel)) ggX6_readPremium_X9_advance
set_option maxRecDepth 20000 in
theorem ggX6_readPremium_X6_readKind : GoodIn wsX6_readPremium wsX6_readKind := goodIn_r _ [35, 36, 37, 38, 2, 39, 40, 9, 41, 42, 43, 44, 15, 45, 25, 17, 18, 20, 46, 47, 48, 49, 50, 51, 52, 53, 54, 55, 56, 57, 58, 59, 60, 61, 62, 63, 64, 65, 66, 67, 68, 69, 70, 71, 72, 73, 74, 75, 76, 77, 78, 79, 80, 81, 82, 83, 84, 85, 86, 87, 88, 89, 90, 91, 92, 93, 94, 95, 96, 97, 98, 11, 6, 7, 8, 10, 12, 13, 14, 16, 19, 21, 22, 23, 24, 26, 27, 28, 29, 30, 31, 99, 100, 101, 102, 103, 104, 105, 106, 107, 124, 125, 126, 127, 128, 118, 119, 120, 121, 122, 123, 129, 130] (by decide +kernel) (by decide +kernel)
set_option maxRecDepth 20000 in
theorem gX6_readPremium_X6_readKind : GoodIn wsX6_readPremium (wsV RX6 128 RX6 yX6_readKind wsX6_readKind) := goodIn_app (goodIn_of _ (by decide +kernel)) ggX6_readPremium_X6_readKind
set_option maxRecDepth 20000 in
theorem ggX6_readPremium_X6_readNumber : GoodIn wsX6_readPremium wsX6_readNumber := goodIn_r _ [102, 103, 2, 11, 6, 7, 8, 9, 10, 104, 105, 106, 15, 107, 17, 18, 20, 12, 13, 14, 16, 19, 21, 22, 23, 24, 25, 26, 27, 28, 29, 30, 31, 118, 119, 120, 121, 122, 123, 129, 130] (by decide +kernel) (by decide +kernel)
set_option maxRecDepth 20000 in
theorem gX6_readPremium_X6_readNumber : GoodIn wsX6_readPremium (wsV RX6 56 RX6 yX6_readNumber wsX6_readNumber) := goodIn_app (goodIn_of _ (by decide +kernel)) ggX6_readPremium_X6_readNumber
set_option maxRecDepth 20000 in
theorem ggX6_readPremium_X9_tells : GoodIn wsX6_readPremium wsX9_tells := goodIn_r _ [45, 25, 17, 18, 20, 46, 47, 48, 49, 50, 51, 52, 53, 54, 55, 56, 57, 58, 59, 60, 61, 62, 63, 64, 65, 66, 67, 68, 69, 70, 71, 72, 73, 74, 75, 76, 77, 78, 79, 80, 81, 82, 83, 84, 85, 86, 87, 88, 89, 90, 91, 92, 93, 94, 118, 119, 120, 121, 122, 123] (by decide +kernel) (by decide +kernel)
set_option maxRecDepth 20000 in
theorem gX6_readPremium_X9_tells : GoodIn wsX6_readPremium (wsV RX6 38 RX9 yX9_tells wsX9_tells) := goodIn_app (goodIn_of _ (by decide +kernel)) ggX6_readPremium_X9_tells
set_option maxRecDepth 20000 in
theorem ggX6_readPremium_X6_passIf : GoodIn wsX6_readPremium wsX6_passIf := goodIn_r _ [98, 2, 11, 6, 7, 8, 9, 10, 12, 13, 14, 15, 16, 17, 18, 19, 20, 21, 22, 23, 24, 25, 26, 27, 28, 29, 30, 31, 118, 119, 120, 121, 122, 123, 129, 130] (by decide +kernel) (by decide +kernel)
set_option maxRecDepth 20000 in
theorem gX6_readPremium_X6_passIf : GoodIn wsX6_readPremium (wsV RX6 90 RX6 yX6_passIf wsX6_passIf) := goodIn_app (goodIn_of _ (by decide +kernel)) ggX6_readPremium_X6_passIf
theorem dX6_readPremium_0 : decode cX6_readPremium 0 = .ok (.aload_n 2, 1) := by decide +kernel
theorem dX6_readPremium_1 : decode cX6_readPremium 1 = .ok (.getfield 121, 3) := by decide +kernel
theorem dX6_readPremium_4 : decode cX6_readPremium 4 = .ok (.bipush 8, 2) := by decide +kernel
theorem dX6_readPremium_6 : decode cX6_readPremium 6 = .ok (.if_icmp .lt 13, 3) := by decide +kernel
theorem dX6_readPremium_9 : decode cX6_readPremium 9 = .ok (.aload_n 0, 1) := by decide +kernel
theorem dX6_readPremium_10 : decode cX6_readPremium 10 = .ok (.aload_n 1, 1) := by decide +kernel
theorem dX6_readPremium_11 : decode cX6_readPremium 11 = .ok (.getfield 83, 3) := by decide +kernel
theorem dX6_readPremium_14 : decode cX6_readPremium 14 = .ok (.iconst 3, 1) := by decide +kernel
theorem dX6_readPremium_15 : decode cX6_readPremium 15 = .ok (.invokevirtual 86, 3) := by decide +kernel
theorem dX6_readPremium_18 : decode cX6_readPremium 18 = .ok (.return_, 1) := by decide +kernel
theorem dX6_readPremium_19 : decode cX6_readPremium 19 = .ok (.aload_n 1, 1) := by decide +kernel
theorem dX6_readPremium_20 : decode cX6_readPremium 20 = .ok (.invokevirtual 110, 3) := by decide +kernel
theorem dX6_readPremium_23 : decode cX6_readPremium 23 = .ok (.aload_n 2, 1) := by decide +kernel
theorem dX6_readPremium_24 : decode cX6_readPremium 24 = .ok (.getfield 124, 3) := by decide +kernel
theorem dX6_readPremium_27 : decode cX6_readPremium 27 = .ok (.aload_n 2, 1) := by decide +kernel
theorem dX6_readPremium_28 : decode cX6_readPremium 28 = .ok (.getfield 121, 3) := by decide +kernel
theorem dX6_readPremium_31 : decode cX6_readPremium 31 = .ok (.aaload, 1) := by decide +kernel
theorem dX6_readPremium_32 : decode cX6_readPremium 32 = .ok (.astore_n 3, 1) := by decide +kernel
theorem dX6_readPremium_33 : decode cX6_readPremium 33 = .ok (.aload_n 2, 1) := by decide +kernel
theorem dX6_readPremium_34 : decode cX6_readPremium 34 = .ok (.dup, 1) := by decide +kernel
theorem dX6_readPremium_35 : decode cX6_readPremium 35 = .ok (.getfield 121, 3) := by decide +kernel
theorem dX6_readPremium_38 : decode cX6_readPremium 38 = .ok (.iconst 1, 1) := by decide +kernel
theorem dX6_readPremium_39 : decode cX6_readPremium 39 = .ok (.iadd, 1) := by decide +kernel
theorem dX6_readPremium_40 : decode cX6_readPremium 40 = .ok (.putfield 121, 3) := by decide +kernel
theorem dX6_readPremium_43 : decode cX6_readPremium 43 = .ok (.aload_n 0, 1) := by decide +kernel
theorem dX6_readPremium_44 : decode cX6_readPremium 44 = .ok (.aload_n 1, 1) := by decide +kernel
theorem dX6_readPremium_45 : decode cX6_readPremium 45 = .ok (.aload_n 3, 1) := by decide +kernel
theorem dX6_readPremium_46 : decode cX6_readPremium 46 = .ok (.invokevirtual 128, 3) := by decide +kernel
theorem dX6_readPremium_49 : decode cX6_readPremium 49 = .ok (.aload_n 3, 1) := by decide +kernel
theorem dX6_readPremium_50 : decode cX6_readPremium 50 = .ok (.aload_n 0, 1) := by decide +kernel
theorem dX6_readPremium_51 : decode cX6_readPremium 51 = .ok (.aload_n 1, 1) := by decide +kernel
theorem dX6_readPremium_52 : decode cX6_readPremium 52 = .ok (.iconst 1, 1) := by decide +kernel
theorem dX6_readPremium_53 : decode cX6_readPremium 53 = .ok (.sipush 300, 3) := by decide +kernel
theorem dX6_readPremium_56 : decode cX6_readPremium 56 = .ok (.invokevirtual 56, 3) := by decide +kernel
theorem dX6_readPremium_59 : decode cX6_readPremium 59 = .ok (.putfield 132, 3) := by decide +kernel
theorem dX6_readPremium_62 : decode cX6_readPremium 62 = .ok (.aload_n 3, 1) := by decide +kernel
theorem dX6_readPremium_63 : decode cX6_readPremium 63 = .ok (.aload_n 1, 1) := by decide +kernel
theorem dX6_readPremium_64 : decode cX6_readPremium 64 = .ok (.ldc 137, 2) := by decide +kernel
theorem dX6_readPremium_66 : decode cX6_readPremium 66 = .ok (.invokevirtual 38, 3) := by decide +kernel
theorem dX6_readPremium_69 : decode cX6_readPremium 69 = .ok (.putfield 139, 3) := by decide +kernel
theorem dX6_readPremium_72 : decode cX6_readPremium 72 = .ok (.aload_n 3, 1) := by decide +kernel
theorem dX6_readPremium_73 : decode cX6_readPremium 73 = .ok (.getfield 139, 3) := by decide +kernel
theorem dX6_readPremium_76 : decode cX6_readPremium 76 = .ok (.ifCond .eq 9, 3) := by decide +kernel
theorem dX6_readPremium_79 : decode cX6_readPremium 79 = .ok (.aload_n 0, 1) := by decide +kernel
theorem dX6_readPremium_80 : decode cX6_readPremium 80 = .ok (.aload_n 1, 1) := by decide +kernel
theorem dX6_readPremium_81 : decode cX6_readPremium 81 = .ok (.iconst 1, 1) := by decide +kernel
theorem dX6_readPremium_82 : decode cX6_readPremium 82 = .ok (.invokevirtual 90, 3) := by decide +kernel
theorem dX6_readPremium_85 : decode cX6_readPremium 85 = .ok (.return_, 1) := by decide +kernel
set_option maxRecDepth 20000 in
theorem ggX6_readKind_X6_kindOf : GoodIn wsX6_readKind wsX6_kindOf := goodIn_r _ [8, 9, 10, 11, 12, 13, 14, 15, 16, 17, 18, 19, 20, 21, 22, 23, 24, 25, 26, 27, 28, 29, 30, 31, 32, 33, 34, 35, 36, 37, 38, 39, 40, 41, 42, 43, 44, 45, 46, 47, 48, 49, 50, 51, 52, 53, 54, 55, 56, 57, 58, 59, 60, 61, 62, 63, 64, 65, 66, 105, 106, 107, 108, 109, 110] (by decide +kernel) (by decide +kernel)
set_option maxRecDepth 20000 in
theorem gX6_readKind_X6_kindOf : GoodIn wsX6_readKind (va_wsS RX6 148 yX6_kindOf wsX6_kindOf) := goodIn_app (goodIn_of _ (by decide +kernel)) ggX6_readKind_X6_kindOf
set_option maxRecDepth 20000 in
theorem ggX6_readKind_X6_passIf : GoodIn wsX6_readKind wsX6_passIf := goodIn_r _ [70, 4, 71, 72, 73, 74, 7, 75, 76, 77, 78, 12, 79, 15, 16, 80, 17, 81, 82, 83, 84, 14, 85, 86, 87, 88, 89, 90, 105, 106, 107, 108, 109, 110, 111, 112] (by decide +kernel) (by decide +kernel)
set_option maxRecDepth 20000 in
theorem gX6_readKind_X6_passIf : GoodIn wsX6_readKind (wsV RX6 90 RX6 yX6_passIf wsX6_passIf) := goodIn_app (goodIn_of _ (by decide +kernel)) ggX6_readKind_X6_passIf
set_option maxRecDepth 20000 in
theorem ggX6_readKind_X6_readNumber : GoodIn wsX6_readKind wsX6_readNumber := goodIn_r _ [94, 95, 4, 71, 72, 73, 74, 7, 75, 96, 97, 98, 12, 99, 15, 16, 17, 76, 77, 78, 79, 80, 81, 82, 83, 84, 14, 85, 86, 87, 88, 89, 90, 105, 106, 107, 108, 109, 110, 111, 112] (by decide +kernel) (by decide +kernel)
set_option maxRecDepth 20000 in
theorem gX6_readKind_X6_readNumber : GoodIn wsX6_readKind (wsV RX6 56 RX6 yX6_readNumber wsX6_readNumber) := goodIn_app (goodIn_of _ (by decide +kernel)) ggX6_readKind_X6_readNumber
set_option maxRecDepth 20000 in
theorem ggX6_readKind_X6_refuse : GoodIn wsX6_readKind wsX6_refuse := goodIn_r _ [75, 71, 111, 112] (by decide +kernel) (by decide +kernel)
set_option maxRecDepth 20000 in
theorem gX6_readKind_X6_refuse : GoodIn wsX6_readKind (wsV RX6 86 RX6 yX6_refuse wsX6_refuse) := goodIn_app (goodIn_of _ (by decide +kernel)) ggX6_readKind_X6_refuse
theorem dX6_readKind_0 : decode cX6_readKind 0 = .ok (.aload_n 2, 1) := by decide +kernel
theorem dX6_readKind_1 : decode cX6_readKind 1 = .ok (.iconst (-1), 1) := by decide +kernel
theorem dX6_readKind_2 : decode cX6_readKind 2 = .ok (.putfield 142, 3) := by decide +kernel
theorem dX6_readKind_5 : decode cX6_readKind 5 = .ok (.aload_n 2, 1) := by decide +kernel
theorem dX6_readKind_6 : decode cX6_readKind 6 = .ok (.iconst (-1), 1) := by decide +kernel
theorem dX6_readKind_7 : decode cX6_readKind 7 = .ok (.putfield 145, 3) := by decide +kernel
theorem dX6_readKind_10 : decode cX6_readKind 10 = .ok (.aload_n 2, 1) := by decide +kernel
theorem dX6_readKind_11 : decode cX6_readKind 11 = .ok (.aload_n 1, 1) := by decide +kernel
theorem dX6_readKind_12 : decode cX6_readKind 12 = .ok (.invokestatic 148, 3) := by decide +kernel
theorem dX6_readKind_15 : decode cX6_readKind 15 = .ok (.putfield 152, 3) := by decide +kernel
theorem dX6_readKind_18 : decode cX6_readKind 18 = .ok (.aload_n 0, 1) := by decide +kernel
theorem dX6_readKind_19 : decode cX6_readKind 19 = .ok (.aload_n 1, 1) := by decide +kernel
theorem dX6_readKind_20 : decode cX6_readKind 20 = .ok (.aload_n 2, 1) := by decide +kernel
theorem dX6_readKind_21 : decode cX6_readKind 21 = .ok (.getfield 152, 3) := by decide +kernel
theorem dX6_readKind_24 : decode cX6_readKind 24 = .ok (.iconst (-1), 1) := by decide +kernel
theorem dX6_readKind_25 : decode cX6_readKind 25 = .ok (.if_icmp .eq 7, 3) := by decide +kernel
theorem dX6_readKind_28 : decode cX6_readKind 28 = .ok (.iconst 1, 1) := by decide +kernel
theorem dX6_readKind_29 : decode cX6_readKind 29 = .ok (.goto 4, 3) := by decide +kernel
theorem dX6_readKind_32 : decode cX6_readKind 32 = .ok (.iconst 0, 1) := by decide +kernel
theorem dX6_readKind_33 : decode cX6_readKind 33 = .ok (.invokevirtual 90, 3) := by decide +kernel
theorem dX6_readKind_36 : decode cX6_readKind 36 = .ok (.aload_n 2, 1) := by decide +kernel
theorem dX6_readKind_37 : decode cX6_readKind 37 = .ok (.getfield 152, 3) := by decide +kernel
theorem dX6_readKind_40 : decode cX6_readKind 40 = .ok (.ifCond .ne 18, 3) := by decide +kernel
theorem dX6_readKind_43 : decode cX6_readKind 43 = .ok (.aload_n 2, 1) := by decide +kernel
theorem dX6_readKind_44 : decode cX6_readKind 44 = .ok (.aload_n 0, 1) := by decide +kernel
theorem dX6_readKind_45 : decode cX6_readKind 45 = .ok (.aload_n 1, 1) := by decide +kernel
theorem dX6_readKind_46 : decode cX6_readKind 46 = .ok (.iconst 0, 1) := by decide +kernel
theorem dX6_readKind_47 : decode cX6_readKind 47 = .ok (.bipush 96, 2) := by decide +kernel
theorem dX6_readKind_49 : decode cX6_readKind 49 = .ok (.invokevirtual 56, 3) := by decide +kernel
theorem dX6_readKind_52 : decode cX6_readKind 52 = .ok (.putfield 142, 3) := by decide +kernel
theorem dX6_readKind_55 : decode cX6_readKind 55 = .ok (.goto 81, 3) := by decide +kernel
theorem dX6_readKind_58 : decode cX6_readKind 58 = .ok (.aload_n 2, 1) := by decide +kernel
theorem dX6_readKind_59 : decode cX6_readKind 59 = .ok (.getfield 152, 3) := by decide +kernel
theorem dX6_readKind_62 : decode cX6_readKind 62 = .ok (.iconst 1, 1) := by decide +kernel
theorem dX6_readKind_63 : decode cX6_readKind 63 = .ok (.if_icmp .ne 19, 3) := by decide +kernel
theorem dX6_readKind_66 : decode cX6_readKind 66 = .ok (.aload_n 2, 1) := by decide +kernel
theorem dX6_readKind_67 : decode cX6_readKind 67 = .ok (.aload_n 0, 1) := by decide +kernel
theorem dX6_readKind_68 : decode cX6_readKind 68 = .ok (.aload_n 1, 1) := by decide +kernel
theorem dX6_readKind_69 : decode cX6_readKind 69 = .ok (.iconst 0, 1) := by decide +kernel
theorem dX6_readKind_70 : decode cX6_readKind 70 = .ok (.sipush 672, 3) := by decide +kernel
theorem dX6_readKind_73 : decode cX6_readKind 73 = .ok (.invokevirtual 56, 3) := by decide +kernel
theorem dX6_readKind_76 : decode cX6_readKind 76 = .ok (.putfield 142, 3) := by decide +kernel
theorem dX6_readKind_79 : decode cX6_readKind 79 = .ok (.goto 57, 3) := by decide +kernel
theorem dX6_readKind_82 : decode cX6_readKind 82 = .ok (.aload_n 2, 1) := by decide +kernel
theorem dX6_readKind_83 : decode cX6_readKind 83 = .ok (.getfield 152, 3) := by decide +kernel
theorem dX6_readKind_86 : decode cX6_readKind 86 = .ok (.iconst 3, 1) := by decide +kernel
theorem dX6_readKind_87 : decode cX6_readKind 87 = .ok (.if_icmp .ne 49, 3) := by decide +kernel
theorem dX6_readKind_90 : decode cX6_readKind 90 = .ok (.aload_n 2, 1) := by decide +kernel
theorem dX6_readKind_91 : decode cX6_readKind 91 = .ok (.aload_n 0, 1) := by decide +kernel
theorem dX6_readKind_92 : decode cX6_readKind 92 = .ok (.aload_n 1, 1) := by decide +kernel
theorem dX6_readKind_93 : decode cX6_readKind 93 = .ok (.iconst 0, 1) := by decide +kernel
theorem dX6_readKind_94 : decode cX6_readKind 94 = .ok (.bipush 23, 2) := by decide +kernel
theorem dX6_readKind_96 : decode cX6_readKind 96 = .ok (.invokevirtual 56, 3) := by decide +kernel
theorem dX6_readKind_99 : decode cX6_readKind 99 = .ok (.putfield 142, 3) := by decide +kernel
theorem dX6_readKind_102 : decode cX6_readKind 102 = .ok (.aload_n 1, 1) := by decide +kernel
theorem dX6_readKind_103 : decode cX6_readKind 103 = .ok (.getfield 83, 3) := by decide +kernel
theorem dX6_readKind_106 : decode cX6_readKind 106 = .ok (.istore_n 3, 1) := by decide +kernel
theorem dX6_readKind_107 : decode cX6_readKind 107 = .ok (.aload_n 2, 1) := by decide +kernel
theorem dX6_readKind_108 : decode cX6_readKind 108 = .ok (.aload_n 0, 1) := by decide +kernel
theorem dX6_readKind_109 : decode cX6_readKind 109 = .ok (.aload_n 1, 1) := by decide +kernel
theorem dX6_readKind_110 : decode cX6_readKind 110 = .ok (.iconst 0, 1) := by decide +kernel
theorem dX6_readKind_111 : decode cX6_readKind 111 = .ok (.bipush 23, 2) := by decide +kernel
theorem dX6_readKind_113 : decode cX6_readKind 113 = .ok (.invokevirtual 56, 3) := by decide +kernel
theorem dX6_readKind_116 : decode cX6_readKind 116 = .ok (.putfield 145, 3) := by decide +kernel
theorem dX6_readKind_119 : decode cX6_readKind 119 = .ok (.aload_n 2, 1) := by decide +kernel
theorem dX6_readKind_120 : decode cX6_readKind 120 = .ok (.getfield 145, 3) := by decide +kernel
theorem dX6_readKind_123 : decode cX6_readKind 123 = .ok (.aload_n 2, 1) := by decide +kernel
theorem dX6_readKind_124 : decode cX6_readKind 124 = .ok (.getfield 142, 3) := by decide +kernel
theorem dX6_readKind_127 : decode cX6_readKind 127 = .ok (.if_icmp .ne 9, 3) := by decide +kernel
theorem dX6_readKind_130 : decode cX6_readKind 130 = .ok (.aload_n 0, 1) := by decide +kernel
theorem dX6_readKind_131 : decode cX6_readKind 131 = .ok (.iload_n 3, 1) := by decide +kernel
theorem dX6_readKind_132 : decode cX6_readKind 132 = .ok (.iconst 2, 1) := by decide +kernel
theorem dX6_readKind_133 : decode cX6_readKind 133 = .ok (.invokevirtual 86, 3) := by decide +kernel
theorem dX6_readKind_136 : decode cX6_readKind 136 = .ok (.return_, 1) := by decide +kernel
set_option maxRecDepth 20000 in
theorem ggX6_kindOf_X9_tells : GoodIn wsX6_kindOf wsX9_tells := goodIn_r _ [5, 6, 7, 8, 9, 10, 11, 12, 13, 14, 15, 16, 17, 18, 19, 20, 21, 22, 23, 24, 25, 26, 27, 28, 29, 30, 31, 32, 33, 34, 35, 36, 37, 38, 39, 40, 41, 42, 43, 44, 45, 46, 47, 48, 49, 50, 51, 52, 53, 54, 55, 56, 57, 58, 59, 60, 61, 62, 63, 64] (by decide +kernel) (by decide +kernel)
set_option maxRecDepth 20000 in
theorem gX6_kindOf_X9_tells : GoodIn wsX6_kindOf (wsV RX6 38 RX9 yX9_tells wsX9_tells) := goodIn_app (goodIn_of _ (by decide +kernel)) ggX6_kindOf_X9_tells
theorem dX6_kindOf_0 : decode cX6_kindOf 0 = .ok (.aload_n 0, 1) := by decide +kernel
theorem dX6_kindOf_1 : decode cX6_kindOf 1 = .ok (.ldc 155, 2) := by decide +kernel
theorem dX6_kindOf_3 : decode cX6_kindOf 3 = .ok (.invokevirtual 38, 3) := by decide +kernel
theorem dX6_kindOf_6 : decode cX6_kindOf 6 = .ok (.ifCond .eq 7, 3) := by decide +kernel
theorem dX6_kindOf_9 : decode cX6_kindOf 9 = .ok (.iconst 0, 1) := by decide +kernel
theorem dX6_kindOf_10 : decode cX6_kindOf 10 = .ok (.goto 56, 3) := by decide +kernel
theorem dX6_kindOf_13 : decode cX6_kindOf 13 = .ok (.aload_n 0, 1) := by decide +kernel
theorem dX6_kindOf_14 : decode cX6_kindOf 14 = .ok (.ldc 157, 2) := by decide +kernel
theorem dX6_kindOf_16 : decode cX6_kindOf 16 = .ok (.invokevirtual 38, 3) := by decide +kernel
theorem dX6_kindOf_19 : decode cX6_kindOf 19 = .ok (.ifCond .eq 7, 3) := by decide +kernel
theorem dX6_kindOf_22 : decode cX6_kindOf 22 = .ok (.iconst 1, 1) := by decide +kernel
theorem dX6_kindOf_23 : decode cX6_kindOf 23 = .ok (.goto 43, 3) := by decide +kernel
theorem dX6_kindOf_26 : decode cX6_kindOf 26 = .ok (.aload_n 0, 1) := by decide +kernel
theorem dX6_kindOf_27 : decode cX6_kindOf 27 = .ok (.ldc 159, 2) := by decide +kernel
theorem dX6_kindOf_29 : decode cX6_kindOf 29 = .ok (.invokevirtual 38, 3) := by decide +kernel
theorem dX6_kindOf_32 : decode cX6_kindOf 32 = .ok (.ifCond .eq 7, 3) := by decide +kernel
theorem dX6_kindOf_35 : decode cX6_kindOf 35 = .ok (.iconst 2, 1) := by decide +kernel
theorem dX6_kindOf_36 : decode cX6_kindOf 36 = .ok (.goto 30, 3) := by decide +kernel
theorem dX6_kindOf_39 : decode cX6_kindOf 39 = .ok (.aload_n 0, 1) := by decide +kernel
theorem dX6_kindOf_40 : decode cX6_kindOf 40 = .ok (.ldc 161, 2) := by decide +kernel
theorem dX6_kindOf_42 : decode cX6_kindOf 42 = .ok (.invokevirtual 38, 3) := by decide +kernel
theorem dX6_kindOf_45 : decode cX6_kindOf 45 = .ok (.ifCond .eq 7, 3) := by decide +kernel
theorem dX6_kindOf_48 : decode cX6_kindOf 48 = .ok (.iconst 3, 1) := by decide +kernel
theorem dX6_kindOf_49 : decode cX6_kindOf 49 = .ok (.goto 17, 3) := by decide +kernel
theorem dX6_kindOf_52 : decode cX6_kindOf 52 = .ok (.aload_n 0, 1) := by decide +kernel
theorem dX6_kindOf_53 : decode cX6_kindOf 53 = .ok (.ldc 45, 2) := by decide +kernel
theorem dX6_kindOf_55 : decode cX6_kindOf 55 = .ok (.invokevirtual 38, 3) := by decide +kernel
theorem dX6_kindOf_58 : decode cX6_kindOf 58 = .ok (.ifCond .eq 7, 3) := by decide +kernel
theorem dX6_kindOf_61 : decode cX6_kindOf 61 = .ok (.iconst 4, 1) := by decide +kernel
theorem dX6_kindOf_62 : decode cX6_kindOf 62 = .ok (.goto 4, 3) := by decide +kernel
theorem dX6_kindOf_65 : decode cX6_kindOf 65 = .ok (.iconst (-1), 1) := by decide +kernel
theorem dX6_kindOf_66 : decode cX6_kindOf 66 = .ok (.ireturn, 1) := by decide +kernel
set_option maxRecDepth 20000 in
theorem ggX6_passOnce_X6_refuse : GoodIn wsX6_passOnce wsX6_refuse := goodIn_r _ [7, 8, 33, 34] (by decide +kernel) (by decide +kernel)
set_option maxRecDepth 20000 in
theorem gX6_passOnce_X6_refuse : GoodIn wsX6_passOnce (wsV RX6 86 RX6 yX6_refuse wsX6_refuse) := goodIn_app (goodIn_of _ (by decide +kernel)) ggX6_passOnce_X6_refuse
set_option maxRecDepth 20000 in
theorem ggX6_passOnce_X6_passIf : GoodIn wsX6_passOnce wsX6_passIf := goodIn_r _ [12, 2, 8, 3, 4, 5, 6, 7, 13, 14, 15, 16, 17, 18, 19, 20, 21, 22, 23, 24, 25, 26, 27, 28, 29, 30, 31, 32, 35, 36, 37, 38, 39, 40, 33, 34] (by decide +kernel) (by decide +kernel)
set_option maxRecDepth 20000 in
theorem gX6_passOnce_X6_passIf : GoodIn wsX6_passOnce (wsV RX6 90 RX6 yX6_passIf wsX6_passIf) := goodIn_app (goodIn_of _ (by decide +kernel)) ggX6_passOnce_X6_passIf
theorem dX6_passOnce_0 : decode cX6_passOnce 0 = .ok (.aload_n 0, 1) := by decide +kernel
theorem dX6_passOnce_1 : decode cX6_passOnce 1 = .ok (.getfield 15, 3) := by decide +kernel
theorem dX6_passOnce_4 : decode cX6_passOnce 4 = .ok (.iload_n 2, 1) := by decide +kernel
theorem dX6_passOnce_5 : decode cX6_passOnce 5 = .ok (.iand, 1) := by decide +kernel
theorem dX6_passOnce_6 : decode cX6_passOnce 6 = .ok (.ifCond .eq 12, 3) := by decide +kernel
theorem dX6_passOnce_9 : decode cX6_passOnce 9 = .ok (.aload_n 0, 1) := by decide +kernel
theorem dX6_passOnce_10 : decode cX6_passOnce 10 = .ok (.aload_n 1, 1) := by decide +kernel
theorem dX6_passOnce_11 : decode cX6_passOnce 11 = .ok (.getfield 83, 3) := by decide +kernel
theorem dX6_passOnce_14 : decode cX6_passOnce 14 = .ok (.iconst 3, 1) := by decide +kernel
theorem dX6_passOnce_15 : decode cX6_passOnce 15 = .ok (.invokevirtual 86, 3) := by decide +kernel
theorem dX6_passOnce_18 : decode cX6_passOnce 18 = .ok (.aload_n 0, 1) := by decide +kernel
theorem dX6_passOnce_19 : decode cX6_passOnce 19 = .ok (.dup, 1) := by decide +kernel
theorem dX6_passOnce_20 : decode cX6_passOnce 20 = .ok (.getfield 15, 3) := by decide +kernel
theorem dX6_passOnce_23 : decode cX6_passOnce 23 = .ok (.iload_n 2, 1) := by decide +kernel
theorem dX6_passOnce_24 : decode cX6_passOnce 24 = .ok (.ior, 1) := by decide +kernel
theorem dX6_passOnce_25 : decode cX6_passOnce 25 = .ok (.putfield 15, 3) := by decide +kernel
theorem dX6_passOnce_28 : decode cX6_passOnce 28 = .ok (.aload_n 0, 1) := by decide +kernel
theorem dX6_passOnce_29 : decode cX6_passOnce 29 = .ok (.aload_n 1, 1) := by decide +kernel
theorem dX6_passOnce_30 : decode cX6_passOnce 30 = .ok (.iconst 1, 1) := by decide +kernel
theorem dX6_passOnce_31 : decode cX6_passOnce 31 = .ok (.invokevirtual 90, 3) := by decide +kernel
theorem dX6_passOnce_34 : decode cX6_passOnce 34 = .ok (.return_, 1) := by decide +kernel
set_option maxRecDepth 20000 in
theorem ggX6_passIf_X6_refuse : GoodIn wsX6_passIf wsX6_refuse := goodIn_r _ [7, 2, 34, 35] (by decide +kernel) (by decide +kernel)
set_option maxRecDepth 20000 in
theorem gX6_passIf_X6_refuse : GoodIn wsX6_passIf (wsV RX6 86 RX6 yX6_refuse wsX6_refuse) := goodIn_app (goodIn_of _ (by decide +kernel)) ggX6_passIf_X6_refuse
set_option maxRecDepth 20000 in
theorem ggX6_passIf_X9_advance : GoodIn wsX6_passIf wsX9_advance := goodIn_r _ [12, 13, 14, 15, 16, 17, 18, 19, 20, 21, 22, 23, 11, 24, 25, 26, 27, 28, 29, 30, 31, 32, 33] (by decide +kernel) (by decide +kernel)
set_option maxRecDepth 20000 in
theorem gX6_passIf_X9_advance : GoodIn wsX6_passIf (wsV RX6 110 RX9 yX9_advance wsX9_advance) := goodIn_app (goodIn_of _ (by decide +kernel)) ggX6_passIf_X9_advance
theorem dX6_passIf_0 : decode cX6_passIf 0 = .ok (.iload_n 2, 1) := by decide +kernel
theorem dX6_passIf_1 : decode cX6_passIf 1 = .ok (.ifCond .ne 12, 3) := by decide +kernel
theorem dX6_passIf_4 : decode cX6_passIf 4 = .ok (.aload_n 0, 1) := by decide +kernel
theorem dX6_passIf_5 : decode cX6_passIf 5 = .ok (.aload_n 1, 1) := by decide +kernel
theorem dX6_passIf_6 : decode cX6_passIf 6 = .ok (.getfield 83, 3) := by decide +kernel
theorem dX6_passIf_9 : decode cX6_passIf 9 = .ok (.iconst 1, 1) := by decide +kernel
theorem dX6_passIf_10 : decode cX6_passIf 10 = .ok (.invokevirtual 86, 3) := by decide +kernel
theorem dX6_passIf_13 : decode cX6_passIf 13 = .ok (.aload_n 0, 1) := by decide +kernel
theorem dX6_passIf_14 : decode cX6_passIf 14 = .ok (.getfield 9, 3) := by decide +kernel
theorem dX6_passIf_17 : decode cX6_passIf 17 = .ok (.iconst (-1), 1) := by decide +kernel
theorem dX6_passIf_18 : decode cX6_passIf 18 = .ok (.if_icmp .ne 7, 3) := by decide +kernel
theorem dX6_passIf_21 : decode cX6_passIf 21 = .ok (.aload_n 1, 1) := by decide +kernel
theorem dX6_passIf_22 : decode cX6_passIf 22 = .ok (.invokevirtual 110, 3) := by decide +kernel
theorem dX6_passIf_25 : decode cX6_passIf 25 = .ok (.return_, 1) := by decide +kernel
set_option maxRecDepth 20000 in
theorem ggX6_readNumber_X6_refuse : GoodIn wsX6_readNumber wsX6_refuse := goodIn_r _ [8, 3, 39, 40] (by decide +kernel) (by decide +kernel)
set_option maxRecDepth 20000 in
theorem gX6_readNumber_X6_refuse : GoodIn wsX6_readNumber (wsV RX6 86 RX6 yX6_refuse wsX6_refuse) := goodIn_app (goodIn_of _ (by decide +kernel)) ggX6_readNumber_X6_refuse
set_option maxRecDepth 20000 in
theorem ggX6_readNumber_X9_value : GoodIn wsX6_readNumber wsX9_value := goodIn_r _ [13, 14, 15, 16, 33, 34, 35, 36, 37, 38] (by decide +kernel) (by decide +kernel)
set_option maxRecDepth 20000 in
theorem gX6_readNumber_X9_value : GoodIn wsX6_readNumber (wsV RX6 163 RX9 yX9_value wsX9_value) := goodIn_app (goodIn_of _ (by decide +kernel)) ggX6_readNumber_X9_value
set_option maxRecDepth 20000 in
theorem ggX6_readNumber_X9_advance : GoodIn wsX6_readNumber wsX9_advance := goodIn_r _ [20, 14, 15, 21, 16, 22, 23, 24, 25, 26, 27, 28, 12, 29, 30, 31, 32, 33, 34, 35, 36, 37, 38] (by decide +kernel) (by decide +kernel)
set_option maxRecDepth 20000 in
theorem gX6_readNumber_X9_advance : GoodIn wsX6_readNumber (wsV RX6 110 RX9 yX9_advance wsX9_advance) := goodIn_app (goodIn_of _ (by decide +kernel)) ggX6_readNumber_X9_advance
theorem dX6_readNumber_0 : decode cX6_readNumber 0 = .ok (.aload_n 1, 1) := by decide +kernel
theorem dX6_readNumber_1 : decode cX6_readNumber 1 = .ok (.getfield 29, 3) := by decide +kernel
theorem dX6_readNumber_4 : decode cX6_readNumber 4 = .ok (.iconst 2, 1) := by decide +kernel
theorem dX6_readNumber_5 : decode cX6_readNumber 5 = .ok (.if_icmp .eq 14, 3) := by decide +kernel
theorem dX6_readNumber_8 : decode cX6_readNumber 8 = .ok (.aload_n 0, 1) := by decide +kernel
theorem dX6_readNumber_9 : decode cX6_readNumber 9 = .ok (.aload_n 1, 1) := by decide +kernel
theorem dX6_readNumber_10 : decode cX6_readNumber 10 = .ok (.getfield 83, 3) := by decide +kernel
theorem dX6_readNumber_13 : decode cX6_readNumber 13 = .ok (.iconst 1, 1) := by decide +kernel
theorem dX6_readNumber_14 : decode cX6_readNumber 14 = .ok (.invokevirtual 86, 3) := by decide +kernel
theorem dX6_readNumber_17 : decode cX6_readNumber 17 = .ok (.iconst (-1), 1) := by decide +kernel
theorem dX6_readNumber_18 : decode cX6_readNumber 18 = .ok (.ireturn, 1) := by decide +kernel
theorem dX6_readNumber_19 : decode cX6_readNumber 19 = .ok (.aload_n 1, 1) := by decide +kernel
theorem dX6_readNumber_20 : decode cX6_readNumber 20 = .ok (.invokevirtual 163, 3) := by decide +kernel
theorem dX6_readNumber_23 : decode cX6_readNumber 23 = .ok (.istore 4, 2) := by decide +kernel
theorem dX6_readNumber_25 : decode cX6_readNumber 25 = .ok (.iload 4, 2) := by decide +kernel
theorem dX6_readNumber_27 : decode cX6_readNumber 27 = .ok (.iload_n 2, 1) := by decide +kernel
theorem dX6_readNumber_28 : decode cX6_readNumber 28 = .ok (.if_icmp .lt 9, 3) := by decide +kernel
theorem dX6_readNumber_31 : decode cX6_readNumber 31 = .ok (.iload 4, 2) := by decide +kernel
theorem dX6_readNumber_33 : decode cX6_readNumber 33 = .ok (.iload_n 3, 1) := by decide +kernel
theorem dX6_readNumber_34 : decode cX6_readNumber 34 = .ok (.if_icmp .le 12, 3) := by decide +kernel
theorem dX6_readNumber_37 : decode cX6_readNumber 37 = .ok (.aload_n 0, 1) := by decide +kernel
theorem dX6_readNumber_38 : decode cX6_readNumber 38 = .ok (.aload_n 1, 1) := by decide +kernel
theorem dX6_readNumber_39 : decode cX6_readNumber 39 = .ok (.getfield 83, 3) := by decide +kernel
theorem dX6_readNumber_42 : decode cX6_readNumber 42 = .ok (.iconst 2, 1) := by decide +kernel
theorem dX6_readNumber_43 : decode cX6_readNumber 43 = .ok (.invokevirtual 86, 3) := by decide +kernel
theorem dX6_readNumber_46 : decode cX6_readNumber 46 = .ok (.aload_n 0, 1) := by decide +kernel
theorem dX6_readNumber_47 : decode cX6_readNumber 47 = .ok (.getfield 9, 3) := by decide +kernel
theorem dX6_readNumber_50 : decode cX6_readNumber 50 = .ok (.iconst (-1), 1) := by decide +kernel
theorem dX6_readNumber_51 : decode cX6_readNumber 51 = .ok (.if_icmp .ne 7, 3) := by decide +kernel
theorem dX6_readNumber_54 : decode cX6_readNumber 54 = .ok (.aload_n 1, 1) := by decide +kernel
theorem dX6_readNumber_55 : decode cX6_readNumber 55 = .ok (.invokevirtual 110, 3) := by decide +kernel
theorem dX6_readNumber_58 : decode cX6_readNumber 58 = .ok (.iload 4, 2) := by decide +kernel
theorem dX6_readNumber_60 : decode cX6_readNumber 60 = .ok (.ireturn, 1) := by decide +kernel
theorem dX6_refuse_0 : decode cX6_refuse 0 = .ok (.aload_n 0, 1) := by decide +kernel
theorem dX6_refuse_1 : decode cX6_refuse 1 = .ok (.getfield 9, 3) := by decide +kernel
theorem dX6_refuse_4 : decode cX6_refuse 4 = .ok (.iconst (-1), 1) := by decide +kernel
theorem dX6_refuse_5 : decode cX6_refuse 5 = .ok (.if_icmp .ne 13, 3) := by decide +kernel
theorem dX6_refuse_8 : decode cX6_refuse 8 = .ok (.aload_n 0, 1) := by decide +kernel
theorem dX6_refuse_9 : decode cX6_refuse 9 = .ok (.bipush 8, 2) := by decide +kernel
theorem dX6_refuse_11 : decode cX6_refuse 11 = .ok (.iload_n 1, 1) := by decide +kernel
theorem dX6_refuse_12 : decode cX6_refuse 12 = .ok (.imul, 1) := by decide +kernel
theorem dX6_refuse_13 : decode cX6_refuse 13 = .ok (.iload_n 2, 1) := by decide +kernel
theorem dX6_refuse_14 : decode cX6_refuse 14 = .ok (.iadd, 1) := by decide +kernel
theorem dX6_refuse_15 : decode cX6_refuse 15 = .ok (.putfield 9, 3) := by decide +kernel
theorem dX6_refuse_18 : decode cX6_refuse 18 = .ok (.return_, 1) := by decide +kernel
set_option maxRecDepth 20000 in
theorem ggX7_init_X2_init : GoodIn wsX7_init wsX2_init := goodIn_r _ [15, 16, 2, 3, 17, 18, 19, 41, 42, 43, 44, 45] (by decide +kernel) (by decide +kernel)
set_option maxRecDepth 20000 in
theorem gX7_init_X2_init_n11 : GoodIn wsX7_init (wsX2_init) := ggX7_init_X2_init
set_option maxRecDepth 20000 in
theorem ggX7_init_X5_init : GoodIn wsX7_init wsX5_init := goodIn_r _ [21, 22, 2, 3] (by decide +kernel) (by decide +kernel)
set_option maxRecDepth 20000 in
theorem gX7_init_X5_init_n28 : GoodIn wsX7_init (wsX5_init) := ggX7_init_X5_init
set_option maxRecDepth 20000 in
theorem ggX7_init_X7_clear : GoodIn wsX7_init wsX7_clear := goodIn_r _ [27, 7, 28, 29, 30, 31, 32, 33, 34, 35, 36, 37, 6, 38, 17, 18, 19, 39, 40, 46, 47, 48, 49, 50, 51, 52, 53, 54, 55, 41, 42, 43, 44, 45] (by decide +kernel) (by decide +kernel)
set_option maxRecDepth 20000 in
theorem gX7_init_X7_clear : GoodIn wsX7_init (wsV RX7 29 RX7 yX7_clear wsX7_clear) := goodIn_app (goodIn_of _ (by decide +kernel)) ggX7_init_X7_clear
theorem dX7_init_0 : decode cX7_init 0 = .ok (.aload_n 0, 1) := by decide +kernel
theorem dX7_init_1 : decode cX7_init 1 = .ok (.invokespecial 3, 3) := by decide +kernel
theorem dX7_init_4 : decode cX7_init 4 = .ok (.aload_n 0, 1) := by decide +kernel
theorem dX7_init_5 : decode cX7_init 5 = .ok (.new 9, 3) := by decide +kernel
theorem dX7_init_8 : decode cX7_init 8 = .ok (.dup, 1) := by decide +kernel
theorem dX7_init_9 : decode cX7_init 9 = .ok (.invokespecial 11, 3) := by decide +kernel
theorem dX7_init_12 : decode cX7_init 12 = .ok (.putfield 12, 3) := by decide +kernel
theorem dX7_init_15 : decode cX7_init 15 = .ok (.aload_n 0, 1) := by decide +kernel
theorem dX7_init_16 : decode cX7_init 16 = .ok (.bipush 8, 2) := by decide +kernel
theorem dX7_init_18 : decode cX7_init 18 = .ok (.anewarray 18, 3) := by decide +kernel
theorem dX7_init_21 : decode cX7_init 21 = .ok (.putfield 20, 3) := by decide +kernel
theorem dX7_init_24 : decode cX7_init 24 = .ok (.aload_n 0, 1) := by decide +kernel
theorem dX7_init_25 : decode cX7_init 25 = .ok (.iconst 4, 1) := by decide +kernel
theorem dX7_init_26 : decode cX7_init 26 = .ok (.newarray .int, 2) := by decide +kernel
theorem dX7_init_28 : decode cX7_init 28 = .ok (.putfield 24, 3) := by decide +kernel
theorem dX7_init_31 : decode cX7_init 31 = .ok (.iconst 0, 1) := by decide +kernel
theorem dX7_init_32 : decode cX7_init 32 = .ok (.istore_n 1, 1) := by decide +kernel
theorem dX7_init_33 : decode cX7_init 33 = .ok (.iload_n 1, 1) := by decide +kernel
theorem dX7_init_34 : decode cX7_init 34 = .ok (.bipush 8, 2) := by decide +kernel
theorem dX7_init_36 : decode cX7_init 36 = .ok (.if_icmp .ge 22, 3) := by decide +kernel
theorem dX7_init_39 : decode cX7_init 39 = .ok (.aload_n 0, 1) := by decide +kernel
theorem dX7_init_40 : decode cX7_init 40 = .ok (.getfield 20, 3) := by decide +kernel
theorem dX7_init_43 : decode cX7_init 43 = .ok (.iload_n 1, 1) := by decide +kernel
theorem dX7_init_44 : decode cX7_init 44 = .ok (.new 18, 3) := by decide +kernel
theorem dX7_init_47 : decode cX7_init 47 = .ok (.dup, 1) := by decide +kernel
theorem dX7_init_48 : decode cX7_init 48 = .ok (.invokespecial 28, 3) := by decide +kernel
theorem dX7_init_51 : decode cX7_init 51 = .ok (.aastore, 1) := by decide +kernel
theorem dX7_init_52 : decode cX7_init 52 = .ok (.iinc 1 1, 3) := by decide +kernel
theorem dX7_init_55 : decode cX7_init 55 = .ok (.goto (-22), 3) := by decide +kernel
theorem dX7_init_58 : decode cX7_init 58 = .ok (.aload_n 0, 1) := by decide +kernel
theorem dX7_init_59 : decode cX7_init 59 = .ok (.invokevirtual 29, 3) := by decide +kernel
theorem dX7_init_62 : decode cX7_init 62 = .ok (.return_, 1) := by decide +kernel
set_option maxRecDepth 20000 in
theorem ggX7_clear_X2_set : GoodIn wsX7_clear wsX2_set := goodIn_r _ [13, 14, 15, 16, 17, 18, 29, 30, 31, 32, 33] (by decide +kernel) (by decide +kernel)
set_option maxRecDepth 20000 in
theorem gX7_clear_X2_set : GoodIn wsX7_clear (wsV RX7 32 RX2 yX2_set wsX2_set) := goodIn_app (goodIn_of _ (by decide +kernel)) ggX7_clear_X2_set
theorem dX7_clear_0 : decode cX7_clear 0 = .ok (.aload_n 0, 1) := by decide +kernel
theorem dX7_clear_1 : decode cX7_clear 1 = .ok (.getfield 12, 3) := by decide +kernel
theorem dX7_clear_4 : decode cX7_clear 4 = .ok (.iconst (-1), 1) := by decide +kernel
theorem dX7_clear_5 : decode cX7_clear 5 = .ok (.iconst (-1), 1) := by decide +kernel
theorem dX7_clear_6 : decode cX7_clear 6 = .ok (.iconst (-1), 1) := by decide +kernel
theorem dX7_clear_7 : decode cX7_clear 7 = .ok (.invokevirtual 32, 3) := by decide +kernel
theorem dX7_clear_10 : decode cX7_clear 10 = .ok (.aload_n 0, 1) := by decide +kernel
theorem dX7_clear_11 : decode cX7_clear 11 = .ok (.iconst 0, 1) := by decide +kernel
theorem dX7_clear_12 : decode cX7_clear 12 = .ok (.putfield 36, 3) := by decide +kernel
theorem dX7_clear_15 : decode cX7_clear 15 = .ok (.aload_n 0, 1) := by decide +kernel
theorem dX7_clear_16 : decode cX7_clear 16 = .ok (.iconst 0, 1) := by decide +kernel
theorem dX7_clear_17 : decode cX7_clear 17 = .ok (.putfield 40, 3) := by decide +kernel
theorem dX7_clear_20 : decode cX7_clear 20 = .ok (.aload_n 0, 1) := by decide +kernel
theorem dX7_clear_21 : decode cX7_clear 21 = .ok (.bipush 7, 2) := by decide +kernel
theorem dX7_clear_23 : decode cX7_clear 23 = .ok (.putfield 43, 3) := by decide +kernel
theorem dX7_clear_26 : decode cX7_clear 26 = .ok (.aload_n 0, 1) := by decide +kernel
theorem dX7_clear_27 : decode cX7_clear 27 = .ok (.iconst 0, 1) := by decide +kernel
theorem dX7_clear_28 : decode cX7_clear 28 = .ok (.putfield 46, 3) := by decide +kernel
theorem dX7_clear_31 : decode cX7_clear 31 = .ok (.aload_n 0, 1) := by decide +kernel
theorem dX7_clear_32 : decode cX7_clear 32 = .ok (.iconst 0, 1) := by decide +kernel
theorem dX7_clear_33 : decode cX7_clear 33 = .ok (.putfield 49, 3) := by decide +kernel
theorem dX7_clear_36 : decode cX7_clear 36 = .ok (.aload_n 0, 1) := by decide +kernel
theorem dX7_clear_37 : decode cX7_clear 37 = .ok (.bipush 16, 2) := by decide +kernel
theorem dX7_clear_39 : decode cX7_clear 39 = .ok (.putfield 52, 3) := by decide +kernel
theorem dX7_clear_42 : decode cX7_clear 42 = .ok (.aload_n 0, 1) := by decide +kernel
theorem dX7_clear_43 : decode cX7_clear 43 = .ok (.bipush 100, 2) := by decide +kernel
theorem dX7_clear_45 : decode cX7_clear 45 = .ok (.putfield 55, 3) := by decide +kernel
theorem dX7_clear_48 : decode cX7_clear 48 = .ok (.return_, 1) := by decide +kernel
theorem dX7_isHoliday_0 : decode cX7_isHoliday 0 = .ok (.iconst 0, 1) := by decide +kernel
theorem dX7_isHoliday_1 : decode cX7_isHoliday 1 = .ok (.istore_n 2, 1) := by decide +kernel
theorem dX7_isHoliday_2 : decode cX7_isHoliday 2 = .ok (.iload_n 2, 1) := by decide +kernel
theorem dX7_isHoliday_3 : decode cX7_isHoliday 3 = .ok (.aload_n 0, 1) := by decide +kernel
theorem dX7_isHoliday_4 : decode cX7_isHoliday 4 = .ok (.getfield 40, 3) := by decide +kernel
theorem dX7_isHoliday_7 : decode cX7_isHoliday 7 = .ok (.if_icmp .ge 21, 3) := by decide +kernel
theorem dX7_isHoliday_10 : decode cX7_isHoliday 10 = .ok (.aload_n 0, 1) := by decide +kernel
theorem dX7_isHoliday_11 : decode cX7_isHoliday 11 = .ok (.getfield 24, 3) := by decide +kernel
theorem dX7_isHoliday_14 : decode cX7_isHoliday 14 = .ok (.iload_n 2, 1) := by decide +kernel
theorem dX7_isHoliday_15 : decode cX7_isHoliday 15 = .ok (.iaload, 1) := by decide +kernel
theorem dX7_isHoliday_16 : decode cX7_isHoliday 16 = .ok (.iload_n 1, 1) := by decide +kernel
theorem dX7_isHoliday_17 : decode cX7_isHoliday 17 = .ok (.if_icmp .ne 5, 3) := by decide +kernel
theorem dX7_isHoliday_20 : decode cX7_isHoliday 20 = .ok (.iconst 1, 1) := by decide +kernel
theorem dX7_isHoliday_21 : decode cX7_isHoliday 21 = .ok (.ireturn, 1) := by decide +kernel
theorem dX7_isHoliday_22 : decode cX7_isHoliday 22 = .ok (.iinc 2 1, 3) := by decide +kernel
theorem dX7_isHoliday_25 : decode cX7_isHoliday 25 = .ok (.goto (-23), 3) := by decide +kernel
theorem dX7_isHoliday_28 : decode cX7_isHoliday 28 = .ok (.iconst 0, 1) := by decide +kernel
theorem dX7_isHoliday_29 : decode cX7_isHoliday 29 = .ok (.ireturn, 1) := by decide +kernel
theorem dX7_countsUnder_0 : decode cX7_countsUnder 0 = .ok (.iload_n 1, 1) := by decide +kernel
theorem dX7_countsUnder_1 : decode cX7_countsUnder 1 = .ok (.iconst (-1), 1) := by decide +kernel
theorem dX7_countsUnder_2 : decode cX7_countsUnder 2 = .ok (.if_icmp .eq 15, 3) := by decide +kernel
theorem dX7_countsUnder_5 : decode cX7_countsUnder 5 = .ok (.aload_n 0, 1) := by decide +kernel
theorem dX7_countsUnder_6 : decode cX7_countsUnder 6 = .ok (.getfield 20, 3) := by decide +kernel
theorem dX7_countsUnder_9 : decode cX7_countsUnder 9 = .ok (.iload_n 1, 1) := by decide +kernel
theorem dX7_countsUnder_10 : decode cX7_countsUnder 10 = .ok (.aaload, 1) := by decide +kernel
theorem dX7_countsUnder_11 : decode cX7_countsUnder 11 = .ok (.getfield 58, 3) := by decide +kernel
theorem dX7_countsUnder_14 : decode cX7_countsUnder 14 = .ok (.ifCond .eq 7, 3) := by decide +kernel
theorem dX7_countsUnder_17 : decode cX7_countsUnder 17 = .ok (.iconst 1, 1) := by decide +kernel
theorem dX7_countsUnder_18 : decode cX7_countsUnder 18 = .ok (.goto 4, 3) := by decide +kernel
theorem dX7_countsUnder_21 : decode cX7_countsUnder 21 = .ok (.iconst 0, 1) := by decide +kernel
theorem dX7_countsUnder_22 : decode cX7_countsUnder 22 = .ok (.ireturn, 1) := by decide +kernel
theorem dX7_hundredthsUnder_0 : decode cX7_hundredthsUnder 0 = .ok (.iload_n 1, 1) := by decide +kernel
theorem dX7_hundredthsUnder_1 : decode cX7_hundredthsUnder 1 = .ok (.iconst (-1), 1) := by decide +kernel
theorem dX7_hundredthsUnder_2 : decode cX7_hundredthsUnder 2 = .ok (.if_icmp .ne 7, 3) := by decide +kernel
theorem dX7_hundredthsUnder_5 : decode cX7_hundredthsUnder 5 = .ok (.iconst 0, 1) := by decide +kernel
theorem dX7_hundredthsUnder_6 : decode cX7_hundredthsUnder 6 = .ok (.goto 12, 3) := by decide +kernel
theorem dX7_hundredthsUnder_9 : decode cX7_hundredthsUnder 9 = .ok (.aload_n 0, 1) := by decide +kernel
theorem dX7_hundredthsUnder_10 : decode cX7_hundredthsUnder 10 = .ok (.getfield 20, 3) := by decide +kernel
theorem dX7_hundredthsUnder_13 : decode cX7_hundredthsUnder 13 = .ok (.iload_n 1, 1) := by decide +kernel
theorem dX7_hundredthsUnder_14 : decode cX7_hundredthsUnder 14 = .ok (.aaload, 1) := by decide +kernel
theorem dX7_hundredthsUnder_15 : decode cX7_hundredthsUnder 15 = .ok (.getfield 62, 3) := by decide +kernel
theorem dX7_hundredthsUnder_18 : decode cX7_hundredthsUnder 18 = .ok (.ireturn, 1) := by decide +kernel
theorem dX7_rounded_0 : decode cX7_rounded 0 = .ok (.iload_n 1, 1) := by decide +kernel
theorem dX7_rounded_1 : decode cX7_rounded 1 = .ok (.bipush 15, 2) := by decide +kernel
theorem dX7_rounded_3 : decode cX7_rounded 3 = .ok (.idiv, 1) := by decide +kernel
theorem dX7_rounded_4 : decode cX7_rounded 4 = .ok (.istore_n 2, 1) := by decide +kernel
theorem dX7_rounded_5 : decode cX7_rounded 5 = .ok (.iload_n 1, 1) := by decide +kernel
theorem dX7_rounded_6 : decode cX7_rounded 6 = .ok (.bipush 15, 2) := by decide +kernel
theorem dX7_rounded_8 : decode cX7_rounded 8 = .ok (.irem, 1) := by decide +kernel
theorem dX7_rounded_9 : decode cX7_rounded 9 = .ok (.aload_n 0, 1) := by decide +kernel
theorem dX7_rounded_10 : decode cX7_rounded 10 = .ok (.getfield 43, 3) := by decide +kernel
theorem dX7_rounded_13 : decode cX7_rounded 13 = .ok (.if_icmp .gt 7, 3) := by decide +kernel
theorem dX7_rounded_16 : decode cX7_rounded 16 = .ok (.iload_n 2, 1) := by decide +kernel
theorem dX7_rounded_17 : decode cX7_rounded 17 = .ok (.goto 6, 3) := by decide +kernel
theorem dX7_rounded_20 : decode cX7_rounded 20 = .ok (.iload_n 2, 1) := by decide +kernel
theorem dX7_rounded_21 : decode cX7_rounded 21 = .ok (.iconst 1, 1) := by decide +kernel
theorem dX7_rounded_22 : decode cX7_rounded 22 = .ok (.iadd, 1) := by decide +kernel
theorem dX7_rounded_23 : decode cX7_rounded 23 = .ok (.ireturn, 1) := by decide +kernel
set_option maxRecDepth 20000 in
theorem ggX7_steadyBits_X5_isAtNight : GoodIn wsX7_steadyBits wsX5_isAtNight := goodIn_r _ [9, 10, 11, 22, 23, 24, 25, 26] (by decide +kernel) (by decide +kernel)
set_option maxRecDepth 20000 in
theorem gX7_steadyBits_X5_isAtNight : GoodIn wsX7_steadyBits (wsV RX7 71 RX5 yX5_isAtNight wsX5_isAtNight) := goodIn_app (goodIn_of _ (by decide +kernel)) ggX7_steadyBits_X5_isAtNight
theorem dX7_steadyBits_0 : decode cX7_steadyBits 0 = .ok (.iconst 0, 1) := by decide +kernel
theorem dX7_steadyBits_1 : decode cX7_steadyBits 1 = .ok (.istore 5, 2) := by decide +kernel
theorem dX7_steadyBits_3 : decode cX7_steadyBits 3 = .ok (.iconst 0, 1) := by decide +kernel
theorem dX7_steadyBits_4 : decode cX7_steadyBits 4 = .ok (.istore 6, 2) := by decide +kernel
theorem dX7_steadyBits_6 : decode cX7_steadyBits 6 = .ok (.iload 6, 2) := by decide +kernel
theorem dX7_steadyBits_8 : decode cX7_steadyBits 8 = .ok (.aload_n 0, 1) := by decide +kernel
theorem dX7_steadyBits_9 : decode cX7_steadyBits 9 = .ok (.getfield 36, 3) := by decide +kernel
theorem dX7_steadyBits_12 : decode cX7_steadyBits 12 = .ok (.if_icmp .ge 89, 3) := by decide +kernel
theorem dX7_steadyBits_15 : decode cX7_steadyBits 15 = .ok (.aload_n 0, 1) := by decide +kernel
theorem dX7_steadyBits_16 : decode cX7_steadyBits 16 = .ok (.getfield 20, 3) := by decide +kernel
theorem dX7_steadyBits_19 : decode cX7_steadyBits 19 = .ok (.iload 6, 2) := by decide +kernel
theorem dX7_steadyBits_21 : decode cX7_steadyBits 21 = .ok (.aaload, 1) := by decide +kernel
theorem dX7_steadyBits_22 : decode cX7_steadyBits 22 = .ok (.astore 7, 2) := by decide +kernel
theorem dX7_steadyBits_24 : decode cX7_steadyBits 24 = .ok (.aload 7, 2) := by decide +kernel
theorem dX7_steadyBits_26 : decode cX7_steadyBits 26 = .ok (.getfield 65, 3) := by decide +kernel
theorem dX7_steadyBits_29 : decode cX7_steadyBits 29 = .ok (.ifCond .ne 12, 3) := by decide +kernel
theorem dX7_steadyBits_32 : decode cX7_steadyBits 32 = .ok (.iload_n 2, 1) := by decide +kernel
theorem dX7_steadyBits_33 : decode cX7_steadyBits 33 = .ok (.aload 7, 2) := by decide +kernel
theorem dX7_steadyBits_35 : decode cX7_steadyBits 35 = .ok (.getfield 68, 3) := by decide +kernel
theorem dX7_steadyBits_38 : decode cX7_steadyBits 38 = .ok (.if_icmp .ge 48, 3) := by decide +kernel
theorem dX7_steadyBits_41 : decode cX7_steadyBits 41 = .ok (.aload 7, 2) := by decide +kernel
theorem dX7_steadyBits_43 : decode cX7_steadyBits 43 = .ok (.getfield 65, 3) := by decide +kernel
theorem dX7_steadyBits_46 : decode cX7_steadyBits 46 = .ok (.iconst 2, 1) := by decide +kernel
theorem dX7_steadyBits_47 : decode cX7_steadyBits 47 = .ok (.if_icmp .ne 7, 3) := by decide +kernel
theorem dX7_steadyBits_50 : decode cX7_steadyBits 50 = .ok (.iload_n 3, 1) := by decide +kernel
theorem dX7_steadyBits_51 : decode cX7_steadyBits 51 = .ok (.ifCond .ne 35, 3) := by decide +kernel
theorem dX7_steadyBits_54 : decode cX7_steadyBits 54 = .ok (.aload 7, 2) := by decide +kernel
theorem dX7_steadyBits_56 : decode cX7_steadyBits 56 = .ok (.getfield 65, 3) := by decide +kernel
theorem dX7_steadyBits_59 : decode cX7_steadyBits 59 = .ok (.iconst 3, 1) := by decide +kernel
theorem dX7_steadyBits_60 : decode cX7_steadyBits 60 = .ok (.if_icmp .ne 12, 3) := by decide +kernel
theorem dX7_steadyBits_63 : decode cX7_steadyBits 63 = .ok (.aload 7, 2) := by decide +kernel
theorem dX7_steadyBits_65 : decode cX7_steadyBits 65 = .ok (.iload_n 1, 1) := by decide +kernel
theorem dX7_steadyBits_66 : decode cX7_steadyBits 66 = .ok (.invokevirtual 71, 3) := by decide +kernel
theorem dX7_steadyBits_69 : decode cX7_steadyBits 69 = .ok (.ifCond .ne 17, 3) := by decide +kernel
theorem dX7_steadyBits_72 : decode cX7_steadyBits 72 = .ok (.aload 7, 2) := by decide +kernel
theorem dX7_steadyBits_74 : decode cX7_steadyBits 74 = .ok (.getfield 65, 3) := by decide +kernel
theorem dX7_steadyBits_77 : decode cX7_steadyBits 77 = .ok (.iconst 4, 1) := by decide +kernel
theorem dX7_steadyBits_78 : decode cX7_steadyBits 78 = .ok (.if_icmp .ne 17, 3) := by decide +kernel
theorem dX7_steadyBits_81 : decode cX7_steadyBits 81 = .ok (.iload 4, 2) := by decide +kernel
theorem dX7_steadyBits_83 : decode cX7_steadyBits 83 = .ok (.ifCond .eq 12, 3) := by decide +kernel
theorem dX7_steadyBits_86 : decode cX7_steadyBits 86 = .ok (.iload 5, 2) := by decide +kernel
theorem dX7_steadyBits_88 : decode cX7_steadyBits 88 = .ok (.iconst 1, 1) := by decide +kernel
theorem dX7_steadyBits_89 : decode cX7_steadyBits 89 = .ok (.iload 6, 2) := by decide +kernel
theorem dX7_steadyBits_91 : decode cX7_steadyBits 91 = .ok (.ishl, 1) := by decide +kernel
theorem dX7_steadyBits_92 : decode cX7_steadyBits 92 = .ok (.ior, 1) := by decide +kernel
theorem dX7_steadyBits_93 : decode cX7_steadyBits 93 = .ok (.istore 5, 2) := by decide +kernel
theorem dX7_steadyBits_95 : decode cX7_steadyBits 95 = .ok (.iinc 6 1, 3) := by decide +kernel
theorem dX7_steadyBits_98 : decode cX7_steadyBits 98 = .ok (.goto (-92), 3) := by decide +kernel
theorem dX7_steadyBits_101 : decode cX7_steadyBits 101 = .ok (.iload 5, 2) := by decide +kernel
theorem dX7_steadyBits_103 : decode cX7_steadyBits 103 = .ok (.ireturn, 1) := by decide +kernel
theorem dX7_weekBits_0 : decode cX7_weekBits 0 = .ok (.iconst 0, 1) := by decide +kernel
theorem dX7_weekBits_1 : decode cX7_weekBits 1 = .ok (.istore_n 2, 1) := by decide +kernel
theorem dX7_weekBits_2 : decode cX7_weekBits 2 = .ok (.iconst 0, 1) := by decide +kernel
theorem dX7_weekBits_3 : decode cX7_weekBits 3 = .ok (.istore_n 3, 1) := by decide +kernel
theorem dX7_weekBits_4 : decode cX7_weekBits 4 = .ok (.iload_n 3, 1) := by decide +kernel
theorem dX7_weekBits_5 : decode cX7_weekBits 5 = .ok (.aload_n 0, 1) := by decide +kernel
theorem dX7_weekBits_6 : decode cX7_weekBits 6 = .ok (.getfield 36, 3) := by decide +kernel
theorem dX7_weekBits_9 : decode cX7_weekBits 9 = .ok (.if_icmp .ge 41, 3) := by decide +kernel
theorem dX7_weekBits_12 : decode cX7_weekBits 12 = .ok (.aload_n 0, 1) := by decide +kernel
theorem dX7_weekBits_13 : decode cX7_weekBits 13 = .ok (.getfield 20, 3) := by decide +kernel
theorem dX7_weekBits_16 : decode cX7_weekBits 16 = .ok (.iload_n 3, 1) := by decide +kernel
theorem dX7_weekBits_17 : decode cX7_weekBits 17 = .ok (.aaload, 1) := by decide +kernel
theorem dX7_weekBits_18 : decode cX7_weekBits 18 = .ok (.getfield 65, 3) := by decide +kernel
theorem dX7_weekBits_21 : decode cX7_weekBits 21 = .ok (.iconst 1, 1) := by decide +kernel
theorem dX7_weekBits_22 : decode cX7_weekBits 22 = .ok (.if_icmp .ne 22, 3) := by decide +kernel
theorem dX7_weekBits_25 : decode cX7_weekBits 25 = .ok (.iload_n 1, 1) := by decide +kernel
theorem dX7_weekBits_26 : decode cX7_weekBits 26 = .ok (.aload_n 0, 1) := by decide +kernel
theorem dX7_weekBits_27 : decode cX7_weekBits 27 = .ok (.getfield 20, 3) := by decide +kernel
theorem dX7_weekBits_30 : decode cX7_weekBits 30 = .ok (.iload_n 3, 1) := by decide +kernel
theorem dX7_weekBits_31 : decode cX7_weekBits 31 = .ok (.aaload, 1) := by decide +kernel
theorem dX7_weekBits_32 : decode cX7_weekBits 32 = .ok (.getfield 68, 3) := by decide +kernel
theorem dX7_weekBits_35 : decode cX7_weekBits 35 = .ok (.if_icmp .lt 9, 3) := by decide +kernel
theorem dX7_weekBits_38 : decode cX7_weekBits 38 = .ok (.iload_n 2, 1) := by decide +kernel
theorem dX7_weekBits_39 : decode cX7_weekBits 39 = .ok (.iconst 1, 1) := by decide +kernel
theorem dX7_weekBits_40 : decode cX7_weekBits 40 = .ok (.iload_n 3, 1) := by decide +kernel
theorem dX7_weekBits_41 : decode cX7_weekBits 41 = .ok (.ishl, 1) := by decide +kernel
theorem dX7_weekBits_42 : decode cX7_weekBits 42 = .ok (.ior, 1) := by decide +kernel
theorem dX7_weekBits_43 : decode cX7_weekBits 43 = .ok (.istore_n 2, 1) := by decide +kernel
theorem dX7_weekBits_44 : decode cX7_weekBits 44 = .ok (.iinc 3 1, 3) := by decide +kernel
theorem dX7_weekBits_47 : decode cX7_weekBits 47 = .ok (.goto (-43), 3) := by decide +kernel
theorem dX7_weekBits_50 : decode cX7_weekBits 50 = .ok (.iload_n 2, 1) := by decide +kernel
theorem dX7_weekBits_51 : decode cX7_weekBits 51 = .ok (.ireturn, 1) := by decide +kernel
set_option maxRecDepth 20000 in
theorem ggX7_dearestOf_X7_hundredthsUnder : GoodIn wsX7_dearestOf wsX7_hundredthsUnder := goodIn_r _ [6, 7, 8, 9, 10, 11, 12, 13, 14, 15, 16, 17, 18, 19, 20, 21, 22, 23] (by decide +kernel) (by decide +kernel)
set_option maxRecDepth 20000 in
theorem gX7_dearestOf_X7_hundredthsUnder : GoodIn wsX7_dearestOf (wsV RX7 75 RX7 yX7_hundredthsUnder wsX7_hundredthsUnder) := goodIn_app (goodIn_of _ (by decide +kernel)) ggX7_dearestOf_X7_hundredthsUnder
theorem dX7_dearestOf_0 : decode cX7_dearestOf 0 = .ok (.iconst (-1), 1) := by decide +kernel
theorem dX7_dearestOf_1 : decode cX7_dearestOf 1 = .ok (.istore_n 2, 1) := by decide +kernel
theorem dX7_dearestOf_2 : decode cX7_dearestOf 2 = .ok (.iconst 0, 1) := by decide +kernel
theorem dX7_dearestOf_3 : decode cX7_dearestOf 3 = .ok (.istore_n 3, 1) := by decide +kernel
theorem dX7_dearestOf_4 : decode cX7_dearestOf 4 = .ok (.iload_n 3, 1) := by decide +kernel
theorem dX7_dearestOf_5 : decode cX7_dearestOf 5 = .ok (.aload_n 0, 1) := by decide +kernel
theorem dX7_dearestOf_6 : decode cX7_dearestOf 6 = .ok (.getfield 36, 3) := by decide +kernel
theorem dX7_dearestOf_9 : decode cX7_dearestOf 9 = .ok (.if_icmp .ge 32, 3) := by decide +kernel
theorem dX7_dearestOf_12 : decode cX7_dearestOf 12 = .ok (.iload_n 1, 1) := by decide +kernel
theorem dX7_dearestOf_13 : decode cX7_dearestOf 13 = .ok (.iload_n 3, 1) := by decide +kernel
theorem dX7_dearestOf_14 : decode cX7_dearestOf 14 = .ok (.ishr, 1) := by decide +kernel
theorem dX7_dearestOf_15 : decode cX7_dearestOf 15 = .ok (.iconst 1, 1) := by decide +kernel
theorem dX7_dearestOf_16 : decode cX7_dearestOf 16 = .ok (.iand, 1) := by decide +kernel
theorem dX7_dearestOf_17 : decode cX7_dearestOf 17 = .ok (.ifCond .eq 18, 3) := by decide +kernel
theorem dX7_dearestOf_20 : decode cX7_dearestOf 20 = .ok (.aload_n 0, 1) := by decide +kernel
theorem dX7_dearestOf_21 : decode cX7_dearestOf 21 = .ok (.iload_n 3, 1) := by decide +kernel
theorem dX7_dearestOf_22 : decode cX7_dearestOf 22 = .ok (.invokevirtual 75, 3) := by decide +kernel
theorem dX7_dearestOf_25 : decode cX7_dearestOf 25 = .ok (.aload_n 0, 1) := by decide +kernel
theorem dX7_dearestOf_26 : decode cX7_dearestOf 26 = .ok (.iload_n 2, 1) := by decide +kernel
theorem dX7_dearestOf_27 : decode cX7_dearestOf 27 = .ok (.invokevirtual 75, 3) := by decide +kernel
theorem dX7_dearestOf_30 : decode cX7_dearestOf 30 = .ok (.if_icmp .le 5, 3) := by decide +kernel
theorem dX7_dearestOf_33 : decode cX7_dearestOf 33 = .ok (.iload_n 3, 1) := by decide +kernel
theorem dX7_dearestOf_34 : decode cX7_dearestOf 34 = .ok (.istore_n 2, 1) := by decide +kernel
theorem dX7_dearestOf_35 : decode cX7_dearestOf 35 = .ok (.iinc 3 1, 3) := by decide +kernel
theorem dX7_dearestOf_38 : decode cX7_dearestOf 38 = .ok (.goto (-34), 3) := by decide +kernel
theorem dX7_dearestOf_41 : decode cX7_dearestOf 41 = .ok (.iload_n 2, 1) := by decide +kernel
theorem dX7_dearestOf_42 : decode cX7_dearestOf 42 = .ok (.ireturn, 1) := by decide +kernel
theorem dX7_mostOf_0 : decode cX7_mostOf 0 = .ok (.iload_n 3, 1) := by decide +kernel
theorem dX7_mostOf_1 : decode cX7_mostOf 1 = .ok (.istore 4, 2) := by decide +kernel
theorem dX7_mostOf_3 : decode cX7_mostOf 3 = .ok (.iconst 0, 1) := by decide +kernel
theorem dX7_mostOf_4 : decode cX7_mostOf 4 = .ok (.istore 5, 2) := by decide +kernel
theorem dX7_mostOf_6 : decode cX7_mostOf 6 = .ok (.iload 5, 2) := by decide +kernel
theorem dX7_mostOf_8 : decode cX7_mostOf 8 = .ok (.aload_n 0, 1) := by decide +kernel
theorem dX7_mostOf_9 : decode cX7_mostOf 9 = .ok (.getfield 36, 3) := by decide +kernel
theorem dX7_mostOf_12 : decode cX7_mostOf 12 = .ok (.if_icmp .ge 49, 3) := by decide +kernel
theorem dX7_mostOf_15 : decode cX7_mostOf 15 = .ok (.iload_n 1, 1) := by decide +kernel
theorem dX7_mostOf_16 : decode cX7_mostOf 16 = .ok (.iload 5, 2) := by decide +kernel
theorem dX7_mostOf_18 : decode cX7_mostOf 18 = .ok (.ishr, 1) := by decide +kernel
theorem dX7_mostOf_19 : decode cX7_mostOf 19 = .ok (.iconst 1, 1) := by decide +kernel
theorem dX7_mostOf_20 : decode cX7_mostOf 20 = .ok (.iand, 1) := by decide +kernel
theorem dX7_mostOf_21 : decode cX7_mostOf 21 = .ok (.ifCond .eq 34, 3) := by decide +kernel
theorem dX7_mostOf_24 : decode cX7_mostOf 24 = .ok (.aload_n 0, 1) := by decide +kernel
theorem dX7_mostOf_25 : decode cX7_mostOf 25 = .ok (.getfield 20, 3) := by decide +kernel
theorem dX7_mostOf_28 : decode cX7_mostOf 28 = .ok (.iload 5, 2) := by decide +kernel
theorem dX7_mostOf_30 : decode cX7_mostOf 30 = .ok (.aaload, 1) := by decide +kernel
theorem dX7_mostOf_31 : decode cX7_mostOf 31 = .ok (.getfield 58, 3) := by decide +kernel
theorem dX7_mostOf_34 : decode cX7_mostOf 34 = .ok (.iload_n 2, 1) := by decide +kernel
theorem dX7_mostOf_35 : decode cX7_mostOf 35 = .ok (.if_icmp .ne 20, 3) := by decide +kernel
theorem dX7_mostOf_38 : decode cX7_mostOf 38 = .ok (.iload 4, 2) := by decide +kernel
theorem dX7_mostOf_40 : decode cX7_mostOf 40 = .ok (.aload_n 0, 1) := by decide +kernel
theorem dX7_mostOf_41 : decode cX7_mostOf 41 = .ok (.getfield 20, 3) := by decide +kernel
theorem dX7_mostOf_44 : decode cX7_mostOf 44 = .ok (.iload 5, 2) := by decide +kernel
theorem dX7_mostOf_46 : decode cX7_mostOf 46 = .ok (.aaload, 1) := by decide +kernel
theorem dX7_mostOf_47 : decode cX7_mostOf 47 = .ok (.getfield 62, 3) := by decide +kernel
theorem dX7_mostOf_50 : decode cX7_mostOf 50 = .ok (.invokestatic 79, 3) := by decide +kernel
theorem dX7_mostOf_53 : decode cX7_mostOf 53 = .ok (.istore 4, 2) := by decide +kernel
theorem dX7_mostOf_55 : decode cX7_mostOf 55 = .ok (.iinc 5 1, 3) := by decide +kernel
theorem dX7_mostOf_58 : decode cX7_mostOf 58 = .ok (.goto (-52), 3) := by decide +kernel
theorem dX7_mostOf_61 : decode cX7_mostOf 61 = .ok (.iload 4, 2) := by decide +kernel
theorem dX7_mostOf_63 : decode cX7_mostOf 63 = .ok (.ireturn, 1) := by decide +kernel
theorem dX7_largestWeekBelow_0 : decode cX7_largestWeekBelow 0 = .ok (.iconst 0, 1) := by decide +kernel
theorem dX7_largestWeekBelow_1 : decode cX7_largestWeekBelow 1 = .ok (.istore_n 3, 1) := by decide +kernel
theorem dX7_largestWeekBelow_2 : decode cX7_largestWeekBelow 2 = .ok (.iconst 0, 1) := by decide +kernel
theorem dX7_largestWeekBelow_3 : decode cX7_largestWeekBelow 3 = .ok (.istore 4, 2) := by decide +kernel
theorem dX7_largestWeekBelow_5 : decode cX7_largestWeekBelow 5 = .ok (.iload 4, 2) := by decide +kernel
theorem dX7_largestWeekBelow_7 : decode cX7_largestWeekBelow 7 = .ok (.aload_n 0, 1) := by decide +kernel
theorem dX7_largestWeekBelow_8 : decode cX7_largestWeekBelow 8 = .ok (.getfield 36, 3) := by decide +kernel
theorem dX7_largestWeekBelow_11 : decode cX7_largestWeekBelow 11 = .ok (.if_icmp .ge 61, 3) := by decide +kernel
theorem dX7_largestWeekBelow_14 : decode cX7_largestWeekBelow 14 = .ok (.iload_n 2, 1) := by decide +kernel
theorem dX7_largestWeekBelow_15 : decode cX7_largestWeekBelow 15 = .ok (.iload 4, 2) := by decide +kernel
theorem dX7_largestWeekBelow_17 : decode cX7_largestWeekBelow 17 = .ok (.ishr, 1) := by decide +kernel
theorem dX7_largestWeekBelow_18 : decode cX7_largestWeekBelow 18 = .ok (.iconst 1, 1) := by decide +kernel
theorem dX7_largestWeekBelow_19 : decode cX7_largestWeekBelow 19 = .ok (.iand, 1) := by decide +kernel
theorem dX7_largestWeekBelow_20 : decode cX7_largestWeekBelow 20 = .ok (.ifCond .eq 46, 3) := by decide +kernel
theorem dX7_largestWeekBelow_23 : decode cX7_largestWeekBelow 23 = .ok (.aload_n 0, 1) := by decide +kernel
theorem dX7_largestWeekBelow_24 : decode cX7_largestWeekBelow 24 = .ok (.getfield 20, 3) := by decide +kernel
theorem dX7_largestWeekBelow_27 : decode cX7_largestWeekBelow 27 = .ok (.iload 4, 2) := by decide +kernel
theorem dX7_largestWeekBelow_29 : decode cX7_largestWeekBelow 29 = .ok (.aaload, 1) := by decide +kernel
theorem dX7_largestWeekBelow_30 : decode cX7_largestWeekBelow 30 = .ok (.getfield 65, 3) := by decide +kernel
theorem dX7_largestWeekBelow_33 : decode cX7_largestWeekBelow 33 = .ok (.iconst 1, 1) := by decide +kernel
theorem dX7_largestWeekBelow_34 : decode cX7_largestWeekBelow 34 = .ok (.if_icmp .ne 32, 3) := by decide +kernel
theorem dX7_largestWeekBelow_37 : decode cX7_largestWeekBelow 37 = .ok (.aload_n 0, 1) := by decide +kernel
theorem dX7_largestWeekBelow_38 : decode cX7_largestWeekBelow 38 = .ok (.getfield 20, 3) := by decide +kernel
theorem dX7_largestWeekBelow_41 : decode cX7_largestWeekBelow 41 = .ok (.iload 4, 2) := by decide +kernel
theorem dX7_largestWeekBelow_43 : decode cX7_largestWeekBelow 43 = .ok (.aaload, 1) := by decide +kernel
theorem dX7_largestWeekBelow_44 : decode cX7_largestWeekBelow 44 = .ok (.getfield 68, 3) := by decide +kernel
theorem dX7_largestWeekBelow_47 : decode cX7_largestWeekBelow 47 = .ok (.iload_n 1, 1) := by decide +kernel
theorem dX7_largestWeekBelow_48 : decode cX7_largestWeekBelow 48 = .ok (.if_icmp .ge 18, 3) := by decide +kernel
theorem dX7_largestWeekBelow_51 : decode cX7_largestWeekBelow 51 = .ok (.iload_n 3, 1) := by decide +kernel
theorem dX7_largestWeekBelow_52 : decode cX7_largestWeekBelow 52 = .ok (.aload_n 0, 1) := by decide +kernel
theorem dX7_largestWeekBelow_53 : decode cX7_largestWeekBelow 53 = .ok (.getfield 20, 3) := by decide +kernel
theorem dX7_largestWeekBelow_56 : decode cX7_largestWeekBelow 56 = .ok (.iload 4, 2) := by decide +kernel
theorem dX7_largestWeekBelow_58 : decode cX7_largestWeekBelow 58 = .ok (.aaload, 1) := by decide +kernel
theorem dX7_largestWeekBelow_59 : decode cX7_largestWeekBelow 59 = .ok (.getfield 68, 3) := by decide +kernel
theorem dX7_largestWeekBelow_62 : decode cX7_largestWeekBelow 62 = .ok (.invokestatic 79, 3) := by decide +kernel
theorem dX7_largestWeekBelow_65 : decode cX7_largestWeekBelow 65 = .ok (.istore_n 3, 1) := by decide +kernel
theorem dX7_largestWeekBelow_66 : decode cX7_largestWeekBelow 66 = .ok (.iinc 4 1, 3) := by decide +kernel
theorem dX7_largestWeekBelow_69 : decode cX7_largestWeekBelow 69 = .ok (.goto (-64), 3) := by decide +kernel
theorem dX7_largestWeekBelow_72 : decode cX7_largestWeekBelow 72 = .ok (.iload_n 3, 1) := by decide +kernel
theorem dX7_largestWeekBelow_73 : decode cX7_largestWeekBelow 73 = .ok (.ireturn, 1) := by decide +kernel
set_option maxRecDepth 20000 in
theorem ggX8_init_X4_init : GoodIn wsX8_init wsX4_init := goodIn_r _ [20, 21, 2, 3, 5, 22, 23, 38, 39, 40] (by decide +kernel) (by decide +kernel)
set_option maxRecDepth 20000 in
theorem gX8_init_X4_init_n39 : GoodIn wsX8_init (wsX4_init) := ggX8_init_X4_init
theorem dX8_init_0 : decode cX8_init 0 = .ok (.aload_n 0, 1) := by decide +kernel
theorem dX8_init_1 : decode cX8_init 1 = .ok (.invokespecial 3, 3) := by decide +kernel
theorem dX8_init_4 : decode cX8_init 4 = .ok (.aload_n 0, 1) := by decide +kernel
theorem dX8_init_5 : decode cX8_init 5 = .ok (.iconst 1, 1) := by decide +kernel
theorem dX8_init_6 : decode cX8_init 6 = .ok (.putfield 9, 3) := by decide +kernel
theorem dX8_init_9 : decode cX8_init 9 = .ok (.aload_n 0, 1) := by decide +kernel
theorem dX8_init_10 : decode cX8_init 10 = .ok (.bipush 60, 2) := by decide +kernel
theorem dX8_init_12 : decode cX8_init 12 = .ok (.newarray .int, 2) := by decide +kernel
theorem dX8_init_14 : decode cX8_init 14 = .ok (.putfield 15, 3) := by decide +kernel
theorem dX8_init_17 : decode cX8_init 17 = .ok (.aload_n 0, 1) := by decide +kernel
theorem dX8_init_18 : decode cX8_init 18 = .ok (.bipush 30, 2) := by decide +kernel
theorem dX8_init_20 : decode cX8_init 20 = .ok (.newarray .int, 2) := by decide +kernel
theorem dX8_init_22 : decode cX8_init 22 = .ok (.putfield 19, 3) := by decide +kernel
theorem dX8_init_25 : decode cX8_init 25 = .ok (.aload_n 0, 1) := by decide +kernel
theorem dX8_init_26 : decode cX8_init 26 = .ok (.bipush 30, 2) := by decide +kernel
theorem dX8_init_28 : decode cX8_init 28 = .ok (.newarray .int, 2) := by decide +kernel
theorem dX8_init_30 : decode cX8_init 30 = .ok (.putfield 22, 3) := by decide +kernel
theorem dX8_init_33 : decode cX8_init 33 = .ok (.aload_n 0, 1) := by decide +kernel
theorem dX8_init_34 : decode cX8_init 34 = .ok (.bipush 30, 2) := by decide +kernel
theorem dX8_init_36 : decode cX8_init 36 = .ok (.newarray .int, 2) := by decide +kernel
theorem dX8_init_38 : decode cX8_init 38 = .ok (.putfield 25, 3) := by decide +kernel
theorem dX8_init_41 : decode cX8_init 41 = .ok (.aload_n 0, 1) := by decide +kernel
theorem dX8_init_42 : decode cX8_init 42 = .ok (.sipush 2692, 3) := by decide +kernel
theorem dX8_init_45 : decode cX8_init 45 = .ok (.newarray .int, 2) := by decide +kernel
theorem dX8_init_47 : decode cX8_init 47 = .ok (.putfield 28, 3) := by decide +kernel
theorem dX8_init_50 : decode cX8_init 50 = .ok (.aload_n 0, 1) := by decide +kernel
theorem dX8_init_51 : decode cX8_init 51 = .ok (.sipush 2692, 3) := by decide +kernel
theorem dX8_init_54 : decode cX8_init 54 = .ok (.newarray .int, 2) := by decide +kernel
theorem dX8_init_56 : decode cX8_init 56 = .ok (.putfield 31, 3) := by decide +kernel
theorem dX8_init_59 : decode cX8_init 59 = .ok (.aload_n 0, 1) := by decide +kernel
theorem dX8_init_60 : decode cX8_init 60 = .ok (.sipush 2692, 3) := by decide +kernel
theorem dX8_init_63 : decode cX8_init 63 = .ok (.newarray .int, 2) := by decide +kernel
theorem dX8_init_65 : decode cX8_init 65 = .ok (.putfield 34, 3) := by decide +kernel
theorem dX8_init_68 : decode cX8_init 68 = .ok (.aload_n 0, 1) := by decide +kernel
theorem dX8_init_69 : decode cX8_init 69 = .ok (.new 37, 3) := by decide +kernel
theorem dX8_init_72 : decode cX8_init 72 = .ok (.dup, 1) := by decide +kernel
theorem dX8_init_73 : decode cX8_init 73 = .ok (.invokespecial 39, 3) := by decide +kernel
theorem dX8_init_76 : decode cX8_init 76 = .ok (.putfield 40, 3) := by decide +kernel
theorem dX8_init_79 : decode cX8_init 79 = .ok (.aload_n 0, 1) := by decide +kernel
theorem dX8_init_80 : decode cX8_init 80 = .ok (.new 37, 3) := by decide +kernel
theorem dX8_init_83 : decode cX8_init 83 = .ok (.dup, 1) := by decide +kernel
theorem dX8_init_84 : decode cX8_init 84 = .ok (.invokespecial 39, 3) := by decide +kernel
theorem dX8_init_87 : decode cX8_init 87 = .ok (.putfield 44, 3) := by decide +kernel
theorem dX8_init_90 : decode cX8_init 90 = .ok (.aload_n 0, 1) := by decide +kernel
theorem dX8_init_91 : decode cX8_init 91 = .ok (.iconst 4, 1) := by decide +kernel
theorem dX8_init_92 : decode cX8_init 92 = .ok (.newarray .int, 2) := by decide +kernel
theorem dX8_init_94 : decode cX8_init 94 = .ok (.putfield 47, 3) := by decide +kernel
theorem dX8_init_97 : decode cX8_init 97 = .ok (.return_, 1) := by decide +kernel
theorem dX8_forget_0 : decode cX8_forget 0 = .ok (.aload_n 0, 1) := by decide +kernel
theorem dX8_forget_1 : decode cX8_forget 1 = .ok (.iconst 1, 1) := by decide +kernel
theorem dX8_forget_2 : decode cX8_forget 2 = .ok (.putfield 9, 3) := by decide +kernel
theorem dX8_forget_5 : decode cX8_forget 5 = .ok (.aload_n 0, 1) := by decide +kernel
theorem dX8_forget_6 : decode cX8_forget 6 = .ok (.iconst 0, 1) := by decide +kernel
theorem dX8_forget_7 : decode cX8_forget 7 = .ok (.putfield 50, 3) := by decide +kernel
theorem dX8_forget_10 : decode cX8_forget 10 = .ok (.return_, 1) := by decide +kernel
set_option maxRecDepth 20000 in
theorem ggX8_renew_X8_pairUp : GoodIn wsX8_renew wsX8_pairUp := goodIn_r _ [12, 13, 14, 15, 16, 17, 18, 19, 20, 21, 22, 23, 24, 25, 26, 27, 11, 28, 29, 6, 30, 31, 32, 33, 34, 4, 35, 36, 37, 38, 39, 40, 41, 42, 43, 44, 45, 46, 47, 48, 49, 50, 51, 52, 53, 54, 55, 56, 220, 221, 222, 223, 224, 225, 226, 227, 228, 229, 230, 231, 232, 233, 247, 248, 249, 237, 238, 239, 240, 241, 242, 243, 244, 245, 246, 250, 251, 252, 253, 254, 234, 235, 236] (by decide +kernel) (by decide +kernel)
set_option maxRecDepth 20000 in
theorem gX8_renew_X8_pairUp : GoodIn wsX8_renew (wsV RX8 60 RX8 yX8_pairUp wsX8_pairUp) := goodIn_app (goodIn_of _ (by decide +kernel)) ggX8_renew_X8_pairUp
set_option maxRecDepth 20000 in
theorem ggX8_renew_X2_quartersAhead : GoodIn wsX8_renew wsX2_quartersAhead := goodIn_r _ [42, 43, 44, 45, 41, 46, 47, 48, 250, 251, 252, 253, 254] (by decide +kernel) (by decide +kernel)
set_option maxRecDepth 20000 in
theorem gX8_renew_X2_quartersAhead : GoodIn wsX8_renew (wsV RX8 70 RX2 yX2_quartersAhead wsX2_quartersAhead) := goodIn_app (goodIn_of _ (by decide +kernel)) ggX8_renew_X2_quartersAhead
set_option maxRecDepth 20000 in
theorem ggX8_renew_X4_sameWithin : GoodIn wsX8_renew wsX4_sameWithin := goodIn_r _ [60, 54, 55, 61, 62, 32, 63, 56, 64, 31, 33, 65, 66, 67, 52, 68, 234, 235, 236] (by decide +kernel) (by decide +kernel)
set_option maxRecDepth 20000 in
theorem gX8_renew_X4_sameWithin : GoodIn wsX8_renew (wsV RX8 76 RX4 yX4_sameWithin wsX4_sameWithin) := goodIn_app (goodIn_of _ (by decide +kernel)) ggX8_renew_X4_sameWithin
set_option maxRecDepth 20000 in
theorem ggX8_renew_X8_clearQuarters : GoodIn wsX8_renew wsX8_clearQuarters := goodIn_r _ [72, 73, 74, 220, 221, 222, 223, 224, 225, 226, 227, 228, 229, 230, 231, 232, 233] (by decide +kernel) (by decide +kernel)
set_option maxRecDepth 20000 in
theorem gX8_renew_X8_clearQuarters : GoodIn wsX8_renew (wsV RX8 80 RX8 yX8_clearQuarters wsX8_clearQuarters) := goodIn_app (goodIn_of _ (by decide +kernel)) ggX8_renew_X8_clearQuarters
set_option maxRecDepth 20000 in
theorem ggX8_renew_X8_payWeek : GoodIn wsX8_renew wsX8_payWeek := goodIn_r _ [78, 79, 4, 80, 74, 81, 82, 73, 83, 84, 85, 86, 2, 87, 88, 89, 90, 91, 92, 93, 94, 95, 96, 97, 98, 99, 100, 101, 31, 32, 33, 102, 103, 62, 63, 104, 105, 106, 107, 108, 22, 109, 110, 111, 112, 39, 40, 41, 42, 43, 44, 45, 46, 47, 48, 113, 114, 115, 116, 117, 118, 119, 120, 121, 122, 123, 124, 125, 126, 127, 128, 129, 130, 131, 132, 133, 134, 135, 136, 137, 138, 139, 140, 141, 142, 143, 144, 145, 146, 147, 148, 149, 150, 151, 152, 153, 154, 155, 156, 157, 158, 159, 160, 161, 162, 163, 164, 165, 166, 167, 168, 169, 170, 171, 172, 173, 174, 175, 176, 177, 178, 179, 180, 181, 182, 183, 184, 185, 186, 187, 188, 189, 190, 191, 192, 193, 194, 195, 196, 197, 198, 199, 200, 201, 202, 203, 204, 205, 206, 207, 208, 209, 210, 211, 212, 213, 214, 215, 216, 217, 218, 219, 255, 256, 257, 258, 259, 260, 261, 262, 263, 220, 221, 222, 223, 224, 225, 226, 227, 228, 229, 230, 231, 232, 233, 264, 265, 266, 267, 268, 237, 238, 239, 240, 241, 242, 243, 244, 245, 246, 234, 235, 236, 250, 251, 252, 253, 254, 269, 270, 271, 272, 273] (by decide +kernel) (by decide +kernel)
set_option maxRecDepth 20000 in
theorem gX8_renew_X8_payWeek : GoodIn wsX8_renew (wsV RX8 84 RX8 yX8_payWeek wsX8_payWeek) := goodIn_app (goodIn_of _ (by decide +kernel)) ggX8_renew_X8_payWeek
theorem dX8_renew_0 : decode cX8_renew 0 = .ok (.iload_n 3, 1) := by decide +kernel
theorem dX8_renew_1 : decode cX8_renew 1 = .ok (.aload_n 0, 1) := by decide +kernel
theorem dX8_renew_2 : decode cX8_renew 2 = .ok (.getfield 54, 3) := by decide +kernel
theorem dX8_renew_5 : decode cX8_renew 5 = .ok (.if_icmp .eq 13, 3) := by decide +kernel
theorem dX8_renew_8 : decode cX8_renew 8 = .ok (.aload_n 0, 1) := by decide +kernel
theorem dX8_renew_9 : decode cX8_renew 9 = .ok (.iconst 0, 1) := by decide +kernel
theorem dX8_renew_10 : decode cX8_renew 10 = .ok (.putfield 50, 3) := by decide +kernel
theorem dX8_renew_13 : decode cX8_renew 13 = .ok (.aload_n 0, 1) := by decide +kernel
theorem dX8_renew_14 : decode cX8_renew 14 = .ok (.iload_n 3, 1) := by decide +kernel
theorem dX8_renew_15 : decode cX8_renew 15 = .ok (.putfield 54, 3) := by decide +kernel
theorem dX8_renew_18 : decode cX8_renew 18 = .ok (.aload_n 0, 1) := by decide +kernel
theorem dX8_renew_19 : decode cX8_renew 19 = .ok (.getfield 44, 3) := by decide +kernel
theorem dX8_renew_22 : decode cX8_renew 22 = .ok (.astore 5, 2) := by decide +kernel
theorem dX8_renew_24 : decode cX8_renew 24 = .ok (.aload_n 0, 1) := by decide +kernel
theorem dX8_renew_25 : decode cX8_renew 25 = .ok (.aload_n 0, 1) := by decide +kernel
theorem dX8_renew_26 : decode cX8_renew 26 = .ok (.getfield 40, 3) := by decide +kernel
theorem dX8_renew_29 : decode cX8_renew 29 = .ok (.putfield 44, 3) := by decide +kernel
theorem dX8_renew_32 : decode cX8_renew 32 = .ok (.aload_n 0, 1) := by decide +kernel
theorem dX8_renew_33 : decode cX8_renew 33 = .ok (.aload 5, 2) := by decide +kernel
theorem dX8_renew_35 : decode cX8_renew 35 = .ok (.putfield 40, 3) := by decide +kernel
theorem dX8_renew_38 : decode cX8_renew 38 = .ok (.aload_n 0, 1) := by decide +kernel
theorem dX8_renew_39 : decode cX8_renew 39 = .ok (.getfield 40, 3) := by decide +kernel
theorem dX8_renew_42 : decode cX8_renew 42 = .ok (.iconst 0, 1) := by decide +kernel
theorem dX8_renew_43 : decode cX8_renew 43 = .ok (.putfield 57, 3) := by decide +kernel
theorem dX8_renew_46 : decode cX8_renew 46 = .ok (.aload_n 0, 1) := by decide +kernel
theorem dX8_renew_47 : decode cX8_renew 47 = .ok (.aload_n 1, 1) := by decide +kernel
theorem dX8_renew_48 : decode cX8_renew 48 = .ok (.aload_n 2, 1) := by decide +kernel
theorem dX8_renew_49 : decode cX8_renew 49 = .ok (.invokevirtual 60, 3) := by decide +kernel
theorem dX8_renew_52 : decode cX8_renew 52 = .ok (.iconst 0, 1) := by decide +kernel
theorem dX8_renew_53 : decode cX8_renew 53 = .ok (.istore 6, 2) := by decide +kernel
theorem dX8_renew_55 : decode cX8_renew 55 = .ok (.iload 6, 2) := by decide +kernel
theorem dX8_renew_57 : decode cX8_renew 57 = .ok (.iconst 4, 1) := by decide +kernel
theorem dX8_renew_58 : decode cX8_renew 58 = .ok (.if_icmp .ge 88, 3) := by decide +kernel
theorem dX8_renew_61 : decode cX8_renew 61 = .ok (.aload_n 2, 1) := by decide +kernel
theorem dX8_renew_62 : decode cX8_renew 62 = .ok (.getfield 64, 3) := by decide +kernel
theorem dX8_renew_65 : decode cX8_renew 65 = .ok (.iload 6, 2) := by decide +kernel
theorem dX8_renew_67 : decode cX8_renew 67 = .ok (.bipush 7, 2) := by decide +kernel
theorem dX8_renew_69 : decode cX8_renew 69 = .ok (.imul, 1) := by decide +kernel
theorem dX8_renew_70 : decode cX8_renew 70 = .ok (.invokevirtual 70, 3) := by decide +kernel
theorem dX8_renew_73 : decode cX8_renew 73 = .ok (.istore 7, 2) := by decide +kernel
theorem dX8_renew_75 : decode cX8_renew 75 = .ok (.aload_n 2, 1) := by decide +kernel
theorem dX8_renew_76 : decode cX8_renew 76 = .ok (.getfield 64, 3) := by decide +kernel
theorem dX8_renew_79 : decode cX8_renew 79 = .ok (.iload 6, 2) := by decide +kernel
theorem dX8_renew_81 : decode cX8_renew 81 = .ok (.bipush 7, 2) := by decide +kernel
theorem dX8_renew_83 : decode cX8_renew 83 = .ok (.imul, 1) := by decide +kernel
theorem dX8_renew_84 : decode cX8_renew 84 = .ok (.bipush 7, 2) := by decide +kernel
theorem dX8_renew_86 : decode cX8_renew 86 = .ok (.iadd, 1) := by decide +kernel
theorem dX8_renew_87 : decode cX8_renew 87 = .ok (.invokevirtual 70, 3) := by decide +kernel
theorem dX8_renew_90 : decode cX8_renew 90 = .ok (.istore 8, 2) := by decide +kernel
theorem dX8_renew_92 : decode cX8_renew 92 = .ok (.aload_n 0, 1) := by decide +kernel
theorem dX8_renew_93 : decode cX8_renew 93 = .ok (.getfield 50, 3) := by decide +kernel
theorem dX8_renew_96 : decode cX8_renew 96 = .ok (.iload 6, 2) := by decide +kernel
theorem dX8_renew_98 : decode cX8_renew 98 = .ok (.ishr, 1) := by decide +kernel
theorem dX8_renew_99 : decode cX8_renew 99 = .ok (.iconst 1, 1) := by decide +kernel
theorem dX8_renew_100 : decode cX8_renew 100 = .ok (.iand, 1) := by decide +kernel
theorem dX8_renew_101 : decode cX8_renew 101 = .ok (.ifCond .eq 21, 3) := by decide +kernel
theorem dX8_renew_104 : decode cX8_renew 104 = .ok (.aload_n 0, 1) := by decide +kernel
theorem dX8_renew_105 : decode cX8_renew 105 = .ok (.getfield 40, 3) := by decide +kernel
theorem dX8_renew_108 : decode cX8_renew 108 = .ok (.aload_n 0, 1) := by decide +kernel
theorem dX8_renew_109 : decode cX8_renew 109 = .ok (.getfield 44, 3) := by decide +kernel
theorem dX8_renew_112 : decode cX8_renew 112 = .ok (.iload 7, 2) := by decide +kernel
theorem dX8_renew_114 : decode cX8_renew 114 = .ok (.iload 8, 2) := by decide +kernel
theorem dX8_renew_116 : decode cX8_renew 116 = .ok (.invokevirtual 76, 3) := by decide +kernel
theorem dX8_renew_119 : decode cX8_renew 119 = .ok (.ifCond .ne 21, 3) := by decide +kernel
theorem dX8_renew_122 : decode cX8_renew 122 = .ok (.aload_n 0, 1) := by decide +kernel
theorem dX8_renew_123 : decode cX8_renew 123 = .ok (.iload 7, 2) := by decide +kernel
theorem dX8_renew_125 : decode cX8_renew 125 = .ok (.iload 8, 2) := by decide +kernel
theorem dX8_renew_127 : decode cX8_renew 127 = .ok (.invokevirtual 80, 3) := by decide +kernel
theorem dX8_renew_130 : decode cX8_renew 130 = .ok (.aload_n 0, 1) := by decide +kernel
theorem dX8_renew_131 : decode cX8_renew 131 = .ok (.iload 6, 2) := by decide +kernel
theorem dX8_renew_133 : decode cX8_renew 133 = .ok (.aload_n 2, 1) := by decide +kernel
theorem dX8_renew_134 : decode cX8_renew 134 = .ok (.iload_n 3, 1) := by decide +kernel
theorem dX8_renew_135 : decode cX8_renew 135 = .ok (.aload 4, 2) := by decide +kernel
theorem dX8_renew_137 : decode cX8_renew 137 = .ok (.invokevirtual 84, 3) := by decide +kernel
theorem dX8_renew_140 : decode cX8_renew 140 = .ok (.iinc 6 1, 3) := by decide +kernel
theorem dX8_renew_143 : decode cX8_renew 143 = .ok (.goto (-88), 3) := by decide +kernel
theorem dX8_renew_146 : decode cX8_renew 146 = .ok (.aload_n 0, 1) := by decide +kernel
theorem dX8_renew_147 : decode cX8_renew 147 = .ok (.iconst 0, 1) := by decide +kernel
theorem dX8_renew_148 : decode cX8_renew 148 = .ok (.putfield 9, 3) := by decide +kernel
theorem dX8_renew_151 : decode cX8_renew 151 = .ok (.return_, 1) := by decide +kernel
theorem dX8_allPay_0 : decode cX8_allPay 0 = .ok (.iconst 0, 1) := by decide +kernel
theorem dX8_allPay_1 : decode cX8_allPay 1 = .ok (.istore_n 1, 1) := by decide +kernel
theorem dX8_allPay_2 : decode cX8_allPay 2 = .ok (.iconst 0, 1) := by decide +kernel
theorem dX8_allPay_3 : decode cX8_allPay 3 = .ok (.istore_n 2, 1) := by decide +kernel
theorem dX8_allPay_4 : decode cX8_allPay 4 = .ok (.iload_n 2, 1) := by decide +kernel
theorem dX8_allPay_5 : decode cX8_allPay 5 = .ok (.iconst 4, 1) := by decide +kernel
theorem dX8_allPay_6 : decode cX8_allPay 6 = .ok (.if_icmp .ge 18, 3) := by decide +kernel
theorem dX8_allPay_9 : decode cX8_allPay 9 = .ok (.iload_n 1, 1) := by decide +kernel
theorem dX8_allPay_10 : decode cX8_allPay 10 = .ok (.aload_n 0, 1) := by decide +kernel
theorem dX8_allPay_11 : decode cX8_allPay 11 = .ok (.getfield 47, 3) := by decide +kernel
theorem dX8_allPay_14 : decode cX8_allPay 14 = .ok (.iload_n 2, 1) := by decide +kernel
theorem dX8_allPay_15 : decode cX8_allPay 15 = .ok (.iaload, 1) := by decide +kernel
theorem dX8_allPay_16 : decode cX8_allPay 16 = .ok (.iadd, 1) := by decide +kernel
theorem dX8_allPay_17 : decode cX8_allPay 17 = .ok (.istore_n 1, 1) := by decide +kernel
theorem dX8_allPay_18 : decode cX8_allPay 18 = .ok (.iinc 2 1, 3) := by decide +kernel
theorem dX8_allPay_21 : decode cX8_allPay 21 = .ok (.goto (-17), 3) := by decide +kernel
theorem dX8_allPay_24 : decode cX8_allPay 24 = .ok (.iload_n 1, 1) := by decide +kernel
theorem dX8_allPay_25 : decode cX8_allPay 25 = .ok (.ireturn, 1) := by decide +kernel
set_option maxRecDepth 20000 in
theorem ggX8_pairUp_X7_rounded : GoodIn wsX8_pairUp wsX7_rounded := goodIn_r _ [11, 12, 65, 66, 67, 68, 69, 70, 71, 72, 73, 74] (by decide +kernel) (by decide +kernel)
set_option maxRecDepth 20000 in
theorem gX8_pairUp_X7_rounded : GoodIn wsX8_pairUp (wsV RX8 103 RX7 yX7_rounded wsX7_rounded) := goodIn_app (goodIn_of _ (by decide +kernel)) ggX8_pairUp_X7_rounded
set_option maxRecDepth 20000 in
theorem ggX8_pairUp_X8_addSpan : GoodIn wsX8_pairUp wsX8_addSpan := goodIn_r _ [17, 1, 18, 19, 20, 21, 22, 23, 24, 25, 26, 27, 28, 29, 30, 31, 32, 33, 34, 35, 36, 37, 38, 39, 40, 41, 42, 43, 44, 45, 46, 47, 48, 49, 50, 51, 52, 53, 54, 55, 56, 57, 58, 59, 60, 61, 65, 66, 67, 68, 69, 70, 71, 72, 73, 74, 75, 76, 77, 78, 79, 80, 81, 82] (by decide +kernel) (by decide +kernel)
set_option maxRecDepth 20000 in
theorem gX8_pairUp_X8_addSpan : GoodIn wsX8_pairUp (wsV RX8 106 RX8 yX8_addSpan wsX8_addSpan) := goodIn_app (goodIn_of _ (by decide +kernel)) ggX8_pairUp_X8_addSpan
theorem dX8_pairUp_0 : decode cX8_pairUp 0 = .ok (.aload_n 0, 1) := by decide +kernel
theorem dX8_pairUp_1 : decode cX8_pairUp 1 = .ok (.iconst 0, 1) := by decide +kernel
theorem dX8_pairUp_2 : decode cX8_pairUp 2 = .ok (.putfield 88, 3) := by decide +kernel
theorem dX8_pairUp_5 : decode cX8_pairUp 5 = .ok (.iconst (-1), 1) := by decide +kernel
theorem dX8_pairUp_6 : decode cX8_pairUp 6 = .ok (.istore_n 3, 1) := by decide +kernel
theorem dX8_pairUp_7 : decode cX8_pairUp 7 = .ok (.iconst 0, 1) := by decide +kernel
theorem dX8_pairUp_8 : decode cX8_pairUp 8 = .ok (.istore 4, 2) := by decide +kernel
theorem dX8_pairUp_10 : decode cX8_pairUp 10 = .ok (.iload 4, 2) := by decide +kernel
theorem dX8_pairUp_12 : decode cX8_pairUp 12 = .ok (.aload_n 1, 1) := by decide +kernel
theorem dX8_pairUp_13 : decode cX8_pairUp 13 = .ok (.getfield 91, 3) := by decide +kernel
theorem dX8_pairUp_16 : decode cX8_pairUp 16 = .ok (.if_icmp .ge 135, 3) := by decide +kernel
theorem dX8_pairUp_19 : decode cX8_pairUp 19 = .ok (.aload_n 1, 1) := by decide +kernel
theorem dX8_pairUp_20 : decode cX8_pairUp 20 = .ok (.getfield 94, 3) := by decide +kernel
theorem dX8_pairUp_23 : decode cX8_pairUp 23 = .ok (.iload 4, 2) := by decide +kernel
theorem dX8_pairUp_25 : decode cX8_pairUp 25 = .ok (.iaload, 1) := by decide +kernel
theorem dX8_pairUp_26 : decode cX8_pairUp 26 = .ok (.istore 5, 2) := by decide +kernel
theorem dX8_pairUp_28 : decode cX8_pairUp 28 = .ok (.aload_n 0, 1) := by decide +kernel
theorem dX8_pairUp_29 : decode cX8_pairUp 29 = .ok (.getfield 15, 3) := by decide +kernel
theorem dX8_pairUp_32 : decode cX8_pairUp 32 = .ok (.iload 4, 2) := by decide +kernel
theorem dX8_pairUp_34 : decode cX8_pairUp 34 = .ok (.iconst 2, 1) := by decide +kernel
theorem dX8_pairUp_35 : decode cX8_pairUp 35 = .ok (.iastore, 1) := by decide +kernel
theorem dX8_pairUp_36 : decode cX8_pairUp 36 = .ok (.iload 5, 2) := by decide +kernel
theorem dX8_pairUp_38 : decode cX8_pairUp 38 = .ok (.ifCond .eq 8, 3) := by decide +kernel
theorem dX8_pairUp_41 : decode cX8_pairUp 41 = .ok (.iload_n 3, 1) := by decide +kernel
theorem dX8_pairUp_42 : decode cX8_pairUp 42 = .ok (.iconst (-1), 1) := by decide +kernel
theorem dX8_pairUp_43 : decode cX8_pairUp 43 = .ok (.if_icmp .ne 19, 3) := by decide +kernel
theorem dX8_pairUp_46 : decode cX8_pairUp 46 = .ok (.iload 5, 2) := by decide +kernel
theorem dX8_pairUp_48 : decode cX8_pairUp 48 = .ok (.iconst 1, 1) := by decide +kernel
theorem dX8_pairUp_49 : decode cX8_pairUp 49 = .ok (.if_icmp .ne 7, 3) := by decide +kernel
theorem dX8_pairUp_52 : decode cX8_pairUp 52 = .ok (.iconst (-1), 1) := by decide +kernel
theorem dX8_pairUp_53 : decode cX8_pairUp 53 = .ok (.goto 5, 3) := by decide +kernel
theorem dX8_pairUp_56 : decode cX8_pairUp 56 = .ok (.iload 4, 2) := by decide +kernel
theorem dX8_pairUp_58 : decode cX8_pairUp 58 = .ok (.istore_n 3, 1) := by decide +kernel
theorem dX8_pairUp_59 : decode cX8_pairUp 59 = .ok (.goto 86, 3) := by decide +kernel
theorem dX8_pairUp_62 : decode cX8_pairUp 62 = .ok (.aload_n 1, 1) := by decide +kernel
theorem dX8_pairUp_63 : decode cX8_pairUp 63 = .ok (.getfield 97, 3) := by decide +kernel
theorem dX8_pairUp_66 : decode cX8_pairUp 66 = .ok (.iload 4, 2) := by decide +kernel
theorem dX8_pairUp_68 : decode cX8_pairUp 68 = .ok (.iaload, 1) := by decide +kernel
theorem dX8_pairUp_69 : decode cX8_pairUp 69 = .ok (.aload_n 1, 1) := by decide +kernel
theorem dX8_pairUp_70 : decode cX8_pairUp 70 = .ok (.getfield 97, 3) := by decide +kernel
theorem dX8_pairUp_73 : decode cX8_pairUp 73 = .ok (.iload_n 3, 1) := by decide +kernel
theorem dX8_pairUp_74 : decode cX8_pairUp 74 = .ok (.iaload, 1) := by decide +kernel
theorem dX8_pairUp_75 : decode cX8_pairUp 75 = .ok (.isub, 1) := by decide +kernel
theorem dX8_pairUp_76 : decode cX8_pairUp 76 = .ok (.aload_n 2, 1) := by decide +kernel
theorem dX8_pairUp_77 : decode cX8_pairUp 77 = .ok (.getfield 100, 3) := by decide +kernel
theorem dX8_pairUp_80 : decode cX8_pairUp 80 = .ok (.bipush 60, 2) := by decide +kernel
theorem dX8_pairUp_82 : decode cX8_pairUp 82 = .ok (.imul, 1) := by decide +kernel
theorem dX8_pairUp_83 : decode cX8_pairUp 83 = .ok (.if_icmp .gt 49, 3) := by decide +kernel
theorem dX8_pairUp_86 : decode cX8_pairUp 86 = .ok (.aload_n 0, 1) := by decide +kernel
theorem dX8_pairUp_87 : decode cX8_pairUp 87 = .ok (.getfield 15, 3) := by decide +kernel
theorem dX8_pairUp_90 : decode cX8_pairUp 90 = .ok (.iload_n 3, 1) := by decide +kernel
theorem dX8_pairUp_91 : decode cX8_pairUp 91 = .ok (.iconst 0, 1) := by decide +kernel
theorem dX8_pairUp_92 : decode cX8_pairUp 92 = .ok (.iastore, 1) := by decide +kernel
theorem dX8_pairUp_93 : decode cX8_pairUp 93 = .ok (.aload_n 0, 1) := by decide +kernel
theorem dX8_pairUp_94 : decode cX8_pairUp 94 = .ok (.getfield 15, 3) := by decide +kernel
theorem dX8_pairUp_97 : decode cX8_pairUp 97 = .ok (.iload 4, 2) := by decide +kernel
theorem dX8_pairUp_99 : decode cX8_pairUp 99 = .ok (.iconst 1, 1) := by decide +kernel
theorem dX8_pairUp_100 : decode cX8_pairUp 100 = .ok (.iastore, 1) := by decide +kernel
theorem dX8_pairUp_101 : decode cX8_pairUp 101 = .ok (.aload_n 0, 1) := by decide +kernel
theorem dX8_pairUp_102 : decode cX8_pairUp 102 = .ok (.aload_n 2, 1) := by decide +kernel
theorem dX8_pairUp_103 : decode cX8_pairUp 103 = .ok (.aload_n 1, 1) := by decide +kernel
theorem dX8_pairUp_104 : decode cX8_pairUp 104 = .ok (.getfield 97, 3) := by decide +kernel
theorem dX8_pairUp_107 : decode cX8_pairUp 107 = .ok (.iload_n 3, 1) := by decide +kernel
theorem dX8_pairUp_108 : decode cX8_pairUp 108 = .ok (.iaload, 1) := by decide +kernel
theorem dX8_pairUp_109 : decode cX8_pairUp 109 = .ok (.invokevirtual 103, 3) := by decide +kernel
theorem dX8_pairUp_112 : decode cX8_pairUp 112 = .ok (.aload_n 2, 1) := by decide +kernel
theorem dX8_pairUp_113 : decode cX8_pairUp 113 = .ok (.aload_n 1, 1) := by decide +kernel
theorem dX8_pairUp_114 : decode cX8_pairUp 114 = .ok (.getfield 97, 3) := by decide +kernel
theorem dX8_pairUp_117 : decode cX8_pairUp 117 = .ok (.iload 4, 2) := by decide +kernel
theorem dX8_pairUp_119 : decode cX8_pairUp 119 = .ok (.iaload, 1) := by decide +kernel
theorem dX8_pairUp_120 : decode cX8_pairUp 120 = .ok (.invokevirtual 103, 3) := by decide +kernel
theorem dX8_pairUp_123 : decode cX8_pairUp 123 = .ok (.aload_n 2, 1) := by decide +kernel
theorem dX8_pairUp_124 : decode cX8_pairUp 124 = .ok (.invokevirtual 106, 3) := by decide +kernel
theorem dX8_pairUp_127 : decode cX8_pairUp 127 = .ok (.iconst (-1), 1) := by decide +kernel
theorem dX8_pairUp_128 : decode cX8_pairUp 128 = .ok (.istore_n 3, 1) := by decide +kernel
theorem dX8_pairUp_129 : decode cX8_pairUp 129 = .ok (.goto 16, 3) := by decide +kernel
theorem dX8_pairUp_132 : decode cX8_pairUp 132 = .ok (.iload 5, 2) := by decide +kernel
theorem dX8_pairUp_134 : decode cX8_pairUp 134 = .ok (.iconst 1, 1) := by decide +kernel
theorem dX8_pairUp_135 : decode cX8_pairUp 135 = .ok (.if_icmp .ne 7, 3) := by decide +kernel
theorem dX8_pairUp_138 : decode cX8_pairUp 138 = .ok (.iconst (-1), 1) := by decide +kernel
theorem dX8_pairUp_139 : decode cX8_pairUp 139 = .ok (.goto 5, 3) := by decide +kernel
theorem dX8_pairUp_142 : decode cX8_pairUp 142 = .ok (.iload 4, 2) := by decide +kernel
theorem dX8_pairUp_144 : decode cX8_pairUp 144 = .ok (.istore_n 3, 1) := by decide +kernel
theorem dX8_pairUp_145 : decode cX8_pairUp 145 = .ok (.iinc 4 1, 3) := by decide +kernel
theorem dX8_pairUp_148 : decode cX8_pairUp 148 = .ok (.goto (-138), 3) := by decide +kernel
theorem dX8_pairUp_151 : decode cX8_pairUp 151 = .ok (.return_, 1) := by decide +kernel
set_option maxRecDepth 20000 in
theorem ggX8_addSpan_X2_quartersAhead : GoodIn wsX8_addSpan wsX2_quartersAhead := goodIn_r _ [17, 18, 19, 20, 16, 21, 22, 23, 56, 57, 58, 59, 60] (by decide +kernel) (by decide +kernel)
set_option maxRecDepth 20000 in
theorem gX8_addSpan_X2_quartersAhead : GoodIn wsX8_addSpan (wsV RX8 70 RX2 yX2_quartersAhead wsX2_quartersAhead) := goodIn_app (goodIn_of _ (by decide +kernel)) ggX8_addSpan_X2_quartersAhead
set_option maxRecDepth 20000 in
theorem ggX8_addSpan_X4_put : GoodIn wsX8_addSpan wsX4_put := goodIn_r _ [28, 29, 30, 31, 61, 62, 63] (by decide +kernel) (by decide +kernel)
set_option maxRecDepth 20000 in
theorem gX8_addSpan_X4_put : GoodIn wsX8_addSpan (wsV RX8 119 RX4 yX4_put wsX4_put) := goodIn_app (goodIn_of _ (by decide +kernel)) ggX8_addSpan_X4_put
theorem dX8_addSpan_0 : decode cX8_addSpan 0 = .ok (.aload_n 0, 1) := by decide +kernel
theorem dX8_addSpan_1 : decode cX8_addSpan 1 = .ok (.getfield 88, 3) := by decide +kernel
theorem dX8_addSpan_4 : decode cX8_addSpan 4 = .ok (.aload_n 0, 1) := by decide +kernel
theorem dX8_addSpan_5 : decode cX8_addSpan 5 = .ok (.getfield 19, 3) := by decide +kernel
theorem dX8_addSpan_8 : decode cX8_addSpan 8 = .ok (.arraylength, 1) := by decide +kernel
theorem dX8_addSpan_9 : decode cX8_addSpan 9 = .ok (.if_icmp .lt 4, 3) := by decide +kernel
theorem dX8_addSpan_12 : decode cX8_addSpan 12 = .ok (.return_, 1) := by decide +kernel
theorem dX8_addSpan_13 : decode cX8_addSpan 13 = .ok (.iload_n 2, 1) := by decide +kernel
theorem dX8_addSpan_14 : decode cX8_addSpan 14 = .ok (.aload_n 3, 1) := by decide +kernel
theorem dX8_addSpan_15 : decode cX8_addSpan 15 = .ok (.getfield 64, 3) := by decide +kernel
theorem dX8_addSpan_18 : decode cX8_addSpan 18 = .ok (.bipush 28, 2) := by decide +kernel
theorem dX8_addSpan_20 : decode cX8_addSpan 20 = .ok (.invokevirtual 70, 3) := by decide +kernel
theorem dX8_addSpan_23 : decode cX8_addSpan 23 = .ok (.invokestatic 110, 3) := by decide +kernel
theorem dX8_addSpan_26 : decode cX8_addSpan 26 = .ok (.istore 4, 2) := by decide +kernel
theorem dX8_addSpan_28 : decode cX8_addSpan 28 = .ok (.aload_n 3, 1) := by decide +kernel
theorem dX8_addSpan_29 : decode cX8_addSpan 29 = .ok (.getfield 116, 3) := by decide +kernel
theorem dX8_addSpan_32 : decode cX8_addSpan 32 = .ok (.ifCond .le 62, 3) := by decide +kernel
theorem dX8_addSpan_35 : decode cX8_addSpan 35 = .ok (.iload_n 2, 1) := by decide +kernel
theorem dX8_addSpan_36 : decode cX8_addSpan 36 = .ok (.iload_n 1, 1) := by decide +kernel
theorem dX8_addSpan_37 : decode cX8_addSpan 37 = .ok (.isub, 1) := by decide +kernel
theorem dX8_addSpan_38 : decode cX8_addSpan 38 = .ok (.aload_n 3, 1) := by decide +kernel
theorem dX8_addSpan_39 : decode cX8_addSpan 39 = .ok (.getfield 116, 3) := by decide +kernel
theorem dX8_addSpan_42 : decode cX8_addSpan 42 = .ok (.if_icmp .le 52, 3) := by decide +kernel
theorem dX8_addSpan_45 : decode cX8_addSpan 45 = .ok (.iload_n 1, 1) := by decide +kernel
theorem dX8_addSpan_46 : decode cX8_addSpan 46 = .ok (.aload_n 3, 1) := by decide +kernel
theorem dX8_addSpan_47 : decode cX8_addSpan 47 = .ok (.getfield 116, 3) := by decide +kernel
theorem dX8_addSpan_50 : decode cX8_addSpan 50 = .ok (.iadd, 1) := by decide +kernel
theorem dX8_addSpan_51 : decode cX8_addSpan 51 = .ok (.istore 6, 2) := by decide +kernel
theorem dX8_addSpan_53 : decode cX8_addSpan 53 = .ok (.aload_n 0, 1) := by decide +kernel
theorem dX8_addSpan_54 : decode cX8_addSpan 54 = .ok (.getfield 40, 3) := by decide +kernel
theorem dX8_addSpan_57 : decode cX8_addSpan 57 = .ok (.iload_n 1, 1) := by decide +kernel
theorem dX8_addSpan_58 : decode cX8_addSpan 58 = .ok (.iload 6, 2) := by decide +kernel
theorem dX8_addSpan_60 : decode cX8_addSpan 60 = .ok (.iload 4, 2) := by decide +kernel
theorem dX8_addSpan_62 : decode cX8_addSpan 62 = .ok (.invokestatic 110, 3) := by decide +kernel
theorem dX8_addSpan_65 : decode cX8_addSpan 65 = .ok (.invokevirtual 119, 3) := by decide +kernel
theorem dX8_addSpan_68 : decode cX8_addSpan 68 = .ok (.istore 5, 2) := by decide +kernel
theorem dX8_addSpan_70 : decode cX8_addSpan 70 = .ok (.iload 5, 2) := by decide +kernel
theorem dX8_addSpan_72 : decode cX8_addSpan 72 = .ok (.aload_n 0, 1) := by decide +kernel
theorem dX8_addSpan_73 : decode cX8_addSpan 73 = .ok (.getfield 40, 3) := by decide +kernel
theorem dX8_addSpan_76 : decode cX8_addSpan 76 = .ok (.iload 6, 2) := by decide +kernel
theorem dX8_addSpan_78 : decode cX8_addSpan 78 = .ok (.aload_n 3, 1) := by decide +kernel
theorem dX8_addSpan_79 : decode cX8_addSpan 79 = .ok (.getfield 122, 3) := by decide +kernel
theorem dX8_addSpan_82 : decode cX8_addSpan 82 = .ok (.iadd, 1) := by decide +kernel
theorem dX8_addSpan_83 : decode cX8_addSpan 83 = .ok (.iload 4, 2) := by decide +kernel
theorem dX8_addSpan_85 : decode cX8_addSpan 85 = .ok (.invokevirtual 119, 3) := by decide +kernel
theorem dX8_addSpan_88 : decode cX8_addSpan 88 = .ok (.iadd, 1) := by decide +kernel
theorem dX8_addSpan_89 : decode cX8_addSpan 89 = .ok (.istore 5, 2) := by decide +kernel
theorem dX8_addSpan_91 : decode cX8_addSpan 91 = .ok (.goto 15, 3) := by decide +kernel
theorem dX8_addSpan_94 : decode cX8_addSpan 94 = .ok (.aload_n 0, 1) := by decide +kernel
theorem dX8_addSpan_95 : decode cX8_addSpan 95 = .ok (.getfield 40, 3) := by decide +kernel
theorem dX8_addSpan_98 : decode cX8_addSpan 98 = .ok (.iload_n 1, 1) := by decide +kernel
theorem dX8_addSpan_99 : decode cX8_addSpan 99 = .ok (.iload 4, 2) := by decide +kernel
theorem dX8_addSpan_101 : decode cX8_addSpan 101 = .ok (.invokevirtual 119, 3) := by decide +kernel
theorem dX8_addSpan_104 : decode cX8_addSpan 104 = .ok (.istore 5, 2) := by decide +kernel
theorem dX8_addSpan_106 : decode cX8_addSpan 106 = .ok (.aload_n 0, 1) := by decide +kernel
theorem dX8_addSpan_107 : decode cX8_addSpan 107 = .ok (.getfield 19, 3) := by decide +kernel
theorem dX8_addSpan_110 : decode cX8_addSpan 110 = .ok (.aload_n 0, 1) := by decide +kernel
theorem dX8_addSpan_111 : decode cX8_addSpan 111 = .ok (.getfield 88, 3) := by decide +kernel
theorem dX8_addSpan_114 : decode cX8_addSpan 114 = .ok (.iload_n 1, 1) := by decide +kernel
theorem dX8_addSpan_115 : decode cX8_addSpan 115 = .ok (.iastore, 1) := by decide +kernel
theorem dX8_addSpan_116 : decode cX8_addSpan 116 = .ok (.aload_n 0, 1) := by decide +kernel
theorem dX8_addSpan_117 : decode cX8_addSpan 117 = .ok (.getfield 22, 3) := by decide +kernel
theorem dX8_addSpan_120 : decode cX8_addSpan 120 = .ok (.aload_n 0, 1) := by decide +kernel
theorem dX8_addSpan_121 : decode cX8_addSpan 121 = .ok (.getfield 88, 3) := by decide +kernel
theorem dX8_addSpan_124 : decode cX8_addSpan 124 = .ok (.iload_n 2, 1) := by decide +kernel
theorem dX8_addSpan_125 : decode cX8_addSpan 125 = .ok (.iastore, 1) := by decide +kernel
theorem dX8_addSpan_126 : decode cX8_addSpan 126 = .ok (.aload_n 0, 1) := by decide +kernel
theorem dX8_addSpan_127 : decode cX8_addSpan 127 = .ok (.getfield 25, 3) := by decide +kernel
theorem dX8_addSpan_130 : decode cX8_addSpan 130 = .ok (.aload_n 0, 1) := by decide +kernel
theorem dX8_addSpan_131 : decode cX8_addSpan 131 = .ok (.getfield 88, 3) := by decide +kernel
theorem dX8_addSpan_134 : decode cX8_addSpan 134 = .ok (.iload 5, 2) := by decide +kernel
theorem dX8_addSpan_136 : decode cX8_addSpan 136 = .ok (.iastore, 1) := by decide +kernel
theorem dX8_addSpan_137 : decode cX8_addSpan 137 = .ok (.aload_n 0, 1) := by decide +kernel
theorem dX8_addSpan_138 : decode cX8_addSpan 138 = .ok (.dup, 1) := by decide +kernel
theorem dX8_addSpan_139 : decode cX8_addSpan 139 = .ok (.getfield 88, 3) := by decide +kernel
theorem dX8_addSpan_142 : decode cX8_addSpan 142 = .ok (.iconst 1, 1) := by decide +kernel
theorem dX8_addSpan_143 : decode cX8_addSpan 143 = .ok (.iadd, 1) := by decide +kernel
theorem dX8_addSpan_144 : decode cX8_addSpan 144 = .ok (.putfield 88, 3) := by decide +kernel
theorem dX8_addSpan_147 : decode cX8_addSpan 147 = .ok (.return_, 1) := by decide +kernel
theorem dX8_clearQuarters_0 : decode cX8_clearQuarters 0 = .ok (.iload_n 1, 1) := by decide +kernel
theorem dX8_clearQuarters_1 : decode cX8_clearQuarters 1 = .ok (.istore_n 3, 1) := by decide +kernel
theorem dX8_clearQuarters_2 : decode cX8_clearQuarters 2 = .ok (.iload_n 3, 1) := by decide +kernel
theorem dX8_clearQuarters_3 : decode cX8_clearQuarters 3 = .ok (.iload_n 2, 1) := by decide +kernel
theorem dX8_clearQuarters_4 : decode cX8_clearQuarters 4 = .ok (.if_icmp .ge 25, 3) := by decide +kernel
theorem dX8_clearQuarters_7 : decode cX8_clearQuarters 7 = .ok (.aload_n 0, 1) := by decide +kernel
theorem dX8_clearQuarters_8 : decode cX8_clearQuarters 8 = .ok (.getfield 28, 3) := by decide +kernel
theorem dX8_clearQuarters_11 : decode cX8_clearQuarters 11 = .ok (.iload_n 3, 1) := by decide +kernel
theorem dX8_clearQuarters_12 : decode cX8_clearQuarters 12 = .ok (.bipush (-2), 2) := by decide +kernel
theorem dX8_clearQuarters_14 : decode cX8_clearQuarters 14 = .ok (.iastore, 1) := by decide +kernel
theorem dX8_clearQuarters_15 : decode cX8_clearQuarters 15 = .ok (.aload_n 0, 1) := by decide +kernel
theorem dX8_clearQuarters_16 : decode cX8_clearQuarters 16 = .ok (.getfield 31, 3) := by decide +kernel
theorem dX8_clearQuarters_19 : decode cX8_clearQuarters 19 = .ok (.iload_n 3, 1) := by decide +kernel
theorem dX8_clearQuarters_20 : decode cX8_clearQuarters 20 = .ok (.bipush (-2), 2) := by decide +kernel
theorem dX8_clearQuarters_22 : decode cX8_clearQuarters 22 = .ok (.iastore, 1) := by decide +kernel
theorem dX8_clearQuarters_23 : decode cX8_clearQuarters 23 = .ok (.iinc 3 1, 3) := by decide +kernel
theorem dX8_clearQuarters_26 : decode cX8_clearQuarters 26 = .ok (.goto (-24), 3) := by decide +kernel
theorem dX8_clearQuarters_29 : decode cX8_clearQuarters 29 = .ok (.return_, 1) := by decide +kernel
set_option maxRecDepth 20000 in
theorem ggX8_payWeek_X10_gather : GoodIn wsX8_payWeek wsX10_gather := goodIn_r _ [17, 18, 19, 20, 21, 22, 16, 23, 24, 25, 26, 27, 28, 29, 30, 31, 32, 33, 34, 35, 36, 37, 38, 39, 40, 41, 42, 43, 44, 45, 46, 47, 48, 49, 50, 51, 52, 53, 54, 55, 56, 57, 58, 59, 60, 61, 62, 63, 64, 65, 66, 67, 68, 69, 70, 71, 72, 73, 74, 75, 76, 77, 78, 79, 185, 186, 187, 188, 189, 190, 191, 192, 193, 194, 195, 196, 197, 198, 199, 200, 201, 202, 203, 204, 205, 206, 207, 208, 209, 210, 211, 212] (by decide +kernel) (by decide +kernel)
set_option maxRecDepth 20000 in
theorem gX8_payWeek_X10_gather : GoodIn wsX8_payWeek (wsV RX8 131 RX10 yX10_gather wsX10_gather) := goodIn_app (goodIn_of _ (by decide +kernel)) ggX8_payWeek_X10_gather
set_option maxRecDepth 20000 in
theorem ggX8_payWeek_X10_payAsTheyCome : GoodIn wsX8_payWeek wsX10_payAsTheyCome := goodIn_r _ [83, 18, 84, 36, 85, 86, 87, 40, 88, 69, 70, 71, 72, 89, 90, 91, 92, 93, 94, 95, 96, 97, 98, 99, 100, 101, 102, 185, 186, 187, 188, 189, 190, 191, 192, 193, 194, 195, 196, 197, 198, 199, 208, 209, 210, 211, 212] (by decide +kernel) (by decide +kernel)
set_option maxRecDepth 20000 in
theorem gX8_payWeek_X10_payAsTheyCome : GoodIn wsX8_payWeek (wsV RX8 137 RX10 yX10_payAsTheyCome wsX10_payAsTheyCome) := goodIn_app (goodIn_of _ (by decide +kernel)) ggX8_payWeek_X10_payAsTheyCome
set_option maxRecDepth 20000 in
theorem ggX8_payWeek_X0_payBest : GoodIn wsX8_payWeek wsX0_payBest := goodIn_r _ [107, 108, 109, 110, 111, 112, 113, 114, 115, 116, 40, 117, 69, 70, 71, 72, 118, 33, 29, 34, 119, 86, 87, 88, 120, 121, 122, 123, 102, 97, 124, 125, 126, 106, 127, 128, 129, 130, 131, 132, 133, 134, 135, 136, 28, 30, 137, 138, 139, 140, 141, 142, 143, 144, 145, 146, 147, 148, 149, 150, 151, 152, 153, 154, 155, 156, 157, 158, 159, 160, 94, 95, 96, 161, 99, 100, 101, 162, 163, 164, 165, 166, 167, 168, 169, 170, 185, 186, 187, 188, 189, 190, 191, 192, 193, 194, 195, 196, 197, 198, 199, 208, 209, 210, 211, 212] (by decide +kernel) (by decide +kernel)
set_option maxRecDepth 20000 in
theorem gX8_payWeek_X0_payBest : GoodIn wsX8_payWeek (wsV RX8 146 RX0 yX0_payBest wsX0_payBest) := goodIn_app (goodIn_of _ (by decide +kernel)) ggX8_payWeek_X0_payBest
theorem dX8_payWeek_0 : decode cX8_payWeek 0 = .ok (.aload 4, 2) := by decide +kernel
theorem dX8_payWeek_2 : decode cX8_payWeek 2 = .ok (.getfield 125, 3) := by decide +kernel
theorem dX8_payWeek_5 : decode cX8_payWeek 5 = .ok (.astore 5, 2) := by decide +kernel
theorem dX8_payWeek_7 : decode cX8_payWeek 7 = .ok (.aload 5, 2) := by decide +kernel
theorem dX8_payWeek_9 : decode cX8_payWeek 9 = .ok (.iload_n 1, 1) := by decide +kernel
theorem dX8_payWeek_10 : decode cX8_payWeek 10 = .ok (.aload_n 0, 1) := by decide +kernel
theorem dX8_payWeek_11 : decode cX8_payWeek 11 = .ok (.getfield 40, 3) := by decide +kernel
theorem dX8_payWeek_14 : decode cX8_payWeek 14 = .ok (.aload_n 2, 1) := by decide +kernel
theorem dX8_payWeek_15 : decode cX8_payWeek 15 = .ok (.iload_n 3, 1) := by decide +kernel
theorem dX8_payWeek_16 : decode cX8_payWeek 16 = .ok (.invokevirtual 131, 3) := by decide +kernel
theorem dX8_payWeek_19 : decode cX8_payWeek 19 = .ok (.aload 5, 2) := by decide +kernel
theorem dX8_payWeek_21 : decode cX8_payWeek 21 = .ok (.aload_n 2, 1) := by decide +kernel
theorem dX8_payWeek_22 : decode cX8_payWeek 22 = .ok (.iload_n 3, 1) := by decide +kernel
theorem dX8_payWeek_23 : decode cX8_payWeek 23 = .ok (.invokevirtual 137, 3) := by decide +kernel
theorem dX8_payWeek_26 : decode cX8_payWeek 26 = .ok (.iconst 0, 1) := by decide +kernel
theorem dX8_payWeek_27 : decode cX8_payWeek 27 = .ok (.istore 6, 2) := by decide +kernel
theorem dX8_payWeek_29 : decode cX8_payWeek 29 = .ok (.iload 6, 2) := by decide +kernel
theorem dX8_payWeek_31 : decode cX8_payWeek 31 = .ok (.aload 5, 2) := by decide +kernel
theorem dX8_payWeek_33 : decode cX8_payWeek 33 = .ok (.getfield 141, 3) := by decide +kernel
theorem dX8_payWeek_36 : decode cX8_payWeek 36 = .ok (.if_icmp .ge 30, 3) := by decide +kernel
theorem dX8_payWeek_39 : decode cX8_payWeek 39 = .ok (.aload_n 0, 1) := by decide +kernel
theorem dX8_payWeek_40 : decode cX8_payWeek 40 = .ok (.getfield 31, 3) := by decide +kernel
theorem dX8_payWeek_43 : decode cX8_payWeek 43 = .ok (.aload 5, 2) := by decide +kernel
theorem dX8_payWeek_45 : decode cX8_payWeek 45 = .ok (.getfield 142, 3) := by decide +kernel
theorem dX8_payWeek_48 : decode cX8_payWeek 48 = .ok (.iload 6, 2) := by decide +kernel
theorem dX8_payWeek_50 : decode cX8_payWeek 50 = .ok (.iaload, 1) := by decide +kernel
theorem dX8_payWeek_51 : decode cX8_payWeek 51 = .ok (.aload 5, 2) := by decide +kernel
theorem dX8_payWeek_53 : decode cX8_payWeek 53 = .ok (.getfield 145, 3) := by decide +kernel
theorem dX8_payWeek_56 : decode cX8_payWeek 56 = .ok (.iload 6, 2) := by decide +kernel
theorem dX8_payWeek_58 : decode cX8_payWeek 58 = .ok (.iaload, 1) := by decide +kernel
