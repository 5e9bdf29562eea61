theorem dX12_once_9 : decode cX12_once 9 = .ok (.if_icmp .ne 9, 3) := by decide +kernel
theorem dX12_once_12 : decode cX12_once 12 = .ok (.aload_n 0, 1) := by decide +kernel
theorem dX12_once_13 : decode cX12_once 13 = .ok (.iconst 3, 1) := by decide +kernel
theorem dX12_once_14 : decode cX12_once 14 = .ok (.invokevirtual 45, 3) := by decide +kernel
theorem dX12_once_17 : decode cX12_once 17 = .ok (.ireturn, 1) := by decide +kernel
theorem dX12_once_18 : decode cX12_once 18 = .ok (.aload_n 0, 1) := by decide +kernel
theorem dX12_once_19 : decode cX12_once 19 = .ok (.dup, 1) := by decide +kernel
theorem dX12_once_20 : decode cX12_once 20 = .ok (.getfield 136, 3) := by decide +kernel
theorem dX12_once_23 : decode cX12_once 23 = .ok (.iconst 1, 1) := by decide +kernel
theorem dX12_once_24 : decode cX12_once 24 = .ok (.iload_n 1, 1) := by decide +kernel
theorem dX12_once_25 : decode cX12_once 25 = .ok (.ishl, 1) := by decide +kernel
theorem dX12_once_26 : decode cX12_once 26 = .ok (.ior, 1) := by decide +kernel
theorem dX12_once_27 : decode cX12_once 27 = .ok (.putfield 136, 3) := by decide +kernel
theorem dX12_once_30 : decode cX12_once 30 = .ok (.aload_n 0, 1) := by decide +kernel
theorem dX12_once_31 : decode cX12_once 31 = .ok (.invokevirtual 52, 3) := by decide +kernel
theorem dX12_once_34 : decode cX12_once 34 = .ok (.iconst 1, 1) := by decide +kernel
theorem dX12_once_35 : decode cX12_once 35 = .ok (.ireturn, 1) := by decide +kernel
set_option maxRecDepth 20000 in
theorem ggX12_clockLine_X12_once : GoodIn wsX12_clockLine wsX12_once := goodIn_r _ [7, 8, 9, 10, 11, 6, 12, 13, 14, 15, 16, 17, 18, 19, 20, 21, 22, 23, 24, 25, 26, 27, 28, 29, 30, 31, 41, 42, 43, 44, 45, 46, 47, 48, 49, 50, 51, 52, 53, 54, 55, 56, 57, 58, 59, 60, 61, 62, 63, 64, 65, 66, 67, 68, 69, 70, 71, 72, 73, 74, 75, 76, 77, 78] (by decide +kernel) (by decide +kernel)
set_option maxRecDepth 20000 in
theorem gX12_clockLine_X12_once : GoodIn wsX12_clockLine (wsV RX12 139 RX12 yX12_once wsX12_once) := goodIn_app (goodIn_of _ (by decide +kernel)) ggX12_clockLine_X12_once
set_option maxRecDepth 20000 in
theorem ggX12_clockLine_X12_number : GoodIn wsX12_clockLine wsX12_number := goodIn_r _ [35, 20, 21, 2, 9, 10, 11, 6, 12, 13, 14, 29, 30, 31, 15, 16, 17, 18, 19, 22, 23, 24, 25, 26, 27, 28, 41, 42, 43, 44, 45, 46, 47, 48, 49, 50, 51, 52, 53, 54, 55, 56, 57, 58, 59, 60, 61, 62, 63, 64, 65, 66, 67, 68, 69, 70, 71, 72, 73, 74, 75, 76, 77, 78] (by decide +kernel) (by decide +kernel)
set_option maxRecDepth 20000 in
theorem gX12_clockLine_X12_number : GoodIn wsX12_clockLine (wsV RX12 142 RX12 yX12_number wsX12_number) := goodIn_app (goodIn_of _ (by decide +kernel)) ggX12_clockLine_X12_number
set_option maxRecDepth 20000 in
theorem ggX12_clockLine_X12_isWord : GoodIn wsX12_clockLine wsX12_isWord := goodIn_r _ [39, 40, 20, 19, 14, 23, 24, 25, 6, 26, 27, 28, 41, 42, 43, 44, 45, 46, 47, 48, 49, 50, 51, 52, 53, 54, 55, 56, 57, 58, 59, 60, 61, 62, 63, 64, 65, 66, 67, 68, 69, 70, 71, 72, 73, 74, 75, 76, 77, 78] (by decide +kernel) (by decide +kernel)
set_option maxRecDepth 20000 in
theorem gX12_clockLine_X12_isWord : GoodIn wsX12_clockLine (wsV RX12 146 RX12 yX12_isWord wsX12_isWord) := goodIn_app (goodIn_of _ (by decide +kernel)) ggX12_clockLine_X12_isWord
set_option maxRecDepth 20000 in
theorem ggX12_clockLine_X12_bad : GoodIn wsX12_clockLine wsX12_bad := goodIn_r _ [12, 13, 14, 41, 42, 43, 44, 45, 46, 47, 48, 49, 50, 51, 52, 53, 54, 55, 56, 57, 58, 59, 60, 61, 62, 63, 64, 65, 66, 67, 68, 69, 70, 71, 72, 73, 74, 75, 76, 77, 78] (by decide +kernel) (by decide +kernel)
set_option maxRecDepth 20000 in
theorem gX12_clockLine_X12_bad : GoodIn wsX12_clockLine (wsV RX12 45 RX12 yX12_bad wsX12_bad) := goodIn_app (goodIn_of _ (by decide +kernel)) ggX12_clockLine_X12_bad
set_option maxRecDepth 20000 in
theorem ggX12_clockLine_X12_go : GoodIn wsX12_clockLine wsX12_go := goodIn_r _ [18, 19, 14, 20, 21, 22, 23, 24, 25, 6, 26, 27, 28, 29, 30, 31, 41, 42, 43, 44, 45, 46, 47, 48, 49, 50, 51, 52, 53, 54, 55, 56, 57, 58, 59, 60, 61, 62, 63, 64, 65, 66, 67, 68, 69, 70, 71, 72, 73, 74, 75, 76, 77, 78] (by decide +kernel) (by decide +kernel)
set_option maxRecDepth 20000 in
theorem gX12_clockLine_X12_go : GoodIn wsX12_clockLine (wsV RX12 52 RX12 yX12_go wsX12_go) := goodIn_app (goodIn_of _ (by decide +kernel)) ggX12_clockLine_X12_go
theorem dX12_clockLine_0 : decode cX12_clockLine 0 = .ok (.aload_n 0, 1) := by decide +kernel
theorem dX12_clockLine_1 : decode cX12_clockLine 1 = .ok (.iconst 0, 1) := by decide +kernel
theorem dX12_clockLine_2 : decode cX12_clockLine 2 = .ok (.invokevirtual 139, 3) := by decide +kernel
theorem dX12_clockLine_5 : decode cX12_clockLine 5 = .ok (.ifCond .eq 13, 3) := by decide +kernel
theorem dX12_clockLine_8 : decode cX12_clockLine 8 = .ok (.aload_n 0, 1) := by decide +kernel
theorem dX12_clockLine_9 : decode cX12_clockLine 9 = .ok (.iconst 0, 1) := by decide +kernel
theorem dX12_clockLine_10 : decode cX12_clockLine 10 = .ok (.bipush 27, 2) := by decide +kernel
theorem dX12_clockLine_12 : decode cX12_clockLine 12 = .ok (.invokevirtual 142, 3) := by decide +kernel
theorem dX12_clockLine_15 : decode cX12_clockLine 15 = .ok (.ifCond .ne 5, 3) := by decide +kernel
theorem dX12_clockLine_18 : decode cX12_clockLine 18 = .ok (.iconst 0, 1) := by decide +kernel
theorem dX12_clockLine_19 : decode cX12_clockLine 19 = .ok (.ireturn, 1) := by decide +kernel
theorem dX12_clockLine_20 : decode cX12_clockLine 20 = .ok (.aload_n 0, 1) := by decide +kernel
theorem dX12_clockLine_21 : decode cX12_clockLine 21 = .ok (.getfield 65, 3) := by decide +kernel
theorem dX12_clockLine_24 : decode cX12_clockLine 24 = .ok (.iconst 5, 1) := by decide +kernel
theorem dX12_clockLine_25 : decode cX12_clockLine 25 = .ok (.aload_n 0, 1) := by decide +kernel
theorem dX12_clockLine_26 : decode cX12_clockLine 26 = .ok (.getfield 49, 3) := by decide +kernel
theorem dX12_clockLine_29 : decode cX12_clockLine 29 = .ok (.iastore, 1) := by decide +kernel
theorem dX12_clockLine_30 : decode cX12_clockLine 30 = .ok (.aload_n 0, 1) := by decide +kernel
theorem dX12_clockLine_31 : decode cX12_clockLine 31 = .ok (.iconst 0, 1) := by decide +kernel
theorem dX12_clockLine_32 : decode cX12_clockLine 32 = .ok (.bipush 23, 2) := by decide +kernel
theorem dX12_clockLine_34 : decode cX12_clockLine 34 = .ok (.invokevirtual 142, 3) := by decide +kernel
theorem dX12_clockLine_37 : decode cX12_clockLine 37 = .ok (.ifCond .ne 5, 3) := by decide +kernel
theorem dX12_clockLine_40 : decode cX12_clockLine 40 = .ok (.iconst 0, 1) := by decide +kernel
theorem dX12_clockLine_41 : decode cX12_clockLine 41 = .ok (.ireturn, 1) := by decide +kernel
theorem dX12_clockLine_42 : decode cX12_clockLine 42 = .ok (.aload_n 0, 1) := by decide +kernel
theorem dX12_clockLine_43 : decode cX12_clockLine 43 = .ok (.getfield 65, 3) := by decide +kernel
theorem dX12_clockLine_46 : decode cX12_clockLine 46 = .ok (.bipush 6, 2) := by decide +kernel
theorem dX12_clockLine_48 : decode cX12_clockLine 48 = .ok (.aload_n 0, 1) := by decide +kernel
theorem dX12_clockLine_49 : decode cX12_clockLine 49 = .ok (.getfield 49, 3) := by decide +kernel
theorem dX12_clockLine_52 : decode cX12_clockLine 52 = .ok (.iastore, 1) := by decide +kernel
theorem dX12_clockLine_53 : decode cX12_clockLine 53 = .ok (.aload_n 0, 1) := by decide +kernel
theorem dX12_clockLine_54 : decode cX12_clockLine 54 = .ok (.bipush 102, 2) := by decide +kernel
theorem dX12_clockLine_56 : decode cX12_clockLine 56 = .ok (.bipush 111, 2) := by decide +kernel
theorem dX12_clockLine_58 : decode cX12_clockLine 58 = .ok (.bipush 114, 2) := by decide +kernel
theorem dX12_clockLine_60 : decode cX12_clockLine 60 = .ok (.bipush 119, 2) := by decide +kernel
theorem dX12_clockLine_62 : decode cX12_clockLine 62 = .ok (.bipush 97, 2) := by decide +kernel
theorem dX12_clockLine_64 : decode cX12_clockLine 64 = .ok (.bipush 114, 2) := by decide +kernel
theorem dX12_clockLine_66 : decode cX12_clockLine 66 = .ok (.bipush 100, 2) := by decide +kernel
theorem dX12_clockLine_68 : decode cX12_clockLine 68 = .ok (.iconst 0, 1) := by decide +kernel
theorem dX12_clockLine_69 : decode cX12_clockLine 69 = .ok (.invokevirtual 146, 3) := by decide +kernel
theorem dX12_clockLine_72 : decode cX12_clockLine 72 = .ok (.istore_n 1, 1) := by decide +kernel
theorem dX12_clockLine_73 : decode cX12_clockLine 73 = .ok (.iload_n 1, 1) := by decide +kernel
theorem dX12_clockLine_74 : decode cX12_clockLine 74 = .ok (.ifCond .ne 28, 3) := by decide +kernel
theorem dX12_clockLine_77 : decode cX12_clockLine 77 = .ok (.aload_n 0, 1) := by decide +kernel
theorem dX12_clockLine_78 : decode cX12_clockLine 78 = .ok (.bipush 98, 2) := by decide +kernel
theorem dX12_clockLine_80 : decode cX12_clockLine 80 = .ok (.bipush 97, 2) := by decide +kernel
theorem dX12_clockLine_82 : decode cX12_clockLine 82 = .ok (.bipush 99, 2) := by decide +kernel
theorem dX12_clockLine_84 : decode cX12_clockLine 84 = .ok (.bipush 107, 2) := by decide +kernel
theorem dX12_clockLine_86 : decode cX12_clockLine 86 = .ok (.iconst 0, 1) := by decide +kernel
theorem dX12_clockLine_87 : decode cX12_clockLine 87 = .ok (.iconst 0, 1) := by decide +kernel
theorem dX12_clockLine_88 : decode cX12_clockLine 88 = .ok (.iconst 0, 1) := by decide +kernel
theorem dX12_clockLine_89 : decode cX12_clockLine 89 = .ok (.iconst 0, 1) := by decide +kernel
theorem dX12_clockLine_90 : decode cX12_clockLine 90 = .ok (.invokevirtual 146, 3) := by decide +kernel
theorem dX12_clockLine_93 : decode cX12_clockLine 93 = .ok (.ifCond .ne 9, 3) := by decide +kernel
theorem dX12_clockLine_96 : decode cX12_clockLine 96 = .ok (.aload_n 0, 1) := by decide +kernel
theorem dX12_clockLine_97 : decode cX12_clockLine 97 = .ok (.iconst 1, 1) := by decide +kernel
theorem dX12_clockLine_98 : decode cX12_clockLine 98 = .ok (.invokevirtual 45, 3) := by decide +kernel
theorem dX12_clockLine_101 : decode cX12_clockLine 101 = .ok (.ireturn, 1) := by decide +kernel
theorem dX12_clockLine_102 : decode cX12_clockLine 102 = .ok (.aload_n 0, 1) := by decide +kernel
theorem dX12_clockLine_103 : decode cX12_clockLine 103 = .ok (.getfield 65, 3) := by decide +kernel
theorem dX12_clockLine_106 : decode cX12_clockLine 106 = .ok (.bipush 7, 2) := by decide +kernel
theorem dX12_clockLine_108 : decode cX12_clockLine 108 = .ok (.iload_n 1, 1) := by decide +kernel
theorem dX12_clockLine_109 : decode cX12_clockLine 109 = .ok (.ifCond .eq 7, 3) := by decide +kernel
theorem dX12_clockLine_112 : decode cX12_clockLine 112 = .ok (.iconst 1, 1) := by decide +kernel
theorem dX12_clockLine_113 : decode cX12_clockLine 113 = .ok (.goto 4, 3) := by decide +kernel
theorem dX12_clockLine_116 : decode cX12_clockLine 116 = .ok (.iconst 0, 1) := by decide +kernel
theorem dX12_clockLine_117 : decode cX12_clockLine 117 = .ok (.iastore, 1) := by decide +kernel
theorem dX12_clockLine_118 : decode cX12_clockLine 118 = .ok (.aload_n 0, 1) := by decide +kernel
theorem dX12_clockLine_119 : decode cX12_clockLine 119 = .ok (.invokevirtual 52, 3) := by decide +kernel
theorem dX12_clockLine_122 : decode cX12_clockLine 122 = .ok (.iconst 1, 1) := by decide +kernel
theorem dX12_clockLine_123 : decode cX12_clockLine 123 = .ok (.ireturn, 1) := by decide +kernel
set_option maxRecDepth 20000 in
theorem ggX12_feastLine_X12_bad : GoodIn wsX12_feastLine wsX12_bad := goodIn_r _ [9, 10, 11, 31, 32, 33, 34, 35, 36, 37, 38, 39, 40, 41, 42, 43, 44, 45, 46, 47, 48, 49, 50, 51, 52, 53, 54, 55, 56, 57, 58, 59, 60, 61, 62, 63, 64, 65, 66, 67, 68] (by decide +kernel) (by decide +kernel)
set_option maxRecDepth 20000 in
theorem gX12_feastLine_X12_bad : GoodIn wsX12_feastLine (wsV RX12 45 RX12 yX12_bad wsX12_bad) := goodIn_app (goodIn_of _ (by decide +kernel)) ggX12_feastLine_X12_bad
set_option maxRecDepth 20000 in
theorem ggX12_feastLine_X12_go : GoodIn wsX12_feastLine wsX12_go := goodIn_r _ [15, 16, 11, 2, 3, 17, 18, 19, 20, 8, 21, 22, 23, 24, 25, 26, 31, 32, 33, 34, 35, 36, 37, 38, 39, 40, 41, 42, 43, 44, 45, 46, 47, 48, 49, 50, 51, 52, 53, 54, 55, 56, 57, 58, 59, 60, 61, 62, 63, 64, 65, 66, 67, 68] (by decide +kernel) (by decide +kernel)
set_option maxRecDepth 20000 in
theorem gX12_feastLine_X12_go : GoodIn wsX12_feastLine (wsV RX12 52 RX12 yX12_go wsX12_go) := goodIn_app (goodIn_of _ (by decide +kernel)) ggX12_feastLine_X12_go
set_option maxRecDepth 20000 in
theorem ggX12_feastLine_X12_within : GoodIn wsX12_feastLine wsX12_within := goodIn_r _ [26] (by decide +kernel) (by decide +kernel)
set_option maxRecDepth 20000 in
theorem gX12_feastLine_X12_within : GoodIn wsX12_feastLine (va_wsS RX12 34 yX12_within wsX12_within) := goodIn_app (goodIn_of _ (by decide +kernel)) ggX12_feastLine_X12_within
set_option maxRecDepth 20000 in
theorem ggX12_feastLine_X12_number : GoodIn wsX12_feastLine wsX12_number := goodIn_r _ [30, 2, 3, 4, 5, 6, 7, 8, 9, 10, 11, 24, 25, 26, 12, 13, 14, 15, 16, 17, 18, 19, 20, 21, 22, 23, 31, 32, 33, 34, 35, 36, 37, 38, 39, 40, 41, 42, 43, 44, 45, 46, 47, 48, 49, 50, 51, 52, 53, 54, 55, 56, 57, 58, 59, 60, 61, 62, 63, 64, 65, 66, 67, 68] (by decide +kernel) (by decide +kernel)
set_option maxRecDepth 20000 in
theorem gX12_feastLine_X12_number : GoodIn wsX12_feastLine (wsV RX12 142 RX12 yX12_number wsX12_number) := goodIn_app (goodIn_of _ (by decide +kernel)) ggX12_feastLine_X12_number
theorem dX12_feastLine_0 : decode cX12_feastLine 0 = .ok (.aload_n 0, 1) := by decide +kernel
theorem dX12_feastLine_1 : decode cX12_feastLine 1 = .ok (.getfield 65, 3) := by decide +kernel
theorem dX12_feastLine_4 : decode cX12_feastLine 4 = .ok (.bipush 9, 2) := by decide +kernel
theorem dX12_feastLine_6 : decode cX12_feastLine 6 = .ok (.iaload, 1) := by decide +kernel
theorem dX12_feastLine_7 : decode cX12_feastLine 7 = .ok (.iconst 4, 1) := by decide +kernel
theorem dX12_feastLine_8 : decode cX12_feastLine 8 = .ok (.if_icmp .ne 9, 3) := by decide +kernel
theorem dX12_feastLine_11 : decode cX12_feastLine 11 = .ok (.aload_n 0, 1) := by decide +kernel
theorem dX12_feastLine_12 : decode cX12_feastLine 12 = .ok (.iconst 3, 1) := by decide +kernel
theorem dX12_feastLine_13 : decode cX12_feastLine 13 = .ok (.invokevirtual 45, 3) := by decide +kernel
theorem dX12_feastLine_16 : decode cX12_feastLine 16 = .ok (.ireturn, 1) := by decide +kernel
theorem dX12_feastLine_17 : decode cX12_feastLine 17 = .ok (.aload_n 0, 1) := by decide +kernel
theorem dX12_feastLine_18 : decode cX12_feastLine 18 = .ok (.invokevirtual 52, 3) := by decide +kernel
theorem dX12_feastLine_21 : decode cX12_feastLine 21 = .ok (.aload_n 0, 1) := by decide +kernel
theorem dX12_feastLine_22 : decode cX12_feastLine 22 = .ok (.getfield 31, 3) := by decide +kernel
theorem dX12_feastLine_25 : decode cX12_feastLine 25 = .ok (.iconst 2, 1) := by decide +kernel
theorem dX12_feastLine_26 : decode cX12_feastLine 26 = .ok (.if_icmp .ne 40, 3) := by decide +kernel
theorem dX12_feastLine_29 : decode cX12_feastLine 29 = .ok (.aload_n 0, 1) := by decide +kernel
theorem dX12_feastLine_30 : decode cX12_feastLine 30 = .ok (.getfield 38, 3) := by decide +kernel
theorem dX12_feastLine_33 : decode cX12_feastLine 33 = .ok (.iconst 0, 1) := by decide +kernel
theorem dX12_feastLine_34 : decode cX12_feastLine 34 = .ok (.bipush 27, 2) := by decide +kernel
theorem dX12_feastLine_36 : decode cX12_feastLine 36 = .ok (.invokestatic 34, 3) := by decide +kernel
theorem dX12_feastLine_39 : decode cX12_feastLine 39 = .ok (.ifCond .eq 27, 3) := by decide +kernel
theorem dX12_feastLine_42 : decode cX12_feastLine 42 = .ok (.aload_n 0, 1) := by decide +kernel
theorem dX12_feastLine_43 : decode cX12_feastLine 43 = .ok (.getfield 65, 3) := by decide +kernel
theorem dX12_feastLine_46 : decode cX12_feastLine 46 = .ok (.bipush 8, 2) := by decide +kernel
theorem dX12_feastLine_48 : decode cX12_feastLine 48 = .ok (.iaload, 1) := by decide +kernel
theorem dX12_feastLine_49 : decode cX12_feastLine 49 = .ok (.aload_n 0, 1) := by decide +kernel
theorem dX12_feastLine_50 : decode cX12_feastLine 50 = .ok (.getfield 38, 3) := by decide +kernel
theorem dX12_feastLine_53 : decode cX12_feastLine 53 = .ok (.ishr, 1) := by decide +kernel
theorem dX12_feastLine_54 : decode cX12_feastLine 54 = .ok (.iconst 1, 1) := by decide +kernel
theorem dX12_feastLine_55 : decode cX12_feastLine 55 = .ok (.iand, 1) := by decide +kernel
theorem dX12_feastLine_56 : decode cX12_feastLine 56 = .ok (.iconst 1, 1) := by decide +kernel
theorem dX12_feastLine_57 : decode cX12_feastLine 57 = .ok (.if_icmp .ne 9, 3) := by decide +kernel
theorem dX12_feastLine_60 : decode cX12_feastLine 60 = .ok (.aload_n 0, 1) := by decide +kernel
theorem dX12_feastLine_61 : decode cX12_feastLine 61 = .ok (.iconst 2, 1) := by decide +kernel
theorem dX12_feastLine_62 : decode cX12_feastLine 62 = .ok (.invokevirtual 45, 3) := by decide +kernel
theorem dX12_feastLine_65 : decode cX12_feastLine 65 = .ok (.ireturn, 1) := by decide +kernel
theorem dX12_feastLine_66 : decode cX12_feastLine 66 = .ok (.aload_n 0, 1) := by decide +kernel
theorem dX12_feastLine_67 : decode cX12_feastLine 67 = .ok (.iconst 0, 1) := by decide +kernel
theorem dX12_feastLine_68 : decode cX12_feastLine 68 = .ok (.bipush 27, 2) := by decide +kernel
theorem dX12_feastLine_70 : decode cX12_feastLine 70 = .ok (.invokevirtual 142, 3) := by decide +kernel
theorem dX12_feastLine_73 : decode cX12_feastLine 73 = .ok (.ifCond .ne 5, 3) := by decide +kernel
theorem dX12_feastLine_76 : decode cX12_feastLine 76 = .ok (.iconst 0, 1) := by decide +kernel
theorem dX12_feastLine_77 : decode cX12_feastLine 77 = .ok (.ireturn, 1) := by decide +kernel
theorem dX12_feastLine_78 : decode cX12_feastLine 78 = .ok (.aload_n 0, 1) := by decide +kernel
theorem dX12_feastLine_79 : decode cX12_feastLine 79 = .ok (.getfield 65, 3) := by decide +kernel
theorem dX12_feastLine_82 : decode cX12_feastLine 82 = .ok (.bipush 8, 2) := by decide +kernel
theorem dX12_feastLine_84 : decode cX12_feastLine 84 = .ok (.dup2, 1) := by decide +kernel
theorem dX12_feastLine_85 : decode cX12_feastLine 85 = .ok (.iaload, 1) := by decide +kernel
theorem dX12_feastLine_86 : decode cX12_feastLine 86 = .ok (.iconst 1, 1) := by decide +kernel
theorem dX12_feastLine_87 : decode cX12_feastLine 87 = .ok (.aload_n 0, 1) := by decide +kernel
theorem dX12_feastLine_88 : decode cX12_feastLine 88 = .ok (.getfield 49, 3) := by decide +kernel
theorem dX12_feastLine_91 : decode cX12_feastLine 91 = .ok (.ishl, 1) := by decide +kernel
theorem dX12_feastLine_92 : decode cX12_feastLine 92 = .ok (.ior, 1) := by decide +kernel
theorem dX12_feastLine_93 : decode cX12_feastLine 93 = .ok (.iastore, 1) := by decide +kernel
theorem dX12_feastLine_94 : decode cX12_feastLine 94 = .ok (.aload_n 0, 1) := by decide +kernel
theorem dX12_feastLine_95 : decode cX12_feastLine 95 = .ok (.getfield 65, 3) := by decide +kernel
theorem dX12_feastLine_98 : decode cX12_feastLine 98 = .ok (.bipush 9, 2) := by decide +kernel
theorem dX12_feastLine_100 : decode cX12_feastLine 100 = .ok (.dup2, 1) := by decide +kernel
theorem dX12_feastLine_101 : decode cX12_feastLine 101 = .ok (.iaload, 1) := by decide +kernel
theorem dX12_feastLine_102 : decode cX12_feastLine 102 = .ok (.iconst 1, 1) := by decide +kernel
theorem dX12_feastLine_103 : decode cX12_feastLine 103 = .ok (.iadd, 1) := by decide +kernel
theorem dX12_feastLine_104 : decode cX12_feastLine 104 = .ok (.iastore, 1) := by decide +kernel
theorem dX12_feastLine_105 : decode cX12_feastLine 105 = .ok (.iconst 1, 1) := by decide +kernel
theorem dX12_feastLine_106 : decode cX12_feastLine 106 = .ok (.ireturn, 1) := by decide +kernel
set_option maxRecDepth 20000 in
theorem ggX12_mealLine_X12_once : GoodIn wsX12_mealLine wsX12_once := goodIn_r _ [7, 8, 9, 10, 11, 6, 12, 13, 14, 15, 16, 17, 18, 19, 20, 21, 22, 23, 24, 25, 26, 27, 28, 29, 30, 31, 36, 37, 38, 39, 40, 41, 42, 43, 44, 45, 46, 47, 48, 49, 50, 51, 52, 53, 54, 55, 56, 57, 58, 59, 60, 61, 62, 63, 64, 65, 66, 67, 68, 69, 70, 71, 72, 73] (by decide +kernel) (by decide +kernel)
set_option maxRecDepth 20000 in
theorem gX12_mealLine_X12_once : GoodIn wsX12_mealLine (wsV RX12 139 RX12 yX12_once wsX12_once) := goodIn_app (goodIn_of _ (by decide +kernel)) ggX12_mealLine_X12_once
set_option maxRecDepth 20000 in
theorem ggX12_mealLine_X12_number : GoodIn wsX12_mealLine wsX12_number := goodIn_r _ [35, 20, 21, 2, 9, 10, 11, 6, 12, 13, 14, 29, 30, 31, 15, 16, 17, 18, 19, 22, 23, 24, 25, 26, 27, 28, 36, 37, 38, 39, 40, 41, 42, 43, 44, 45, 46, 47, 48, 49, 50, 51, 52, 53, 54, 55, 56, 57, 58, 59, 60, 61, 62, 63, 64, 65, 66, 67, 68, 69, 70, 71, 72, 73] (by decide +kernel) (by decide +kernel)
set_option maxRecDepth 20000 in
theorem gX12_mealLine_X12_number : GoodIn wsX12_mealLine (wsV RX12 142 RX12 yX12_number wsX12_number) := goodIn_app (goodIn_of _ (by decide +kernel)) ggX12_mealLine_X12_number
theorem dX12_mealLine_0 : decode cX12_mealLine 0 = .ok (.aload_n 0, 1) := by decide +kernel
theorem dX12_mealLine_1 : decode cX12_mealLine 1 = .ok (.iconst 2, 1) := by decide +kernel
theorem dX12_mealLine_2 : decode cX12_mealLine 2 = .ok (.invokevirtual 139, 3) := by decide +kernel
theorem dX12_mealLine_5 : decode cX12_mealLine 5 = .ok (.ifCond .eq 13, 3) := by decide +kernel
theorem dX12_mealLine_8 : decode cX12_mealLine 8 = .ok (.aload_n 0, 1) := by decide +kernel
theorem dX12_mealLine_9 : decode cX12_mealLine 9 = .ok (.iconst 1, 1) := by decide +kernel
theorem dX12_mealLine_10 : decode cX12_mealLine 10 = .ok (.bipush 96, 2) := by decide +kernel
theorem dX12_mealLine_12 : decode cX12_mealLine 12 = .ok (.invokevirtual 142, 3) := by decide +kernel
theorem dX12_mealLine_15 : decode cX12_mealLine 15 = .ok (.ifCond .ne 5, 3) := by decide +kernel
theorem dX12_mealLine_18 : decode cX12_mealLine 18 = .ok (.iconst 0, 1) := by decide +kernel
theorem dX12_mealLine_19 : decode cX12_mealLine 19 = .ok (.ireturn, 1) := by decide +kernel
theorem dX12_mealLine_20 : decode cX12_mealLine 20 = .ok (.aload_n 0, 1) := by decide +kernel
theorem dX12_mealLine_21 : decode cX12_mealLine 21 = .ok (.getfield 65, 3) := by decide +kernel
theorem dX12_mealLine_24 : decode cX12_mealLine 24 = .ok (.iconst 1, 1) := by decide +kernel
theorem dX12_mealLine_25 : decode cX12_mealLine 25 = .ok (.aload_n 0, 1) := by decide +kernel
theorem dX12_mealLine_26 : decode cX12_mealLine 26 = .ok (.getfield 49, 3) := by decide +kernel
theorem dX12_mealLine_29 : decode cX12_mealLine 29 = .ok (.iastore, 1) := by decide +kernel
theorem dX12_mealLine_30 : decode cX12_mealLine 30 = .ok (.aload_n 0, 1) := by decide +kernel
theorem dX12_mealLine_31 : decode cX12_mealLine 31 = .ok (.iconst 1, 1) := by decide +kernel
theorem dX12_mealLine_32 : decode cX12_mealLine 32 = .ok (.bipush 16, 2) := by decide +kernel
theorem dX12_mealLine_34 : decode cX12_mealLine 34 = .ok (.invokevirtual 142, 3) := by decide +kernel
theorem dX12_mealLine_37 : decode cX12_mealLine 37 = .ok (.ifCond .ne 5, 3) := by decide +kernel
theorem dX12_mealLine_40 : decode cX12_mealLine 40 = .ok (.iconst 0, 1) := by decide +kernel
theorem dX12_mealLine_41 : decode cX12_mealLine 41 = .ok (.ireturn, 1) := by decide +kernel
theorem dX12_mealLine_42 : decode cX12_mealLine 42 = .ok (.aload_n 0, 1) := by decide +kernel
theorem dX12_mealLine_43 : decode cX12_mealLine 43 = .ok (.getfield 65, 3) := by decide +kernel
theorem dX12_mealLine_46 : decode cX12_mealLine 46 = .ok (.iconst 2, 1) := by decide +kernel
theorem dX12_mealLine_47 : decode cX12_mealLine 47 = .ok (.aload_n 0, 1) := by decide +kernel
theorem dX12_mealLine_48 : decode cX12_mealLine 48 = .ok (.getfield 49, 3) := by decide +kernel
theorem dX12_mealLine_51 : decode cX12_mealLine 51 = .ok (.iastore, 1) := by decide +kernel
theorem dX12_mealLine_52 : decode cX12_mealLine 52 = .ok (.iconst 1, 1) := by decide +kernel
theorem dX12_mealLine_53 : decode cX12_mealLine 53 = .ok (.ireturn, 1) := by decide +kernel
set_option maxRecDepth 20000 in
theorem ggX12_oneLine_X12_once : GoodIn wsX12_oneLine wsX12_once := goodIn_r _ [7, 8, 9, 10, 11, 6, 12, 13, 14, 15, 16, 17, 18, 19, 20, 21, 22, 23, 24, 25, 26, 27, 28, 29, 30, 31, 36, 37, 38, 39, 40, 41, 42, 43, 44, 45, 46, 47, 48, 49, 50, 51, 52, 53, 54, 55, 56, 57, 58, 59, 60, 61, 62, 63, 64, 65, 66, 67, 68, 69, 70, 71, 72, 73] (by decide +kernel) (by decide +kernel)
set_option maxRecDepth 20000 in
theorem gX12_oneLine_X12_once : GoodIn wsX12_oneLine (wsV RX12 139 RX12 yX12_once wsX12_once) := goodIn_app (goodIn_of _ (by decide +kernel)) ggX12_oneLine_X12_once
set_option maxRecDepth 20000 in
theorem ggX12_oneLine_X12_number : GoodIn wsX12_oneLine wsX12_number := goodIn_r _ [35, 20, 21, 2, 9, 10, 11, 6, 12, 13, 14, 29, 30, 31, 15, 16, 17, 18, 19, 22, 23, 24, 25, 26, 27, 28, 36, 37, 38, 39, 40, 41, 42, 43, 44, 45, 46, 47, 48, 49, 50, 51, 52, 53, 54, 55, 56, 57, 58, 59, 60, 61, 62, 63, 64, 65, 66, 67, 68, 69, 70, 71, 72, 73] (by decide +kernel) (by decide +kernel)
set_option maxRecDepth 20000 in
theorem gX12_oneLine_X12_number : GoodIn wsX12_oneLine (wsV RX12 142 RX12 yX12_number wsX12_number) := goodIn_app (goodIn_of _ (by decide +kernel)) ggX12_oneLine_X12_number
theorem dX12_oneLine_0 : decode cX12_oneLine 0 = .ok (.aload_n 0, 1) := by decide +kernel
theorem dX12_oneLine_1 : decode cX12_oneLine 1 = .ok (.iload_n 1, 1) := by decide +kernel
theorem dX12_oneLine_2 : decode cX12_oneLine 2 = .ok (.invokevirtual 139, 3) := by decide +kernel
theorem dX12_oneLine_5 : decode cX12_oneLine 5 = .ok (.ifCond .eq 13, 3) := by decide +kernel
theorem dX12_oneLine_8 : decode cX12_oneLine 8 = .ok (.aload_n 0, 1) := by decide +kernel
theorem dX12_oneLine_9 : decode cX12_oneLine 9 = .ok (.iload_n 3, 1) := by decide +kernel
theorem dX12_oneLine_10 : decode cX12_oneLine 10 = .ok (.iload 4, 2) := by decide +kernel
theorem dX12_oneLine_12 : decode cX12_oneLine 12 = .ok (.invokevirtual 142, 3) := by decide +kernel
theorem dX12_oneLine_15 : decode cX12_oneLine 15 = .ok (.ifCond .ne 5, 3) := by decide +kernel
theorem dX12_oneLine_18 : decode cX12_oneLine 18 = .ok (.iconst 0, 1) := by decide +kernel
theorem dX12_oneLine_19 : decode cX12_oneLine 19 = .ok (.ireturn, 1) := by decide +kernel
theorem dX12_oneLine_20 : decode cX12_oneLine 20 = .ok (.aload_n 0, 1) := by decide +kernel
theorem dX12_oneLine_21 : decode cX12_oneLine 21 = .ok (.getfield 65, 3) := by decide +kernel
theorem dX12_oneLine_24 : decode cX12_oneLine 24 = .ok (.iload_n 2, 1) := by decide +kernel
theorem dX12_oneLine_25 : decode cX12_oneLine 25 = .ok (.aload_n 0, 1) := by decide +kernel
theorem dX12_oneLine_26 : decode cX12_oneLine 26 = .ok (.getfield 49, 3) := by decide +kernel
theorem dX12_oneLine_29 : decode cX12_oneLine 29 = .ok (.iastore, 1) := by decide +kernel
theorem dX12_oneLine_30 : decode cX12_oneLine 30 = .ok (.iconst 1, 1) := by decide +kernel
theorem dX12_oneLine_31 : decode cX12_oneLine 31 = .ok (.ireturn, 1) := by decide +kernel
set_option maxRecDepth 20000 in
theorem ggX12_kindOf_X12_isWord : GoodIn wsX12_kindOf wsX12_isWord := goodIn_r _ [5, 6, 7, 8, 9, 10, 11, 12, 4, 13, 14, 15, 16, 17, 18, 19, 20, 21, 22, 23, 24, 25, 26, 27, 28, 29, 30, 31, 32, 33, 34, 35, 36, 37, 38, 39, 40, 41, 42, 43, 44, 45, 46, 47, 48, 49, 50, 51, 52, 53] (by decide +kernel) (by decide +kernel)
set_option maxRecDepth 20000 in
theorem gX12_kindOf_X12_isWord : GoodIn wsX12_kindOf (wsV RX12 146 RX12 yX12_isWord wsX12_isWord) := goodIn_app (goodIn_of _ (by decide +kernel)) ggX12_kindOf_X12_isWord
theorem dX12_kindOf_0 : decode cX12_kindOf 0 = .ok (.aload_n 0, 1) := by decide +kernel
theorem dX12_kindOf_1 : decode cX12_kindOf 1 = .ok (.bipush 100, 2) := by decide +kernel
theorem dX12_kindOf_3 : decode cX12_kindOf 3 = .ok (.bipush 97, 2) := by decide +kernel
theorem dX12_kindOf_5 : decode cX12_kindOf 5 = .ok (.bipush 121, 2) := by decide +kernel
theorem dX12_kindOf_7 : decode cX12_kindOf 7 = .ok (.iconst 0, 1) := by decide +kernel
theorem dX12_kindOf_8 : decode cX12_kindOf 8 = .ok (.iconst 0, 1) := by decide +kernel
theorem dX12_kindOf_9 : decode cX12_kindOf 9 = .ok (.iconst 0, 1) := by decide +kernel
theorem dX12_kindOf_10 : decode cX12_kindOf 10 = .ok (.iconst 0, 1) := by decide +kernel
theorem dX12_kindOf_11 : decode cX12_kindOf 11 = .ok (.iconst 0, 1) := by decide +kernel
theorem dX12_kindOf_12 : decode cX12_kindOf 12 = .ok (.invokevirtual 146, 3) := by decide +kernel
theorem dX12_kindOf_15 : decode cX12_kindOf 15 = .ok (.ifCond .eq 5, 3) := by decide +kernel
theorem dX12_kindOf_18 : decode cX12_kindOf 18 = .ok (.iconst 0, 1) := by decide +kernel
theorem dX12_kindOf_19 : decode cX12_kindOf 19 = .ok (.ireturn, 1) := by decide +kernel
theorem dX12_kindOf_20 : decode cX12_kindOf 20 = .ok (.aload_n 0, 1) := by decide +kernel
theorem dX12_kindOf_21 : decode cX12_kindOf 21 = .ok (.bipush 119, 2) := by decide +kernel
theorem dX12_kindOf_23 : decode cX12_kindOf 23 = .ok (.bipush 101, 2) := by decide +kernel
theorem dX12_kindOf_25 : decode cX12_kindOf 25 = .ok (.bipush 101, 2) := by decide +kernel
theorem dX12_kindOf_27 : decode cX12_kindOf 27 = .ok (.bipush 107, 2) := by decide +kernel
theorem dX12_kindOf_29 : decode cX12_kindOf 29 = .ok (.iconst 0, 1) := by decide +kernel
theorem dX12_kindOf_30 : decode cX12_kindOf 30 = .ok (.iconst 0, 1) := by decide +kernel
theorem dX12_kindOf_31 : decode cX12_kindOf 31 = .ok (.iconst 0, 1) := by decide +kernel
theorem dX12_kindOf_32 : decode cX12_kindOf 32 = .ok (.iconst 0, 1) := by decide +kernel
theorem dX12_kindOf_33 : decode cX12_kindOf 33 = .ok (.invokevirtual 146, 3) := by decide +kernel
theorem dX12_kindOf_36 : decode cX12_kindOf 36 = .ok (.ifCond .eq 5, 3) := by decide +kernel
theorem dX12_kindOf_39 : decode cX12_kindOf 39 = .ok (.iconst 1, 1) := by decide +kernel
theorem dX12_kindOf_40 : decode cX12_kindOf 40 = .ok (.ireturn, 1) := by decide +kernel
theorem dX12_kindOf_41 : decode cX12_kindOf 41 = .ok (.aload_n 0, 1) := by decide +kernel
theorem dX12_kindOf_42 : decode cX12_kindOf 42 = .ok (.bipush 115, 2) := by decide +kernel
theorem dX12_kindOf_44 : decode cX12_kindOf 44 = .ok (.bipush 101, 2) := by decide +kernel
theorem dX12_kindOf_46 : decode cX12_kindOf 46 = .ok (.bipush 118, 2) := by decide +kernel
theorem dX12_kindOf_48 : decode cX12_kindOf 48 = .ok (.bipush 101, 2) := by decide +kernel
theorem dX12_kindOf_50 : decode cX12_kindOf 50 = .ok (.bipush 110, 2) := by decide +kernel
theorem dX12_kindOf_52 : decode cX12_kindOf 52 = .ok (.bipush 116, 2) := by decide +kernel
theorem dX12_kindOf_54 : decode cX12_kindOf 54 = .ok (.bipush 104, 2) := by decide +kernel
theorem dX12_kindOf_56 : decode cX12_kindOf 56 = .ok (.iconst 0, 1) := by decide +kernel
theorem dX12_kindOf_57 : decode cX12_kindOf 57 = .ok (.invokevirtual 146, 3) := by decide +kernel
theorem dX12_kindOf_60 : decode cX12_kindOf 60 = .ok (.ifCond .eq 5, 3) := by decide +kernel
theorem dX12_kindOf_63 : decode cX12_kindOf 63 = .ok (.iconst 2, 1) := by decide +kernel
theorem dX12_kindOf_64 : decode cX12_kindOf 64 = .ok (.ireturn, 1) := by decide +kernel
theorem dX12_kindOf_65 : decode cX12_kindOf 65 = .ok (.aload_n 0, 1) := by decide +kernel
theorem dX12_kindOf_66 : decode cX12_kindOf 66 = .ok (.bipush 110, 2) := by decide +kernel
theorem dX12_kindOf_68 : decode cX12_kindOf 68 = .ok (.bipush 105, 2) := by decide +kernel
theorem dX12_kindOf_70 : decode cX12_kindOf 70 = .ok (.bipush 103, 2) := by decide +kernel
theorem dX12_kindOf_72 : decode cX12_kindOf 72 = .ok (.bipush 104, 2) := by decide +kernel
theorem dX12_kindOf_74 : decode cX12_kindOf 74 = .ok (.bipush 116, 2) := by decide +kernel
theorem dX12_kindOf_76 : decode cX12_kindOf 76 = .ok (.iconst 0, 1) := by decide +kernel
theorem dX12_kindOf_77 : decode cX12_kindOf 77 = .ok (.iconst 0, 1) := by decide +kernel
theorem dX12_kindOf_78 : decode cX12_kindOf 78 = .ok (.iconst 0, 1) := by decide +kernel
theorem dX12_kindOf_79 : decode cX12_kindOf 79 = .ok (.invokevirtual 146, 3) := by decide +kernel
theorem dX12_kindOf_82 : decode cX12_kindOf 82 = .ok (.ifCond .eq 5, 3) := by decide +kernel
theorem dX12_kindOf_85 : decode cX12_kindOf 85 = .ok (.iconst 3, 1) := by decide +kernel
theorem dX12_kindOf_86 : decode cX12_kindOf 86 = .ok (.ireturn, 1) := by decide +kernel
theorem dX12_kindOf_87 : decode cX12_kindOf 87 = .ok (.aload_n 0, 1) := by decide +kernel
theorem dX12_kindOf_88 : decode cX12_kindOf 88 = .ok (.bipush 104, 2) := by decide +kernel
theorem dX12_kindOf_90 : decode cX12_kindOf 90 = .ok (.bipush 111, 2) := by decide +kernel
theorem dX12_kindOf_92 : decode cX12_kindOf 92 = .ok (.bipush 108, 2) := by decide +kernel
theorem dX12_kindOf_94 : decode cX12_kindOf 94 = .ok (.bipush 105, 2) := by decide +kernel
theorem dX12_kindOf_96 : decode cX12_kindOf 96 = .ok (.bipush 100, 2) := by decide +kernel
theorem dX12_kindOf_98 : decode cX12_kindOf 98 = .ok (.bipush 97, 2) := by decide +kernel
theorem dX12_kindOf_100 : decode cX12_kindOf 100 = .ok (.bipush 121, 2) := by decide +kernel
theorem dX12_kindOf_102 : decode cX12_kindOf 102 = .ok (.iconst 0, 1) := by decide +kernel
theorem dX12_kindOf_103 : decode cX12_kindOf 103 = .ok (.invokevirtual 146, 3) := by decide +kernel
theorem dX12_kindOf_106 : decode cX12_kindOf 106 = .ok (.ifCond .eq 7, 3) := by decide +kernel
theorem dX12_kindOf_109 : decode cX12_kindOf 109 = .ok (.iconst 4, 1) := by decide +kernel
theorem dX12_kindOf_110 : decode cX12_kindOf 110 = .ok (.goto 4, 3) := by decide +kernel
theorem dX12_kindOf_113 : decode cX12_kindOf 113 = .ok (.iconst (-1), 1) := by decide +kernel
theorem dX12_kindOf_114 : decode cX12_kindOf 114 = .ok (.ireturn, 1) := by decide +kernel
set_option maxRecDepth 20000 in
theorem ggX12_premiumLine_X12_bad : GoodIn wsX12_premiumLine wsX12_bad := goodIn_r _ [9, 10, 11, 40, 41, 42, 43, 44, 45, 46, 47, 48, 49, 50, 51, 52, 53, 54, 55, 56, 57, 58, 59, 60, 61, 62, 63, 64, 65, 66, 67, 68, 69, 70, 71, 72, 73, 74, 75, 76, 77] (by decide +kernel) (by decide +kernel)
set_option maxRecDepth 20000 in
theorem gX12_premiumLine_X12_bad : GoodIn wsX12_premiumLine (wsV RX12 45 RX12 yX12_bad wsX12_bad) := goodIn_app (goodIn_of _ (by decide +kernel)) ggX12_premiumLine_X12_bad
set_option maxRecDepth 20000 in
theorem ggX12_premiumLine_X12_go : GoodIn wsX12_premiumLine wsX12_go := goodIn_r _ [15, 16, 11, 3, 4, 17, 18, 19, 20, 8, 21, 22, 23, 24, 25, 26, 40, 41, 42, 43, 44, 45, 46, 47, 48, 49, 50, 51, 52, 53, 54, 55, 56, 57, 58, 59, 60, 61, 62, 63, 64, 65, 66, 67, 68, 69, 70, 71, 72, 73, 74, 75, 76, 77] (by decide +kernel) (by decide +kernel)
set_option maxRecDepth 20000 in
theorem gX12_premiumLine_X12_go : GoodIn wsX12_premiumLine (wsV RX12 52 RX12 yX12_go wsX12_go) := goodIn_app (goodIn_of _ (by decide +kernel)) ggX12_premiumLine_X12_go
set_option maxRecDepth 20000 in
theorem ggX12_premiumLine_X12_kindOf : GoodIn wsX12_premiumLine wsX12_kindOf := goodIn_r _ [30, 31, 32, 33, 8, 34, 35, 3, 16, 11, 18, 19, 20, 21, 22, 23, 40, 41, 42, 43, 44, 45, 46, 47, 48, 49, 50, 51, 52, 53, 54, 55, 56, 57, 58, 59, 60, 61, 62, 63, 64, 65, 66, 67, 68, 69, 70, 71, 72, 73, 74, 75, 76, 77] (by decide +kernel) (by decide +kernel)
set_option maxRecDepth 20000 in
theorem gX12_premiumLine_X12_kindOf : GoodIn wsX12_premiumLine (wsV RX12 150 RX12 yX12_kindOf wsX12_kindOf) := goodIn_app (goodIn_of _ (by decide +kernel)) ggX12_premiumLine_X12_kindOf
set_option maxRecDepth 20000 in
theorem ggX12_premiumLine_X12_number : GoodIn wsX12_premiumLine wsX12_number := goodIn_r _ [39, 3, 4, 2, 5, 6, 7, 8, 9, 10, 11, 24, 25, 26, 12, 13, 14, 15, 16, 17, 18, 19, 20, 21, 22, 23, 40, 41, 42, 43, 44, 45, 46, 47, 48, 49, 50, 51, 52, 53, 54, 55, 56, 57, 58, 59, 60, 61, 62, 63, 64, 65, 66, 67, 68, 69, 70, 71, 72, 73, 74, 75, 76, 77] (by decide +kernel) (by decide +kernel)
set_option maxRecDepth 20000 in
theorem gX12_premiumLine_X12_number : GoodIn wsX12_premiumLine (wsV RX12 142 RX12 yX12_number wsX12_number) := goodIn_app (goodIn_of _ (by decide +kernel)) ggX12_premiumLine_X12_number
set_option maxRecDepth 20000 in
theorem ggX12_premiumLine_X12_isWord : GoodIn wsX12_premiumLine wsX12_isWord := goodIn_r _ [34, 35, 3, 16, 11, 18, 19, 20, 8, 21, 22, 23, 40, 41, 42, 43, 44, 45, 46, 47, 48, 49, 50, 51, 52, 53, 54, 55, 56, 57, 58, 59, 60, 61, 62, 63, 64, 65, 66, 67, 68, 69, 70, 71, 72, 73, 74, 75, 76, 77] (by decide +kernel) (by decide +kernel)
set_option maxRecDepth 20000 in
theorem gX12_premiumLine_X12_isWord : GoodIn wsX12_premiumLine (wsV RX12 146 RX12 yX12_isWord wsX12_isWord) := goodIn_app (goodIn_of _ (by decide +kernel)) ggX12_premiumLine_X12_isWord
theorem dX12_premiumLine_0 : decode cX12_premiumLine 0 = .ok (.aload_n 0, 1) := by decide +kernel
theorem dX12_premiumLine_1 : decode cX12_premiumLine 1 = .ok (.getfield 65, 3) := by decide +kernel
theorem dX12_premiumLine_4 : decode cX12_premiumLine 4 = .ok (.bipush 10, 2) := by decide +kernel
theorem dX12_premiumLine_6 : decode cX12_premiumLine 6 = .ok (.iaload, 1) := by decide +kernel
theorem dX12_premiumLine_7 : decode cX12_premiumLine 7 = .ok (.bipush 8, 2) := by decide +kernel
theorem dX12_premiumLine_9 : decode cX12_premiumLine 9 = .ok (.if_icmp .ne 9, 3) := by decide +kernel
theorem dX12_premiumLine_12 : decode cX12_premiumLine 12 = .ok (.aload_n 0, 1) := by decide +kernel
theorem dX12_premiumLine_13 : decode cX12_premiumLine 13 = .ok (.iconst 3, 1) := by decide +kernel
theorem dX12_premiumLine_14 : decode cX12_premiumLine 14 = .ok (.invokevirtual 45, 3) := by decide +kernel
theorem dX12_premiumLine_17 : decode cX12_premiumLine 17 = .ok (.ireturn, 1) := by decide +kernel
theorem dX12_premiumLine_18 : decode cX12_premiumLine 18 = .ok (.aload_n 0, 1) := by decide +kernel
theorem dX12_premiumLine_19 : decode cX12_premiumLine 19 = .ok (.invokevirtual 52, 3) := by decide +kernel
theorem dX12_premiumLine_22 : decode cX12_premiumLine 22 = .ok (.bipush 11, 2) := by decide +kernel
theorem dX12_premiumLine_24 : decode cX12_premiumLine 24 = .ok (.iconst 5, 1) := by decide +kernel
theorem dX12_premiumLine_25 : decode cX12_premiumLine 25 = .ok (.aload_n 0, 1) := by decide +kernel
theorem dX12_premiumLine_26 : decode cX12_premiumLine 26 = .ok (.getfield 65, 3) := by decide +kernel
theorem dX12_premiumLine_29 : decode cX12_premiumLine 29 = .ok (.bipush 10, 2) := by decide +kernel
theorem dX12_premiumLine_31 : decode cX12_premiumLine 31 = .ok (.iaload, 1) := by decide +kernel
theorem dX12_premiumLine_32 : decode cX12_premiumLine 32 = .ok (.imul, 1) := by decide +kernel
theorem dX12_premiumLine_33 : decode cX12_premiumLine 33 = .ok (.iadd, 1) := by decide +kernel
theorem dX12_premiumLine_34 : decode cX12_premiumLine 34 = .ok (.istore_n 1, 1) := by decide +kernel
theorem dX12_premiumLine_35 : decode cX12_premiumLine 35 = .ok (.aload_n 0, 1) := by decide +kernel
theorem dX12_premiumLine_36 : decode cX12_premiumLine 36 = .ok (.invokevirtual 150, 3) := by decide +kernel
theorem dX12_premiumLine_39 : decode cX12_premiumLine 39 = .ok (.istore_n 2, 1) := by decide +kernel
theorem dX12_premiumLine_40 : decode cX12_premiumLine 40 = .ok (.iload_n 2, 1) := by decide +kernel
theorem dX12_premiumLine_41 : decode cX12_premiumLine 41 = .ok (.iconst (-1), 1) := by decide +kernel
theorem dX12_premiumLine_42 : decode cX12_premiumLine 42 = .ok (.if_icmp .ne 9, 3) := by decide +kernel
theorem dX12_premiumLine_45 : decode cX12_premiumLine 45 = .ok (.aload_n 0, 1) := by decide +kernel
theorem dX12_premiumLine_46 : decode cX12_premiumLine 46 = .ok (.iconst 1, 1) := by decide +kernel
theorem dX12_premiumLine_47 : decode cX12_premiumLine 47 = .ok (.invokevirtual 45, 3) := by decide +kernel
theorem dX12_premiumLine_50 : decode cX12_premiumLine 50 = .ok (.ireturn, 1) := by decide +kernel
theorem dX12_premiumLine_51 : decode cX12_premiumLine 51 = .ok (.aload_n 0, 1) := by decide +kernel
theorem dX12_premiumLine_52 : decode cX12_premiumLine 52 = .ok (.invokevirtual 52, 3) := by decide +kernel
theorem dX12_premiumLine_55 : decode cX12_premiumLine 55 = .ok (.aload_n 0, 1) := by decide +kernel
theorem dX12_premiumLine_56 : decode cX12_premiumLine 56 = .ok (.getfield 65, 3) := by decide +kernel
theorem dX12_premiumLine_59 : decode cX12_premiumLine 59 = .ok (.iload_n 1, 1) := by decide +kernel
theorem dX12_premiumLine_60 : decode cX12_premiumLine 60 = .ok (.iload_n 2, 1) := by decide +kernel
theorem dX12_premiumLine_61 : decode cX12_premiumLine 61 = .ok (.iastore, 1) := by decide +kernel
theorem dX12_premiumLine_62 : decode cX12_premiumLine 62 = .ok (.aload_n 0, 1) := by decide +kernel
theorem dX12_premiumLine_63 : decode cX12_premiumLine 63 = .ok (.getfield 65, 3) := by decide +kernel
theorem dX12_premiumLine_66 : decode cX12_premiumLine 66 = .ok (.iload_n 1, 1) := by decide +kernel
theorem dX12_premiumLine_67 : decode cX12_premiumLine 67 = .ok (.iconst 3, 1) := by decide +kernel
theorem dX12_premiumLine_68 : decode cX12_premiumLine 68 = .ok (.iadd, 1) := by decide +kernel
theorem dX12_premiumLine_69 : decode cX12_premiumLine 69 = .ok (.iconst (-1), 1) := by decide +kernel
theorem dX12_premiumLine_70 : decode cX12_premiumLine 70 = .ok (.iastore, 1) := by decide +kernel
theorem dX12_premiumLine_71 : decode cX12_premiumLine 71 = .ok (.aload_n 0, 1) := by decide +kernel
theorem dX12_premiumLine_72 : decode cX12_premiumLine 72 = .ok (.getfield 65, 3) := by decide +kernel
theorem dX12_premiumLine_75 : decode cX12_premiumLine 75 = .ok (.iload_n 1, 1) := by decide +kernel
theorem dX12_premiumLine_76 : decode cX12_premiumLine 76 = .ok (.iconst 4, 1) := by decide +kernel
theorem dX12_premiumLine_77 : decode cX12_premiumLine 77 = .ok (.iadd, 1) := by decide +kernel
theorem dX12_premiumLine_78 : decode cX12_premiumLine 78 = .ok (.iconst (-1), 1) := by decide +kernel
theorem dX12_premiumLine_79 : decode cX12_premiumLine 79 = .ok (.iastore, 1) := by decide +kernel
theorem dX12_premiumLine_80 : decode cX12_premiumLine 80 = .ok (.iload_n 2, 1) := by decide +kernel
theorem dX12_premiumLine_81 : decode cX12_premiumLine 81 = .ok (.iconst 1, 1) := by decide +kernel
theorem dX12_premiumLine_82 : decode cX12_premiumLine 82 = .ok (.if_icmp .le 8, 3) := by decide +kernel
theorem dX12_premiumLine_85 : decode cX12_premiumLine 85 = .ok (.iload_n 2, 1) := by decide +kernel
theorem dX12_premiumLine_86 : decode cX12_premiumLine 86 = .ok (.iconst 3, 1) := by decide +kernel
theorem dX12_premiumLine_87 : decode cX12_premiumLine 87 = .ok (.if_icmp .ne 47, 3) := by decide +kernel
theorem dX12_premiumLine_90 : decode cX12_premiumLine 90 = .ok (.aload_n 0, 1) := by decide +kernel
theorem dX12_premiumLine_91 : decode cX12_premiumLine 91 = .ok (.iconst 0, 1) := by decide +kernel
theorem dX12_premiumLine_92 : decode cX12_premiumLine 92 = .ok (.iload_n 2, 1) := by decide +kernel
theorem dX12_premiumLine_93 : decode cX12_premiumLine 93 = .ok (.ifCond .ne 8, 3) := by decide +kernel
theorem dX12_premiumLine_96 : decode cX12_premiumLine 96 = .ok (.bipush 96, 2) := by decide +kernel
theorem dX12_premiumLine_98 : decode cX12_premiumLine 98 = .ok (.goto 16, 3) := by decide +kernel
theorem dX12_premiumLine_101 : decode cX12_premiumLine 101 = .ok (.iload_n 2, 1) := by decide +kernel
theorem dX12_premiumLine_102 : decode cX12_premiumLine 102 = .ok (.iconst 1, 1) := by decide +kernel
theorem dX12_premiumLine_103 : decode cX12_premiumLine 103 = .ok (.if_icmp .ne 9, 3) := by decide +kernel
theorem dX12_premiumLine_106 : decode cX12_premiumLine 106 = .ok (.sipush 672, 3) := by decide +kernel
theorem dX12_premiumLine_109 : decode cX12_premiumLine 109 = .ok (.goto 5, 3) := by decide +kernel
theorem dX12_premiumLine_112 : decode cX12_premiumLine 112 = .ok (.bipush 23, 2) := by decide +kernel
theorem dX12_premiumLine_114 : decode cX12_premiumLine 114 = .ok (.invokevirtual 142, 3) := by decide +kernel
theorem dX12_premiumLine_117 : decode cX12_premiumLine 117 = .ok (.ifCond .ne 5, 3) := by decide +kernel
theorem dX12_premiumLine_120 : decode cX12_premiumLine 120 = .ok (.iconst 0, 1) := by decide +kernel
theorem dX12_premiumLine_121 : decode cX12_premiumLine 121 = .ok (.ireturn, 1) := by decide +kernel
theorem dX12_premiumLine_122 : decode cX12_premiumLine 122 = .ok (.aload_n 0, 1) := by decide +kernel
theorem dX12_premiumLine_123 : decode cX12_premiumLine 123 = .ok (.getfield 65, 3) := by decide +kernel
theorem dX12_premiumLine_126 : decode cX12_premiumLine 126 = .ok (.iload_n 1, 1) := by decide +kernel
theorem dX12_premiumLine_127 : decode cX12_premiumLine 127 = .ok (.iconst 3, 1) := by decide +kernel
theorem dX12_premiumLine_128 : decode cX12_premiumLine 128 = .ok (.iadd, 1) := by decide +kernel
theorem dX12_premiumLine_129 : decode cX12_premiumLine 129 = .ok (.aload_n 0, 1) := by decide +kernel
theorem dX12_premiumLine_130 : decode cX12_premiumLine 130 = .ok (.getfield 49, 3) := by decide +kernel
theorem dX12_premiumLine_133 : decode cX12_premiumLine 133 = .ok (.iastore, 1) := by decide +kernel
theorem dX12_premiumLine_134 : decode cX12_premiumLine 134 = .ok (.iload_n 2, 1) := by decide +kernel
theorem dX12_premiumLine_135 : decode cX12_premiumLine 135 = .ok (.iconst 3, 1) := by decide +kernel
theorem dX12_premiumLine_136 : decode cX12_premiumLine 136 = .ok (.if_icmp .ne 56, 3) := by decide +kernel
theorem dX12_premiumLine_139 : decode cX12_premiumLine 139 = .ok (.aload_n 0, 1) := by decide +kernel
theorem dX12_premiumLine_140 : decode cX12_premiumLine 140 = .ok (.getfield 31, 3) := by decide +kernel
theorem dX12_premiumLine_143 : decode cX12_premiumLine 143 = .ok (.iconst 2, 1) := by decide +kernel
theorem dX12_premiumLine_144 : decode cX12_premiumLine 144 = .ok (.if_icmp .ne 24, 3) := by decide +kernel
theorem dX12_premiumLine_147 : decode cX12_premiumLine 147 = .ok (.aload_n 0, 1) := by decide +kernel
theorem dX12_premiumLine_148 : decode cX12_premiumLine 148 = .ok (.getfield 38, 3) := by decide +kernel
theorem dX12_premiumLine_151 : decode cX12_premiumLine 151 = .ok (.aload_n 0, 1) := by decide +kernel
theorem dX12_premiumLine_152 : decode cX12_premiumLine 152 = .ok (.getfield 65, 3) := by decide +kernel
theorem dX12_premiumLine_155 : decode cX12_premiumLine 155 = .ok (.iload_n 1, 1) := by decide +kernel
theorem dX12_premiumLine_156 : decode cX12_premiumLine 156 = .ok (.iconst 3, 1) := by decide +kernel
theorem dX12_premiumLine_157 : decode cX12_premiumLine 157 = .ok (.iadd, 1) := by decide +kernel
theorem dX12_premiumLine_158 : decode cX12_premiumLine 158 = .ok (.iaload, 1) := by decide +kernel
theorem dX12_premiumLine_159 : decode cX12_premiumLine 159 = .ok (.if_icmp .ne 9, 3) := by decide +kernel
theorem dX12_premiumLine_162 : decode cX12_premiumLine 162 = .ok (.aload_n 0, 1) := by decide +kernel
theorem dX12_premiumLine_163 : decode cX12_premiumLine 163 = .ok (.iconst 2, 1) := by decide +kernel
theorem dX12_premiumLine_164 : decode cX12_premiumLine 164 = .ok (.invokevirtual 45, 3) := by decide +kernel
theorem dX12_premiumLine_167 : decode cX12_premiumLine 167 = .ok (.ireturn, 1) := by decide +kernel
theorem dX12_premiumLine_168 : decode cX12_premiumLine 168 = .ok (.aload_n 0, 1) := by decide +kernel
theorem dX12_premiumLine_169 : decode cX12_premiumLine 169 = .ok (.iconst 0, 1) := by decide +kernel
theorem dX12_premiumLine_170 : decode cX12_premiumLine 170 = .ok (.bipush 23, 2) := by decide +kernel
theorem dX12_premiumLine_172 : decode cX12_premiumLine 172 = .ok (.invokevirtual 142, 3) := by decide +kernel
theorem dX12_premiumLine_175 : decode cX12_premiumLine 175 = .ok (.ifCond .ne 5, 3) := by decide +kernel
theorem dX12_premiumLine_178 : decode cX12_premiumLine 178 = .ok (.iconst 0, 1) := by decide +kernel
theorem dX12_premiumLine_179 : decode cX12_premiumLine 179 = .ok (.ireturn, 1) := by decide +kernel
theorem dX12_premiumLine_180 : decode cX12_premiumLine 180 = .ok (.aload_n 0, 1) := by decide +kernel
theorem dX12_premiumLine_181 : decode cX12_premiumLine 181 = .ok (.getfield 65, 3) := by decide +kernel
theorem dX12_premiumLine_184 : decode cX12_premiumLine 184 = .ok (.iload_n 1, 1) := by decide +kernel
theorem dX12_premiumLine_185 : decode cX12_premiumLine 185 = .ok (.iconst 4, 1) := by decide +kernel
theorem dX12_premiumLine_186 : decode cX12_premiumLine 186 = .ok (.iadd, 1) := by decide +kernel
theorem dX12_premiumLine_187 : decode cX12_premiumLine 187 = .ok (.aload_n 0, 1) := by decide +kernel
theorem dX12_premiumLine_188 : decode cX12_premiumLine 188 = .ok (.getfield 49, 3) := by decide +kernel
theorem dX12_premiumLine_191 : decode cX12_premiumLine 191 = .ok (.iastore, 1) := by decide +kernel
theorem dX12_premiumLine_192 : decode cX12_premiumLine 192 = .ok (.aload_n 0, 1) := by decide +kernel
theorem dX12_premiumLine_193 : decode cX12_premiumLine 193 = .ok (.iconst 1, 1) := by decide +kernel
theorem dX12_premiumLine_194 : decode cX12_premiumLine 194 = .ok (.sipush 300, 3) := by decide +kernel
theorem dX12_premiumLine_197 : decode cX12_premiumLine 197 = .ok (.invokevirtual 142, 3) := by decide +kernel
theorem dX12_premiumLine_200 : decode cX12_premiumLine 200 = .ok (.ifCond .ne 5, 3) := by decide +kernel
theorem dX12_premiumLine_203 : decode cX12_premiumLine 203 = .ok (.iconst 0, 1) := by decide +kernel
theorem dX12_premiumLine_204 : decode cX12_premiumLine 204 = .ok (.ireturn, 1) := by decide +kernel
theorem dX12_premiumLine_205 : decode cX12_premiumLine 205 = .ok (.aload_n 0, 1) := by decide +kernel
theorem dX12_premiumLine_206 : decode cX12_premiumLine 206 = .ok (.getfield 65, 3) := by decide +kernel
theorem dX12_premiumLine_209 : decode cX12_premiumLine 209 = .ok (.iload_n 1, 1) := by decide +kernel
theorem dX12_premiumLine_210 : decode cX12_premiumLine 210 = .ok (.iconst 1, 1) := by decide +kernel
theorem dX12_premiumLine_211 : decode cX12_premiumLine 211 = .ok (.iadd, 1) := by decide +kernel
theorem dX12_premiumLine_212 : decode cX12_premiumLine 212 = .ok (.aload_n 0, 1) := by decide +kernel
theorem dX12_premiumLine_213 : decode cX12_premiumLine 213 = .ok (.getfield 49, 3) := by decide +kernel
theorem dX12_premiumLine_216 : decode cX12_premiumLine 216 = .ok (.iastore, 1) := by decide +kernel
theorem dX12_premiumLine_217 : decode cX12_premiumLine 217 = .ok (.aload_n 0, 1) := by decide +kernel
theorem dX12_premiumLine_218 : decode cX12_premiumLine 218 = .ok (.bipush 99, 2) := by decide +kernel
theorem dX12_premiumLine_220 : decode cX12_premiumLine 220 = .ok (.bipush 111, 2) := by decide +kernel
theorem dX12_premiumLine_222 : decode cX12_premiumLine 222 = .ok (.bipush 117, 2) := by decide +kernel
theorem dX12_premiumLine_224 : decode cX12_premiumLine 224 = .ok (.bipush 110, 2) := by decide +kernel
theorem dX12_premiumLine_226 : decode cX12_premiumLine 226 = .ok (.bipush 116, 2) := by decide +kernel
theorem dX12_premiumLine_228 : decode cX12_premiumLine 228 = .ok (.bipush 115, 2) := by decide +kernel
theorem dX12_premiumLine_230 : decode cX12_premiumLine 230 = .ok (.iconst 0, 1) := by decide +kernel
theorem dX12_premiumLine_231 : decode cX12_premiumLine 231 = .ok (.iconst 0, 1) := by decide +kernel
theorem dX12_premiumLine_232 : decode cX12_premiumLine 232 = .ok (.invokevirtual 146, 3) := by decide +kernel
theorem dX12_premiumLine_235 : decode cX12_premiumLine 235 = .ok (.istore_n 3, 1) := by decide +kernel
theorem dX12_premiumLine_236 : decode cX12_premiumLine 236 = .ok (.aload_n 0, 1) := by decide +kernel
theorem dX12_premiumLine_237 : decode cX12_premiumLine 237 = .ok (.getfield 65, 3) := by decide +kernel
theorem dX12_premiumLine_240 : decode cX12_premiumLine 240 = .ok (.iload_n 1, 1) := by decide +kernel
theorem dX12_premiumLine_241 : decode cX12_premiumLine 241 = .ok (.iconst 2, 1) := by decide +kernel
theorem dX12_premiumLine_242 : decode cX12_premiumLine 242 = .ok (.iadd, 1) := by decide +kernel
theorem dX12_premiumLine_243 : decode cX12_premiumLine 243 = .ok (.iload_n 3, 1) := by decide +kernel
theorem dX12_premiumLine_244 : decode cX12_premiumLine 244 = .ok (.ifCond .eq 7, 3) := by decide +kernel
theorem dX12_premiumLine_247 : decode cX12_premiumLine 247 = .ok (.iconst 1, 1) := by decide +kernel
theorem dX12_premiumLine_248 : decode cX12_premiumLine 248 = .ok (.goto 4, 3) := by decide +kernel
theorem dX12_premiumLine_251 : decode cX12_premiumLine 251 = .ok (.iconst 0, 1) := by decide +kernel
theorem dX12_premiumLine_252 : decode cX12_premiumLine 252 = .ok (.iastore, 1) := by decide +kernel
theorem dX12_premiumLine_253 : decode cX12_premiumLine 253 = .ok (.iload_n 3, 1) := by decide +kernel
theorem dX12_premiumLine_254 : decode cX12_premiumLine 254 = .ok (.ifCond .eq 7, 3) := by decide +kernel
theorem dX12_premiumLine_257 : decode cX12_premiumLine 257 = .ok (.aload_n 0, 1) := by decide +kernel
theorem dX12_premiumLine_258 : decode cX12_premiumLine 258 = .ok (.invokevirtual 52, 3) := by decide +kernel
theorem dX12_premiumLine_261 : decode cX12_premiumLine 261 = .ok (.aload_n 0, 1) := by decide +kernel
theorem dX12_premiumLine_262 : decode cX12_premiumLine 262 = .ok (.getfield 65, 3) := by decide +kernel
theorem dX12_premiumLine_265 : decode cX12_premiumLine 265 = .ok (.bipush 10, 2) := by decide +kernel
theorem dX12_premiumLine_267 : decode cX12_premiumLine 267 = .ok (.dup2, 1) := by decide +kernel
theorem dX12_premiumLine_268 : decode cX12_premiumLine 268 = .ok (.iaload, 1) := by decide +kernel
theorem dX12_premiumLine_269 : decode cX12_premiumLine 269 = .ok (.iconst 1, 1) := by decide +kernel
theorem dX12_premiumLine_270 : decode cX12_premiumLine 270 = .ok (.iadd, 1) := by decide +kernel
theorem dX12_premiumLine_271 : decode cX12_premiumLine 271 = .ok (.iastore, 1) := by decide +kernel
theorem dX12_premiumLine_272 : decode cX12_premiumLine 272 = .ok (.iconst 1, 1) := by decide +kernel
theorem dX12_premiumLine_273 : decode cX12_premiumLine 273 = .ok (.ireturn, 1) := by decide +kernel
set_option maxRecDepth 20000 in
theorem ggX12_line_X12_isWord : GoodIn wsX12_line wsX12_isWord := goodIn_r _ [5, 6, 7, 8, 9, 10, 11, 12, 4, 13, 14, 15, 65, 66, 67, 68, 69, 70, 71, 72, 73, 74, 75, 76, 77, 78, 79, 80, 81, 82, 83, 84, 85, 86, 87, 88, 89, 90, 91, 92, 93, 94, 95, 96, 97, 98, 99, 100, 101, 102] (by decide +kernel) (by decide +kernel)
set_option maxRecDepth 20000 in
theorem gX12_line_X12_isWord : GoodIn wsX12_line (wsV RX12 146 RX12 yX12_isWord wsX12_isWord) := goodIn_app (goodIn_of _ (by decide +kernel)) ggX12_line_X12_isWord
set_option maxRecDepth 20000 in
theorem ggX12_line_X12_clockLine : GoodIn wsX12_line wsX12_clockLine := goodIn_r _ [19, 20, 21, 22, 23, 24, 4, 25, 26, 27, 28, 29, 30, 31, 9, 32, 33, 34, 35, 8, 7, 36, 37, 10, 11, 12, 13, 14, 15, 38, 39, 40, 41, 42, 43, 44, 1, 2, 3, 5, 6, 65, 66, 67, 68, 69, 70, 71, 72, 73, 74, 75, 76, 77, 78, 79, 80, 81, 82, 83, 84, 85, 86, 87, 88, 89, 90, 91, 92, 93, 94, 95, 96, 97, 98, 99, 100, 101, 102] (by decide +kernel) (by decide +kernel)
set_option maxRecDepth 20000 in
theorem gX12_line_X12_clockLine : GoodIn wsX12_line (wsV RX12 154 RX12 yX12_clockLine wsX12_clockLine) := goodIn_app (goodIn_of _ (by decide +kernel)) ggX12_line_X12_clockLine
set_option maxRecDepth 20000 in
theorem ggX12_line_X12_feastLine : GoodIn wsX12_line wsX12_feastLine := goodIn_r _ [48, 20, 7, 36, 21, 27, 28, 29, 4, 30, 31, 9, 32, 33, 34, 35, 8, 37, 10, 11, 12, 13, 14, 15, 38, 39, 40, 41, 42, 43, 44, 65, 66, 67, 68, 69, 70, 71, 72, 73, 74, 75, 76, 77, 78, 79, 80, 81, 82, 83, 84, 85, 86, 87, 88, 89, 90, 91, 92, 93, 94, 95, 96, 97, 98, 99, 100, 101, 102] (by decide +kernel) (by decide +kernel)
set_option maxRecDepth 20000 in
theorem gX12_line_X12_feastLine : GoodIn wsX12_line (wsV RX12 158 RX12 yX12_feastLine wsX12_feastLine) := goodIn_app (goodIn_of _ (by decide +kernel)) ggX12_line_X12_feastLine
set_option maxRecDepth 20000 in
theorem ggX12_line_X12_oneLine : GoodIn wsX12_line wsX12_oneLine := goodIn_r _ [52, 20, 21, 22, 23, 24, 4, 25, 26, 27, 28, 29, 30, 31, 9, 32, 33, 34, 35, 8, 7, 36, 37, 10, 11, 12, 13, 14, 15, 38, 39, 40, 41, 42, 43, 44, 65, 66, 67, 68, 69, 70, 71, 72, 73, 74, 75, 76, 77, 78, 79, 80, 81, 82, 83, 84, 85, 86, 87, 88, 89, 90, 91, 92, 93, 94, 95, 96, 97, 98, 99, 100, 101, 102] (by decide +kernel) (by decide +kernel)
set_option maxRecDepth 20000 in
theorem gX12_line_X12_oneLine : GoodIn wsX12_line (wsV RX12 161 RX12 yX12_oneLine wsX12_oneLine) := goodIn_app (goodIn_of _ (by decide +kernel)) ggX12_line_X12_oneLine
set_option maxRecDepth 20000 in
theorem ggX12_line_X12_mealLine : GoodIn wsX12_line wsX12_mealLine := goodIn_r _ [56, 20, 21, 22, 23, 24, 4, 25, 26, 27, 28, 29, 30, 31, 9, 32, 33, 34, 35, 8, 7, 36, 37, 10, 11, 12, 13, 14, 15, 38, 39, 40, 41, 42, 43, 44, 65, 66, 67, 68, 69, 70, 71, 72, 73, 74, 75, 76, 77, 78, 79, 80, 81, 82, 83, 84, 85, 86, 87, 88, 89, 90, 91, 92, 93, 94, 95, 96, 97, 98, 99, 100, 101, 102] (by decide +kernel) (by decide +kernel)
set_option maxRecDepth 20000 in
theorem gX12_line_X12_mealLine : GoodIn wsX12_line (wsV RX12 165 RX12 yX12_mealLine wsX12_mealLine) := goodIn_app (goodIn_of _ (by decide +kernel)) ggX12_line_X12_mealLine
set_option maxRecDepth 20000 in
theorem ggX12_line_X12_premiumLine : GoodIn wsX12_line wsX12_premiumLine := goodIn_r _ [60, 20, 21, 7, 36, 27, 28, 29, 4, 30, 31, 9, 32, 33, 34, 35, 8, 37, 10, 11, 12, 13, 14, 15, 38, 39, 40, 61, 62, 63, 64, 1, 2, 3, 5, 6, 41, 42, 43, 44, 65, 66, 67, 68, 69, 70, 71, 72, 73, 74, 75, 76, 77, 78, 79, 80, 81, 82, 83, 84, 85, 86, 87, 88, 89, 90, 91, 92, 93, 94, 95, 96, 97, 98, 99, 100, 101, 102] (by decide +kernel) (by decide +kernel)
set_option maxRecDepth 20000 in
theorem gX12_line_X12_premiumLine : GoodIn wsX12_line (wsV RX12 168 RX12 yX12_premiumLine wsX12_premiumLine) := goodIn_app (goodIn_of _ (by decide +kernel)) ggX12_line_X12_premiumLine
set_option maxRecDepth 20000 in
theorem ggX12_line_X12_bad : GoodIn wsX12_line wsX12_bad := goodIn_r _ [30, 31, 9, 65, 66, 67, 68, 69, 70, 71, 72, 73, 74, 75, 76, 77, 78, 79, 80, 81, 82, 83, 84, 85, 86, 87, 88, 89, 90, 91, 92, 93, 94, 95, 96, 97, 98, 99, 100, 101, 102] (by decide +kernel) (by decide +kernel)
set_option maxRecDepth 20000 in
theorem gX12_line_X12_bad : GoodIn wsX12_line (wsV RX12 45 RX12 yX12_bad wsX12_bad) := goodIn_app (goodIn_of _ (by decide +kernel)) ggX12_line_X12_bad
theorem dX12_line_0 : decode cX12_line 0 = .ok (.aload_n 0, 1) := by decide +kernel
theorem dX12_line_1 : decode cX12_line 1 = .ok (.bipush 99, 2) := by decide +kernel
theorem dX12_line_3 : decode cX12_line 3 = .ok (.bipush 108, 2) := by decide +kernel
theorem dX12_line_5 : decode cX12_line 5 = .ok (.bipush 111, 2) := by decide +kernel
theorem dX12_line_7 : decode cX12_line 7 = .ok (.bipush 99, 2) := by decide +kernel
theorem dX12_line_9 : decode cX12_line 9 = .ok (.bipush 107, 2) := by decide +kernel
theorem dX12_line_11 : decode cX12_line 11 = .ok (.iconst 0, 1) := by decide +kernel
theorem dX12_line_12 : decode cX12_line 12 = .ok (.iconst 0, 1) := by decide +kernel
theorem dX12_line_13 : decode cX12_line 13 = .ok (.iconst 0, 1) := by decide +kernel
theorem dX12_line_14 : decode cX12_line 14 = .ok (.invokevirtual 146, 3) := by decide +kernel
theorem dX12_line_17 : decode cX12_line 17 = .ok (.ifCond .eq 8, 3) := by decide +kernel
theorem dX12_line_20 : decode cX12_line 20 = .ok (.aload_n 0, 1) := by decide +kernel
theorem dX12_line_21 : decode cX12_line 21 = .ok (.invokevirtual 154, 3) := by decide +kernel
theorem dX12_line_24 : decode cX12_line 24 = .ok (.ireturn, 1) := by decide +kernel
theorem dX12_line_25 : decode cX12_line 25 = .ok (.aload_n 0, 1) := by decide +kernel
theorem dX12_line_26 : decode cX12_line 26 = .ok (.bipush 104, 2) := by decide +kernel
theorem dX12_line_28 : decode cX12_line 28 = .ok (.bipush 111, 2) := by decide +kernel
theorem dX12_line_30 : decode cX12_line 30 = .ok (.bipush 108, 2) := by decide +kernel
theorem dX12_line_32 : decode cX12_line 32 = .ok (.bipush 105, 2) := by decide +kernel
theorem dX12_line_34 : decode cX12_line 34 = .ok (.bipush 100, 2) := by decide +kernel
theorem dX12_line_36 : decode cX12_line 36 = .ok (.bipush 97, 2) := by decide +kernel
theorem dX12_line_38 : decode cX12_line 38 = .ok (.bipush 121, 2) := by decide +kernel
theorem dX12_line_40 : decode cX12_line 40 = .ok (.iconst 0, 1) := by decide +kernel
theorem dX12_line_41 : decode cX12_line 41 = .ok (.invokevirtual 146, 3) := by decide +kernel
theorem dX12_line_44 : decode cX12_line 44 = .ok (.ifCond .eq 8, 3) := by decide +kernel
theorem dX12_line_47 : decode cX12_line 47 = .ok (.aload_n 0, 1) := by decide +kernel
theorem dX12_line_48 : decode cX12_line 48 = .ok (.invokevirtual 158, 3) := by decide +kernel
theorem dX12_line_51 : decode cX12_line 51 = .ok (.ireturn, 1) := by decide +kernel
theorem dX12_line_52 : decode cX12_line 52 = .ok (.aload_n 0, 1) := by decide +kernel
theorem dX12_line_53 : decode cX12_line 53 = .ok (.bipush 114, 2) := by decide +kernel
theorem dX12_line_55 : decode cX12_line 55 = .ok (.bipush 111, 2) := by decide +kernel
theorem dX12_line_57 : decode cX12_line 57 = .ok (.bipush 117, 2) := by decide +kernel
theorem dX12_line_59 : decode cX12_line 59 = .ok (.bipush 110, 2) := by decide +kernel
theorem dX12_line_61 : decode cX12_line 61 = .ok (.bipush 100, 2) := by decide +kernel
theorem dX12_line_63 : decode cX12_line 63 = .ok (.iconst 0, 1) := by decide +kernel
theorem dX12_line_64 : decode cX12_line 64 = .ok (.iconst 0, 1) := by decide +kernel
theorem dX12_line_65 : decode cX12_line 65 = .ok (.iconst 0, 1) := by decide +kernel
theorem dX12_line_66 : decode cX12_line 66 = .ok (.invokevirtual 146, 3) := by decide +kernel
theorem dX12_line_69 : decode cX12_line 69 = .ok (.ifCond .eq 13, 3) := by decide +kernel
theorem dX12_line_72 : decode cX12_line 72 = .ok (.aload_n 0, 1) := by decide +kernel
theorem dX12_line_73 : decode cX12_line 73 = .ok (.iconst 1, 1) := by decide +kernel
theorem dX12_line_74 : decode cX12_line 74 = .ok (.iconst 0, 1) := by decide +kernel
theorem dX12_line_75 : decode cX12_line 75 = .ok (.iconst 0, 1) := by decide +kernel
theorem dX12_line_76 : decode cX12_line 76 = .ok (.bipush 14, 2) := by decide +kernel
theorem dX12_line_78 : decode cX12_line 78 = .ok (.invokevirtual 161, 3) := by decide +kernel
theorem dX12_line_81 : decode cX12_line 81 = .ok (.ireturn, 1) := by decide +kernel
theorem dX12_line_82 : decode cX12_line 82 = .ok (.aload_n 0, 1) := by decide +kernel
theorem dX12_line_83 : decode cX12_line 83 = .ok (.bipush 109, 2) := by decide +kernel
theorem dX12_line_85 : decode cX12_line 85 = .ok (.bipush 101, 2) := by decide +kernel
theorem dX12_line_87 : decode cX12_line 87 = .ok (.bipush 97, 2) := by decide +kernel
theorem dX12_line_89 : decode cX12_line 89 = .ok (.bipush 108, 2) := by decide +kernel
theorem dX12_line_91 : decode cX12_line 91 = .ok (.iconst 0, 1) := by decide +kernel
theorem dX12_line_92 : decode cX12_line 92 = .ok (.iconst 0, 1) := by decide +kernel
theorem dX12_line_93 : decode cX12_line 93 = .ok (.iconst 0, 1) := by decide +kernel
theorem dX12_line_94 : decode cX12_line 94 = .ok (.iconst 0, 1) := by decide +kernel
theorem dX12_line_95 : decode cX12_line 95 = .ok (.invokevirtual 146, 3) := by decide +kernel
theorem dX12_line_98 : decode cX12_line 98 = .ok (.ifCond .eq 8, 3) := by decide +kernel
theorem dX12_line_101 : decode cX12_line 101 = .ok (.aload_n 0, 1) := by decide +kernel
theorem dX12_line_102 : decode cX12_line 102 = .ok (.invokevirtual 165, 3) := by decide +kernel
theorem dX12_line_105 : decode cX12_line 105 = .ok (.ireturn, 1) := by decide +kernel
theorem dX12_line_106 : decode cX12_line 106 = .ok (.aload_n 0, 1) := by decide +kernel
theorem dX12_line_107 : decode cX12_line 107 = .ok (.bipush 108, 2) := by decide +kernel
theorem dX12_line_109 : decode cX12_line 109 = .ok (.bipush 111, 2) := by decide +kernel
theorem dX12_line_111 : decode cX12_line 111 = .ok (.bipush 110, 2) := by decide +kernel
theorem dX12_line_113 : decode cX12_line 113 = .ok (.bipush 103, 2) := by decide +kernel
theorem dX12_line_115 : decode cX12_line 115 = .ok (.bipush 101, 2) := by decide +kernel
theorem dX12_line_117 : decode cX12_line 117 = .ok (.bipush 115, 2) := by decide +kernel
theorem dX12_line_119 : decode cX12_line 119 = .ok (.bipush 116, 2) := by decide +kernel
theorem dX12_line_121 : decode cX12_line 121 = .ok (.iconst 0, 1) := by decide +kernel
theorem dX12_line_122 : decode cX12_line 122 = .ok (.invokevirtual 146, 3) := by decide +kernel
theorem dX12_line_125 : decode cX12_line 125 = .ok (.ifCond .eq 13, 3) := by decide +kernel
theorem dX12_line_128 : decode cX12_line 128 = .ok (.aload_n 0, 1) := by decide +kernel
theorem dX12_line_129 : decode cX12_line 129 = .ok (.iconst 3, 1) := by decide +kernel
theorem dX12_line_130 : decode cX12_line 130 = .ok (.iconst 3, 1) := by decide +kernel
theorem dX12_line_131 : decode cX12_line 131 = .ok (.iconst 1, 1) := by decide +kernel
theorem dX12_line_132 : decode cX12_line 132 = .ok (.bipush 24, 2) := by decide +kernel
theorem dX12_line_134 : decode cX12_line 134 = .ok (.invokevirtual 161, 3) := by decide +kernel
theorem dX12_line_137 : decode cX12_line 137 = .ok (.ireturn, 1) := by decide +kernel
theorem dX12_line_138 : decode cX12_line 138 = .ok (.aload_n 0, 1) := by decide +kernel
theorem dX12_line_139 : decode cX12_line 139 = .ok (.bipush 114, 2) := by decide +kernel
theorem dX12_line_141 : decode cX12_line 141 = .ok (.bipush 97, 2) := by decide +kernel
theorem dX12_line_143 : decode cX12_line 143 = .ok (.bipush 116, 2) := by decide +kernel
theorem dX12_line_145 : decode cX12_line 145 = .ok (.bipush 101, 2) := by decide +kernel
theorem dX12_line_147 : decode cX12_line 147 = .ok (.iconst 0, 1) := by decide +kernel
theorem dX12_line_148 : decode cX12_line 148 = .ok (.iconst 0, 1) := by decide +kernel
theorem dX12_line_149 : decode cX12_line 149 = .ok (.iconst 0, 1) := by decide +kernel
theorem dX12_line_150 : decode cX12_line 150 = .ok (.iconst 0, 1) := by decide +kernel
theorem dX12_line_151 : decode cX12_line 151 = .ok (.invokevirtual 146, 3) := by decide +kernel
theorem dX12_line_154 : decode cX12_line 154 = .ok (.ifCond .eq 14, 3) := by decide +kernel
theorem dX12_line_157 : decode cX12_line 157 = .ok (.aload_n 0, 1) := by decide +kernel
theorem dX12_line_158 : decode cX12_line 158 = .ok (.iconst 4, 1) := by decide +kernel
theorem dX12_line_159 : decode cX12_line 159 = .ok (.iconst 4, 1) := by decide +kernel
theorem dX12_line_160 : decode cX12_line 160 = .ok (.iconst 1, 1) := by decide +kernel
theorem dX12_line_161 : decode cX12_line 161 = .ok (.sipush 400, 3) := by decide +kernel
theorem dX12_line_164 : decode cX12_line 164 = .ok (.invokevirtual 161, 3) := by decide +kernel
theorem dX12_line_167 : decode cX12_line 167 = .ok (.ireturn, 1) := by decide +kernel
theorem dX12_line_168 : decode cX12_line 168 = .ok (.aload_n 0, 1) := by decide +kernel
theorem dX12_line_169 : decode cX12_line 169 = .ok (.bipush 112, 2) := by decide +kernel
theorem dX12_line_171 : decode cX12_line 171 = .ok (.bipush 114, 2) := by decide +kernel
theorem dX12_line_173 : decode cX12_line 173 = .ok (.bipush 101, 2) := by decide +kernel
theorem dX12_line_175 : decode cX12_line 175 = .ok (.bipush 109, 2) := by decide +kernel
theorem dX12_line_177 : decode cX12_line 177 = .ok (.bipush 105, 2) := by decide +kernel
theorem dX12_line_179 : decode cX12_line 179 = .ok (.bipush 117, 2) := by decide +kernel
theorem dX12_line_181 : decode cX12_line 181 = .ok (.bipush 109, 2) := by decide +kernel
theorem dX12_line_183 : decode cX12_line 183 = .ok (.iconst 0, 1) := by decide +kernel
theorem dX12_line_184 : decode cX12_line 184 = .ok (.invokevirtual 146, 3) := by decide +kernel
theorem dX12_line_187 : decode cX12_line 187 = .ok (.ifCond .eq 8, 3) := by decide +kernel
theorem dX12_line_190 : decode cX12_line 190 = .ok (.aload_n 0, 1) := by decide +kernel
theorem dX12_line_191 : decode cX12_line 191 = .ok (.invokevirtual 168, 3) := by decide +kernel
theorem dX12_line_194 : decode cX12_line 194 = .ok (.ireturn, 1) := by decide +kernel
theorem dX12_line_195 : decode cX12_line 195 = .ok (.aload_n 0, 1) := by decide +kernel
theorem dX12_line_196 : decode cX12_line 196 = .ok (.iconst 1, 1) := by decide +kernel
theorem dX12_line_197 : decode cX12_line 197 = .ok (.invokevirtual 45, 3) := by decide +kernel
theorem dX12_line_200 : decode cX12_line 200 = .ok (.ireturn, 1) := by decide +kernel
set_option maxRecDepth 20000 in
theorem ggX12_rules_X12_within : GoodIn wsX12_rules wsX12_within := goodIn_r _ [14] (by decide +kernel) (by decide +kernel)
set_option maxRecDepth 20000 in
theorem gX12_rules_X12_within : GoodIn wsX12_rules (va_wsS RX12 34 yX12_within wsX12_within) := goodIn_app (goodIn_of _ (by decide +kernel)) ggX12_rules_X12_within
set_option maxRecDepth 20000 in
theorem ggX12_rules_X12_clearsDraft : GoodIn wsX12_rules wsX12_clearsDraft := goodIn_r _ [18, 8, 19, 82, 83, 84, 85, 86, 87, 88, 89, 90, 91, 92, 93, 94, 95, 96, 97, 98, 99, 100, 101, 102, 103, 104, 105, 106, 107, 108, 109, 110, 111, 112, 113, 114, 115, 116, 117, 118, 119] (by decide +kernel) (by decide +kernel)
set_option maxRecDepth 20000 in
theorem gX12_rules_X12_clearsDraft : GoodIn wsX12_rules (wsV RX12 130 RX12 yX12_clearsDraft wsX12_clearsDraft) := goodIn_app (goodIn_of _ (by decide +kernel)) ggX12_rules_X12_clearsDraft
set_option maxRecDepth 20000 in
theorem ggX12_rules_X12_go : GoodIn wsX12_rules wsX12_go := goodIn_r _ [23, 4, 24, 6, 25, 26, 27, 28, 29, 13, 30, 3, 31, 11, 12, 14, 82, 83, 84, 85, 86, 87, 88, 89, 90, 91, 92, 93, 94, 95, 96, 97, 98, 99, 100, 101, 102, 103, 104, 105, 106, 107, 108, 109, 110, 111, 112, 113, 114, 115, 116, 117, 118, 119] (by decide +kernel) (by decide +kernel)
set_option maxRecDepth 20000 in
theorem gX12_rules_X12_go : GoodIn wsX12_rules (wsV RX12 52 RX12 yX12_go wsX12_go) := goodIn_app (goodIn_of _ (by decide +kernel)) ggX12_rules_X12_go
set_option maxRecDepth 20000 in
theorem ggX12_rules_X12_line : GoodIn wsX12_rules wsX12_line := goodIn_r _ [35, 36, 37, 38, 13, 39, 40, 6, 4, 24, 27, 28, 29, 30, 3, 31, 41, 42, 43, 44, 8, 45, 46, 47, 48, 49, 19, 50, 51, 52, 53, 5, 20, 21, 22, 23, 25, 26, 11, 12, 14, 54, 55, 56, 57, 58, 59, 60, 61, 62, 63, 64, 65, 66, 67, 68, 69, 70, 71, 72, 73, 74, 75, 76, 77, 82, 83, 84, 85, 86, 87, 88, 89, 90, 91, 92, 93, 94, 95, 96, 97, 98, 99, 100, 101, 102, 103, 104, 105, 106, 107, 108, 109, 110, 111, 112, 113, 114, 115, 116, 117, 118, 119] (by decide +kernel) (by decide +kernel)
set_option maxRecDepth 20000 in
theorem gX12_rules_X12_line : GoodIn wsX12_rules (wsV RX12 171 RX12 yX12_line wsX12_line) := goodIn_app (goodIn_of _ (by decide +kernel)) ggX12_rules_X12_line
set_option maxRecDepth 20000 in
theorem ggX12_rules_X12_bad : GoodIn wsX12_rules wsX12_bad := goodIn_r _ [53, 5, 24, 82, 83, 84, 85, 86, 87, 88, 89, 90, 91, 92, 93, 94, 95, 96, 97, 98, 99, 100, 101, 102, 103, 104, 105, 106, 107, 108, 109, 110, 111, 112, 113, 114, 115, 116, 117, 118, 119] (by decide +kernel) (by decide +kernel)
set_option maxRecDepth 20000 in
theorem gX12_rules_X12_bad : GoodIn wsX12_rules (wsV RX12 45 RX12 yX12_bad wsX12_bad) := goodIn_app (goodIn_of _ (by decide +kernel)) ggX12_rules_X12_bad
set_option maxRecDepth 20000 in
theorem ggX12_rules_X12_takes : GoodIn wsX12_rules wsX12_takes := goodIn_r _ [81, 7, 8, 82, 83, 84, 85, 86, 87, 88, 89, 90, 91, 92, 93, 94, 95, 96, 97, 98, 99, 100, 101, 102, 103, 104, 105, 106, 107, 108, 109, 110, 111, 112, 113, 114, 115, 116, 117, 118, 119] (by decide +kernel) (by decide +kernel)
set_option maxRecDepth 20000 in
theorem gX12_rules_X12_takes : GoodIn wsX12_rules (wsV RX12 133 RX12 yX12_takes wsX12_takes) := goodIn_app (goodIn_of _ (by decide +kernel)) ggX12_rules_X12_takes
theorem dX12_rules_0 : decode cX12_rules 0 = .ok (.aload_n 0, 1) := by decide +kernel
theorem dX12_rules_1 : decode cX12_rules 1 = .ok (.iconst 0, 1) := by decide +kernel
theorem dX12_rules_2 : decode cX12_rules 2 = .ok (.putfield 1, 3) := by decide +kernel
theorem dX12_rules_5 : decode cX12_rules 5 = .ok (.iload_n 1, 1) := by decide +kernel
theorem dX12_rules_6 : decode cX12_rules 6 = .ok (.iconst 0, 1) := by decide +kernel
theorem dX12_rules_7 : decode cX12_rules 7 = .ok (.aload_n 0, 1) := by decide +kernel
theorem dX12_rules_8 : decode cX12_rules 8 = .ok (.getfield 7, 3) := by decide +kernel
theorem dX12_rules_11 : decode cX12_rules 11 = .ok (.invokestatic 34, 3) := by decide +kernel
theorem dX12_rules_14 : decode cX12_rules 14 = .ok (.ifCond .ne 5, 3) := by decide +kernel
theorem dX12_rules_17 : decode cX12_rules 17 = .ok (.iconst (-1), 1) := by decide +kernel
theorem dX12_rules_18 : decode cX12_rules 18 = .ok (.ireturn, 1) := by decide +kernel
theorem dX12_rules_19 : decode cX12_rules 19 = .ok (.aload_n 0, 1) := by decide +kernel
theorem dX12_rules_20 : decode cX12_rules 20 = .ok (.iload_n 1, 1) := by decide +kernel
theorem dX12_rules_21 : decode cX12_rules 21 = .ok (.putfield 18, 3) := by decide +kernel
theorem dX12_rules_24 : decode cX12_rules 24 = .ok (.aload_n 0, 1) := by decide +kernel
theorem dX12_rules_25 : decode cX12_rules 25 = .ok (.iconst 0, 1) := by decide +kernel
theorem dX12_rules_26 : decode cX12_rules 26 = .ok (.putfield 7, 3) := by decide +kernel
theorem dX12_rules_29 : decode cX12_rules 29 = .ok (.aload_n 0, 1) := by decide +kernel
theorem dX12_rules_30 : decode cX12_rules 30 = .ok (.iconst 0, 1) := by decide +kernel
theorem dX12_rules_31 : decode cX12_rules 31 = .ok (.putfield 21, 3) := by decide +kernel
theorem dX12_rules_34 : decode cX12_rules 34 = .ok (.aload_n 0, 1) := by decide +kernel
theorem dX12_rules_35 : decode cX12_rules 35 = .ok (.iconst 0, 1) := by decide +kernel
theorem dX12_rules_36 : decode cX12_rules 36 = .ok (.putfield 42, 3) := by decide +kernel
theorem dX12_rules_39 : decode cX12_rules 39 = .ok (.aload_n 0, 1) := by decide +kernel
theorem dX12_rules_40 : decode cX12_rules 40 = .ok (.invokevirtual 130, 3) := by decide +kernel
theorem dX12_rules_43 : decode cX12_rules 43 = .ok (.aload_n 0, 1) := by decide +kernel
theorem dX12_rules_44 : decode cX12_rules 44 = .ok (.invokevirtual 52, 3) := by decide +kernel
theorem dX12_rules_47 : decode cX12_rules 47 = .ok (.iconst 1, 1) := by decide +kernel
theorem dX12_rules_48 : decode cX12_rules 48 = .ok (.istore_n 2, 1) := by decide +kernel
theorem dX12_rules_49 : decode cX12_rules 49 = .ok (.iload_n 2, 1) := by decide +kernel
theorem dX12_rules_50 : decode cX12_rules 50 = .ok (.ifCond .eq 44, 3) := by decide +kernel
theorem dX12_rules_53 : decode cX12_rules 53 = .ok (.aload_n 0, 1) := by decide +kernel
theorem dX12_rules_54 : decode cX12_rules 54 = .ok (.getfield 31, 3) := by decide +kernel
theorem dX12_rules_57 : decode cX12_rules 57 = .ok (.ifCond .eq 37, 3) := by decide +kernel
theorem dX12_rules_60 : decode cX12_rules 60 = .ok (.aload_n 0, 1) := by decide +kernel
theorem dX12_rules_61 : decode cX12_rules 61 = .ok (.invokevirtual 171, 3) := by decide +kernel
theorem dX12_rules_64 : decode cX12_rules 64 = .ok (.istore_n 2, 1) := by decide +kernel
theorem dX12_rules_65 : decode cX12_rules 65 = .ok (.iload_n 2, 1) := by decide +kernel
theorem dX12_rules_66 : decode cX12_rules 66 = .ok (.ifCond .eq 17, 3) := by decide +kernel
theorem dX12_rules_69 : decode cX12_rules 69 = .ok (.aload_n 0, 1) := by decide +kernel
theorem dX12_rules_70 : decode cX12_rules 70 = .ok (.getfield 31, 3) := by decide +kernel
theorem dX12_rules_73 : decode cX12_rules 73 = .ok (.iconst 3, 1) := by decide +kernel
theorem dX12_rules_74 : decode cX12_rules 74 = .ok (.if_icmp .eq 9, 3) := by decide +kernel
theorem dX12_rules_77 : decode cX12_rules 77 = .ok (.aload_n 0, 1) := by decide +kernel
theorem dX12_rules_78 : decode cX12_rules 78 = .ok (.iconst 1, 1) := by decide +kernel
theorem dX12_rules_79 : decode cX12_rules 79 = .ok (.invokevirtual 45, 3) := by decide +kernel
theorem dX12_rules_82 : decode cX12_rules 82 = .ok (.istore_n 2, 1) := by decide +kernel
theorem dX12_rules_83 : decode cX12_rules 83 = .ok (.iload_n 2, 1) := by decide +kernel
theorem dX12_rules_84 : decode cX12_rules 84 = .ok (.ifCond .eq (-35), 3) := by decide +kernel
theorem dX12_rules_87 : decode cX12_rules 87 = .ok (.aload_n 0, 1) := by decide +kernel
theorem dX12_rules_88 : decode cX12_rules 88 = .ok (.invokevirtual 52, 3) := by decide +kernel
theorem dX12_rules_91 : decode cX12_rules 91 = .ok (.goto (-42), 3) := by decide +kernel
theorem dX12_rules_94 : decode cX12_rules 94 = .ok (.iload_n 2, 1) := by decide +kernel
theorem dX12_rules_95 : decode cX12_rules 95 = .ok (.ifCond .ne 11, 3) := by decide +kernel
theorem dX12_rules_98 : decode cX12_rules 98 = .ok (.bipush (-2), 2) := by decide +kernel
theorem dX12_rules_100 : decode cX12_rules 100 = .ok (.aload_n 0, 1) := by decide +kernel
theorem dX12_rules_101 : decode cX12_rules 101 = .ok (.getfield 42, 3) := by decide +kernel
theorem dX12_rules_104 : decode cX12_rules 104 = .ok (.isub, 1) := by decide +kernel
theorem dX12_rules_105 : decode cX12_rules 105 = .ok (.ireturn, 1) := by decide +kernel
theorem dX12_rules_106 : decode cX12_rules 106 = .ok (.iconst 1, 1) := by decide +kernel
theorem dX12_rules_107 : decode cX12_rules 107 = .ok (.istore_n 3, 1) := by decide +kernel
theorem dX12_rules_108 : decode cX12_rules 108 = .ok (.iconst 5, 1) := by decide +kernel
theorem dX12_rules_109 : decode cX12_rules 109 = .ok (.istore 4, 2) := by decide +kernel
theorem dX12_rules_111 : decode cX12_rules 111 = .ok (.iload 4, 2) := by decide +kernel
theorem dX12_rules_113 : decode cX12_rules 113 = .ok (.bipush 8, 2) := by decide +kernel
theorem dX12_rules_115 : decode cX12_rules 115 = .ok (.if_icmp .ge 36, 3) := by decide +kernel
theorem dX12_rules_118 : decode cX12_rules 118 = .ok (.iload_n 3, 1) := by decide +kernel
theorem dX12_rules_119 : decode cX12_rules 119 = .ok (.ifCond .eq 24, 3) := by decide +kernel
theorem dX12_rules_122 : decode cX12_rules 122 = .ok (.aload_n 0, 1) := by decide +kernel
theorem dX12_rules_123 : decode cX12_rules 123 = .ok (.getfield 61, 3) := by decide +kernel
theorem dX12_rules_126 : decode cX12_rules 126 = .ok (.iload 4, 2) := by decide +kernel
theorem dX12_rules_128 : decode cX12_rules 128 = .ok (.iaload, 1) := by decide +kernel
theorem dX12_rules_129 : decode cX12_rules 129 = .ok (.aload_n 0, 1) := by decide +kernel
theorem dX12_rules_130 : decode cX12_rules 130 = .ok (.getfield 65, 3) := by decide +kernel
theorem dX12_rules_133 : decode cX12_rules 133 = .ok (.iload 4, 2) := by decide +kernel
theorem dX12_rules_135 : decode cX12_rules 135 = .ok (.iaload, 1) := by decide +kernel
theorem dX12_rules_136 : decode cX12_rules 136 = .ok (.if_icmp .ne 7, 3) := by decide +kernel
theorem dX12_rules_139 : decode cX12_rules 139 = .ok (.iconst 1, 1) := by decide +kernel
theorem dX12_rules_140 : decode cX12_rules 140 = .ok (.goto 4, 3) := by decide +kernel
theorem dX12_rules_143 : decode cX12_rules 143 = .ok (.iconst 0, 1) := by decide +kernel
theorem dX12_rules_144 : decode cX12_rules 144 = .ok (.istore_n 3, 1) := by decide +kernel
theorem dX12_rules_145 : decode cX12_rules 145 = .ok (.iinc 4 1, 3) := by decide +kernel
theorem dX12_rules_148 : decode cX12_rules 148 = .ok (.goto (-37), 3) := by decide +kernel
theorem dX12_rules_151 : decode cX12_rules 151 = .ok (.aload_n 0, 1) := by decide +kernel
theorem dX12_rules_152 : decode cX12_rules 152 = .ok (.invokevirtual 133, 3) := by decide +kernel
theorem dX12_rules_155 : decode cX12_rules 155 = .ok (.iconst 0, 1) := by decide +kernel
theorem dX12_rules_156 : decode cX12_rules 156 = .ok (.istore 4, 2) := by decide +kernel
theorem dX12_rules_158 : decode cX12_rules 158 = .ok (.iload 4, 2) := by decide +kernel
theorem dX12_rules_160 : decode cX12_rules 160 = .ok (.iconst 4, 1) := by decide +kernel
theorem dX12_rules_161 : decode cX12_rules 161 = .ok (.if_icmp .ge 21, 3) := by decide +kernel
theorem dX12_rules_164 : decode cX12_rules 164 = .ok (.iload_n 3, 1) := by decide +kernel
theorem dX12_rules_165 : decode cX12_rules 165 = .ok (.ifCond .ne 17, 3) := by decide +kernel
theorem dX12_rules_168 : decode cX12_rules 168 = .ok (.aload_n 0, 1) := by decide +kernel
theorem dX12_rules_169 : decode cX12_rules 169 = .ok (.getfield 68, 3) := by decide +kernel
theorem dX12_rules_172 : decode cX12_rules 172 = .ok (.iload 4, 2) := by decide +kernel
theorem dX12_rules_174 : decode cX12_rules 174 = .ok (.iconst 0, 1) := by decide +kernel
theorem dX12_rules_175 : decode cX12_rules 175 = .ok (.iastore, 1) := by decide +kernel
theorem dX12_rules_176 : decode cX12_rules 176 = .ok (.iinc 4 1, 3) := by decide +kernel
theorem dX12_rules_179 : decode cX12_rules 179 = .ok (.goto (-21), 3) := by decide +kernel
theorem dX12_rules_182 : decode cX12_rules 182 = .ok (.aload_n 0, 1) := by decide +kernel
theorem dX12_rules_183 : decode cX12_rules 183 = .ok (.iconst 0, 1) := by decide +kernel
theorem dX12_rules_184 : decode cX12_rules 184 = .ok (.putfield 174, 3) := by decide +kernel
theorem dX12_rules_187 : decode cX12_rules 187 = .ok (.aload_n 0, 1) := by decide +kernel
theorem dX12_rules_188 : decode cX12_rules 188 = .ok (.getfield 61, 3) := by decide +kernel
theorem dX12_rules_191 : decode cX12_rules 191 = .ok (.bipush 10, 2) := by decide +kernel
theorem dX12_rules_193 : decode cX12_rules 193 = .ok (.iaload, 1) := by decide +kernel
theorem dX12_rules_194 : decode cX12_rules 194 = .ok (.ireturn, 1) := by decide +kernel
theorem dX12_count_0 : decode cX12_count 0 = .ok (.aload_n 0, 1) := by decide +kernel
theorem dX12_count_1 : decode cX12_count 1 = .ok (.iconst 0, 1) := by decide +kernel
theorem dX12_count_2 : decode cX12_count 2 = .ok (.putfield 1, 3) := by decide +kernel
theorem dX12_count_5 : decode cX12_count 5 = .ok (.iload_n 1, 1) := by decide +kernel
theorem dX12_count_6 : decode cX12_count 6 = .ok (.tableswitch 135 0 11 #[62, 70, 78, 85, 92, 99, 106, 113, 113, 113, 125, 130], 62) := by decide +kernel
theorem dX12_count_68 : decode cX12_count 68 = .ok (.aload_n 0, 1) := by decide +kernel
theorem dX12_count_69 : decode cX12_count 69 = .ok (.getfield 61, 3) := by decide +kernel
theorem dX12_count_72 : decode cX12_count 72 = .ok (.bipush 10, 2) := by decide +kernel
theorem dX12_count_74 : decode cX12_count 74 = .ok (.iaload, 1) := by decide +kernel
theorem dX12_count_75 : decode cX12_count 75 = .ok (.ireturn, 1) := by decide +kernel
theorem dX12_count_76 : decode cX12_count 76 = .ok (.aload_n 0, 1) := by decide +kernel
theorem dX12_count_77 : decode cX12_count 77 = .ok (.getfield 61, 3) := by decide +kernel
theorem dX12_count_80 : decode cX12_count 80 = .ok (.bipush 9, 2) := by decide +kernel
theorem dX12_count_82 : decode cX12_count 82 = .ok (.iaload, 1) := by decide +kernel
theorem dX12_count_83 : decode cX12_count 83 = .ok (.ireturn, 1) := by decide +kernel
theorem dX12_count_84 : decode cX12_count 84 = .ok (.aload_n 0, 1) := by decide +kernel
theorem dX12_count_85 : decode cX12_count 85 = .ok (.getfield 61, 3) := by decide +kernel
theorem dX12_count_88 : decode cX12_count 88 = .ok (.iconst 0, 1) := by decide +kernel
theorem dX12_count_89 : decode cX12_count 89 = .ok (.iaload, 1) := by decide +kernel
theorem dX12_count_90 : decode cX12_count 90 = .ok (.ireturn, 1) := by decide +kernel
theorem dX12_count_91 : decode cX12_count 91 = .ok (.aload_n 0, 1) := by decide +kernel
theorem dX12_count_92 : decode cX12_count 92 = .ok (.getfield 61, 3) := by decide +kernel
theorem dX12_count_95 : decode cX12_count 95 = .ok (.iconst 1, 1) := by decide +kernel
theorem dX12_count_96 : decode cX12_count 96 = .ok (.iaload, 1) := by decide +kernel
theorem dX12_count_97 : decode cX12_count 97 = .ok (.ireturn, 1) := by decide +kernel
theorem dX12_count_98 : decode cX12_count 98 = .ok (.aload_n 0, 1) := by decide +kernel
theorem dX12_count_99 : decode cX12_count 99 = .ok (.getfield 61, 3) := by decide +kernel
theorem dX12_count_102 : decode cX12_count 102 = .ok (.iconst 2, 1) := by decide +kernel
theorem dX12_count_103 : decode cX12_count 103 = .ok (.iaload, 1) := by decide +kernel
theorem dX12_count_104 : decode cX12_count 104 = .ok (.ireturn, 1) := by decide +kernel
theorem dX12_count_105 : decode cX12_count 105 = .ok (.aload_n 0, 1) := by decide +kernel
theorem dX12_count_106 : decode cX12_count 106 = .ok (.getfield 61, 3) := by decide +kernel
theorem dX12_count_109 : decode cX12_count 109 = .ok (.iconst 3, 1) := by decide +kernel
theorem dX12_count_110 : decode cX12_count 110 = .ok (.iaload, 1) := by decide +kernel
theorem dX12_count_111 : decode cX12_count 111 = .ok (.ireturn, 1) := by decide +kernel
theorem dX12_count_112 : decode cX12_count 112 = .ok (.aload_n 0, 1) := by decide +kernel
theorem dX12_count_113 : decode cX12_count 113 = .ok (.getfield 61, 3) := by decide +kernel
theorem dX12_count_116 : decode cX12_count 116 = .ok (.iconst 4, 1) := by decide +kernel
theorem dX12_count_117 : decode cX12_count 117 = .ok (.iaload, 1) := by decide +kernel
theorem dX12_count_118 : decode cX12_count 118 = .ok (.ireturn, 1) := by decide +kernel
theorem dX12_count_119 : decode cX12_count 119 = .ok (.aload_n 0, 1) := by decide +kernel
theorem dX12_count_120 : decode cX12_count 120 = .ok (.getfield 61, 3) := by decide +kernel
theorem dX12_count_123 : decode cX12_count 123 = .ok (.iconst 5, 1) := by decide +kernel
theorem dX12_count_124 : decode cX12_count 124 = .ok (.iload_n 1, 1) := by decide +kernel
theorem dX12_count_125 : decode cX12_count 125 = .ok (.iadd, 1) := by decide +kernel
theorem dX12_count_126 : decode cX12_count 126 = .ok (.bipush 7, 2) := by decide +kernel
theorem dX12_count_128 : decode cX12_count 128 = .ok (.isub, 1) := by decide +kernel
theorem dX12_count_129 : decode cX12_count 129 = .ok (.iaload, 1) := by decide +kernel
theorem dX12_count_130 : decode cX12_count 130 = .ok (.ireturn, 1) := by decide +kernel
theorem dX12_count_131 : decode cX12_count 131 = .ok (.aload_n 0, 1) := by decide +kernel
theorem dX12_count_132 : decode cX12_count 132 = .ok (.getfield 7, 3) := by decide +kernel
theorem dX12_count_135 : decode cX12_count 135 = .ok (.ireturn, 1) := by decide +kernel
theorem dX12_count_136 : decode cX12_count 136 = .ok (.aload_n 0, 1) := by decide +kernel
theorem dX12_count_137 : decode cX12_count 137 = .ok (.getfield 174, 3) := by decide +kernel
theorem dX12_count_140 : decode cX12_count 140 = .ok (.ireturn, 1) := by decide +kernel
theorem dX12_count_141 : decode cX12_count 141 = .ok (.iconst (-1), 1) := by decide +kernel
theorem dX12_count_142 : decode cX12_count 142 = .ok (.ireturn, 1) := by decide +kernel
theorem dX12_premiums_0 : decode cX12_premiums 0 = .ok (.aload_n 0, 1) := by decide +kernel
theorem dX12_premiums_1 : decode cX12_premiums 1 = .ok (.getfield 61, 3) := by decide +kernel
theorem dX12_premiums_4 : decode cX12_premiums 4 = .ok (.bipush 10, 2) := by decide +kernel
theorem dX12_premiums_6 : decode cX12_premiums 6 = .ok (.iaload, 1) := by decide +kernel
theorem dX12_premiums_7 : decode cX12_premiums 7 = .ok (.ireturn, 1) := by decide +kernel
theorem dX12_premiumIs_0 : decode cX12_premiumIs 0 = .ok (.aload_n 0, 1) := by decide +kernel
theorem dX12_premiumIs_1 : decode cX12_premiumIs 1 = .ok (.getfield 61, 3) := by decide +kernel
theorem dX12_premiumIs_4 : decode cX12_premiumIs 4 = .ok (.bipush 11, 2) := by decide +kernel
theorem dX12_premiumIs_6 : decode cX12_premiumIs 6 = .ok (.iconst 5, 1) := by decide +kernel
theorem dX12_premiumIs_7 : decode cX12_premiumIs 7 = .ok (.iload_n 1, 1) := by decide +kernel
theorem dX12_premiumIs_8 : decode cX12_premiumIs 8 = .ok (.imul, 1) := by decide +kernel
theorem dX12_premiumIs_9 : decode cX12_premiumIs 9 = .ok (.iadd, 1) := by decide +kernel
theorem dX12_premiumIs_10 : decode cX12_premiumIs 10 = .ok (.iload_n 2, 1) := by decide +kernel
theorem dX12_premiumIs_11 : decode cX12_premiumIs 11 = .ok (.iadd, 1) := by decide +kernel
theorem dX12_premiumIs_12 : decode cX12_premiumIs 12 = .ok (.iaload, 1) := by decide +kernel
theorem dX12_premiumIs_13 : decode cX12_premiumIs 13 = .ok (.ireturn, 1) := by decide +kernel
set_option maxRecDepth 20000 in
theorem ggX12_premium_X12_premiums : GoodIn wsX12_premium wsX12_premiums := goodIn_r _ [6, 7, 15, 16, 17, 18, 19, 20, 21, 22, 23, 24, 25, 26, 27, 28, 29, 30, 31, 32, 33, 34, 35, 36, 37, 38, 39, 40, 41, 42, 43, 44, 45, 46, 47, 48, 49, 50, 51, 52] (by decide +kernel) (by decide +kernel)
set_option maxRecDepth 20000 in
theorem gX12_premium_X12_premiums : GoodIn wsX12_premium (wsV RX12 177 RX12 yX12_premiums wsX12_premiums) := goodIn_app (goodIn_of _ (by decide +kernel)) ggX12_premium_X12_premiums
set_option maxRecDepth 20000 in
theorem ggX12_premium_X12_within : GoodIn wsX12_premium wsX12_within := goodIn_r _ [10] (by decide +kernel) (by decide +kernel)
set_option maxRecDepth 20000 in
theorem gX12_premium_X12_within : GoodIn wsX12_premium (va_wsS RX12 34 yX12_within wsX12_within) := goodIn_app (goodIn_of _ (by decide +kernel)) ggX12_premium_X12_within
set_option maxRecDepth 20000 in
theorem ggX12_premium_X12_premiumIs : GoodIn wsX12_premium wsX12_premiumIs := goodIn_r _ [14, 7, 15, 16, 17, 18, 19, 20, 21, 22, 23, 24, 25, 26, 27, 28, 29, 30, 31, 32, 33, 34, 35, 36, 37, 38, 39, 40, 41, 42, 43, 44, 45, 46, 47, 48, 49, 50, 51, 52] (by decide +kernel) (by decide +kernel)
set_option maxRecDepth 20000 in
theorem gX12_premium_X12_premiumIs : GoodIn wsX12_premium (wsV RX12 180 RX12 yX12_premiumIs wsX12_premiumIs) := goodIn_app (goodIn_of _ (by decide +kernel)) ggX12_premium_X12_premiumIs
theorem dX12_premium_0 : decode cX12_premium 0 = .ok (.aload_n 0, 1) := by decide +kernel
theorem dX12_premium_1 : decode cX12_premium 1 = .ok (.iload_n 1, 1) := by decide +kernel
theorem dX12_premium_2 : decode cX12_premium 2 = .ok (.iconst 0, 1) := by decide +kernel
theorem dX12_premium_3 : decode cX12_premium 3 = .ok (.aload_n 0, 1) := by decide +kernel
theorem dX12_premium_4 : decode cX12_premium 4 = .ok (.invokevirtual 177, 3) := by decide +kernel
theorem dX12_premium_7 : decode cX12_premium 7 = .ok (.iconst 1, 1) := by decide +kernel
theorem dX12_premium_8 : decode cX12_premium 8 = .ok (.isub, 1) := by decide +kernel
theorem dX12_premium_9 : decode cX12_premium 9 = .ok (.invokestatic 34, 3) := by decide +kernel
theorem dX12_premium_12 : decode cX12_premium 12 = .ok (.ifCond .eq 16, 3) := by decide +kernel
theorem dX12_premium_15 : decode cX12_premium 15 = .ok (.iload_n 2, 1) := by decide +kernel
theorem dX12_premium_16 : decode cX12_premium 16 = .ok (.iconst 0, 1) := by decide +kernel
theorem dX12_premium_17 : decode cX12_premium 17 = .ok (.iconst 4, 1) := by decide +kernel
theorem dX12_premium_18 : decode cX12_premium 18 = .ok (.invokestatic 34, 3) := by decide +kernel
theorem dX12_premium_21 : decode cX12_premium 21 = .ok (.ifCond .eq 7, 3) := by decide +kernel
theorem dX12_premium_24 : decode cX12_premium 24 = .ok (.iconst 0, 1) := by decide +kernel
theorem dX12_premium_25 : decode cX12_premium 25 = .ok (.goto 4, 3) := by decide +kernel
theorem dX12_premium_28 : decode cX12_premium 28 = .ok (.iconst 1, 1) := by decide +kernel
theorem dX12_premium_29 : decode cX12_premium 29 = .ok (.putfield 1, 3) := by decide +kernel
theorem dX12_premium_32 : decode cX12_premium 32 = .ok (.aload_n 0, 1) := by decide +kernel
theorem dX12_premium_33 : decode cX12_premium 33 = .ok (.getfield 1, 3) := by decide +kernel
theorem dX12_premium_36 : decode cX12_premium 36 = .ok (.ifCond .le 7, 3) := by decide +kernel
theorem dX12_premium_39 : decode cX12_premium 39 = .ok (.iconst 0, 1) := by decide +kernel
theorem dX12_premium_40 : decode cX12_premium 40 = .ok (.goto 9, 3) := by decide +kernel
theorem dX12_premium_43 : decode cX12_premium 43 = .ok (.aload_n 0, 1) := by decide +kernel
theorem dX12_premium_44 : decode cX12_premium 44 = .ok (.iload_n 1, 1) := by decide +kernel
theorem dX12_premium_45 : decode cX12_premium 45 = .ok (.iload_n 2, 1) := by decide +kernel
theorem dX12_premium_46 : decode cX12_premium 46 = .ok (.invokevirtual 180, 3) := by decide +kernel
theorem dX12_premium_49 : decode cX12_premium 49 = .ok (.ireturn, 1) := by decide +kernel
theorem dX12_turned_0 : decode cX12_turned 0 = .ok (.sipush 1440, 3) := by decide +kernel
theorem dX12_turned_3 : decode cX12_turned 3 = .ok (.aload_n 0, 1) := by decide +kernel
theorem dX12_turned_4 : decode cX12_turned 4 = .ok (.getfield 61, 3) := by decide +kernel
theorem dX12_turned_7 : decode cX12_turned 7 = .ok (.iconst 5, 1) := by decide +kernel
theorem dX12_turned_8 : decode cX12_turned 8 = .ok (.iaload, 1) := by decide +kernel
theorem dX12_turned_9 : decode cX12_turned 9 = .ok (.imul, 1) := by decide +kernel
theorem dX12_turned_10 : decode cX12_turned 10 = .ok (.bipush 60, 2) := by decide +kernel
theorem dX12_turned_12 : decode cX12_turned 12 = .ok (.aload_n 0, 1) := by decide +kernel
theorem dX12_turned_13 : decode cX12_turned 13 = .ok (.getfield 61, 3) := by decide +kernel
theorem dX12_turned_16 : decode cX12_turned 16 = .ok (.bipush 6, 2) := by decide +kernel
theorem dX12_turned_18 : decode cX12_turned 18 = .ok (.iaload, 1) := by decide +kernel
theorem dX12_turned_19 : decode cX12_turned 19 = .ok (.imul, 1) := by decide +kernel
theorem dX12_turned_20 : decode cX12_turned 20 = .ok (.iadd, 1) := by decide +kernel
theorem dX12_turned_21 : decode cX12_turned 21 = .ok (.ireturn, 1) := by decide +kernel
set_option maxRecDepth 20000 in
theorem ggX12_momentOf_X12_within : GoodIn wsX12_momentOf wsX12_within := goodIn_r _ [5] (by decide +kernel) (by decide +kernel)
set_option maxRecDepth 20000 in
theorem gX12_momentOf_X12_within : GoodIn wsX12_momentOf (va_wsS RX12 34 yX12_within wsX12_within) := goodIn_app (goodIn_of _ (by decide +kernel)) ggX12_momentOf_X12_within
set_option maxRecDepth 20000 in
theorem ggX12_momentOf_X12_turned : GoodIn wsX12_momentOf wsX12_turned := goodIn_r _ [9, 1, 10, 11, 12, 13, 14, 15, 16, 17, 18, 19, 20, 21, 22, 23, 24, 25, 26, 27, 28, 29, 30, 31, 32, 33, 34, 35, 36, 37, 38, 39, 40, 41, 42, 43, 44, 45, 46, 47] (by decide +kernel) (by decide +kernel)
set_option maxRecDepth 20000 in
theorem gX12_momentOf_X12_turned : GoodIn wsX12_momentOf (wsV RX12 184 RX12 yX12_turned wsX12_turned) := goodIn_app (goodIn_of _ (by decide +kernel)) ggX12_momentOf_X12_turned
theorem dX12_momentOf_0 : decode cX12_momentOf 0 = .ok (.iload_n 1, 1) := by decide +kernel
theorem dX12_momentOf_1 : decode cX12_momentOf 1 = .ok (.iconst 0, 1) := by decide +kernel
theorem dX12_momentOf_2 : decode cX12_momentOf 2 = .ok (.bipush 27, 2) := by decide +kernel
theorem dX12_momentOf_4 : decode cX12_momentOf 4 = .ok (.invokestatic 34, 3) := by decide +kernel
theorem dX12_momentOf_7 : decode cX12_momentOf 7 = .ok (.ifCond .eq 14, 3) := by decide +kernel
theorem dX12_momentOf_10 : decode cX12_momentOf 10 = .ok (.iload_n 2, 1) := by decide +kernel
theorem dX12_momentOf_11 : decode cX12_momentOf 11 = .ok (.iconst 0, 1) := by decide +kernel
theorem dX12_momentOf_12 : decode cX12_momentOf 12 = .ok (.sipush 1439, 3) := by decide +kernel
theorem dX12_momentOf_15 : decode cX12_momentOf 15 = .ok (.invokestatic 34, 3) := by decide +kernel
theorem dX12_momentOf_18 : decode cX12_momentOf 18 = .ok (.ifCond .ne 5, 3) := by decide +kernel
theorem dX12_momentOf_21 : decode cX12_momentOf 21 = .ok (.iconst (-1), 1) := by decide +kernel
theorem dX12_momentOf_22 : decode cX12_momentOf 22 = .ok (.ireturn, 1) := by decide +kernel
theorem dX12_momentOf_23 : decode cX12_momentOf 23 = .ok (.sipush 1440, 3) := by decide +kernel
theorem dX12_momentOf_26 : decode cX12_momentOf 26 = .ok (.iload_n 1, 1) := by decide +kernel
theorem dX12_momentOf_27 : decode cX12_momentOf 27 = .ok (.imul, 1) := by decide +kernel
theorem dX12_momentOf_28 : decode cX12_momentOf 28 = .ok (.iload_n 2, 1) := by decide +kernel
theorem dX12_momentOf_29 : decode cX12_momentOf 29 = .ok (.iadd, 1) := by decide +kernel
theorem dX12_momentOf_30 : decode cX12_momentOf 30 = .ok (.istore 4, 2) := by decide +kernel
theorem dX12_momentOf_32 : decode cX12_momentOf 32 = .ok (.aload_n 0, 1) := by decide +kernel
theorem dX12_momentOf_33 : decode cX12_momentOf 33 = .ok (.getfield 61, 3) := by decide +kernel
theorem dX12_momentOf_36 : decode cX12_momentOf 36 = .ok (.iconst 5, 1) := by decide +kernel
theorem dX12_momentOf_37 : decode cX12_momentOf 37 = .ok (.iaload, 1) := by decide +kernel
theorem dX12_momentOf_38 : decode cX12_momentOf 38 = .ok (.iconst (-1), 1) := by decide +kernel
theorem dX12_momentOf_39 : decode cX12_momentOf 39 = .ok (.if_icmp .eq 7, 3) := by decide +kernel
theorem dX12_momentOf_42 : decode cX12_momentOf 42 = .ok (.iconst 1, 1) := by decide +kernel
theorem dX12_momentOf_43 : decode cX12_momentOf 43 = .ok (.goto 4, 3) := by decide +kernel
theorem dX12_momentOf_46 : decode cX12_momentOf 46 = .ok (.iconst 0, 1) := by decide +kernel
theorem dX12_momentOf_47 : decode cX12_momentOf 47 = .ok (.istore 5, 2) := by decide +kernel
theorem dX12_momentOf_49 : decode cX12_momentOf 49 = .ok (.iload 5, 2) := by decide +kernel
theorem dX12_momentOf_51 : decode cX12_momentOf 51 = .ok (.ifCond .eq 28, 3) := by decide +kernel
theorem dX12_momentOf_54 : decode cX12_momentOf 54 = .ok (.iload 4, 2) := by decide +kernel
theorem dX12_momentOf_56 : decode cX12_momentOf 56 = .ok (.aload_n 0, 1) := by decide +kernel
theorem dX12_momentOf_57 : decode cX12_momentOf 57 = .ok (.invokevirtual 184, 3) := by decide +kernel
theorem dX12_momentOf_60 : decode cX12_momentOf 60 = .ok (.if_icmp .lt 19, 3) := by decide +kernel
theorem dX12_momentOf_63 : decode cX12_momentOf 63 = .ok (.iload 4, 2) := by decide +kernel
theorem dX12_momentOf_65 : decode cX12_momentOf 65 = .ok (.aload_n 0, 1) := by decide +kernel
theorem dX12_momentOf_66 : decode cX12_momentOf 66 = .ok (.invokevirtual 184, 3) := by decide +kernel
theorem dX12_momentOf_69 : decode cX12_momentOf 69 = .ok (.bipush 60, 2) := by decide +kernel
theorem dX12_momentOf_71 : decode cX12_momentOf 71 = .ok (.iadd, 1) := by decide +kernel
theorem dX12_momentOf_72 : decode cX12_momentOf 72 = .ok (.if_icmp .ge 7, 3) := by decide +kernel
theorem dX12_momentOf_75 : decode cX12_momentOf 75 = .ok (.iconst 1, 1) := by decide +kernel
theorem dX12_momentOf_76 : decode cX12_momentOf 76 = .ok (.goto 4, 3) := by decide +kernel
theorem dX12_momentOf_79 : decode cX12_momentOf 79 = .ok (.iconst 0, 1) := by decide +kernel
theorem dX12_momentOf_80 : decode cX12_momentOf 80 = .ok (.istore 6, 2) := by decide +kernel
theorem dX12_momentOf_82 : decode cX12_momentOf 82 = .ok (.iload_n 3, 1) := by decide +kernel
theorem dX12_momentOf_83 : decode cX12_momentOf 83 = .ok (.ifCond .eq 28, 3) := by decide +kernel
theorem dX12_momentOf_86 : decode cX12_momentOf 86 = .ok (.iload 6, 2) := by decide +kernel
theorem dX12_momentOf_88 : decode cX12_momentOf 88 = .ok (.ifCond .eq 21, 3) := by decide +kernel
theorem dX12_momentOf_91 : decode cX12_momentOf 91 = .ok (.aload_n 0, 1) := by decide +kernel
theorem dX12_momentOf_92 : decode cX12_momentOf 92 = .ok (.getfield 61, 3) := by decide +kernel
theorem dX12_momentOf_95 : decode cX12_momentOf 95 = .ok (.bipush 7, 2) := by decide +kernel
theorem dX12_momentOf_97 : decode cX12_momentOf 97 = .ok (.iaload, 1) := by decide +kernel
theorem dX12_momentOf_98 : decode cX12_momentOf 98 = .ok (.ifCond .ne 11, 3) := by decide +kernel
theorem dX12_momentOf_101 : decode cX12_momentOf 101 = .ok (.iload 4, 2) := by decide +kernel
theorem dX12_momentOf_103 : decode cX12_momentOf 103 = .ok (.bipush 60, 2) := by decide +kernel
theorem dX12_momentOf_105 : decode cX12_momentOf 105 = .ok (.iadd, 1) := by decide +kernel
theorem dX12_momentOf_106 : decode cX12_momentOf 106 = .ok (.goto 4, 3) := by decide +kernel
theorem dX12_momentOf_109 : decode cX12_momentOf 109 = .ok (.iconst (-1), 1) := by decide +kernel
theorem dX12_momentOf_110 : decode cX12_momentOf 110 = .ok (.ireturn, 1) := by decide +kernel
theorem dX12_momentOf_111 : decode cX12_momentOf 111 = .ok (.iload 5, 2) := by decide +kernel
theorem dX12_momentOf_113 : decode cX12_momentOf 113 = .ok (.ifCond .eq 12, 3) := by decide +kernel
theorem dX12_momentOf_116 : decode cX12_momentOf 116 = .ok (.iload 4, 2) := by decide +kernel
theorem dX12_momentOf_118 : decode cX12_momentOf 118 = .ok (.aload_n 0, 1) := by decide +kernel
theorem dX12_momentOf_119 : decode cX12_momentOf 119 = .ok (.invokevirtual 184, 3) := by decide +kernel
theorem dX12_momentOf_122 : decode cX12_momentOf 122 = .ok (.if_icmp .ge 6, 3) := by decide +kernel
theorem dX12_momentOf_125 : decode cX12_momentOf 125 = .ok (.iload 4, 2) := by decide +kernel
theorem dX12_momentOf_127 : decode cX12_momentOf 127 = .ok (.ireturn, 1) := by decide +kernel
theorem dX12_momentOf_128 : decode cX12_momentOf 128 = .ok (.aload_n 0, 1) := by decide +kernel
theorem dX12_momentOf_129 : decode cX12_momentOf 129 = .ok (.getfield 61, 3) := by decide +kernel
theorem dX12_momentOf_132 : decode cX12_momentOf 132 = .ok (.bipush 7, 2) := by decide +kernel
theorem dX12_momentOf_134 : decode cX12_momentOf 134 = .ok (.iaload, 1) := by decide +kernel
theorem dX12_momentOf_135 : decode cX12_momentOf 135 = .ok (.iconst 1, 1) := by decide +kernel
theorem dX12_momentOf_136 : decode cX12_momentOf 136 = .ok (.if_icmp .ne 18, 3) := by decide +kernel
theorem dX12_momentOf_139 : decode cX12_momentOf 139 = .ok (.iload 6, 2) := by decide +kernel
theorem dX12_momentOf_141 : decode cX12_momentOf 141 = .ok (.ifCond .eq 7, 3) := by decide +kernel
theorem dX12_momentOf_144 : decode cX12_momentOf 144 = .ok (.iconst (-1), 1) := by decide +kernel
theorem dX12_momentOf_145 : decode cX12_momentOf 145 = .ok (.goto 8, 3) := by decide +kernel
theorem dX12_momentOf_148 : decode cX12_momentOf 148 = .ok (.iload 4, 2) := by decide +kernel
theorem dX12_momentOf_150 : decode cX12_momentOf 150 = .ok (.bipush 60, 2) := by decide +kernel
theorem dX12_momentOf_152 : decode cX12_momentOf 152 = .ok (.isub, 1) := by decide +kernel
theorem dX12_momentOf_153 : decode cX12_momentOf 153 = .ok (.ireturn, 1) := by decide +kernel
theorem dX12_momentOf_154 : decode cX12_momentOf 154 = .ok (.iload 6, 2) := by decide +kernel
theorem dX12_momentOf_156 : decode cX12_momentOf 156 = .ok (.ifCond .eq 8, 3) := by decide +kernel
theorem dX12_momentOf_159 : decode cX12_momentOf 159 = .ok (.iload 4, 2) := by decide +kernel
theorem dX12_momentOf_161 : decode cX12_momentOf 161 = .ok (.goto 8, 3) := by decide +kernel
theorem dX12_momentOf_164 : decode cX12_momentOf 164 = .ok (.iload 4, 2) := by decide +kernel
theorem dX12_momentOf_166 : decode cX12_momentOf 166 = .ok (.bipush 60, 2) := by decide +kernel
theorem dX12_momentOf_168 : decode cX12_momentOf 168 = .ok (.iadd, 1) := by decide +kernel
theorem dX12_momentOf_169 : decode cX12_momentOf 169 = .ok (.ireturn, 1) := by decide +kernel
set_option maxRecDepth 20000 in
theorem ggX12_toldAt_X12_turned : GoodIn wsX12_toldAt wsX12_turned := goodIn_r _ [7, 1, 11, 12, 13, 14, 15, 16, 17, 18, 19, 20, 21, 22, 23, 24, 25, 26, 27, 28, 29, 30, 31, 32, 33, 34, 35, 36, 37, 38, 39, 40, 41, 42, 43, 44, 45, 46, 47, 48] (by decide +kernel) (by decide +kernel)
set_option maxRecDepth 20000 in
theorem gX12_toldAt_X12_turned : GoodIn wsX12_toldAt (wsV RX12 184 RX12 yX12_turned wsX12_turned) := goodIn_app (goodIn_of _ (by decide +kernel)) ggX12_toldAt_X12_turned
set_option maxRecDepth 20000 in
theorem ggX12_toldAt_X12_within : GoodIn wsX12_toldAt wsX12_within := goodIn_r _ [10] (by decide +kernel) (by decide +kernel)
set_option maxRecDepth 20000 in
theorem gX12_toldAt_X12_within : GoodIn wsX12_toldAt (va_wsS RX12 34 yX12_within wsX12_within) := goodIn_app (goodIn_of _ (by decide +kernel)) ggX12_toldAt_X12_within
theorem dX12_toldAt_0 : decode cX12_toldAt 0 = .ok (.iload_n 1, 1) := by decide +kernel
theorem dX12_toldAt_1 : decode cX12_toldAt 1 = .ok (.istore_n 2, 1) := by decide +kernel
theorem dX12_toldAt_2 : decode cX12_toldAt 2 = .ok (.aload_n 0, 1) := by decide +kernel
theorem dX12_toldAt_3 : decode cX12_toldAt 3 = .ok (.getfield 61, 3) := by decide +kernel
theorem dX12_toldAt_6 : decode cX12_toldAt 6 = .ok (.iconst 5, 1) := by decide +kernel
theorem dX12_toldAt_7 : decode cX12_toldAt 7 = .ok (.iaload, 1) := by decide +kernel
theorem dX12_toldAt_8 : decode cX12_toldAt 8 = .ok (.iconst (-1), 1) := by decide +kernel
theorem dX12_toldAt_9 : decode cX12_toldAt 9 = .ok (.if_icmp .eq 34, 3) := by decide +kernel
theorem dX12_toldAt_12 : decode cX12_toldAt 12 = .ok (.aload_n 0, 1) := by decide +kernel
theorem dX12_toldAt_13 : decode cX12_toldAt 13 = .ok (.getfield 61, 3) := by decide +kernel
theorem dX12_toldAt_16 : decode cX12_toldAt 16 = .ok (.bipush 7, 2) := by decide +kernel
theorem dX12_toldAt_18 : decode cX12_toldAt 18 = .ok (.iaload, 1) := by decide +kernel
theorem dX12_toldAt_19 : decode cX12_toldAt 19 = .ok (.iconst 1, 1) := by decide +kernel
theorem dX12_toldAt_20 : decode cX12_toldAt 20 = .ok (.if_icmp .ne 23, 3) := by decide +kernel
theorem dX12_toldAt_23 : decode cX12_toldAt 23 = .ok (.iload_n 1, 1) := by decide +kernel
theorem dX12_toldAt_24 : decode cX12_toldAt 24 = .ok (.aload_n 0, 1) := by decide +kernel
theorem dX12_toldAt_25 : decode cX12_toldAt 25 = .ok (.invokevirtual 184, 3) := by decide +kernel
theorem dX12_toldAt_28 : decode cX12_toldAt 28 = .ok (.if_icmp .ge 7, 3) := by decide +kernel
theorem dX12_toldAt_31 : decode cX12_toldAt 31 = .ok (.iload_n 1, 1) := by decide +kernel
theorem dX12_toldAt_32 : decode cX12_toldAt 32 = .ok (.goto 7, 3) := by decide +kernel
theorem dX12_toldAt_35 : decode cX12_toldAt 35 = .ok (.iload_n 1, 1) := by decide +kernel
theorem dX12_toldAt_36 : decode cX12_toldAt 36 = .ok (.bipush 60, 2) := by decide +kernel
theorem dX12_toldAt_38 : decode cX12_toldAt 38 = .ok (.iadd, 1) := by decide +kernel
theorem dX12_toldAt_39 : decode cX12_toldAt 39 = .ok (.istore_n 2, 1) := by decide +kernel
theorem dX12_toldAt_40 : decode cX12_toldAt 40 = .ok (.goto 33, 3) := by decide +kernel
theorem dX12_toldAt_43 : decode cX12_toldAt 43 = .ok (.aload_n 0, 1) := by decide +kernel
theorem dX12_toldAt_44 : decode cX12_toldAt 44 = .ok (.getfield 61, 3) := by decide +kernel
theorem dX12_toldAt_47 : decode cX12_toldAt 47 = .ok (.iconst 5, 1) := by decide +kernel
theorem dX12_toldAt_48 : decode cX12_toldAt 48 = .ok (.iaload, 1) := by decide +kernel
theorem dX12_toldAt_49 : decode cX12_toldAt 49 = .ok (.iconst (-1), 1) := by decide +kernel
theorem dX12_toldAt_50 : decode cX12_toldAt 50 = .ok (.if_icmp .eq 23, 3) := by decide +kernel
theorem dX12_toldAt_53 : decode cX12_toldAt 53 = .ok (.iload_n 1, 1) := by decide +kernel
theorem dX12_toldAt_54 : decode cX12_toldAt 54 = .ok (.aload_n 0, 1) := by decide +kernel
theorem dX12_toldAt_55 : decode cX12_toldAt 55 = .ok (.invokevirtual 184, 3) := by decide +kernel
theorem dX12_toldAt_58 : decode cX12_toldAt 58 = .ok (.bipush 60, 2) := by decide +kernel
theorem dX12_toldAt_60 : decode cX12_toldAt 60 = .ok (.iadd, 1) := by decide +kernel
theorem dX12_toldAt_61 : decode cX12_toldAt 61 = .ok (.if_icmp .ge 7, 3) := by decide +kernel
theorem dX12_toldAt_64 : decode cX12_toldAt 64 = .ok (.iload_n 1, 1) := by decide +kernel
theorem dX12_toldAt_65 : decode cX12_toldAt 65 = .ok (.goto 7, 3) := by decide +kernel
theorem dX12_toldAt_68 : decode cX12_toldAt 68 = .ok (.iload_n 1, 1) := by decide +kernel
theorem dX12_toldAt_69 : decode cX12_toldAt 69 = .ok (.bipush 60, 2) := by decide +kernel
theorem dX12_toldAt_71 : decode cX12_toldAt 71 = .ok (.isub, 1) := by decide +kernel
theorem dX12_toldAt_72 : decode cX12_toldAt 72 = .ok (.istore_n 2, 1) := by decide +kernel
theorem dX12_toldAt_73 : decode cX12_toldAt 73 = .ok (.iload_n 2, 1) := by decide +kernel
theorem dX12_toldAt_74 : decode cX12_toldAt 74 = .ok (.iconst 0, 1) := by decide +kernel
theorem dX12_toldAt_75 : decode cX12_toldAt 75 = .ok (.ldc 187, 2) := by decide +kernel
theorem dX12_toldAt_77 : decode cX12_toldAt 77 = .ok (.invokestatic 34, 3) := by decide +kernel
theorem dX12_toldAt_80 : decode cX12_toldAt 80 = .ok (.ifCond .eq 11, 3) := by decide +kernel
theorem dX12_toldAt_83 : decode cX12_toldAt 83 = .ok (.iload_n 1, 1) := by decide +kernel
theorem dX12_toldAt_84 : decode cX12_toldAt 84 = .ok (.ifCond .lt 7, 3) := by decide +kernel
theorem dX12_toldAt_87 : decode cX12_toldAt 87 = .ok (.iload_n 2, 1) := by decide +kernel
theorem dX12_toldAt_88 : decode cX12_toldAt 88 = .ok (.goto 4, 3) := by decide +kernel
theorem dX12_toldAt_91 : decode cX12_toldAt 91 = .ok (.iconst (-1), 1) := by decide +kernel
theorem dX12_toldAt_92 : decode cX12_toldAt 92 = .ok (.ireturn, 1) := by decide +kernel
set_option maxRecDepth 20000 in
theorem ggX12_moment_X12_momentOf : GoodIn wsX12_moment wsX12_momentOf := goodIn_r _ [6, 7, 8, 9, 5, 10, 11, 12, 13, 14, 15, 16, 17, 18, 19, 20, 21, 22, 23, 24, 25, 26, 27, 28, 29, 30, 31, 32, 33, 34, 35, 36, 37, 38, 39, 40, 41, 42, 43, 44, 45, 46, 47, 48, 49, 50, 51, 52] (by decide +kernel) (by decide +kernel)
set_option maxRecDepth 20000 in
theorem gX12_moment_X12_momentOf : GoodIn wsX12_moment (wsV RX12 188 RX12 yX12_momentOf wsX12_momentOf) := goodIn_app (goodIn_of _ (by decide +kernel)) ggX12_moment_X12_momentOf
theorem dX12_moment_0 : decode cX12_moment 0 = .ok (.aload_n 0, 1) := by decide +kernel
theorem dX12_moment_1 : decode cX12_moment 1 = .ok (.iconst 0, 1) := by decide +kernel
theorem dX12_moment_2 : decode cX12_moment 2 = .ok (.putfield 1, 3) := by decide +kernel
theorem dX12_moment_5 : decode cX12_moment 5 = .ok (.aload_n 0, 1) := by decide +kernel
theorem dX12_moment_6 : decode cX12_moment 6 = .ok (.iload_n 1, 1) := by decide +kernel
theorem dX12_moment_7 : decode cX12_moment 7 = .ok (.iload_n 2, 1) := by decide +kernel
theorem dX12_moment_8 : decode cX12_moment 8 = .ok (.iload_n 3, 1) := by decide +kernel
theorem dX12_moment_9 : decode cX12_moment 9 = .ok (.invokevirtual 188, 3) := by decide +kernel
theorem dX12_moment_12 : decode cX12_moment 12 = .ok (.ireturn, 1) := by decide +kernel
set_option maxRecDepth 20000 in
theorem ggX12_clock_X12_toldAt : GoodIn wsX12_clock wsX12_toldAt := goodIn_r _ [8, 3, 9, 10, 11, 12, 7, 13, 14, 15, 16, 17, 18, 19, 20, 21, 22, 23, 24, 25, 26, 27, 28, 29, 30, 31, 32, 33, 34, 35, 36, 37, 38, 39, 40, 41, 42, 43, 44, 45, 46, 47, 48, 49, 50, 51, 52, 53, 54] (by decide +kernel) (by decide +kernel)
set_option maxRecDepth 20000 in
theorem gX12_clock_X12_toldAt : GoodIn wsX12_clock (wsV RX12 193 RX12 yX12_toldAt wsX12_toldAt) := goodIn_app (goodIn_of _ (by decide +kernel)) ggX12_clock_X12_toldAt
set_option maxRecDepth 20000 in
theorem ggX12_clock_X12_within : GoodIn wsX12_clock wsX12_within := goodIn_r _ [16] (by decide +kernel) (by decide +kernel)
set_option maxRecDepth 20000 in
theorem gX12_clock_X12_within : GoodIn wsX12_clock (va_wsS RX12 34 yX12_within wsX12_within) := goodIn_app (goodIn_of _ (by decide +kernel)) ggX12_clock_X12_within
set_option maxRecDepth 20000 in
theorem ggX12_clock_X12_turned : GoodIn wsX12_clock wsX12_turned := goodIn_r _ [13, 3, 17, 18, 19, 20, 21, 22, 23, 24, 25, 26, 27, 28, 29, 30, 31, 32, 33, 34, 35, 36, 37, 38, 39, 40, 41, 42, 43, 44, 45, 46, 47, 48, 49, 50, 51, 52, 53, 54] (by decide +kernel) (by decide +kernel)
set_option maxRecDepth 20000 in
theorem gX12_clock_X12_turned : GoodIn wsX12_clock (wsV RX12 184 RX12 yX12_turned wsX12_turned) := goodIn_app (goodIn_of _ (by decide +kernel)) ggX12_clock_X12_turned
theorem dX12_clock_0 : decode cX12_clock 0 = .ok (.aload_n 0, 1) := by decide +kernel
theorem dX12_clock_1 : decode cX12_clock 1 = .ok (.iconst 0, 1) := by decide +kernel
theorem dX12_clock_2 : decode cX12_clock 2 = .ok (.putfield 1, 3) := by decide +kernel
theorem dX12_clock_5 : decode cX12_clock 5 = .ok (.iload_n 1, 1) := by decide +kernel
theorem dX12_clock_6 : decode cX12_clock 6 = .ok (.ifCond .lt 9, 3) := by decide +kernel
theorem dX12_clock_9 : decode cX12_clock 9 = .ok (.iload_n 1, 1) := by decide +kernel
theorem dX12_clock_10 : decode cX12_clock 10 = .ok (.ldc 192, 2) := by decide +kernel
theorem dX12_clock_12 : decode cX12_clock 12 = .ok (.if_icmp .le 7, 3) := by decide +kernel
theorem dX12_clock_15 : decode cX12_clock 15 = .ok (.iconst (-1), 1) := by decide +kernel
theorem dX12_clock_16 : decode cX12_clock 16 = .ok (.goto 8, 3) := by decide +kernel
theorem dX12_clock_19 : decode cX12_clock 19 = .ok (.aload_n 0, 1) := by decide +kernel
theorem dX12_clock_20 : decode cX12_clock 20 = .ok (.iload_n 1, 1) := by decide +kernel
theorem dX12_clock_21 : decode cX12_clock 21 = .ok (.invokevirtual 193, 3) := by decide +kernel
theorem dX12_clock_24 : decode cX12_clock 24 = .ok (.istore_n 3, 1) := by decide +kernel
theorem dX12_clock_25 : decode cX12_clock 25 = .ok (.iload_n 3, 1) := by decide +kernel
theorem dX12_clock_26 : decode cX12_clock 26 = .ok (.iconst (-1), 1) := by decide +kernel
theorem dX12_clock_27 : decode cX12_clock 27 = .ok (.if_icmp .eq 12, 3) := by decide +kernel
theorem dX12_clock_30 : decode cX12_clock 30 = .ok (.iload_n 2, 1) := by decide +kernel
theorem dX12_clock_31 : decode cX12_clock 31 = .ok (.iconst 0, 1) := by decide +kernel
theorem dX12_clock_32 : decode cX12_clock 32 = .ok (.iconst 2, 1) := by decide +kernel
theorem dX12_clock_33 : decode cX12_clock 33 = .ok (.invokestatic 34, 3) := by decide +kernel
theorem dX12_clock_36 : decode cX12_clock 36 = .ok (.ifCond .ne 5, 3) := by decide +kernel
theorem dX12_clock_39 : decode cX12_clock 39 = .ok (.iconst (-1), 1) := by decide +kernel
theorem dX12_clock_40 : decode cX12_clock 40 = .ok (.ireturn, 1) := by decide +kernel
theorem dX12_clock_41 : decode cX12_clock 41 = .ok (.aload_n 0, 1) := by decide +kernel
theorem dX12_clock_42 : decode cX12_clock 42 = .ok (.getfield 61, 3) := by decide +kernel
theorem dX12_clock_45 : decode cX12_clock 45 = .ok (.iconst 5, 1) := by decide +kernel
theorem dX12_clock_46 : decode cX12_clock 46 = .ok (.iaload, 1) := by decide +kernel
theorem dX12_clock_47 : decode cX12_clock 47 = .ok (.iconst (-1), 1) := by decide +kernel
theorem dX12_clock_48 : decode cX12_clock 48 = .ok (.if_icmp .eq 39, 3) := by decide +kernel
theorem dX12_clock_51 : decode cX12_clock 51 = .ok (.aload_n 0, 1) := by decide +kernel
theorem dX12_clock_52 : decode cX12_clock 52 = .ok (.getfield 61, 3) := by decide +kernel
theorem dX12_clock_55 : decode cX12_clock 55 = .ok (.bipush 7, 2) := by decide +kernel
theorem dX12_clock_57 : decode cX12_clock 57 = .ok (.iaload, 1) := by decide +kernel
theorem dX12_clock_58 : decode cX12_clock 58 = .ok (.ifCond .ne 29, 3) := by decide +kernel
theorem dX12_clock_61 : decode cX12_clock 61 = .ok (.iload_n 1, 1) := by decide +kernel
theorem dX12_clock_62 : decode cX12_clock 62 = .ok (.aload_n 0, 1) := by decide +kernel
theorem dX12_clock_63 : decode cX12_clock 63 = .ok (.invokevirtual 184, 3) := by decide +kernel
theorem dX12_clock_66 : decode cX12_clock 66 = .ok (.bipush 60, 2) := by decide +kernel
theorem dX12_clock_68 : decode cX12_clock 68 = .ok (.iadd, 1) := by decide +kernel
theorem dX12_clock_69 : decode cX12_clock 69 = .ok (.if_icmp .lt 18, 3) := by decide +kernel
theorem dX12_clock_72 : decode cX12_clock 72 = .ok (.iload_n 1, 1) := by decide +kernel
theorem dX12_clock_73 : decode cX12_clock 73 = .ok (.aload_n 0, 1) := by decide +kernel
theorem dX12_clock_74 : decode cX12_clock 74 = .ok (.invokevirtual 184, 3) := by decide +kernel
theorem dX12_clock_77 : decode cX12_clock 77 = .ok (.bipush 120, 2) := by decide +kernel
theorem dX12_clock_79 : decode cX12_clock 79 = .ok (.iadd, 1) := by decide +kernel
theorem dX12_clock_80 : decode cX12_clock 80 = .ok (.if_icmp .ge 7, 3) := by decide +kernel
theorem dX12_clock_83 : decode cX12_clock 83 = .ok (.iconst 1, 1) := by decide +kernel
theorem dX12_clock_84 : decode cX12_clock 84 = .ok (.goto 4, 3) := by decide +kernel
theorem dX12_clock_87 : decode cX12_clock 87 = .ok (.iconst 0, 1) := by decide +kernel
theorem dX12_clock_88 : decode cX12_clock 88 = .ok (.istore 4, 2) := by decide +kernel
theorem dX12_clock_90 : decode cX12_clock 90 = .ok (.iload_n 2, 1) := by decide +kernel
theorem dX12_clock_91 : decode cX12_clock 91 = .ok (.ifCond .ne 11, 3) := by decide +kernel
theorem dX12_clock_94 : decode cX12_clock 94 = .ok (.iload_n 3, 1) := by decide +kernel
theorem dX12_clock_95 : decode cX12_clock 95 = .ok (.sipush 1440, 3) := by decide +kernel
theorem dX12_clock_98 : decode cX12_clock 98 = .ok (.idiv, 1) := by decide +kernel
theorem dX12_clock_99 : decode cX12_clock 99 = .ok (.goto 26, 3) := by decide +kernel
theorem dX12_clock_102 : decode cX12_clock 102 = .ok (.iload_n 2, 1) := by decide +kernel
theorem dX12_clock_103 : decode cX12_clock 103 = .ok (.iconst 1, 1) := by decide +kernel
theorem dX12_clock_104 : decode cX12_clock 104 = .ok (.if_icmp .ne 11, 3) := by decide +kernel
theorem dX12_clock_107 : decode cX12_clock 107 = .ok (.iload_n 3, 1) := by decide +kernel
theorem dX12_clock_108 : decode cX12_clock 108 = .ok (.sipush 1440, 3) := by decide +kernel
theorem dX12_clock_111 : decode cX12_clock 111 = .ok (.irem, 1) := by decide +kernel
theorem dX12_clock_112 : decode cX12_clock 112 = .ok (.goto 13, 3) := by decide +kernel
theorem dX12_clock_115 : decode cX12_clock 115 = .ok (.iload 4, 2) := by decide +kernel
theorem dX12_clock_117 : decode cX12_clock 117 = .ok (.ifCond .eq 7, 3) := by decide +kernel
theorem dX12_clock_120 : decode cX12_clock 120 = .ok (.iconst 1, 1) := by decide +kernel
theorem dX12_clock_121 : decode cX12_clock 121 = .ok (.goto 4, 3) := by decide +kernel
theorem dX12_clock_124 : decode cX12_clock 124 = .ok (.iconst 0, 1) := by decide +kernel
theorem dX12_clock_125 : decode cX12_clock 125 = .ok (.ireturn, 1) := by decide +kernel
set_option maxRecDepth 20000 in
theorem ggX12_isWorker_X12_within : GoodIn wsX12_isWorker wsX12_within := goodIn_r _ [4] (by decide +kernel) (by decide +kernel)
set_option maxRecDepth 20000 in
theorem gX12_isWorker_X12_within : GoodIn wsX12_isWorker (va_wsS RX12 34 yX12_within wsX12_within) := goodIn_app (goodIn_of _ (by decide +kernel)) ggX12_isWorker_X12_within
theorem dX12_isWorker_0 : decode cX12_isWorker 0 = .ok (.iload_n 1, 1) := by decide +kernel
theorem dX12_isWorker_1 : decode cX12_isWorker 1 = .ok (.iconst 0, 1) := by decide +kernel
theorem dX12_isWorker_2 : decode cX12_isWorker 2 = .ok (.iconst 3, 1) := by decide +kernel
theorem dX12_isWorker_3 : decode cX12_isWorker 3 = .ok (.invokestatic 34, 3) := by decide +kernel
theorem dX12_isWorker_6 : decode cX12_isWorker 6 = .ok (.ireturn, 1) := by decide +kernel
theorem dX12_placeOf_0 : decode cX12_placeOf 0 = .ok (.iconst 0, 1) := by decide +kernel
theorem dX12_placeOf_1 : decode cX12_placeOf 1 = .ok (.istore_n 3, 1) := by decide +kernel
theorem dX12_placeOf_2 : decode cX12_placeOf 2 = .ok (.iload_n 3, 1) := by decide +kernel
theorem dX12_placeOf_3 : decode cX12_placeOf 3 = .ok (.aload_n 0, 1) := by decide +kernel
theorem dX12_placeOf_4 : decode cX12_placeOf 4 = .ok (.getfield 68, 3) := by decide +kernel
theorem dX12_placeOf_7 : decode cX12_placeOf 7 = .ok (.iload_n 1, 1) := by decide +kernel
theorem dX12_placeOf_8 : decode cX12_placeOf 8 = .ok (.iaload, 1) := by decide +kernel
theorem dX12_placeOf_9 : decode cX12_placeOf 9 = .ok (.if_icmp .ge 26, 3) := by decide +kernel
theorem dX12_placeOf_12 : decode cX12_placeOf 12 = .ok (.aload_n 0, 1) := by decide +kernel
theorem dX12_placeOf_13 : decode cX12_placeOf 13 = .ok (.getfield 71, 3) := by decide +kernel
theorem dX12_placeOf_16 : decode cX12_placeOf 16 = .ok (.bipush 61, 2) := by decide +kernel
theorem dX12_placeOf_18 : decode cX12_placeOf 18 = .ok (.iload_n 1, 1) := by decide +kernel
theorem dX12_placeOf_19 : decode cX12_placeOf 19 = .ok (.imul, 1) := by decide +kernel
theorem dX12_placeOf_20 : decode cX12_placeOf 20 = .ok (.iload_n 3, 1) := by decide +kernel
theorem dX12_placeOf_21 : decode cX12_placeOf 21 = .ok (.iadd, 1) := by decide +kernel
theorem dX12_placeOf_22 : decode cX12_placeOf 22 = .ok (.iaload, 1) := by decide +kernel
theorem dX12_placeOf_23 : decode cX12_placeOf 23 = .ok (.iload_n 2, 1) := by decide +kernel
theorem dX12_placeOf_24 : decode cX12_placeOf 24 = .ok (.if_icmp .ne 5, 3) := by decide +kernel
theorem dX12_placeOf_27 : decode cX12_placeOf 27 = .ok (.iload_n 3, 1) := by decide +kernel
theorem dX12_placeOf_28 : decode cX12_placeOf 28 = .ok (.ireturn, 1) := by decide +kernel
theorem dX12_placeOf_29 : decode cX12_placeOf 29 = .ok (.iinc 3 1, 3) := by decide +kernel
theorem dX12_placeOf_32 : decode cX12_placeOf 32 = .ok (.goto (-30), 3) := by decide +kernel
theorem dX12_placeOf_35 : decode cX12_placeOf 35 = .ok (.iconst (-1), 1) := by decide +kernel
theorem dX12_placeOf_36 : decode cX12_placeOf 36 = .ok (.ireturn, 1) := by decide +kernel
theorem dX12_comes_0 : decode cX12_comes 0 = .ok (.aload_n 0, 1) := by decide +kernel
theorem dX12_comes_1 : decode cX12_comes 1 = .ok (.getfield 68, 3) := by decide +kernel
theorem dX12_comes_4 : decode cX12_comes 4 = .ok (.iload_n 1, 1) := by decide +kernel
theorem dX12_comes_5 : decode cX12_comes 5 = .ok (.iaload, 1) := by decide +kernel
theorem dX12_comes_6 : decode cX12_comes 6 = .ok (.istore 4, 2) := by decide +kernel
theorem dX12_comes_8 : decode cX12_comes 8 = .ok (.iload 4, 2) := by decide +kernel
theorem dX12_comes_10 : decode cX12_comes 10 = .ok (.ifCond .le 79, 3) := by decide +kernel
theorem dX12_comes_13 : decode cX12_comes 13 = .ok (.aload_n 0, 1) := by decide +kernel
theorem dX12_comes_14 : decode cX12_comes 14 = .ok (.getfield 71, 3) := by decide +kernel
theorem dX12_comes_17 : decode cX12_comes 17 = .ok (.bipush 61, 2) := by decide +kernel
theorem dX12_comes_19 : decode cX12_comes 19 = .ok (.iload_n 1, 1) := by decide +kernel
theorem dX12_comes_20 : decode cX12_comes 20 = .ok (.imul, 1) := by decide +kernel
theorem dX12_comes_21 : decode cX12_comes 21 = .ok (.iload 4, 2) := by decide +kernel
theorem dX12_comes_23 : decode cX12_comes 23 = .ok (.iadd, 1) := by decide +kernel
theorem dX12_comes_24 : decode cX12_comes 24 = .ok (.iconst 1, 1) := by decide +kernel
theorem dX12_comes_25 : decode cX12_comes 25 = .ok (.isub, 1) := by decide +kernel
theorem dX12_comes_26 : decode cX12_comes 26 = .ok (.iaload, 1) := by decide +kernel
theorem dX12_comes_27 : decode cX12_comes 27 = .ok (.iload_n 2, 1) := by decide +kernel
theorem dX12_comes_28 : decode cX12_comes 28 = .ok (.if_icmp .le 61, 3) := by decide +kernel
theorem dX12_comes_31 : decode cX12_comes 31 = .ok (.aload_n 0, 1) := by decide +kernel
theorem dX12_comes_32 : decode cX12_comes 32 = .ok (.getfield 71, 3) := by decide +kernel
theorem dX12_comes_35 : decode cX12_comes 35 = .ok (.bipush 61, 2) := by decide +kernel
theorem dX12_comes_37 : decode cX12_comes 37 = .ok (.iload_n 1, 1) := by decide +kernel
theorem dX12_comes_38 : decode cX12_comes 38 = .ok (.imul, 1) := by decide +kernel
theorem dX12_comes_39 : decode cX12_comes 39 = .ok (.iload 4, 2) := by decide +kernel
theorem dX12_comes_41 : decode cX12_comes 41 = .ok (.iadd, 1) := by decide +kernel
theorem dX12_comes_42 : decode cX12_comes 42 = .ok (.aload_n 0, 1) := by decide +kernel
theorem dX12_comes_43 : decode cX12_comes 43 = .ok (.getfield 71, 3) := by decide +kernel
theorem dX12_comes_46 : decode cX12_comes 46 = .ok (.bipush 61, 2) := by decide +kernel
theorem dX12_comes_48 : decode cX12_comes 48 = .ok (.iload_n 1, 1) := by decide +kernel
theorem dX12_comes_49 : decode cX12_comes 49 = .ok (.imul, 1) := by decide +kernel
theorem dX12_comes_50 : decode cX12_comes 50 = .ok (.iload 4, 2) := by decide +kernel
theorem dX12_comes_52 : decode cX12_comes 52 = .ok (.iadd, 1) := by decide +kernel
theorem dX12_comes_53 : decode cX12_comes 53 = .ok (.iconst 1, 1) := by decide +kernel
theorem dX12_comes_54 : decode cX12_comes 54 = .ok (.isub, 1) := by decide +kernel
theorem dX12_comes_55 : decode cX12_comes 55 = .ok (.iaload, 1) := by decide +kernel
theorem dX12_comes_56 : decode cX12_comes 56 = .ok (.iastore, 1) := by decide +kernel
theorem dX12_comes_57 : decode cX12_comes 57 = .ok (.aload_n 0, 1) := by decide +kernel
theorem dX12_comes_58 : decode cX12_comes 58 = .ok (.getfield 74, 3) := by decide +kernel
theorem dX12_comes_61 : decode cX12_comes 61 = .ok (.bipush 61, 2) := by decide +kernel
theorem dX12_comes_63 : decode cX12_comes 63 = .ok (.iload_n 1, 1) := by decide +kernel
theorem dX12_comes_64 : decode cX12_comes 64 = .ok (.imul, 1) := by decide +kernel
theorem dX12_comes_65 : decode cX12_comes 65 = .ok (.iload 4, 2) := by decide +kernel
theorem dX12_comes_67 : decode cX12_comes 67 = .ok (.iadd, 1) := by decide +kernel
theorem dX12_comes_68 : decode cX12_comes 68 = .ok (.aload_n 0, 1) := by decide +kernel
theorem dX12_comes_69 : decode cX12_comes 69 = .ok (.getfield 74, 3) := by decide +kernel
theorem dX12_comes_72 : decode cX12_comes 72 = .ok (.bipush 61, 2) := by decide +kernel
theorem dX12_comes_74 : decode cX12_comes 74 = .ok (.iload_n 1, 1) := by decide +kernel
theorem dX12_comes_75 : decode cX12_comes 75 = .ok (.imul, 1) := by decide +kernel
theorem dX12_comes_76 : decode cX12_comes 76 = .ok (.iload 4, 2) := by decide +kernel
theorem dX12_comes_78 : decode cX12_comes 78 = .ok (.iadd, 1) := by decide +kernel
theorem dX12_comes_79 : decode cX12_comes 79 = .ok (.iconst 1, 1) := by decide +kernel
theorem dX12_comes_80 : decode cX12_comes 80 = .ok (.isub, 1) := by decide +kernel
theorem dX12_comes_81 : decode cX12_comes 81 = .ok (.iaload, 1) := by decide +kernel
theorem dX12_comes_82 : decode cX12_comes 82 = .ok (.iastore, 1) := by decide +kernel
theorem dX12_comes_83 : decode cX12_comes 83 = .ok (.iinc 4 (-1), 3) := by decide +kernel
theorem dX12_comes_86 : decode cX12_comes 86 = .ok (.goto (-78), 3) := by decide +kernel
theorem dX12_comes_89 : decode cX12_comes 89 = .ok (.aload_n 0, 1) := by decide +kernel
theorem dX12_comes_90 : decode cX12_comes 90 = .ok (.getfield 71, 3) := by decide +kernel
theorem dX12_comes_93 : decode cX12_comes 93 = .ok (.bipush 61, 2) := by decide +kernel
theorem dX12_comes_95 : decode cX12_comes 95 = .ok (.iload_n 1, 1) := by decide +kernel
theorem dX12_comes_96 : decode cX12_comes 96 = .ok (.imul, 1) := by decide +kernel
theorem dX12_comes_97 : decode cX12_comes 97 = .ok (.iload 4, 2) := by decide +kernel
theorem dX12_comes_99 : decode cX12_comes 99 = .ok (.iadd, 1) := by decide +kernel
theorem dX12_comes_100 : decode cX12_comes 100 = .ok (.iload_n 2, 1) := by decide +kernel
theorem dX12_comes_101 : decode cX12_comes 101 = .ok (.iastore, 1) := by decide +kernel
theorem dX12_comes_102 : decode cX12_comes 102 = .ok (.aload_n 0, 1) := by decide +kernel
theorem dX12_comes_103 : decode cX12_comes 103 = .ok (.getfield 74, 3) := by decide +kernel
theorem dX12_comes_106 : decode cX12_comes 106 = .ok (.bipush 61, 2) := by decide +kernel
theorem dX12_comes_108 : decode cX12_comes 108 = .ok (.iload_n 1, 1) := by decide +kernel
theorem dX12_comes_109 : decode cX12_comes 109 = .ok (.imul, 1) := by decide +kernel
theorem dX12_comes_110 : decode cX12_comes 110 = .ok (.iload 4, 2) := by decide +kernel
theorem dX12_comes_112 : decode cX12_comes 112 = .ok (.iadd, 1) := by decide +kernel
theorem dX12_comes_113 : decode cX12_comes 113 = .ok (.iload_n 3, 1) := by decide +kernel
theorem dX12_comes_114 : decode cX12_comes 114 = .ok (.iastore, 1) := by decide +kernel
theorem dX12_comes_115 : decode cX12_comes 115 = .ok (.aload_n 0, 1) := by decide +kernel
theorem dX12_comes_116 : decode cX12_comes 116 = .ok (.getfield 68, 3) := by decide +kernel
theorem dX12_comes_119 : decode cX12_comes 119 = .ok (.iload_n 1, 1) := by decide +kernel
theorem dX12_comes_120 : decode cX12_comes 120 = .ok (.dup2, 1) := by decide +kernel
theorem dX12_comes_121 : decode cX12_comes 121 = .ok (.iaload, 1) := by decide +kernel
theorem dX12_comes_122 : decode cX12_comes 122 = .ok (.iconst 1, 1) := by decide +kernel
theorem dX12_comes_123 : decode cX12_comes 123 = .ok (.iadd, 1) := by decide +kernel
theorem dX12_comes_124 : decode cX12_comes 124 = .ok (.iastore, 1) := by decide +kernel
theorem dX12_comes_125 : decode cX12_comes 125 = .ok (.return_, 1) := by decide +kernel
theorem dX12_leaves_0 : decode cX12_leaves 0 = .ok (.aload_n 0, 1) := by decide +kernel
theorem dX12_leaves_1 : decode cX12_leaves 1 = .ok (.getfield 68, 3) := by decide +kernel
theorem dX12_leaves_4 : decode cX12_leaves 4 = .ok (.iload_n 1, 1) := by decide +kernel
theorem dX12_leaves_5 : decode cX12_leaves 5 = .ok (.dup2, 1) := by decide +kernel
theorem dX12_leaves_6 : decode cX12_leaves 6 = .ok (.iaload, 1) := by decide +kernel
theorem dX12_leaves_7 : decode cX12_leaves 7 = .ok (.iconst 1, 1) := by decide +kernel
theorem dX12_leaves_8 : decode cX12_leaves 8 = .ok (.isub, 1) := by decide +kernel
theorem dX12_leaves_9 : decode cX12_leaves 9 = .ok (.iastore, 1) := by decide +kernel
theorem dX12_leaves_10 : decode cX12_leaves 10 = .ok (.iconst 0, 1) := by decide +kernel
theorem dX12_leaves_11 : decode cX12_leaves 11 = .ok (.istore_n 3, 1) := by decide +kernel
theorem dX12_leaves_12 : decode cX12_leaves 12 = .ok (.iload_n 3, 1) := by decide +kernel
theorem dX12_leaves_13 : decode cX12_leaves 13 = .ok (.aload_n 0, 1) := by decide +kernel
theorem dX12_leaves_14 : decode cX12_leaves 14 = .ok (.getfield 68, 3) := by decide +kernel
theorem dX12_leaves_17 : decode cX12_leaves 17 = .ok (.iload_n 1, 1) := by decide +kernel
theorem dX12_leaves_18 : decode cX12_leaves 18 = .ok (.iaload, 1) := by decide +kernel
theorem dX12_leaves_19 : decode cX12_leaves 19 = .ok (.if_icmp .ge 72, 3) := by decide +kernel
theorem dX12_leaves_22 : decode cX12_leaves 22 = .ok (.aload_n 0, 1) := by decide +kernel
theorem dX12_leaves_23 : decode cX12_leaves 23 = .ok (.getfield 71, 3) := by decide +kernel
theorem dX12_leaves_26 : decode cX12_leaves 26 = .ok (.bipush 61, 2) := by decide +kernel
theorem dX12_leaves_28 : decode cX12_leaves 28 = .ok (.iload_n 1, 1) := by decide +kernel
theorem dX12_leaves_29 : decode cX12_leaves 29 = .ok (.imul, 1) := by decide +kernel
theorem dX12_leaves_30 : decode cX12_leaves 30 = .ok (.iload_n 3, 1) := by decide +kernel
theorem dX12_leaves_31 : decode cX12_leaves 31 = .ok (.iadd, 1) := by decide +kernel
theorem dX12_leaves_32 : decode cX12_leaves 32 = .ok (.iaload, 1) := by decide +kernel
theorem dX12_leaves_33 : decode cX12_leaves 33 = .ok (.iload_n 2, 1) := by decide +kernel
theorem dX12_leaves_34 : decode cX12_leaves 34 = .ok (.if_icmp .lt 51, 3) := by decide +kernel
theorem dX12_leaves_37 : decode cX12_leaves 37 = .ok (.aload_n 0, 1) := by decide +kernel
theorem dX12_leaves_38 : decode cX12_leaves 38 = .ok (.getfield 71, 3) := by decide +kernel
theorem dX12_leaves_41 : decode cX12_leaves 41 = .ok (.bipush 61, 2) := by decide +kernel
theorem dX12_leaves_43 : decode cX12_leaves 43 = .ok (.iload_n 1, 1) := by decide +kernel
theorem dX12_leaves_44 : decode cX12_leaves 44 = .ok (.imul, 1) := by decide +kernel
theorem dX12_leaves_45 : decode cX12_leaves 45 = .ok (.iload_n 3, 1) := by decide +kernel
theorem dX12_leaves_46 : decode cX12_leaves 46 = .ok (.iadd, 1) := by decide +kernel
theorem dX12_leaves_47 : decode cX12_leaves 47 = .ok (.aload_n 0, 1) := by decide +kernel
theorem dX12_leaves_48 : decode cX12_leaves 48 = .ok (.getfield 71, 3) := by decide +kernel
theorem dX12_leaves_51 : decode cX12_leaves 51 = .ok (.bipush 61, 2) := by decide +kernel
theorem dX12_leaves_53 : decode cX12_leaves 53 = .ok (.iload_n 1, 1) := by decide +kernel
theorem dX12_leaves_54 : decode cX12_leaves 54 = .ok (.imul, 1) := by decide +kernel
theorem dX12_leaves_55 : decode cX12_leaves 55 = .ok (.iload_n 3, 1) := by decide +kernel
theorem dX12_leaves_56 : decode cX12_leaves 56 = .ok (.iadd, 1) := by decide +kernel
theorem dX12_leaves_57 : decode cX12_leaves 57 = .ok (.iconst 1, 1) := by decide +kernel
theorem dX12_leaves_58 : decode cX12_leaves 58 = .ok (.iadd, 1) := by decide +kernel
theorem dX12_leaves_59 : decode cX12_leaves 59 = .ok (.iaload, 1) := by decide +kernel
theorem dX12_leaves_60 : decode cX12_leaves 60 = .ok (.iastore, 1) := by decide +kernel
theorem dX12_leaves_61 : decode cX12_leaves 61 = .ok (.aload_n 0, 1) := by decide +kernel
theorem dX12_leaves_62 : decode cX12_leaves 62 = .ok (.getfield 74, 3) := by decide +kernel
theorem dX12_leaves_65 : decode cX12_leaves 65 = .ok (.bipush 61, 2) := by decide +kernel
theorem dX12_leaves_67 : decode cX12_leaves 67 = .ok (.iload_n 1, 1) := by decide +kernel
theorem dX12_leaves_68 : decode cX12_leaves 68 = .ok (.imul, 1) := by decide +kernel
theorem dX12_leaves_69 : decode cX12_leaves 69 = .ok (.iload_n 3, 1) := by decide +kernel
theorem dX12_leaves_70 : decode cX12_leaves 70 = .ok (.iadd, 1) := by decide +kernel
theorem dX12_leaves_71 : decode cX12_leaves 71 = .ok (.aload_n 0, 1) := by decide +kernel
theorem dX12_leaves_72 : decode cX12_leaves 72 = .ok (.getfield 74, 3) := by decide +kernel
theorem dX12_leaves_75 : decode cX12_leaves 75 = .ok (.bipush 61, 2) := by decide +kernel
theorem dX12_leaves_77 : decode cX12_leaves 77 = .ok (.iload_n 1, 1) := by decide +kernel
theorem dX12_leaves_78 : decode cX12_leaves 78 = .ok (.imul, 1) := by decide +kernel
theorem dX12_leaves_79 : decode cX12_leaves 79 = .ok (.iload_n 3, 1) := by decide +kernel
theorem dX12_leaves_80 : decode cX12_leaves 80 = .ok (.iadd, 1) := by decide +kernel
theorem dX12_leaves_81 : decode cX12_leaves 81 = .ok (.iconst 1, 1) := by decide +kernel
theorem dX12_leaves_82 : decode cX12_leaves 82 = .ok (.iadd, 1) := by decide +kernel
theorem dX12_leaves_83 : decode cX12_leaves 83 = .ok (.iaload, 1) := by decide +kernel
theorem dX12_leaves_84 : decode cX12_leaves 84 = .ok (.iastore, 1) := by decide +kernel
theorem dX12_leaves_85 : decode cX12_leaves 85 = .ok (.iinc 3 1, 3) := by decide +kernel
theorem dX12_leaves_88 : decode cX12_leaves 88 = .ok (.goto (-76), 3) := by decide +kernel
theorem dX12_leaves_91 : decode cX12_leaves 91 = .ok (.return_, 1) := by decide +kernel
theorem dX12_notes_0 : decode cX12_notes 0 = .ok (.aload_n 0, 1) := by decide +kernel
theorem dX12_notes_1 : decode cX12_notes 1 = .ok (.getfield 174, 3) := by decide +kernel
theorem dX12_notes_4 : decode cX12_notes 4 = .ok (.bipush 16, 2) := by decide +kernel
theorem dX12_notes_6 : decode cX12_notes 6 = .ok (.if_icmp .ne 45, 3) := by decide +kernel
theorem dX12_notes_9 : decode cX12_notes 9 = .ok (.iconst 0, 1) := by decide +kernel
theorem dX12_notes_10 : decode cX12_notes 10 = .ok (.istore 5, 2) := by decide +kernel
theorem dX12_notes_12 : decode cX12_notes 12 = .ok (.iload 5, 2) := by decide +kernel
theorem dX12_notes_14 : decode cX12_notes 14 = .ok (.bipush 60, 2) := by decide +kernel
theorem dX12_notes_16 : decode cX12_notes 16 = .ok (.if_icmp .ge 25, 3) := by decide +kernel
theorem dX12_notes_19 : decode cX12_notes 19 = .ok (.aload_n 0, 1) := by decide +kernel
theorem dX12_notes_20 : decode cX12_notes 20 = .ok (.getfield 77, 3) := by decide +kernel
theorem dX12_notes_23 : decode cX12_notes 23 = .ok (.iload 5, 2) := by decide +kernel
theorem dX12_notes_25 : decode cX12_notes 25 = .ok (.aload_n 0, 1) := by decide +kernel
theorem dX12_notes_26 : decode cX12_notes 26 = .ok (.getfield 77, 3) := by decide +kernel
theorem dX12_notes_29 : decode cX12_notes 29 = .ok (.iload 5, 2) := by decide +kernel
theorem dX12_notes_31 : decode cX12_notes 31 = .ok (.iconst 4, 1) := by decide +kernel
theorem dX12_notes_32 : decode cX12_notes 32 = .ok (.iadd, 1) := by decide +kernel
theorem dX12_notes_33 : decode cX12_notes 33 = .ok (.iaload, 1) := by decide +kernel
theorem dX12_notes_34 : decode cX12_notes 34 = .ok (.iastore, 1) := by decide +kernel
theorem dX12_notes_35 : decode cX12_notes 35 = .ok (.iinc 5 1, 3) := by decide +kernel
theorem dX12_notes_38 : decode cX12_notes 38 = .ok (.goto (-26), 3) := by decide +kernel
theorem dX12_notes_41 : decode cX12_notes 41 = .ok (.aload_n 0, 1) := by decide +kernel
theorem dX12_notes_42 : decode cX12_notes 42 = .ok (.dup, 1) := by decide +kernel
theorem dX12_notes_43 : decode cX12_notes 43 = .ok (.getfield 174, 3) := by decide +kernel
theorem dX12_notes_46 : decode cX12_notes 46 = .ok (.iconst 1, 1) := by decide +kernel
theorem dX12_notes_47 : decode cX12_notes 47 = .ok (.isub, 1) := by decide +kernel
theorem dX12_notes_48 : decode cX12_notes 48 = .ok (.putfield 174, 3) := by decide +kernel
theorem dX12_notes_51 : decode cX12_notes 51 = .ok (.aload_n 0, 1) := by decide +kernel
theorem dX12_notes_52 : decode cX12_notes 52 = .ok (.getfield 77, 3) := by decide +kernel
theorem dX12_notes_55 : decode cX12_notes 55 = .ok (.iconst 4, 1) := by decide +kernel
theorem dX12_notes_56 : decode cX12_notes 56 = .ok (.aload_n 0, 1) := by decide +kernel
theorem dX12_notes_57 : decode cX12_notes 57 = .ok (.getfield 174, 3) := by decide +kernel
theorem dX12_notes_60 : decode cX12_notes 60 = .ok (.imul, 1) := by decide +kernel
theorem dX12_notes_61 : decode cX12_notes 61 = .ok (.iload_n 1, 1) := by decide +kernel
theorem dX12_notes_62 : decode cX12_notes 62 = .ok (.iastore, 1) := by decide +kernel
theorem dX12_notes_63 : decode cX12_notes 63 = .ok (.aload_n 0, 1) := by decide +kernel
theorem dX12_notes_64 : decode cX12_notes 64 = .ok (.getfield 77, 3) := by decide +kernel
theorem dX12_notes_67 : decode cX12_notes 67 = .ok (.iconst 4, 1) := by decide +kernel
theorem dX12_notes_68 : decode cX12_notes 68 = .ok (.aload_n 0, 1) := by decide +kernel
theorem dX12_notes_69 : decode cX12_notes 69 = .ok (.getfield 174, 3) := by decide +kernel
theorem dX12_notes_72 : decode cX12_notes 72 = .ok (.imul, 1) := by decide +kernel
theorem dX12_notes_73 : decode cX12_notes 73 = .ok (.iconst 1, 1) := by decide +kernel
theorem dX12_notes_74 : decode cX12_notes 74 = .ok (.iadd, 1) := by decide +kernel
theorem dX12_notes_75 : decode cX12_notes 75 = .ok (.iload_n 2, 1) := by decide +kernel
theorem dX12_notes_76 : decode cX12_notes 76 = .ok (.iastore, 1) := by decide +kernel
theorem dX12_notes_77 : decode cX12_notes 77 = .ok (.aload_n 0, 1) := by decide +kernel
theorem dX12_notes_78 : decode cX12_notes 78 = .ok (.getfield 77, 3) := by decide +kernel
theorem dX12_notes_81 : decode cX12_notes 81 = .ok (.iconst 4, 1) := by decide +kernel
theorem dX12_notes_82 : decode cX12_notes 82 = .ok (.aload_n 0, 1) := by decide +kernel
theorem dX12_notes_83 : decode cX12_notes 83 = .ok (.getfield 174, 3) := by decide +kernel
theorem dX12_notes_86 : decode cX12_notes 86 = .ok (.imul, 1) := by decide +kernel
theorem dX12_notes_87 : decode cX12_notes 87 = .ok (.iconst 2, 1) := by decide +kernel
theorem dX12_notes_88 : decode cX12_notes 88 = .ok (.iadd, 1) := by decide +kernel
theorem dX12_notes_89 : decode cX12_notes 89 = .ok (.iload_n 3, 1) := by decide +kernel
theorem dX12_notes_90 : decode cX12_notes 90 = .ok (.iastore, 1) := by decide +kernel
theorem dX12_notes_91 : decode cX12_notes 91 = .ok (.aload_n 0, 1) := by decide +kernel
theorem dX12_notes_92 : decode cX12_notes 92 = .ok (.getfield 77, 3) := by decide +kernel
theorem dX12_notes_95 : decode cX12_notes 95 = .ok (.iconst 4, 1) := by decide +kernel
theorem dX12_notes_96 : decode cX12_notes 96 = .ok (.aload_n 0, 1) := by decide +kernel
theorem dX12_notes_97 : decode cX12_notes 97 = .ok (.getfield 174, 3) := by decide +kernel
theorem dX12_notes_100 : decode cX12_notes 100 = .ok (.imul, 1) := by decide +kernel
theorem dX12_notes_101 : decode cX12_notes 101 = .ok (.iconst 3, 1) := by decide +kernel
theorem dX12_notes_102 : decode cX12_notes 102 = .ok (.iadd, 1) := by decide +kernel
theorem dX12_notes_103 : decode cX12_notes 103 = .ok (.iload 4, 2) := by decide +kernel
theorem dX12_notes_105 : decode cX12_notes 105 = .ok (.iastore, 1) := by decide +kernel
theorem dX12_notes_106 : decode cX12_notes 106 = .ok (.aload_n 0, 1) := by decide +kernel
theorem dX12_notes_107 : decode cX12_notes 107 = .ok (.dup, 1) := by decide +kernel
theorem dX12_notes_108 : decode cX12_notes 108 = .ok (.getfield 174, 3) := by decide +kernel
theorem dX12_notes_111 : decode cX12_notes 111 = .ok (.iconst 1, 1) := by decide +kernel
theorem dX12_notes_112 : decode cX12_notes 112 = .ok (.iadd, 1) := by decide +kernel
theorem dX12_notes_113 : decode cX12_notes 113 = .ok (.putfield 174, 3) := by decide +kernel
theorem dX12_notes_116 : decode cX12_notes 116 = .ok (.return_, 1) := by decide +kernel
set_option maxRecDepth 20000 in
theorem ggX12_canCome_X12_isWorker : GoodIn wsX12_canCome wsX12_isWorker := goodIn_r _ [6, 7, 8, 5, 9] (by decide +kernel) (by decide +kernel)
set_option maxRecDepth 20000 in
theorem gX12_canCome_X12_isWorker : GoodIn wsX12_canCome (wsV RX12 196 RX12 yX12_isWorker wsX12_isWorker) := goodIn_app (goodIn_of _ (by decide +kernel)) ggX12_canCome_X12_isWorker
set_option maxRecDepth 20000 in
theorem ggX12_canCome_X12_within : GoodIn wsX12_canCome wsX12_within := goodIn_r _ [9] (by decide +kernel) (by decide +kernel)
set_option maxRecDepth 20000 in
theorem gX12_canCome_X12_within : GoodIn wsX12_canCome (va_wsS RX12 34 yX12_within wsX12_within) := goodIn_app (goodIn_of _ (by decide +kernel)) ggX12_canCome_X12_within
set_option maxRecDepth 20000 in
theorem ggX12_canCome_X12_placeOf : GoodIn wsX12_canCome wsX12_placeOf := goodIn_r _ [13, 1, 14, 15, 16, 17, 18, 19, 20, 21, 22, 23, 24, 25, 26, 27, 28, 29, 30, 31, 32, 33, 34, 35, 36, 37, 38, 39, 40, 41, 42, 43, 44, 45, 46, 47, 48, 49, 50, 51, 52] (by decide +kernel) (by decide +kernel)
set_option maxRecDepth 20000 in
theorem gX12_canCome_X12_placeOf : GoodIn wsX12_canCome (wsV RX12 199 RX12 yX12_placeOf wsX12_placeOf) := goodIn_app (goodIn_of _ (by decide +kernel)) ggX12_canCome_X12_placeOf
theorem dX12_canCome_0 : decode cX12_canCome 0 = .ok (.aload_n 0, 1) := by decide +kernel
theorem dX12_canCome_1 : decode cX12_canCome 1 = .ok (.iload_n 1, 1) := by decide +kernel
theorem dX12_canCome_2 : decode cX12_canCome 2 = .ok (.invokevirtual 196, 3) := by decide +kernel
theorem dX12_canCome_5 : decode cX12_canCome 5 = .ok (.ifCond .eq 42, 3) := by decide +kernel
theorem dX12_canCome_8 : decode cX12_canCome 8 = .ok (.iload_n 2, 1) := by decide +kernel
theorem dX12_canCome_9 : decode cX12_canCome 9 = .ok (.iconst 0, 1) := by decide +kernel
theorem dX12_canCome_10 : decode cX12_canCome 10 = .ok (.iconst 2, 1) := by decide +kernel
theorem dX12_canCome_11 : decode cX12_canCome 11 = .ok (.invokestatic 34, 3) := by decide +kernel
theorem dX12_canCome_14 : decode cX12_canCome 14 = .ok (.ifCond .eq 33, 3) := by decide +kernel
theorem dX12_canCome_17 : decode cX12_canCome 17 = .ok (.iload_n 3, 1) := by decide +kernel
theorem dX12_canCome_18 : decode cX12_canCome 18 = .ok (.iconst (-1), 1) := by decide +kernel
theorem dX12_canCome_19 : decode cX12_canCome 19 = .ok (.if_icmp .eq 28, 3) := by decide +kernel
theorem dX12_canCome_22 : decode cX12_canCome 22 = .ok (.aload_n 0, 1) := by decide +kernel
theorem dX12_canCome_23 : decode cX12_canCome 23 = .ok (.getfield 68, 3) := by decide +kernel
theorem dX12_canCome_26 : decode cX12_canCome 26 = .ok (.iload_n 1, 1) := by decide +kernel
theorem dX12_canCome_27 : decode cX12_canCome 27 = .ok (.iaload, 1) := by decide +kernel
theorem dX12_canCome_28 : decode cX12_canCome 28 = .ok (.bipush 60, 2) := by decide +kernel
theorem dX12_canCome_30 : decode cX12_canCome 30 = .ok (.if_icmp .ge 17, 3) := by decide +kernel
theorem dX12_canCome_33 : decode cX12_canCome 33 = .ok (.aload_n 0, 1) := by decide +kernel
theorem dX12_canCome_34 : decode cX12_canCome 34 = .ok (.iload_n 1, 1) := by decide +kernel
theorem dX12_canCome_35 : decode cX12_canCome 35 = .ok (.iload_n 3, 1) := by decide +kernel
theorem dX12_canCome_36 : decode cX12_canCome 36 = .ok (.invokevirtual 199, 3) := by decide +kernel
theorem dX12_canCome_39 : decode cX12_canCome 39 = .ok (.iconst (-1), 1) := by decide +kernel
theorem dX12_canCome_40 : decode cX12_canCome 40 = .ok (.if_icmp .ne 7, 3) := by decide +kernel
theorem dX12_canCome_43 : decode cX12_canCome 43 = .ok (.iconst 1, 1) := by decide +kernel
theorem dX12_canCome_44 : decode cX12_canCome 44 = .ok (.goto 4, 3) := by decide +kernel
theorem dX12_canCome_47 : decode cX12_canCome 47 = .ok (.iconst 0, 1) := by decide +kernel
theorem dX12_canCome_48 : decode cX12_canCome 48 = .ok (.ireturn, 1) := by decide +kernel
set_option maxRecDepth 20000 in
theorem ggX12_punch_X12_momentOf : GoodIn wsX12_punch wsX12_momentOf := goodIn_r _ [7, 8, 9, 10, 6, 11, 12, 13, 14, 15, 40, 41, 42, 43, 44, 45, 46, 47, 48, 49, 50, 51, 52, 53, 54, 55, 56, 57, 58, 59, 60, 61, 62, 63, 64, 65, 66, 67, 68, 69, 70, 71, 72, 73, 74, 75, 76, 77] (by decide +kernel) (by decide +kernel)
set_option maxRecDepth 20000 in
theorem gX12_punch_X12_momentOf : GoodIn wsX12_punch (wsV RX12 188 RX12 yX12_momentOf wsX12_momentOf) := goodIn_app (goodIn_of _ (by decide +kernel)) ggX12_punch_X12_momentOf
set_option maxRecDepth 20000 in
theorem ggX12_punch_X12_canCome : GoodIn wsX12_punch wsX12_canCome := goodIn_r _ [19, 2, 20, 21, 22, 6, 23, 9, 10, 11, 24, 25, 26, 27, 28, 40, 41, 42, 43, 44, 45, 46, 47, 48, 49, 50, 51, 52, 53, 54, 55, 56, 57, 58, 59, 60, 61, 62, 63, 64, 65, 66, 67, 68, 69, 70, 71, 72, 73, 74, 75, 76, 77] (by decide +kernel) (by decide +kernel)
set_option maxRecDepth 20000 in
theorem gX12_punch_X12_canCome : GoodIn wsX12_punch (wsV RX12 202 RX12 yX12_canCome wsX12_canCome) := goodIn_app (goodIn_of _ (by decide +kernel)) ggX12_punch_X12_canCome
set_option maxRecDepth 20000 in
theorem ggX12_punch_X12_comes : GoodIn wsX12_punch wsX12_comes := goodIn_r _ [32, 2, 28, 33, 40, 41, 42, 43, 44, 45, 46, 47, 48, 49, 50, 51, 52, 53, 54, 55, 56, 57, 58, 59, 60, 61, 62, 63, 64, 65, 66, 67, 68, 69, 70, 71, 72, 73, 74, 75, 76, 77] (by decide +kernel) (by decide +kernel)
set_option maxRecDepth 20000 in
theorem gX12_punch_X12_comes : GoodIn wsX12_punch (wsV RX12 205 RX12 yX12_comes wsX12_comes) := goodIn_app (goodIn_of _ (by decide +kernel)) ggX12_punch_X12_comes
set_option maxRecDepth 20000 in
theorem ggX12_punch_X12_notes : GoodIn wsX12_punch wsX12_notes := goodIn_r _ [37, 38, 39, 40, 41, 42, 43, 44, 45, 46, 47, 48, 49, 50, 51, 52, 53, 54, 55, 56, 57, 58, 59, 60, 61, 62, 63, 64, 65, 66, 67, 68, 69, 70, 71, 72, 73, 74, 75, 76, 77] (by decide +kernel) (by decide +kernel)
set_option maxRecDepth 20000 in
theorem gX12_punch_X12_notes : GoodIn wsX12_punch (wsV RX12 209 RX12 yX12_notes wsX12_notes) := goodIn_app (goodIn_of _ (by decide +kernel)) ggX12_punch_X12_notes
theorem dX12_punch_0 : decode cX12_punch 0 = .ok (.aload_n 0, 1) := by decide +kernel
theorem dX12_punch_1 : decode cX12_punch 1 = .ok (.iconst 0, 1) := by decide +kernel
theorem dX12_punch_2 : decode cX12_punch 2 = .ok (.putfield 1, 3) := by decide +kernel
theorem dX12_punch_5 : decode cX12_punch 5 = .ok (.aload_n 0, 1) := by decide +kernel
theorem dX12_punch_6 : decode cX12_punch 6 = .ok (.iload_n 3, 1) := by decide +kernel
theorem dX12_punch_7 : decode cX12_punch 7 = .ok (.iload 4, 2) := by decide +kernel
theorem dX12_punch_9 : decode cX12_punch 9 = .ok (.iload 5, 2) := by decide +kernel
theorem dX12_punch_11 : decode cX12_punch 11 = .ok (.invokevirtual 188, 3) := by decide +kernel
theorem dX12_punch_14 : decode cX12_punch 14 = .ok (.istore 6, 2) := by decide +kernel
theorem dX12_punch_16 : decode cX12_punch 16 = .ok (.aload_n 0, 1) := by decide +kernel
theorem dX12_punch_17 : decode cX12_punch 17 = .ok (.iload_n 1, 1) := by decide +kernel
theorem dX12_punch_18 : decode cX12_punch 18 = .ok (.iload_n 2, 1) := by decide +kernel
theorem dX12_punch_19 : decode cX12_punch 19 = .ok (.iload 6, 2) := by decide +kernel
theorem dX12_punch_21 : decode cX12_punch 21 = .ok (.invokevirtual 202, 3) := by decide +kernel
theorem dX12_punch_24 : decode cX12_punch 24 = .ok (.ifCond .ne 5, 3) := by decide +kernel
theorem dX12_punch_27 : decode cX12_punch 27 = .ok (.iconst (-1), 1) := by decide +kernel
theorem dX12_punch_28 : decode cX12_punch 28 = .ok (.ireturn, 1) := by decide +kernel
theorem dX12_punch_29 : decode cX12_punch 29 = .ok (.aload_n 0, 1) := by decide +kernel
theorem dX12_punch_30 : decode cX12_punch 30 = .ok (.iload_n 1, 1) := by decide +kernel
theorem dX12_punch_31 : decode cX12_punch 31 = .ok (.iload 6, 2) := by decide +kernel
theorem dX12_punch_33 : decode cX12_punch 33 = .ok (.iload_n 2, 1) := by decide +kernel
theorem dX12_punch_34 : decode cX12_punch 34 = .ok (.invokevirtual 205, 3) := by decide +kernel
theorem dX12_punch_37 : decode cX12_punch 37 = .ok (.aload_n 0, 1) := by decide +kernel
theorem dX12_punch_38 : decode cX12_punch 38 = .ok (.iconst 0, 1) := by decide +kernel
theorem dX12_punch_39 : decode cX12_punch 39 = .ok (.iload_n 1, 1) := by decide +kernel
theorem dX12_punch_40 : decode cX12_punch 40 = .ok (.iload 6, 2) := by decide +kernel
theorem dX12_punch_42 : decode cX12_punch 42 = .ok (.iload_n 2, 1) := by decide +kernel
theorem dX12_punch_43 : decode cX12_punch 43 = .ok (.invokevirtual 209, 3) := by decide +kernel
theorem dX12_punch_46 : decode cX12_punch 46 = .ok (.aload_n 0, 1) := by decide +kernel
theorem dX12_punch_47 : decode cX12_punch 47 = .ok (.getfield 68, 3) := by decide +kernel
theorem dX12_punch_50 : decode cX12_punch 50 = .ok (.iload_n 1, 1) := by decide +kernel
theorem dX12_punch_51 : decode cX12_punch 51 = .ok (.iaload, 1) := by decide +kernel
theorem dX12_punch_52 : decode cX12_punch 52 = .ok (.ireturn, 1) := by decide +kernel
set_option maxRecDepth 20000 in
theorem ggX12_strike_X12_momentOf : GoodIn wsX12_strike wsX12_momentOf := goodIn_r _ [8, 9, 10, 11, 7, 12, 13, 14, 15, 16, 36, 37, 38, 39, 40, 41, 42, 43, 44, 45, 46, 47, 48, 49, 50, 51, 52, 53, 54, 55, 56, 57, 58, 59, 60, 61, 62, 63, 64, 65, 66, 67, 68, 69, 70, 71, 72, 73] (by decide +kernel) (by decide +kernel)
set_option maxRecDepth 20000 in
theorem gX12_strike_X12_momentOf : GoodIn wsX12_strike (wsV RX12 188 RX12 yX12_momentOf wsX12_momentOf) := goodIn_app (goodIn_of _ (by decide +kernel)) ggX12_strike_X12_momentOf
set_option maxRecDepth 20000 in
theorem ggX12_strike_X12_isWorker : GoodIn wsX12_strike wsX12_isWorker := goodIn_r _ [20, 10, 11, 7, 12] (by decide +kernel) (by decide +kernel)
set_option maxRecDepth 20000 in
theorem gX12_strike_X12_isWorker : GoodIn wsX12_strike (wsV RX12 196 RX12 yX12_isWorker wsX12_isWorker) := goodIn_app (goodIn_of _ (by decide +kernel)) ggX12_strike_X12_isWorker
set_option maxRecDepth 20000 in
theorem ggX12_strike_X12_placeOf : GoodIn wsX12_strike wsX12_placeOf := goodIn_r _ [24, 3, 25, 36, 37, 38, 39, 40, 41, 42, 43, 44, 45, 46, 47, 48, 49, 50, 51, 52, 53, 54, 55, 56, 57, 58, 59, 60, 61, 62, 63, 64, 65, 66, 67, 68, 69, 70, 71, 72, 73] (by decide +kernel) (by decide +kernel)
set_option maxRecDepth 20000 in
theorem gX12_strike_X12_placeOf : GoodIn wsX12_strike (wsV RX12 199 RX12 yX12_placeOf wsX12_placeOf) := goodIn_app (goodIn_of _ (by decide +kernel)) ggX12_strike_X12_placeOf
set_option maxRecDepth 20000 in
theorem ggX12_strike_X12_notes : GoodIn wsX12_strike wsX12_notes := goodIn_r _ [29, 30, 31, 36, 37, 38, 39, 40, 41, 42, 43, 44, 45, 46, 47, 48, 49, 50, 51, 52, 53, 54, 55, 56, 57, 58, 59, 60, 61, 62, 63, 64, 65, 66, 67, 68, 69, 70, 71, 72, 73] (by decide +kernel) (by decide +kernel)
set_option maxRecDepth 20000 in
theorem gX12_strike_X12_notes : GoodIn wsX12_strike (wsV RX12 209 RX12 yX12_notes wsX12_notes) := goodIn_app (goodIn_of _ (by decide +kernel)) ggX12_strike_X12_notes
set_option maxRecDepth 20000 in
theorem ggX12_strike_X12_leaves : GoodIn wsX12_strike wsX12_leaves := goodIn_r _ [35, 3, 25, 2, 36, 37, 38, 39, 40, 41, 42, 43, 44, 45, 46, 47, 48, 49, 50, 51, 52, 53, 54, 55, 56, 57, 58, 59, 60, 61, 62, 63, 64, 65, 66, 67, 68, 69, 70, 71, 72, 73] (by decide +kernel) (by decide +kernel)
set_option maxRecDepth 20000 in
theorem gX12_strike_X12_leaves : GoodIn wsX12_strike (wsV RX12 213 RX12 yX12_leaves wsX12_leaves) := goodIn_app (goodIn_of _ (by decide +kernel)) ggX12_strike_X12_leaves
theorem dX12_strike_0 : decode cX12_strike 0 = .ok (.aload_n 0, 1) := by decide +kernel
theorem dX12_strike_1 : decode cX12_strike 1 = .ok (.iconst 0, 1) := by decide +kernel
theorem dX12_strike_2 : decode cX12_strike 2 = .ok (.putfield 1, 3) := by decide +kernel
theorem dX12_strike_5 : decode cX12_strike 5 = .ok (.aload_n 0, 1) := by decide +kernel
theorem dX12_strike_6 : decode cX12_strike 6 = .ok (.iload_n 2, 1) := by decide +kernel
theorem dX12_strike_7 : decode cX12_strike 7 = .ok (.iload_n 3, 1) := by decide +kernel
theorem dX12_strike_8 : decode cX12_strike 8 = .ok (.iload 4, 2) := by decide +kernel
theorem dX12_strike_10 : decode cX12_strike 10 = .ok (.invokevirtual 188, 3) := by decide +kernel
theorem dX12_strike_13 : decode cX12_strike 13 = .ok (.istore 5, 2) := by decide +kernel
theorem dX12_strike_15 : decode cX12_strike 15 = .ok (.aload_n 0, 1) := by decide +kernel
theorem dX12_strike_16 : decode cX12_strike 16 = .ok (.iload_n 1, 1) := by decide +kernel
theorem dX12_strike_17 : decode cX12_strike 17 = .ok (.invokevirtual 196, 3) := by decide +kernel
theorem dX12_strike_20 : decode cX12_strike 20 = .ok (.ifCond .eq 20, 3) := by decide +kernel
theorem dX12_strike_23 : decode cX12_strike 23 = .ok (.iload 5, 2) := by decide +kernel
theorem dX12_strike_25 : decode cX12_strike 25 = .ok (.iconst (-1), 1) := by decide +kernel
theorem dX12_strike_26 : decode cX12_strike 26 = .ok (.if_icmp .eq 14, 3) := by decide +kernel
theorem dX12_strike_29 : decode cX12_strike 29 = .ok (.aload_n 0, 1) := by decide +kernel
theorem dX12_strike_30 : decode cX12_strike 30 = .ok (.iload_n 1, 1) := by decide +kernel
theorem dX12_strike_31 : decode cX12_strike 31 = .ok (.iload 5, 2) := by decide +kernel
theorem dX12_strike_33 : decode cX12_strike 33 = .ok (.invokevirtual 199, 3) := by decide +kernel
theorem dX12_strike_36 : decode cX12_strike 36 = .ok (.iconst (-1), 1) := by decide +kernel
theorem dX12_strike_37 : decode cX12_strike 37 = .ok (.if_icmp .ne 5, 3) := by decide +kernel
theorem dX12_strike_40 : decode cX12_strike 40 = .ok (.iconst (-1), 1) := by decide +kernel
theorem dX12_strike_41 : decode cX12_strike 41 = .ok (.ireturn, 1) := by decide +kernel
theorem dX12_strike_42 : decode cX12_strike 42 = .ok (.aload_n 0, 1) := by decide +kernel
theorem dX12_strike_43 : decode cX12_strike 43 = .ok (.iconst 1, 1) := by decide +kernel
theorem dX12_strike_44 : decode cX12_strike 44 = .ok (.iload_n 1, 1) := by decide +kernel
theorem dX12_strike_45 : decode cX12_strike 45 = .ok (.iload 5, 2) := by decide +kernel
theorem dX12_strike_47 : decode cX12_strike 47 = .ok (.aload_n 0, 1) := by decide +kernel
theorem dX12_strike_48 : decode cX12_strike 48 = .ok (.getfield 74, 3) := by decide +kernel
theorem dX12_strike_51 : decode cX12_strike 51 = .ok (.bipush 61, 2) := by decide +kernel
theorem dX12_strike_53 : decode cX12_strike 53 = .ok (.iload_n 1, 1) := by decide +kernel
theorem dX12_strike_54 : decode cX12_strike 54 = .ok (.imul, 1) := by decide +kernel
theorem dX12_strike_55 : decode cX12_strike 55 = .ok (.aload_n 0, 1) := by decide +kernel
theorem dX12_strike_56 : decode cX12_strike 56 = .ok (.iload_n 1, 1) := by decide +kernel
theorem dX12_strike_57 : decode cX12_strike 57 = .ok (.iload 5, 2) := by decide +kernel
theorem dX12_strike_59 : decode cX12_strike 59 = .ok (.invokevirtual 199, 3) := by decide +kernel
theorem dX12_strike_62 : decode cX12_strike 62 = .ok (.iadd, 1) := by decide +kernel
theorem dX12_strike_63 : decode cX12_strike 63 = .ok (.iaload, 1) := by decide +kernel
theorem dX12_strike_64 : decode cX12_strike 64 = .ok (.invokevirtual 209, 3) := by decide +kernel
theorem dX12_strike_67 : decode cX12_strike 67 = .ok (.aload_n 0, 1) := by decide +kernel
theorem dX12_strike_68 : decode cX12_strike 68 = .ok (.iload_n 1, 1) := by decide +kernel
theorem dX12_strike_69 : decode cX12_strike 69 = .ok (.iload 5, 2) := by decide +kernel
theorem dX12_strike_71 : decode cX12_strike 71 = .ok (.invokevirtual 213, 3) := by decide +kernel
theorem dX12_strike_74 : decode cX12_strike 74 = .ok (.aload_n 0, 1) := by decide +kernel
theorem dX12_strike_75 : decode cX12_strike 75 = .ok (.getfield 68, 3) := by decide +kernel
theorem dX12_strike_78 : decode cX12_strike 78 = .ok (.iload_n 1, 1) := by decide +kernel
theorem dX12_strike_79 : decode cX12_strike 79 = .ok (.iaload, 1) := by decide +kernel
theorem dX12_strike_80 : decode cX12_strike 80 = .ok (.ireturn, 1) := by decide +kernel
set_option maxRecDepth 20000 in
theorem ggX12_undo_X12_leaves : GoodIn wsX12_undo wsX12_leaves := goodIn_r _ [8, 9, 10, 11, 16, 17, 18, 19, 20, 21, 22, 23, 24, 25, 26, 27, 28, 29, 30, 31, 32, 33, 34, 35, 36, 37, 38, 39, 40, 41, 42, 43, 44, 45, 46, 47, 48, 49, 50, 51, 52, 53] (by decide +kernel) (by decide +kernel)
set_option maxRecDepth 20000 in
theorem gX12_undo_X12_leaves : GoodIn wsX12_undo (wsV RX12 213 RX12 yX12_leaves wsX12_leaves) := goodIn_app (goodIn_of _ (by decide +kernel)) ggX12_undo_X12_leaves
set_option maxRecDepth 20000 in
theorem ggX12_undo_X12_comes : GoodIn wsX12_undo wsX12_comes := goodIn_r _ [15, 9, 10, 11, 16, 17, 18, 19, 20, 21, 22, 23, 24, 25, 26, 27, 28, 29, 30, 31, 32, 33, 34, 35, 36, 37, 38, 39, 40, 41, 42, 43, 44, 45, 46, 47, 48, 49, 50, 51, 52, 53] (by decide +kernel) (by decide +kernel)
set_option maxRecDepth 20000 in
theorem gX12_undo_X12_comes : GoodIn wsX12_undo (wsV RX12 205 RX12 yX12_comes wsX12_comes) := goodIn_app (goodIn_of _ (by decide +kernel)) ggX12_undo_X12_comes
theorem dX12_undo_0 : decode cX12_undo 0 = .ok (.aload_n 0, 1) := by decide +kernel
theorem dX12_undo_1 : decode cX12_undo 1 = .ok (.iconst 0, 1) := by decide +kernel
theorem dX12_undo_2 : decode cX12_undo 2 = .ok (.putfield 1, 3) := by decide +kernel
theorem dX12_undo_5 : decode cX12_undo 5 = .ok (.aload_n 0, 1) := by decide +kernel
theorem dX12_undo_6 : decode cX12_undo 6 = .ok (.getfield 174, 3) := by decide +kernel
theorem dX12_undo_9 : decode cX12_undo 9 = .ok (.ifCond .ne 5, 3) := by decide +kernel
theorem dX12_undo_12 : decode cX12_undo 12 = .ok (.iconst (-1), 1) := by decide +kernel
theorem dX12_undo_13 : decode cX12_undo 13 = .ok (.ireturn, 1) := by decide +kernel
theorem dX12_undo_14 : decode cX12_undo 14 = .ok (.aload_n 0, 1) := by decide +kernel
theorem dX12_undo_15 : decode cX12_undo 15 = .ok (.dup, 1) := by decide +kernel
theorem dX12_undo_16 : decode cX12_undo 16 = .ok (.getfield 174, 3) := by decide +kernel
theorem dX12_undo_19 : decode cX12_undo 19 = .ok (.iconst 1, 1) := by decide +kernel
theorem dX12_undo_20 : decode cX12_undo 20 = .ok (.isub, 1) := by decide +kernel
theorem dX12_undo_21 : decode cX12_undo 21 = .ok (.putfield 174, 3) := by decide +kernel
theorem dX12_undo_24 : decode cX12_undo 24 = .ok (.iconst 4, 1) := by decide +kernel
theorem dX12_undo_25 : decode cX12_undo 25 = .ok (.aload_n 0, 1) := by decide +kernel
theorem dX12_undo_26 : decode cX12_undo 26 = .ok (.getfield 174, 3) := by decide +kernel
theorem dX12_undo_29 : decode cX12_undo 29 = .ok (.imul, 1) := by decide +kernel
theorem dX12_undo_30 : decode cX12_undo 30 = .ok (.istore_n 1, 1) := by decide +kernel
theorem dX12_undo_31 : decode cX12_undo 31 = .ok (.aload_n 0, 1) := by decide +kernel
theorem dX12_undo_32 : decode cX12_undo 32 = .ok (.getfield 77, 3) := by decide +kernel
theorem dX12_undo_35 : decode cX12_undo 35 = .ok (.iload_n 1, 1) := by decide +kernel
theorem dX12_undo_36 : decode cX12_undo 36 = .ok (.iaload, 1) := by decide +kernel
theorem dX12_undo_37 : decode cX12_undo 37 = .ok (.ifCond .ne 26, 3) := by decide +kernel
theorem dX12_undo_40 : decode cX12_undo 40 = .ok (.aload_n 0, 1) := by decide +kernel
theorem dX12_undo_41 : decode cX12_undo 41 = .ok (.aload_n 0, 1) := by decide +kernel
theorem dX12_undo_42 : decode cX12_undo 42 = .ok (.getfield 77, 3) := by decide +kernel
theorem dX12_undo_45 : decode cX12_undo 45 = .ok (.iload_n 1, 1) := by decide +kernel
theorem dX12_undo_46 : decode cX12_undo 46 = .ok (.iconst 1, 1) := by decide +kernel
theorem dX12_undo_47 : decode cX12_undo 47 = .ok (.iadd, 1) := by decide +kernel
theorem dX12_undo_48 : decode cX12_undo 48 = .ok (.iaload, 1) := by decide +kernel
theorem dX12_undo_49 : decode cX12_undo 49 = .ok (.aload_n 0, 1) := by decide +kernel
theorem dX12_undo_50 : decode cX12_undo 50 = .ok (.getfield 77, 3) := by decide +kernel
theorem dX12_undo_53 : decode cX12_undo 53 = .ok (.iload_n 1, 1) := by decide +kernel
theorem dX12_undo_54 : decode cX12_undo 54 = .ok (.iconst 2, 1) := by decide +kernel
theorem dX12_undo_55 : decode cX12_undo 55 = .ok (.iadd, 1) := by decide +kernel
theorem dX12_undo_56 : decode cX12_undo 56 = .ok (.iaload, 1) := by decide +kernel
theorem dX12_undo_57 : decode cX12_undo 57 = .ok (.invokevirtual 213, 3) := by decide +kernel
theorem dX12_undo_60 : decode cX12_undo 60 = .ok (.goto 31, 3) := by decide +kernel
theorem dX12_undo_63 : decode cX12_undo 63 = .ok (.aload_n 0, 1) := by decide +kernel
theorem dX12_undo_64 : decode cX12_undo 64 = .ok (.aload_n 0, 1) := by decide +kernel
theorem dX12_undo_65 : decode cX12_undo 65 = .ok (.getfield 77, 3) := by decide +kernel
theorem dX12_undo_68 : decode cX12_undo 68 = .ok (.iload_n 1, 1) := by decide +kernel
theorem dX12_undo_69 : decode cX12_undo 69 = .ok (.iconst 1, 1) := by decide +kernel
theorem dX12_undo_70 : decode cX12_undo 70 = .ok (.iadd, 1) := by decide +kernel
theorem dX12_undo_71 : decode cX12_undo 71 = .ok (.iaload, 1) := by decide +kernel
theorem dX12_undo_72 : decode cX12_undo 72 = .ok (.aload_n 0, 1) := by decide +kernel
theorem dX12_undo_73 : decode cX12_undo 73 = .ok (.getfield 77, 3) := by decide +kernel
theorem dX12_undo_76 : decode cX12_undo 76 = .ok (.iload_n 1, 1) := by decide +kernel
theorem dX12_undo_77 : decode cX12_undo 77 = .ok (.iconst 2, 1) := by decide +kernel
theorem dX12_undo_78 : decode cX12_undo 78 = .ok (.iadd, 1) := by decide +kernel
theorem dX12_undo_79 : decode cX12_undo 79 = .ok (.iaload, 1) := by decide +kernel
theorem dX12_undo_80 : decode cX12_undo 80 = .ok (.aload_n 0, 1) := by decide +kernel
theorem dX12_undo_81 : decode cX12_undo 81 = .ok (.getfield 77, 3) := by decide +kernel
theorem dX12_undo_84 : decode cX12_undo 84 = .ok (.iload_n 1, 1) := by decide +kernel
theorem dX12_undo_85 : decode cX12_undo 85 = .ok (.iconst 3, 1) := by decide +kernel
theorem dX12_undo_86 : decode cX12_undo 86 = .ok (.iadd, 1) := by decide +kernel
theorem dX12_undo_87 : decode cX12_undo 87 = .ok (.iaload, 1) := by decide +kernel
theorem dX12_undo_88 : decode cX12_undo 88 = .ok (.invokevirtual 205, 3) := by decide +kernel
theorem dX12_undo_91 : decode cX12_undo 91 = .ok (.aload_n 0, 1) := by decide +kernel
theorem dX12_undo_92 : decode cX12_undo 92 = .ok (.getfield 174, 3) := by decide +kernel
theorem dX12_undo_95 : decode cX12_undo 95 = .ok (.ireturn, 1) := by decide +kernel
theorem dX12_quarterAt_0 : decode cX12_quarterAt 0 = .ok (.iload_n 1, 1) := by decide +kernel
theorem dX12_quarterAt_1 : decode cX12_quarterAt 1 = .ok (.bipush 15, 2) := by decide +kernel
theorem dX12_quarterAt_3 : decode cX12_quarterAt 3 = .ok (.idiv, 1) := by decide +kernel
theorem dX12_quarterAt_4 : decode cX12_quarterAt 4 = .ok (.iload_n 1, 1) := by decide +kernel
theorem dX12_quarterAt_5 : decode cX12_quarterAt 5 = .ok (.bipush 15, 2) := by decide +kernel
theorem dX12_quarterAt_7 : decode cX12_quarterAt 7 = .ok (.irem, 1) := by decide +kernel
theorem dX12_quarterAt_8 : decode cX12_quarterAt 8 = .ok (.aload_n 0, 1) := by decide +kernel
theorem dX12_quarterAt_9 : decode cX12_quarterAt 9 = .ok (.getfield 61, 3) := by decide +kernel
theorem dX12_quarterAt_12 : decode cX12_quarterAt 12 = .ok (.iconst 0, 1) := by decide +kernel
theorem dX12_quarterAt_13 : decode cX12_quarterAt 13 = .ok (.iaload, 1) := by decide +kernel
theorem dX12_quarterAt_14 : decode cX12_quarterAt 14 = .ok (.if_icmp .gt 7, 3) := by decide +kernel
theorem dX12_quarterAt_17 : decode cX12_quarterAt 17 = .ok (.iconst 0, 1) := by decide +kernel
theorem dX12_quarterAt_18 : decode cX12_quarterAt 18 = .ok (.goto 4, 3) := by decide +kernel
theorem dX12_quarterAt_21 : decode cX12_quarterAt 21 = .ok (.iconst 1, 1) := by decide +kernel
theorem dX12_quarterAt_22 : decode cX12_quarterAt 22 = .ok (.iadd, 1) := by decide +kernel
theorem dX12_quarterAt_23 : decode cX12_quarterAt 23 = .ok (.ireturn, 1) := by decide +kernel
set_option maxRecDepth 20000 in
theorem ggX12_laysPairs_X12_quarterAt : GoodIn wsX12_laysPairs wsX12_quarterAt := goodIn_r _ [13, 6, 14, 15, 16, 17, 18, 19, 20, 21, 22, 23, 24, 25, 26, 27, 28, 29, 30, 31, 32, 33, 34, 35, 36, 37, 38, 39, 40, 41, 42, 43, 44, 45, 46, 47, 48, 49, 50, 51] (by decide +kernel) (by decide +kernel)
set_option maxRecDepth 20000 in
theorem gX12_laysPairs_X12_quarterAt : GoodIn wsX12_laysPairs (wsV RX12 220 RX12 yX12_quarterAt wsX12_quarterAt) := goodIn_app (goodIn_of _ (by decide +kernel)) ggX12_laysPairs_X12_quarterAt
theorem dX12_laysPairs_0 : decode cX12_laysPairs 0 = .ok (.aload_n 0, 1) := by decide +kernel
theorem dX12_laysPairs_1 : decode cX12_laysPairs 1 = .ok (.iconst 0, 1) := by decide +kernel
theorem dX12_laysPairs_2 : decode cX12_laysPairs 2 = .ok (.putfield 217, 3) := by decide +kernel
theorem dX12_laysPairs_5 : decode cX12_laysPairs 5 = .ok (.iconst (-1), 1) := by decide +kernel
theorem dX12_laysPairs_6 : decode cX12_laysPairs 6 = .ok (.istore_n 2, 1) := by decide +kernel
theorem dX12_laysPairs_7 : decode cX12_laysPairs 7 = .ok (.iconst 0, 1) := by decide +kernel
theorem dX12_laysPairs_8 : decode cX12_laysPairs 8 = .ok (.istore_n 3, 1) := by decide +kernel
theorem dX12_laysPairs_9 : decode cX12_laysPairs 9 = .ok (.iload_n 3, 1) := by decide +kernel
theorem dX12_laysPairs_10 : decode cX12_laysPairs 10 = .ok (.aload_n 0, 1) := by decide +kernel
theorem dX12_laysPairs_11 : decode cX12_laysPairs 11 = .ok (.getfield 68, 3) := by decide +kernel
theorem dX12_laysPairs_14 : decode cX12_laysPairs 14 = .ok (.iload_n 1, 1) := by decide +kernel
theorem dX12_laysPairs_15 : decode cX12_laysPairs 15 = .ok (.iaload, 1) := by decide +kernel
theorem dX12_laysPairs_16 : decode cX12_laysPairs 16 = .ok (.if_icmp .ge 183, 3) := by decide +kernel
theorem dX12_laysPairs_19 : decode cX12_laysPairs 19 = .ok (.aload_n 0, 1) := by decide +kernel
theorem dX12_laysPairs_20 : decode cX12_laysPairs 20 = .ok (.getfield 74, 3) := by decide +kernel
theorem dX12_laysPairs_23 : decode cX12_laysPairs 23 = .ok (.bipush 61, 2) := by decide +kernel
theorem dX12_laysPairs_25 : decode cX12_laysPairs 25 = .ok (.iload_n 1, 1) := by decide +kernel
theorem dX12_laysPairs_26 : decode cX12_laysPairs 26 = .ok (.imul, 1) := by decide +kernel
theorem dX12_laysPairs_27 : decode cX12_laysPairs 27 = .ok (.iload_n 3, 1) := by decide +kernel
theorem dX12_laysPairs_28 : decode cX12_laysPairs 28 = .ok (.iadd, 1) := by decide +kernel
theorem dX12_laysPairs_29 : decode cX12_laysPairs 29 = .ok (.iaload, 1) := by decide +kernel
theorem dX12_laysPairs_30 : decode cX12_laysPairs 30 = .ok (.istore 4, 2) := by decide +kernel
theorem dX12_laysPairs_32 : decode cX12_laysPairs 32 = .ok (.aload_n 0, 1) := by decide +kernel
theorem dX12_laysPairs_33 : decode cX12_laysPairs 33 = .ok (.getfield 80, 3) := by decide +kernel
theorem dX12_laysPairs_36 : decode cX12_laysPairs 36 = .ok (.iload_n 3, 1) := by decide +kernel
theorem dX12_laysPairs_37 : decode cX12_laysPairs 37 = .ok (.iconst 2, 1) := by decide +kernel
theorem dX12_laysPairs_38 : decode cX12_laysPairs 38 = .ok (.iastore, 1) := by decide +kernel
theorem dX12_laysPairs_39 : decode cX12_laysPairs 39 = .ok (.iload_n 2, 1) := by decide +kernel
theorem dX12_laysPairs_40 : decode cX12_laysPairs 40 = .ok (.iconst (-1), 1) := by decide +kernel
theorem dX12_laysPairs_41 : decode cX12_laysPairs 41 = .ok (.if_icmp .ne 18, 3) := by decide +kernel
theorem dX12_laysPairs_44 : decode cX12_laysPairs 44 = .ok (.iload 4, 2) := by decide +kernel
theorem dX12_laysPairs_46 : decode cX12_laysPairs 46 = .ok (.iconst 1, 1) := by decide +kernel
theorem dX12_laysPairs_47 : decode cX12_laysPairs 47 = .ok (.if_icmp .ne 7, 3) := by decide +kernel
theorem dX12_laysPairs_50 : decode cX12_laysPairs 50 = .ok (.iconst (-1), 1) := by decide +kernel
theorem dX12_laysPairs_51 : decode cX12_laysPairs 51 = .ok (.goto 4, 3) := by decide +kernel
theorem dX12_laysPairs_54 : decode cX12_laysPairs 54 = .ok (.iload_n 3, 1) := by decide +kernel
theorem dX12_laysPairs_55 : decode cX12_laysPairs 55 = .ok (.istore_n 2, 1) := by decide +kernel
theorem dX12_laysPairs_56 : decode cX12_laysPairs 56 = .ok (.goto 137, 3) := by decide +kernel
theorem dX12_laysPairs_59 : decode cX12_laysPairs 59 = .ok (.iload 4, 2) := by decide +kernel
theorem dX12_laysPairs_61 : decode cX12_laysPairs 61 = .ok (.ifCond .ne 8, 3) := by decide +kernel
theorem dX12_laysPairs_64 : decode cX12_laysPairs 64 = .ok (.iload_n 3, 1) := by decide +kernel
theorem dX12_laysPairs_65 : decode cX12_laysPairs 65 = .ok (.istore_n 2, 1) := by decide +kernel
theorem dX12_laysPairs_66 : decode cX12_laysPairs 66 = .ok (.goto 127, 3) := by decide +kernel
theorem dX12_laysPairs_69 : decode cX12_laysPairs 69 = .ok (.aload_n 0, 1) := by decide +kernel
theorem dX12_laysPairs_70 : decode cX12_laysPairs 70 = .ok (.getfield 71, 3) := by decide +kernel
theorem dX12_laysPairs_73 : decode cX12_laysPairs 73 = .ok (.bipush 61, 2) := by decide +kernel
theorem dX12_laysPairs_75 : decode cX12_laysPairs 75 = .ok (.iload_n 1, 1) := by decide +kernel
theorem dX12_laysPairs_76 : decode cX12_laysPairs 76 = .ok (.imul, 1) := by decide +kernel
theorem dX12_laysPairs_77 : decode cX12_laysPairs 77 = .ok (.iload_n 3, 1) := by decide +kernel
theorem dX12_laysPairs_78 : decode cX12_laysPairs 78 = .ok (.iadd, 1) := by decide +kernel
theorem dX12_laysPairs_79 : decode cX12_laysPairs 79 = .ok (.iaload, 1) := by decide +kernel
theorem dX12_laysPairs_80 : decode cX12_laysPairs 80 = .ok (.aload_n 0, 1) := by decide +kernel
theorem dX12_laysPairs_81 : decode cX12_laysPairs 81 = .ok (.getfield 71, 3) := by decide +kernel
theorem dX12_laysPairs_84 : decode cX12_laysPairs 84 = .ok (.bipush 61, 2) := by decide +kernel
theorem dX12_laysPairs_86 : decode cX12_laysPairs 86 = .ok (.iload_n 1, 1) := by decide +kernel
theorem dX12_laysPairs_87 : decode cX12_laysPairs 87 = .ok (.imul, 1) := by decide +kernel
theorem dX12_laysPairs_88 : decode cX12_laysPairs 88 = .ok (.iload_n 2, 1) := by decide +kernel
theorem dX12_laysPairs_89 : decode cX12_laysPairs 89 = .ok (.iadd, 1) := by decide +kernel
theorem dX12_laysPairs_90 : decode cX12_laysPairs 90 = .ok (.iaload, 1) := by decide +kernel
theorem dX12_laysPairs_91 : decode cX12_laysPairs 91 = .ok (.isub, 1) := by decide +kernel
theorem dX12_laysPairs_92 : decode cX12_laysPairs 92 = .ok (.bipush 60, 2) := by decide +kernel
theorem dX12_laysPairs_94 : decode cX12_laysPairs 94 = .ok (.aload_n 0, 1) := by decide +kernel
theorem dX12_laysPairs_95 : decode cX12_laysPairs 95 = .ok (.getfield 61, 3) := by decide +kernel
theorem dX12_laysPairs_98 : decode cX12_laysPairs 98 = .ok (.iconst 3, 1) := by decide +kernel
theorem dX12_laysPairs_99 : decode cX12_laysPairs 99 = .ok (.iaload, 1) := by decide +kernel
theorem dX12_laysPairs_100 : decode cX12_laysPairs 100 = .ok (.imul, 1) := by decide +kernel
theorem dX12_laysPairs_101 : decode cX12_laysPairs 101 = .ok (.if_icmp .gt 80, 3) := by decide +kernel
theorem dX12_laysPairs_104 : decode cX12_laysPairs 104 = .ok (.aload_n 0, 1) := by decide +kernel
theorem dX12_laysPairs_105 : decode cX12_laysPairs 105 = .ok (.getfield 80, 3) := by decide +kernel
theorem dX12_laysPairs_108 : decode cX12_laysPairs 108 = .ok (.iload_n 2, 1) := by decide +kernel
theorem dX12_laysPairs_109 : decode cX12_laysPairs 109 = .ok (.iconst 0, 1) := by decide +kernel
theorem dX12_laysPairs_110 : decode cX12_laysPairs 110 = .ok (.iastore, 1) := by decide +kernel
theorem dX12_laysPairs_111 : decode cX12_laysPairs 111 = .ok (.aload_n 0, 1) := by decide +kernel
theorem dX12_laysPairs_112 : decode cX12_laysPairs 112 = .ok (.getfield 80, 3) := by decide +kernel
theorem dX12_laysPairs_115 : decode cX12_laysPairs 115 = .ok (.iload_n 3, 1) := by decide +kernel
theorem dX12_laysPairs_116 : decode cX12_laysPairs 116 = .ok (.iconst 1, 1) := by decide +kernel
theorem dX12_laysPairs_117 : decode cX12_laysPairs 117 = .ok (.iastore, 1) := by decide +kernel
theorem dX12_laysPairs_118 : decode cX12_laysPairs 118 = .ok (.aload_n 0, 1) := by decide +kernel
theorem dX12_laysPairs_119 : decode cX12_laysPairs 119 = .ok (.getfield 83, 3) := by decide +kernel
theorem dX12_laysPairs_122 : decode cX12_laysPairs 122 = .ok (.aload_n 0, 1) := by decide +kernel
theorem dX12_laysPairs_123 : decode cX12_laysPairs 123 = .ok (.getfield 217, 3) := by decide +kernel
theorem dX12_laysPairs_126 : decode cX12_laysPairs 126 = .ok (.aload_n 0, 1) := by decide +kernel
theorem dX12_laysPairs_127 : decode cX12_laysPairs 127 = .ok (.aload_n 0, 1) := by decide +kernel
theorem dX12_laysPairs_128 : decode cX12_laysPairs 128 = .ok (.getfield 71, 3) := by decide +kernel
theorem dX12_laysPairs_131 : decode cX12_laysPairs 131 = .ok (.bipush 61, 2) := by decide +kernel
theorem dX12_laysPairs_133 : decode cX12_laysPairs 133 = .ok (.iload_n 1, 1) := by decide +kernel
theorem dX12_laysPairs_134 : decode cX12_laysPairs 134 = .ok (.imul, 1) := by decide +kernel
theorem dX12_laysPairs_135 : decode cX12_laysPairs 135 = .ok (.iload_n 2, 1) := by decide +kernel
theorem dX12_laysPairs_136 : decode cX12_laysPairs 136 = .ok (.iadd, 1) := by decide +kernel
theorem dX12_laysPairs_137 : decode cX12_laysPairs 137 = .ok (.iaload, 1) := by decide +kernel
theorem dX12_laysPairs_138 : decode cX12_laysPairs 138 = .ok (.invokevirtual 220, 3) := by decide +kernel
theorem dX12_laysPairs_141 : decode cX12_laysPairs 141 = .ok (.iastore, 1) := by decide +kernel
theorem dX12_laysPairs_142 : decode cX12_laysPairs 142 = .ok (.aload_n 0, 1) := by decide +kernel
theorem dX12_laysPairs_143 : decode cX12_laysPairs 143 = .ok (.getfield 86, 3) := by decide +kernel
theorem dX12_laysPairs_146 : decode cX12_laysPairs 146 = .ok (.aload_n 0, 1) := by decide +kernel
theorem dX12_laysPairs_147 : decode cX12_laysPairs 147 = .ok (.getfield 217, 3) := by decide +kernel
theorem dX12_laysPairs_150 : decode cX12_laysPairs 150 = .ok (.aload_n 0, 1) := by decide +kernel
theorem dX12_laysPairs_151 : decode cX12_laysPairs 151 = .ok (.aload_n 0, 1) := by decide +kernel
theorem dX12_laysPairs_152 : decode cX12_laysPairs 152 = .ok (.getfield 71, 3) := by decide +kernel
theorem dX12_laysPairs_155 : decode cX12_laysPairs 155 = .ok (.bipush 61, 2) := by decide +kernel
theorem dX12_laysPairs_157 : decode cX12_laysPairs 157 = .ok (.iload_n 1, 1) := by decide +kernel
theorem dX12_laysPairs_158 : decode cX12_laysPairs 158 = .ok (.imul, 1) := by decide +kernel
theorem dX12_laysPairs_159 : decode cX12_laysPairs 159 = .ok (.iload_n 3, 1) := by decide +kernel
theorem dX12_laysPairs_160 : decode cX12_laysPairs 160 = .ok (.iadd, 1) := by decide +kernel
theorem dX12_laysPairs_161 : decode cX12_laysPairs 161 = .ok (.iaload, 1) := by decide +kernel
theorem dX12_laysPairs_162 : decode cX12_laysPairs 162 = .ok (.invokevirtual 220, 3) := by decide +kernel
theorem dX12_laysPairs_165 : decode cX12_laysPairs 165 = .ok (.iastore, 1) := by decide +kernel
theorem dX12_laysPairs_166 : decode cX12_laysPairs 166 = .ok (.aload_n 0, 1) := by decide +kernel
theorem dX12_laysPairs_167 : decode cX12_laysPairs 167 = .ok (.dup, 1) := by decide +kernel
theorem dX12_laysPairs_168 : decode cX12_laysPairs 168 = .ok (.getfield 217, 3) := by decide +kernel
theorem dX12_laysPairs_171 : decode cX12_laysPairs 171 = .ok (.iconst 1, 1) := by decide +kernel
theorem dX12_laysPairs_172 : decode cX12_laysPairs 172 = .ok (.iadd, 1) := by decide +kernel
theorem dX12_laysPairs_173 : decode cX12_laysPairs 173 = .ok (.putfield 217, 3) := by decide +kernel
theorem dX12_laysPairs_176 : decode cX12_laysPairs 176 = .ok (.iconst (-1), 1) := by decide +kernel
theorem dX12_laysPairs_177 : decode cX12_laysPairs 177 = .ok (.istore_n 2, 1) := by decide +kernel
theorem dX12_laysPairs_178 : decode cX12_laysPairs 178 = .ok (.goto 15, 3) := by decide +kernel
theorem dX12_laysPairs_181 : decode cX12_laysPairs 181 = .ok (.iload 4, 2) := by decide +kernel
theorem dX12_laysPairs_183 : decode cX12_laysPairs 183 = .ok (.iconst 2, 1) := by decide +kernel
theorem dX12_laysPairs_184 : decode cX12_laysPairs 184 = .ok (.if_icmp .ne 7, 3) := by decide +kernel
theorem dX12_laysPairs_187 : decode cX12_laysPairs 187 = .ok (.iload_n 3, 1) := by decide +kernel
theorem dX12_laysPairs_188 : decode cX12_laysPairs 188 = .ok (.goto 4, 3) := by decide +kernel
theorem dX12_laysPairs_191 : decode cX12_laysPairs 191 = .ok (.iconst (-1), 1) := by decide +kernel
theorem dX12_laysPairs_192 : decode cX12_laysPairs 192 = .ok (.istore_n 2, 1) := by decide +kernel
theorem dX12_laysPairs_193 : decode cX12_laysPairs 193 = .ok (.iinc 3 1, 3) := by decide +kernel
theorem dX12_laysPairs_196 : decode cX12_laysPairs 196 = .ok (.goto (-187), 3) := by decide +kernel
theorem dX12_laysPairs_199 : decode cX12_laysPairs 199 = .ok (.return_, 1) := by decide +kernel
set_option maxRecDepth 20000 in
theorem ggX12_punched_X12_isWorker : GoodIn wsX12_punched wsX12_isWorker := goodIn_r _ [10, 11, 12, 9, 13] (by decide +kernel) (by decide +kernel)
set_option maxRecDepth 20000 in
theorem gX12_punched_X12_isWorker : GoodIn wsX12_punched (wsV RX12 196 RX12 yX12_isWorker wsX12_isWorker) := goodIn_app (goodIn_of _ (by decide +kernel)) ggX12_punched_X12_isWorker
set_option maxRecDepth 20000 in
theorem ggX12_punched_X12_within : GoodIn wsX12_punched wsX12_within := goodIn_r _ [13] (by decide +kernel) (by decide +kernel)
set_option maxRecDepth 20000 in
theorem gX12_punched_X12_within : GoodIn wsX12_punched (va_wsS RX12 34 yX12_within wsX12_within) := goodIn_app (goodIn_of _ (by decide +kernel)) ggX12_punched_X12_within
set_option maxRecDepth 20000 in
theorem ggX12_punched_X12_laysPairs : GoodIn wsX12_punched wsX12_laysPairs := goodIn_r _ [17, 18, 2, 4, 5, 3, 19, 20, 21, 22, 23, 24, 9, 25, 26, 27, 28, 29, 30, 31, 32, 33, 34, 35, 36, 37, 38, 39, 40, 41, 42, 43, 44, 45, 46, 47, 48, 49, 50, 51, 52, 53, 54, 55, 56, 57, 58, 59, 60, 61, 62, 63] (by decide +kernel) (by decide +kernel)
set_option maxRecDepth 20000 in
theorem gX12_punched_X12_laysPairs : GoodIn wsX12_punched (wsV RX12 223 RX12 yX12_laysPairs wsX12_laysPairs) := goodIn_app (goodIn_of _ (by decide +kernel)) ggX12_punched_X12_laysPairs
theorem dX12_punched_0 : decode cX12_punched 0 = .ok (.aload_n 0, 1) := by decide +kernel
theorem dX12_punched_1 : decode cX12_punched 1 = .ok (.iconst 0, 1) := by decide +kernel
theorem dX12_punched_2 : decode cX12_punched 2 = .ok (.putfield 1, 3) := by decide +kernel
theorem dX12_punched_5 : decode cX12_punched 5 = .ok (.aload_n 0, 1) := by decide +kernel
theorem dX12_punched_6 : decode cX12_punched 6 = .ok (.iload_n 1, 1) := by decide +kernel
theorem dX12_punched_7 : decode cX12_punched 7 = .ok (.invokevirtual 196, 3) := by decide +kernel
theorem dX12_punched_10 : decode cX12_punched 10 = .ok (.ifCond .eq 8, 3) := by decide +kernel
theorem dX12_punched_13 : decode cX12_punched 13 = .ok (.iload_n 2, 1) := by decide +kernel
theorem dX12_punched_14 : decode cX12_punched 14 = .ok (.iconst (-1), 1) := by decide +kernel
theorem dX12_punched_15 : decode cX12_punched 15 = .ok (.if_icmp .ne 22, 3) := by decide +kernel
theorem dX12_punched_18 : decode cX12_punched 18 = .ok (.aload_n 0, 1) := by decide +kernel
theorem dX12_punched_19 : decode cX12_punched 19 = .ok (.iload_n 1, 1) := by decide +kernel
theorem dX12_punched_20 : decode cX12_punched 20 = .ok (.invokevirtual 196, 3) := by decide +kernel
theorem dX12_punched_23 : decode cX12_punched 23 = .ok (.ifCond .eq 12, 3) := by decide +kernel
theorem dX12_punched_26 : decode cX12_punched 26 = .ok (.aload_n 0, 1) := by decide +kernel
theorem dX12_punched_27 : decode cX12_punched 27 = .ok (.getfield 68, 3) := by decide +kernel
theorem dX12_punched_30 : decode cX12_punched 30 = .ok (.iload_n 1, 1) := by decide +kernel
theorem dX12_punched_31 : decode cX12_punched 31 = .ok (.iaload, 1) := by decide +kernel
theorem dX12_punched_32 : decode cX12_punched 32 = .ok (.goto 4, 3) := by decide +kernel
theorem dX12_punched_35 : decode cX12_punched 35 = .ok (.iconst (-1), 1) := by decide +kernel
theorem dX12_punched_36 : decode cX12_punched 36 = .ok (.ireturn, 1) := by decide +kernel
theorem dX12_punched_37 : decode cX12_punched 37 = .ok (.iload_n 2, 1) := by decide +kernel
theorem dX12_punched_38 : decode cX12_punched 38 = .ok (.iconst 0, 1) := by decide +kernel
theorem dX12_punched_39 : decode cX12_punched 39 = .ok (.aload_n 0, 1) := by decide +kernel
theorem dX12_punched_40 : decode cX12_punched 40 = .ok (.getfield 68, 3) := by decide +kernel
theorem dX12_punched_43 : decode cX12_punched 43 = .ok (.iload_n 1, 1) := by decide +kernel
theorem dX12_punched_44 : decode cX12_punched 44 = .ok (.iaload, 1) := by decide +kernel
theorem dX12_punched_45 : decode cX12_punched 45 = .ok (.iconst 1, 1) := by decide +kernel
theorem dX12_punched_46 : decode cX12_punched 46 = .ok (.isub, 1) := by decide +kernel
theorem dX12_punched_47 : decode cX12_punched 47 = .ok (.invokestatic 34, 3) := by decide +kernel
theorem dX12_punched_50 : decode cX12_punched 50 = .ok (.ifCond .eq 12, 3) := by decide +kernel
theorem dX12_punched_53 : decode cX12_punched 53 = .ok (.iload_n 3, 1) := by decide +kernel
theorem dX12_punched_54 : decode cX12_punched 54 = .ok (.iconst 0, 1) := by decide +kernel
theorem dX12_punched_55 : decode cX12_punched 55 = .ok (.iconst 2, 1) := by decide +kernel
theorem dX12_punched_56 : decode cX12_punched 56 = .ok (.invokestatic 34, 3) := by decide +kernel
theorem dX12_punched_59 : decode cX12_punched 59 = .ok (.ifCond .ne 5, 3) := by decide +kernel
theorem dX12_punched_62 : decode cX12_punched 62 = .ok (.iconst (-1), 1) := by decide +kernel
theorem dX12_punched_63 : decode cX12_punched 63 = .ok (.ireturn, 1) := by decide +kernel
theorem dX12_punched_64 : decode cX12_punched 64 = .ok (.aload_n 0, 1) := by decide +kernel
theorem dX12_punched_65 : decode cX12_punched 65 = .ok (.iload_n 1, 1) := by decide +kernel
theorem dX12_punched_66 : decode cX12_punched 66 = .ok (.invokevirtual 223, 3) := by decide +kernel
theorem dX12_punched_69 : decode cX12_punched 69 = .ok (.iload_n 3, 1) := by decide +kernel
theorem dX12_punched_70 : decode cX12_punched 70 = .ok (.ifCond .ne 17, 3) := by decide +kernel
theorem dX12_punched_73 : decode cX12_punched 73 = .ok (.aload_n 0, 1) := by decide +kernel
theorem dX12_punched_74 : decode cX12_punched 74 = .ok (.getfield 71, 3) := by decide +kernel
theorem dX12_punched_77 : decode cX12_punched 77 = .ok (.bipush 61, 2) := by decide +kernel
theorem dX12_punched_79 : decode cX12_punched 79 = .ok (.iload_n 1, 1) := by decide +kernel
theorem dX12_punched_80 : decode cX12_punched 80 = .ok (.imul, 1) := by decide +kernel
theorem dX12_punched_81 : decode cX12_punched 81 = .ok (.iload_n 2, 1) := by decide +kernel
theorem dX12_punched_82 : decode cX12_punched 82 = .ok (.iadd, 1) := by decide +kernel
theorem dX12_punched_83 : decode cX12_punched 83 = .ok (.iaload, 1) := by decide +kernel
theorem dX12_punched_84 : decode cX12_punched 84 = .ok (.goto 28, 3) := by decide +kernel
theorem dX12_punched_87 : decode cX12_punched 87 = .ok (.iload_n 3, 1) := by decide +kernel
theorem dX12_punched_88 : decode cX12_punched 88 = .ok (.iconst 1, 1) := by decide +kernel
theorem dX12_punched_89 : decode cX12_punched 89 = .ok (.if_icmp .ne 17, 3) := by decide +kernel
theorem dX12_punched_92 : decode cX12_punched 92 = .ok (.aload_n 0, 1) := by decide +kernel
theorem dX12_punched_93 : decode cX12_punched 93 = .ok (.getfield 74, 3) := by decide +kernel
theorem dX12_punched_96 : decode cX12_punched 96 = .ok (.bipush 61, 2) := by decide +kernel
theorem dX12_punched_98 : decode cX12_punched 98 = .ok (.iload_n 1, 1) := by decide +kernel
theorem dX12_punched_99 : decode cX12_punched 99 = .ok (.imul, 1) := by decide +kernel
theorem dX12_punched_100 : decode cX12_punched 100 = .ok (.iload_n 2, 1) := by decide +kernel
theorem dX12_punched_101 : decode cX12_punched 101 = .ok (.iadd, 1) := by decide +kernel
theorem dX12_punched_102 : decode cX12_punched 102 = .ok (.iaload, 1) := by decide +kernel
theorem dX12_punched_103 : decode cX12_punched 103 = .ok (.goto 9, 3) := by decide +kernel
theorem dX12_punched_106 : decode cX12_punched 106 = .ok (.aload_n 0, 1) := by decide +kernel
theorem dX12_punched_107 : decode cX12_punched 107 = .ok (.getfield 80, 3) := by decide +kernel
theorem dX12_punched_110 : decode cX12_punched 110 = .ok (.iload_n 2, 1) := by decide +kernel
theorem dX12_punched_111 : decode cX12_punched 111 = .ok (.iaload, 1) := by decide +kernel
theorem dX12_punched_112 : decode cX12_punched 112 = .ok (.ireturn, 1) := by decide +kernel
set_option maxRecDepth 20000 in
theorem ggX12_isOfDays_X12_toldAt : GoodIn wsX12_isOfDays wsX12_toldAt := goodIn_r _ [5, 6, 7, 8, 9, 10, 4, 11, 12, 13, 14, 15, 16, 17, 18, 19, 20, 21, 22, 23, 24, 25, 26, 27, 28, 29, 30, 31, 32, 33, 34, 35, 36, 37, 38, 39, 40, 41, 42, 43, 44, 45, 46, 47, 48, 49, 50, 51, 52] (by decide +kernel) (by decide +kernel)
set_option maxRecDepth 20000 in
theorem gX12_isOfDays_X12_toldAt : GoodIn wsX12_isOfDays (wsV RX12 193 RX12 yX12_toldAt wsX12_toldAt) := goodIn_app (goodIn_of _ (by decide +kernel)) ggX12_isOfDays_X12_toldAt
theorem dX12_isOfDays_0 : decode cX12_isOfDays 0 = .ok (.aload_n 0, 1) := by decide +kernel
theorem dX12_isOfDays_1 : decode cX12_isOfDays 1 = .ok (.bipush 15, 2) := by decide +kernel
theorem dX12_isOfDays_3 : decode cX12_isOfDays 3 = .ok (.iload_n 1, 1) := by decide +kernel
theorem dX12_isOfDays_4 : decode cX12_isOfDays 4 = .ok (.imul, 1) := by decide +kernel
theorem dX12_isOfDays_5 : decode cX12_isOfDays 5 = .ok (.invokevirtual 193, 3) := by decide +kernel
theorem dX12_isOfDays_8 : decode cX12_isOfDays 8 = .ok (.iconst (-1), 1) := by decide +kernel
theorem dX12_isOfDays_9 : decode cX12_isOfDays 9 = .ok (.if_icmp .eq 7, 3) := by decide +kernel
theorem dX12_isOfDays_12 : decode cX12_isOfDays 12 = .ok (.iconst 1, 1) := by decide +kernel
theorem dX12_isOfDays_13 : decode cX12_isOfDays 13 = .ok (.goto 4, 3) := by decide +kernel
theorem dX12_isOfDays_16 : decode cX12_isOfDays 16 = .ok (.iconst 0, 1) := by decide +kernel
theorem dX12_isOfDays_17 : decode cX12_isOfDays 17 = .ok (.ireturn, 1) := by decide +kernel
set_option maxRecDepth 20000 in
theorem ggX12_isOfSpan_X12_isOfDays : GoodIn wsX12_isOfSpan wsX12_isOfDays := goodIn_r _ [8, 9, 10, 11, 7, 12, 3, 13, 14, 15, 16, 17, 18, 19, 20, 21, 22, 23, 24, 25, 26, 27, 28, 29, 30, 31, 32, 33, 34, 35, 36, 37, 38, 39, 40, 41, 42, 43, 44, 45, 46, 47, 48, 49, 50, 51, 52, 53, 54, 55, 56, 57, 58] (by decide +kernel) (by decide +kernel)
set_option maxRecDepth 20000 in
theorem gX12_isOfSpan_X12_isOfDays : GoodIn wsX12_isOfSpan (wsV RX12 226 RX12 yX12_isOfDays wsX12_isOfDays) := goodIn_app (goodIn_of _ (by decide +kernel)) ggX12_isOfSpan_X12_isOfDays
theorem dX12_isOfSpan_0 : decode cX12_isOfSpan 0 = .ok (.iload_n 2, 1) := by decide +kernel
theorem dX12_isOfSpan_1 : decode cX12_isOfSpan 1 = .ok (.aload_n 0, 1) := by decide +kernel
theorem dX12_isOfSpan_2 : decode cX12_isOfSpan 2 = .ok (.getfield 83, 3) := by decide +kernel
theorem dX12_isOfSpan_5 : decode cX12_isOfSpan 5 = .ok (.iload_n 1, 1) := by decide +kernel
theorem dX12_isOfSpan_6 : decode cX12_isOfSpan 6 = .ok (.iaload, 1) := by decide +kernel
theorem dX12_isOfSpan_7 : decode cX12_isOfSpan 7 = .ok (.isub, 1) := by decide +kernel
theorem dX12_isOfSpan_8 : decode cX12_isOfSpan 8 = .ok (.istore_n 3, 1) := by decide +kernel
theorem dX12_isOfSpan_9 : decode cX12_isOfSpan 9 = .ok (.aload_n 0, 1) := by decide +kernel
theorem dX12_isOfSpan_10 : decode cX12_isOfSpan 10 = .ok (.getfield 86, 3) := by decide +kernel
theorem dX12_isOfSpan_13 : decode cX12_isOfSpan 13 = .ok (.iload_n 1, 1) := by decide +kernel
theorem dX12_isOfSpan_14 : decode cX12_isOfSpan 14 = .ok (.iaload, 1) := by decide +kernel
theorem dX12_isOfSpan_15 : decode cX12_isOfSpan 15 = .ok (.aload_n 0, 1) := by decide +kernel
theorem dX12_isOfSpan_16 : decode cX12_isOfSpan 16 = .ok (.getfield 83, 3) := by decide +kernel
theorem dX12_isOfSpan_19 : decode cX12_isOfSpan 19 = .ok (.iload_n 1, 1) := by decide +kernel
theorem dX12_isOfSpan_20 : decode cX12_isOfSpan 20 = .ok (.iaload, 1) := by decide +kernel
theorem dX12_isOfSpan_21 : decode cX12_isOfSpan 21 = .ok (.isub, 1) := by decide +kernel
theorem dX12_isOfSpan_22 : decode cX12_isOfSpan 22 = .ok (.istore 4, 2) := by decide +kernel
theorem dX12_isOfSpan_24 : decode cX12_isOfSpan 24 = .ok (.aload_n 0, 1) := by decide +kernel
theorem dX12_isOfSpan_25 : decode cX12_isOfSpan 25 = .ok (.getfield 61, 3) := by decide +kernel
theorem dX12_isOfSpan_28 : decode cX12_isOfSpan 28 = .ok (.iconst 1, 1) := by decide +kernel
theorem dX12_isOfSpan_29 : decode cX12_isOfSpan 29 = .ok (.iaload, 1) := by decide +kernel
theorem dX12_isOfSpan_30 : decode cX12_isOfSpan 30 = .ok (.ifCond .le 45, 3) := by decide +kernel
theorem dX12_isOfSpan_33 : decode cX12_isOfSpan 33 = .ok (.iload 4, 2) := by decide +kernel
theorem dX12_isOfSpan_35 : decode cX12_isOfSpan 35 = .ok (.aload_n 0, 1) := by decide +kernel
theorem dX12_isOfSpan_36 : decode cX12_isOfSpan 36 = .ok (.getfield 61, 3) := by decide +kernel
theorem dX12_isOfSpan_39 : decode cX12_isOfSpan 39 = .ok (.iconst 1, 1) := by decide +kernel
theorem dX12_isOfSpan_40 : decode cX12_isOfSpan 40 = .ok (.iaload, 1) := by decide +kernel
theorem dX12_isOfSpan_41 : decode cX12_isOfSpan 41 = .ok (.if_icmp .le 34, 3) := by decide +kernel
theorem dX12_isOfSpan_44 : decode cX12_isOfSpan 44 = .ok (.iload_n 3, 1) := by decide +kernel
theorem dX12_isOfSpan_45 : decode cX12_isOfSpan 45 = .ok (.aload_n 0, 1) := by decide +kernel
theorem dX12_isOfSpan_46 : decode cX12_isOfSpan 46 = .ok (.getfield 61, 3) := by decide +kernel
theorem dX12_isOfSpan_49 : decode cX12_isOfSpan 49 = .ok (.iconst 1, 1) := by decide +kernel
theorem dX12_isOfSpan_50 : decode cX12_isOfSpan 50 = .ok (.iaload, 1) := by decide +kernel
theorem dX12_isOfSpan_51 : decode cX12_isOfSpan 51 = .ok (.if_icmp .lt 24, 3) := by decide +kernel
theorem dX12_isOfSpan_54 : decode cX12_isOfSpan 54 = .ok (.iload_n 3, 1) := by decide +kernel
theorem dX12_isOfSpan_55 : decode cX12_isOfSpan 55 = .ok (.aload_n 0, 1) := by decide +kernel
theorem dX12_isOfSpan_56 : decode cX12_isOfSpan 56 = .ok (.getfield 61, 3) := by decide +kernel
theorem dX12_isOfSpan_59 : decode cX12_isOfSpan 59 = .ok (.iconst 1, 1) := by decide +kernel
theorem dX12_isOfSpan_60 : decode cX12_isOfSpan 60 = .ok (.iaload, 1) := by decide +kernel
theorem dX12_isOfSpan_61 : decode cX12_isOfSpan 61 = .ok (.aload_n 0, 1) := by decide +kernel
theorem dX12_isOfSpan_62 : decode cX12_isOfSpan 62 = .ok (.getfield 61, 3) := by decide +kernel
theorem dX12_isOfSpan_65 : decode cX12_isOfSpan 65 = .ok (.iconst 2, 1) := by decide +kernel
theorem dX12_isOfSpan_66 : decode cX12_isOfSpan 66 = .ok (.iaload, 1) := by decide +kernel
theorem dX12_isOfSpan_67 : decode cX12_isOfSpan 67 = .ok (.iadd, 1) := by decide +kernel
theorem dX12_isOfSpan_68 : decode cX12_isOfSpan 68 = .ok (.if_icmp .ge 7, 3) := by decide +kernel
theorem dX12_isOfSpan_71 : decode cX12_isOfSpan 71 = .ok (.iconst 1, 1) := by decide +kernel
theorem dX12_isOfSpan_72 : decode cX12_isOfSpan 72 = .ok (.goto 4, 3) := by decide +kernel
theorem dX12_isOfSpan_75 : decode cX12_isOfSpan 75 = .ok (.iconst 0, 1) := by decide +kernel
theorem dX12_isOfSpan_76 : decode cX12_isOfSpan 76 = .ok (.istore 5, 2) := by decide +kernel
theorem dX12_isOfSpan_78 : decode cX12_isOfSpan 78 = .ok (.iload 5, 2) := by decide +kernel
theorem dX12_isOfSpan_80 : decode cX12_isOfSpan 80 = .ok (.ifCond .ne 15, 3) := by decide +kernel
theorem dX12_isOfSpan_83 : decode cX12_isOfSpan 83 = .ok (.aload_n 0, 1) := by decide +kernel
theorem dX12_isOfSpan_84 : decode cX12_isOfSpan 84 = .ok (.iload_n 2, 1) := by decide +kernel
theorem dX12_isOfSpan_85 : decode cX12_isOfSpan 85 = .ok (.invokevirtual 226, 3) := by decide +kernel
theorem dX12_isOfSpan_88 : decode cX12_isOfSpan 88 = .ok (.ifCond .eq 7, 3) := by decide +kernel
theorem dX12_isOfSpan_91 : decode cX12_isOfSpan 91 = .ok (.iconst 1, 1) := by decide +kernel
theorem dX12_isOfSpan_92 : decode cX12_isOfSpan 92 = .ok (.goto 4, 3) := by decide +kernel
theorem dX12_isOfSpan_95 : decode cX12_isOfSpan 95 = .ok (.iconst 0, 1) := by decide +kernel
theorem dX12_isOfSpan_96 : decode cX12_isOfSpan 96 = .ok (.ireturn, 1) := by decide +kernel
set_option maxRecDepth 20000 in
theorem ggX12_span_X12_isWorker : GoodIn wsX12_span wsX12_isWorker := goodIn_r _ [9, 10, 11, 8, 12] (by decide +kernel) (by decide +kernel)
set_option maxRecDepth 20000 in
theorem gX12_span_X12_isWorker : GoodIn wsX12_span (wsV RX12 196 RX12 yX12_isWorker wsX12_isWorker) := goodIn_app (goodIn_of _ (by decide +kernel)) ggX12_span_X12_isWorker
set_option maxRecDepth 20000 in
theorem ggX12_span_X12_laysPairs : GoodIn wsX12_span wsX12_laysPairs := goodIn_r _ [16, 2, 17, 18, 19, 20, 21, 3, 4, 22, 23, 24, 8, 25, 43, 44, 45, 46, 47, 48, 49, 50, 51, 52, 53, 54, 55, 56, 57, 58, 59, 60, 61, 62, 63, 64, 65, 66, 67, 68, 69, 70, 71, 72, 73, 74, 75, 76, 77, 78, 79, 80] (by decide +kernel) (by decide +kernel)
set_option maxRecDepth 20000 in
theorem gX12_span_X12_laysPairs : GoodIn wsX12_span (wsV RX12 223 RX12 yX12_laysPairs wsX12_laysPairs) := goodIn_app (goodIn_of _ (by decide +kernel)) ggX12_span_X12_laysPairs
set_option maxRecDepth 20000 in
theorem ggX12_span_X12_within : GoodIn wsX12_span wsX12_within := goodIn_r _ [12] (by decide +kernel) (by decide +kernel)
set_option maxRecDepth 20000 in
theorem gX12_span_X12_within : GoodIn wsX12_span (va_wsS RX12 34 yX12_within wsX12_within) := goodIn_app (goodIn_of _ (by decide +kernel)) ggX12_span_X12_within
set_option maxRecDepth 20000 in
theorem ggX12_span_X12_isOfSpan : GoodIn wsX12_span wsX12_isOfSpan := goodIn_r _ [29, 3, 4, 21, 30, 31, 32, 8, 33, 34, 35, 36, 37, 38, 39, 40, 41, 42, 10, 11, 12, 43, 44, 45, 46, 47, 48, 49, 50, 51, 52, 53, 54, 55, 56, 57, 58, 59, 60, 61, 62, 63, 64, 65, 66, 67, 68, 69, 70, 71, 72, 73, 74, 75, 76, 77, 78, 79, 80] (by decide +kernel) (by decide +kernel)
set_option maxRecDepth 20000 in
theorem gX12_span_X12_isOfSpan : GoodIn wsX12_span (wsV RX12 229 RX12 yX12_isOfSpan wsX12_isOfSpan) := goodIn_app (goodIn_of _ (by decide +kernel)) ggX12_span_X12_isOfSpan
theorem dX12_span_0 : decode cX12_span 0 = .ok (.aload_n 0, 1) := by decide +kernel
theorem dX12_span_1 : decode cX12_span 1 = .ok (.iconst 0, 1) := by decide +kernel
theorem dX12_span_2 : decode cX12_span 2 = .ok (.putfield 1, 3) := by decide +kernel
theorem dX12_span_5 : decode cX12_span 5 = .ok (.aload_n 0, 1) := by decide +kernel
theorem dX12_span_6 : decode cX12_span 6 = .ok (.iload_n 1, 1) := by decide +kernel
theorem dX12_span_7 : decode cX12_span 7 = .ok (.invokevirtual 196, 3) := by decide +kernel
theorem dX12_span_10 : decode cX12_span 10 = .ok (.ifCond .ne 5, 3) := by decide +kernel
theorem dX12_span_13 : decode cX12_span 13 = .ok (.iconst (-1), 1) := by decide +kernel
theorem dX12_span_14 : decode cX12_span 14 = .ok (.ireturn, 1) := by decide +kernel
theorem dX12_span_15 : decode cX12_span 15 = .ok (.aload_n 0, 1) := by decide +kernel
theorem dX12_span_16 : decode cX12_span 16 = .ok (.iload_n 1, 1) := by decide +kernel
theorem dX12_span_17 : decode cX12_span 17 = .ok (.invokevirtual 223, 3) := by decide +kernel
theorem dX12_span_20 : decode cX12_span 20 = .ok (.iload_n 2, 1) := by decide +kernel
theorem dX12_span_21 : decode cX12_span 21 = .ok (.iconst (-1), 1) := by decide +kernel
theorem dX12_span_22 : decode cX12_span 22 = .ok (.if_icmp .ne 8, 3) := by decide +kernel
theorem dX12_span_25 : decode cX12_span 25 = .ok (.aload_n 0, 1) := by decide +kernel
theorem dX12_span_26 : decode cX12_span 26 = .ok (.getfield 217, 3) := by decide +kernel
theorem dX12_span_29 : decode cX12_span 29 = .ok (.ireturn, 1) := by decide +kernel
theorem dX12_span_30 : decode cX12_span 30 = .ok (.iload_n 2, 1) := by decide +kernel
theorem dX12_span_31 : decode cX12_span 31 = .ok (.iconst 0, 1) := by decide +kernel
theorem dX12_span_32 : decode cX12_span 32 = .ok (.aload_n 0, 1) := by decide +kernel
theorem dX12_span_33 : decode cX12_span 33 = .ok (.getfield 217, 3) := by decide +kernel
theorem dX12_span_36 : decode cX12_span 36 = .ok (.iconst 1, 1) := by decide +kernel
theorem dX12_span_37 : decode cX12_span 37 = .ok (.isub, 1) := by decide +kernel
theorem dX12_span_38 : decode cX12_span 38 = .ok (.invokestatic 34, 3) := by decide +kernel
theorem dX12_span_41 : decode cX12_span 41 = .ok (.ifCond .eq 12, 3) := by decide +kernel
theorem dX12_span_44 : decode cX12_span 44 = .ok (.iload_n 3, 1) := by decide +kernel
theorem dX12_span_45 : decode cX12_span 45 = .ok (.iconst 0, 1) := by decide +kernel
theorem dX12_span_46 : decode cX12_span 46 = .ok (.iconst 2, 1) := by decide +kernel
theorem dX12_span_47 : decode cX12_span 47 = .ok (.invokestatic 34, 3) := by decide +kernel
theorem dX12_span_50 : decode cX12_span 50 = .ok (.ifCond .ne 5, 3) := by decide +kernel
theorem dX12_span_53 : decode cX12_span 53 = .ok (.iconst (-1), 1) := by decide +kernel
theorem dX12_span_54 : decode cX12_span 54 = .ok (.ireturn, 1) := by decide +kernel
theorem dX12_span_55 : decode cX12_span 55 = .ok (.iconst 0, 1) := by decide +kernel
theorem dX12_span_56 : decode cX12_span 56 = .ok (.istore 4, 2) := by decide +kernel
theorem dX12_span_58 : decode cX12_span 58 = .ok (.aload_n 0, 1) := by decide +kernel
theorem dX12_span_59 : decode cX12_span 59 = .ok (.getfield 83, 3) := by decide +kernel
theorem dX12_span_62 : decode cX12_span 62 = .ok (.iload_n 2, 1) := by decide +kernel
theorem dX12_span_63 : decode cX12_span 63 = .ok (.iaload, 1) := by decide +kernel
theorem dX12_span_64 : decode cX12_span 64 = .ok (.istore 5, 2) := by decide +kernel
theorem dX12_span_66 : decode cX12_span 66 = .ok (.iload 5, 2) := by decide +kernel
theorem dX12_span_68 : decode cX12_span 68 = .ok (.aload_n 0, 1) := by decide +kernel
theorem dX12_span_69 : decode cX12_span 69 = .ok (.getfield 86, 3) := by decide +kernel
theorem dX12_span_72 : decode cX12_span 72 = .ok (.iload_n 2, 1) := by decide +kernel
theorem dX12_span_73 : decode cX12_span 73 = .ok (.iaload, 1) := by decide +kernel
theorem dX12_span_74 : decode cX12_span 74 = .ok (.if_icmp .ge 29, 3) := by decide +kernel
theorem dX12_span_77 : decode cX12_span 77 = .ok (.iload 4, 2) := by decide +kernel
theorem dX12_span_79 : decode cX12_span 79 = .ok (.aload_n 0, 1) := by decide +kernel
theorem dX12_span_80 : decode cX12_span 80 = .ok (.iload_n 2, 1) := by decide +kernel
theorem dX12_span_81 : decode cX12_span 81 = .ok (.iload 5, 2) := by decide +kernel
theorem dX12_span_83 : decode cX12_span 83 = .ok (.invokevirtual 229, 3) := by decide +kernel
theorem dX12_span_86 : decode cX12_span 86 = .ok (.ifCond .eq 7, 3) := by decide +kernel
theorem dX12_span_89 : decode cX12_span 89 = .ok (.iconst 1, 1) := by decide +kernel
theorem dX12_span_90 : decode cX12_span 90 = .ok (.goto 4, 3) := by decide +kernel
theorem dX12_span_93 : decode cX12_span 93 = .ok (.iconst 0, 1) := by decide +kernel
theorem dX12_span_94 : decode cX12_span 94 = .ok (.iadd, 1) := by decide +kernel
theorem dX12_span_95 : decode cX12_span 95 = .ok (.istore 4, 2) := by decide +kernel
theorem dX12_span_97 : decode cX12_span 97 = .ok (.iinc 5 1, 3) := by decide +kernel
theorem dX12_span_100 : decode cX12_span 100 = .ok (.goto (-34), 3) := by decide +kernel
theorem dX12_span_103 : decode cX12_span 103 = .ok (.iload_n 3, 1) := by decide +kernel
theorem dX12_span_104 : decode cX12_span 104 = .ok (.ifCond .ne 12, 3) := by decide +kernel
theorem dX12_span_107 : decode cX12_span 107 = .ok (.aload_n 0, 1) := by decide +kernel
theorem dX12_span_108 : decode cX12_span 108 = .ok (.getfield 83, 3) := by decide +kernel
theorem dX12_span_111 : decode cX12_span 111 = .ok (.iload_n 2, 1) := by decide +kernel
theorem dX12_span_112 : decode cX12_span 112 = .ok (.iaload, 1) := by decide +kernel
theorem dX12_span_113 : decode cX12_span 113 = .ok (.goto 19, 3) := by decide +kernel
theorem dX12_span_116 : decode cX12_span 116 = .ok (.iload_n 3, 1) := by decide +kernel
theorem dX12_span_117 : decode cX12_span 117 = .ok (.iconst 1, 1) := by decide +kernel
theorem dX12_span_118 : decode cX12_span 118 = .ok (.if_icmp .ne 12, 3) := by decide +kernel
theorem dX12_span_121 : decode cX12_span 121 = .ok (.aload_n 0, 1) := by decide +kernel
theorem dX12_span_122 : decode cX12_span 122 = .ok (.getfield 86, 3) := by decide +kernel
theorem dX12_span_125 : decode cX12_span 125 = .ok (.iload_n 2, 1) := by decide +kernel
theorem dX12_span_126 : decode cX12_span 126 = .ok (.iaload, 1) := by decide +kernel
theorem dX12_span_127 : decode cX12_span 127 = .ok (.goto 5, 3) := by decide +kernel
theorem dX12_span_130 : decode cX12_span 130 = .ok (.iload 4, 2) := by decide +kernel
theorem dX12_span_132 : decode cX12_span 132 = .ok (.ireturn, 1) := by decide +kernel
set_option maxRecDepth 20000 in
theorem ggX12_laysWorked_X12_laysPairs : GoodIn wsX12_laysWorked wsX12_laysPairs := goodIn_r _ [9, 2, 10, 11, 12, 13, 14, 3, 4, 15, 16, 17, 8, 18, 39, 40, 41, 42, 43, 44, 45, 46, 47, 48, 49, 50, 51, 52, 53, 54, 55, 56, 57, 58, 59, 60, 61, 62, 63, 64, 65, 66, 67, 68, 69, 70, 71, 72, 73, 74, 75, 76] (by decide +kernel) (by decide +kernel)
set_option maxRecDepth 20000 in
theorem gX12_laysWorked_X12_laysPairs : GoodIn wsX12_laysWorked (wsV RX12 223 RX12 yX12_laysPairs wsX12_laysPairs) := goodIn_app (goodIn_of _ (by decide +kernel)) ggX12_laysWorked_X12_laysPairs
set_option maxRecDepth 20000 in
theorem ggX12_laysWorked_X12_isOfSpan : GoodIn wsX12_laysWorked wsX12_isOfSpan := goodIn_r _ [22, 3, 4, 14, 23, 24, 25, 8, 26, 27, 28, 29, 30, 31, 32, 33, 34, 35, 36, 37, 38, 39, 40, 41, 42, 43, 44, 45, 46, 47, 48, 49, 50, 51, 52, 53, 54, 55, 56, 57, 58, 59, 60, 61, 62, 63, 64, 65, 66, 67, 68, 69, 70, 71, 72, 73, 74, 75, 76] (by decide +kernel) (by decide +kernel)
set_option maxRecDepth 20000 in
theorem gX12_laysWorked_X12_isOfSpan : GoodIn wsX12_laysWorked (wsV RX12 229 RX12 yX12_isOfSpan wsX12_isOfSpan) := goodIn_app (goodIn_of _ (by decide +kernel)) ggX12_laysWorked_X12_isOfSpan
theorem dX12_laysWorked_0 : decode cX12_laysWorked 0 = .ok (.aload_n 0, 1) := by decide +kernel
theorem dX12_laysWorked_1 : decode cX12_laysWorked 1 = .ok (.iload_n 1, 1) := by decide +kernel
theorem dX12_laysWorked_2 : decode cX12_laysWorked 2 = .ok (.invokevirtual 223, 3) := by decide +kernel
theorem dX12_laysWorked_5 : decode cX12_laysWorked 5 = .ok (.iconst 0, 1) := by decide +kernel
theorem dX12_laysWorked_6 : decode cX12_laysWorked 6 = .ok (.istore_n 2, 1) := by decide +kernel
theorem dX12_laysWorked_7 : decode cX12_laysWorked 7 = .ok (.iload_n 2, 1) := by decide +kernel
theorem dX12_laysWorked_8 : decode cX12_laysWorked 8 = .ok (.sipush 2720, 3) := by decide +kernel
theorem dX12_laysWorked_11 : decode cX12_laysWorked 11 = .ok (.if_icmp .ge 16, 3) := by decide +kernel
theorem dX12_laysWorked_14 : decode cX12_laysWorked 14 = .ok (.aload_n 0, 1) := by decide +kernel
theorem dX12_laysWorked_15 : decode cX12_laysWorked 15 = .ok (.getfield 89, 3) := by decide +kernel
theorem dX12_laysWorked_18 : decode cX12_laysWorked 18 = .ok (.iload_n 2, 1) := by decide +kernel
theorem dX12_laysWorked_19 : decode cX12_laysWorked 19 = .ok (.iconst 0, 1) := by decide +kernel
theorem dX12_laysWorked_20 : decode cX12_laysWorked 20 = .ok (.bastore, 1) := by decide +kernel
theorem dX12_laysWorked_21 : decode cX12_laysWorked 21 = .ok (.iinc 2 1, 3) := by decide +kernel
theorem dX12_laysWorked_24 : decode cX12_laysWorked 24 = .ok (.goto (-17), 3) := by decide +kernel
theorem dX12_laysWorked_27 : decode cX12_laysWorked 27 = .ok (.iconst 0, 1) := by decide +kernel
theorem dX12_laysWorked_28 : decode cX12_laysWorked 28 = .ok (.istore_n 2, 1) := by decide +kernel
theorem dX12_laysWorked_29 : decode cX12_laysWorked 29 = .ok (.iload_n 2, 1) := by decide +kernel
theorem dX12_laysWorked_30 : decode cX12_laysWorked 30 = .ok (.aload_n 0, 1) := by decide +kernel
theorem dX12_laysWorked_31 : decode cX12_laysWorked 31 = .ok (.getfield 217, 3) := by decide +kernel
theorem dX12_laysWorked_34 : decode cX12_laysWorked 34 = .ok (.if_icmp .ge 61, 3) := by decide +kernel
theorem dX12_laysWorked_37 : decode cX12_laysWorked 37 = .ok (.aload_n 0, 1) := by decide +kernel
theorem dX12_laysWorked_38 : decode cX12_laysWorked 38 = .ok (.getfield 83, 3) := by decide +kernel
theorem dX12_laysWorked_41 : decode cX12_laysWorked 41 = .ok (.iload_n 2, 1) := by decide +kernel
theorem dX12_laysWorked_42 : decode cX12_laysWorked 42 = .ok (.iaload, 1) := by decide +kernel
theorem dX12_laysWorked_43 : decode cX12_laysWorked 43 = .ok (.istore_n 3, 1) := by decide +kernel
theorem dX12_laysWorked_44 : decode cX12_laysWorked 44 = .ok (.iload_n 3, 1) := by decide +kernel
theorem dX12_laysWorked_45 : decode cX12_laysWorked 45 = .ok (.aload_n 0, 1) := by decide +kernel
theorem dX12_laysWorked_46 : decode cX12_laysWorked 46 = .ok (.getfield 86, 3) := by decide +kernel
theorem dX12_laysWorked_49 : decode cX12_laysWorked 49 = .ok (.iload_n 2, 1) := by decide +kernel
theorem dX12_laysWorked_50 : decode cX12_laysWorked 50 = .ok (.iaload, 1) := by decide +kernel
theorem dX12_laysWorked_51 : decode cX12_laysWorked 51 = .ok (.if_icmp .ge 38, 3) := by decide +kernel
theorem dX12_laysWorked_54 : decode cX12_laysWorked 54 = .ok (.aload_n 0, 1) := by decide +kernel
theorem dX12_laysWorked_55 : decode cX12_laysWorked 55 = .ok (.getfield 89, 3) := by decide +kernel
theorem dX12_laysWorked_58 : decode cX12_laysWorked 58 = .ok (.iload_n 3, 1) := by decide +kernel
theorem dX12_laysWorked_59 : decode cX12_laysWorked 59 = .ok (.aload_n 0, 1) := by decide +kernel
theorem dX12_laysWorked_60 : decode cX12_laysWorked 60 = .ok (.getfield 89, 3) := by decide +kernel
theorem dX12_laysWorked_63 : decode cX12_laysWorked 63 = .ok (.iload_n 3, 1) := by decide +kernel
theorem dX12_laysWorked_64 : decode cX12_laysWorked 64 = .ok (.baload, 1) := by decide +kernel
theorem dX12_laysWorked_65 : decode cX12_laysWorked 65 = .ok (.ifCond .ne 12, 3) := by decide +kernel
theorem dX12_laysWorked_68 : decode cX12_laysWorked 68 = .ok (.aload_n 0, 1) := by decide +kernel
theorem dX12_laysWorked_69 : decode cX12_laysWorked 69 = .ok (.iload_n 2, 1) := by decide +kernel
theorem dX12_laysWorked_70 : decode cX12_laysWorked 70 = .ok (.iload_n 3, 1) := by decide +kernel
theorem dX12_laysWorked_71 : decode cX12_laysWorked 71 = .ok (.invokevirtual 229, 3) := by decide +kernel
theorem dX12_laysWorked_74 : decode cX12_laysWorked 74 = .ok (.ifCond .eq 7, 3) := by decide +kernel
theorem dX12_laysWorked_77 : decode cX12_laysWorked 77 = .ok (.iconst 1, 1) := by decide +kernel
theorem dX12_laysWorked_78 : decode cX12_laysWorked 78 = .ok (.goto 4, 3) := by decide +kernel
theorem dX12_laysWorked_81 : decode cX12_laysWorked 81 = .ok (.iconst 0, 1) := by decide +kernel
theorem dX12_laysWorked_82 : decode cX12_laysWorked 82 = .ok (.bastore, 1) := by decide +kernel
theorem dX12_laysWorked_83 : decode cX12_laysWorked 83 = .ok (.iinc 3 1, 3) := by decide +kernel
theorem dX12_laysWorked_86 : decode cX12_laysWorked 86 = .ok (.goto (-42), 3) := by decide +kernel
theorem dX12_laysWorked_89 : decode cX12_laysWorked 89 = .ok (.iinc 2 1, 3) := by decide +kernel
theorem dX12_laysWorked_92 : decode cX12_laysWorked 92 = .ok (.goto (-63), 3) := by decide +kernel
theorem dX12_laysWorked_95 : decode cX12_laysWorked 95 = .ok (.return_, 1) := by decide +kernel
set_option maxRecDepth 20000 in
theorem ggX12_dayOf_X12_toldAt : GoodIn wsX12_dayOf wsX12_toldAt := goodIn_r _ [5, 6, 7, 8, 9, 10, 4, 11, 12, 13, 14, 15, 16, 17, 18, 19, 20, 21, 22, 23, 24, 25, 26, 27, 28, 29, 30, 31, 32, 33, 34, 35, 36, 37, 38, 39, 40, 41, 42, 43, 44, 45, 46, 47, 48, 49, 50, 51, 52] (by decide +kernel) (by decide +kernel)
set_option maxRecDepth 20000 in
theorem gX12_dayOf_X12_toldAt : GoodIn wsX12_dayOf (wsV RX12 193 RX12 yX12_toldAt wsX12_toldAt) := goodIn_app (goodIn_of _ (by decide +kernel)) ggX12_dayOf_X12_toldAt
theorem dX12_dayOf_0 : decode cX12_dayOf 0 = .ok (.aload_n 0, 1) := by decide +kernel
theorem dX12_dayOf_1 : decode cX12_dayOf 1 = .ok (.bipush 15, 2) := by decide +kernel
theorem dX12_dayOf_3 : decode cX12_dayOf 3 = .ok (.iload_n 1, 1) := by decide +kernel
theorem dX12_dayOf_4 : decode cX12_dayOf 4 = .ok (.imul, 1) := by decide +kernel
theorem dX12_dayOf_5 : decode cX12_dayOf 5 = .ok (.invokevirtual 193, 3) := by decide +kernel
theorem dX12_dayOf_8 : decode cX12_dayOf 8 = .ok (.sipush 1440, 3) := by decide +kernel
theorem dX12_dayOf_11 : decode cX12_dayOf 11 = .ok (.idiv, 1) := by decide +kernel
theorem dX12_dayOf_12 : decode cX12_dayOf 12 = .ok (.ireturn, 1) := by decide +kernel
set_option maxRecDepth 20000 in
theorem ggX12_hourOf_X12_toldAt : GoodIn wsX12_hourOf wsX12_toldAt := goodIn_r _ [5, 6, 7, 8, 9, 10, 4, 11, 12, 13, 14, 15, 16, 17, 18, 19, 20, 21, 22, 23, 24, 25, 26, 27, 28, 29, 30, 31, 32, 33, 34, 35, 36, 37, 38, 39, 40, 41, 42, 43, 44, 45, 46, 47, 48, 49, 50, 51, 52] (by decide +kernel) (by decide +kernel)
set_option maxRecDepth 20000 in
theorem gX12_hourOf_X12_toldAt : GoodIn wsX12_hourOf (wsV RX12 193 RX12 yX12_toldAt wsX12_toldAt) := goodIn_app (goodIn_of _ (by decide +kernel)) ggX12_hourOf_X12_toldAt
theorem dX12_hourOf_0 : decode cX12_hourOf 0 = .ok (.aload_n 0, 1) := by decide +kernel
theorem dX12_hourOf_1 : decode cX12_hourOf 1 = .ok (.bipush 15, 2) := by decide +kernel
theorem dX12_hourOf_3 : decode cX12_hourOf 3 = .ok (.iload_n 1, 1) := by decide +kernel
theorem dX12_hourOf_4 : decode cX12_hourOf 4 = .ok (.imul, 1) := by decide +kernel
theorem dX12_hourOf_5 : decode cX12_hourOf 5 = .ok (.invokevirtual 193, 3) := by decide +kernel
theorem dX12_hourOf_8 : decode cX12_hourOf 8 = .ok (.sipush 1440, 3) := by decide +kernel
theorem dX12_hourOf_11 : decode cX12_hourOf 11 = .ok (.irem, 1) := by decide +kernel
theorem dX12_hourOf_12 : decode cX12_hourOf 12 = .ok (.bipush 60, 2) := by decide +kernel
theorem dX12_hourOf_14 : decode cX12_hourOf 14 = .ok (.idiv, 1) := by decide +kernel
theorem dX12_hourOf_15 : decode cX12_hourOf 15 = .ok (.ireturn, 1) := by decide +kernel
set_option maxRecDepth 20000 in
theorem ggX12_isNight_X12_premiumIs : GoodIn wsX12_isNight wsX12_premiumIs := goodIn_r _ [5, 6, 7, 8, 9, 10, 11, 12, 13, 14, 15, 16, 17, 18, 19, 20, 21, 22, 23, 24, 25, 26, 27, 28, 29, 30, 31, 32, 33, 34, 35, 36, 37, 38, 39, 40, 41, 42, 43, 44] (by decide +kernel) (by decide +kernel)
set_option maxRecDepth 20000 in
theorem gX12_isNight_X12_premiumIs : GoodIn wsX12_isNight (wsV RX12 180 RX12 yX12_premiumIs wsX12_premiumIs) := goodIn_app (goodIn_of _ (by decide +kernel)) ggX12_isNight_X12_premiumIs
theorem dX12_isNight_0 : decode cX12_isNight 0 = .ok (.aload_n 0, 1) := by decide +kernel
theorem dX12_isNight_1 : decode cX12_isNight 1 = .ok (.iload_n 1, 1) := by decide +kernel
theorem dX12_isNight_2 : decode cX12_isNight 2 = .ok (.iconst 3, 1) := by decide +kernel
theorem dX12_isNight_3 : decode cX12_isNight 3 = .ok (.invokevirtual 180, 3) := by decide +kernel
theorem dX12_isNight_6 : decode cX12_isNight 6 = .ok (.istore_n 3, 1) := by decide +kernel
theorem dX12_isNight_7 : decode cX12_isNight 7 = .ok (.aload_n 0, 1) := by decide +kernel
theorem dX12_isNight_8 : decode cX12_isNight 8 = .ok (.iload_n 1, 1) := by decide +kernel
theorem dX12_isNight_9 : decode cX12_isNight 9 = .ok (.iconst 4, 1) := by decide +kernel
theorem dX12_isNight_10 : decode cX12_isNight 10 = .ok (.invokevirtual 180, 3) := by decide +kernel
theorem dX12_isNight_13 : decode cX12_isNight 13 = .ok (.istore 4, 2) := by decide +kernel
theorem dX12_isNight_15 : decode cX12_isNight 15 = .ok (.iload_n 3, 1) := by decide +kernel
theorem dX12_isNight_16 : decode cX12_isNight 16 = .ok (.iload 4, 2) := by decide +kernel
theorem dX12_isNight_18 : decode cX12_isNight 18 = .ok (.if_icmp .le 22, 3) := by decide +kernel
theorem dX12_isNight_21 : decode cX12_isNight 21 = .ok (.iload_n 2, 1) := by decide +kernel
theorem dX12_isNight_22 : decode cX12_isNight 22 = .ok (.iload_n 3, 1) := by decide +kernel
theorem dX12_isNight_23 : decode cX12_isNight 23 = .ok (.if_icmp .ge 9, 3) := by decide +kernel
theorem dX12_isNight_26 : decode cX12_isNight 26 = .ok (.iload_n 2, 1) := by decide +kernel
theorem dX12_isNight_27 : decode cX12_isNight 27 = .ok (.iload 4, 2) := by decide +kernel
theorem dX12_isNight_29 : decode cX12_isNight 29 = .ok (.if_icmp .ge 7, 3) := by decide +kernel
theorem dX12_isNight_32 : decode cX12_isNight 32 = .ok (.iconst 1, 1) := by decide +kernel
theorem dX12_isNight_33 : decode cX12_isNight 33 = .ok (.goto 23, 3) := by decide +kernel
theorem dX12_isNight_36 : decode cX12_isNight 36 = .ok (.iconst 0, 1) := by decide +kernel
theorem dX12_isNight_37 : decode cX12_isNight 37 = .ok (.goto 19, 3) := by decide +kernel
theorem dX12_isNight_40 : decode cX12_isNight 40 = .ok (.iload_n 2, 1) := by decide +kernel
theorem dX12_isNight_41 : decode cX12_isNight 41 = .ok (.iload_n 3, 1) := by decide +kernel
theorem dX12_isNight_42 : decode cX12_isNight 42 = .ok (.if_icmp .lt 13, 3) := by decide +kernel
theorem dX12_isNight_45 : decode cX12_isNight 45 = .ok (.iload_n 2, 1) := by decide +kernel
theorem dX12_isNight_46 : decode cX12_isNight 46 = .ok (.iload 4, 2) := by decide +kernel
theorem dX12_isNight_48 : decode cX12_isNight 48 = .ok (.if_icmp .ge 7, 3) := by decide +kernel
theorem dX12_isNight_51 : decode cX12_isNight 51 = .ok (.iconst 1, 1) := by decide +kernel
theorem dX12_isNight_52 : decode cX12_isNight 52 = .ok (.goto 4, 3) := by decide +kernel
theorem dX12_isNight_55 : decode cX12_isNight 55 = .ok (.iconst 0, 1) := by decide +kernel
theorem dX12_isNight_56 : decode cX12_isNight 56 = .ok (.ireturn, 1) := by decide +kernel
set_option maxRecDepth 20000 in
theorem ggX12_laysQuarters_X12_dayOf : GoodIn wsX12_laysQuarters wsX12_dayOf := goodIn_r _ [9, 10, 11, 12, 8, 13, 14, 15, 16, 17, 18, 19, 20, 21, 22, 43, 44, 45, 46, 47, 48, 49, 50, 51, 52, 53, 54, 55, 56, 57, 58, 59, 60, 61, 62, 63, 64, 65, 66, 67, 68, 69, 70, 71, 72, 73, 74, 75, 76, 77, 78, 79, 80] (by decide +kernel) (by decide +kernel)
set_option maxRecDepth 20000 in
theorem gX12_laysQuarters_X12_dayOf : GoodIn wsX12_laysQuarters (wsV RX12 235 RX12 yX12_dayOf wsX12_dayOf) := goodIn_app (goodIn_of _ (by decide +kernel)) ggX12_laysQuarters_X12_dayOf
set_option maxRecDepth 20000 in
theorem ggX12_laysQuarters_X12_premiums : GoodIn wsX12_laysQuarters wsX12_premiums := goodIn_r _ [26, 14, 43, 44, 45, 46, 47, 48, 49, 50, 51, 52, 53, 54, 55, 56, 57, 58, 59, 60, 61, 62, 63, 64, 65, 66, 67, 68, 69, 70, 71, 72, 73, 74, 75, 76, 77, 78, 79, 80] (by decide +kernel) (by decide +kernel)
set_option maxRecDepth 20000 in
theorem gX12_laysQuarters_X12_premiums : GoodIn wsX12_laysQuarters (wsV RX12 177 RX12 yX12_premiums wsX12_premiums) := goodIn_app (goodIn_of _ (by decide +kernel)) ggX12_laysQuarters_X12_premiums
set_option maxRecDepth 20000 in
theorem ggX12_laysQuarters_X12_isMay : GoodIn wsX12_laysQuarters wsX12_isMay := goodIn_r _ [30, 14, 31, 32, 33, 8, 34, 35, 36, 37, 38, 10, 11, 12, 13, 15, 16, 17, 18, 19, 20, 21, 22, 39, 40, 41, 42, 43, 44, 45, 46, 47, 48, 49, 50, 51, 52, 53, 54, 55, 56, 57, 58, 59, 60, 61, 62, 63, 64, 65, 66, 67, 68, 69, 70, 71, 72, 73, 74, 75, 76, 77, 78, 79, 80] (by decide +kernel) (by decide +kernel)
set_option maxRecDepth 20000 in
theorem gX12_laysQuarters_X12_isMay : GoodIn wsX12_laysQuarters (wsV RX12 238 RX12 yX12_isMay wsX12_isMay) := goodIn_app (goodIn_of _ (by decide +kernel)) ggX12_laysQuarters_X12_isMay
theorem dX12_laysQuarters_0 : decode cX12_laysQuarters 0 = .ok (.aload_n 0, 1) := by decide +kernel
theorem dX12_laysQuarters_1 : decode cX12_laysQuarters 1 = .ok (.iconst 0, 1) := by decide +kernel
theorem dX12_laysQuarters_2 : decode cX12_laysQuarters 2 = .ok (.putfield 232, 3) := by decide +kernel
theorem dX12_laysQuarters_5 : decode cX12_laysQuarters 5 = .ok (.iconst 0, 1) := by decide +kernel
theorem dX12_laysQuarters_6 : decode cX12_laysQuarters 6 = .ok (.istore_n 2, 1) := by decide +kernel
theorem dX12_laysQuarters_7 : decode cX12_laysQuarters 7 = .ok (.iconst (-1), 1) := by decide +kernel
theorem dX12_laysQuarters_8 : decode cX12_laysQuarters 8 = .ok (.istore_n 3, 1) := by decide +kernel
theorem dX12_laysQuarters_9 : decode cX12_laysQuarters 9 = .ok (.iconst 0, 1) := by decide +kernel
theorem dX12_laysQuarters_10 : decode cX12_laysQuarters 10 = .ok (.istore 4, 2) := by decide +kernel
theorem dX12_laysQuarters_12 : decode cX12_laysQuarters 12 = .ok (.iconst 0, 1) := by decide +kernel
theorem dX12_laysQuarters_13 : decode cX12_laysQuarters 13 = .ok (.istore 5, 2) := by decide +kernel
theorem dX12_laysQuarters_15 : decode cX12_laysQuarters 15 = .ok (.iload 5, 2) := by decide +kernel
theorem dX12_laysQuarters_17 : decode cX12_laysQuarters 17 = .ok (.sipush 2720, 3) := by decide +kernel
theorem dX12_laysQuarters_20 : decode cX12_laysQuarters 20 = .ok (.if_icmp .ge 154, 3) := by decide +kernel
theorem dX12_laysQuarters_23 : decode cX12_laysQuarters 23 = .ok (.aload_n 0, 1) := by decide +kernel
theorem dX12_laysQuarters_24 : decode cX12_laysQuarters 24 = .ok (.getfield 89, 3) := by decide +kernel
theorem dX12_laysQuarters_27 : decode cX12_laysQuarters 27 = .ok (.iload 5, 2) := by decide +kernel
theorem dX12_laysQuarters_29 : decode cX12_laysQuarters 29 = .ok (.baload, 1) := by decide +kernel
theorem dX12_laysQuarters_30 : decode cX12_laysQuarters 30 = .ok (.ifCond .eq 138, 3) := by decide +kernel
theorem dX12_laysQuarters_33 : decode cX12_laysQuarters 33 = .ok (.aload_n 0, 1) := by decide +kernel
theorem dX12_laysQuarters_34 : decode cX12_laysQuarters 34 = .ok (.iload 5, 2) := by decide +kernel
theorem dX12_laysQuarters_36 : decode cX12_laysQuarters 36 = .ok (.invokevirtual 235, 3) := by decide +kernel
theorem dX12_laysQuarters_39 : decode cX12_laysQuarters 39 = .ok (.bipush 7, 2) := by decide +kernel
theorem dX12_laysQuarters_41 : decode cX12_laysQuarters 41 = .ok (.idiv, 1) := by decide +kernel
theorem dX12_laysQuarters_42 : decode cX12_laysQuarters 42 = .ok (.iload_n 1, 1) := by decide +kernel
theorem dX12_laysQuarters_43 : decode cX12_laysQuarters 43 = .ok (.if_icmp .ne 125, 3) := by decide +kernel
theorem dX12_laysQuarters_46 : decode cX12_laysQuarters 46 = .ok (.aload_n 0, 1) := by decide +kernel
theorem dX12_laysQuarters_47 : decode cX12_laysQuarters 47 = .ok (.iload 5, 2) := by decide +kernel
theorem dX12_laysQuarters_49 : decode cX12_laysQuarters 49 = .ok (.invokevirtual 235, 3) := by decide +kernel
theorem dX12_laysQuarters_52 : decode cX12_laysQuarters 52 = .ok (.istore 6, 2) := by decide +kernel
theorem dX12_laysQuarters_54 : decode cX12_laysQuarters 54 = .ok (.iload 6, 2) := by decide +kernel
theorem dX12_laysQuarters_56 : decode cX12_laysQuarters 56 = .ok (.iload_n 3, 1) := by decide +kernel
theorem dX12_laysQuarters_57 : decode cX12_laysQuarters 57 = .ok (.if_icmp .ne 10, 3) := by decide +kernel
theorem dX12_laysQuarters_60 : decode cX12_laysQuarters 60 = .ok (.iload 4, 2) := by decide +kernel
theorem dX12_laysQuarters_62 : decode cX12_laysQuarters 62 = .ok (.iconst 1, 1) := by decide +kernel
theorem dX12_laysQuarters_63 : decode cX12_laysQuarters 63 = .ok (.iadd, 1) := by decide +kernel
theorem dX12_laysQuarters_64 : decode cX12_laysQuarters 64 = .ok (.goto 4, 3) := by decide +kernel
theorem dX12_laysQuarters_67 : decode cX12_laysQuarters 67 = .ok (.iconst 0, 1) := by decide +kernel
theorem dX12_laysQuarters_68 : decode cX12_laysQuarters 68 = .ok (.istore 4, 2) := by decide +kernel
theorem dX12_laysQuarters_70 : decode cX12_laysQuarters 70 = .ok (.iload 6, 2) := by decide +kernel
theorem dX12_laysQuarters_72 : decode cX12_laysQuarters 72 = .ok (.istore_n 3, 1) := by decide +kernel
theorem dX12_laysQuarters_73 : decode cX12_laysQuarters 73 = .ok (.iload_n 2, 1) := by decide +kernel
theorem dX12_laysQuarters_74 : decode cX12_laysQuarters 74 = .ok (.iconst 1, 1) := by decide +kernel
theorem dX12_laysQuarters_75 : decode cX12_laysQuarters 75 = .ok (.iload 6, 2) := by decide +kernel
theorem dX12_laysQuarters_77 : decode cX12_laysQuarters 77 = .ok (.bipush 7, 2) := by decide +kernel
theorem dX12_laysQuarters_79 : decode cX12_laysQuarters 79 = .ok (.irem, 1) := by decide +kernel
theorem dX12_laysQuarters_80 : decode cX12_laysQuarters 80 = .ok (.ishl, 1) := by decide +kernel
theorem dX12_laysQuarters_81 : decode cX12_laysQuarters 81 = .ok (.ior, 1) := by decide +kernel
theorem dX12_laysQuarters_82 : decode cX12_laysQuarters 82 = .ok (.istore_n 2, 1) := by decide +kernel
theorem dX12_laysQuarters_83 : decode cX12_laysQuarters 83 = .ok (.aload_n 0, 1) := by decide +kernel
theorem dX12_laysQuarters_84 : decode cX12_laysQuarters 84 = .ok (.getfield 93, 3) := by decide +kernel
theorem dX12_laysQuarters_87 : decode cX12_laysQuarters 87 = .ok (.aload_n 0, 1) := by decide +kernel
theorem dX12_laysQuarters_88 : decode cX12_laysQuarters 88 = .ok (.getfield 232, 3) := by decide +kernel
theorem dX12_laysQuarters_91 : decode cX12_laysQuarters 91 = .ok (.iload 5, 2) := by decide +kernel
theorem dX12_laysQuarters_93 : decode cX12_laysQuarters 93 = .ok (.iastore, 1) := by decide +kernel
theorem dX12_laysQuarters_94 : decode cX12_laysQuarters 94 = .ok (.aload_n 0, 1) := by decide +kernel
theorem dX12_laysQuarters_95 : decode cX12_laysQuarters 95 = .ok (.getfield 96, 3) := by decide +kernel
theorem dX12_laysQuarters_98 : decode cX12_laysQuarters 98 = .ok (.aload_n 0, 1) := by decide +kernel
theorem dX12_laysQuarters_99 : decode cX12_laysQuarters 99 = .ok (.getfield 232, 3) := by decide +kernel
theorem dX12_laysQuarters_102 : decode cX12_laysQuarters 102 = .ok (.iconst 0, 1) := by decide +kernel
theorem dX12_laysQuarters_103 : decode cX12_laysQuarters 103 = .ok (.iastore, 1) := by decide +kernel
theorem dX12_laysQuarters_104 : decode cX12_laysQuarters 104 = .ok (.iconst 0, 1) := by decide +kernel
theorem dX12_laysQuarters_105 : decode cX12_laysQuarters 105 = .ok (.istore 7, 2) := by decide +kernel
theorem dX12_laysQuarters_107 : decode cX12_laysQuarters 107 = .ok (.iload 7, 2) := by decide +kernel
theorem dX12_laysQuarters_109 : decode cX12_laysQuarters 109 = .ok (.aload_n 0, 1) := by decide +kernel
theorem dX12_laysQuarters_110 : decode cX12_laysQuarters 110 = .ok (.invokevirtual 177, 3) := by decide +kernel
theorem dX12_laysQuarters_113 : decode cX12_laysQuarters 113 = .ok (.if_icmp .ge 45, 3) := by decide +kernel
theorem dX12_laysQuarters_116 : decode cX12_laysQuarters 116 = .ok (.aload_n 0, 1) := by decide +kernel
theorem dX12_laysQuarters_117 : decode cX12_laysQuarters 117 = .ok (.getfield 96, 3) := by decide +kernel
theorem dX12_laysQuarters_120 : decode cX12_laysQuarters 120 = .ok (.aload_n 0, 1) := by decide +kernel
theorem dX12_laysQuarters_121 : decode cX12_laysQuarters 121 = .ok (.getfield 232, 3) := by decide +kernel
theorem dX12_laysQuarters_124 : decode cX12_laysQuarters 124 = .ok (.dup2, 1) := by decide +kernel
theorem dX12_laysQuarters_125 : decode cX12_laysQuarters 125 = .ok (.iaload, 1) := by decide +kernel
theorem dX12_laysQuarters_126 : decode cX12_laysQuarters 126 = .ok (.aload_n 0, 1) := by decide +kernel
theorem dX12_laysQuarters_127 : decode cX12_laysQuarters 127 = .ok (.iload 7, 2) := by decide +kernel
theorem dX12_laysQuarters_129 : decode cX12_laysQuarters 129 = .ok (.iload 5, 2) := by decide +kernel
theorem dX12_laysQuarters_131 : decode cX12_laysQuarters 131 = .ok (.iload 6, 2) := by decide +kernel
theorem dX12_laysQuarters_133 : decode cX12_laysQuarters 133 = .ok (.iload 4, 2) := by decide +kernel
theorem dX12_laysQuarters_135 : decode cX12_laysQuarters 135 = .ok (.iload_n 2, 1) := by decide +kernel
theorem dX12_laysQuarters_136 : decode cX12_laysQuarters 136 = .ok (.invokevirtual 238, 3) := by decide +kernel
theorem dX12_laysQuarters_139 : decode cX12_laysQuarters 139 = .ok (.ifCond .eq 10, 3) := by decide +kernel
theorem dX12_laysQuarters_142 : decode cX12_laysQuarters 142 = .ok (.iconst 1, 1) := by decide +kernel
theorem dX12_laysQuarters_143 : decode cX12_laysQuarters 143 = .ok (.iload 7, 2) := by decide +kernel
theorem dX12_laysQuarters_145 : decode cX12_laysQuarters 145 = .ok (.ishl, 1) := by decide +kernel
theorem dX12_laysQuarters_146 : decode cX12_laysQuarters 146 = .ok (.goto 4, 3) := by decide +kernel
theorem dX12_laysQuarters_149 : decode cX12_laysQuarters 149 = .ok (.iconst 0, 1) := by decide +kernel
theorem dX12_laysQuarters_150 : decode cX12_laysQuarters 150 = .ok (.ior, 1) := by decide +kernel
theorem dX12_laysQuarters_151 : decode cX12_laysQuarters 151 = .ok (.iastore, 1) := by decide +kernel
theorem dX12_laysQuarters_152 : decode cX12_laysQuarters 152 = .ok (.iinc 7 1, 3) := by decide +kernel
theorem dX12_laysQuarters_155 : decode cX12_laysQuarters 155 = .ok (.goto (-48), 3) := by decide +kernel
theorem dX12_laysQuarters_158 : decode cX12_laysQuarters 158 = .ok (.aload_n 0, 1) := by decide +kernel
theorem dX12_laysQuarters_159 : decode cX12_laysQuarters 159 = .ok (.dup, 1) := by decide +kernel
theorem dX12_laysQuarters_160 : decode cX12_laysQuarters 160 = .ok (.getfield 232, 3) := by decide +kernel
theorem dX12_laysQuarters_163 : decode cX12_laysQuarters 163 = .ok (.iconst 1, 1) := by decide +kernel
theorem dX12_laysQuarters_164 : decode cX12_laysQuarters 164 = .ok (.iadd, 1) := by decide +kernel
theorem dX12_laysQuarters_165 : decode cX12_laysQuarters 165 = .ok (.putfield 232, 3) := by decide +kernel
theorem dX12_laysQuarters_168 : decode cX12_laysQuarters 168 = .ok (.iinc 5 1, 3) := by decide +kernel
theorem dX12_laysQuarters_171 : decode cX12_laysQuarters 171 = .ok (.goto (-156), 3) := by decide +kernel
theorem dX12_laysQuarters_174 : decode cX12_laysQuarters 174 = .ok (.return_, 1) := by decide +kernel
set_option maxRecDepth 20000 in
theorem ggX12_isMay_X12_premiumIs : GoodIn wsX12_isMay wsX12_premiumIs := goodIn_r _ [6, 1, 27, 28, 29, 30, 31, 32, 33, 34, 35, 36, 37, 38, 39, 40, 41, 42, 43, 44, 45, 46, 47, 48, 49, 50, 51, 52, 53, 54, 55, 56, 57, 58, 59, 60, 61, 62, 63, 64] (by decide +kernel) (by decide +kernel)
set_option maxRecDepth 20000 in
theorem gX12_isMay_X12_premiumIs : GoodIn wsX12_isMay (wsV RX12 180 RX12 yX12_premiumIs wsX12_premiumIs) := goodIn_app (goodIn_of _ (by decide +kernel)) ggX12_isMay_X12_premiumIs
set_option maxRecDepth 20000 in
theorem ggX12_isMay_X12_hourOf : GoodIn wsX12_isMay wsX12_hourOf := goodIn_r _ [10, 11, 12, 13, 5, 14, 1, 15, 16, 17, 18, 19, 20, 21, 22, 27, 28, 29, 30, 31, 32, 33, 34, 35, 36, 37, 38, 39, 40, 41, 42, 43, 44, 45, 46, 47, 48, 49, 50, 51, 52, 53, 54, 55, 56, 57, 58, 59, 60, 61, 62, 63, 64] (by decide +kernel) (by decide +kernel)
set_option maxRecDepth 20000 in
theorem gX12_isMay_X12_hourOf : GoodIn wsX12_isMay (wsV RX12 242 RX12 yX12_hourOf wsX12_hourOf) := goodIn_app (goodIn_of _ (by decide +kernel)) ggX12_isMay_X12_hourOf
set_option maxRecDepth 20000 in
theorem ggX12_isMay_X12_isNight : GoodIn wsX12_isMay wsX12_isNight := goodIn_r _ [26, 2, 3, 4, 5, 6, 1, 27, 28, 29, 30, 31, 32, 33, 34, 35, 36, 37, 38, 39, 40, 41, 42, 43, 44, 45, 46, 47, 48, 49, 50, 51, 52, 53, 54, 55, 56, 57, 58, 59, 60, 61, 62, 63, 64] (by decide +kernel) (by decide +kernel)
set_option maxRecDepth 20000 in
theorem gX12_isMay_X12_isNight : GoodIn wsX12_isMay (wsV RX12 245 RX12 yX12_isNight wsX12_isNight) := goodIn_app (goodIn_of _ (by decide +kernel)) ggX12_isMay_X12_isNight
theorem dX12_isMay_0 : decode cX12_isMay 0 = .ok (.aload_n 0, 1) := by decide +kernel
theorem dX12_isMay_1 : decode cX12_isMay 1 = .ok (.iload_n 1, 1) := by decide +kernel
theorem dX12_isMay_2 : decode cX12_isMay 2 = .ok (.iconst 0, 1) := by decide +kernel
theorem dX12_isMay_3 : decode cX12_isMay 3 = .ok (.invokevirtual 180, 3) := by decide +kernel
theorem dX12_isMay_6 : decode cX12_isMay 6 = .ok (.tableswitch 85 0 3 #[30, 47, 49, 74], 30) := by decide +kernel
theorem dX12_isMay_36 : decode cX12_isMay 36 = .ok (.iload 4, 2) := by decide +kernel
theorem dX12_isMay_38 : decode cX12_isMay 38 = .ok (.aload_n 0, 1) := by decide +kernel
theorem dX12_isMay_39 : decode cX12_isMay 39 = .ok (.iload_n 1, 1) := by decide +kernel
theorem dX12_isMay_40 : decode cX12_isMay 40 = .ok (.iconst 3, 1) := by decide +kernel
theorem dX12_isMay_41 : decode cX12_isMay 41 = .ok (.invokevirtual 180, 3) := by decide +kernel
theorem dX12_isMay_44 : decode cX12_isMay 44 = .ok (.if_icmp .lt 7, 3) := by decide +kernel
theorem dX12_isMay_47 : decode cX12_isMay 47 = .ok (.iconst 1, 1) := by decide +kernel
theorem dX12_isMay_48 : decode cX12_isMay 48 = .ok (.goto 4, 3) := by decide +kernel
theorem dX12_isMay_51 : decode cX12_isMay 51 = .ok (.iconst 0, 1) := by decide +kernel
theorem dX12_isMay_52 : decode cX12_isMay 52 = .ok (.ireturn, 1) := by decide +kernel
theorem dX12_isMay_53 : decode cX12_isMay 53 = .ok (.iconst 0, 1) := by decide +kernel
theorem dX12_isMay_54 : decode cX12_isMay 54 = .ok (.ireturn, 1) := by decide +kernel
theorem dX12_isMay_55 : decode cX12_isMay 55 = .ok (.iload_n 3, 1) := by decide +kernel
theorem dX12_isMay_56 : decode cX12_isMay 56 = .ok (.bipush 7, 2) := by decide +kernel
theorem dX12_isMay_58 : decode cX12_isMay 58 = .ok (.irem, 1) := by decide +kernel
theorem dX12_isMay_59 : decode cX12_isMay 59 = .ok (.bipush 6, 2) := by decide +kernel
theorem dX12_isMay_61 : decode cX12_isMay 61 = .ok (.if_icmp .ne 17, 3) := by decide +kernel
theorem dX12_isMay_64 : decode cX12_isMay 64 = .ok (.iload 5, 2) := by decide +kernel
theorem dX12_isMay_66 : decode cX12_isMay 66 = .ok (.bipush 63, 2) := by decide +kernel
theorem dX12_isMay_68 : decode cX12_isMay 68 = .ok (.iand, 1) := by decide +kernel
theorem dX12_isMay_69 : decode cX12_isMay 69 = .ok (.bipush 63, 2) := by decide +kernel
theorem dX12_isMay_71 : decode cX12_isMay 71 = .ok (.if_icmp .ne 7, 3) := by decide +kernel
theorem dX12_isMay_74 : decode cX12_isMay 74 = .ok (.iconst 1, 1) := by decide +kernel
theorem dX12_isMay_75 : decode cX12_isMay 75 = .ok (.goto 4, 3) := by decide +kernel
theorem dX12_isMay_78 : decode cX12_isMay 78 = .ok (.iconst 0, 1) := by decide +kernel
theorem dX12_isMay_79 : decode cX12_isMay 79 = .ok (.ireturn, 1) := by decide +kernel
theorem dX12_isMay_80 : decode cX12_isMay 80 = .ok (.aload_n 0, 1) := by decide +kernel
theorem dX12_isMay_81 : decode cX12_isMay 81 = .ok (.iload_n 1, 1) := by decide +kernel
theorem dX12_isMay_82 : decode cX12_isMay 82 = .ok (.aload_n 0, 1) := by decide +kernel
theorem dX12_isMay_83 : decode cX12_isMay 83 = .ok (.iload_n 2, 1) := by decide +kernel
theorem dX12_isMay_84 : decode cX12_isMay 84 = .ok (.invokevirtual 242, 3) := by decide +kernel
theorem dX12_isMay_87 : decode cX12_isMay 87 = .ok (.invokevirtual 245, 3) := by decide +kernel
theorem dX12_isMay_90 : decode cX12_isMay 90 = .ok (.ireturn, 1) := by decide +kernel
theorem dX12_isMay_91 : decode cX12_isMay 91 = .ok (.aload_n 0, 1) := by decide +kernel
theorem dX12_isMay_92 : decode cX12_isMay 92 = .ok (.getfield 61, 3) := by decide +kernel
theorem dX12_isMay_95 : decode cX12_isMay 95 = .ok (.bipush 8, 2) := by decide +kernel
theorem dX12_isMay_97 : decode cX12_isMay 97 = .ok (.iaload, 1) := by decide +kernel
theorem dX12_isMay_98 : decode cX12_isMay 98 = .ok (.iload_n 3, 1) := by decide +kernel
theorem dX12_isMay_99 : decode cX12_isMay 99 = .ok (.ishr, 1) := by decide +kernel
theorem dX12_isMay_100 : decode cX12_isMay 100 = .ok (.iconst 1, 1) := by decide +kernel
theorem dX12_isMay_101 : decode cX12_isMay 101 = .ok (.iand, 1) := by decide +kernel
theorem dX12_isMay_102 : decode cX12_isMay 102 = .ok (.iconst 1, 1) := by decide +kernel
theorem dX12_isMay_103 : decode cX12_isMay 103 = .ok (.if_icmp .ne 7, 3) := by decide +kernel
theorem dX12_isMay_106 : decode cX12_isMay 106 = .ok (.iconst 1, 1) := by decide +kernel
theorem dX12_isMay_107 : decode cX12_isMay 107 = .ok (.goto 4, 3) := by decide +kernel
theorem dX12_isMay_110 : decode cX12_isMay 110 = .ok (.iconst 0, 1) := by decide +kernel
theorem dX12_isMay_111 : decode cX12_isMay 111 = .ok (.ireturn, 1) := by decide +kernel
set_option maxRecDepth 20000 in
theorem ggX12_canBe_X12_premiumIs : GoodIn wsX12_canBe wsX12_premiumIs := goodIn_r _ [6, 7, 8, 9, 10, 11, 12, 13, 14, 15, 16, 17, 18, 19, 20, 21, 22, 23, 24, 25, 26, 27, 28, 29, 30, 31, 32, 33, 34, 35, 36, 37, 38, 39, 40, 41, 42, 43, 44, 45] (by decide +kernel) (by decide +kernel)
set_option maxRecDepth 20000 in
theorem gX12_canBe_X12_premiumIs : GoodIn wsX12_canBe (wsV RX12 180 RX12 yX12_premiumIs wsX12_premiumIs) := goodIn_app (goodIn_of _ (by decide +kernel)) ggX12_canBe_X12_premiumIs
theorem dX12_canBe_0 : decode cX12_canBe 0 = .ok (.aload_n 0, 1) := by decide +kernel
theorem dX12_canBe_1 : decode cX12_canBe 1 = .ok (.iload_n 2, 1) := by decide +kernel
theorem dX12_canBe_2 : decode cX12_canBe 2 = .ok (.iconst 0, 1) := by decide +kernel
theorem dX12_canBe_3 : decode cX12_canBe 3 = .ok (.invokevirtual 180, 3) := by decide +kernel
theorem dX12_canBe_6 : decode cX12_canBe 6 = .ok (.iconst 1, 1) := by decide +kernel
theorem dX12_canBe_7 : decode cX12_canBe 7 = .ok (.if_icmp .ne 21, 3) := by decide +kernel
theorem dX12_canBe_10 : decode cX12_canBe 10 = .ok (.iload_n 3, 1) := by decide +kernel
theorem dX12_canBe_11 : decode cX12_canBe 11 = .ok (.aload_n 0, 1) := by decide +kernel
theorem dX12_canBe_12 : decode cX12_canBe 12 = .ok (.iload_n 2, 1) := by decide +kernel
theorem dX12_canBe_13 : decode cX12_canBe 13 = .ok (.iconst 3, 1) := by decide +kernel
theorem dX12_canBe_14 : decode cX12_canBe 14 = .ok (.invokevirtual 180, 3) := by decide +kernel
theorem dX12_canBe_17 : decode cX12_canBe 17 = .ok (.if_icmp .lt 7, 3) := by decide +kernel
theorem dX12_canBe_20 : decode cX12_canBe 20 = .ok (.iconst 1, 1) := by decide +kernel
theorem dX12_canBe_21 : decode cX12_canBe 21 = .ok (.goto 26, 3) := by decide +kernel
theorem dX12_canBe_24 : decode cX12_canBe 24 = .ok (.iconst 0, 1) := by decide +kernel
theorem dX12_canBe_25 : decode cX12_canBe 25 = .ok (.goto 22, 3) := by decide +kernel
theorem dX12_canBe_28 : decode cX12_canBe 28 = .ok (.aload_n 0, 1) := by decide +kernel
theorem dX12_canBe_29 : decode cX12_canBe 29 = .ok (.getfield 96, 3) := by decide +kernel
theorem dX12_canBe_32 : decode cX12_canBe 32 = .ok (.iload_n 1, 1) := by decide +kernel
theorem dX12_canBe_33 : decode cX12_canBe 33 = .ok (.iaload, 1) := by decide +kernel
theorem dX12_canBe_34 : decode cX12_canBe 34 = .ok (.iload_n 2, 1) := by decide +kernel
theorem dX12_canBe_35 : decode cX12_canBe 35 = .ok (.ishr, 1) := by decide +kernel
theorem dX12_canBe_36 : decode cX12_canBe 36 = .ok (.iconst 1, 1) := by decide +kernel
theorem dX12_canBe_37 : decode cX12_canBe 37 = .ok (.iand, 1) := by decide +kernel
theorem dX12_canBe_38 : decode cX12_canBe 38 = .ok (.iconst 1, 1) := by decide +kernel
theorem dX12_canBe_39 : decode cX12_canBe 39 = .ok (.if_icmp .ne 7, 3) := by decide +kernel
theorem dX12_canBe_42 : decode cX12_canBe 42 = .ok (.iconst 1, 1) := by decide +kernel
theorem dX12_canBe_43 : decode cX12_canBe 43 = .ok (.goto 4, 3) := by decide +kernel
theorem dX12_canBe_46 : decode cX12_canBe 46 = .ok (.iconst 0, 1) := by decide +kernel
theorem dX12_canBe_47 : decode cX12_canBe 47 = .ok (.ireturn, 1) := by decide +kernel
set_option maxRecDepth 20000 in
theorem ggX12_laysWeekPremiums_X12_premiums : GoodIn wsX12_laysWeekPremiums wsX12_premiums := goodIn_r _ [7, 8, 17, 18, 19, 20, 21, 22, 23, 24, 25, 26, 27, 28, 29, 30, 31, 32, 33, 34, 35, 36, 37, 38, 39, 40, 41, 42, 43, 44, 45, 46, 47, 48, 49, 50, 51, 52, 53, 54] (by decide +kernel) (by decide +kernel)
set_option maxRecDepth 20000 in
theorem gX12_laysWeekPremiums_X12_premiums : GoodIn wsX12_laysWeekPremiums (wsV RX12 177 RX12 yX12_premiums wsX12_premiums) := goodIn_app (goodIn_of _ (by decide +kernel)) ggX12_laysWeekPremiums_X12_premiums
set_option maxRecDepth 20000 in
theorem ggX12_laysWeekPremiums_X12_premiumIs : GoodIn wsX12_laysWeekPremiums wsX12_premiumIs := goodIn_r _ [12, 8, 17, 18, 19, 20, 21, 22, 23, 24, 25, 26, 27, 28, 29, 30, 31, 32, 33, 34, 35, 36, 37, 38, 39, 40, 41, 42, 43, 44, 45, 46, 47, 48, 49, 50, 51, 52, 53, 54] (by decide +kernel) (by decide +kernel)
set_option maxRecDepth 20000 in
theorem gX12_laysWeekPremiums_X12_premiumIs : GoodIn wsX12_laysWeekPremiums (wsV RX12 180 RX12 yX12_premiumIs wsX12_premiumIs) := goodIn_app (goodIn_of _ (by decide +kernel)) ggX12_laysWeekPremiums_X12_premiumIs
set_option maxRecDepth 20000 in
theorem ggX12_laysWeekPremiums_X12_adds : GoodIn wsX12_laysWeekPremiums wsX12_adds := goodIn_r _ [16, 1, 2, 17, 18, 19, 20, 21, 22, 23, 24, 25, 26, 27, 28, 29, 30, 31, 32, 33, 34, 35, 36, 37, 38, 39, 40, 41, 42, 43, 44, 45, 46, 47, 48, 49, 50, 51, 52, 53, 54] (by decide +kernel) (by decide +kernel)
set_option maxRecDepth 20000 in
theorem gX12_laysWeekPremiums_X12_adds : GoodIn wsX12_laysWeekPremiums (wsV RX12 248 RX12 yX12_adds wsX12_adds) := goodIn_app (goodIn_of _ (by decide +kernel)) ggX12_laysWeekPremiums_X12_adds
theorem dX12_laysWeekPremiums_0 : decode cX12_laysWeekPremiums 0 = .ok (.iconst 0, 1) := by decide +kernel
theorem dX12_laysWeekPremiums_1 : decode cX12_laysWeekPremiums 1 = .ok (.istore_n 1, 1) := by decide +kernel
theorem dX12_laysWeekPremiums_2 : decode cX12_laysWeekPremiums 2 = .ok (.iload_n 1, 1) := by decide +kernel
theorem dX12_laysWeekPremiums_3 : decode cX12_laysWeekPremiums 3 = .ok (.sipush 680, 3) := by decide +kernel
theorem dX12_laysWeekPremiums_6 : decode cX12_laysWeekPremiums 6 = .ok (.if_icmp .ge 85, 3) := by decide +kernel
theorem dX12_laysWeekPremiums_9 : decode cX12_laysWeekPremiums 9 = .ok (.aload_n 0, 1) := by decide +kernel
theorem dX12_laysWeekPremiums_10 : decode cX12_laysWeekPremiums 10 = .ok (.getfield 112, 3) := by decide +kernel
theorem dX12_laysWeekPremiums_13 : decode cX12_laysWeekPremiums 13 = .ok (.iload_n 1, 1) := by decide +kernel
theorem dX12_laysWeekPremiums_14 : decode cX12_laysWeekPremiums 14 = .ok (.iconst 0, 1) := by decide +kernel
theorem dX12_laysWeekPremiums_15 : decode cX12_laysWeekPremiums 15 = .ok (.iastore, 1) := by decide +kernel
theorem dX12_laysWeekPremiums_16 : decode cX12_laysWeekPremiums 16 = .ok (.aload_n 0, 1) := by decide +kernel
theorem dX12_laysWeekPremiums_17 : decode cX12_laysWeekPremiums 17 = .ok (.getfield 115, 3) := by decide +kernel
theorem dX12_laysWeekPremiums_20 : decode cX12_laysWeekPremiums 20 = .ok (.iload_n 1, 1) := by decide +kernel
theorem dX12_laysWeekPremiums_21 : decode cX12_laysWeekPremiums 21 = .ok (.iconst (-1), 1) := by decide +kernel
theorem dX12_laysWeekPremiums_22 : decode cX12_laysWeekPremiums 22 = .ok (.iastore, 1) := by decide +kernel
theorem dX12_laysWeekPremiums_23 : decode cX12_laysWeekPremiums 23 = .ok (.iconst 0, 1) := by decide +kernel
theorem dX12_laysWeekPremiums_24 : decode cX12_laysWeekPremiums 24 = .ok (.istore_n 2, 1) := by decide +kernel
theorem dX12_laysWeekPremiums_25 : decode cX12_laysWeekPremiums 25 = .ok (.iload_n 2, 1) := by decide +kernel
theorem dX12_laysWeekPremiums_26 : decode cX12_laysWeekPremiums 26 = .ok (.aload_n 0, 1) := by decide +kernel
theorem dX12_laysWeekPremiums_27 : decode cX12_laysWeekPremiums 27 = .ok (.invokevirtual 177, 3) := by decide +kernel
theorem dX12_laysWeekPremiums_30 : decode cX12_laysWeekPremiums 30 = .ok (.if_icmp .ge 55, 3) := by decide +kernel
theorem dX12_laysWeekPremiums_33 : decode cX12_laysWeekPremiums 33 = .ok (.aload_n 0, 1) := by decide +kernel
theorem dX12_laysWeekPremiums_34 : decode cX12_laysWeekPremiums 34 = .ok (.iload_n 2, 1) := by decide +kernel
theorem dX12_laysWeekPremiums_35 : decode cX12_laysWeekPremiums 35 = .ok (.iconst 0, 1) := by decide +kernel
theorem dX12_laysWeekPremiums_36 : decode cX12_laysWeekPremiums 36 = .ok (.invokevirtual 180, 3) := by decide +kernel
theorem dX12_laysWeekPremiums_39 : decode cX12_laysWeekPremiums 39 = .ok (.iconst 1, 1) := by decide +kernel
theorem dX12_laysWeekPremiums_40 : decode cX12_laysWeekPremiums 40 = .ok (.if_icmp .ne 39, 3) := by decide +kernel
theorem dX12_laysWeekPremiums_43 : decode cX12_laysWeekPremiums 43 = .ok (.iload_n 1, 1) := by decide +kernel
theorem dX12_laysWeekPremiums_44 : decode cX12_laysWeekPremiums 44 = .ok (.aload_n 0, 1) := by decide +kernel
theorem dX12_laysWeekPremiums_45 : decode cX12_laysWeekPremiums 45 = .ok (.iload_n 2, 1) := by decide +kernel
theorem dX12_laysWeekPremiums_46 : decode cX12_laysWeekPremiums 46 = .ok (.iconst 3, 1) := by decide +kernel
theorem dX12_laysWeekPremiums_47 : decode cX12_laysWeekPremiums 47 = .ok (.invokevirtual 180, 3) := by decide +kernel
theorem dX12_laysWeekPremiums_50 : decode cX12_laysWeekPremiums 50 = .ok (.if_icmp .lt 29, 3) := by decide +kernel
theorem dX12_laysWeekPremiums_53 : decode cX12_laysWeekPremiums 53 = .ok (.aload_n 0, 1) := by decide +kernel
theorem dX12_laysWeekPremiums_54 : decode cX12_laysWeekPremiums 54 = .ok (.iload_n 1, 1) := by decide +kernel
theorem dX12_laysWeekPremiums_55 : decode cX12_laysWeekPremiums 55 = .ok (.aload_n 0, 1) := by decide +kernel
theorem dX12_laysWeekPremiums_56 : decode cX12_laysWeekPremiums 56 = .ok (.iload_n 2, 1) := by decide +kernel
theorem dX12_laysWeekPremiums_57 : decode cX12_laysWeekPremiums 57 = .ok (.iconst 1, 1) := by decide +kernel
theorem dX12_laysWeekPremiums_58 : decode cX12_laysWeekPremiums 58 = .ok (.invokevirtual 180, 3) := by decide +kernel
theorem dX12_laysWeekPremiums_61 : decode cX12_laysWeekPremiums 61 = .ok (.aload_n 0, 1) := by decide +kernel
theorem dX12_laysWeekPremiums_62 : decode cX12_laysWeekPremiums 62 = .ok (.iload_n 2, 1) := by decide +kernel
theorem dX12_laysWeekPremiums_63 : decode cX12_laysWeekPremiums 63 = .ok (.iconst 2, 1) := by decide +kernel
theorem dX12_laysWeekPremiums_64 : decode cX12_laysWeekPremiums 64 = .ok (.invokevirtual 180, 3) := by decide +kernel
theorem dX12_laysWeekPremiums_67 : decode cX12_laysWeekPremiums 67 = .ok (.iconst 1, 1) := by decide +kernel
theorem dX12_laysWeekPremiums_68 : decode cX12_laysWeekPremiums 68 = .ok (.if_icmp .ne 7, 3) := by decide +kernel
theorem dX12_laysWeekPremiums_71 : decode cX12_laysWeekPremiums 71 = .ok (.iconst 1, 1) := by decide +kernel
theorem dX12_laysWeekPremiums_72 : decode cX12_laysWeekPremiums 72 = .ok (.goto 4, 3) := by decide +kernel
theorem dX12_laysWeekPremiums_75 : decode cX12_laysWeekPremiums 75 = .ok (.iconst 0, 1) := by decide +kernel
theorem dX12_laysWeekPremiums_76 : decode cX12_laysWeekPremiums 76 = .ok (.invokevirtual 248, 3) := by decide +kernel
theorem dX12_laysWeekPremiums_79 : decode cX12_laysWeekPremiums 79 = .ok (.iinc 2 1, 3) := by decide +kernel
theorem dX12_laysWeekPremiums_82 : decode cX12_laysWeekPremiums 82 = .ok (.goto (-57), 3) := by decide +kernel
theorem dX12_laysWeekPremiums_85 : decode cX12_laysWeekPremiums 85 = .ok (.iinc 1 1, 3) := by decide +kernel
theorem dX12_laysWeekPremiums_88 : decode cX12_laysWeekPremiums 88 = .ok (.goto (-86), 3) := by decide +kernel
theorem dX12_laysWeekPremiums_91 : decode cX12_laysWeekPremiums 91 = .ok (.return_, 1) := by decide +kernel
theorem dX12_adds_0 : decode cX12_adds 0 = .ok (.iload_n 3, 1) := by decide +kernel
theorem dX12_adds_1 : decode cX12_adds 1 = .ok (.ifCond .eq 32, 3) := by decide +kernel
theorem dX12_adds_4 : decode cX12_adds 4 = .ok (.aload_n 0, 1) := by decide +kernel
theorem dX12_adds_5 : decode cX12_adds 5 = .ok (.getfield 112, 3) := by decide +kernel
theorem dX12_adds_8 : decode cX12_adds 8 = .ok (.iload_n 1, 1) := by decide +kernel
theorem dX12_adds_9 : decode cX12_adds 9 = .ok (.iload_n 2, 1) := by decide +kernel
theorem dX12_adds_10 : decode cX12_adds 10 = .ok (.aload_n 0, 1) := by decide +kernel
theorem dX12_adds_11 : decode cX12_adds 11 = .ok (.getfield 112, 3) := by decide +kernel
theorem dX12_adds_14 : decode cX12_adds 14 = .ok (.iload_n 1, 1) := by decide +kernel
theorem dX12_adds_15 : decode cX12_adds 15 = .ok (.iaload, 1) := by decide +kernel
theorem dX12_adds_16 : decode cX12_adds 16 = .ok (.if_icmp .le 7, 3) := by decide +kernel
theorem dX12_adds_19 : decode cX12_adds 19 = .ok (.iload_n 2, 1) := by decide +kernel
theorem dX12_adds_20 : decode cX12_adds 20 = .ok (.goto 9, 3) := by decide +kernel
theorem dX12_adds_23 : decode cX12_adds 23 = .ok (.aload_n 0, 1) := by decide +kernel
theorem dX12_adds_24 : decode cX12_adds 24 = .ok (.getfield 112, 3) := by decide +kernel
theorem dX12_adds_27 : decode cX12_adds 27 = .ok (.iload_n 1, 1) := by decide +kernel
theorem dX12_adds_28 : decode cX12_adds 28 = .ok (.iaload, 1) := by decide +kernel
theorem dX12_adds_29 : decode cX12_adds 29 = .ok (.iastore, 1) := by decide +kernel
theorem dX12_adds_30 : decode cX12_adds 30 = .ok (.goto 29, 3) := by decide +kernel
theorem dX12_adds_33 : decode cX12_adds 33 = .ok (.aload_n 0, 1) := by decide +kernel
theorem dX12_adds_34 : decode cX12_adds 34 = .ok (.getfield 115, 3) := by decide +kernel
theorem dX12_adds_37 : decode cX12_adds 37 = .ok (.iload_n 1, 1) := by decide +kernel
theorem dX12_adds_38 : decode cX12_adds 38 = .ok (.iload_n 2, 1) := by decide +kernel
theorem dX12_adds_39 : decode cX12_adds 39 = .ok (.aload_n 0, 1) := by decide +kernel
theorem dX12_adds_40 : decode cX12_adds 40 = .ok (.getfield 115, 3) := by decide +kernel
theorem dX12_adds_43 : decode cX12_adds 43 = .ok (.iload_n 1, 1) := by decide +kernel
theorem dX12_adds_44 : decode cX12_adds 44 = .ok (.iaload, 1) := by decide +kernel
theorem dX12_adds_45 : decode cX12_adds 45 = .ok (.if_icmp .le 7, 3) := by decide +kernel
theorem dX12_adds_48 : decode cX12_adds 48 = .ok (.iload_n 2, 1) := by decide +kernel
theorem dX12_adds_49 : decode cX12_adds 49 = .ok (.goto 9, 3) := by decide +kernel
theorem dX12_adds_52 : decode cX12_adds 52 = .ok (.aload_n 0, 1) := by decide +kernel
theorem dX12_adds_53 : decode cX12_adds 53 = .ok (.getfield 115, 3) := by decide +kernel
theorem dX12_adds_56 : decode cX12_adds 56 = .ok (.iload_n 1, 1) := by decide +kernel
theorem dX12_adds_57 : decode cX12_adds 57 = .ok (.iaload, 1) := by decide +kernel
theorem dX12_adds_58 : decode cX12_adds 58 = .ok (.iastore, 1) := by decide +kernel
theorem dX12_adds_59 : decode cX12_adds 59 = .ok (.return_, 1) := by decide +kernel
set_option maxRecDepth 20000 in
theorem ggX12_mostOf_X12_premiums : GoodIn wsX12_mostOf wsX12_premiums := goodIn_r _ [6, 7, 12, 13, 14, 15, 16, 17, 18, 19, 20, 21, 22, 23, 24, 25, 26, 27, 28, 29, 30, 31, 32, 33, 34, 35, 36, 37, 38, 39, 40, 41, 42, 43, 44, 45, 46, 47, 48, 49] (by decide +kernel) (by decide +kernel)
set_option maxRecDepth 20000 in
theorem gX12_mostOf_X12_premiums : GoodIn wsX12_mostOf (wsV RX12 177 RX12 yX12_premiums wsX12_premiums) := goodIn_app (goodIn_of _ (by decide +kernel)) ggX12_mostOf_X12_premiums
set_option maxRecDepth 20000 in
theorem ggX12_mostOf_X12_premiumIs : GoodIn wsX12_mostOf wsX12_premiumIs := goodIn_r _ [11, 7, 12, 13, 14, 15, 16, 17, 18, 19, 20, 21, 22, 23, 24, 25, 26, 27, 28, 29, 30, 31, 32, 33, 34, 35, 36, 37, 38, 39, 40, 41, 42, 43, 44, 45, 46, 47, 48, 49] (by decide +kernel) (by decide +kernel)
set_option maxRecDepth 20000 in
theorem gX12_mostOf_X12_premiumIs : GoodIn wsX12_mostOf (wsV RX12 180 RX12 yX12_premiumIs wsX12_premiumIs) := goodIn_app (goodIn_of _ (by decide +kernel)) ggX12_mostOf_X12_premiumIs
theorem dX12_mostOf_0 : decode cX12_mostOf 0 = .ok (.iload_n 3, 1) := by decide +kernel
theorem dX12_mostOf_1 : decode cX12_mostOf 1 = .ok (.istore 4, 2) := by decide +kernel
theorem dX12_mostOf_3 : decode cX12_mostOf 3 = .ok (.iconst 0, 1) := by decide +kernel
theorem dX12_mostOf_4 : decode cX12_mostOf 4 = .ok (.istore 5, 2) := by decide +kernel
theorem dX12_mostOf_6 : decode cX12_mostOf 6 = .ok (.iload 5, 2) := by decide +kernel
theorem dX12_mostOf_8 : decode cX12_mostOf 8 = .ok (.aload_n 0, 1) := by decide +kernel
theorem dX12_mostOf_9 : decode cX12_mostOf 9 = .ok (.invokevirtual 177, 3) := by decide +kernel
theorem dX12_mostOf_12 : decode cX12_mostOf 12 = .ok (.if_icmp .ge 82, 3) := by decide +kernel
theorem dX12_mostOf_15 : decode cX12_mostOf 15 = .ok (.aload_n 0, 1) := by decide +kernel
theorem dX12_mostOf_16 : decode cX12_mostOf 16 = .ok (.getfield 96, 3) := by decide +kernel
theorem dX12_mostOf_19 : decode cX12_mostOf 19 = .ok (.iload_n 1, 1) := by decide +kernel
theorem dX12_mostOf_20 : decode cX12_mostOf 20 = .ok (.iaload, 1) := by decide +kernel
theorem dX12_mostOf_21 : decode cX12_mostOf 21 = .ok (.iload 5, 2) := by decide +kernel
theorem dX12_mostOf_23 : decode cX12_mostOf 23 = .ok (.ishr, 1) := by decide +kernel
theorem dX12_mostOf_24 : decode cX12_mostOf 24 = .ok (.iconst 1, 1) := by decide +kernel
theorem dX12_mostOf_25 : decode cX12_mostOf 25 = .ok (.iand, 1) := by decide +kernel
theorem dX12_mostOf_26 : decode cX12_mostOf 26 = .ok (.iconst 1, 1) := by decide +kernel
theorem dX12_mostOf_27 : decode cX12_mostOf 27 = .ok (.if_icmp .ne 27, 3) := by decide +kernel
theorem dX12_mostOf_30 : decode cX12_mostOf 30 = .ok (.aload_n 0, 1) := by decide +kernel
theorem dX12_mostOf_31 : decode cX12_mostOf 31 = .ok (.iload 5, 2) := by decide +kernel
theorem dX12_mostOf_33 : decode cX12_mostOf 33 = .ok (.iconst 2, 1) := by decide +kernel
theorem dX12_mostOf_34 : decode cX12_mostOf 34 = .ok (.invokevirtual 180, 3) := by decide +kernel
theorem dX12_mostOf_37 : decode cX12_mostOf 37 = .ok (.iconst 1, 1) := by decide +kernel
theorem dX12_mostOf_38 : decode cX12_mostOf 38 = .ok (.if_icmp .ne 7, 3) := by decide +kernel
theorem dX12_mostOf_41 : decode cX12_mostOf 41 = .ok (.iconst 1, 1) := by decide +kernel
theorem dX12_mostOf_42 : decode cX12_mostOf 42 = .ok (.goto 4, 3) := by decide +kernel
theorem dX12_mostOf_45 : decode cX12_mostOf 45 = .ok (.iconst 0, 1) := by decide +kernel
theorem dX12_mostOf_46 : decode cX12_mostOf 46 = .ok (.iload_n 2, 1) := by decide +kernel
theorem dX12_mostOf_47 : decode cX12_mostOf 47 = .ok (.if_icmp .ne 7, 3) := by decide +kernel
theorem dX12_mostOf_50 : decode cX12_mostOf 50 = .ok (.iconst 1, 1) := by decide +kernel
theorem dX12_mostOf_51 : decode cX12_mostOf 51 = .ok (.goto 4, 3) := by decide +kernel
theorem dX12_mostOf_54 : decode cX12_mostOf 54 = .ok (.iconst 0, 1) := by decide +kernel
theorem dX12_mostOf_55 : decode cX12_mostOf 55 = .ok (.istore 6, 2) := by decide +kernel
theorem dX12_mostOf_57 : decode cX12_mostOf 57 = .ok (.iload 6, 2) := by decide +kernel
theorem dX12_mostOf_59 : decode cX12_mostOf 59 = .ok (.ifCond .eq 25, 3) := by decide +kernel
theorem dX12_mostOf_62 : decode cX12_mostOf 62 = .ok (.aload_n 0, 1) := by decide +kernel
theorem dX12_mostOf_63 : decode cX12_mostOf 63 = .ok (.iload 5, 2) := by decide +kernel
theorem dX12_mostOf_65 : decode cX12_mostOf 65 = .ok (.iconst 1, 1) := by decide +kernel
theorem dX12_mostOf_66 : decode cX12_mostOf 66 = .ok (.invokevirtual 180, 3) := by decide +kernel
theorem dX12_mostOf_69 : decode cX12_mostOf 69 = .ok (.iload 4, 2) := by decide +kernel
theorem dX12_mostOf_71 : decode cX12_mostOf 71 = .ok (.if_icmp .le 13, 3) := by decide +kernel
theorem dX12_mostOf_74 : decode cX12_mostOf 74 = .ok (.aload_n 0, 1) := by decide +kernel
theorem dX12_mostOf_75 : decode cX12_mostOf 75 = .ok (.iload 5, 2) := by decide +kernel
theorem dX12_mostOf_77 : decode cX12_mostOf 77 = .ok (.iconst 1, 1) := by decide +kernel
theorem dX12_mostOf_78 : decode cX12_mostOf 78 = .ok (.invokevirtual 180, 3) := by decide +kernel
theorem dX12_mostOf_81 : decode cX12_mostOf 81 = .ok (.goto 5, 3) := by decide +kernel
theorem dX12_mostOf_84 : decode cX12_mostOf 84 = .ok (.iload 4, 2) := by decide +kernel
theorem dX12_mostOf_86 : decode cX12_mostOf 86 = .ok (.istore 4, 2) := by decide +kernel
theorem dX12_mostOf_88 : decode cX12_mostOf 88 = .ok (.iinc 5 1, 3) := by decide +kernel
theorem dX12_mostOf_91 : decode cX12_mostOf 91 = .ok (.goto (-85), 3) := by decide +kernel
theorem dX12_mostOf_94 : decode cX12_mostOf 94 = .ok (.iload 4, 2) := by decide +kernel
theorem dX12_mostOf_96 : decode cX12_mostOf 96 = .ok (.ireturn, 1) := by decide +kernel
set_option maxRecDepth 20000 in
theorem ggX12_laysBest_X12_laysWeekPremiums : GoodIn wsX12_laysBest wsX12_laysWeekPremiums := goodIn_r _ [9, 3, 4, 10, 11, 12, 8, 13, 14, 15, 16, 17, 18, 19, 20, 21, 22, 28, 29, 30, 31, 32, 33, 34, 35, 36, 37, 38, 39, 40, 41, 42, 43, 44, 45, 46, 47, 48, 49, 50, 51, 52, 53, 54, 55, 56, 57, 58, 59, 60, 61, 62, 63, 64, 65] (by decide +kernel) (by decide +kernel)
set_option maxRecDepth 20000 in
theorem gX12_laysBest_X12_laysWeekPremiums : GoodIn wsX12_laysBest (wsV RX12 252 RX12 yX12_laysWeekPremiums wsX12_laysWeekPremiums) := goodIn_app (goodIn_of _ (by decide +kernel)) ggX12_laysBest_X12_laysWeekPremiums
set_option maxRecDepth 20000 in
theorem ggX12_laysBest_X12_mostOf : GoodIn wsX12_laysBest wsX12_mostOf := goodIn_r _ [26, 27, 10, 11, 12, 8, 13, 14, 15, 16, 17, 18, 28, 29, 30, 31, 32, 33, 34, 35, 36, 37, 38, 39, 40, 41, 42, 43, 44, 45, 46, 47, 48, 49, 50, 51, 52, 53, 54, 55, 56, 57, 58, 59, 60, 61, 62, 63, 64, 65] (by decide +kernel) (by decide +kernel)
set_option maxRecDepth 20000 in
theorem gX12_laysBest_X12_mostOf : GoodIn wsX12_laysBest (wsV RX12 255 RX12 yX12_mostOf wsX12_mostOf) := goodIn_app (goodIn_of _ (by decide +kernel)) ggX12_laysBest_X12_mostOf
theorem dX12_laysBest_0 : decode cX12_laysBest 0 = .ok (.aload_n 0, 1) := by decide +kernel
theorem dX12_laysBest_1 : decode cX12_laysBest 1 = .ok (.invokevirtual 252, 3) := by decide +kernel
theorem dX12_laysBest_4 : decode cX12_laysBest 4 = .ok (.iconst 0, 1) := by decide +kernel
theorem dX12_laysBest_5 : decode cX12_laysBest 5 = .ok (.istore_n 1, 1) := by decide +kernel
theorem dX12_laysBest_6 : decode cX12_laysBest 6 = .ok (.iload_n 1, 1) := by decide +kernel
theorem dX12_laysBest_7 : decode cX12_laysBest 7 = .ok (.aload_n 0, 1) := by decide +kernel
theorem dX12_laysBest_8 : decode cX12_laysBest 8 = .ok (.getfield 232, 3) := by decide +kernel
theorem dX12_laysBest_11 : decode cX12_laysBest 11 = .ok (.if_icmp .gt 25, 3) := by decide +kernel
theorem dX12_laysBest_14 : decode cX12_laysBest 14 = .ok (.aload_n 0, 1) := by decide +kernel
theorem dX12_laysBest_15 : decode cX12_laysBest 15 = .ok (.getfield 109, 3) := by decide +kernel
theorem dX12_laysBest_18 : decode cX12_laysBest 18 = .ok (.sipush 680, 3) := by decide +kernel
theorem dX12_laysBest_21 : decode cX12_laysBest 21 = .ok (.aload_n 0, 1) := by decide +kernel
theorem dX12_laysBest_22 : decode cX12_laysBest 22 = .ok (.getfield 232, 3) := by decide +kernel
theorem dX12_laysBest_25 : decode cX12_laysBest 25 = .ok (.imul, 1) := by decide +kernel
theorem dX12_laysBest_26 : decode cX12_laysBest 26 = .ok (.iload_n 1, 1) := by decide +kernel
theorem dX12_laysBest_27 : decode cX12_laysBest 27 = .ok (.iadd, 1) := by decide +kernel
theorem dX12_laysBest_28 : decode cX12_laysBest 28 = .ok (.iconst 0, 1) := by decide +kernel
theorem dX12_laysBest_29 : decode cX12_laysBest 29 = .ok (.iastore, 1) := by decide +kernel
theorem dX12_laysBest_30 : decode cX12_laysBest 30 = .ok (.iinc 1 1, 3) := by decide +kernel
theorem dX12_laysBest_33 : decode cX12_laysBest 33 = .ok (.goto (-27), 3) := by decide +kernel
theorem dX12_laysBest_36 : decode cX12_laysBest 36 = .ok (.aload_n 0, 1) := by decide +kernel
