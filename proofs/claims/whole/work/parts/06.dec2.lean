theorem dX8_payWeek_59 : decode cX8_payWeek 59 = .ok (.iastore, 1) := by decide +kernel
theorem dX8_payWeek_60 : decode cX8_payWeek 60 = .ok (.iinc 6 1, 3) := by decide +kernel
theorem dX8_payWeek_63 : decode cX8_payWeek 63 = .ok (.goto (-34), 3) := by decide +kernel
theorem dX8_payWeek_66 : decode cX8_payWeek 66 = .ok (.aload 4, 2) := by decide +kernel
theorem dX8_payWeek_68 : decode cX8_payWeek 68 = .ok (.aload_n 2, 1) := by decide +kernel
theorem dX8_payWeek_69 : decode cX8_payWeek 69 = .ok (.iload_n 3, 1) := by decide +kernel
theorem dX8_payWeek_70 : decode cX8_payWeek 70 = .ok (.invokevirtual 146, 3) := by decide +kernel
theorem dX8_payWeek_73 : decode cX8_payWeek 73 = .ok (.istore 6, 2) := by decide +kernel
theorem dX8_payWeek_75 : decode cX8_payWeek 75 = .ok (.iconst 0, 1) := by decide +kernel
theorem dX8_payWeek_76 : decode cX8_payWeek 76 = .ok (.istore 7, 2) := by decide +kernel
theorem dX8_payWeek_78 : decode cX8_payWeek 78 = .ok (.iload 7, 2) := by decide +kernel
theorem dX8_payWeek_80 : decode cX8_payWeek 80 = .ok (.aload 5, 2) := by decide +kernel
theorem dX8_payWeek_82 : decode cX8_payWeek 82 = .ok (.getfield 141, 3) := by decide +kernel
theorem dX8_payWeek_85 : decode cX8_payWeek 85 = .ok (.if_icmp .ge 51, 3) := by decide +kernel
theorem dX8_payWeek_88 : decode cX8_payWeek 88 = .ok (.aload_n 0, 1) := by decide +kernel
theorem dX8_payWeek_89 : decode cX8_payWeek 89 = .ok (.getfield 28, 3) := by decide +kernel
theorem dX8_payWeek_92 : decode cX8_payWeek 92 = .ok (.aload 5, 2) := by decide +kernel
theorem dX8_payWeek_94 : decode cX8_payWeek 94 = .ok (.getfield 142, 3) := by decide +kernel
theorem dX8_payWeek_97 : decode cX8_payWeek 97 = .ok (.iload 7, 2) := by decide +kernel
theorem dX8_payWeek_99 : decode cX8_payWeek 99 = .ok (.iaload, 1) := by decide +kernel
theorem dX8_payWeek_100 : decode cX8_payWeek 100 = .ok (.aload 5, 2) := by decide +kernel
theorem dX8_payWeek_102 : decode cX8_payWeek 102 = .ok (.getfield 145, 3) := by decide +kernel
theorem dX8_payWeek_105 : decode cX8_payWeek 105 = .ok (.iload 7, 2) := by decide +kernel
theorem dX8_payWeek_107 : decode cX8_payWeek 107 = .ok (.iaload, 1) := by decide +kernel
theorem dX8_payWeek_108 : decode cX8_payWeek 108 = .ok (.iastore, 1) := by decide +kernel
theorem dX8_payWeek_109 : decode cX8_payWeek 109 = .ok (.aload_n 0, 1) := by decide +kernel
theorem dX8_payWeek_110 : decode cX8_payWeek 110 = .ok (.getfield 34, 3) := by decide +kernel
theorem dX8_payWeek_113 : decode cX8_payWeek 113 = .ok (.aload 5, 2) := by decide +kernel
theorem dX8_payWeek_115 : decode cX8_payWeek 115 = .ok (.getfield 142, 3) := by decide +kernel
theorem dX8_payWeek_118 : decode cX8_payWeek 118 = .ok (.iload 7, 2) := by decide +kernel
theorem dX8_payWeek_120 : decode cX8_payWeek 120 = .ok (.iaload, 1) := by decide +kernel
theorem dX8_payWeek_121 : decode cX8_payWeek 121 = .ok (.aload 5, 2) := by decide +kernel
theorem dX8_payWeek_123 : decode cX8_payWeek 123 = .ok (.getfield 150, 3) := by decide +kernel
theorem dX8_payWeek_126 : decode cX8_payWeek 126 = .ok (.iload 7, 2) := by decide +kernel
theorem dX8_payWeek_128 : decode cX8_payWeek 128 = .ok (.iaload, 1) := by decide +kernel
theorem dX8_payWeek_129 : decode cX8_payWeek 129 = .ok (.iastore, 1) := by decide +kernel
theorem dX8_payWeek_130 : decode cX8_payWeek 130 = .ok (.iinc 7 1, 3) := by decide +kernel
theorem dX8_payWeek_133 : decode cX8_payWeek 133 = .ok (.goto (-55), 3) := by decide +kernel
theorem dX8_payWeek_136 : decode cX8_payWeek 136 = .ok (.aload_n 0, 1) := by decide +kernel
theorem dX8_payWeek_137 : decode cX8_payWeek 137 = .ok (.getfield 47, 3) := by decide +kernel
theorem dX8_payWeek_140 : decode cX8_payWeek 140 = .ok (.iload_n 1, 1) := by decide +kernel
theorem dX8_payWeek_141 : decode cX8_payWeek 141 = .ok (.aload_n 2, 1) := by decide +kernel
theorem dX8_payWeek_142 : decode cX8_payWeek 142 = .ok (.getfield 153, 3) := by decide +kernel
theorem dX8_payWeek_145 : decode cX8_payWeek 145 = .ok (.bipush 100, 2) := by decide +kernel
theorem dX8_payWeek_147 : decode cX8_payWeek 147 = .ok (.aload 5, 2) := by decide +kernel
theorem dX8_payWeek_149 : decode cX8_payWeek 149 = .ok (.getfield 141, 3) := by decide +kernel
theorem dX8_payWeek_152 : decode cX8_payWeek 152 = .ok (.imul, 1) := by decide +kernel
theorem dX8_payWeek_153 : decode cX8_payWeek 153 = .ok (.iload 6, 2) := by decide +kernel
theorem dX8_payWeek_155 : decode cX8_payWeek 155 = .ok (.iadd, 1) := by decide +kernel
theorem dX8_payWeek_156 : decode cX8_payWeek 156 = .ok (.imul, 1) := by decide +kernel
theorem dX8_payWeek_157 : decode cX8_payWeek 157 = .ok (.iastore, 1) := by decide +kernel
theorem dX8_payWeek_158 : decode cX8_payWeek 158 = .ok (.aload_n 0, 1) := by decide +kernel
theorem dX8_payWeek_159 : decode cX8_payWeek 159 = .ok (.dup, 1) := by decide +kernel
theorem dX8_payWeek_160 : decode cX8_payWeek 160 = .ok (.getfield 50, 3) := by decide +kernel
theorem dX8_payWeek_163 : decode cX8_payWeek 163 = .ok (.iconst 1, 1) := by decide +kernel
theorem dX8_payWeek_164 : decode cX8_payWeek 164 = .ok (.iload_n 1, 1) := by decide +kernel
theorem dX8_payWeek_165 : decode cX8_payWeek 165 = .ok (.ishl, 1) := by decide +kernel
theorem dX8_payWeek_166 : decode cX8_payWeek 166 = .ok (.ior, 1) := by decide +kernel
theorem dX8_payWeek_167 : decode cX8_payWeek 167 = .ok (.putfield 50, 3) := by decide +kernel
theorem dX8_payWeek_170 : decode cX8_payWeek 170 = .ok (.return_, 1) := by decide +kernel
theorem dX9_init_0 : decode cX9_init 0 = .ok (.aload_n 0, 1) := by decide +kernel
theorem dX9_init_1 : decode cX9_init 1 = .ok (.invokespecial 3, 3) := by decide +kernel
theorem dX9_init_4 : decode cX9_init 4 = .ok (.aload_n 0, 1) := by decide +kernel
theorem dX9_init_5 : decode cX9_init 5 = .ok (.sipush 400, 3) := by decide +kernel
theorem dX9_init_8 : decode cX9_init 8 = .ok (.newarray .int, 2) := by decide +kernel
theorem dX9_init_10 : decode cX9_init 10 = .ok (.putfield 9, 3) := by decide +kernel
theorem dX9_init_13 : decode cX9_init 13 = .ok (.return_, 1) := by decide +kernel
theorem dX9_hasRoom_0 : decode cX9_hasRoom 0 = .ok (.aload_n 0, 1) := by decide +kernel
theorem dX9_hasRoom_1 : decode cX9_hasRoom 1 = .ok (.getfield 15, 3) := by decide +kernel
theorem dX9_hasRoom_4 : decode cX9_hasRoom 4 = .ok (.iload_n 1, 1) := by decide +kernel
theorem dX9_hasRoom_5 : decode cX9_hasRoom 5 = .ok (.iadd, 1) := by decide +kernel
theorem dX9_hasRoom_6 : decode cX9_hasRoom 6 = .ok (.aload_n 0, 1) := by decide +kernel
theorem dX9_hasRoom_7 : decode cX9_hasRoom 7 = .ok (.getfield 9, 3) := by decide +kernel
theorem dX9_hasRoom_10 : decode cX9_hasRoom 10 = .ok (.arraylength, 1) := by decide +kernel
theorem dX9_hasRoom_11 : decode cX9_hasRoom 11 = .ok (.if_icmp .gt 7, 3) := by decide +kernel
theorem dX9_hasRoom_14 : decode cX9_hasRoom 14 = .ok (.iconst 1, 1) := by decide +kernel
theorem dX9_hasRoom_15 : decode cX9_hasRoom 15 = .ok (.goto 4, 3) := by decide +kernel
theorem dX9_hasRoom_18 : decode cX9_hasRoom 18 = .ok (.iconst 0, 1) := by decide +kernel
theorem dX9_hasRoom_19 : decode cX9_hasRoom 19 = .ok (.ireturn, 1) := by decide +kernel
theorem dX9_put_0 : decode cX9_put 0 = .ok (.bipush 24, 2) := by decide +kernel
theorem dX9_put_2 : decode cX9_put 2 = .ok (.istore_n 2, 1) := by decide +kernel
theorem dX9_put_3 : decode cX9_put 3 = .ok (.iload_n 2, 1) := by decide +kernel
theorem dX9_put_4 : decode cX9_put 4 = .ok (.ifCond .lt 47, 3) := by decide +kernel
theorem dX9_put_7 : decode cX9_put 7 = .ok (.aload_n 0, 1) := by decide +kernel
theorem dX9_put_8 : decode cX9_put 8 = .ok (.getfield 15, 3) := by decide +kernel
theorem dX9_put_11 : decode cX9_put 11 = .ok (.aload_n 0, 1) := by decide +kernel
theorem dX9_put_12 : decode cX9_put 12 = .ok (.getfield 9, 3) := by decide +kernel
theorem dX9_put_15 : decode cX9_put 15 = .ok (.arraylength, 1) := by decide +kernel
theorem dX9_put_16 : decode cX9_put 16 = .ok (.if_icmp .ge 29, 3) := by decide +kernel
theorem dX9_put_19 : decode cX9_put 19 = .ok (.aload_n 0, 1) := by decide +kernel
theorem dX9_put_20 : decode cX9_put 20 = .ok (.getfield 9, 3) := by decide +kernel
theorem dX9_put_23 : decode cX9_put 23 = .ok (.aload_n 0, 1) := by decide +kernel
theorem dX9_put_24 : decode cX9_put 24 = .ok (.getfield 15, 3) := by decide +kernel
theorem dX9_put_27 : decode cX9_put 27 = .ok (.iload_n 1, 1) := by decide +kernel
theorem dX9_put_28 : decode cX9_put 28 = .ok (.iload_n 2, 1) := by decide +kernel
theorem dX9_put_29 : decode cX9_put 29 = .ok (.ishr, 1) := by decide +kernel
theorem dX9_put_30 : decode cX9_put 30 = .ok (.sipush 255, 3) := by decide +kernel
theorem dX9_put_33 : decode cX9_put 33 = .ok (.iand, 1) := by decide +kernel
theorem dX9_put_34 : decode cX9_put 34 = .ok (.iastore, 1) := by decide +kernel
theorem dX9_put_35 : decode cX9_put 35 = .ok (.aload_n 0, 1) := by decide +kernel
theorem dX9_put_36 : decode cX9_put 36 = .ok (.dup, 1) := by decide +kernel
theorem dX9_put_37 : decode cX9_put 37 = .ok (.getfield 15, 3) := by decide +kernel
theorem dX9_put_40 : decode cX9_put 40 = .ok (.iconst 1, 1) := by decide +kernel
theorem dX9_put_41 : decode cX9_put 41 = .ok (.iadd, 1) := by decide +kernel
theorem dX9_put_42 : decode cX9_put 42 = .ok (.putfield 15, 3) := by decide +kernel
theorem dX9_put_45 : decode cX9_put 45 = .ok (.iinc 2 (-8), 3) := by decide +kernel
theorem dX9_put_48 : decode cX9_put 48 = .ok (.goto (-45), 3) := by decide +kernel
theorem dX9_put_51 : decode cX9_put 51 = .ok (.return_, 1) := by decide +kernel
set_option maxRecDepth 20000 in
theorem ggX9_open_X9_advance : GoodIn wsX9_open wsX9_advance := goodIn_r _ [12, 7, 13, 6, 14, 2, 3, 4, 5, 15, 16, 17, 11, 18, 19, 20, 21, 22, 23, 24, 25, 26, 27] (by decide +kernel) (by decide +kernel)
set_option maxRecDepth 20000 in
theorem gX9_open_X9_advance : GoodIn wsX9_open (wsV RX9 31 RX9 yX9_advance wsX9_advance) := goodIn_app (goodIn_of _ (by decide +kernel)) ggX9_open_X9_advance
theorem dX9_open_0 : decode cX9_open 0 = .ok (.aload_n 0, 1) := by decide +kernel
theorem dX9_open_1 : decode cX9_open 1 = .ok (.iload_n 1, 1) := by decide +kernel
theorem dX9_open_2 : decode cX9_open 2 = .ok (.aload_n 0, 1) := by decide +kernel
theorem dX9_open_3 : decode cX9_open 3 = .ok (.getfield 15, 3) := by decide +kernel
theorem dX9_open_6 : decode cX9_open 6 = .ok (.invokestatic 19, 3) := by decide +kernel
theorem dX9_open_9 : decode cX9_open 9 = .ok (.putfield 25, 3) := by decide +kernel
theorem dX9_open_12 : decode cX9_open 12 = .ok (.aload_n 0, 1) := by decide +kernel
theorem dX9_open_13 : decode cX9_open 13 = .ok (.iconst 0, 1) := by decide +kernel
theorem dX9_open_14 : decode cX9_open 14 = .ok (.putfield 28, 3) := by decide +kernel
theorem dX9_open_17 : decode cX9_open 17 = .ok (.aload_n 0, 1) := by decide +kernel
theorem dX9_open_18 : decode cX9_open 18 = .ok (.invokevirtual 31, 3) := by decide +kernel
theorem dX9_open_21 : decode cX9_open 21 = .ok (.return_, 1) := by decide +kernel
set_option maxRecDepth 20000 in
theorem ggX9_advance_X9_isLetter : GoodIn wsX9_advance wsX9_isLetter := goodIn_r _ [13] (by decide +kernel) (by decide +kernel)
set_option maxRecDepth 20000 in
theorem gX9_advance_X9_isLetter : GoodIn wsX9_advance (va_wsS RX9 40 yX9_isLetter wsX9_isLetter) := goodIn_app (goodIn_of _ (by decide +kernel)) ggX9_advance_X9_isLetter
set_option maxRecDepth 20000 in
theorem ggX9_advance_X9_isDigit : GoodIn wsX9_advance wsX9_isDigit := goodIn_r _ [16] (by decide +kernel) (by decide +kernel)
set_option maxRecDepth 20000 in
theorem gX9_advance_X9_isDigit : GoodIn wsX9_advance (va_wsS RX9 44 yX9_isDigit wsX9_isDigit) := goodIn_app (goodIn_of _ (by decide +kernel)) ggX9_advance_X9_isDigit
theorem dX9_advance_0 : decode cX9_advance 0 = .ok (.aload_n 0, 1) := by decide +kernel
theorem dX9_advance_1 : decode cX9_advance 1 = .ok (.aload_n 0, 1) := by decide +kernel
theorem dX9_advance_2 : decode cX9_advance 2 = .ok (.getfield 28, 3) := by decide +kernel
theorem dX9_advance_5 : decode cX9_advance 5 = .ok (.putfield 34, 3) := by decide +kernel
theorem dX9_advance_8 : decode cX9_advance 8 = .ok (.aload_n 0, 1) := by decide +kernel
theorem dX9_advance_9 : decode cX9_advance 9 = .ok (.getfield 34, 3) := by decide +kernel
theorem dX9_advance_12 : decode cX9_advance 12 = .ok (.aload_n 0, 1) := by decide +kernel
theorem dX9_advance_13 : decode cX9_advance 13 = .ok (.getfield 25, 3) := by decide +kernel
theorem dX9_advance_16 : decode cX9_advance 16 = .ok (.if_icmp .ge 44, 3) := by decide +kernel
theorem dX9_advance_19 : decode cX9_advance 19 = .ok (.aload_n 0, 1) := by decide +kernel
theorem dX9_advance_20 : decode cX9_advance 20 = .ok (.getfield 9, 3) := by decide +kernel
theorem dX9_advance_23 : decode cX9_advance 23 = .ok (.aload_n 0, 1) := by decide +kernel
theorem dX9_advance_24 : decode cX9_advance 24 = .ok (.getfield 34, 3) := by decide +kernel
theorem dX9_advance_27 : decode cX9_advance 27 = .ok (.iaload, 1) := by decide +kernel
theorem dX9_advance_28 : decode cX9_advance 28 = .ok (.bipush 32, 2) := by decide +kernel
theorem dX9_advance_30 : decode cX9_advance 30 = .ok (.if_icmp .eq 17, 3) := by decide +kernel
theorem dX9_advance_33 : decode cX9_advance 33 = .ok (.aload_n 0, 1) := by decide +kernel
theorem dX9_advance_34 : decode cX9_advance 34 = .ok (.getfield 9, 3) := by decide +kernel
theorem dX9_advance_37 : decode cX9_advance 37 = .ok (.aload_n 0, 1) := by decide +kernel
theorem dX9_advance_38 : decode cX9_advance 38 = .ok (.getfield 34, 3) := by decide +kernel
theorem dX9_advance_41 : decode cX9_advance 41 = .ok (.iaload, 1) := by decide +kernel
theorem dX9_advance_42 : decode cX9_advance 42 = .ok (.bipush 10, 2) := by decide +kernel
theorem dX9_advance_44 : decode cX9_advance 44 = .ok (.if_icmp .ne 16, 3) := by decide +kernel
theorem dX9_advance_47 : decode cX9_advance 47 = .ok (.aload_n 0, 1) := by decide +kernel
theorem dX9_advance_48 : decode cX9_advance 48 = .ok (.dup, 1) := by decide +kernel
theorem dX9_advance_49 : decode cX9_advance 49 = .ok (.getfield 34, 3) := by decide +kernel
theorem dX9_advance_52 : decode cX9_advance 52 = .ok (.iconst 1, 1) := by decide +kernel
theorem dX9_advance_53 : decode cX9_advance 53 = .ok (.iadd, 1) := by decide +kernel
theorem dX9_advance_54 : decode cX9_advance 54 = .ok (.putfield 34, 3) := by decide +kernel
theorem dX9_advance_57 : decode cX9_advance 57 = .ok (.goto (-49), 3) := by decide +kernel
theorem dX9_advance_60 : decode cX9_advance 60 = .ok (.aload_n 0, 1) := by decide +kernel
theorem dX9_advance_61 : decode cX9_advance 61 = .ok (.aload_n 0, 1) := by decide +kernel
theorem dX9_advance_62 : decode cX9_advance 62 = .ok (.getfield 34, 3) := by decide +kernel
theorem dX9_advance_65 : decode cX9_advance 65 = .ok (.iconst 1, 1) := by decide +kernel
theorem dX9_advance_66 : decode cX9_advance 66 = .ok (.iadd, 1) := by decide +kernel
theorem dX9_advance_67 : decode cX9_advance 67 = .ok (.aload_n 0, 1) := by decide +kernel
theorem dX9_advance_68 : decode cX9_advance 68 = .ok (.getfield 25, 3) := by decide +kernel
theorem dX9_advance_71 : decode cX9_advance 71 = .ok (.invokestatic 19, 3) := by decide +kernel
theorem dX9_advance_74 : decode cX9_advance 74 = .ok (.putfield 28, 3) := by decide +kernel
theorem dX9_advance_77 : decode cX9_advance 77 = .ok (.aload_n 0, 1) := by decide +kernel
theorem dX9_advance_78 : decode cX9_advance 78 = .ok (.getfield 34, 3) := by decide +kernel
theorem dX9_advance_81 : decode cX9_advance 81 = .ok (.aload_n 0, 1) := by decide +kernel
theorem dX9_advance_82 : decode cX9_advance 82 = .ok (.getfield 25, 3) := by decide +kernel
theorem dX9_advance_85 : decode cX9_advance 85 = .ok (.if_icmp .lt 11, 3) := by decide +kernel
theorem dX9_advance_88 : decode cX9_advance 88 = .ok (.aload_n 0, 1) := by decide +kernel
theorem dX9_advance_89 : decode cX9_advance 89 = .ok (.iconst 0, 1) := by decide +kernel
theorem dX9_advance_90 : decode cX9_advance 90 = .ok (.putfield 37, 3) := by decide +kernel
theorem dX9_advance_93 : decode cX9_advance 93 = .ok (.goto 148, 3) := by decide +kernel
theorem dX9_advance_96 : decode cX9_advance 96 = .ok (.aload_n 0, 1) := by decide +kernel
theorem dX9_advance_97 : decode cX9_advance 97 = .ok (.getfield 9, 3) := by decide +kernel
theorem dX9_advance_100 : decode cX9_advance 100 = .ok (.aload_n 0, 1) := by decide +kernel
theorem dX9_advance_101 : decode cX9_advance 101 = .ok (.getfield 34, 3) := by decide +kernel
theorem dX9_advance_104 : decode cX9_advance 104 = .ok (.iaload, 1) := by decide +kernel
theorem dX9_advance_105 : decode cX9_advance 105 = .ok (.bipush 59, 2) := by decide +kernel
theorem dX9_advance_107 : decode cX9_advance 107 = .ok (.if_icmp .ne 11, 3) := by decide +kernel
theorem dX9_advance_110 : decode cX9_advance 110 = .ok (.aload_n 0, 1) := by decide +kernel
theorem dX9_advance_111 : decode cX9_advance 111 = .ok (.iconst 3, 1) := by decide +kernel
theorem dX9_advance_112 : decode cX9_advance 112 = .ok (.putfield 37, 3) := by decide +kernel
theorem dX9_advance_115 : decode cX9_advance 115 = .ok (.goto 126, 3) := by decide +kernel
theorem dX9_advance_118 : decode cX9_advance 118 = .ok (.aload_n 0, 1) := by decide +kernel
theorem dX9_advance_119 : decode cX9_advance 119 = .ok (.getfield 9, 3) := by decide +kernel
theorem dX9_advance_122 : decode cX9_advance 122 = .ok (.aload_n 0, 1) := by decide +kernel
theorem dX9_advance_123 : decode cX9_advance 123 = .ok (.getfield 34, 3) := by decide +kernel
theorem dX9_advance_126 : decode cX9_advance 126 = .ok (.iaload, 1) := by decide +kernel
theorem dX9_advance_127 : decode cX9_advance 127 = .ok (.invokestatic 40, 3) := by decide +kernel
theorem dX9_advance_130 : decode cX9_advance 130 = .ok (.ifCond .eq 47, 3) := by decide +kernel
theorem dX9_advance_133 : decode cX9_advance 133 = .ok (.aload_n 0, 1) := by decide +kernel
theorem dX9_advance_134 : decode cX9_advance 134 = .ok (.iconst 1, 1) := by decide +kernel
theorem dX9_advance_135 : decode cX9_advance 135 = .ok (.putfield 37, 3) := by decide +kernel
theorem dX9_advance_138 : decode cX9_advance 138 = .ok (.aload_n 0, 1) := by decide +kernel
theorem dX9_advance_139 : decode cX9_advance 139 = .ok (.getfield 28, 3) := by decide +kernel
theorem dX9_advance_142 : decode cX9_advance 142 = .ok (.aload_n 0, 1) := by decide +kernel
theorem dX9_advance_143 : decode cX9_advance 143 = .ok (.getfield 25, 3) := by decide +kernel
theorem dX9_advance_146 : decode cX9_advance 146 = .ok (.if_icmp .ge 95, 3) := by decide +kernel
theorem dX9_advance_149 : decode cX9_advance 149 = .ok (.aload_n 0, 1) := by decide +kernel
theorem dX9_advance_150 : decode cX9_advance 150 = .ok (.getfield 9, 3) := by decide +kernel
theorem dX9_advance_153 : decode cX9_advance 153 = .ok (.aload_n 0, 1) := by decide +kernel
theorem dX9_advance_154 : decode cX9_advance 154 = .ok (.getfield 28, 3) := by decide +kernel
theorem dX9_advance_157 : decode cX9_advance 157 = .ok (.iaload, 1) := by decide +kernel
theorem dX9_advance_158 : decode cX9_advance 158 = .ok (.invokestatic 40, 3) := by decide +kernel
theorem dX9_advance_161 : decode cX9_advance 161 = .ok (.ifCond .eq 80, 3) := by decide +kernel
theorem dX9_advance_164 : decode cX9_advance 164 = .ok (.aload_n 0, 1) := by decide +kernel
theorem dX9_advance_165 : decode cX9_advance 165 = .ok (.dup, 1) := by decide +kernel
theorem dX9_advance_166 : decode cX9_advance 166 = .ok (.getfield 28, 3) := by decide +kernel
theorem dX9_advance_169 : decode cX9_advance 169 = .ok (.iconst 1, 1) := by decide +kernel
theorem dX9_advance_170 : decode cX9_advance 170 = .ok (.iadd, 1) := by decide +kernel
theorem dX9_advance_171 : decode cX9_advance 171 = .ok (.putfield 28, 3) := by decide +kernel
theorem dX9_advance_174 : decode cX9_advance 174 = .ok (.goto (-36), 3) := by decide +kernel
theorem dX9_advance_177 : decode cX9_advance 177 = .ok (.aload_n 0, 1) := by decide +kernel
theorem dX9_advance_178 : decode cX9_advance 178 = .ok (.getfield 9, 3) := by decide +kernel
theorem dX9_advance_181 : decode cX9_advance 181 = .ok (.aload_n 0, 1) := by decide +kernel
theorem dX9_advance_182 : decode cX9_advance 182 = .ok (.getfield 34, 3) := by decide +kernel
theorem dX9_advance_185 : decode cX9_advance 185 = .ok (.iaload, 1) := by decide +kernel
theorem dX9_advance_186 : decode cX9_advance 186 = .ok (.invokestatic 44, 3) := by decide +kernel
theorem dX9_advance_189 : decode cX9_advance 189 = .ok (.ifCond .eq 47, 3) := by decide +kernel
theorem dX9_advance_192 : decode cX9_advance 192 = .ok (.aload_n 0, 1) := by decide +kernel
theorem dX9_advance_193 : decode cX9_advance 193 = .ok (.iconst 2, 1) := by decide +kernel
theorem dX9_advance_194 : decode cX9_advance 194 = .ok (.putfield 37, 3) := by decide +kernel
theorem dX9_advance_197 : decode cX9_advance 197 = .ok (.aload_n 0, 1) := by decide +kernel
theorem dX9_advance_198 : decode cX9_advance 198 = .ok (.getfield 28, 3) := by decide +kernel
theorem dX9_advance_201 : decode cX9_advance 201 = .ok (.aload_n 0, 1) := by decide +kernel
theorem dX9_advance_202 : decode cX9_advance 202 = .ok (.getfield 25, 3) := by decide +kernel
theorem dX9_advance_205 : decode cX9_advance 205 = .ok (.if_icmp .ge 36, 3) := by decide +kernel
theorem dX9_advance_208 : decode cX9_advance 208 = .ok (.aload_n 0, 1) := by decide +kernel
theorem dX9_advance_209 : decode cX9_advance 209 = .ok (.getfield 9, 3) := by decide +kernel
theorem dX9_advance_212 : decode cX9_advance 212 = .ok (.aload_n 0, 1) := by decide +kernel
theorem dX9_advance_213 : decode cX9_advance 213 = .ok (.getfield 28, 3) := by decide +kernel
theorem dX9_advance_216 : decode cX9_advance 216 = .ok (.iaload, 1) := by decide +kernel
theorem dX9_advance_217 : decode cX9_advance 217 = .ok (.invokestatic 44, 3) := by decide +kernel
theorem dX9_advance_220 : decode cX9_advance 220 = .ok (.ifCond .eq 21, 3) := by decide +kernel
theorem dX9_advance_223 : decode cX9_advance 223 = .ok (.aload_n 0, 1) := by decide +kernel
theorem dX9_advance_224 : decode cX9_advance 224 = .ok (.dup, 1) := by decide +kernel
theorem dX9_advance_225 : decode cX9_advance 225 = .ok (.getfield 28, 3) := by decide +kernel
theorem dX9_advance_228 : decode cX9_advance 228 = .ok (.iconst 1, 1) := by decide +kernel
theorem dX9_advance_229 : decode cX9_advance 229 = .ok (.iadd, 1) := by decide +kernel
theorem dX9_advance_230 : decode cX9_advance 230 = .ok (.putfield 28, 3) := by decide +kernel
theorem dX9_advance_233 : decode cX9_advance 233 = .ok (.goto (-36), 3) := by decide +kernel
theorem dX9_advance_236 : decode cX9_advance 236 = .ok (.aload_n 0, 1) := by decide +kernel
theorem dX9_advance_237 : decode cX9_advance 237 = .ok (.iconst 4, 1) := by decide +kernel
theorem dX9_advance_238 : decode cX9_advance 238 = .ok (.putfield 37, 3) := by decide +kernel
theorem dX9_advance_241 : decode cX9_advance 241 = .ok (.return_, 1) := by decide +kernel
set_option maxRecDepth 20000 in
theorem ggX9_tells_J0_length_8abf5 : GoodIn wsX9_tells wsJ0_length_8abf5 := goodIn_r _ [9, 10, 11, 12, 13, 8, 14, 15, 16] (by decide +kernel) (by decide +kernel)
set_option maxRecDepth 20000 in
theorem gX9_tells_J0_length_8abf5 : GoodIn wsX9_tells (wsV RX9 47 RJ0 yJ0_length_8abf5 wsJ0_length_8abf5) := goodIn_app (goodIn_of _ (by decide +kernel)) ggX9_tells_J0_length_8abf5
set_option maxRecDepth 20000 in
theorem ggX9_tells_J0_charAt_5068e : GoodIn wsX9_tells wsJ0_charAt_5068e := goodIn_r _ [20, 10, 21, 22, 23, 8, 24, 15, 16, 25, 26, 27, 28, 29, 30, 31, 32, 33, 34, 35, 36, 37, 38, 39, 40, 41, 42, 43, 44, 45, 46, 47, 48, 49, 50, 51, 52, 53] (by decide +kernel) (by decide +kernel)
set_option maxRecDepth 20000 in
theorem gX9_tells_J0_charAt_5068e : GoodIn wsX9_tells (wsV RX9 53 RJ0 yJ0_charAt_5068e wsJ0_charAt_5068e) := goodIn_app (goodIn_of _ (by decide +kernel)) ggX9_tells_J0_charAt_5068e
theorem dX9_tells_0 : decode cX9_tells 0 = .ok (.aload_n 0, 1) := by decide +kernel
theorem dX9_tells_1 : decode cX9_tells 1 = .ok (.getfield 37, 3) := by decide +kernel
theorem dX9_tells_4 : decode cX9_tells 4 = .ok (.iconst 1, 1) := by decide +kernel
theorem dX9_tells_5 : decode cX9_tells 5 = .ok (.if_icmp .ne 19, 3) := by decide +kernel
theorem dX9_tells_8 : decode cX9_tells 8 = .ok (.aload_n 0, 1) := by decide +kernel
theorem dX9_tells_9 : decode cX9_tells 9 = .ok (.getfield 28, 3) := by decide +kernel
theorem dX9_tells_12 : decode cX9_tells 12 = .ok (.aload_n 0, 1) := by decide +kernel
theorem dX9_tells_13 : decode cX9_tells 13 = .ok (.getfield 34, 3) := by decide +kernel
theorem dX9_tells_16 : decode cX9_tells 16 = .ok (.isub, 1) := by decide +kernel
theorem dX9_tells_17 : decode cX9_tells 17 = .ok (.aload_n 1, 1) := by decide +kernel
theorem dX9_tells_18 : decode cX9_tells 18 = .ok (.invokevirtual 47, 3) := by decide +kernel
theorem dX9_tells_21 : decode cX9_tells 21 = .ok (.if_icmp .eq 5, 3) := by decide +kernel
theorem dX9_tells_24 : decode cX9_tells 24 = .ok (.iconst 0, 1) := by decide +kernel
theorem dX9_tells_25 : decode cX9_tells 25 = .ok (.ireturn, 1) := by decide +kernel
theorem dX9_tells_26 : decode cX9_tells 26 = .ok (.iconst 0, 1) := by decide +kernel
theorem dX9_tells_27 : decode cX9_tells 27 = .ok (.istore_n 2, 1) := by decide +kernel
theorem dX9_tells_28 : decode cX9_tells 28 = .ok (.iload_n 2, 1) := by decide +kernel
theorem dX9_tells_29 : decode cX9_tells 29 = .ok (.aload_n 1, 1) := by decide +kernel
theorem dX9_tells_30 : decode cX9_tells 30 = .ok (.invokevirtual 47, 3) := by decide +kernel
theorem dX9_tells_33 : decode cX9_tells 33 = .ok (.if_icmp .ge 30, 3) := by decide +kernel
theorem dX9_tells_36 : decode cX9_tells 36 = .ok (.aload_n 0, 1) := by decide +kernel
theorem dX9_tells_37 : decode cX9_tells 37 = .ok (.getfield 9, 3) := by decide +kernel
theorem dX9_tells_40 : decode cX9_tells 40 = .ok (.aload_n 0, 1) := by decide +kernel
theorem dX9_tells_41 : decode cX9_tells 41 = .ok (.getfield 34, 3) := by decide +kernel
theorem dX9_tells_44 : decode cX9_tells 44 = .ok (.iload_n 2, 1) := by decide +kernel
theorem dX9_tells_45 : decode cX9_tells 45 = .ok (.iadd, 1) := by decide +kernel
theorem dX9_tells_46 : decode cX9_tells 46 = .ok (.iaload, 1) := by decide +kernel
theorem dX9_tells_47 : decode cX9_tells 47 = .ok (.aload_n 1, 1) := by decide +kernel
theorem dX9_tells_48 : decode cX9_tells 48 = .ok (.iload_n 2, 1) := by decide +kernel
theorem dX9_tells_49 : decode cX9_tells 49 = .ok (.invokevirtual 53, 3) := by decide +kernel
theorem dX9_tells_52 : decode cX9_tells 52 = .ok (.if_icmp .eq 5, 3) := by decide +kernel
theorem dX9_tells_55 : decode cX9_tells 55 = .ok (.iconst 0, 1) := by decide +kernel
theorem dX9_tells_56 : decode cX9_tells 56 = .ok (.ireturn, 1) := by decide +kernel
theorem dX9_tells_57 : decode cX9_tells 57 = .ok (.iinc 2 1, 3) := by decide +kernel
theorem dX9_tells_60 : decode cX9_tells 60 = .ok (.goto (-32), 3) := by decide +kernel
theorem dX9_tells_63 : decode cX9_tells 63 = .ok (.iconst 1, 1) := by decide +kernel
theorem dX9_tells_64 : decode cX9_tells 64 = .ok (.ireturn, 1) := by decide +kernel
theorem dX9_value_0 : decode cX9_value 0 = .ok (.aload_n 0, 1) := by decide +kernel
theorem dX9_value_1 : decode cX9_value 1 = .ok (.getfield 28, 3) := by decide +kernel
theorem dX9_value_4 : decode cX9_value 4 = .ok (.aload_n 0, 1) := by decide +kernel
theorem dX9_value_5 : decode cX9_value 5 = .ok (.getfield 34, 3) := by decide +kernel
theorem dX9_value_8 : decode cX9_value 8 = .ok (.isub, 1) := by decide +kernel
theorem dX9_value_9 : decode cX9_value 9 = .ok (.iconst 4, 1) := by decide +kernel
theorem dX9_value_10 : decode cX9_value 10 = .ok (.if_icmp .le 5, 3) := by decide +kernel
theorem dX9_value_13 : decode cX9_value 13 = .ok (.iconst (-1), 1) := by decide +kernel
theorem dX9_value_14 : decode cX9_value 14 = .ok (.ireturn, 1) := by decide +kernel
theorem dX9_value_15 : decode cX9_value 15 = .ok (.iconst 0, 1) := by decide +kernel
theorem dX9_value_16 : decode cX9_value 16 = .ok (.istore_n 1, 1) := by decide +kernel
theorem dX9_value_17 : decode cX9_value 17 = .ok (.aload_n 0, 1) := by decide +kernel
theorem dX9_value_18 : decode cX9_value 18 = .ok (.getfield 34, 3) := by decide +kernel
theorem dX9_value_21 : decode cX9_value 21 = .ok (.istore_n 2, 1) := by decide +kernel
theorem dX9_value_22 : decode cX9_value 22 = .ok (.iload_n 2, 1) := by decide +kernel
theorem dX9_value_23 : decode cX9_value 23 = .ok (.aload_n 0, 1) := by decide +kernel
theorem dX9_value_24 : decode cX9_value 24 = .ok (.getfield 28, 3) := by decide +kernel
theorem dX9_value_27 : decode cX9_value 27 = .ok (.if_icmp .ge 24, 3) := by decide +kernel
theorem dX9_value_30 : decode cX9_value 30 = .ok (.iload_n 1, 1) := by decide +kernel
theorem dX9_value_31 : decode cX9_value 31 = .ok (.bipush 10, 2) := by decide +kernel
theorem dX9_value_33 : decode cX9_value 33 = .ok (.imul, 1) := by decide +kernel
theorem dX9_value_34 : decode cX9_value 34 = .ok (.aload_n 0, 1) := by decide +kernel
theorem dX9_value_35 : decode cX9_value 35 = .ok (.getfield 9, 3) := by decide +kernel
theorem dX9_value_38 : decode cX9_value 38 = .ok (.iload_n 2, 1) := by decide +kernel
theorem dX9_value_39 : decode cX9_value 39 = .ok (.iaload, 1) := by decide +kernel
theorem dX9_value_40 : decode cX9_value 40 = .ok (.iadd, 1) := by decide +kernel
theorem dX9_value_41 : decode cX9_value 41 = .ok (.bipush 48, 2) := by decide +kernel
theorem dX9_value_43 : decode cX9_value 43 = .ok (.isub, 1) := by decide +kernel
theorem dX9_value_44 : decode cX9_value 44 = .ok (.istore_n 1, 1) := by decide +kernel
theorem dX9_value_45 : decode cX9_value 45 = .ok (.iinc 2 1, 3) := by decide +kernel
theorem dX9_value_48 : decode cX9_value 48 = .ok (.goto (-26), 3) := by decide +kernel
theorem dX9_value_51 : decode cX9_value 51 = .ok (.iload_n 1, 1) := by decide +kernel
theorem dX9_value_52 : decode cX9_value 52 = .ok (.ireturn, 1) := by decide +kernel
theorem dX9_isLetter_0 : decode cX9_isLetter 0 = .ok (.iload_n 0, 1) := by decide +kernel
theorem dX9_isLetter_1 : decode cX9_isLetter 1 = .ok (.bipush 97, 2) := by decide +kernel
theorem dX9_isLetter_3 : decode cX9_isLetter 3 = .ok (.if_icmp .lt 13, 3) := by decide +kernel
theorem dX9_isLetter_6 : decode cX9_isLetter 6 = .ok (.iload_n 0, 1) := by decide +kernel
theorem dX9_isLetter_7 : decode cX9_isLetter 7 = .ok (.bipush 122, 2) := by decide +kernel
theorem dX9_isLetter_9 : decode cX9_isLetter 9 = .ok (.if_icmp .gt 7, 3) := by decide +kernel
theorem dX9_isLetter_12 : decode cX9_isLetter 12 = .ok (.iconst 1, 1) := by decide +kernel
theorem dX9_isLetter_13 : decode cX9_isLetter 13 = .ok (.goto 4, 3) := by decide +kernel
theorem dX9_isLetter_16 : decode cX9_isLetter 16 = .ok (.iconst 0, 1) := by decide +kernel
theorem dX9_isLetter_17 : decode cX9_isLetter 17 = .ok (.ireturn, 1) := by decide +kernel
theorem dX9_isDigit_0 : decode cX9_isDigit 0 = .ok (.iload_n 0, 1) := by decide +kernel
theorem dX9_isDigit_1 : decode cX9_isDigit 1 = .ok (.bipush 48, 2) := by decide +kernel
theorem dX9_isDigit_3 : decode cX9_isDigit 3 = .ok (.if_icmp .lt 13, 3) := by decide +kernel
theorem dX9_isDigit_6 : decode cX9_isDigit 6 = .ok (.iload_n 0, 1) := by decide +kernel
theorem dX9_isDigit_7 : decode cX9_isDigit 7 = .ok (.bipush 57, 2) := by decide +kernel
theorem dX9_isDigit_9 : decode cX9_isDigit 9 = .ok (.if_icmp .gt 7, 3) := by decide +kernel
theorem dX9_isDigit_12 : decode cX9_isDigit 12 = .ok (.iconst 1, 1) := by decide +kernel
theorem dX9_isDigit_13 : decode cX9_isDigit 13 = .ok (.goto 4, 3) := by decide +kernel
theorem dX9_isDigit_16 : decode cX9_isDigit 16 = .ok (.iconst 0, 1) := by decide +kernel
theorem dX9_isDigit_17 : decode cX9_isDigit 17 = .ok (.ireturn, 1) := by decide +kernel
theorem dX10_init_0 : decode cX10_init 0 = .ok (.aload_n 0, 1) := by decide +kernel
theorem dX10_init_1 : decode cX10_init 1 = .ok (.invokespecial 3, 3) := by decide +kernel
theorem dX10_init_4 : decode cX10_init 4 = .ok (.aload_n 0, 1) := by decide +kernel
theorem dX10_init_5 : decode cX10_init 5 = .ok (.sipush 676, 3) := by decide +kernel
theorem dX10_init_8 : decode cX10_init 8 = .ok (.newarray .int, 2) := by decide +kernel
theorem dX10_init_10 : decode cX10_init 10 = .ok (.putfield 9, 3) := by decide +kernel
theorem dX10_init_13 : decode cX10_init 13 = .ok (.aload_n 0, 1) := by decide +kernel
theorem dX10_init_14 : decode cX10_init 14 = .ok (.sipush 676, 3) := by decide +kernel
theorem dX10_init_17 : decode cX10_init 17 = .ok (.newarray .int, 2) := by decide +kernel
theorem dX10_init_19 : decode cX10_init 19 = .ok (.putfield 15, 3) := by decide +kernel
theorem dX10_init_22 : decode cX10_init 22 = .ok (.aload_n 0, 1) := by decide +kernel
theorem dX10_init_23 : decode cX10_init 23 = .ok (.sipush 676, 3) := by decide +kernel
theorem dX10_init_26 : decode cX10_init 26 = .ok (.newarray .int, 2) := by decide +kernel
theorem dX10_init_28 : decode cX10_init 28 = .ok (.putfield 18, 3) := by decide +kernel
theorem dX10_init_31 : decode cX10_init 31 = .ok (.return_, 1) := by decide +kernel
set_option maxRecDepth 20000 in
theorem ggX10_gather_X10_gatherDay : GoodIn wsX10_gather wsX10_gatherDay := goodIn_r _ [7, 2, 8, 1, 9, 10, 11, 12, 13, 14, 15, 16, 17, 18, 19, 20, 21, 22, 23, 24, 25, 26, 27, 28, 29, 30, 31, 32, 33, 34, 35, 36, 37, 38, 39, 40, 41, 42, 43, 44, 45, 46, 47, 48, 49, 50, 51, 52, 53, 54, 55, 56, 57, 58, 59, 60, 61, 62, 63, 64, 65, 66, 67, 68, 69, 70, 71, 72, 73, 74, 75, 76, 77, 78, 79, 80, 81, 82, 83, 84, 85, 86, 87, 88, 89, 90, 91] (by decide +kernel) (by decide +kernel)
set_option maxRecDepth 20000 in
theorem gX10_gather_X10_gatherDay : GoodIn wsX10_gather (wsV RX10 28 RX10 yX10_gatherDay wsX10_gatherDay) := goodIn_app (goodIn_of _ (by decide +kernel)) ggX10_gather_X10_gatherDay
theorem dX10_gather_0 : decode cX10_gather 0 = .ok (.aload_n 0, 1) := by decide +kernel
theorem dX10_gather_1 : decode cX10_gather 1 = .ok (.iconst 0, 1) := by decide +kernel
theorem dX10_gather_2 : decode cX10_gather 2 = .ok (.putfield 21, 3) := by decide +kernel
theorem dX10_gather_5 : decode cX10_gather 5 = .ok (.aload_n 0, 1) := by decide +kernel
theorem dX10_gather_6 : decode cX10_gather 6 = .ok (.iconst 0, 1) := by decide +kernel
theorem dX10_gather_7 : decode cX10_gather 7 = .ok (.putfield 25, 3) := by decide +kernel
theorem dX10_gather_10 : decode cX10_gather 10 = .ok (.iload_n 1, 1) := by decide +kernel
theorem dX10_gather_11 : decode cX10_gather 11 = .ok (.bipush 7, 2) := by decide +kernel
theorem dX10_gather_13 : decode cX10_gather 13 = .ok (.imul, 1) := by decide +kernel
theorem dX10_gather_14 : decode cX10_gather 14 = .ok (.istore 5, 2) := by decide +kernel
theorem dX10_gather_16 : decode cX10_gather 16 = .ok (.iload 5, 2) := by decide +kernel
theorem dX10_gather_18 : decode cX10_gather 18 = .ok (.iload_n 1, 1) := by decide +kernel
theorem dX10_gather_19 : decode cX10_gather 19 = .ok (.bipush 7, 2) := by decide +kernel
theorem dX10_gather_21 : decode cX10_gather 21 = .ok (.imul, 1) := by decide +kernel
theorem dX10_gather_22 : decode cX10_gather 22 = .ok (.bipush 7, 2) := by decide +kernel
theorem dX10_gather_24 : decode cX10_gather 24 = .ok (.iadd, 1) := by decide +kernel
theorem dX10_gather_25 : decode cX10_gather 25 = .ok (.if_icmp .ge 44, 3) := by decide +kernel
theorem dX10_gather_28 : decode cX10_gather 28 = .ok (.aload_n 0, 1) := by decide +kernel
theorem dX10_gather_29 : decode cX10_gather 29 = .ok (.getfield 21, 3) := by decide +kernel
theorem dX10_gather_32 : decode cX10_gather 32 = .ok (.istore 6, 2) := by decide +kernel
theorem dX10_gather_34 : decode cX10_gather 34 = .ok (.aload_n 0, 1) := by decide +kernel
theorem dX10_gather_35 : decode cX10_gather 35 = .ok (.iload 5, 2) := by decide +kernel
theorem dX10_gather_37 : decode cX10_gather 37 = .ok (.aload_n 2, 1) := by decide +kernel
theorem dX10_gather_38 : decode cX10_gather 38 = .ok (.aload_n 3, 1) := by decide +kernel
theorem dX10_gather_39 : decode cX10_gather 39 = .ok (.iload 4, 2) := by decide +kernel
theorem dX10_gather_41 : decode cX10_gather 41 = .ok (.invokevirtual 28, 3) := by decide +kernel
theorem dX10_gather_44 : decode cX10_gather 44 = .ok (.aload_n 0, 1) := by decide +kernel
theorem dX10_gather_45 : decode cX10_gather 45 = .ok (.getfield 21, 3) := by decide +kernel
theorem dX10_gather_48 : decode cX10_gather 48 = .ok (.iload 6, 2) := by decide +kernel
theorem dX10_gather_50 : decode cX10_gather 50 = .ok (.if_icmp .le 13, 3) := by decide +kernel
theorem dX10_gather_53 : decode cX10_gather 53 = .ok (.aload_n 0, 1) := by decide +kernel
theorem dX10_gather_54 : decode cX10_gather 54 = .ok (.dup, 1) := by decide +kernel
theorem dX10_gather_55 : decode cX10_gather 55 = .ok (.getfield 25, 3) := by decide +kernel
theorem dX10_gather_58 : decode cX10_gather 58 = .ok (.iconst 1, 1) := by decide +kernel
theorem dX10_gather_59 : decode cX10_gather 59 = .ok (.iadd, 1) := by decide +kernel
theorem dX10_gather_60 : decode cX10_gather 60 = .ok (.putfield 25, 3) := by decide +kernel
theorem dX10_gather_63 : decode cX10_gather 63 = .ok (.iinc 5 1, 3) := by decide +kernel
theorem dX10_gather_66 : decode cX10_gather 66 = .ok (.goto (-50), 3) := by decide +kernel
theorem dX10_gather_69 : decode cX10_gather 69 = .ok (.return_, 1) := by decide +kernel
set_option maxRecDepth 20000 in
theorem ggX10_gatherDay_X7_isHoliday : GoodIn wsX10_gatherDay wsX7_isHoliday := goodIn_r _ [20, 21, 22, 64, 65, 66, 67, 68, 69, 70, 71, 72, 73] (by decide +kernel) (by decide +kernel)
set_option maxRecDepth 20000 in
theorem gX10_gatherDay_X7_isHoliday : GoodIn wsX10_gatherDay (wsV RX10 32 RX7 yX7_isHoliday wsX7_isHoliday) := goodIn_app (goodIn_of _ (by decide +kernel)) ggX10_gatherDay_X7_isHoliday
set_option maxRecDepth 20000 in
theorem ggX10_gatherDay_X2_quartersAhead : GoodIn wsX10_gatherDay wsX2_quartersAhead := goodIn_r _ [27, 28, 29, 30, 26, 31, 32, 33, 77, 78, 79, 80, 81] (by decide +kernel) (by decide +kernel)
set_option maxRecDepth 20000 in
theorem gX10_gatherDay_X2_quartersAhead : GoodIn wsX10_gatherDay (wsV RX10 42 RX2 yX2_quartersAhead wsX2_quartersAhead) := goodIn_app (goodIn_of _ (by decide +kernel)) ggX10_gatherDay_X2_quartersAhead
set_option maxRecDepth 20000 in
theorem ggX10_gatherDay_X2_hourAt : GoodIn wsX10_gatherDay wsX2_hourAt := goodIn_r _ [37, 38, 39, 40, 26, 41, 42, 43, 77, 78, 79, 80, 81] (by decide +kernel) (by decide +kernel)
set_option maxRecDepth 20000 in
theorem gX10_gatherDay_X2_hourAt : GoodIn wsX10_gatherDay (wsV RX10 66 RX2 yX2_hourAt wsX2_hourAt) := goodIn_app (goodIn_of _ (by decide +kernel)) ggX10_gatherDay_X2_hourAt
set_option maxRecDepth 20000 in
theorem ggX10_gatherDay_X7_steadyBits : GoodIn wsX10_gatherDay wsX7_steadyBits := goodIn_r _ [47, 48, 49, 50, 51, 52, 53, 54, 55, 56, 57, 58, 64, 65, 66, 67, 68, 69, 70, 71, 72, 73, 82, 83, 84, 85, 86] (by decide +kernel) (by decide +kernel)
set_option maxRecDepth 20000 in
theorem gX10_gatherDay_X7_steadyBits : GoodIn wsX10_gatherDay (wsV RX10 69 RX7 yX7_steadyBits wsX7_steadyBits) := goodIn_app (goodIn_of _ (by decide +kernel)) ggX10_gatherDay_X7_steadyBits
theorem dX10_gatherDay_0 : decode cX10_gatherDay 0 = .ok (.iload_n 1, 1) := by decide +kernel
theorem dX10_gatherDay_1 : decode cX10_gatherDay 1 = .ok (.bipush 7, 2) := by decide +kernel
theorem dX10_gatherDay_3 : decode cX10_gatherDay 3 = .ok (.irem, 1) := by decide +kernel
theorem dX10_gatherDay_4 : decode cX10_gatherDay 4 = .ok (.bipush 6, 2) := by decide +kernel
theorem dX10_gatherDay_6 : decode cX10_gatherDay 6 = .ok (.if_icmp .ne 16, 3) := by decide +kernel
theorem dX10_gatherDay_9 : decode cX10_gatherDay 9 = .ok (.aload_n 0, 1) := by decide +kernel
theorem dX10_gatherDay_10 : decode cX10_gatherDay 10 = .ok (.getfield 25, 3) := by decide +kernel
theorem dX10_gatherDay_13 : decode cX10_gatherDay 13 = .ok (.bipush 6, 2) := by decide +kernel
theorem dX10_gatherDay_15 : decode cX10_gatherDay 15 = .ok (.if_icmp .ne 7, 3) := by decide +kernel
theorem dX10_gatherDay_18 : decode cX10_gatherDay 18 = .ok (.iconst 1, 1) := by decide +kernel
theorem dX10_gatherDay_19 : decode cX10_gatherDay 19 = .ok (.goto 4, 3) := by decide +kernel
theorem dX10_gatherDay_22 : decode cX10_gatherDay 22 = .ok (.iconst 0, 1) := by decide +kernel
theorem dX10_gatherDay_23 : decode cX10_gatherDay 23 = .ok (.istore 5, 2) := by decide +kernel
theorem dX10_gatherDay_25 : decode cX10_gatherDay 25 = .ok (.aload_n 3, 1) := by decide +kernel
theorem dX10_gatherDay_26 : decode cX10_gatherDay 26 = .ok (.iload_n 1, 1) := by decide +kernel
theorem dX10_gatherDay_27 : decode cX10_gatherDay 27 = .ok (.invokevirtual 32, 3) := by decide +kernel
theorem dX10_gatherDay_30 : decode cX10_gatherDay 30 = .ok (.istore 6, 2) := by decide +kernel
theorem dX10_gatherDay_32 : decode cX10_gatherDay 32 = .ok (.aload_n 3, 1) := by decide +kernel
theorem dX10_gatherDay_33 : decode cX10_gatherDay 33 = .ok (.getfield 38, 3) := by decide +kernel
theorem dX10_gatherDay_36 : decode cX10_gatherDay 36 = .ok (.iload_n 1, 1) := by decide +kernel
theorem dX10_gatherDay_37 : decode cX10_gatherDay 37 = .ok (.invokevirtual 42, 3) := by decide +kernel
theorem dX10_gatherDay_40 : decode cX10_gatherDay 40 = .ok (.istore 7, 2) := by decide +kernel
theorem dX10_gatherDay_42 : decode cX10_gatherDay 42 = .ok (.aload_n 3, 1) := by decide +kernel
theorem dX10_gatherDay_43 : decode cX10_gatherDay 43 = .ok (.getfield 38, 3) := by decide +kernel
theorem dX10_gatherDay_46 : decode cX10_gatherDay 46 = .ok (.iload_n 1, 1) := by decide +kernel
theorem dX10_gatherDay_47 : decode cX10_gatherDay 47 = .ok (.iconst 1, 1) := by decide +kernel
theorem dX10_gatherDay_48 : decode cX10_gatherDay 48 = .ok (.iadd, 1) := by decide +kernel
theorem dX10_gatherDay_49 : decode cX10_gatherDay 49 = .ok (.invokevirtual 42, 3) := by decide +kernel
theorem dX10_gatherDay_52 : decode cX10_gatherDay 52 = .ok (.istore 8, 2) := by decide +kernel
theorem dX10_gatherDay_54 : decode cX10_gatherDay 54 = .ok (.aload_n 0, 1) := by decide +kernel
theorem dX10_gatherDay_55 : decode cX10_gatherDay 55 = .ok (.getfield 21, 3) := by decide +kernel
theorem dX10_gatherDay_58 : decode cX10_gatherDay 58 = .ok (.istore 9, 2) := by decide +kernel
theorem dX10_gatherDay_60 : decode cX10_gatherDay 60 = .ok (.iconst 0, 1) := by decide +kernel
theorem dX10_gatherDay_61 : decode cX10_gatherDay 61 = .ok (.istore 10, 2) := by decide +kernel
theorem dX10_gatherDay_63 : decode cX10_gatherDay 63 = .ok (.iload 10, 2) := by decide +kernel
theorem dX10_gatherDay_65 : decode cX10_gatherDay 65 = .ok (.aload_n 2, 1) := by decide +kernel
theorem dX10_gatherDay_66 : decode cX10_gatherDay 66 = .ok (.getfield 48, 3) := by decide +kernel
theorem dX10_gatherDay_69 : decode cX10_gatherDay 69 = .ok (.if_icmp .ge 124, 3) := by decide +kernel
theorem dX10_gatherDay_72 : decode cX10_gatherDay 72 = .ok (.aload_n 2, 1) := by decide +kernel
theorem dX10_gatherDay_73 : decode cX10_gatherDay 73 = .ok (.getfield 51, 3) := by decide +kernel
theorem dX10_gatherDay_76 : decode cX10_gatherDay 76 = .ok (.iload 10, 2) := by decide +kernel
theorem dX10_gatherDay_78 : decode cX10_gatherDay 78 = .ok (.iaload, 1) := by decide +kernel
theorem dX10_gatherDay_79 : decode cX10_gatherDay 79 = .ok (.iload 8, 2) := by decide +kernel
theorem dX10_gatherDay_81 : decode cX10_gatherDay 81 = .ok (.invokestatic 54, 3) := by decide +kernel
theorem dX10_gatherDay_84 : decode cX10_gatherDay 84 = .ok (.istore 11, 2) := by decide +kernel
theorem dX10_gatherDay_86 : decode cX10_gatherDay 86 = .ok (.aload_n 2, 1) := by decide +kernel
theorem dX10_gatherDay_87 : decode cX10_gatherDay 87 = .ok (.getfield 60, 3) := by decide +kernel
theorem dX10_gatherDay_90 : decode cX10_gatherDay 90 = .ok (.iload 10, 2) := by decide +kernel
theorem dX10_gatherDay_92 : decode cX10_gatherDay 92 = .ok (.iaload, 1) := by decide +kernel
theorem dX10_gatherDay_93 : decode cX10_gatherDay 93 = .ok (.iload 7, 2) := by decide +kernel
theorem dX10_gatherDay_95 : decode cX10_gatherDay 95 = .ok (.invokestatic 63, 3) := by decide +kernel
theorem dX10_gatherDay_98 : decode cX10_gatherDay 98 = .ok (.istore 12, 2) := by decide +kernel
theorem dX10_gatherDay_100 : decode cX10_gatherDay 100 = .ok (.iload 12, 2) := by decide +kernel
theorem dX10_gatherDay_102 : decode cX10_gatherDay 102 = .ok (.iload 11, 2) := by decide +kernel
theorem dX10_gatherDay_104 : decode cX10_gatherDay 104 = .ok (.if_icmp .ge 83, 3) := by decide +kernel
theorem dX10_gatherDay_107 : decode cX10_gatherDay 107 = .ok (.aload_n 0, 1) := by decide +kernel
theorem dX10_gatherDay_108 : decode cX10_gatherDay 108 = .ok (.getfield 21, 3) := by decide +kernel
theorem dX10_gatherDay_111 : decode cX10_gatherDay 111 = .ok (.sipush 676, 3) := by decide +kernel
theorem dX10_gatherDay_114 : decode cX10_gatherDay 114 = .ok (.if_icmp .ge 73, 3) := by decide +kernel
theorem dX10_gatherDay_117 : decode cX10_gatherDay 117 = .ok (.aload_n 3, 1) := by decide +kernel
theorem dX10_gatherDay_118 : decode cX10_gatherDay 118 = .ok (.getfield 38, 3) := by decide +kernel
theorem dX10_gatherDay_121 : decode cX10_gatherDay 121 = .ok (.iload 12, 2) := by decide +kernel
theorem dX10_gatherDay_123 : decode cX10_gatherDay 123 = .ok (.bipush 15, 2) := by decide +kernel
theorem dX10_gatherDay_125 : decode cX10_gatherDay 125 = .ok (.imul, 1) := by decide +kernel
theorem dX10_gatherDay_126 : decode cX10_gatherDay 126 = .ok (.invokevirtual 66, 3) := by decide +kernel
theorem dX10_gatherDay_129 : decode cX10_gatherDay 129 = .ok (.istore 13, 2) := by decide +kernel
theorem dX10_gatherDay_131 : decode cX10_gatherDay 131 = .ok (.aload_n 0, 1) := by decide +kernel
theorem dX10_gatherDay_132 : decode cX10_gatherDay 132 = .ok (.getfield 9, 3) := by decide +kernel
theorem dX10_gatherDay_135 : decode cX10_gatherDay 135 = .ok (.aload_n 0, 1) := by decide +kernel
theorem dX10_gatherDay_136 : decode cX10_gatherDay 136 = .ok (.getfield 21, 3) := by decide +kernel
theorem dX10_gatherDay_139 : decode cX10_gatherDay 139 = .ok (.iload 12, 2) := by decide +kernel
theorem dX10_gatherDay_141 : decode cX10_gatherDay 141 = .ok (.iastore, 1) := by decide +kernel
theorem dX10_gatherDay_142 : decode cX10_gatherDay 142 = .ok (.aload_n 0, 1) := by decide +kernel
theorem dX10_gatherDay_143 : decode cX10_gatherDay 143 = .ok (.getfield 15, 3) := by decide +kernel
theorem dX10_gatherDay_146 : decode cX10_gatherDay 146 = .ok (.aload_n 0, 1) := by decide +kernel
theorem dX10_gatherDay_147 : decode cX10_gatherDay 147 = .ok (.getfield 21, 3) := by decide +kernel
theorem dX10_gatherDay_150 : decode cX10_gatherDay 150 = .ok (.aload_n 3, 1) := by decide +kernel
theorem dX10_gatherDay_151 : decode cX10_gatherDay 151 = .ok (.iload 13, 2) := by decide +kernel
theorem dX10_gatherDay_153 : decode cX10_gatherDay 153 = .ok (.aload_n 0, 1) := by decide +kernel
theorem dX10_gatherDay_154 : decode cX10_gatherDay 154 = .ok (.getfield 21, 3) := by decide +kernel
theorem dX10_gatherDay_157 : decode cX10_gatherDay 157 = .ok (.iload 9, 2) := by decide +kernel
theorem dX10_gatherDay_159 : decode cX10_gatherDay 159 = .ok (.isub, 1) := by decide +kernel
theorem dX10_gatherDay_160 : decode cX10_gatherDay 160 = .ok (.iload 5, 2) := by decide +kernel
theorem dX10_gatherDay_162 : decode cX10_gatherDay 162 = .ok (.iload 6, 2) := by decide +kernel
theorem dX10_gatherDay_164 : decode cX10_gatherDay 164 = .ok (.invokevirtual 69, 3) := by decide +kernel
theorem dX10_gatherDay_167 : decode cX10_gatherDay 167 = .ok (.iload 4, 2) := by decide +kernel
theorem dX10_gatherDay_169 : decode cX10_gatherDay 169 = .ok (.iand, 1) := by decide +kernel
theorem dX10_gatherDay_170 : decode cX10_gatherDay 170 = .ok (.iastore, 1) := by decide +kernel
theorem dX10_gatherDay_171 : decode cX10_gatherDay 171 = .ok (.aload_n 0, 1) := by decide +kernel
theorem dX10_gatherDay_172 : decode cX10_gatherDay 172 = .ok (.dup, 1) := by decide +kernel
theorem dX10_gatherDay_173 : decode cX10_gatherDay 173 = .ok (.getfield 21, 3) := by decide +kernel
theorem dX10_gatherDay_176 : decode cX10_gatherDay 176 = .ok (.iconst 1, 1) := by decide +kernel
theorem dX10_gatherDay_177 : decode cX10_gatherDay 177 = .ok (.iadd, 1) := by decide +kernel
theorem dX10_gatherDay_178 : decode cX10_gatherDay 178 = .ok (.putfield 21, 3) := by decide +kernel
theorem dX10_gatherDay_181 : decode cX10_gatherDay 181 = .ok (.iinc 12 1, 3) := by decide +kernel
theorem dX10_gatherDay_184 : decode cX10_gatherDay 184 = .ok (.goto (-84), 3) := by decide +kernel
theorem dX10_gatherDay_187 : decode cX10_gatherDay 187 = .ok (.iinc 10 1, 3) := by decide +kernel
theorem dX10_gatherDay_190 : decode cX10_gatherDay 190 = .ok (.goto (-127), 3) := by decide +kernel
theorem dX10_gatherDay_193 : decode cX10_gatherDay 193 = .ok (.return_, 1) := by decide +kernel
set_option maxRecDepth 20000 in
theorem ggX10_payAsTheyCome_X7_weekBits : GoodIn wsX10_payAsTheyCome wsX7_weekBits := goodIn_r _ [8, 9, 10, 11, 12, 32, 33, 34, 35, 36, 37, 38, 39, 40, 41, 42, 43, 44, 45, 46] (by decide +kernel) (by decide +kernel)
set_option maxRecDepth 20000 in
theorem gX10_payAsTheyCome_X7_weekBits : GoodIn wsX10_payAsTheyCome (wsV RX10 73 RX7 yX7_weekBits wsX7_weekBits) := goodIn_app (goodIn_of _ (by decide +kernel)) ggX10_payAsTheyCome_X7_weekBits
set_option maxRecDepth 20000 in
theorem ggX10_payAsTheyCome_X7_dearestOf : GoodIn wsX10_payAsTheyCome wsX7_dearestOf := goodIn_r _ [16, 9, 17, 18, 19, 7, 20, 10, 21, 32, 33, 34, 35, 36, 37, 38, 39, 40, 41, 42, 43, 44, 45, 46] (by decide +kernel) (by decide +kernel)
set_option maxRecDepth 20000 in
theorem gX10_payAsTheyCome_X7_dearestOf : GoodIn wsX10_payAsTheyCome (wsV RX10 76 RX7 yX7_dearestOf wsX7_dearestOf) := goodIn_app (goodIn_of _ (by decide +kernel)) ggX10_payAsTheyCome_X7_dearestOf
set_option maxRecDepth 20000 in
theorem ggX10_payAsTheyCome_X7_countsUnder : GoodIn wsX10_payAsTheyCome wsX7_countsUnder := goodIn_r _ [25, 10, 26, 32, 33, 34, 35, 36, 37, 38, 39, 40, 41, 42, 43, 44, 45, 46] (by decide +kernel) (by decide +kernel)
set_option maxRecDepth 20000 in
theorem gX10_payAsTheyCome_X7_countsUnder : GoodIn wsX10_payAsTheyCome (wsV RX10 79 RX7 yX7_countsUnder wsX7_countsUnder) := goodIn_app (goodIn_of _ (by decide +kernel)) ggX10_payAsTheyCome_X7_countsUnder
theorem dX10_payAsTheyCome_0 : decode cX10_payAsTheyCome 0 = .ok (.iconst 0, 1) := by decide +kernel
theorem dX10_payAsTheyCome_1 : decode cX10_payAsTheyCome 1 = .ok (.istore_n 3, 1) := by decide +kernel
theorem dX10_payAsTheyCome_2 : decode cX10_payAsTheyCome 2 = .ok (.iconst 0, 1) := by decide +kernel
theorem dX10_payAsTheyCome_3 : decode cX10_payAsTheyCome 3 = .ok (.istore 4, 2) := by decide +kernel
theorem dX10_payAsTheyCome_5 : decode cX10_payAsTheyCome 5 = .ok (.iload 4, 2) := by decide +kernel
theorem dX10_payAsTheyCome_7 : decode cX10_payAsTheyCome 7 = .ok (.aload_n 0, 1) := by decide +kernel
theorem dX10_payAsTheyCome_8 : decode cX10_payAsTheyCome 8 = .ok (.getfield 21, 3) := by decide +kernel
theorem dX10_payAsTheyCome_11 : decode cX10_payAsTheyCome 11 = .ok (.if_icmp .ge 52, 3) := by decide +kernel
theorem dX10_payAsTheyCome_14 : decode cX10_payAsTheyCome 14 = .ok (.aload_n 0, 1) := by decide +kernel
theorem dX10_payAsTheyCome_15 : decode cX10_payAsTheyCome 15 = .ok (.getfield 18, 3) := by decide +kernel
theorem dX10_payAsTheyCome_18 : decode cX10_payAsTheyCome 18 = .ok (.iload 4, 2) := by decide +kernel
theorem dX10_payAsTheyCome_20 : decode cX10_payAsTheyCome 20 = .ok (.aload_n 1, 1) := by decide +kernel
theorem dX10_payAsTheyCome_21 : decode cX10_payAsTheyCome 21 = .ok (.aload_n 0, 1) := by decide +kernel
theorem dX10_payAsTheyCome_22 : decode cX10_payAsTheyCome 22 = .ok (.getfield 15, 3) := by decide +kernel
theorem dX10_payAsTheyCome_25 : decode cX10_payAsTheyCome 25 = .ok (.iload 4, 2) := by decide +kernel
theorem dX10_payAsTheyCome_27 : decode cX10_payAsTheyCome 27 = .ok (.iaload, 1) := by decide +kernel
theorem dX10_payAsTheyCome_28 : decode cX10_payAsTheyCome 28 = .ok (.aload_n 1, 1) := by decide +kernel
theorem dX10_payAsTheyCome_29 : decode cX10_payAsTheyCome 29 = .ok (.iload_n 3, 1) := by decide +kernel
theorem dX10_payAsTheyCome_30 : decode cX10_payAsTheyCome 30 = .ok (.invokevirtual 73, 3) := by decide +kernel
theorem dX10_payAsTheyCome_33 : decode cX10_payAsTheyCome 33 = .ok (.iload_n 2, 1) := by decide +kernel
theorem dX10_payAsTheyCome_34 : decode cX10_payAsTheyCome 34 = .ok (.iand, 1) := by decide +kernel
theorem dX10_payAsTheyCome_35 : decode cX10_payAsTheyCome 35 = .ok (.ior, 1) := by decide +kernel
theorem dX10_payAsTheyCome_36 : decode cX10_payAsTheyCome 36 = .ok (.invokevirtual 76, 3) := by decide +kernel
theorem dX10_payAsTheyCome_39 : decode cX10_payAsTheyCome 39 = .ok (.iastore, 1) := by decide +kernel
theorem dX10_payAsTheyCome_40 : decode cX10_payAsTheyCome 40 = .ok (.aload_n 1, 1) := by decide +kernel
theorem dX10_payAsTheyCome_41 : decode cX10_payAsTheyCome 41 = .ok (.aload_n 0, 1) := by decide +kernel
theorem dX10_payAsTheyCome_42 : decode cX10_payAsTheyCome 42 = .ok (.getfield 18, 3) := by decide +kernel
theorem dX10_payAsTheyCome_45 : decode cX10_payAsTheyCome 45 = .ok (.iload 4, 2) := by decide +kernel
theorem dX10_payAsTheyCome_47 : decode cX10_payAsTheyCome 47 = .ok (.iaload, 1) := by decide +kernel
theorem dX10_payAsTheyCome_48 : decode cX10_payAsTheyCome 48 = .ok (.invokevirtual 79, 3) := by decide +kernel
theorem dX10_payAsTheyCome_51 : decode cX10_payAsTheyCome 51 = .ok (.ifCond .eq 6, 3) := by decide +kernel
theorem dX10_payAsTheyCome_54 : decode cX10_payAsTheyCome 54 = .ok (.iinc 3 1, 3) := by decide +kernel
theorem dX10_payAsTheyCome_57 : decode cX10_payAsTheyCome 57 = .ok (.iinc 4 1, 3) := by decide +kernel
theorem dX10_payAsTheyCome_60 : decode cX10_payAsTheyCome 60 = .ok (.goto (-55), 3) := by decide +kernel
theorem dX10_payAsTheyCome_63 : decode cX10_payAsTheyCome 63 = .ok (.return_, 1) := by decide +kernel
set_option maxRecDepth 20000 in
theorem ggX11_init_X9_init : GoodIn wsX11_init wsX9_init := goodIn_r _ [36, 37, 2, 3, 38, 39, 137, 138, 139, 140, 141, 142] (by decide +kernel) (by decide +kernel)
set_option maxRecDepth 20000 in
theorem gX11_init_X9_init_n11 : GoodIn wsX11_init (wsX9_init) := ggX11_init_X9_init
set_option maxRecDepth 20000 in
theorem ggX11_init_X6_init : GoodIn wsX11_init wsX6_init := goodIn_r _ [41, 42, 2, 3] (by decide +kernel) (by decide +kernel)
set_option maxRecDepth 20000 in
theorem gX11_init_X6_init_n18 : GoodIn wsX11_init (wsX6_init) := ggX11_init_X6_init
set_option maxRecDepth 20000 in
theorem ggX11_init_X7_init : GoodIn wsX11_init wsX7_init := goodIn_r _ [45, 46, 2, 3, 47, 48, 49, 50, 51, 52, 38, 53, 54, 55, 56, 57, 58, 59, 60, 61, 62, 63, 64, 65, 66, 67, 14, 68, 69, 70, 71, 72, 73, 74, 75, 76, 77, 78, 79, 80, 81, 196, 197, 198, 199, 200, 155, 156, 157, 158, 159, 160, 161, 162, 163, 164, 201, 202, 203, 204, 205] (by decide +kernel) (by decide +kernel)
set_option maxRecDepth 20000 in
theorem gX11_init_X7_init : GoodIn wsX11_init (wsX7_init) := ggX11_init_X7_init
set_option maxRecDepth 20000 in
theorem ggX11_init_X1_init : GoodIn wsX11_init wsX1_init := goodIn_r _ [83, 84, 2, 3, 38, 85, 86, 165, 166, 167] (by decide +kernel) (by decide +kernel)
set_option maxRecDepth 20000 in
theorem gX11_init_X1_init_n45 : GoodIn wsX11_init (wsX1_init) := ggX11_init_X1_init
set_option maxRecDepth 20000 in
theorem ggX11_init_X8_init : GoodIn wsX11_init wsX8_init := goodIn_r _ [88, 89, 2, 3, 90, 38, 91, 92, 93, 94, 95, 96, 97, 98, 99, 100, 101, 102, 103, 104, 105, 106, 107, 108, 168, 169, 170, 171, 172, 173, 174, 175, 176, 177, 178, 179, 180, 181, 206, 207, 208] (by decide +kernel) (by decide +kernel)
set_option maxRecDepth 20000 in
theorem gX11_init_X8_init_n46 : GoodIn wsX11_init (wsX8_init) := ggX11_init_X8_init
set_option maxRecDepth 20000 in
theorem ggX11_init_X3_init : GoodIn wsX11_init wsX3_init := goodIn_r _ [110, 111, 2, 3, 38, 112, 113, 114, 115, 116, 182, 183, 184, 185, 186] (by decide +kernel) (by decide +kernel)
set_option maxRecDepth 20000 in
theorem gX11_init_X3_init_n49 : GoodIn wsX11_init (wsX3_init) := ggX11_init_X3_init
set_option maxRecDepth 20000 in
theorem ggX11_init_X0_init : GoodIn wsX11_init wsX0_init := goodIn_r _ [118, 119, 2, 3, 120, 121, 122, 123, 38, 124, 125, 126, 127, 128, 129, 130, 131, 132, 133, 134, 135, 136, 209, 210, 211, 212, 213, 187, 188, 189, 190, 191, 192, 193, 194, 195] (by decide +kernel) (by decide +kernel)
set_option maxRecDepth 20000 in
theorem gX11_init_X0_init_n64 : GoodIn wsX11_init (wsX0_init) := ggX11_init_X0_init
theorem dX11_init_0 : decode cX11_init 0 = .ok (.aload_n 0, 1) := by decide +kernel
theorem dX11_init_1 : decode cX11_init 1 = .ok (.invokespecial 3, 3) := by decide +kernel
theorem dX11_init_4 : decode cX11_init 4 = .ok (.aload_n 0, 1) := by decide +kernel
theorem dX11_init_5 : decode cX11_init 5 = .ok (.new 9, 3) := by decide +kernel
theorem dX11_init_8 : decode cX11_init 8 = .ok (.dup, 1) := by decide +kernel
theorem dX11_init_9 : decode cX11_init 9 = .ok (.invokespecial 11, 3) := by decide +kernel
theorem dX11_init_12 : decode cX11_init 12 = .ok (.putfield 12, 3) := by decide +kernel
theorem dX11_init_15 : decode cX11_init 15 = .ok (.aload_n 0, 1) := by decide +kernel
theorem dX11_init_16 : decode cX11_init 16 = .ok (.new 16, 3) := by decide +kernel
theorem dX11_init_19 : decode cX11_init 19 = .ok (.dup, 1) := by decide +kernel
theorem dX11_init_20 : decode cX11_init 20 = .ok (.invokespecial 18, 3) := by decide +kernel
theorem dX11_init_23 : decode cX11_init 23 = .ok (.putfield 19, 3) := by decide +kernel
theorem dX11_init_26 : decode cX11_init 26 = .ok (.aload_n 0, 1) := by decide +kernel
theorem dX11_init_27 : decode cX11_init 27 = .ok (.new 23, 3) := by decide +kernel
theorem dX11_init_30 : decode cX11_init 30 = .ok (.dup, 1) := by decide +kernel
theorem dX11_init_31 : decode cX11_init 31 = .ok (.invokespecial 25, 3) := by decide +kernel
theorem dX11_init_34 : decode cX11_init 34 = .ok (.putfield 26, 3) := by decide +kernel
theorem dX11_init_37 : decode cX11_init 37 = .ok (.aload_n 0, 1) := by decide +kernel
theorem dX11_init_38 : decode cX11_init 38 = .ok (.new 23, 3) := by decide +kernel
theorem dX11_init_41 : decode cX11_init 41 = .ok (.dup, 1) := by decide +kernel
theorem dX11_init_42 : decode cX11_init 42 = .ok (.invokespecial 25, 3) := by decide +kernel
theorem dX11_init_45 : decode cX11_init 45 = .ok (.putfield 30, 3) := by decide +kernel
theorem dX11_init_48 : decode cX11_init 48 = .ok (.aload_n 0, 1) := by decide +kernel
theorem dX11_init_49 : decode cX11_init 49 = .ok (.iconst 4, 1) := by decide +kernel
theorem dX11_init_50 : decode cX11_init 50 = .ok (.anewarray 33, 3) := by decide +kernel
theorem dX11_init_53 : decode cX11_init 53 = .ok (.putfield 35, 3) := by decide +kernel
theorem dX11_init_56 : decode cX11_init 56 = .ok (.aload_n 0, 1) := by decide +kernel
theorem dX11_init_57 : decode cX11_init 57 = .ok (.iconst 4, 1) := by decide +kernel
theorem dX11_init_58 : decode cX11_init 58 = .ok (.anewarray 39, 3) := by decide +kernel
theorem dX11_init_61 : decode cX11_init 61 = .ok (.putfield 41, 3) := by decide +kernel
theorem dX11_init_64 : decode cX11_init 64 = .ok (.iconst 0, 1) := by decide +kernel
theorem dX11_init_65 : decode cX11_init 65 = .ok (.istore_n 1, 1) := by decide +kernel
theorem dX11_init_66 : decode cX11_init 66 = .ok (.iload_n 1, 1) := by decide +kernel
theorem dX11_init_67 : decode cX11_init 67 = .ok (.iconst 4, 1) := by decide +kernel
theorem dX11_init_68 : decode cX11_init 68 = .ok (.if_icmp .ge 35, 3) := by decide +kernel
theorem dX11_init_71 : decode cX11_init 71 = .ok (.aload_n 0, 1) := by decide +kernel
theorem dX11_init_72 : decode cX11_init 72 = .ok (.getfield 35, 3) := by decide +kernel
theorem dX11_init_75 : decode cX11_init 75 = .ok (.iload_n 1, 1) := by decide +kernel
theorem dX11_init_76 : decode cX11_init 76 = .ok (.new 33, 3) := by decide +kernel
theorem dX11_init_79 : decode cX11_init 79 = .ok (.dup, 1) := by decide +kernel
theorem dX11_init_80 : decode cX11_init 80 = .ok (.invokespecial 45, 3) := by decide +kernel
theorem dX11_init_83 : decode cX11_init 83 = .ok (.aastore, 1) := by decide +kernel
theorem dX11_init_84 : decode cX11_init 84 = .ok (.aload_n 0, 1) := by decide +kernel
theorem dX11_init_85 : decode cX11_init 85 = .ok (.getfield 41, 3) := by decide +kernel
theorem dX11_init_88 : decode cX11_init 88 = .ok (.iload_n 1, 1) := by decide +kernel
theorem dX11_init_89 : decode cX11_init 89 = .ok (.new 39, 3) := by decide +kernel
theorem dX11_init_92 : decode cX11_init 92 = .ok (.dup, 1) := by decide +kernel
theorem dX11_init_93 : decode cX11_init 93 = .ok (.invokespecial 46, 3) := by decide +kernel
theorem dX11_init_96 : decode cX11_init 96 = .ok (.aastore, 1) := by decide +kernel
theorem dX11_init_97 : decode cX11_init 97 = .ok (.iinc 1 1, 3) := by decide +kernel
theorem dX11_init_100 : decode cX11_init 100 = .ok (.goto (-34), 3) := by decide +kernel
theorem dX11_init_103 : decode cX11_init 103 = .ok (.aload_n 0, 1) := by decide +kernel
theorem dX11_init_104 : decode cX11_init 104 = .ok (.new 47, 3) := by decide +kernel
theorem dX11_init_107 : decode cX11_init 107 = .ok (.dup, 1) := by decide +kernel
theorem dX11_init_108 : decode cX11_init 108 = .ok (.invokespecial 49, 3) := by decide +kernel
theorem dX11_init_111 : decode cX11_init 111 = .ok (.putfield 50, 3) := by decide +kernel
theorem dX11_init_114 : decode cX11_init 114 = .ok (.aload_n 0, 1) := by decide +kernel
theorem dX11_init_115 : decode cX11_init 115 = .ok (.new 33, 3) := by decide +kernel
theorem dX11_init_118 : decode cX11_init 118 = .ok (.dup, 1) := by decide +kernel
theorem dX11_init_119 : decode cX11_init 119 = .ok (.invokespecial 45, 3) := by decide +kernel
theorem dX11_init_122 : decode cX11_init 122 = .ok (.putfield 54, 3) := by decide +kernel
theorem dX11_init_125 : decode cX11_init 125 = .ok (.aload_n 0, 1) := by decide +kernel
theorem dX11_init_126 : decode cX11_init 126 = .ok (.new 39, 3) := by decide +kernel
theorem dX11_init_129 : decode cX11_init 129 = .ok (.dup, 1) := by decide +kernel
theorem dX11_init_130 : decode cX11_init 130 = .ok (.invokespecial 46, 3) := by decide +kernel
theorem dX11_init_133 : decode cX11_init 133 = .ok (.putfield 58, 3) := by decide +kernel
theorem dX11_init_136 : decode cX11_init 136 = .ok (.aload_n 0, 1) := by decide +kernel
theorem dX11_init_137 : decode cX11_init 137 = .ok (.new 62, 3) := by decide +kernel
theorem dX11_init_140 : decode cX11_init 140 = .ok (.dup, 1) := by decide +kernel
theorem dX11_init_141 : decode cX11_init 141 = .ok (.invokespecial 64, 3) := by decide +kernel
theorem dX11_init_144 : decode cX11_init 144 = .ok (.putfield 65, 3) := by decide +kernel
theorem dX11_init_147 : decode cX11_init 147 = .ok (.return_, 1) := by decide +kernel
set_option maxRecDepth 20000 in
theorem ggX11_feed_X9_hasRoom : GoodIn wsX11_feed wsX9_hasRoom := goodIn_r _ [7, 8, 9, 24, 25, 26, 27, 28, 29] (by decide +kernel) (by decide +kernel)
set_option maxRecDepth 20000 in
theorem gX11_feed_X9_hasRoom : GoodIn wsX11_feed (wsV RX11 69 RX9 yX9_hasRoom wsX9_hasRoom) := goodIn_app (goodIn_of _ (by decide +kernel)) ggX11_feed_X9_hasRoom
set_option maxRecDepth 20000 in
theorem ggX11_feed_X9_put : GoodIn wsX11_feed wsX9_put := goodIn_r _ [13, 8, 9, 24, 25, 26, 27, 28, 29] (by decide +kernel) (by decide +kernel)
set_option maxRecDepth 20000 in
theorem gX11_feed_X9_put : GoodIn wsX11_feed (wsV RX11 73 RX9 yX9_put wsX9_put) := goodIn_app (goodIn_of _ (by decide +kernel)) ggX11_feed_X9_put
theorem dX11_feed_0 : decode cX11_feed 0 = .ok (.aload_n 0, 1) := by decide +kernel
theorem dX11_feed_1 : decode cX11_feed 1 = .ok (.getfield 12, 3) := by decide +kernel
theorem dX11_feed_4 : decode cX11_feed 4 = .ok (.bipush 20, 2) := by decide +kernel
theorem dX11_feed_6 : decode cX11_feed 6 = .ok (.invokevirtual 69, 3) := by decide +kernel
theorem dX11_feed_9 : decode cX11_feed 9 = .ok (.ifCond .ne 5, 3) := by decide +kernel
theorem dX11_feed_12 : decode cX11_feed 12 = .ok (.iconst (-1), 1) := by decide +kernel
theorem dX11_feed_13 : decode cX11_feed 13 = .ok (.ireturn, 1) := by decide +kernel
theorem dX11_feed_14 : decode cX11_feed 14 = .ok (.aload_n 0, 1) := by decide +kernel
theorem dX11_feed_15 : decode cX11_feed 15 = .ok (.getfield 12, 3) := by decide +kernel
theorem dX11_feed_18 : decode cX11_feed 18 = .ok (.iload_n 1, 1) := by decide +kernel
theorem dX11_feed_19 : decode cX11_feed 19 = .ok (.invokevirtual 73, 3) := by decide +kernel
theorem dX11_feed_22 : decode cX11_feed 22 = .ok (.aload_n 0, 1) := by decide +kernel
theorem dX11_feed_23 : decode cX11_feed 23 = .ok (.getfield 12, 3) := by decide +kernel
theorem dX11_feed_26 : decode cX11_feed 26 = .ok (.iload_n 2, 1) := by decide +kernel
theorem dX11_feed_27 : decode cX11_feed 27 = .ok (.invokevirtual 73, 3) := by decide +kernel
theorem dX11_feed_30 : decode cX11_feed 30 = .ok (.aload_n 0, 1) := by decide +kernel
theorem dX11_feed_31 : decode cX11_feed 31 = .ok (.getfield 12, 3) := by decide +kernel
theorem dX11_feed_34 : decode cX11_feed 34 = .ok (.iload_n 3, 1) := by decide +kernel
theorem dX11_feed_35 : decode cX11_feed 35 = .ok (.invokevirtual 73, 3) := by decide +kernel
theorem dX11_feed_38 : decode cX11_feed 38 = .ok (.aload_n 0, 1) := by decide +kernel
theorem dX11_feed_39 : decode cX11_feed 39 = .ok (.getfield 12, 3) := by decide +kernel
theorem dX11_feed_42 : decode cX11_feed 42 = .ok (.iload 4, 2) := by decide +kernel
theorem dX11_feed_44 : decode cX11_feed 44 = .ok (.invokevirtual 73, 3) := by decide +kernel
theorem dX11_feed_47 : decode cX11_feed 47 = .ok (.aload_n 0, 1) := by decide +kernel
theorem dX11_feed_48 : decode cX11_feed 48 = .ok (.getfield 12, 3) := by decide +kernel
theorem dX11_feed_51 : decode cX11_feed 51 = .ok (.iload 5, 2) := by decide +kernel
theorem dX11_feed_53 : decode cX11_feed 53 = .ok (.invokevirtual 73, 3) := by decide +kernel
theorem dX11_feed_56 : decode cX11_feed 56 = .ok (.aload_n 0, 1) := by decide +kernel
theorem dX11_feed_57 : decode cX11_feed 57 = .ok (.getfield 12, 3) := by decide +kernel
theorem dX11_feed_60 : decode cX11_feed 60 = .ok (.getfield 77, 3) := by decide +kernel
theorem dX11_feed_63 : decode cX11_feed 63 = .ok (.ireturn, 1) := by decide +kernel
set_option maxRecDepth 20000 in
theorem ggX11_rules_X6_read : GoodIn wsX11_rules wsX6_read := goodIn_r _ [11, 12, 13, 14, 15, 16, 17, 18, 19, 20, 21, 22, 23, 24, 25, 26, 27, 28, 29, 30, 31, 32, 33, 34, 35, 36, 37, 38, 39, 40, 41, 42, 43, 44, 45, 46, 47, 48, 49, 50, 51, 52, 53, 54, 55, 56, 57, 58, 59, 60, 61, 62, 63, 64, 65, 10, 66, 67, 68, 69, 70, 71, 72, 73, 74, 75, 76, 77, 78, 79, 80, 81, 82, 83, 84, 85, 86, 87, 88, 89, 90, 91, 92, 93, 94, 95, 96, 97, 98, 99, 100, 101, 102, 103, 104, 105, 106, 107, 108, 109, 110, 111, 112, 113, 114, 115, 116, 117, 118, 119, 120, 121, 122, 123, 124, 125, 126, 127, 128, 129, 130, 131, 132, 133, 134, 135, 136, 137, 138, 139, 140, 141, 142, 143, 144, 145, 146, 147, 148, 149, 150, 151, 152, 153, 154, 155, 156, 157, 158, 159, 160, 161, 162, 163, 164, 165, 166, 167, 168, 169, 170, 171, 172, 173, 174, 175, 176, 177, 178, 179, 180, 181, 231, 232, 215, 216, 217, 218, 219, 220, 221, 222, 223, 224, 225, 226, 227, 228, 229, 230, 233, 234, 235, 236, 237, 238, 239, 240, 241, 242] (by decide +kernel) (by decide +kernel)
set_option maxRecDepth 20000 in
theorem gX11_rules_X6_read : GoodIn wsX11_rules (wsV RX11 81 RX6 yX6_read wsX6_read) := goodIn_app (goodIn_of _ (by decide +kernel)) ggX11_rules_X6_read
set_option maxRecDepth 20000 in
theorem ggX11_rules_X11_replaceRules : GoodIn wsX11_rules wsX11_replaceRules := goodIn_r _ [186, 5, 187, 4, 188, 189, 190, 191, 192, 193, 194, 195, 196, 31, 197, 33, 34, 35, 198, 199, 200, 201, 202, 203, 204, 205, 206, 207, 208, 209, 210, 211, 212, 213, 214, 221, 222, 223, 224, 225, 226, 227, 228, 229, 230, 243, 244, 245, 246, 247, 248, 249, 250, 233, 234, 235, 236, 237, 251, 252, 253, 254, 255, 256, 257, 258, 259, 260, 261, 262, 263, 264] (by decide +kernel) (by decide +kernel)
set_option maxRecDepth 20000 in
theorem gX11_rules_X11_replaceRules : GoodIn wsX11_rules (wsV RX11 85 RX11 yX11_replaceRules wsX11_replaceRules) := goodIn_app (goodIn_of _ (by decide +kernel)) ggX11_rules_X11_replaceRules
theorem dX11_rules_0 : decode cX11_rules 0 = .ok (.iload_n 1, 1) := by decide +kernel
theorem dX11_rules_1 : decode cX11_rules 1 = .ok (.ifCond .lt 14, 3) := by decide +kernel
theorem dX11_rules_4 : decode cX11_rules 4 = .ok (.iload_n 1, 1) := by decide +kernel
theorem dX11_rules_5 : decode cX11_rules 5 = .ok (.aload_n 0, 1) := by decide +kernel
theorem dX11_rules_6 : decode cX11_rules 6 = .ok (.getfield 12, 3) := by decide +kernel
theorem dX11_rules_9 : decode cX11_rules 9 = .ok (.getfield 77, 3) := by decide +kernel
theorem dX11_rules_12 : decode cX11_rules 12 = .ok (.if_icmp .le 5, 3) := by decide +kernel
theorem dX11_rules_15 : decode cX11_rules 15 = .ok (.iconst (-1), 1) := by decide +kernel
theorem dX11_rules_16 : decode cX11_rules 16 = .ok (.ireturn, 1) := by decide +kernel
theorem dX11_rules_17 : decode cX11_rules 17 = .ok (.aload_n 0, 1) := by decide +kernel
theorem dX11_rules_18 : decode cX11_rules 18 = .ok (.getfield 19, 3) := by decide +kernel
theorem dX11_rules_21 : decode cX11_rules 21 = .ok (.aload_n 0, 1) := by decide +kernel
theorem dX11_rules_22 : decode cX11_rules 22 = .ok (.getfield 12, 3) := by decide +kernel
theorem dX11_rules_25 : decode cX11_rules 25 = .ok (.iload_n 1, 1) := by decide +kernel
theorem dX11_rules_26 : decode cX11_rules 26 = .ok (.aload_n 0, 1) := by decide +kernel
theorem dX11_rules_27 : decode cX11_rules 27 = .ok (.getfield 30, 3) := by decide +kernel
theorem dX11_rules_30 : decode cX11_rules 30 = .ok (.invokevirtual 81, 3) := by decide +kernel
theorem dX11_rules_33 : decode cX11_rules 33 = .ok (.istore_n 2, 1) := by decide +kernel
theorem dX11_rules_34 : decode cX11_rules 34 = .ok (.aload_n 0, 1) := by decide +kernel
theorem dX11_rules_35 : decode cX11_rules 35 = .ok (.getfield 12, 3) := by decide +kernel
theorem dX11_rules_38 : decode cX11_rules 38 = .ok (.iconst 0, 1) := by decide +kernel
theorem dX11_rules_39 : decode cX11_rules 39 = .ok (.putfield 77, 3) := by decide +kernel
theorem dX11_rules_42 : decode cX11_rules 42 = .ok (.iload_n 2, 1) := by decide +kernel
theorem dX11_rules_43 : decode cX11_rules 43 = .ok (.iconst (-1), 1) := by decide +kernel
theorem dX11_rules_44 : decode cX11_rules 44 = .ok (.if_icmp .eq 8, 3) := by decide +kernel
theorem dX11_rules_47 : decode cX11_rules 47 = .ok (.bipush (-2), 2) := by decide +kernel
theorem dX11_rules_49 : decode cX11_rules 49 = .ok (.iload_n 2, 1) := by decide +kernel
theorem dX11_rules_50 : decode cX11_rules 50 = .ok (.isub, 1) := by decide +kernel
theorem dX11_rules_51 : decode cX11_rules 51 = .ok (.ireturn, 1) := by decide +kernel
theorem dX11_rules_52 : decode cX11_rules 52 = .ok (.aload_n 0, 1) := by decide +kernel
theorem dX11_rules_53 : decode cX11_rules 53 = .ok (.invokevirtual 85, 3) := by decide +kernel
theorem dX11_rules_56 : decode cX11_rules 56 = .ok (.aload_n 0, 1) := by decide +kernel
theorem dX11_rules_57 : decode cX11_rules 57 = .ok (.getfield 26, 3) := by decide +kernel
theorem dX11_rules_60 : decode cX11_rules 60 = .ok (.getfield 88, 3) := by decide +kernel
theorem dX11_rules_63 : decode cX11_rules 63 = .ok (.ireturn, 1) := by decide +kernel
set_option maxRecDepth 20000 in
theorem ggX11_replaceRules_X2_sameAs : GoodIn wsX11_replaceRules wsX2_sameAs := goodIn_r _ [14, 15, 16, 17, 53, 54, 55, 56, 57] (by decide +kernel) (by decide +kernel)
set_option maxRecDepth 20000 in
theorem gX11_replaceRules_X2_sameAs : GoodIn wsX11_replaceRules (wsV RX11 95 RX2 yX2_sameAs wsX2_sameAs) := goodIn_app (goodIn_of _ (by decide +kernel)) ggX11_replaceRules_X2_sameAs
set_option maxRecDepth 20000 in
theorem ggX11_replaceRules_X8_forget : GoodIn wsX11_replaceRules wsX8_forget := goodIn_r _ [22, 23, 24, 58, 59, 60, 61, 62, 63, 64, 65, 66, 67, 68, 69, 70, 71] (by decide +kernel) (by decide +kernel)
set_option maxRecDepth 20000 in
theorem gX11_replaceRules_X8_forget : GoodIn wsX11_replaceRules (wsV RX11 102 RX8 yX8_forget wsX8_forget) := goodIn_app (goodIn_of _ (by decide +kernel)) ggX11_replaceRules_X8_forget
theorem dX11_replaceRules_0 : decode cX11_replaceRules 0 = .ok (.aload_n 0, 1) := by decide +kernel
theorem dX11_replaceRules_1 : decode cX11_replaceRules 1 = .ok (.getfield 26, 3) := by decide +kernel
theorem dX11_replaceRules_4 : decode cX11_replaceRules 4 = .ok (.getfield 91, 3) := by decide +kernel
theorem dX11_replaceRules_7 : decode cX11_replaceRules 7 = .ok (.aload_n 0, 1) := by decide +kernel
theorem dX11_replaceRules_8 : decode cX11_replaceRules 8 = .ok (.getfield 30, 3) := by decide +kernel
theorem dX11_replaceRules_11 : decode cX11_replaceRules 11 = .ok (.getfield 91, 3) := by decide +kernel
theorem dX11_replaceRules_14 : decode cX11_replaceRules 14 = .ok (.invokevirtual 95, 3) := by decide +kernel
theorem dX11_replaceRules_17 : decode cX11_replaceRules 17 = .ok (.ifCond .ne 7, 3) := by decide +kernel
theorem dX11_replaceRules_20 : decode cX11_replaceRules 20 = .ok (.iconst 1, 1) := by decide +kernel
theorem dX11_replaceRules_21 : decode cX11_replaceRules 21 = .ok (.goto 4, 3) := by decide +kernel
theorem dX11_replaceRules_24 : decode cX11_replaceRules 24 = .ok (.iconst 0, 1) := by decide +kernel
theorem dX11_replaceRules_25 : decode cX11_replaceRules 25 = .ok (.istore_n 1, 1) := by decide +kernel
theorem dX11_replaceRules_26 : decode cX11_replaceRules 26 = .ok (.aload_n 0, 1) := by decide +kernel
theorem dX11_replaceRules_27 : decode cX11_replaceRules 27 = .ok (.getfield 26, 3) := by decide +kernel
theorem dX11_replaceRules_30 : decode cX11_replaceRules 30 = .ok (.astore_n 2, 1) := by decide +kernel
theorem dX11_replaceRules_31 : decode cX11_replaceRules 31 = .ok (.aload_n 0, 1) := by decide +kernel
theorem dX11_replaceRules_32 : decode cX11_replaceRules 32 = .ok (.aload_n 0, 1) := by decide +kernel
theorem dX11_replaceRules_33 : decode cX11_replaceRules 33 = .ok (.getfield 30, 3) := by decide +kernel
theorem dX11_replaceRules_36 : decode cX11_replaceRules 36 = .ok (.putfield 26, 3) := by decide +kernel
theorem dX11_replaceRules_39 : decode cX11_replaceRules 39 = .ok (.aload_n 0, 1) := by decide +kernel
theorem dX11_replaceRules_40 : decode cX11_replaceRules 40 = .ok (.aload_n 2, 1) := by decide +kernel
theorem dX11_replaceRules_41 : decode cX11_replaceRules 41 = .ok (.putfield 30, 3) := by decide +kernel
theorem dX11_replaceRules_44 : decode cX11_replaceRules 44 = .ok (.aload_n 0, 1) := by decide +kernel
theorem dX11_replaceRules_45 : decode cX11_replaceRules 45 = .ok (.getfield 50, 3) := by decide +kernel
theorem dX11_replaceRules_48 : decode cX11_replaceRules 48 = .ok (.iconst 0, 1) := by decide +kernel
theorem dX11_replaceRules_49 : decode cX11_replaceRules 49 = .ok (.putfield 101, 3) := by decide +kernel
theorem dX11_replaceRules_52 : decode cX11_replaceRules 52 = .ok (.aload_n 0, 1) := by decide +kernel
theorem dX11_replaceRules_53 : decode cX11_replaceRules 53 = .ok (.getfield 58, 3) := by decide +kernel
theorem dX11_replaceRules_56 : decode cX11_replaceRules 56 = .ok (.invokevirtual 102, 3) := by decide +kernel
theorem dX11_replaceRules_59 : decode cX11_replaceRules 59 = .ok (.iconst 0, 1) := by decide +kernel
theorem dX11_replaceRules_60 : decode cX11_replaceRules 60 = .ok (.istore_n 3, 1) := by decide +kernel
theorem dX11_replaceRules_61 : decode cX11_replaceRules 61 = .ok (.iload_n 3, 1) := by decide +kernel
theorem dX11_replaceRules_62 : decode cX11_replaceRules 62 = .ok (.iconst 4, 1) := by decide +kernel
theorem dX11_replaceRules_63 : decode cX11_replaceRules 63 = .ok (.if_icmp .ge 32, 3) := by decide +kernel
theorem dX11_replaceRules_66 : decode cX11_replaceRules 66 = .ok (.aload_n 0, 1) := by decide +kernel
theorem dX11_replaceRules_67 : decode cX11_replaceRules 67 = .ok (.getfield 41, 3) := by decide +kernel
theorem dX11_replaceRules_70 : decode cX11_replaceRules 70 = .ok (.iload_n 3, 1) := by decide +kernel
theorem dX11_replaceRules_71 : decode cX11_replaceRules 71 = .ok (.aaload, 1) := by decide +kernel
theorem dX11_replaceRules_72 : decode cX11_replaceRules 72 = .ok (.invokevirtual 102, 3) := by decide +kernel
theorem dX11_replaceRules_75 : decode cX11_replaceRules 75 = .ok (.iload_n 1, 1) := by decide +kernel
theorem dX11_replaceRules_76 : decode cX11_replaceRules 76 = .ok (.ifCond .eq 13, 3) := by decide +kernel
theorem dX11_replaceRules_79 : decode cX11_replaceRules 79 = .ok (.aload_n 0, 1) := by decide +kernel
theorem dX11_replaceRules_80 : decode cX11_replaceRules 80 = .ok (.getfield 35, 3) := by decide +kernel
theorem dX11_replaceRules_83 : decode cX11_replaceRules 83 = .ok (.iload_n 3, 1) := by decide +kernel
theorem dX11_replaceRules_84 : decode cX11_replaceRules 84 = .ok (.aaload, 1) := by decide +kernel
theorem dX11_replaceRules_85 : decode cX11_replaceRules 85 = .ok (.iconst 0, 1) := by decide +kernel
theorem dX11_replaceRules_86 : decode cX11_replaceRules 86 = .ok (.putfield 105, 3) := by decide +kernel
theorem dX11_replaceRules_89 : decode cX11_replaceRules 89 = .ok (.iinc 3 1, 3) := by decide +kernel
theorem dX11_replaceRules_92 : decode cX11_replaceRules 92 = .ok (.goto (-31), 3) := by decide +kernel
theorem dX11_replaceRules_95 : decode cX11_replaceRules 95 = .ok (.return_, 1) := by decide +kernel
theorem dX11_count_0 : decode cX11_count 0 = .ok (.iload_n 1, 1) := by decide +kernel
theorem dX11_count_1 : decode cX11_count 1 = .ok (.tableswitch 168 0 11 #[63, 71, 79, 87, 95, 103, 111, 119, 130, 141, 152, 160], 63) := by decide +kernel
theorem dX11_count_64 : decode cX11_count 64 = .ok (.aload_n 0, 1) := by decide +kernel
theorem dX11_count_65 : decode cX11_count 65 = .ok (.getfield 26, 3) := by decide +kernel
theorem dX11_count_68 : decode cX11_count 68 = .ok (.getfield 88, 3) := by decide +kernel
theorem dX11_count_71 : decode cX11_count 71 = .ok (.ireturn, 1) := by decide +kernel
theorem dX11_count_72 : decode cX11_count 72 = .ok (.aload_n 0, 1) := by decide +kernel
theorem dX11_count_73 : decode cX11_count 73 = .ok (.getfield 26, 3) := by decide +kernel
theorem dX11_count_76 : decode cX11_count 76 = .ok (.getfield 106, 3) := by decide +kernel
theorem dX11_count_79 : decode cX11_count 79 = .ok (.ireturn, 1) := by decide +kernel
theorem dX11_count_80 : decode cX11_count 80 = .ok (.aload_n 0, 1) := by decide +kernel
theorem dX11_count_81 : decode cX11_count 81 = .ok (.getfield 26, 3) := by decide +kernel
theorem dX11_count_84 : decode cX11_count 84 = .ok (.getfield 109, 3) := by decide +kernel
theorem dX11_count_87 : decode cX11_count 87 = .ok (.ireturn, 1) := by decide +kernel
theorem dX11_count_88 : decode cX11_count 88 = .ok (.aload_n 0, 1) := by decide +kernel
theorem dX11_count_89 : decode cX11_count 89 = .ok (.getfield 26, 3) := by decide +kernel
theorem dX11_count_92 : decode cX11_count 92 = .ok (.getfield 112, 3) := by decide +kernel
theorem dX11_count_95 : decode cX11_count 95 = .ok (.ireturn, 1) := by decide +kernel
theorem dX11_count_96 : decode cX11_count 96 = .ok (.aload_n 0, 1) := by decide +kernel
theorem dX11_count_97 : decode cX11_count 97 = .ok (.getfield 26, 3) := by decide +kernel
theorem dX11_count_100 : decode cX11_count 100 = .ok (.getfield 115, 3) := by decide +kernel
theorem dX11_count_103 : decode cX11_count 103 = .ok (.ireturn, 1) := by decide +kernel
theorem dX11_count_104 : decode cX11_count 104 = .ok (.aload_n 0, 1) := by decide +kernel
theorem dX11_count_105 : decode cX11_count 105 = .ok (.getfield 26, 3) := by decide +kernel
theorem dX11_count_108 : decode cX11_count 108 = .ok (.getfield 118, 3) := by decide +kernel
theorem dX11_count_111 : decode cX11_count 111 = .ok (.ireturn, 1) := by decide +kernel
theorem dX11_count_112 : decode cX11_count 112 = .ok (.aload_n 0, 1) := by decide +kernel
theorem dX11_count_113 : decode cX11_count 113 = .ok (.getfield 26, 3) := by decide +kernel
theorem dX11_count_116 : decode cX11_count 116 = .ok (.getfield 121, 3) := by decide +kernel
theorem dX11_count_119 : decode cX11_count 119 = .ok (.ireturn, 1) := by decide +kernel
theorem dX11_count_120 : decode cX11_count 120 = .ok (.aload_n 0, 1) := by decide +kernel
theorem dX11_count_121 : decode cX11_count 121 = .ok (.getfield 26, 3) := by decide +kernel
theorem dX11_count_124 : decode cX11_count 124 = .ok (.getfield 91, 3) := by decide +kernel
theorem dX11_count_127 : decode cX11_count 127 = .ok (.getfield 124, 3) := by decide +kernel
theorem dX11_count_130 : decode cX11_count 130 = .ok (.ireturn, 1) := by decide +kernel
theorem dX11_count_131 : decode cX11_count 131 = .ok (.aload_n 0, 1) := by decide +kernel
theorem dX11_count_132 : decode cX11_count 132 = .ok (.getfield 26, 3) := by decide +kernel
theorem dX11_count_135 : decode cX11_count 135 = .ok (.getfield 91, 3) := by decide +kernel
theorem dX11_count_138 : decode cX11_count 138 = .ok (.getfield 127, 3) := by decide +kernel
theorem dX11_count_141 : decode cX11_count 141 = .ok (.ireturn, 1) := by decide +kernel
theorem dX11_count_142 : decode cX11_count 142 = .ok (.aload_n 0, 1) := by decide +kernel
theorem dX11_count_143 : decode cX11_count 143 = .ok (.getfield 26, 3) := by decide +kernel
theorem dX11_count_146 : decode cX11_count 146 = .ok (.getfield 91, 3) := by decide +kernel
theorem dX11_count_149 : decode cX11_count 149 = .ok (.getfield 130, 3) := by decide +kernel
theorem dX11_count_152 : decode cX11_count 152 = .ok (.ireturn, 1) := by decide +kernel
theorem dX11_count_153 : decode cX11_count 153 = .ok (.aload_n 0, 1) := by decide +kernel
theorem dX11_count_154 : decode cX11_count 154 = .ok (.getfield 12, 3) := by decide +kernel
theorem dX11_count_157 : decode cX11_count 157 = .ok (.getfield 77, 3) := by decide +kernel
theorem dX11_count_160 : decode cX11_count 160 = .ok (.ireturn, 1) := by decide +kernel
theorem dX11_count_161 : decode cX11_count 161 = .ok (.aload_n 0, 1) := by decide +kernel
theorem dX11_count_162 : decode cX11_count 162 = .ok (.getfield 50, 3) := by decide +kernel
theorem dX11_count_165 : decode cX11_count 165 = .ok (.getfield 101, 3) := by decide +kernel
theorem dX11_count_168 : decode cX11_count 168 = .ok (.ireturn, 1) := by decide +kernel
theorem dX11_count_169 : decode cX11_count 169 = .ok (.iconst (-1), 1) := by decide +kernel
theorem dX11_count_170 : decode cX11_count 170 = .ok (.ireturn, 1) := by decide +kernel
set_option maxRecDepth 20000 in
theorem ggX11_premium_X11_isPremium : GoodIn wsX11_premium wsX11_isPremium := goodIn_r _ [14, 3, 15, 16, 17, 18, 19, 20, 21, 22, 23, 24, 25, 26, 27, 28, 29, 30, 31, 32, 33, 34, 35] (by decide +kernel) (by decide +kernel)
set_option maxRecDepth 20000 in
theorem gX11_premium_X11_isPremium : GoodIn wsX11_premium (wsV RX11 133 RX11 yX11_isPremium wsX11_isPremium) := goodIn_app (goodIn_of _ (by decide +kernel)) ggX11_premium_X11_isPremium
theorem dX11_premium_0 : decode cX11_premium 0 = .ok (.aload_n 0, 1) := by decide +kernel
theorem dX11_premium_1 : decode cX11_premium 1 = .ok (.iload_n 1, 1) := by decide +kernel
theorem dX11_premium_2 : decode cX11_premium 2 = .ok (.invokevirtual 133, 3) := by decide +kernel
theorem dX11_premium_5 : decode cX11_premium 5 = .ok (.ifCond .eq 12, 3) := by decide +kernel
theorem dX11_premium_8 : decode cX11_premium 8 = .ok (.iload_n 2, 1) := by decide +kernel
theorem dX11_premium_9 : decode cX11_premium 9 = .ok (.ifCond .lt 8, 3) := by decide +kernel
theorem dX11_premium_12 : decode cX11_premium 12 = .ok (.iload_n 2, 1) := by decide +kernel
theorem dX11_premium_13 : decode cX11_premium 13 = .ok (.iconst 4, 1) := by decide +kernel
theorem dX11_premium_14 : decode cX11_premium 14 = .ok (.if_icmp .le 11, 3) := by decide +kernel
theorem dX11_premium_17 : decode cX11_premium 17 = .ok (.new 136, 3) := by decide +kernel
theorem dX11_premium_20 : decode cX11_premium 20 = .ok (.dup, 1) := by decide +kernel
theorem dX11_premium_21 : decode cX11_premium 21 = .ok (.invokespecial 138, 3) := by decide +kernel
theorem dX11_premium_24 : decode cX11_premium 24 = .ok (.athrow, 1) := by decide +kernel
theorem dX11_premium_25 : decode cX11_premium 25 = .ok (.aload_n 0, 1) := by decide +kernel
theorem dX11_premium_26 : decode cX11_premium 26 = .ok (.getfield 26, 3) := by decide +kernel
theorem dX11_premium_29 : decode cX11_premium 29 = .ok (.getfield 139, 3) := by decide +kernel
theorem dX11_premium_32 : decode cX11_premium 32 = .ok (.iload_n 1, 1) := by decide +kernel
theorem dX11_premium_33 : decode cX11_premium 33 = .ok (.aaload, 1) := by decide +kernel
theorem dX11_premium_34 : decode cX11_premium 34 = .ok (.astore_n 3, 1) := by decide +kernel
theorem dX11_premium_35 : decode cX11_premium 35 = .ok (.iload_n 2, 1) := by decide +kernel
theorem dX11_premium_36 : decode cX11_premium 36 = .ok (.tableswitch 60 0 3 #[32, 37, 42, 55], 32) := by decide +kernel
theorem dX11_premium_68 : decode cX11_premium 68 = .ok (.aload_n 3, 1) := by decide +kernel
theorem dX11_premium_69 : decode cX11_premium 69 = .ok (.getfield 143, 3) := by decide +kernel
theorem dX11_premium_72 : decode cX11_premium 72 = .ok (.ireturn, 1) := by decide +kernel
theorem dX11_premium_73 : decode cX11_premium 73 = .ok (.aload_n 3, 1) := by decide +kernel
theorem dX11_premium_74 : decode cX11_premium 74 = .ok (.getfield 148, 3) := by decide +kernel
theorem dX11_premium_77 : decode cX11_premium 77 = .ok (.ireturn, 1) := by decide +kernel
theorem dX11_premium_78 : decode cX11_premium 78 = .ok (.aload_n 3, 1) := by decide +kernel
theorem dX11_premium_79 : decode cX11_premium 79 = .ok (.getfield 151, 3) := by decide +kernel
theorem dX11_premium_82 : decode cX11_premium 82 = .ok (.ifCond .eq 7, 3) := by decide +kernel
theorem dX11_premium_85 : decode cX11_premium 85 = .ok (.iconst 1, 1) := by decide +kernel
theorem dX11_premium_86 : decode cX11_premium 86 = .ok (.goto 4, 3) := by decide +kernel
theorem dX11_premium_89 : decode cX11_premium 89 = .ok (.iconst 0, 1) := by decide +kernel
theorem dX11_premium_90 : decode cX11_premium 90 = .ok (.ireturn, 1) := by decide +kernel
theorem dX11_premium_91 : decode cX11_premium 91 = .ok (.aload_n 3, 1) := by decide +kernel
theorem dX11_premium_92 : decode cX11_premium 92 = .ok (.getfield 155, 3) := by decide +kernel
theorem dX11_premium_95 : decode cX11_premium 95 = .ok (.ireturn, 1) := by decide +kernel
theorem dX11_premium_96 : decode cX11_premium 96 = .ok (.aload_n 3, 1) := by decide +kernel
theorem dX11_premium_97 : decode cX11_premium 97 = .ok (.getfield 158, 3) := by decide +kernel
theorem dX11_premium_100 : decode cX11_premium 100 = .ok (.ireturn, 1) := by decide +kernel
set_option maxRecDepth 20000 in
theorem ggX11_moment_X2_momentAt : GoodIn wsX11_moment wsX2_momentAt := goodIn_r _ [7, 8, 9, 10, 31, 32, 33, 34, 35] (by decide +kernel) (by decide +kernel)
set_option maxRecDepth 20000 in
theorem gX11_moment_X2_momentAt : GoodIn wsX11_moment (wsV RX11 161 RX2 yX2_momentAt wsX2_momentAt) := goodIn_app (goodIn_of _ (by decide +kernel)) ggX11_moment_X2_momentAt
theorem dX11_moment_0 : decode cX11_moment 0 = .ok (.aload_n 0, 1) := by decide +kernel
theorem dX11_moment_1 : decode cX11_moment 1 = .ok (.getfield 26, 3) := by decide +kernel
theorem dX11_moment_4 : decode cX11_moment 4 = .ok (.getfield 91, 3) := by decide +kernel
theorem dX11_moment_7 : decode cX11_moment 7 = .ok (.iload_n 1, 1) := by decide +kernel
theorem dX11_moment_8 : decode cX11_moment 8 = .ok (.iload_n 2, 1) := by decide +kernel
theorem dX11_moment_9 : decode cX11_moment 9 = .ok (.iload_n 3, 1) := by decide +kernel
theorem dX11_moment_10 : decode cX11_moment 10 = .ok (.invokevirtual 161, 3) := by decide +kernel
theorem dX11_moment_13 : decode cX11_moment 13 = .ok (.ireturn, 1) := by decide +kernel
set_option maxRecDepth 20000 in
theorem ggX11_clock_X2_momentsAhead : GoodIn wsX11_clock wsX2_momentsAhead := goodIn_r _ [7, 8, 9, 40, 41, 42, 43, 44] (by decide +kernel) (by decide +kernel)
set_option maxRecDepth 20000 in
theorem gX11_clock_X2_momentsAhead : GoodIn wsX11_clock (wsV RX11 165 RX2 yX2_momentsAhead wsX2_momentsAhead) := goodIn_app (goodIn_of _ (by decide +kernel)) ggX11_clock_X2_momentsAhead
set_option maxRecDepth 20000 in
theorem ggX11_clock_X2_toldAt : GoodIn wsX11_clock wsX2_toldAt := goodIn_r _ [13, 14, 15, 40, 41, 42, 43, 44] (by decide +kernel) (by decide +kernel)
set_option maxRecDepth 20000 in
theorem gX11_clock_X2_toldAt : GoodIn wsX11_clock (wsV RX11 169 RX2 yX2_toldAt wsX2_toldAt) := goodIn_app (goodIn_of _ (by decide +kernel)) ggX11_clock_X2_toldAt
set_option maxRecDepth 20000 in
theorem ggX11_clock_X2_isAgain : GoodIn wsX11_clock wsX2_isAgain := goodIn_r _ [19, 14, 15, 40, 41, 42, 43, 44] (by decide +kernel) (by decide +kernel)
set_option maxRecDepth 20000 in
theorem gX11_clock_X2_isAgain : GoodIn wsX11_clock (wsV RX11 172 RX2 yX2_isAgain wsX2_isAgain) := goodIn_app (goodIn_of _ (by decide +kernel)) ggX11_clock_X2_isAgain
theorem dX11_clock_0 : decode cX11_clock 0 = .ok (.iload_n 1, 1) := by decide +kernel
theorem dX11_clock_1 : decode cX11_clock 1 = .ok (.ifCond .lt 19, 3) := by decide +kernel
theorem dX11_clock_4 : decode cX11_clock 4 = .ok (.iload_n 1, 1) := by decide +kernel
theorem dX11_clock_5 : decode cX11_clock 5 = .ok (.aload_n 0, 1) := by decide +kernel
theorem dX11_clock_6 : decode cX11_clock 6 = .ok (.getfield 26, 3) := by decide +kernel
theorem dX11_clock_9 : decode cX11_clock 9 = .ok (.getfield 91, 3) := by decide +kernel
theorem dX11_clock_12 : decode cX11_clock 12 = .ok (.bipush 28, 2) := by decide +kernel
theorem dX11_clock_14 : decode cX11_clock 14 = .ok (.invokevirtual 165, 3) := by decide +kernel
theorem dX11_clock_17 : decode cX11_clock 17 = .ok (.if_icmp .lt 5, 3) := by decide +kernel
theorem dX11_clock_20 : decode cX11_clock 20 = .ok (.iconst (-1), 1) := by decide +kernel
theorem dX11_clock_21 : decode cX11_clock 21 = .ok (.ireturn, 1) := by decide +kernel
theorem dX11_clock_22 : decode cX11_clock 22 = .ok (.aload_n 0, 1) := by decide +kernel
theorem dX11_clock_23 : decode cX11_clock 23 = .ok (.getfield 26, 3) := by decide +kernel
theorem dX11_clock_26 : decode cX11_clock 26 = .ok (.getfield 91, 3) := by decide +kernel
theorem dX11_clock_29 : decode cX11_clock 29 = .ok (.iload_n 1, 1) := by decide +kernel
theorem dX11_clock_30 : decode cX11_clock 30 = .ok (.invokevirtual 169, 3) := by decide +kernel
theorem dX11_clock_33 : decode cX11_clock 33 = .ok (.istore_n 3, 1) := by decide +kernel
theorem dX11_clock_34 : decode cX11_clock 34 = .ok (.iload_n 2, 1) := by decide +kernel
theorem dX11_clock_35 : decode cX11_clock 35 = .ok (.tableswitch 57 0 2 #[25, 31, 37], 25) := by decide +kernel
theorem dX11_clock_60 : decode cX11_clock 60 = .ok (.iload_n 3, 1) := by decide +kernel
theorem dX11_clock_61 : decode cX11_clock 61 = .ok (.sipush 1440, 3) := by decide +kernel
theorem dX11_clock_64 : decode cX11_clock 64 = .ok (.idiv, 1) := by decide +kernel
theorem dX11_clock_65 : decode cX11_clock 65 = .ok (.ireturn, 1) := by decide +kernel
theorem dX11_clock_66 : decode cX11_clock 66 = .ok (.iload_n 3, 1) := by decide +kernel
theorem dX11_clock_67 : decode cX11_clock 67 = .ok (.sipush 1440, 3) := by decide +kernel
theorem dX11_clock_70 : decode cX11_clock 70 = .ok (.irem, 1) := by decide +kernel
theorem dX11_clock_71 : decode cX11_clock 71 = .ok (.ireturn, 1) := by decide +kernel
theorem dX11_clock_72 : decode cX11_clock 72 = .ok (.aload_n 0, 1) := by decide +kernel
theorem dX11_clock_73 : decode cX11_clock 73 = .ok (.getfield 26, 3) := by decide +kernel
theorem dX11_clock_76 : decode cX11_clock 76 = .ok (.getfield 91, 3) := by decide +kernel
theorem dX11_clock_79 : decode cX11_clock 79 = .ok (.iload_n 1, 1) := by decide +kernel
theorem dX11_clock_80 : decode cX11_clock 80 = .ok (.invokevirtual 172, 3) := by decide +kernel
theorem dX11_clock_83 : decode cX11_clock 83 = .ok (.ifCond .eq 7, 3) := by decide +kernel
theorem dX11_clock_86 : decode cX11_clock 86 = .ok (.iconst 1, 1) := by decide +kernel
theorem dX11_clock_87 : decode cX11_clock 87 = .ok (.goto 4, 3) := by decide +kernel
theorem dX11_clock_90 : decode cX11_clock 90 = .ok (.iconst 0, 1) := by decide +kernel
theorem dX11_clock_91 : decode cX11_clock 91 = .ok (.ireturn, 1) := by decide +kernel
theorem dX11_clock_92 : decode cX11_clock 92 = .ok (.iconst (-1), 1) := by decide +kernel
theorem dX11_clock_93 : decode cX11_clock 93 = .ok (.ireturn, 1) := by decide +kernel
set_option maxRecDepth 20000 in
theorem ggX11_punch_X11_freeMoment : GoodIn wsX11_punch wsX11_freeMoment := goodIn_r _ [10, 11, 12, 1, 13, 14, 9, 15, 16, 17, 18, 19, 20, 21, 22, 23, 24, 25, 26, 27, 28, 29, 30, 31, 32, 33, 34, 54, 55, 56, 57, 58, 59, 60, 61, 62, 63, 81, 82, 83, 84, 85, 86, 87, 88, 89, 90, 91, 92, 93, 94, 95, 78, 79, 80] (by decide +kernel) (by decide +kernel)
set_option maxRecDepth 20000 in
theorem gX11_punch_X11_freeMoment : GoodIn wsX11_punch (wsV RX11 175 RX11 yX11_freeMoment wsX11_freeMoment) := goodIn_app (goodIn_of _ (by decide +kernel)) ggX11_punch_X11_freeMoment
set_option maxRecDepth 20000 in
theorem ggX11_punch_X1_add : GoodIn wsX11_punch wsX1_add := goodIn_r _ [38, 29, 34, 39, 78, 79, 80] (by decide +kernel) (by decide +kernel)
set_option maxRecDepth 20000 in
theorem gX11_punch_X1_add : GoodIn wsX11_punch (wsV RX11 179 RX1 yX1_add wsX1_add) := goodIn_app (goodIn_of _ (by decide +kernel)) ggX11_punch_X1_add
set_option maxRecDepth 20000 in
theorem ggX11_punch_X3_keep : GoodIn wsX11_punch wsX3_keep := goodIn_r _ [44, 45, 46, 47, 48, 49, 50, 51, 52, 43, 53, 96, 97, 98, 99, 100] (by decide +kernel) (by decide +kernel)
set_option maxRecDepth 20000 in
theorem gX11_punch_X3_keep : GoodIn wsX11_punch (wsV RX11 186 RX3 yX3_keep wsX3_keep) := goodIn_app (goodIn_of _ (by decide +kernel)) ggX11_punch_X3_keep
theorem dX11_punch_0 : decode cX11_punch 0 = .ok (.aload_n 0, 1) := by decide +kernel
theorem dX11_punch_1 : decode cX11_punch 1 = .ok (.iload_n 1, 1) := by decide +kernel
theorem dX11_punch_2 : decode cX11_punch 2 = .ok (.iload_n 2, 1) := by decide +kernel
theorem dX11_punch_3 : decode cX11_punch 3 = .ok (.iload_n 3, 1) := by decide +kernel
theorem dX11_punch_4 : decode cX11_punch 4 = .ok (.iload 4, 2) := by decide +kernel
theorem dX11_punch_6 : decode cX11_punch 6 = .ok (.iload 5, 2) := by decide +kernel
theorem dX11_punch_8 : decode cX11_punch 8 = .ok (.invokevirtual 175, 3) := by decide +kernel
theorem dX11_punch_11 : decode cX11_punch 11 = .ok (.istore 6, 2) := by decide +kernel
theorem dX11_punch_13 : decode cX11_punch 13 = .ok (.iload 6, 2) := by decide +kernel
theorem dX11_punch_15 : decode cX11_punch 15 = .ok (.iconst (-1), 1) := by decide +kernel
theorem dX11_punch_16 : decode cX11_punch 16 = .ok (.if_icmp .ne 5, 3) := by decide +kernel
theorem dX11_punch_19 : decode cX11_punch 19 = .ok (.iconst (-1), 1) := by decide +kernel
theorem dX11_punch_20 : decode cX11_punch 20 = .ok (.ireturn, 1) := by decide +kernel
theorem dX11_punch_21 : decode cX11_punch 21 = .ok (.aload_n 0, 1) := by decide +kernel
theorem dX11_punch_22 : decode cX11_punch 22 = .ok (.getfield 35, 3) := by decide +kernel
theorem dX11_punch_25 : decode cX11_punch 25 = .ok (.iload_n 1, 1) := by decide +kernel
theorem dX11_punch_26 : decode cX11_punch 26 = .ok (.aaload, 1) := by decide +kernel
theorem dX11_punch_27 : decode cX11_punch 27 = .ok (.iload 6, 2) := by decide +kernel
theorem dX11_punch_29 : decode cX11_punch 29 = .ok (.iload_n 2, 1) := by decide +kernel
theorem dX11_punch_30 : decode cX11_punch 30 = .ok (.invokevirtual 179, 3) := by decide +kernel
theorem dX11_punch_33 : decode cX11_punch 33 = .ok (.aload_n 0, 1) := by decide +kernel
theorem dX11_punch_34 : decode cX11_punch 34 = .ok (.getfield 41, 3) := by decide +kernel
theorem dX11_punch_37 : decode cX11_punch 37 = .ok (.iload_n 1, 1) := by decide +kernel
theorem dX11_punch_38 : decode cX11_punch 38 = .ok (.aaload, 1) := by decide +kernel
theorem dX11_punch_39 : decode cX11_punch 39 = .ok (.iconst 1, 1) := by decide +kernel
theorem dX11_punch_40 : decode cX11_punch 40 = .ok (.putfield 183, 3) := by decide +kernel
theorem dX11_punch_43 : decode cX11_punch 43 = .ok (.aload_n 0, 1) := by decide +kernel
theorem dX11_punch_44 : decode cX11_punch 44 = .ok (.getfield 50, 3) := by decide +kernel
theorem dX11_punch_47 : decode cX11_punch 47 = .ok (.iload_n 1, 1) := by decide +kernel
theorem dX11_punch_48 : decode cX11_punch 48 = .ok (.iload 6, 2) := by decide +kernel
theorem dX11_punch_50 : decode cX11_punch 50 = .ok (.iload_n 2, 1) := by decide +kernel
theorem dX11_punch_51 : decode cX11_punch 51 = .ok (.iconst 1, 1) := by decide +kernel
theorem dX11_punch_52 : decode cX11_punch 52 = .ok (.invokevirtual 186, 3) := by decide +kernel
theorem dX11_punch_55 : decode cX11_punch 55 = .ok (.aload_n 0, 1) := by decide +kernel
theorem dX11_punch_56 : decode cX11_punch 56 = .ok (.getfield 35, 3) := by decide +kernel
theorem dX11_punch_59 : decode cX11_punch 59 = .ok (.iload_n 1, 1) := by decide +kernel
theorem dX11_punch_60 : decode cX11_punch 60 = .ok (.aaload, 1) := by decide +kernel
theorem dX11_punch_61 : decode cX11_punch 61 = .ok (.getfield 105, 3) := by decide +kernel
theorem dX11_punch_64 : decode cX11_punch 64 = .ok (.ireturn, 1) := by decide +kernel
set_option maxRecDepth 20000 in
theorem ggX11_strike_X2_momentAt : GoodIn wsX11_strike wsX2_momentAt := goodIn_r _ [13, 14, 15, 16, 84, 85, 86, 87, 88] (by decide +kernel) (by decide +kernel)
set_option maxRecDepth 20000 in
theorem gX11_strike_X2_momentAt : GoodIn wsX11_strike (wsV RX11 161 RX2 yX2_momentAt wsX2_momentAt) := goodIn_app (goodIn_of _ (by decide +kernel)) ggX11_strike_X2_momentAt
set_option maxRecDepth 20000 in
theorem ggX11_strike_X11_isWorker : GoodIn wsX11_strike wsX11_isWorker := goodIn_r _ [20] (by decide +kernel) (by decide +kernel)
set_option maxRecDepth 20000 in
theorem gX11_strike_X11_isWorker : GoodIn wsX11_strike (va_wsS RX11 190 yX11_isWorker wsX11_isWorker) := goodIn_app (goodIn_of _ (by decide +kernel)) ggX11_strike_X11_isWorker
set_option maxRecDepth 20000 in
theorem ggX11_strike_X1_find : GoodIn wsX11_strike wsX1_find := goodIn_r _ [25, 26, 27, 67, 68, 69] (by decide +kernel) (by decide +kernel)
set_option maxRecDepth 20000 in
theorem gX11_strike_X1_find : GoodIn wsX11_strike (wsV RX11 193 RX1 yX1_find wsX1_find) := goodIn_app (goodIn_of _ (by decide +kernel)) ggX11_strike_X1_find
set_option maxRecDepth 20000 in
theorem ggX11_strike_X3_keep : GoodIn wsX11_strike wsX3_keep := goodIn_r _ [32, 33, 34, 35, 36, 37, 38, 39, 40, 31, 41, 89, 90, 91, 92, 93] (by decide +kernel) (by decide +kernel)
set_option maxRecDepth 20000 in
theorem gX11_strike_X3_keep : GoodIn wsX11_strike (wsV RX11 186 RX3 yX3_keep wsX3_keep) := goodIn_app (goodIn_of _ (by decide +kernel)) ggX11_strike_X3_keep
set_option maxRecDepth 20000 in
theorem ggX11_strike_X1_removeAt : GoodIn wsX11_strike wsX1_removeAt := goodIn_r _ [45, 26, 27, 46, 67, 68, 69] (by decide +kernel) (by decide +kernel)
set_option maxRecDepth 20000 in
theorem gX11_strike_X1_removeAt : GoodIn wsX11_strike (wsV RX11 200 RX1 yX1_removeAt wsX1_removeAt) := goodIn_app (goodIn_of _ (by decide +kernel)) ggX11_strike_X1_removeAt
theorem dX11_strike_0 : decode cX11_strike 0 = .ok (.aload_n 0, 1) := by decide +kernel
theorem dX11_strike_1 : decode cX11_strike 1 = .ok (.getfield 26, 3) := by decide +kernel
theorem dX11_strike_4 : decode cX11_strike 4 = .ok (.getfield 91, 3) := by decide +kernel
theorem dX11_strike_7 : decode cX11_strike 7 = .ok (.iload_n 2, 1) := by decide +kernel
theorem dX11_strike_8 : decode cX11_strike 8 = .ok (.iload_n 3, 1) := by decide +kernel
theorem dX11_strike_9 : decode cX11_strike 9 = .ok (.iload 4, 2) := by decide +kernel
theorem dX11_strike_11 : decode cX11_strike 11 = .ok (.invokevirtual 161, 3) := by decide +kernel
theorem dX11_strike_14 : decode cX11_strike 14 = .ok (.istore 5, 2) := by decide +kernel
theorem dX11_strike_16 : decode cX11_strike 16 = .ok (.iload_n 1, 1) := by decide +kernel
theorem dX11_strike_17 : decode cX11_strike 17 = .ok (.invokestatic 190, 3) := by decide +kernel
theorem dX11_strike_20 : decode cX11_strike 20 = .ok (.ifCond .eq 9, 3) := by decide +kernel
theorem dX11_strike_23 : decode cX11_strike 23 = .ok (.iload 5, 2) := by decide +kernel
theorem dX11_strike_25 : decode cX11_strike 25 = .ok (.iconst (-1), 1) := by decide +kernel
theorem dX11_strike_26 : decode cX11_strike 26 = .ok (.if_icmp .ne 5, 3) := by decide +kernel
theorem dX11_strike_29 : decode cX11_strike 29 = .ok (.iconst (-1), 1) := by decide +kernel
theorem dX11_strike_30 : decode cX11_strike 30 = .ok (.ireturn, 1) := by decide +kernel
theorem dX11_strike_31 : decode cX11_strike 31 = .ok (.aload_n 0, 1) := by decide +kernel
theorem dX11_strike_32 : decode cX11_strike 32 = .ok (.getfield 35, 3) := by decide +kernel
theorem dX11_strike_35 : decode cX11_strike 35 = .ok (.iload_n 1, 1) := by decide +kernel
theorem dX11_strike_36 : decode cX11_strike 36 = .ok (.aaload, 1) := by decide +kernel
theorem dX11_strike_37 : decode cX11_strike 37 = .ok (.iload 5, 2) := by decide +kernel
theorem dX11_strike_39 : decode cX11_strike 39 = .ok (.invokevirtual 193, 3) := by decide +kernel
theorem dX11_strike_42 : decode cX11_strike 42 = .ok (.istore 6, 2) := by decide +kernel
theorem dX11_strike_44 : decode cX11_strike 44 = .ok (.iload 6, 2) := by decide +kernel
theorem dX11_strike_46 : decode cX11_strike 46 = .ok (.iconst (-1), 1) := by decide +kernel
theorem dX11_strike_47 : decode cX11_strike 47 = .ok (.if_icmp .ne 5, 3) := by decide +kernel
theorem dX11_strike_50 : decode cX11_strike 50 = .ok (.iconst (-1), 1) := by decide +kernel
theorem dX11_strike_51 : decode cX11_strike 51 = .ok (.ireturn, 1) := by decide +kernel
theorem dX11_strike_52 : decode cX11_strike 52 = .ok (.aload_n 0, 1) := by decide +kernel
theorem dX11_strike_53 : decode cX11_strike 53 = .ok (.getfield 50, 3) := by decide +kernel
theorem dX11_strike_56 : decode cX11_strike 56 = .ok (.iload_n 1, 1) := by decide +kernel
theorem dX11_strike_57 : decode cX11_strike 57 = .ok (.iload 5, 2) := by decide +kernel
theorem dX11_strike_59 : decode cX11_strike 59 = .ok (.aload_n 0, 1) := by decide +kernel
theorem dX11_strike_60 : decode cX11_strike 60 = .ok (.getfield 35, 3) := by decide +kernel
theorem dX11_strike_63 : decode cX11_strike 63 = .ok (.iload_n 1, 1) := by decide +kernel
theorem dX11_strike_64 : decode cX11_strike 64 = .ok (.aaload, 1) := by decide +kernel
theorem dX11_strike_65 : decode cX11_strike 65 = .ok (.getfield 196, 3) := by decide +kernel
theorem dX11_strike_68 : decode cX11_strike 68 = .ok (.iload 6, 2) := by decide +kernel
theorem dX11_strike_70 : decode cX11_strike 70 = .ok (.iaload, 1) := by decide +kernel
theorem dX11_strike_71 : decode cX11_strike 71 = .ok (.iconst 0, 1) := by decide +kernel
theorem dX11_strike_72 : decode cX11_strike 72 = .ok (.invokevirtual 186, 3) := by decide +kernel
theorem dX11_strike_75 : decode cX11_strike 75 = .ok (.aload_n 0, 1) := by decide +kernel
theorem dX11_strike_76 : decode cX11_strike 76 = .ok (.getfield 35, 3) := by decide +kernel
theorem dX11_strike_79 : decode cX11_strike 79 = .ok (.iload_n 1, 1) := by decide +kernel
theorem dX11_strike_80 : decode cX11_strike 80 = .ok (.aaload, 1) := by decide +kernel
theorem dX11_strike_81 : decode cX11_strike 81 = .ok (.iload 6, 2) := by decide +kernel
theorem dX11_strike_83 : decode cX11_strike 83 = .ok (.invokevirtual 200, 3) := by decide +kernel
theorem dX11_strike_86 : decode cX11_strike 86 = .ok (.aload_n 0, 1) := by decide +kernel
theorem dX11_strike_87 : decode cX11_strike 87 = .ok (.getfield 41, 3) := by decide +kernel
theorem dX11_strike_90 : decode cX11_strike 90 = .ok (.iload_n 1, 1) := by decide +kernel
theorem dX11_strike_91 : decode cX11_strike 91 = .ok (.aaload, 1) := by decide +kernel
theorem dX11_strike_92 : decode cX11_strike 92 = .ok (.iconst 1, 1) := by decide +kernel
theorem dX11_strike_93 : decode cX11_strike 93 = .ok (.putfield 183, 3) := by decide +kernel
theorem dX11_strike_96 : decode cX11_strike 96 = .ok (.aload_n 0, 1) := by decide +kernel
theorem dX11_strike_97 : decode cX11_strike 97 = .ok (.getfield 35, 3) := by decide +kernel
theorem dX11_strike_100 : decode cX11_strike 100 = .ok (.iload_n 1, 1) := by decide +kernel
theorem dX11_strike_101 : decode cX11_strike 101 = .ok (.aaload, 1) := by decide +kernel
theorem dX11_strike_102 : decode cX11_strike 102 = .ok (.getfield 105, 3) := by decide +kernel
theorem dX11_strike_105 : decode cX11_strike 105 = .ok (.ireturn, 1) := by decide +kernel
set_option maxRecDepth 20000 in
theorem ggX11_undo_X1_find : GoodIn wsX11_undo wsX1_find := goodIn_r _ [14, 15, 16, 55, 56, 57] (by decide +kernel) (by decide +kernel)
set_option maxRecDepth 20000 in
theorem gX11_undo_X1_find : GoodIn wsX11_undo (wsV RX11 193 RX1 yX1_find wsX1_find) := goodIn_app (goodIn_of _ (by decide +kernel)) ggX11_undo_X1_find
set_option maxRecDepth 20000 in
theorem ggX11_undo_X1_removeAt : GoodIn wsX11_undo wsX1_removeAt := goodIn_r _ [20, 15, 16, 21, 55, 56, 57] (by decide +kernel) (by decide +kernel)
set_option maxRecDepth 20000 in
theorem gX11_undo_X1_removeAt : GoodIn wsX11_undo (wsV RX11 200 RX1 yX1_removeAt wsX1_removeAt) := goodIn_app (goodIn_of _ (by decide +kernel)) ggX11_undo_X1_removeAt
set_option maxRecDepth 20000 in
theorem ggX11_undo_X1_add : GoodIn wsX11_undo wsX1_add := goodIn_r _ [25, 15, 16, 21, 55, 56, 57] (by decide +kernel) (by decide +kernel)
set_option maxRecDepth 20000 in
theorem gX11_undo_X1_add : GoodIn wsX11_undo (wsV RX11 179 RX1 yX1_add wsX1_add) := goodIn_app (goodIn_of _ (by decide +kernel)) ggX11_undo_X1_add
theorem dX11_undo_0 : decode cX11_undo 0 = .ok (.aload_n 0, 1) := by decide +kernel
theorem dX11_undo_1 : decode cX11_undo 1 = .ok (.getfield 50, 3) := by decide +kernel
theorem dX11_undo_4 : decode cX11_undo 4 = .ok (.getfield 101, 3) := by decide +kernel
theorem dX11_undo_7 : decode cX11_undo 7 = .ok (.ifCond .ne 5, 3) := by decide +kernel
theorem dX11_undo_10 : decode cX11_undo 10 = .ok (.iconst (-1), 1) := by decide +kernel
theorem dX11_undo_11 : decode cX11_undo 11 = .ok (.ireturn, 1) := by decide +kernel
theorem dX11_undo_12 : decode cX11_undo 12 = .ok (.aload_n 0, 1) := by decide +kernel
theorem dX11_undo_13 : decode cX11_undo 13 = .ok (.getfield 50, 3) := by decide +kernel
theorem dX11_undo_16 : decode cX11_undo 16 = .ok (.getfield 101, 3) := by decide +kernel
theorem dX11_undo_19 : decode cX11_undo 19 = .ok (.iconst 1, 1) := by decide +kernel
theorem dX11_undo_20 : decode cX11_undo 20 = .ok (.isub, 1) := by decide +kernel
theorem dX11_undo_21 : decode cX11_undo 21 = .ok (.istore_n 1, 1) := by decide +kernel
theorem dX11_undo_22 : decode cX11_undo 22 = .ok (.aload_n 0, 1) := by decide +kernel
theorem dX11_undo_23 : decode cX11_undo 23 = .ok (.getfield 50, 3) := by decide +kernel
theorem dX11_undo_26 : decode cX11_undo 26 = .ok (.getfield 203, 3) := by decide +kernel
theorem dX11_undo_29 : decode cX11_undo 29 = .ok (.iload_n 1, 1) := by decide +kernel
theorem dX11_undo_30 : decode cX11_undo 30 = .ok (.iaload, 1) := by decide +kernel
theorem dX11_undo_31 : decode cX11_undo 31 = .ok (.istore_n 2, 1) := by decide +kernel
theorem dX11_undo_32 : decode cX11_undo 32 = .ok (.aload_n 0, 1) := by decide +kernel
theorem dX11_undo_33 : decode cX11_undo 33 = .ok (.getfield 50, 3) := by decide +kernel
theorem dX11_undo_36 : decode cX11_undo 36 = .ok (.getfield 206, 3) := by decide +kernel
theorem dX11_undo_39 : decode cX11_undo 39 = .ok (.iload_n 1, 1) := by decide +kernel
theorem dX11_undo_40 : decode cX11_undo 40 = .ok (.baload, 1) := by decide +kernel
theorem dX11_undo_41 : decode cX11_undo 41 = .ok (.ifCond .eq 33, 3) := by decide +kernel
theorem dX11_undo_44 : decode cX11_undo 44 = .ok (.aload_n 0, 1) := by decide +kernel
theorem dX11_undo_45 : decode cX11_undo 45 = .ok (.getfield 35, 3) := by decide +kernel
theorem dX11_undo_48 : decode cX11_undo 48 = .ok (.iload_n 2, 1) := by decide +kernel
theorem dX11_undo_49 : decode cX11_undo 49 = .ok (.aaload, 1) := by decide +kernel
theorem dX11_undo_50 : decode cX11_undo 50 = .ok (.aload_n 0, 1) := by decide +kernel
theorem dX11_undo_51 : decode cX11_undo 51 = .ok (.getfield 35, 3) := by decide +kernel
theorem dX11_undo_54 : decode cX11_undo 54 = .ok (.iload_n 2, 1) := by decide +kernel
theorem dX11_undo_55 : decode cX11_undo 55 = .ok (.aaload, 1) := by decide +kernel
theorem dX11_undo_56 : decode cX11_undo 56 = .ok (.aload_n 0, 1) := by decide +kernel
theorem dX11_undo_57 : decode cX11_undo 57 = .ok (.getfield 50, 3) := by decide +kernel
theorem dX11_undo_60 : decode cX11_undo 60 = .ok (.getfield 210, 3) := by decide +kernel
theorem dX11_undo_63 : decode cX11_undo 63 = .ok (.iload_n 1, 1) := by decide +kernel
theorem dX11_undo_64 : decode cX11_undo 64 = .ok (.iaload, 1) := by decide +kernel
theorem dX11_undo_65 : decode cX11_undo 65 = .ok (.invokevirtual 193, 3) := by decide +kernel
theorem dX11_undo_68 : decode cX11_undo 68 = .ok (.invokevirtual 200, 3) := by decide +kernel
theorem dX11_undo_71 : decode cX11_undo 71 = .ok (.goto 30, 3) := by decide +kernel
theorem dX11_undo_74 : decode cX11_undo 74 = .ok (.aload_n 0, 1) := by decide +kernel
theorem dX11_undo_75 : decode cX11_undo 75 = .ok (.getfield 35, 3) := by decide +kernel
theorem dX11_undo_78 : decode cX11_undo 78 = .ok (.iload_n 2, 1) := by decide +kernel
theorem dX11_undo_79 : decode cX11_undo 79 = .ok (.aaload, 1) := by decide +kernel
theorem dX11_undo_80 : decode cX11_undo 80 = .ok (.aload_n 0, 1) := by decide +kernel
theorem dX11_undo_81 : decode cX11_undo 81 = .ok (.getfield 50, 3) := by decide +kernel
theorem dX11_undo_84 : decode cX11_undo 84 = .ok (.getfield 210, 3) := by decide +kernel
theorem dX11_undo_87 : decode cX11_undo 87 = .ok (.iload_n 1, 1) := by decide +kernel
theorem dX11_undo_88 : decode cX11_undo 88 = .ok (.iaload, 1) := by decide +kernel
theorem dX11_undo_89 : decode cX11_undo 89 = .ok (.aload_n 0, 1) := by decide +kernel
theorem dX11_undo_90 : decode cX11_undo 90 = .ok (.getfield 50, 3) := by decide +kernel
theorem dX11_undo_93 : decode cX11_undo 93 = .ok (.getfield 213, 3) := by decide +kernel
theorem dX11_undo_96 : decode cX11_undo 96 = .ok (.iload_n 1, 1) := by decide +kernel
theorem dX11_undo_97 : decode cX11_undo 97 = .ok (.iaload, 1) := by decide +kernel
theorem dX11_undo_98 : decode cX11_undo 98 = .ok (.invokevirtual 179, 3) := by decide +kernel
theorem dX11_undo_101 : decode cX11_undo 101 = .ok (.aload_n 0, 1) := by decide +kernel
theorem dX11_undo_102 : decode cX11_undo 102 = .ok (.getfield 41, 3) := by decide +kernel
theorem dX11_undo_105 : decode cX11_undo 105 = .ok (.iload_n 2, 1) := by decide +kernel
theorem dX11_undo_106 : decode cX11_undo 106 = .ok (.aaload, 1) := by decide +kernel
theorem dX11_undo_107 : decode cX11_undo 107 = .ok (.iconst 1, 1) := by decide +kernel
theorem dX11_undo_108 : decode cX11_undo 108 = .ok (.putfield 183, 3) := by decide +kernel
theorem dX11_undo_111 : decode cX11_undo 111 = .ok (.aload_n 0, 1) := by decide +kernel
theorem dX11_undo_112 : decode cX11_undo 112 = .ok (.getfield 50, 3) := by decide +kernel
theorem dX11_undo_115 : decode cX11_undo 115 = .ok (.iload_n 1, 1) := by decide +kernel
theorem dX11_undo_116 : decode cX11_undo 116 = .ok (.putfield 101, 3) := by decide +kernel
theorem dX11_undo_119 : decode cX11_undo 119 = .ok (.iload_n 1, 1) := by decide +kernel
theorem dX11_undo_120 : decode cX11_undo 120 = .ok (.ireturn, 1) := by decide +kernel
set_option maxRecDepth 20000 in
theorem ggX11_punched_X11_isWorker : GoodIn wsX11_punched wsX11_isWorker := goodIn_r _ [9] (by decide +kernel) (by decide +kernel)
set_option maxRecDepth 20000 in
theorem gX11_punched_X11_isWorker : GoodIn wsX11_punched (va_wsS RX11 190 yX11_isWorker wsX11_isWorker) := goodIn_app (goodIn_of _ (by decide +kernel)) ggX11_punched_X11_isWorker
set_option maxRecDepth 20000 in
theorem ggX11_punched_X11_sheetOf : GoodIn wsX11_punched wsX11_sheetOf := goodIn_r _ [13, 14, 15, 1, 16, 17, 18, 19, 20, 21, 22, 23, 24, 25, 26, 27, 28, 29, 30, 31, 32, 33, 34, 35, 36, 37, 38, 39, 40, 41, 42, 43, 44, 45, 46, 47, 48, 49, 50, 51, 52, 53, 54, 55, 56, 57, 58, 59, 60, 61, 62, 63, 64, 65, 66, 67, 68, 69, 70, 71, 72, 73, 74, 75, 76, 77, 78, 79, 80, 81, 82, 83, 84, 85, 86, 87, 88, 89, 90, 91, 92, 93, 94, 95, 96, 97, 98, 99, 100, 101, 102, 103, 104, 105, 106, 107, 108, 109, 110, 111, 112, 113, 114, 115, 116, 117, 118, 119, 120, 121, 122, 123, 124, 125, 126, 127, 128, 129, 130, 131, 132, 133, 134, 135, 136, 137, 138, 139, 140, 141, 142, 143, 144, 145, 146, 147, 148, 149, 150, 151, 152, 153, 154, 155, 156, 157, 158, 159, 160, 161, 162, 163, 164, 165, 166, 167, 168, 169, 170, 171, 172, 173, 174, 175, 176, 177, 178, 179, 180, 181, 182, 183, 184, 185, 186, 187, 188, 189, 190, 191, 192, 193, 194, 195, 196, 197, 198, 199, 200, 201, 202, 203, 204, 205, 206, 207, 208, 209, 210, 211, 212, 213, 214, 215, 216, 217, 218, 219, 220, 221, 222, 223, 224, 225, 226, 227, 228, 229, 230, 231, 232, 233, 234, 235, 236, 237, 238, 239, 240, 241, 242, 243, 244, 245, 246, 247, 248, 249, 250, 254, 255, 256, 257, 258, 259, 260, 261, 262, 263, 264, 265, 266, 267, 268, 269, 270, 271, 272, 273, 274, 275, 276, 277, 278, 279, 280, 251, 252, 253, 281, 282, 283, 284, 285, 286, 287, 288, 289, 290, 291, 292, 293, 294, 295, 296, 297, 298, 299, 300, 301, 302, 303, 304] (by decide +kernel) (by decide +kernel)
set_option maxRecDepth 20000 in
theorem gX11_punched_X11_sheetOf : GoodIn wsX11_punched (wsV RX11 215 RX11 yX11_sheetOf wsX11_sheetOf) := goodIn_app (goodIn_of _ (by decide +kernel)) ggX11_punched_X11_sheetOf
theorem dX11_punched_0 : decode cX11_punched 0 = .ok (.iload_n 1, 1) := by decide +kernel
theorem dX11_punched_1 : decode cX11_punched 1 = .ok (.invokestatic 190, 3) := by decide +kernel
theorem dX11_punched_4 : decode cX11_punched 4 = .ok (.ifCond .ne 5, 3) := by decide +kernel
theorem dX11_punched_7 : decode cX11_punched 7 = .ok (.iconst (-1), 1) := by decide +kernel
theorem dX11_punched_8 : decode cX11_punched 8 = .ok (.ireturn, 1) := by decide +kernel
theorem dX11_punched_9 : decode cX11_punched 9 = .ok (.aload_n 0, 1) := by decide +kernel
theorem dX11_punched_10 : decode cX11_punched 10 = .ok (.getfield 35, 3) := by decide +kernel
theorem dX11_punched_13 : decode cX11_punched 13 = .ok (.iload_n 1, 1) := by decide +kernel
theorem dX11_punched_14 : decode cX11_punched 14 = .ok (.aaload, 1) := by decide +kernel
theorem dX11_punched_15 : decode cX11_punched 15 = .ok (.astore 4, 2) := by decide +kernel
theorem dX11_punched_17 : decode cX11_punched 17 = .ok (.iload_n 2, 1) := by decide +kernel
theorem dX11_punched_18 : decode cX11_punched 18 = .ok (.iconst (-1), 1) := by decide +kernel
theorem dX11_punched_19 : decode cX11_punched 19 = .ok (.if_icmp .ne 9, 3) := by decide +kernel
theorem dX11_punched_22 : decode cX11_punched 22 = .ok (.aload 4, 2) := by decide +kernel
theorem dX11_punched_24 : decode cX11_punched 24 = .ok (.getfield 105, 3) := by decide +kernel
theorem dX11_punched_27 : decode cX11_punched 27 = .ok (.ireturn, 1) := by decide +kernel
theorem dX11_punched_28 : decode cX11_punched 28 = .ok (.iload_n 2, 1) := by decide +kernel
theorem dX11_punched_29 : decode cX11_punched 29 = .ok (.ifCond .lt 12, 3) := by decide +kernel
theorem dX11_punched_32 : decode cX11_punched 32 = .ok (.iload_n 2, 1) := by decide +kernel
theorem dX11_punched_33 : decode cX11_punched 33 = .ok (.aload 4, 2) := by decide +kernel
theorem dX11_punched_35 : decode cX11_punched 35 = .ok (.getfield 105, 3) := by decide +kernel
theorem dX11_punched_38 : decode cX11_punched 38 = .ok (.if_icmp .lt 5, 3) := by decide +kernel
theorem dX11_punched_41 : decode cX11_punched 41 = .ok (.iconst (-1), 1) := by decide +kernel
theorem dX11_punched_42 : decode cX11_punched 42 = .ok (.ireturn, 1) := by decide +kernel
theorem dX11_punched_43 : decode cX11_punched 43 = .ok (.iload_n 3, 1) := by decide +kernel
theorem dX11_punched_44 : decode cX11_punched 44 = .ok (.tableswitch 55 0 2 #[28, 36, 44], 28) := by decide +kernel
theorem dX11_punched_72 : decode cX11_punched 72 = .ok (.aload 4, 2) := by decide +kernel
theorem dX11_punched_74 : decode cX11_punched 74 = .ok (.getfield 214, 3) := by decide +kernel
theorem dX11_punched_77 : decode cX11_punched 77 = .ok (.iload_n 2, 1) := by decide +kernel
theorem dX11_punched_78 : decode cX11_punched 78 = .ok (.iaload, 1) := by decide +kernel
theorem dX11_punched_79 : decode cX11_punched 79 = .ok (.ireturn, 1) := by decide +kernel
theorem dX11_punched_80 : decode cX11_punched 80 = .ok (.aload 4, 2) := by decide +kernel
theorem dX11_punched_82 : decode cX11_punched 82 = .ok (.getfield 196, 3) := by decide +kernel
theorem dX11_punched_85 : decode cX11_punched 85 = .ok (.iload_n 2, 1) := by decide +kernel
theorem dX11_punched_86 : decode cX11_punched 86 = .ok (.iaload, 1) := by decide +kernel
theorem dX11_punched_87 : decode cX11_punched 87 = .ok (.ireturn, 1) := by decide +kernel
theorem dX11_punched_88 : decode cX11_punched 88 = .ok (.aload_n 0, 1) := by decide +kernel
theorem dX11_punched_89 : decode cX11_punched 89 = .ok (.iload_n 1, 1) := by decide +kernel
theorem dX11_punched_90 : decode cX11_punched 90 = .ok (.invokevirtual 215, 3) := by decide +kernel
theorem dX11_punched_93 : decode cX11_punched 93 = .ok (.getfield 219, 3) := by decide +kernel
theorem dX11_punched_96 : decode cX11_punched 96 = .ok (.iload_n 2, 1) := by decide +kernel
theorem dX11_punched_97 : decode cX11_punched 97 = .ok (.iaload, 1) := by decide +kernel
theorem dX11_punched_98 : decode cX11_punched 98 = .ok (.ireturn, 1) := by decide +kernel
theorem dX11_punched_99 : decode cX11_punched 99 = .ok (.iconst (-1), 1) := by decide +kernel
theorem dX11_punched_100 : decode cX11_punched 100 = .ok (.ireturn, 1) := by decide +kernel
set_option maxRecDepth 20000 in
theorem ggX11_span_X11_isWorker : GoodIn wsX11_span wsX11_isWorker := goodIn_r _ [8] (by decide +kernel) (by decide +kernel)
set_option maxRecDepth 20000 in
theorem gX11_span_X11_isWorker : GoodIn wsX11_span (va_wsS RX11 190 yX11_isWorker wsX11_isWorker) := goodIn_app (goodIn_of _ (by decide +kernel)) ggX11_span_X11_isWorker
set_option maxRecDepth 20000 in
theorem ggX11_span_X11_sheetOf : GoodIn wsX11_span wsX11_sheetOf := goodIn_r _ [12, 13, 14, 15, 16, 17, 18, 19, 20, 21, 22, 23, 24, 25, 26, 27, 28, 29, 30, 31, 32, 33, 34, 35, 36, 37, 38, 39, 40, 41, 42, 43, 44, 45, 46, 47, 48, 49, 50, 51, 52, 53, 54, 55, 56, 57, 58, 59, 60, 61, 62, 63, 64, 65, 66, 67, 68, 69, 70, 71, 72, 73, 74, 75, 76, 77, 78, 79, 80, 81, 82, 83, 84, 85, 86, 87, 88, 89, 90, 91, 92, 93, 94, 95, 96, 97, 98, 99, 100, 101, 102, 103, 104, 105, 106, 107, 108, 109, 110, 111, 112, 113, 114, 115, 116, 117, 118, 119, 120, 121, 122, 123, 124, 125, 126, 127, 128, 129, 130, 131, 132, 133, 134, 135, 136, 137, 138, 139, 140, 141, 142, 143, 144, 145, 146, 147, 148, 149, 150, 151, 152, 153, 154, 155, 156, 157, 158, 159, 160, 161, 162, 163, 164, 165, 166, 167, 168, 169, 170, 171, 172, 173, 174, 175, 176, 177, 178, 179, 180, 181, 182, 183, 184, 185, 186, 187, 188, 189, 190, 191, 192, 193, 194, 195, 196, 197, 198, 199, 200, 201, 202, 203, 204, 205, 206, 207, 208, 209, 210, 211, 212, 213, 214, 215, 216, 217, 218, 219, 220, 221, 222, 223, 224, 225, 226, 227, 228, 229, 230, 231, 232, 233, 234, 235, 236, 237, 238, 239, 240, 255, 256, 257, 258, 259, 260, 261, 262, 263, 264, 241, 242, 243, 244, 245, 246, 247, 248, 249, 250, 251, 252, 253, 254, 265, 266, 267, 268, 269, 270, 271, 272, 273, 274, 275, 276, 277, 278, 279, 280, 281, 282, 283, 284, 285, 286, 287, 288, 289, 290, 291, 292, 293, 294, 295, 296, 297, 298, 299, 300, 301, 302, 303, 304] (by decide +kernel) (by decide +kernel)
set_option maxRecDepth 20000 in
theorem gX11_span_X11_sheetOf : GoodIn wsX11_span (wsV RX11 215 RX11 yX11_sheetOf wsX11_sheetOf) := goodIn_app (goodIn_of _ (by decide +kernel)) ggX11_span_X11_sheetOf
theorem dX11_span_0 : decode cX11_span 0 = .ok (.iload_n 1, 1) := by decide +kernel
theorem dX11_span_1 : decode cX11_span 1 = .ok (.invokestatic 190, 3) := by decide +kernel
theorem dX11_span_4 : decode cX11_span 4 = .ok (.ifCond .ne 5, 3) := by decide +kernel
theorem dX11_span_7 : decode cX11_span 7 = .ok (.iconst (-1), 1) := by decide +kernel
theorem dX11_span_8 : decode cX11_span 8 = .ok (.ireturn, 1) := by decide +kernel
theorem dX11_span_9 : decode cX11_span 9 = .ok (.aload_n 0, 1) := by decide +kernel
theorem dX11_span_10 : decode cX11_span 10 = .ok (.iload_n 1, 1) := by decide +kernel
theorem dX11_span_11 : decode cX11_span 11 = .ok (.invokevirtual 215, 3) := by decide +kernel
theorem dX11_span_14 : decode cX11_span 14 = .ok (.astore 4, 2) := by decide +kernel
theorem dX11_span_16 : decode cX11_span 16 = .ok (.iload_n 2, 1) := by decide +kernel
theorem dX11_span_17 : decode cX11_span 17 = .ok (.iconst (-1), 1) := by decide +kernel
theorem dX11_span_18 : decode cX11_span 18 = .ok (.if_icmp .ne 9, 3) := by decide +kernel
theorem dX11_span_21 : decode cX11_span 21 = .ok (.aload 4, 2) := by decide +kernel
theorem dX11_span_23 : decode cX11_span 23 = .ok (.getfield 222, 3) := by decide +kernel
theorem dX11_span_26 : decode cX11_span 26 = .ok (.ireturn, 1) := by decide +kernel
theorem dX11_span_27 : decode cX11_span 27 = .ok (.iload_n 2, 1) := by decide +kernel
theorem dX11_span_28 : decode cX11_span 28 = .ok (.ifCond .lt 12, 3) := by decide +kernel
theorem dX11_span_31 : decode cX11_span 31 = .ok (.iload_n 2, 1) := by decide +kernel
theorem dX11_span_32 : decode cX11_span 32 = .ok (.aload 4, 2) := by decide +kernel
theorem dX11_span_34 : decode cX11_span 34 = .ok (.getfield 222, 3) := by decide +kernel
theorem dX11_span_37 : decode cX11_span 37 = .ok (.if_icmp .lt 5, 3) := by decide +kernel
theorem dX11_span_40 : decode cX11_span 40 = .ok (.iconst (-1), 1) := by decide +kernel
theorem dX11_span_41 : decode cX11_span 41 = .ok (.ireturn, 1) := by decide +kernel
theorem dX11_span_42 : decode cX11_span 42 = .ok (.iload_n 3, 1) := by decide +kernel
theorem dX11_span_43 : decode cX11_span 43 = .ok (.tableswitch 49 0 2 #[25, 33, 41], 25) := by decide +kernel
theorem dX11_span_68 : decode cX11_span 68 = .ok (.aload 4, 2) := by decide +kernel
theorem dX11_span_70 : decode cX11_span 70 = .ok (.getfield 225, 3) := by decide +kernel
theorem dX11_span_73 : decode cX11_span 73 = .ok (.iload_n 2, 1) := by decide +kernel
theorem dX11_span_74 : decode cX11_span 74 = .ok (.iaload, 1) := by decide +kernel
theorem dX11_span_75 : decode cX11_span 75 = .ok (.ireturn, 1) := by decide +kernel
theorem dX11_span_76 : decode cX11_span 76 = .ok (.aload 4, 2) := by decide +kernel
theorem dX11_span_78 : decode cX11_span 78 = .ok (.getfield 228, 3) := by decide +kernel
theorem dX11_span_81 : decode cX11_span 81 = .ok (.iload_n 2, 1) := by decide +kernel
theorem dX11_span_82 : decode cX11_span 82 = .ok (.iaload, 1) := by decide +kernel
theorem dX11_span_83 : decode cX11_span 83 = .ok (.ireturn, 1) := by decide +kernel
theorem dX11_span_84 : decode cX11_span 84 = .ok (.aload 4, 2) := by decide +kernel
theorem dX11_span_86 : decode cX11_span 86 = .ok (.getfield 231, 3) := by decide +kernel
theorem dX11_span_89 : decode cX11_span 89 = .ok (.iload_n 2, 1) := by decide +kernel
theorem dX11_span_90 : decode cX11_span 90 = .ok (.iaload, 1) := by decide +kernel
theorem dX11_span_91 : decode cX11_span 91 = .ok (.ireturn, 1) := by decide +kernel
theorem dX11_span_92 : decode cX11_span 92 = .ok (.iconst (-1), 1) := by decide +kernel
theorem dX11_span_93 : decode cX11_span 93 = .ok (.ireturn, 1) := by decide +kernel
set_option maxRecDepth 20000 in
theorem ggX11_quarter_X11_isWorker : GoodIn wsX11_quarter wsX11_isWorker := goodIn_r _ [11] (by decide +kernel) (by decide +kernel)
set_option maxRecDepth 20000 in
theorem gX11_quarter_X11_isWorker : GoodIn wsX11_quarter (va_wsS RX11 190 yX11_isWorker wsX11_isWorker) := goodIn_app (goodIn_of _ (by decide +kernel)) ggX11_quarter_X11_isWorker
set_option maxRecDepth 20000 in
theorem ggX11_quarter_X11_sheetOf : GoodIn wsX11_quarter wsX11_sheetOf := goodIn_r _ [15, 16, 17, 18, 3, 19, 20, 21, 22, 23, 24, 25, 26, 27, 28, 29, 30, 31, 32, 33, 34, 35, 36, 37, 38, 39, 40, 41, 42, 43, 44, 45, 46, 47, 48, 49, 50, 51, 52, 53, 54, 55, 56, 57, 58, 59, 60, 61, 62, 63, 64, 65, 66, 67, 68, 69, 70, 71, 72, 73, 74, 75, 76, 77, 78, 79, 80, 81, 82, 83, 84, 85, 86, 87, 88, 89, 90, 91, 92, 93, 94, 95, 96, 97, 98, 99, 100, 101, 102, 103, 104, 105, 106, 107, 108, 109, 110, 111, 112, 113, 114, 115, 116, 117, 118, 119, 120, 121, 122, 123, 124, 125, 126, 127, 128, 129, 130, 131, 132, 133, 134, 135, 136, 137, 138, 139, 140, 141, 142, 143, 144, 145, 146, 147, 148, 149, 150, 151, 152, 153, 154, 155, 156, 157, 158, 159, 160, 161, 162, 163, 164, 165, 166, 167, 168, 169, 170, 171, 172, 173, 174, 175, 176, 177, 178, 179, 180, 181, 182, 183, 184, 185, 186, 187, 188, 189, 190, 191, 192, 193, 194, 195, 196, 197, 198, 199, 200, 201, 202, 203, 204, 205, 206, 207, 208, 209, 210, 211, 212, 213, 214, 215, 216, 217, 218, 219, 220, 221, 222, 223, 224, 225, 226, 227, 228, 229, 230, 231, 232, 233, 234, 235, 236, 237, 238, 239, 240, 241, 242, 246, 247, 248, 249, 250, 251, 252, 253, 254, 255, 266, 267, 268, 269, 270, 271, 272, 273, 274, 275, 276, 277, 278, 279, 280, 281, 282, 256, 257, 258, 259, 260, 261, 262, 263, 264, 265, 283, 284, 285, 286, 287, 288, 289, 290, 291, 292, 293, 294, 295, 296, 297, 298, 299, 300, 301, 302, 303, 304, 305, 306, 307, 308, 309] (by decide +kernel) (by decide +kernel)
set_option maxRecDepth 20000 in
theorem gX11_quarter_X11_sheetOf : GoodIn wsX11_quarter (wsV RX11 215 RX11 yX11_sheetOf wsX11_sheetOf) := goodIn_app (goodIn_of _ (by decide +kernel)) ggX11_quarter_X11_sheetOf
set_option maxRecDepth 20000 in
theorem ggX11_quarter_X2_quartersAhead : GoodIn wsX11_quarter wsX2_quartersAhead := goodIn_r _ [65, 66, 67, 68, 64, 69, 70, 71, 286, 287, 288, 289, 290] (by decide +kernel) (by decide +kernel)
set_option maxRecDepth 20000 in
theorem gX11_quarter_X2_quartersAhead : GoodIn wsX11_quarter (wsV RX11 234 RX2 yX2_quartersAhead wsX2_quartersAhead) := goodIn_app (goodIn_of _ (by decide +kernel)) ggX11_quarter_X2_quartersAhead
set_option maxRecDepth 20000 in
theorem ggX11_quarter_X2_toldAt : GoodIn wsX11_quarter wsX2_toldAt := goodIn_r _ [143, 144, 145, 286, 287, 288, 289, 290] (by decide +kernel) (by decide +kernel)
set_option maxRecDepth 20000 in
theorem gX11_quarter_X2_toldAt : GoodIn wsX11_quarter (wsV RX11 169 RX2 yX2_toldAt wsX2_toldAt) := goodIn_app (goodIn_of _ (by decide +kernel)) ggX11_quarter_X2_toldAt
set_option maxRecDepth 20000 in
theorem ggX11_quarter_X2_hourAt : GoodIn wsX11_quarter wsX2_hourAt := goodIn_r _ [139, 140, 141, 142, 64, 143, 144, 145, 286, 287, 288, 289, 290] (by decide +kernel) (by decide +kernel)
set_option maxRecDepth 20000 in
theorem gX11_quarter_X2_hourAt : GoodIn wsX11_quarter (wsV RX11 240 RX2 yX2_hourAt wsX2_hourAt) := goodIn_app (goodIn_of _ (by decide +kernel)) ggX11_quarter_X2_hourAt
theorem dX11_quarter_0 : decode cX11_quarter 0 = .ok (.iload_n 1, 1) := by decide +kernel
theorem dX11_quarter_1 : decode cX11_quarter 1 = .ok (.invokestatic 190, 3) := by decide +kernel
theorem dX11_quarter_4 : decode cX11_quarter 4 = .ok (.ifCond .eq 12, 3) := by decide +kernel
theorem dX11_quarter_7 : decode cX11_quarter 7 = .ok (.iload_n 3, 1) := by decide +kernel
theorem dX11_quarter_8 : decode cX11_quarter 8 = .ok (.ifCond .lt 8, 3) := by decide +kernel
theorem dX11_quarter_11 : decode cX11_quarter 11 = .ok (.iload_n 3, 1) := by decide +kernel
theorem dX11_quarter_12 : decode cX11_quarter 12 = .ok (.iconst 4, 1) := by decide +kernel
theorem dX11_quarter_13 : decode cX11_quarter 13 = .ok (.if_icmp .le 11, 3) := by decide +kernel
theorem dX11_quarter_16 : decode cX11_quarter 16 = .ok (.new 136, 3) := by decide +kernel
theorem dX11_quarter_19 : decode cX11_quarter 19 = .ok (.dup, 1) := by decide +kernel
theorem dX11_quarter_20 : decode cX11_quarter 20 = .ok (.invokespecial 138, 3) := by decide +kernel
theorem dX11_quarter_23 : decode cX11_quarter 23 = .ok (.athrow, 1) := by decide +kernel
theorem dX11_quarter_24 : decode cX11_quarter 24 = .ok (.aload_n 0, 1) := by decide +kernel
theorem dX11_quarter_25 : decode cX11_quarter 25 = .ok (.iload_n 1, 1) := by decide +kernel
theorem dX11_quarter_26 : decode cX11_quarter 26 = .ok (.invokevirtual 215, 3) := by decide +kernel
theorem dX11_quarter_29 : decode cX11_quarter 29 = .ok (.astore 4, 2) := by decide +kernel
theorem dX11_quarter_31 : decode cX11_quarter 31 = .ok (.iload_n 2, 1) := by decide +kernel
theorem dX11_quarter_32 : decode cX11_quarter 32 = .ok (.ifCond .lt 31, 3) := by decide +kernel
theorem dX11_quarter_35 : decode cX11_quarter 35 = .ok (.iload_n 2, 1) := by decide +kernel
theorem dX11_quarter_36 : decode cX11_quarter 36 = .ok (.aload_n 0, 1) := by decide +kernel
theorem dX11_quarter_37 : decode cX11_quarter 37 = .ok (.getfield 26, 3) := by decide +kernel
theorem dX11_quarter_40 : decode cX11_quarter 40 = .ok (.getfield 91, 3) := by decide +kernel
theorem dX11_quarter_43 : decode cX11_quarter 43 = .ok (.bipush 28, 2) := by decide +kernel
theorem dX11_quarter_45 : decode cX11_quarter 45 = .ok (.invokevirtual 234, 3) := by decide +kernel
theorem dX11_quarter_48 : decode cX11_quarter 48 = .ok (.if_icmp .ge 15, 3) := by decide +kernel
theorem dX11_quarter_51 : decode cX11_quarter 51 = .ok (.aload 4, 2) := by decide +kernel
theorem dX11_quarter_53 : decode cX11_quarter 53 = .ok (.getfield 237, 3) := by decide +kernel
theorem dX11_quarter_56 : decode cX11_quarter 56 = .ok (.iload_n 2, 1) := by decide +kernel
theorem dX11_quarter_57 : decode cX11_quarter 57 = .ok (.iaload, 1) := by decide +kernel
theorem dX11_quarter_58 : decode cX11_quarter 58 = .ok (.bipush (-2), 2) := by decide +kernel
theorem dX11_quarter_60 : decode cX11_quarter 60 = .ok (.if_icmp .ne 6, 3) := by decide +kernel
theorem dX11_quarter_63 : decode cX11_quarter 63 = .ok (.bipush (-2), 2) := by decide +kernel
theorem dX11_quarter_65 : decode cX11_quarter 65 = .ok (.ireturn, 1) := by decide +kernel
theorem dX11_quarter_66 : decode cX11_quarter 66 = .ok (.iload_n 3, 1) := by decide +kernel
theorem dX11_quarter_67 : decode cX11_quarter 67 = .ok (.tableswitch 79 0 3 #[29, 48, 63, 71], 29) := by decide +kernel
theorem dX11_quarter_96 : decode cX11_quarter 96 = .ok (.aload_n 0, 1) := by decide +kernel
theorem dX11_quarter_97 : decode cX11_quarter 97 = .ok (.getfield 26, 3) := by decide +kernel
theorem dX11_quarter_100 : decode cX11_quarter 100 = .ok (.getfield 91, 3) := by decide +kernel
theorem dX11_quarter_103 : decode cX11_quarter 103 = .ok (.iload_n 2, 1) := by decide +kernel
theorem dX11_quarter_104 : decode cX11_quarter 104 = .ok (.bipush 15, 2) := by decide +kernel
theorem dX11_quarter_106 : decode cX11_quarter 106 = .ok (.imul, 1) := by decide +kernel
theorem dX11_quarter_107 : decode cX11_quarter 107 = .ok (.invokevirtual 169, 3) := by decide +kernel
theorem dX11_quarter_110 : decode cX11_quarter 110 = .ok (.sipush 1440, 3) := by decide +kernel
theorem dX11_quarter_113 : decode cX11_quarter 113 = .ok (.idiv, 1) := by decide +kernel
theorem dX11_quarter_114 : decode cX11_quarter 114 = .ok (.ireturn, 1) := by decide +kernel
theorem dX11_quarter_115 : decode cX11_quarter 115 = .ok (.aload_n 0, 1) := by decide +kernel
theorem dX11_quarter_116 : decode cX11_quarter 116 = .ok (.getfield 26, 3) := by decide +kernel
theorem dX11_quarter_119 : decode cX11_quarter 119 = .ok (.getfield 91, 3) := by decide +kernel
theorem dX11_quarter_122 : decode cX11_quarter 122 = .ok (.iload_n 2, 1) := by decide +kernel
theorem dX11_quarter_123 : decode cX11_quarter 123 = .ok (.bipush 15, 2) := by decide +kernel
theorem dX11_quarter_125 : decode cX11_quarter 125 = .ok (.imul, 1) := by decide +kernel
theorem dX11_quarter_126 : decode cX11_quarter 126 = .ok (.invokevirtual 240, 3) := by decide +kernel
theorem dX11_quarter_129 : decode cX11_quarter 129 = .ok (.ireturn, 1) := by decide +kernel
theorem dX11_quarter_130 : decode cX11_quarter 130 = .ok (.aload 4, 2) := by decide +kernel
theorem dX11_quarter_132 : decode cX11_quarter 132 = .ok (.getfield 237, 3) := by decide +kernel
theorem dX11_quarter_135 : decode cX11_quarter 135 = .ok (.iload_n 2, 1) := by decide +kernel
theorem dX11_quarter_136 : decode cX11_quarter 136 = .ok (.iaload, 1) := by decide +kernel
theorem dX11_quarter_137 : decode cX11_quarter 137 = .ok (.ireturn, 1) := by decide +kernel
theorem dX11_quarter_138 : decode cX11_quarter 138 = .ok (.aload 4, 2) := by decide +kernel
theorem dX11_quarter_140 : decode cX11_quarter 140 = .ok (.getfield 243, 3) := by decide +kernel
theorem dX11_quarter_143 : decode cX11_quarter 143 = .ok (.iload_n 2, 1) := by decide +kernel
theorem dX11_quarter_144 : decode cX11_quarter 144 = .ok (.iaload, 1) := by decide +kernel
theorem dX11_quarter_145 : decode cX11_quarter 145 = .ok (.ireturn, 1) := by decide +kernel
theorem dX11_quarter_146 : decode cX11_quarter 146 = .ok (.aload 4, 2) := by decide +kernel
theorem dX11_quarter_148 : decode cX11_quarter 148 = .ok (.getfield 245, 3) := by decide +kernel
theorem dX11_quarter_151 : decode cX11_quarter 151 = .ok (.iload_n 2, 1) := by decide +kernel
theorem dX11_quarter_152 : decode cX11_quarter 152 = .ok (.iaload, 1) := by decide +kernel
theorem dX11_quarter_153 : decode cX11_quarter 153 = .ok (.ireturn, 1) := by decide +kernel
set_option maxRecDepth 20000 in
theorem ggX11_day_X11_countDays : GoodIn wsX11_day wsX11_countDays := goodIn_r _ [5, 6, 7, 8, 9, 10, 4, 11, 12, 13, 14, 15, 16, 17, 18, 19, 20, 21, 22, 23, 24, 25, 26, 27, 28, 29, 30, 31, 32, 33, 34, 35, 36, 37, 38, 39, 40, 41, 42, 43, 44, 45, 46, 47, 48, 49, 50, 51, 52, 53, 54, 55, 56, 57, 58, 59, 60, 61, 62, 63, 64, 65, 66, 67, 68, 69, 70, 71, 72, 73, 74, 75, 76, 77, 78, 79, 80, 81, 82, 83, 84, 85, 86, 87, 88, 89, 90, 91, 92, 93, 94, 95, 96, 97, 98, 99, 100, 101, 102, 103, 104, 105, 106, 107, 108, 109, 110, 111, 112, 113, 114, 115, 116, 117, 118, 119, 120, 121, 122, 123, 124, 125, 126, 127, 128, 129, 130, 131, 132, 133, 134, 135, 136, 137, 138, 139, 140, 141, 142, 143, 144, 145, 146, 147, 148, 149, 150, 151, 152, 153, 154, 155, 156, 157, 158, 159, 160, 161, 162, 163, 164, 165, 166, 167, 168, 169, 170, 171, 172, 173, 174, 175, 176, 177, 178, 179, 180, 181, 182, 183, 184, 185, 186, 187, 188, 189, 190, 191, 192, 193, 194, 195, 196, 197, 198, 199, 200, 201, 202, 203, 204, 205, 206, 207, 208, 209, 210, 211, 212, 213, 214, 215, 216, 217, 218, 219, 220, 221, 222, 223, 224, 225, 226, 227, 228, 229, 230, 231, 232, 233, 234, 235, 236, 237, 238, 239, 240, 241, 242, 243, 244, 245, 246, 247, 248, 249, 250, 251, 252, 253, 254, 255, 256, 257, 258, 259, 260, 261, 262, 263, 264, 265, 266, 267, 268, 269, 270, 271, 272, 273, 274, 275, 276, 277, 278, 279, 280, 281, 282, 283, 284, 285, 286, 287, 288, 289, 290, 291, 292, 293, 294, 295, 296, 297, 298, 299, 300, 301, 302, 303, 304, 305, 306, 307, 308, 309, 310, 311, 312] (by decide +kernel) (by decide +kernel)
set_option maxRecDepth 20000 in
theorem gX11_day_X11_countDays : GoodIn wsX11_day (wsV RX11 248 RX11 yX11_countDays wsX11_countDays) := goodIn_app (goodIn_of _ (by decide +kernel)) ggX11_day_X11_countDays
theorem dX11_day_0 : decode cX11_day 0 = .ok (.iload_n 2, 1) := by decide +kernel
theorem dX11_day_1 : decode cX11_day 1 = .ok (.ifCond .lt 9, 3) := by decide +kernel
theorem dX11_day_4 : decode cX11_day 4 = .ok (.iload_n 2, 1) := by decide +kernel
theorem dX11_day_5 : decode cX11_day 5 = .ok (.bipush 28, 2) := by decide +kernel
theorem dX11_day_7 : decode cX11_day 7 = .ok (.if_icmp .lt 7, 3) := by decide +kernel
theorem dX11_day_10 : decode cX11_day 10 = .ok (.iconst (-1), 1) := by decide +kernel
theorem dX11_day_11 : decode cX11_day 11 = .ok (.goto 13, 3) := by decide +kernel
theorem dX11_day_14 : decode cX11_day 14 = .ok (.aload_n 0, 1) := by decide +kernel
theorem dX11_day_15 : decode cX11_day 15 = .ok (.iload_n 1, 1) := by decide +kernel
theorem dX11_day_16 : decode cX11_day 16 = .ok (.iload_n 2, 1) := by decide +kernel
theorem dX11_day_17 : decode cX11_day 17 = .ok (.iload_n 2, 1) := by decide +kernel
theorem dX11_day_18 : decode cX11_day 18 = .ok (.iconst 1, 1) := by decide +kernel
theorem dX11_day_19 : decode cX11_day 19 = .ok (.iadd, 1) := by decide +kernel
theorem dX11_day_20 : decode cX11_day 20 = .ok (.iload_n 3, 1) := by decide +kernel
theorem dX11_day_21 : decode cX11_day 21 = .ok (.invokevirtual 248, 3) := by decide +kernel
theorem dX11_day_24 : decode cX11_day 24 = .ok (.ireturn, 1) := by decide +kernel
set_option maxRecDepth 20000 in
theorem ggX11_week_X11_isWeek : GoodIn wsX11_week wsX11_isWeek := goodIn_r _ [4] (by decide +kernel) (by decide +kernel)
set_option maxRecDepth 20000 in
theorem gX11_week_X11_isWeek : GoodIn wsX11_week (va_wsS RX11 252 yX11_isWeek wsX11_isWeek) := goodIn_app (goodIn_of _ (by decide +kernel)) ggX11_week_X11_isWeek
set_option maxRecDepth 20000 in
theorem ggX11_week_X11_countDays : GoodIn wsX11_week wsX11_countDays := goodIn_r _ [8, 9, 10, 11, 12, 13, 3, 14, 15, 16, 17, 18, 19, 20, 21, 22, 23, 24, 25, 26, 27, 28, 29, 30, 31, 32, 33, 34, 35, 36, 37, 38, 39, 40, 41, 42, 43, 44, 45, 46, 47, 48, 49, 50, 51, 52, 53, 54, 55, 56, 57, 58, 59, 60, 61, 62, 63, 64, 65, 66, 67, 68, 69, 70, 71, 72, 73, 74, 75, 76, 77, 78, 79, 80, 81, 82, 83, 84, 85, 86, 87, 88, 89, 90, 91, 92, 93, 94, 95, 96, 97, 98, 99, 100, 101, 102, 103, 104, 105, 106, 107, 108, 109, 110, 111, 112, 113, 114, 115, 116, 117, 118, 119, 120, 121, 122, 123, 124, 125, 126, 127, 128, 129, 130, 131, 132, 133, 134, 135, 136, 137, 138, 139, 140, 141, 142, 143, 144, 145, 146, 147, 148, 149, 150, 151, 152, 153, 154, 155, 156, 157, 158, 159, 160, 161, 162, 163, 164, 165, 166, 167, 168, 169, 170, 171, 172, 173, 174, 175, 176, 177, 178, 179, 180, 181, 182, 183, 184, 185, 186, 187, 188, 189, 190, 191, 192, 193, 194, 195, 196, 197, 198, 199, 200, 201, 202, 203, 204, 205, 206, 207, 208, 209, 210, 211, 212, 213, 214, 215, 216, 217, 218, 219, 220, 221, 222, 223, 224, 225, 226, 227, 228, 229, 230, 231, 232, 233, 234, 235, 236, 237, 238, 239, 240, 241, 242, 243, 244, 245, 246, 247, 248, 249, 250, 251, 252, 253, 254, 255, 256, 257, 258, 259, 260, 261, 262, 263, 264, 265, 266, 267, 268, 269, 270, 271, 272, 273, 274, 275, 276, 277, 278, 279, 280, 281, 282, 283, 284, 285, 286, 287, 288, 289, 290, 291, 292, 293, 294, 295, 296, 297, 298, 299, 300, 301, 302, 303, 304, 305, 306, 307, 308, 309, 310, 311, 312, 313, 314, 315] (by decide +kernel) (by decide +kernel)
set_option maxRecDepth 20000 in
theorem gX11_week_X11_countDays : GoodIn wsX11_week (wsV RX11 248 RX11 yX11_countDays wsX11_countDays) := goodIn_app (goodIn_of _ (by decide +kernel)) ggX11_week_X11_countDays
theorem dX11_week_0 : decode cX11_week 0 = .ok (.iload_n 2, 1) := by decide +kernel
theorem dX11_week_1 : decode cX11_week 1 = .ok (.invokestatic 252, 3) := by decide +kernel
theorem dX11_week_4 : decode cX11_week 4 = .ok (.ifCond .eq 23, 3) := by decide +kernel
theorem dX11_week_7 : decode cX11_week 7 = .ok (.aload_n 0, 1) := by decide +kernel
theorem dX11_week_8 : decode cX11_week 8 = .ok (.iload_n 1, 1) := by decide +kernel
theorem dX11_week_9 : decode cX11_week 9 = .ok (.iload_n 2, 1) := by decide +kernel
theorem dX11_week_10 : decode cX11_week 10 = .ok (.bipush 7, 2) := by decide +kernel
theorem dX11_week_12 : decode cX11_week 12 = .ok (.imul, 1) := by decide +kernel
theorem dX11_week_13 : decode cX11_week 13 = .ok (.iload_n 2, 1) := by decide +kernel
theorem dX11_week_14 : decode cX11_week 14 = .ok (.bipush 7, 2) := by decide +kernel
theorem dX11_week_16 : decode cX11_week 16 = .ok (.imul, 1) := by decide +kernel
theorem dX11_week_17 : decode cX11_week 17 = .ok (.bipush 7, 2) := by decide +kernel
theorem dX11_week_19 : decode cX11_week 19 = .ok (.iadd, 1) := by decide +kernel
theorem dX11_week_20 : decode cX11_week 20 = .ok (.iload_n 3, 1) := by decide +kernel
theorem dX11_week_21 : decode cX11_week 21 = .ok (.invokevirtual 248, 3) := by decide +kernel
theorem dX11_week_24 : decode cX11_week 24 = .ok (.goto 4, 3) := by decide +kernel
theorem dX11_week_27 : decode cX11_week 27 = .ok (.iconst (-1), 1) := by decide +kernel
theorem dX11_week_28 : decode cX11_week 28 = .ok (.ireturn, 1) := by decide +kernel
set_option maxRecDepth 20000 in
theorem ggX11_countDays_X11_isWorker : GoodIn wsX11_countDays wsX11_isWorker := goodIn_r _ [7] (by decide +kernel) (by decide +kernel)
set_option maxRecDepth 20000 in
theorem gX11_countDays_X11_isWorker : GoodIn wsX11_countDays (va_wsS RX11 190 yX11_isWorker wsX11_isWorker) := goodIn_app (goodIn_of _ (by decide +kernel)) ggX11_countDays_X11_isWorker
set_option maxRecDepth 20000 in
theorem ggX11_countDays_X11_isPremium : GoodIn wsX11_countDays wsX11_isPremium := goodIn_r _ [11, 2, 12, 259, 260, 261, 262, 263, 264, 265, 266, 267, 268, 269, 270, 271, 272, 273, 274, 275, 276, 277, 278] (by decide +kernel) (by decide +kernel)
set_option maxRecDepth 20000 in
theorem gX11_countDays_X11_isPremium : GoodIn wsX11_countDays (wsV RX11 133 RX11 yX11_isPremium wsX11_isPremium) := goodIn_app (goodIn_of _ (by decide +kernel)) ggX11_countDays_X11_isPremium
set_option maxRecDepth 20000 in
theorem ggX11_countDays_X11_sheetOf : GoodIn wsX11_countDays wsX11_sheetOf := goodIn_r _ [16, 17, 18, 19, 2, 20, 21, 22, 23, 24, 25, 26, 27, 28, 29, 30, 31, 32, 33, 34, 35, 36, 37, 38, 39, 40, 41, 42, 43, 44, 45, 46, 47, 48, 49, 50, 51, 52, 53, 54, 55, 56, 57, 58, 59, 60, 61, 62, 63, 64, 65, 66, 67, 68, 69, 70, 71, 72, 73, 74, 75, 76, 77, 78, 79, 80, 81, 82, 83, 84, 85, 86, 87, 88, 89, 90, 91, 92, 93, 94, 95, 96, 97, 98, 99, 100, 101, 102, 103, 104, 105, 106, 107, 108, 109, 110, 111, 112, 113, 114, 115, 116, 117, 118, 119, 120, 121, 122, 123, 124, 125, 126, 127, 128, 129, 130, 131, 132, 133, 134, 135, 136, 137, 138, 139, 140, 141, 142, 143, 144, 145, 146, 147, 148, 149, 150, 151, 152, 153, 154, 155, 156, 157, 158, 159, 160, 161, 162, 163, 164, 165, 166, 167, 168, 169, 170, 171, 172, 173, 174, 175, 176, 177, 178, 179, 180, 181, 182, 183, 184, 185, 186, 187, 188, 189, 190, 191, 192, 193, 194, 195, 196, 197, 198, 199, 200, 201, 202, 203, 204, 205, 206, 207, 208, 209, 210, 211, 212, 213, 214, 215, 216, 217, 218, 219, 220, 221, 222, 223, 224, 225, 226, 227, 228, 229, 230, 231, 232, 233, 234, 235, 236, 237, 238, 239, 240, 241, 242, 243, 259, 260, 261, 262, 263, 264, 265, 266, 267, 268, 245, 246, 247, 248, 249, 250, 251, 252, 253, 254, 255, 256, 257, 258, 279, 280, 281, 269, 270, 271, 272, 273, 274, 275, 276, 277, 278, 282, 283, 284, 285, 286, 287, 288, 289, 290, 291, 292, 293, 294, 295, 296, 297, 298, 299, 300, 301, 302, 303, 304, 305, 306, 307, 308] (by decide +kernel) (by decide +kernel)
set_option maxRecDepth 20000 in
theorem gX11_countDays_X11_sheetOf : GoodIn wsX11_countDays (wsV RX11 215 RX11 yX11_sheetOf wsX11_sheetOf) := goodIn_app (goodIn_of _ (by decide +kernel)) ggX11_countDays_X11_sheetOf
set_option maxRecDepth 20000 in
theorem ggX11_countDays_X2_quartersAhead : GoodIn wsX11_countDays wsX2_quartersAhead := goodIn_r _ [66, 67, 68, 69, 65, 70, 71, 72, 285, 286, 287, 288, 289] (by decide +kernel) (by decide +kernel)
set_option maxRecDepth 20000 in
theorem gX11_countDays_X2_quartersAhead : GoodIn wsX11_countDays (wsV RX11 234 RX2 yX2_quartersAhead wsX2_quartersAhead) := goodIn_app (goodIn_of _ (by decide +kernel)) ggX11_countDays_X2_quartersAhead
theorem dX11_countDays_0 : decode cX11_countDays 0 = .ok (.iload_n 1, 1) := by decide +kernel
theorem dX11_countDays_1 : decode cX11_countDays 1 = .ok (.invokestatic 190, 3) := by decide +kernel
theorem dX11_countDays_4 : decode cX11_countDays 4 = .ok (.ifCond .eq 25, 3) := by decide +kernel
theorem dX11_countDays_7 : decode cX11_countDays 7 = .ok (.iload 4, 2) := by decide +kernel
theorem dX11_countDays_9 : decode cX11_countDays 9 = .ok (.bipush (-2), 2) := by decide +kernel
theorem dX11_countDays_11 : decode cX11_countDays 11 = .ok (.if_icmp .eq 20, 3) := by decide +kernel
theorem dX11_countDays_14 : decode cX11_countDays 14 = .ok (.iload 4, 2) := by decide +kernel
theorem dX11_countDays_16 : decode cX11_countDays 16 = .ok (.iconst (-1), 1) := by decide +kernel
theorem dX11_countDays_17 : decode cX11_countDays 17 = .ok (.if_icmp .eq 14, 3) := by decide +kernel
theorem dX11_countDays_20 : decode cX11_countDays 20 = .ok (.aload_n 0, 1) := by decide +kernel
theorem dX11_countDays_21 : decode cX11_countDays 21 = .ok (.iload 4, 2) := by decide +kernel
theorem dX11_countDays_23 : decode cX11_countDays 23 = .ok (.invokevirtual 133, 3) := by decide +kernel
theorem dX11_countDays_26 : decode cX11_countDays 26 = .ok (.ifCond .ne 5, 3) := by decide +kernel
theorem dX11_countDays_29 : decode cX11_countDays 29 = .ok (.iconst (-1), 1) := by decide +kernel
theorem dX11_countDays_30 : decode cX11_countDays 30 = .ok (.ireturn, 1) := by decide +kernel
theorem dX11_countDays_31 : decode cX11_countDays 31 = .ok (.aload_n 0, 1) := by decide +kernel
theorem dX11_countDays_32 : decode cX11_countDays 32 = .ok (.iload_n 1, 1) := by decide +kernel
theorem dX11_countDays_33 : decode cX11_countDays 33 = .ok (.invokevirtual 215, 3) := by decide +kernel
theorem dX11_countDays_36 : decode cX11_countDays 36 = .ok (.getfield 237, 3) := by decide +kernel
theorem dX11_countDays_39 : decode cX11_countDays 39 = .ok (.astore 5, 2) := by decide +kernel
theorem dX11_countDays_41 : decode cX11_countDays 41 = .ok (.aload_n 0, 1) := by decide +kernel
theorem dX11_countDays_42 : decode cX11_countDays 42 = .ok (.getfield 26, 3) := by decide +kernel
theorem dX11_countDays_45 : decode cX11_countDays 45 = .ok (.getfield 91, 3) := by decide +kernel
theorem dX11_countDays_48 : decode cX11_countDays 48 = .ok (.iload_n 3, 1) := by decide +kernel
theorem dX11_countDays_49 : decode cX11_countDays 49 = .ok (.invokevirtual 234, 3) := by decide +kernel
theorem dX11_countDays_52 : decode cX11_countDays 52 = .ok (.istore 6, 2) := by decide +kernel
theorem dX11_countDays_54 : decode cX11_countDays 54 = .ok (.iconst 0, 1) := by decide +kernel
theorem dX11_countDays_55 : decode cX11_countDays 55 = .ok (.istore 7, 2) := by decide +kernel
theorem dX11_countDays_57 : decode cX11_countDays 57 = .ok (.aload_n 0, 1) := by decide +kernel
theorem dX11_countDays_58 : decode cX11_countDays 58 = .ok (.getfield 26, 3) := by decide +kernel
theorem dX11_countDays_61 : decode cX11_countDays 61 = .ok (.getfield 91, 3) := by decide +kernel
theorem dX11_countDays_64 : decode cX11_countDays 64 = .ok (.iload_n 2, 1) := by decide +kernel
theorem dX11_countDays_65 : decode cX11_countDays 65 = .ok (.invokevirtual 234, 3) := by decide +kernel
theorem dX11_countDays_68 : decode cX11_countDays 68 = .ok (.istore 8, 2) := by decide +kernel
theorem dX11_countDays_70 : decode cX11_countDays 70 = .ok (.iload 8, 2) := by decide +kernel
theorem dX11_countDays_72 : decode cX11_countDays 72 = .ok (.iload 6, 2) := by decide +kernel
theorem dX11_countDays_74 : decode cX11_countDays 74 = .ok (.if_icmp .ge 42, 3) := by decide +kernel
theorem dX11_countDays_77 : decode cX11_countDays 77 = .ok (.iload 4, 2) := by decide +kernel
theorem dX11_countDays_79 : decode cX11_countDays 79 = .ok (.bipush (-2), 2) := by decide +kernel
theorem dX11_countDays_81 : decode cX11_countDays 81 = .ok (.if_icmp .ne 16, 3) := by decide +kernel
theorem dX11_countDays_84 : decode cX11_countDays 84 = .ok (.aload 5, 2) := by decide +kernel
theorem dX11_countDays_86 : decode cX11_countDays 86 = .ok (.iload 8, 2) := by decide +kernel
theorem dX11_countDays_88 : decode cX11_countDays 88 = .ok (.iaload, 1) := by decide +kernel
theorem dX11_countDays_89 : decode cX11_countDays 89 = .ok (.bipush (-2), 2) := by decide +kernel
theorem dX11_countDays_91 : decode cX11_countDays 91 = .ok (.if_icmp .eq 19, 3) := by decide +kernel
theorem dX11_countDays_94 : decode cX11_countDays 94 = .ok (.goto 13, 3) := by decide +kernel
theorem dX11_countDays_97 : decode cX11_countDays 97 = .ok (.aload 5, 2) := by decide +kernel
theorem dX11_countDays_99 : decode cX11_countDays 99 = .ok (.iload 8, 2) := by decide +kernel
theorem dX11_countDays_101 : decode cX11_countDays 101 = .ok (.iaload, 1) := by decide +kernel
theorem dX11_countDays_102 : decode cX11_countDays 102 = .ok (.iload 4, 2) := by decide +kernel
theorem dX11_countDays_104 : decode cX11_countDays 104 = .ok (.if_icmp .ne 6, 3) := by decide +kernel
theorem dX11_countDays_107 : decode cX11_countDays 107 = .ok (.iinc 7 1, 3) := by decide +kernel
theorem dX11_countDays_110 : decode cX11_countDays 110 = .ok (.iinc 8 1, 3) := by decide +kernel
theorem dX11_countDays_113 : decode cX11_countDays 113 = .ok (.goto (-43), 3) := by decide +kernel
theorem dX11_countDays_116 : decode cX11_countDays 116 = .ok (.iload 7, 2) := by decide +kernel
theorem dX11_countDays_118 : decode cX11_countDays 118 = .ok (.ireturn, 1) := by decide +kernel
set_option maxRecDepth 20000 in
theorem ggX11_counted_X11_isWorker : GoodIn wsX11_counted wsX11_isWorker := goodIn_r _ [8] (by decide +kernel) (by decide +kernel)
set_option maxRecDepth 20000 in
theorem gX11_counted_X11_isWorker : GoodIn wsX11_counted (va_wsS RX11 190 yX11_isWorker wsX11_isWorker) := goodIn_app (goodIn_of _ (by decide +kernel)) ggX11_counted_X11_isWorker
set_option maxRecDepth 20000 in
theorem ggX11_counted_X11_isWeek : GoodIn wsX11_counted wsX11_isWeek := goodIn_r _ [11] (by decide +kernel) (by decide +kernel)
set_option maxRecDepth 20000 in
theorem gX11_counted_X11_isWeek : GoodIn wsX11_counted (va_wsS RX11 252 yX11_isWeek wsX11_isWeek) := goodIn_app (goodIn_of _ (by decide +kernel)) ggX11_counted_X11_isWeek
set_option maxRecDepth 20000 in
theorem ggX11_counted_X11_sheetOf : GoodIn wsX11_counted wsX11_sheetOf := goodIn_r _ [15, 16, 17, 18, 3, 19, 20, 21, 22, 23, 24, 25, 26, 27, 28, 29, 30, 31, 32, 33, 34, 35, 36, 37, 38, 39, 40, 41, 42, 43, 44, 45, 46, 47, 48, 49, 50, 51, 52, 53, 54, 55, 56, 57, 58, 59, 60, 61, 62, 63, 64, 65, 66, 67, 68, 69, 70, 71, 72, 73, 74, 75, 76, 77, 78, 79, 80, 81, 82, 83, 84, 85, 86, 87, 88, 89, 90, 91, 92, 93, 94, 95, 96, 97, 98, 99, 100, 101, 102, 103, 104, 105, 106, 107, 108, 109, 110, 111, 112, 113, 114, 115, 116, 117, 118, 119, 120, 121, 122, 123, 124, 125, 126, 127, 128, 129, 130, 131, 132, 133, 134, 135, 136, 137, 138, 139, 140, 141, 142, 143, 144, 145, 146, 147, 148, 149, 150, 151, 152, 153, 154, 155, 156, 157, 158, 159, 160, 161, 162, 163, 164, 165, 166, 167, 168, 169, 170, 171, 172, 173, 174, 175, 176, 177, 178, 179, 180, 181, 182, 183, 184, 185, 186, 187, 188, 189, 190, 191, 192, 193, 194, 195, 196, 197, 198, 199, 200, 201, 202, 203, 204, 205, 206, 207, 208, 209, 210, 211, 212, 213, 214, 215, 216, 217, 218, 219, 220, 221, 222, 223, 224, 225, 226, 227, 228, 229, 230, 231, 232, 233, 234, 235, 236, 237, 238, 239, 240, 241, 242, 259, 260, 261, 262, 263, 264, 265, 266, 267, 268, 245, 246, 247, 248, 249, 250, 251, 252, 253, 254, 255, 256, 257, 258, 279, 280, 281, 269, 270, 271, 272, 273, 274, 275, 276, 277, 278, 282, 283, 284, 285, 286, 287, 288, 289, 290, 291, 292, 293, 294, 295, 296, 297, 298, 299, 300, 301, 302, 303, 304, 305, 306, 307, 308] (by decide +kernel) (by decide +kernel)
set_option maxRecDepth 20000 in
theorem gX11_counted_X11_sheetOf : GoodIn wsX11_counted (wsV RX11 215 RX11 yX11_sheetOf wsX11_sheetOf) := goodIn_app (goodIn_of _ (by decide +kernel)) ggX11_counted_X11_sheetOf
set_option maxRecDepth 20000 in
theorem ggX11_counted_X2_quartersAhead : GoodIn wsX11_counted wsX2_quartersAhead := goodIn_r _ [65, 66, 67, 68, 64, 69, 70, 71, 285, 286, 287, 288, 289] (by decide +kernel) (by decide +kernel)
set_option maxRecDepth 20000 in
theorem gX11_counted_X2_quartersAhead : GoodIn wsX11_counted (wsV RX11 234 RX2 yX2_quartersAhead wsX2_quartersAhead) := goodIn_app (goodIn_of _ (by decide +kernel)) ggX11_counted_X2_quartersAhead
set_option maxRecDepth 20000 in
theorem ggX11_counted_X7_countsUnder : GoodIn wsX11_counted wsX7_countsUnder := goodIn_r _ [182, 151, 183, 269, 270, 271, 272, 273, 274, 275, 276, 277, 278, 304, 305, 306, 307, 308] (by decide +kernel) (by decide +kernel)
set_option maxRecDepth 20000 in
theorem gX11_counted_X7_countsUnder : GoodIn wsX11_counted (wsV RX11 255 RX7 yX7_countsUnder wsX7_countsUnder) := goodIn_app (goodIn_of _ (by decide +kernel)) ggX11_counted_X7_countsUnder
theorem dX11_counted_0 : decode cX11_counted 0 = .ok (.iload_n 1, 1) := by decide +kernel
theorem dX11_counted_1 : decode cX11_counted 1 = .ok (.invokestatic 190, 3) := by decide +kernel
theorem dX11_counted_4 : decode cX11_counted 4 = .ok (.ifCond .eq 10, 3) := by decide +kernel
theorem dX11_counted_7 : decode cX11_counted 7 = .ok (.iload_n 2, 1) := by decide +kernel
theorem dX11_counted_8 : decode cX11_counted 8 = .ok (.invokestatic 252, 3) := by decide +kernel
theorem dX11_counted_11 : decode cX11_counted 11 = .ok (.ifCond .ne 5, 3) := by decide +kernel
theorem dX11_counted_14 : decode cX11_counted 14 = .ok (.iconst (-1), 1) := by decide +kernel
theorem dX11_counted_15 : decode cX11_counted 15 = .ok (.ireturn, 1) := by decide +kernel
theorem dX11_counted_16 : decode cX11_counted 16 = .ok (.aload_n 0, 1) := by decide +kernel
theorem dX11_counted_17 : decode cX11_counted 17 = .ok (.iload_n 1, 1) := by decide +kernel
theorem dX11_counted_18 : decode cX11_counted 18 = .ok (.invokevirtual 215, 3) := by decide +kernel
theorem dX11_counted_21 : decode cX11_counted 21 = .ok (.astore 4, 2) := by decide +kernel
theorem dX11_counted_23 : decode cX11_counted 23 = .ok (.iload_n 3, 1) := by decide +kernel
theorem dX11_counted_24 : decode cX11_counted 24 = .ok (.ifCond .eq 11, 3) := by decide +kernel
theorem dX11_counted_27 : decode cX11_counted 27 = .ok (.aload 4, 2) := by decide +kernel
theorem dX11_counted_29 : decode cX11_counted 29 = .ok (.getfield 243, 3) := by decide +kernel
theorem dX11_counted_32 : decode cX11_counted 32 = .ok (.goto 8, 3) := by decide +kernel
theorem dX11_counted_35 : decode cX11_counted 35 = .ok (.aload 4, 2) := by decide +kernel
theorem dX11_counted_37 : decode cX11_counted 37 = .ok (.getfield 237, 3) := by decide +kernel
theorem dX11_counted_40 : decode cX11_counted 40 = .ok (.astore 5, 2) := by decide +kernel
theorem dX11_counted_42 : decode cX11_counted 42 = .ok (.aload_n 0, 1) := by decide +kernel
theorem dX11_counted_43 : decode cX11_counted 43 = .ok (.getfield 26, 3) := by decide +kernel
theorem dX11_counted_46 : decode cX11_counted 46 = .ok (.getfield 91, 3) := by decide +kernel
theorem dX11_counted_49 : decode cX11_counted 49 = .ok (.iload_n 2, 1) := by decide +kernel
theorem dX11_counted_50 : decode cX11_counted 50 = .ok (.bipush 7, 2) := by decide +kernel
theorem dX11_counted_52 : decode cX11_counted 52 = .ok (.imul, 1) := by decide +kernel
theorem dX11_counted_53 : decode cX11_counted 53 = .ok (.bipush 7, 2) := by decide +kernel
theorem dX11_counted_55 : decode cX11_counted 55 = .ok (.iadd, 1) := by decide +kernel
theorem dX11_counted_56 : decode cX11_counted 56 = .ok (.invokevirtual 234, 3) := by decide +kernel
theorem dX11_counted_59 : decode cX11_counted 59 = .ok (.istore 6, 2) := by decide +kernel
theorem dX11_counted_61 : decode cX11_counted 61 = .ok (.iconst 0, 1) := by decide +kernel
theorem dX11_counted_62 : decode cX11_counted 62 = .ok (.istore 7, 2) := by decide +kernel
theorem dX11_counted_64 : decode cX11_counted 64 = .ok (.aload_n 0, 1) := by decide +kernel
theorem dX11_counted_65 : decode cX11_counted 65 = .ok (.getfield 26, 3) := by decide +kernel
theorem dX11_counted_68 : decode cX11_counted 68 = .ok (.getfield 91, 3) := by decide +kernel
theorem dX11_counted_71 : decode cX11_counted 71 = .ok (.iload_n 2, 1) := by decide +kernel
theorem dX11_counted_72 : decode cX11_counted 72 = .ok (.bipush 7, 2) := by decide +kernel
theorem dX11_counted_74 : decode cX11_counted 74 = .ok (.imul, 1) := by decide +kernel
theorem dX11_counted_75 : decode cX11_counted 75 = .ok (.invokevirtual 234, 3) := by decide +kernel
theorem dX11_counted_78 : decode cX11_counted 78 = .ok (.istore 8, 2) := by decide +kernel
theorem dX11_counted_80 : decode cX11_counted 80 = .ok (.iload 8, 2) := by decide +kernel
theorem dX11_counted_82 : decode cX11_counted 82 = .ok (.iload 6, 2) := by decide +kernel
theorem dX11_counted_84 : decode cX11_counted 84 = .ok (.if_icmp .ge 37, 3) := by decide +kernel
theorem dX11_counted_87 : decode cX11_counted 87 = .ok (.aload 5, 2) := by decide +kernel
theorem dX11_counted_89 : decode cX11_counted 89 = .ok (.iload 8, 2) := by decide +kernel
theorem dX11_counted_91 : decode cX11_counted 91 = .ok (.iaload, 1) := by decide +kernel
theorem dX11_counted_92 : decode cX11_counted 92 = .ok (.bipush (-2), 2) := by decide +kernel
theorem dX11_counted_94 : decode cX11_counted 94 = .ok (.if_icmp .eq 21, 3) := by decide +kernel
theorem dX11_counted_97 : decode cX11_counted 97 = .ok (.aload_n 0, 1) := by decide +kernel
theorem dX11_counted_98 : decode cX11_counted 98 = .ok (.getfield 26, 3) := by decide +kernel
theorem dX11_counted_101 : decode cX11_counted 101 = .ok (.aload 5, 2) := by decide +kernel
theorem dX11_counted_103 : decode cX11_counted 103 = .ok (.iload 8, 2) := by decide +kernel
theorem dX11_counted_105 : decode cX11_counted 105 = .ok (.iaload, 1) := by decide +kernel
theorem dX11_counted_106 : decode cX11_counted 106 = .ok (.invokevirtual 255, 3) := by decide +kernel
theorem dX11_counted_109 : decode cX11_counted 109 = .ok (.ifCond .eq 6, 3) := by decide +kernel
theorem dX11_counted_112 : decode cX11_counted 112 = .ok (.iinc 7 1, 3) := by decide +kernel
theorem dX11_counted_115 : decode cX11_counted 115 = .ok (.iinc 8 1, 3) := by decide +kernel
theorem dX11_counted_118 : decode cX11_counted 118 = .ok (.goto (-38), 3) := by decide +kernel
theorem dX11_counted_121 : decode cX11_counted 121 = .ok (.iload 7, 2) := by decide +kernel
theorem dX11_counted_123 : decode cX11_counted 123 = .ok (.ireturn, 1) := by decide +kernel
set_option maxRecDepth 20000 in
theorem ggX11_pay_X11_isWorker : GoodIn wsX11_pay wsX11_isWorker := goodIn_r _ [6] (by decide +kernel) (by decide +kernel)
set_option maxRecDepth 20000 in
theorem gX11_pay_X11_isWorker : GoodIn wsX11_pay (va_wsS RX11 190 yX11_isWorker wsX11_isWorker) := goodIn_app (goodIn_of _ (by decide +kernel)) ggX11_pay_X11_isWorker
set_option maxRecDepth 20000 in
theorem ggX11_pay_X11_isWeek : GoodIn wsX11_pay wsX11_isWeek := goodIn_r _ [9] (by decide +kernel) (by decide +kernel)
set_option maxRecDepth 20000 in
theorem gX11_pay_X11_isWeek : GoodIn wsX11_pay (va_wsS RX11 252 yX11_isWeek wsX11_isWeek) := goodIn_app (goodIn_of _ (by decide +kernel)) ggX11_pay_X11_isWeek
set_option maxRecDepth 20000 in
theorem ggX11_pay_X11_sheetOf : GoodIn wsX11_pay wsX11_sheetOf := goodIn_r _ [13, 14, 15, 16, 17, 18, 19, 20, 21, 22, 23, 24, 25, 26, 27, 28, 29, 30, 31, 32, 33, 34, 35, 36, 37, 38, 39, 40, 41, 42, 43, 44, 45, 46, 47, 48, 49, 50, 51, 52, 53, 54, 55, 56, 57, 58, 59, 60, 61, 62, 63, 64, 65, 66, 67, 68, 69, 70, 71, 72, 73, 74, 75, 76, 77, 78, 79, 80, 81, 82, 83, 84, 85, 86, 87, 88, 89, 90, 91, 92, 93, 94, 95, 96, 97, 98, 99, 100, 101, 102, 103, 104, 105, 106, 107, 108, 109, 110, 111, 112, 113, 114, 115, 116, 117, 118, 119, 120, 121, 122, 123, 124, 125, 126, 127, 128, 129, 130, 131, 132, 133, 134, 135, 136, 137, 138, 139, 140, 141, 142, 143, 144, 145, 146, 147, 148, 149, 150, 151, 152, 153, 154, 155, 156, 157, 158, 159, 160, 161, 162, 163, 164, 165, 166, 167, 168, 169, 170, 171, 172, 173, 174, 175, 176, 177, 178, 179, 180, 181, 182, 183, 184, 185, 186, 187, 188, 189, 190, 191, 192, 193, 194, 195, 196, 197, 198, 199, 200, 201, 202, 203, 204, 205, 206, 207, 208, 209, 210, 211, 212, 213, 214, 215, 216, 217, 218, 219, 220, 221, 222, 223, 224, 225, 226, 227, 228, 229, 230, 231, 232, 233, 234, 235, 236, 237, 238, 239, 240, 241, 264, 265, 266, 267, 268, 269, 270, 271, 272, 273, 250, 251, 252, 253, 254, 255, 256, 257, 258, 259, 260, 261, 262, 263, 274, 275, 276, 277, 278, 279, 280, 281, 282, 283, 284, 285, 286, 287, 288, 289, 290, 291, 292, 293, 294, 295, 296, 297, 298, 299, 300, 301, 302, 303, 304, 305, 306, 307, 308, 309, 310, 311, 312, 313] (by decide +kernel) (by decide +kernel)
set_option maxRecDepth 20000 in
theorem gX11_pay_X11_sheetOf : GoodIn wsX11_pay (wsV RX11 215 RX11 yX11_sheetOf wsX11_sheetOf) := goodIn_app (goodIn_of _ (by decide +kernel)) ggX11_pay_X11_sheetOf
set_option maxRecDepth 20000 in
theorem ggX11_pay_X11_payOfDays : GoodIn wsX11_pay wsX11_payOfDays := goodIn_r _ [245, 17, 246, 247, 248, 61, 62, 63, 64, 65, 66, 67, 68, 69, 70, 249, 174, 175, 44, 176, 150, 177, 264, 265, 266, 267, 268, 269, 270, 271, 272, 273, 277, 278, 279, 280, 281, 282, 283, 284, 285, 286, 290, 291, 292, 293, 294, 309, 310, 311, 312, 313] (by decide +kernel) (by decide +kernel)
set_option maxRecDepth 20000 in
theorem gX11_pay_X11_payOfDays : GoodIn wsX11_pay (wsV RX11 258 RX11 yX11_payOfDays wsX11_payOfDays) := goodIn_app (goodIn_of _ (by decide +kernel)) ggX11_pay_X11_payOfDays
theorem dX11_pay_0 : decode cX11_pay 0 = .ok (.iload_n 1, 1) := by decide +kernel
theorem dX11_pay_1 : decode cX11_pay 1 = .ok (.invokestatic 190, 3) := by decide +kernel
theorem dX11_pay_4 : decode cX11_pay 4 = .ok (.ifCond .eq 10, 3) := by decide +kernel
theorem dX11_pay_7 : decode cX11_pay 7 = .ok (.iload_n 2, 1) := by decide +kernel
theorem dX11_pay_8 : decode cX11_pay 8 = .ok (.invokestatic 252, 3) := by decide +kernel
theorem dX11_pay_11 : decode cX11_pay 11 = .ok (.ifCond .ne 5, 3) := by decide +kernel
theorem dX11_pay_14 : decode cX11_pay 14 = .ok (.iconst (-1), 1) := by decide +kernel
theorem dX11_pay_15 : decode cX11_pay 15 = .ok (.ireturn, 1) := by decide +kernel
theorem dX11_pay_16 : decode cX11_pay 16 = .ok (.aload_n 0, 1) := by decide +kernel
theorem dX11_pay_17 : decode cX11_pay 17 = .ok (.iload_n 1, 1) := by decide +kernel
theorem dX11_pay_18 : decode cX11_pay 18 = .ok (.invokevirtual 215, 3) := by decide +kernel
theorem dX11_pay_21 : decode cX11_pay 21 = .ok (.astore 4, 2) := by decide +kernel
theorem dX11_pay_23 : decode cX11_pay 23 = .ok (.iload_n 2, 1) := by decide +kernel
theorem dX11_pay_24 : decode cX11_pay 24 = .ok (.bipush 7, 2) := by decide +kernel
theorem dX11_pay_26 : decode cX11_pay 26 = .ok (.imul, 1) := by decide +kernel
theorem dX11_pay_27 : decode cX11_pay 27 = .ok (.istore 5, 2) := by decide +kernel
theorem dX11_pay_29 : decode cX11_pay 29 = .ok (.aload_n 0, 1) := by decide +kernel
theorem dX11_pay_30 : decode cX11_pay 30 = .ok (.iload_n 3, 1) := by decide +kernel
theorem dX11_pay_31 : decode cX11_pay 31 = .ok (.ifCond .eq 11, 3) := by decide +kernel
theorem dX11_pay_34 : decode cX11_pay 34 = .ok (.aload 4, 2) := by decide +kernel
theorem dX11_pay_36 : decode cX11_pay 36 = .ok (.getfield 243, 3) := by decide +kernel
theorem dX11_pay_39 : decode cX11_pay 39 = .ok (.goto 8, 3) := by decide +kernel
theorem dX11_pay_42 : decode cX11_pay 42 = .ok (.aload 4, 2) := by decide +kernel
theorem dX11_pay_44 : decode cX11_pay 44 = .ok (.getfield 237, 3) := by decide +kernel
theorem dX11_pay_47 : decode cX11_pay 47 = .ok (.iload 5, 2) := by decide +kernel
theorem dX11_pay_49 : decode cX11_pay 49 = .ok (.iload 5, 2) := by decide +kernel
theorem dX11_pay_51 : decode cX11_pay 51 = .ok (.bipush 7, 2) := by decide +kernel
theorem dX11_pay_53 : decode cX11_pay 53 = .ok (.iadd, 1) := by decide +kernel
theorem dX11_pay_54 : decode cX11_pay 54 = .ok (.invokevirtual 258, 3) := by decide +kernel
theorem dX11_pay_57 : decode cX11_pay 57 = .ok (.ireturn, 1) := by decide +kernel
set_option maxRecDepth 20000 in
theorem ggX11_dayPay_X11_isWorker : GoodIn wsX11_dayPay wsX11_isWorker := goodIn_r _ [5] (by decide +kernel) (by decide +kernel)
set_option maxRecDepth 20000 in
theorem gX11_dayPay_X11_isWorker : GoodIn wsX11_dayPay (va_wsS RX11 190 yX11_isWorker wsX11_isWorker) := goodIn_app (goodIn_of _ (by decide +kernel)) ggX11_dayPay_X11_isWorker
set_option maxRecDepth 20000 in
theorem ggX11_dayPay_X11_sheetOf : GoodIn wsX11_dayPay wsX11_sheetOf := goodIn_r _ [9, 10, 11, 12, 13, 14, 15, 16, 17, 18, 19, 20, 21, 22, 23, 24, 25, 26, 27, 28, 29, 30, 31, 32, 33, 34, 35, 36, 37, 38, 39, 40, 41, 42, 43, 44, 45, 46, 47, 48, 49, 50, 51, 52, 53, 54, 55, 56, 57, 58, 59, 60, 61, 62, 63, 64, 65, 66, 67, 68, 69, 70, 71, 72, 73, 74, 75, 76, 77, 78, 79, 80, 81, 82, 83, 84, 85, 86, 87, 88, 89, 90, 91, 92, 93, 94, 95, 96, 97, 98, 99, 100, 101, 102, 103, 104, 105, 106, 107, 108, 109, 110, 111, 112, 113, 114, 115, 116, 117, 118, 119, 120, 121, 122, 123, 124, 125, 126, 127, 128, 129, 130, 131, 132, 133, 134, 135, 136, 137, 138, 139, 140, 141, 142, 143, 144, 145, 146, 147, 148, 149, 150, 151, 152, 153, 154, 155, 156, 157, 158, 159, 160, 161, 162, 163, 164, 165, 166, 167, 168, 169, 170, 171, 172, 173, 174, 175, 176, 177, 178, 179, 180, 181, 182, 183, 184, 185, 186, 187, 188, 189, 190, 191, 192, 193, 194, 195, 196, 197, 198, 199, 200, 201, 202, 203, 204, 205, 206, 207, 208, 209, 210, 211, 212, 213, 214, 215, 216, 217, 218, 219, 220, 221, 222, 223, 224, 225, 226, 227, 228, 229, 230, 231, 232, 233, 234, 235, 236, 237, 260, 261, 262, 263, 264, 265, 266, 267, 268, 269, 246, 247, 248, 249, 250, 251, 252, 253, 254, 255, 256, 257, 258, 259, 270, 271, 272, 273, 274, 275, 276, 277, 278, 279, 280, 281, 282, 283, 284, 285, 286, 287, 288, 289, 290, 291, 292, 293, 294, 295, 296, 297, 298, 299, 300, 301, 302, 303, 304, 305, 306, 307, 308, 309] (by decide +kernel) (by decide +kernel)
set_option maxRecDepth 20000 in
theorem gX11_dayPay_X11_sheetOf : GoodIn wsX11_dayPay (wsV RX11 215 RX11 yX11_sheetOf wsX11_sheetOf) := goodIn_app (goodIn_of _ (by decide +kernel)) ggX11_dayPay_X11_sheetOf
set_option maxRecDepth 20000 in
theorem ggX11_dayPay_X11_payOfDays : GoodIn wsX11_dayPay wsX11_payOfDays := goodIn_r _ [241, 13, 242, 243, 244, 57, 58, 59, 60, 61, 62, 63, 64, 65, 66, 245, 170, 171, 40, 172, 146, 173, 260, 261, 262, 263, 264, 265, 266, 267, 268, 269, 273, 274, 275, 276, 277, 278, 279, 280, 281, 282, 286, 287, 288, 289, 290, 305, 306, 307, 308, 309] (by decide +kernel) (by decide +kernel)
set_option maxRecDepth 20000 in
theorem gX11_dayPay_X11_payOfDays : GoodIn wsX11_dayPay (wsV RX11 258 RX11 yX11_payOfDays wsX11_payOfDays) := goodIn_app (goodIn_of _ (by decide +kernel)) ggX11_dayPay_X11_payOfDays
theorem dX11_dayPay_0 : decode cX11_dayPay 0 = .ok (.iload_n 1, 1) := by decide +kernel
theorem dX11_dayPay_1 : decode cX11_dayPay 1 = .ok (.invokestatic 190, 3) := by decide +kernel
theorem dX11_dayPay_4 : decode cX11_dayPay 4 = .ok (.ifCond .eq 13, 3) := by decide +kernel
theorem dX11_dayPay_7 : decode cX11_dayPay 7 = .ok (.iload_n 2, 1) := by decide +kernel
theorem dX11_dayPay_8 : decode cX11_dayPay 8 = .ok (.ifCond .lt 9, 3) := by decide +kernel
theorem dX11_dayPay_11 : decode cX11_dayPay 11 = .ok (.iload_n 2, 1) := by decide +kernel
theorem dX11_dayPay_12 : decode cX11_dayPay 12 = .ok (.bipush 28, 2) := by decide +kernel
theorem dX11_dayPay_14 : decode cX11_dayPay 14 = .ok (.if_icmp .lt 5, 3) := by decide +kernel
theorem dX11_dayPay_17 : decode cX11_dayPay 17 = .ok (.iconst (-1), 1) := by decide +kernel
theorem dX11_dayPay_18 : decode cX11_dayPay 18 = .ok (.ireturn, 1) := by decide +kernel
theorem dX11_dayPay_19 : decode cX11_dayPay 19 = .ok (.aload_n 0, 1) := by decide +kernel
theorem dX11_dayPay_20 : decode cX11_dayPay 20 = .ok (.aload_n 0, 1) := by decide +kernel
theorem dX11_dayPay_21 : decode cX11_dayPay 21 = .ok (.iload_n 1, 1) := by decide +kernel
theorem dX11_dayPay_22 : decode cX11_dayPay 22 = .ok (.invokevirtual 215, 3) := by decide +kernel
theorem dX11_dayPay_25 : decode cX11_dayPay 25 = .ok (.getfield 237, 3) := by decide +kernel
theorem dX11_dayPay_28 : decode cX11_dayPay 28 = .ok (.iload_n 2, 1) := by decide +kernel
theorem dX11_dayPay_29 : decode cX11_dayPay 29 = .ok (.iload_n 2, 1) := by decide +kernel
theorem dX11_dayPay_30 : decode cX11_dayPay 30 = .ok (.iconst 1, 1) := by decide +kernel
theorem dX11_dayPay_31 : decode cX11_dayPay 31 = .ok (.iadd, 1) := by decide +kernel
theorem dX11_dayPay_32 : decode cX11_dayPay 32 = .ok (.invokevirtual 258, 3) := by decide +kernel
theorem dX11_dayPay_35 : decode cX11_dayPay 35 = .ok (.ireturn, 1) := by decide +kernel
set_option maxRecDepth 20000 in
theorem ggX11_payOfDays_X2_quartersAhead : GoodIn wsX11_payOfDays wsX2_quartersAhead := goodIn_r _ [8, 9, 10, 11, 7, 12, 13, 14, 42, 43, 44, 45, 46] (by decide +kernel) (by decide +kernel)
set_option maxRecDepth 20000 in
theorem gX11_payOfDays_X2_quartersAhead : GoodIn wsX11_payOfDays (wsV RX11 234 RX2 yX2_quartersAhead wsX2_quartersAhead) := goodIn_app (goodIn_of _ (by decide +kernel)) ggX11_payOfDays_X2_quartersAhead
set_option maxRecDepth 20000 in
theorem ggX11_payOfDays_X7_hundredthsUnder : GoodIn wsX11_payOfDays wsX7_hundredthsUnder := goodIn_r _ [19, 20, 21, 32, 33, 34, 35, 36, 37, 38, 39, 40, 41, 47, 48, 49, 50, 51] (by decide +kernel) (by decide +kernel)
set_option maxRecDepth 20000 in
theorem gX11_payOfDays_X7_hundredthsUnder : GoodIn wsX11_payOfDays (wsV RX11 262 RX7 yX7_hundredthsUnder wsX7_hundredthsUnder) := goodIn_app (goodIn_of _ (by decide +kernel)) ggX11_payOfDays_X7_hundredthsUnder
theorem dX11_payOfDays_0 : decode cX11_payOfDays 0 = .ok (.aload_n 0, 1) := by decide +kernel
theorem dX11_payOfDays_1 : decode cX11_payOfDays 1 = .ok (.getfield 26, 3) := by decide +kernel
theorem dX11_payOfDays_4 : decode cX11_payOfDays 4 = .ok (.getfield 91, 3) := by decide +kernel
theorem dX11_payOfDays_7 : decode cX11_payOfDays 7 = .ok (.iload_n 3, 1) := by decide +kernel
theorem dX11_payOfDays_8 : decode cX11_payOfDays 8 = .ok (.invokevirtual 234, 3) := by decide +kernel
theorem dX11_payOfDays_11 : decode cX11_payOfDays 11 = .ok (.istore 4, 2) := by decide +kernel
theorem dX11_payOfDays_13 : decode cX11_payOfDays 13 = .ok (.iconst 0, 1) := by decide +kernel
theorem dX11_payOfDays_14 : decode cX11_payOfDays 14 = .ok (.istore 5, 2) := by decide +kernel
theorem dX11_payOfDays_16 : decode cX11_payOfDays 16 = .ok (.aload_n 0, 1) := by decide +kernel
theorem dX11_payOfDays_17 : decode cX11_payOfDays 17 = .ok (.getfield 26, 3) := by decide +kernel
theorem dX11_payOfDays_20 : decode cX11_payOfDays 20 = .ok (.getfield 91, 3) := by decide +kernel
theorem dX11_payOfDays_23 : decode cX11_payOfDays 23 = .ok (.iload_n 2, 1) := by decide +kernel
theorem dX11_payOfDays_24 : decode cX11_payOfDays 24 = .ok (.invokevirtual 234, 3) := by decide +kernel
theorem dX11_payOfDays_27 : decode cX11_payOfDays 27 = .ok (.istore 6, 2) := by decide +kernel
theorem dX11_payOfDays_29 : decode cX11_payOfDays 29 = .ok (.iload 6, 2) := by decide +kernel
theorem dX11_payOfDays_31 : decode cX11_payOfDays 31 = .ok (.iload 4, 2) := by decide +kernel
theorem dX11_payOfDays_33 : decode cX11_payOfDays 33 = .ok (.if_icmp .ge 45, 3) := by decide +kernel
theorem dX11_payOfDays_36 : decode cX11_payOfDays 36 = .ok (.aload_n 1, 1) := by decide +kernel
theorem dX11_payOfDays_37 : decode cX11_payOfDays 37 = .ok (.iload 6, 2) := by decide +kernel
theorem dX11_payOfDays_39 : decode cX11_payOfDays 39 = .ok (.iaload, 1) := by decide +kernel
theorem dX11_payOfDays_40 : decode cX11_payOfDays 40 = .ok (.bipush (-2), 2) := by decide +kernel
theorem dX11_payOfDays_42 : decode cX11_payOfDays 42 = .ok (.if_icmp .eq 30, 3) := by decide +kernel
theorem dX11_payOfDays_45 : decode cX11_payOfDays 45 = .ok (.iload 5, 2) := by decide +kernel
theorem dX11_payOfDays_47 : decode cX11_payOfDays 47 = .ok (.aload_n 0, 1) := by decide +kernel
theorem dX11_payOfDays_48 : decode cX11_payOfDays 48 = .ok (.getfield 26, 3) := by decide +kernel
theorem dX11_payOfDays_51 : decode cX11_payOfDays 51 = .ok (.getfield 121, 3) := by decide +kernel
theorem dX11_payOfDays_54 : decode cX11_payOfDays 54 = .ok (.bipush 100, 2) := by decide +kernel
theorem dX11_payOfDays_56 : decode cX11_payOfDays 56 = .ok (.aload_n 0, 1) := by decide +kernel
theorem dX11_payOfDays_57 : decode cX11_payOfDays 57 = .ok (.getfield 26, 3) := by decide +kernel
theorem dX11_payOfDays_60 : decode cX11_payOfDays 60 = .ok (.aload_n 1, 1) := by decide +kernel
theorem dX11_payOfDays_61 : decode cX11_payOfDays 61 = .ok (.iload 6, 2) := by decide +kernel
theorem dX11_payOfDays_63 : decode cX11_payOfDays 63 = .ok (.iaload, 1) := by decide +kernel
theorem dX11_payOfDays_64 : decode cX11_payOfDays 64 = .ok (.invokevirtual 262, 3) := by decide +kernel
theorem dX11_payOfDays_67 : decode cX11_payOfDays 67 = .ok (.iadd, 1) := by decide +kernel
theorem dX11_payOfDays_68 : decode cX11_payOfDays 68 = .ok (.imul, 1) := by decide +kernel
theorem dX11_payOfDays_69 : decode cX11_payOfDays 69 = .ok (.iadd, 1) := by decide +kernel
theorem dX11_payOfDays_70 : decode cX11_payOfDays 70 = .ok (.istore 5, 2) := by decide +kernel
theorem dX11_payOfDays_72 : decode cX11_payOfDays 72 = .ok (.iinc 6 1, 3) := by decide +kernel
theorem dX11_payOfDays_75 : decode cX11_payOfDays 75 = .ok (.goto (-46), 3) := by decide +kernel
theorem dX11_payOfDays_78 : decode cX11_payOfDays 78 = .ok (.iload 5, 2) := by decide +kernel
theorem dX11_payOfDays_80 : decode cX11_payOfDays 80 = .ok (.ireturn, 1) := by decide +kernel
set_option maxRecDepth 20000 in
theorem ggX11_total_X11_sheetOf : GoodIn wsX11_total wsX11_sheetOf := goodIn_r _ [5, 6, 7, 8, 9, 10, 11, 12, 13, 14, 15, 16, 17, 18, 19, 20, 21, 22, 23, 24, 25, 26, 27, 28, 29, 30, 31, 32, 33, 34, 35, 36, 37, 38, 39, 40, 41, 42, 43, 44, 45, 46, 47, 48, 49, 50, 51, 52, 53, 54, 55, 56, 57, 58, 59, 60, 61, 62, 63, 64, 65, 66, 67, 68, 69, 70, 71, 72, 73, 74, 75, 76, 77, 78, 79, 80, 81, 82, 83, 84, 85, 86, 87, 88, 89, 90, 91, 92, 93, 94, 95, 96, 97, 98, 99, 100, 101, 102, 103, 104, 105, 106, 107, 108, 109, 110, 111, 112, 113, 114, 115, 116, 117, 118, 119, 120, 121, 122, 123, 124, 125, 126, 127, 128, 129, 130, 131, 132, 133, 134, 135, 136, 137, 138, 139, 140, 141, 142, 143, 144, 145, 146, 147, 148, 149, 150, 151, 152, 153, 154, 155, 156, 157, 158, 159, 160, 161, 162, 163, 164, 165, 166, 167, 168, 169, 170, 171, 172, 173, 174, 175, 176, 177, 178, 179, 180, 181, 182, 183, 184, 185, 186, 187, 188, 189, 190, 191, 192, 193, 194, 195, 196, 197, 198, 199, 200, 201, 202, 203, 204, 205, 206, 207, 208, 209, 210, 211, 212, 213, 214, 215, 216, 217, 218, 219, 220, 221, 222, 223, 224, 225, 226, 227, 228, 229, 230, 231, 232, 233, 238, 239, 240, 241, 242, 243, 244, 245, 246, 247, 248, 249, 250, 251, 252, 253, 254, 255, 256, 257, 258, 259, 260, 261, 262, 263, 264, 265, 266, 267, 268, 269, 270, 271, 272, 273, 274, 275, 276, 277, 278, 279, 280, 281, 282, 283, 284, 285, 286, 287, 288, 289, 290, 291, 292, 293, 294, 295, 296, 297, 298, 299, 300, 301] (by decide +kernel) (by decide +kernel)
set_option maxRecDepth 20000 in
theorem gX11_total_X11_sheetOf : GoodIn wsX11_total (wsV RX11 215 RX11 yX11_sheetOf wsX11_sheetOf) := goodIn_app (goodIn_of _ (by decide +kernel)) ggX11_total_X11_sheetOf
set_option maxRecDepth 20000 in
theorem ggX11_total_X8_allPay : GoodIn wsX11_total wsX8_allPay := goodIn_r _ [237, 99, 248, 249, 250, 251, 252, 253, 254, 255, 256, 257, 258, 259, 260, 261] (by decide +kernel) (by decide +kernel)
set_option maxRecDepth 20000 in
theorem gX11_total_X8_allPay : GoodIn wsX11_total (wsV RX11 265 RX8 yX8_allPay wsX8_allPay) := goodIn_app (goodIn_of _ (by decide +kernel)) ggX11_total_X8_allPay
theorem dX11_total_0 : decode cX11_total 0 = .ok (.iconst 0, 1) := by decide +kernel
theorem dX11_total_1 : decode cX11_total 1 = .ok (.istore_n 1, 1) := by decide +kernel
theorem dX11_total_2 : decode cX11_total 2 = .ok (.iconst 0, 1) := by decide +kernel
theorem dX11_total_3 : decode cX11_total 3 = .ok (.istore_n 2, 1) := by decide +kernel
theorem dX11_total_4 : decode cX11_total 4 = .ok (.iload_n 2, 1) := by decide +kernel
theorem dX11_total_5 : decode cX11_total 5 = .ok (.iconst 4, 1) := by decide +kernel
theorem dX11_total_6 : decode cX11_total 6 = .ok (.if_icmp .ge 20, 3) := by decide +kernel
theorem dX11_total_9 : decode cX11_total 9 = .ok (.iload_n 1, 1) := by decide +kernel
theorem dX11_total_10 : decode cX11_total 10 = .ok (.aload_n 0, 1) := by decide +kernel
theorem dX11_total_11 : decode cX11_total 11 = .ok (.iload_n 2, 1) := by decide +kernel
theorem dX11_total_12 : decode cX11_total 12 = .ok (.invokevirtual 215, 3) := by decide +kernel
theorem dX11_total_15 : decode cX11_total 15 = .ok (.invokevirtual 265, 3) := by decide +kernel
theorem dX11_total_18 : decode cX11_total 18 = .ok (.iadd, 1) := by decide +kernel
theorem dX11_total_19 : decode cX11_total 19 = .ok (.istore_n 1, 1) := by decide +kernel
theorem dX11_total_20 : decode cX11_total 20 = .ok (.iinc 2 1, 3) := by decide +kernel
theorem dX11_total_23 : decode cX11_total 23 = .ok (.goto (-19), 3) := by decide +kernel
theorem dX11_total_26 : decode cX11_total 26 = .ok (.iload_n 1, 1) := by decide +kernel
theorem dX11_total_27 : decode cX11_total 27 = .ok (.ireturn, 1) := by decide +kernel
set_option maxRecDepth 20000 in
theorem ggX11_would_X11_freeMoment : GoodIn wsX11_would wsX11_freeMoment := goodIn_r _ [6, 7, 8, 9, 10, 11, 5, 12, 13, 14, 15, 16, 17, 18, 19, 20, 21, 22, 23, 24, 25, 26, 27, 28, 29, 30, 31, 277, 278, 279, 280, 281, 282, 283, 284, 285, 286, 287, 288, 289, 290, 291, 292, 293, 294, 295, 296, 297, 298, 299, 300, 301, 302, 303, 304] (by decide +kernel) (by decide +kernel)
set_option maxRecDepth 20000 in
theorem gX11_would_X11_freeMoment : GoodIn wsX11_would (wsV RX11 175 RX11 yX11_freeMoment wsX11_freeMoment) := goodIn_app (goodIn_of _ (by decide +kernel)) ggX11_would_X11_freeMoment
set_option maxRecDepth 20000 in
theorem ggX11_would_X11_payWith : GoodIn wsX11_would wsX11_payWith := goodIn_r _ [35, 36, 9, 37, 7, 38, 39, 40, 41, 24, 42, 26, 31, 43, 44, 45, 46, 47, 48, 49, 50, 51, 52, 53, 54, 55, 56, 57, 58, 59, 60, 61, 62, 63, 64, 65, 66, 67, 68, 69, 70, 71, 72, 73, 74, 75, 76, 77, 78, 79, 80, 81, 82, 83, 84, 85, 86, 87, 88, 89, 90, 91, 16, 92, 93, 94, 95, 96, 97, 20, 98, 99, 100, 101, 102, 103, 104, 105, 106, 107, 108, 109, 110, 111, 112, 113, 114, 115, 116, 117, 118, 119, 120, 121, 122, 123, 124, 125, 126, 127, 128, 129, 130, 131, 132, 133, 134, 135, 136, 137, 138, 139, 140, 141, 142, 143, 144, 145, 146, 147, 148, 149, 150, 151, 152, 153, 154, 155, 156, 157, 158, 159, 160, 161, 162, 163, 164, 165, 166, 167, 168, 169, 18, 19, 170, 171, 172, 173, 174, 175, 176, 177, 178, 179, 180, 181, 182, 183, 184, 185, 186, 187, 188, 189, 190, 191, 192, 193, 194, 195, 196, 197, 198, 199, 200, 201, 202, 203, 204, 205, 206, 207, 208, 209, 210, 211, 212, 213, 214, 215, 216, 217, 218, 219, 220, 221, 222, 223, 224, 225, 226, 227, 228, 229, 230, 231, 232, 233, 234, 235, 236, 237, 238, 239, 240, 241, 242, 243, 244, 245, 246, 247, 248, 249, 250, 251, 252, 253, 254, 255, 256, 257, 258, 259, 260, 261, 262, 263, 264, 265, 266, 267, 268, 269, 270, 277, 278, 279, 280, 281, 282, 283, 284, 285, 286, 302, 303, 304, 305, 306, 307, 308, 309, 310, 311, 312, 313, 314, 315, 316, 317, 318, 319, 320, 321, 287, 288, 289, 290, 291, 292, 293, 294, 295, 296, 297, 298, 299, 300, 301, 322, 323, 324, 325, 326, 327, 328, 329, 330, 331, 332, 333, 334, 335, 336, 337, 338, 339, 340] (by decide +kernel) (by decide +kernel)
set_option maxRecDepth 20000 in
theorem gX11_would_X11_payWith : GoodIn wsX11_would (wsV RX11 270 RX11 yX11_payWith wsX11_payWith) := goodIn_app (goodIn_of _ (by decide +kernel)) ggX11_would_X11_payWith
set_option maxRecDepth 20000 in
theorem ggX11_would_X11_sheetOf : GoodIn wsX11_would wsX11_sheetOf := goodIn_r _ [274, 275, 276, 9, 7, 38, 48, 49, 50, 51, 52, 53, 54, 55, 56, 57, 58, 59, 60, 61, 62, 63, 64, 65, 66, 67, 68, 69, 70, 71, 72, 73, 74, 75, 76, 77, 78, 79, 80, 81, 82, 83, 84, 85, 86, 87, 88, 89, 90, 91, 16, 92, 93, 94, 95, 96, 97, 20, 98, 99, 100, 101, 102, 103, 104, 105, 106, 107, 108, 109, 110, 111, 112, 113, 114, 115, 116, 117, 118, 119, 120, 121, 122, 123, 124, 125, 126, 127, 128, 129, 130, 131, 132, 133, 134, 135, 136, 137, 138, 139, 140, 141, 142, 143, 144, 145, 146, 147, 148, 149, 150, 151, 152, 153, 154, 155, 156, 157, 158, 159, 160, 161, 162, 163, 164, 165, 166, 167, 168, 169, 18, 19, 170, 171, 172, 173, 174, 175, 176, 177, 178, 179, 180, 181, 182, 183, 184, 185, 186, 187, 188, 189, 190, 191, 192, 193, 194, 195, 196, 197, 198, 199, 200, 201, 202, 203, 204, 205, 206, 207, 208, 209, 210, 211, 212, 213, 214, 215, 216, 217, 218, 219, 220, 221, 222, 223, 224, 225, 226, 227, 228, 229, 230, 231, 232, 233, 234, 235, 236, 237, 238, 239, 240, 241, 242, 243, 244, 245, 246, 247, 248, 249, 250, 251, 252, 253, 254, 255, 256, 257, 258, 259, 260, 261, 262, 263, 264, 265, 266, 277, 278, 279, 280, 281, 282, 283, 284, 285, 286, 305, 306, 307, 308, 309, 310, 311, 312, 313, 314, 315, 316, 317, 318, 319, 320, 321, 287, 288, 289, 290, 291, 292, 293, 294, 295, 296, 302, 303, 304, 297, 298, 299, 300, 301, 322, 323, 324, 325, 326, 327, 328, 329, 330, 331, 332, 333, 334, 335, 336, 337, 338, 339, 340] (by decide +kernel) (by decide +kernel)
set_option maxRecDepth 20000 in
theorem gX11_would_X11_sheetOf : GoodIn wsX11_would (wsV RX11 215 RX11 yX11_sheetOf wsX11_sheetOf) := goodIn_app (goodIn_of _ (by decide +kernel)) ggX11_would_X11_sheetOf
set_option maxRecDepth 20000 in
theorem ggX11_would_X8_allPay : GoodIn wsX11_would wsX8_allPay := goodIn_r _ [270, 134, 305, 306, 307, 308, 309, 310, 311, 312, 313, 314, 315, 316, 317, 318] (by decide +kernel) (by decide +kernel)
set_option maxRecDepth 20000 in
theorem gX11_would_X8_allPay : GoodIn wsX11_would (wsV RX11 265 RX8 yX8_allPay wsX8_allPay) := goodIn_app (goodIn_of _ (by decide +kernel)) ggX11_would_X8_allPay
theorem dX11_would_0 : decode cX11_would 0 = .ok (.aload_n 0, 1) := by decide +kernel
theorem dX11_would_1 : decode cX11_would 1 = .ok (.iload_n 1, 1) := by decide +kernel
theorem dX11_would_2 : decode cX11_would 2 = .ok (.iload_n 2, 1) := by decide +kernel
theorem dX11_would_3 : decode cX11_would 3 = .ok (.iload_n 3, 1) := by decide +kernel
theorem dX11_would_4 : decode cX11_would 4 = .ok (.iload 4, 2) := by decide +kernel
theorem dX11_would_6 : decode cX11_would 6 = .ok (.iload 5, 2) := by decide +kernel
theorem dX11_would_8 : decode cX11_would 8 = .ok (.invokevirtual 175, 3) := by decide +kernel
theorem dX11_would_11 : decode cX11_would 11 = .ok (.istore 6, 2) := by decide +kernel
theorem dX11_would_13 : decode cX11_would 13 = .ok (.iload 6, 2) := by decide +kernel
theorem dX11_would_15 : decode cX11_would 15 = .ok (.iconst (-1), 1) := by decide +kernel
theorem dX11_would_16 : decode cX11_would 16 = .ok (.if_icmp .ne 7, 3) := by decide +kernel
theorem dX11_would_19 : decode cX11_would 19 = .ok (.ldc_w 269, 3) := by decide +kernel
theorem dX11_would_22 : decode cX11_would 22 = .ok (.ireturn, 1) := by decide +kernel
theorem dX11_would_23 : decode cX11_would 23 = .ok (.aload_n 0, 1) := by decide +kernel
theorem dX11_would_24 : decode cX11_would 24 = .ok (.iload_n 1, 1) := by decide +kernel
theorem dX11_would_25 : decode cX11_would 25 = .ok (.iload_n 2, 1) := by decide +kernel
theorem dX11_would_26 : decode cX11_would 26 = .ok (.iload 6, 2) := by decide +kernel
theorem dX11_would_28 : decode cX11_would 28 = .ok (.invokevirtual 270, 3) := by decide +kernel
theorem dX11_would_31 : decode cX11_would 31 = .ok (.aload_n 0, 1) := by decide +kernel
theorem dX11_would_32 : decode cX11_would 32 = .ok (.iload_n 1, 1) := by decide +kernel
theorem dX11_would_33 : decode cX11_would 33 = .ok (.invokevirtual 215, 3) := by decide +kernel
theorem dX11_would_36 : decode cX11_would 36 = .ok (.invokevirtual 265, 3) := by decide +kernel
theorem dX11_would_39 : decode cX11_would 39 = .ok (.isub, 1) := by decide +kernel
theorem dX11_would_40 : decode cX11_would 40 = .ok (.ireturn, 1) := by decide +kernel
set_option maxRecDepth 20000 in
theorem ggX11_dearest_X11_freeMoment : GoodIn wsX11_dearest wsX11_freeMoment := goodIn_r _ [5, 6, 7, 8, 9, 10, 4, 11, 12, 13, 14, 15, 16, 17, 18, 19, 20, 21, 22, 23, 24, 25, 26, 27, 28, 29, 30, 270, 271, 272, 273, 274, 275, 276, 277, 278, 279, 280, 281, 282, 283, 284, 285, 286, 287, 288, 289, 290, 291, 292, 293, 294, 295, 296, 297] (by decide +kernel) (by decide +kernel)
set_option maxRecDepth 20000 in
theorem gX11_dearest_X11_freeMoment : GoodIn wsX11_dearest (wsV RX11 175 RX11 yX11_freeMoment wsX11_freeMoment) := goodIn_app (goodIn_of _ (by decide +kernel)) ggX11_dearest_X11_freeMoment
set_option maxRecDepth 20000 in
theorem ggX11_dearest_X11_payWith : GoodIn wsX11_dearest wsX11_payWith := goodIn_r _ [34, 35, 8, 36, 6, 37, 38, 39, 40, 23, 41, 25, 30, 42, 43, 44, 45, 46, 47, 48, 49, 50, 51, 52, 53, 54, 55, 56, 57, 58, 59, 60, 61, 62, 63, 64, 65, 66, 67, 68, 69, 70, 71, 72, 73, 74, 75, 76, 77, 78, 79, 80, 81, 82, 83, 84, 85, 86, 87, 88, 89, 90, 15, 91, 92, 93, 94, 95, 96, 19, 97, 98, 99, 100, 101, 102, 103, 104, 105, 106, 107, 108, 109, 110, 111, 112, 113, 114, 115, 116, 117, 118, 119, 120, 121, 122, 123, 124, 125, 126, 127, 128, 129, 130, 131, 132, 133, 134, 135, 136, 137, 138, 139, 140, 141, 142, 143, 144, 145, 146, 147, 148, 149, 150, 151, 152, 153, 154, 155, 156, 157, 158, 159, 160, 161, 162, 163, 164, 165, 166, 167, 168, 17, 18, 169, 170, 171, 172, 173, 174, 175, 176, 177, 178, 179, 180, 181, 182, 183, 184, 185, 186, 187, 188, 189, 190, 191, 192, 193, 194, 195, 196, 197, 198, 199, 200, 201, 202, 203, 204, 205, 206, 207, 208, 209, 210, 211, 212, 213, 214, 215, 216, 217, 218, 219, 220, 221, 222, 223, 224, 225, 226, 227, 228, 229, 230, 231, 232, 233, 234, 235, 236, 237, 238, 239, 240, 241, 242, 243, 244, 245, 246, 247, 248, 249, 250, 251, 252, 253, 254, 255, 256, 257, 258, 259, 260, 261, 262, 263, 264, 265, 266, 267, 268, 269, 270, 271, 272, 273, 274, 275, 276, 277, 278, 279, 295, 296, 297, 298, 299, 300, 301, 302, 303, 304, 305, 306, 307, 308, 309, 310, 311, 312, 313, 314, 280, 281, 282, 283, 284, 285, 286, 287, 288, 289, 290, 291, 292, 293, 294, 315, 316, 317, 318, 319, 320, 321, 322, 323, 324, 325, 326, 327, 328, 329, 330, 331, 332, 333] (by decide +kernel) (by decide +kernel)
set_option maxRecDepth 20000 in
theorem gX11_dearest_X11_payWith : GoodIn wsX11_dearest (wsV RX11 270 RX11 yX11_payWith wsX11_payWith) := goodIn_app (goodIn_of _ (by decide +kernel)) ggX11_dearest_X11_payWith
theorem dX11_dearest_0 : decode cX11_dearest 0 = .ok (.iconst (-1), 1) := by decide +kernel
theorem dX11_dearest_1 : decode cX11_dearest 1 = .ok (.istore 4, 2) := by decide +kernel
theorem dX11_dearest_3 : decode cX11_dearest 3 = .ok (.iconst 0, 1) := by decide +kernel
theorem dX11_dearest_4 : decode cX11_dearest 4 = .ok (.istore 5, 2) := by decide +kernel
theorem dX11_dearest_6 : decode cX11_dearest 6 = .ok (.iconst 0, 1) := by decide +kernel
theorem dX11_dearest_7 : decode cX11_dearest 7 = .ok (.istore 6, 2) := by decide +kernel
theorem dX11_dearest_9 : decode cX11_dearest 9 = .ok (.iload 6, 2) := by decide +kernel
theorem dX11_dearest_11 : decode cX11_dearest 11 = .ok (.sipush 1440, 3) := by decide +kernel
theorem dX11_dearest_14 : decode cX11_dearest 14 = .ok (.if_icmp .ge 58, 3) := by decide +kernel
theorem dX11_dearest_17 : decode cX11_dearest 17 = .ok (.aload_n 0, 1) := by decide +kernel
theorem dX11_dearest_18 : decode cX11_dearest 18 = .ok (.iload_n 1, 1) := by decide +kernel
theorem dX11_dearest_19 : decode cX11_dearest 19 = .ok (.iload_n 2, 1) := by decide +kernel
theorem dX11_dearest_20 : decode cX11_dearest 20 = .ok (.iload_n 3, 1) := by decide +kernel
theorem dX11_dearest_21 : decode cX11_dearest 21 = .ok (.iload 6, 2) := by decide +kernel
theorem dX11_dearest_23 : decode cX11_dearest 23 = .ok (.iconst 0, 1) := by decide +kernel
theorem dX11_dearest_24 : decode cX11_dearest 24 = .ok (.invokevirtual 175, 3) := by decide +kernel
theorem dX11_dearest_27 : decode cX11_dearest 27 = .ok (.istore 7, 2) := by decide +kernel
theorem dX11_dearest_29 : decode cX11_dearest 29 = .ok (.iload 7, 2) := by decide +kernel
theorem dX11_dearest_31 : decode cX11_dearest 31 = .ok (.iconst (-1), 1) := by decide +kernel
theorem dX11_dearest_32 : decode cX11_dearest 32 = .ok (.if_icmp .eq 34, 3) := by decide +kernel
theorem dX11_dearest_35 : decode cX11_dearest 35 = .ok (.aload_n 0, 1) := by decide +kernel
theorem dX11_dearest_36 : decode cX11_dearest 36 = .ok (.iload_n 1, 1) := by decide +kernel
theorem dX11_dearest_37 : decode cX11_dearest 37 = .ok (.iload_n 2, 1) := by decide +kernel
theorem dX11_dearest_38 : decode cX11_dearest 38 = .ok (.iload 7, 2) := by decide +kernel
theorem dX11_dearest_40 : decode cX11_dearest 40 = .ok (.invokevirtual 270, 3) := by decide +kernel
theorem dX11_dearest_43 : decode cX11_dearest 43 = .ok (.istore 8, 2) := by decide +kernel
theorem dX11_dearest_45 : decode cX11_dearest 45 = .ok (.iload 4, 2) := by decide +kernel
theorem dX11_dearest_47 : decode cX11_dearest 47 = .ok (.iconst (-1), 1) := by decide +kernel
theorem dX11_dearest_48 : decode cX11_dearest 48 = .ok (.if_icmp .eq 10, 3) := by decide +kernel
theorem dX11_dearest_51 : decode cX11_dearest 51 = .ok (.iload 8, 2) := by decide +kernel
theorem dX11_dearest_53 : decode cX11_dearest 53 = .ok (.iload 5, 2) := by decide +kernel
theorem dX11_dearest_55 : decode cX11_dearest 55 = .ok (.if_icmp .le 11, 3) := by decide +kernel
theorem dX11_dearest_58 : decode cX11_dearest 58 = .ok (.iload 6, 2) := by decide +kernel
theorem dX11_dearest_60 : decode cX11_dearest 60 = .ok (.istore 4, 2) := by decide +kernel
theorem dX11_dearest_62 : decode cX11_dearest 62 = .ok (.iload 8, 2) := by decide +kernel
theorem dX11_dearest_64 : decode cX11_dearest 64 = .ok (.istore 5, 2) := by decide +kernel
theorem dX11_dearest_66 : decode cX11_dearest 66 = .ok (.iinc 6 15, 3) := by decide +kernel
theorem dX11_dearest_69 : decode cX11_dearest 69 = .ok (.goto (-60), 3) := by decide +kernel
theorem dX11_dearest_72 : decode cX11_dearest 72 = .ok (.iload 4, 2) := by decide +kernel
theorem dX11_dearest_74 : decode cX11_dearest 74 = .ok (.ireturn, 1) := by decide +kernel
set_option maxRecDepth 20000 in
theorem ggX11_worth_X11_isPremium : GoodIn wsX11_worth wsX11_isPremium := goodIn_r _ [9, 3, 10, 248, 249, 250, 251, 252, 253, 254, 255, 256, 257, 258, 259, 260, 261, 262, 263, 264, 265, 266, 267] (by decide +kernel) (by decide +kernel)
set_option maxRecDepth 20000 in
theorem gX11_worth_X11_isPremium : GoodIn wsX11_worth (wsV RX11 133 RX11 yX11_isPremium wsX11_isPremium) := goodIn_app (goodIn_of _ (by decide +kernel)) ggX11_worth_X11_isPremium
set_option maxRecDepth 20000 in
theorem ggX11_worth_X8_renew : GoodIn wsX11_worth wsX8_renew := goodIn_r _ [15, 16, 17, 18, 19, 20, 21, 22, 23, 24, 25, 14, 26, 27, 28, 29, 30, 31, 32, 33, 34, 35, 36, 37, 38, 39, 40, 41, 42, 43, 44, 45, 46, 47, 48, 49, 50, 51, 52, 53, 54, 55, 56, 57, 58, 59, 60, 61, 62, 63, 64, 65, 66, 67, 68, 69, 70, 71, 72, 73, 74, 75, 76, 77, 78, 79, 80, 81, 82, 83, 84, 85, 86, 87, 88, 89, 90, 91, 92, 93, 94, 95, 96, 97, 98, 99, 100, 101, 102, 103, 104, 105, 106, 107, 108, 109, 110, 111, 112, 113, 114, 115, 116, 117, 118, 119, 120, 121, 122, 123, 124, 125, 126, 127, 128, 129, 130, 131, 132, 133, 134, 135, 136, 137, 138, 139, 140, 141, 142, 143, 144, 145, 146, 147, 148, 149, 150, 151, 152, 153, 154, 155, 156, 157, 158, 159, 160, 161, 162, 163, 164, 165, 166, 167, 168, 169, 170, 171, 172, 173, 174, 175, 176, 177, 178, 179, 180, 181, 182, 183, 184, 185, 186, 187, 188, 189, 190, 191, 192, 193, 194, 195, 196, 197, 198, 199, 200, 201, 202, 203, 204, 205, 206, 207, 208, 209, 210, 211, 212, 213, 214, 215, 216, 217, 218, 219, 220, 221, 222, 223, 224, 225, 226, 227, 228, 229, 230, 231, 232, 233, 268, 269, 270, 271, 272, 273, 274, 275, 276, 277, 278, 279, 280, 281, 282, 283, 284, 258, 259, 260, 261, 262, 263, 264, 265, 266, 267, 285, 286, 287, 288, 289, 290, 291, 292, 293, 294, 295, 296, 297, 298, 299, 300, 301, 302, 303, 304, 305, 306, 307, 308, 309, 310, 311] (by decide +kernel) (by decide +kernel)
set_option maxRecDepth 20000 in
theorem gX11_worth_X8_renew : GoodIn wsX11_worth (wsV RX11 274 RX8 yX8_renew wsX8_renew) := goodIn_app (goodIn_of _ (by decide +kernel)) ggX11_worth_X8_renew
set_option maxRecDepth 20000 in
theorem ggX11_worth_X8_allPay : GoodIn wsX11_worth wsX8_allPay := goodIn_r _ [237, 99, 268, 269, 270, 271, 272, 273, 274, 275, 276, 277, 278, 279, 280, 281] (by decide +kernel) (by decide +kernel)
set_option maxRecDepth 20000 in
theorem gX11_worth_X8_allPay : GoodIn wsX11_worth (wsV RX11 265 RX8 yX8_allPay wsX8_allPay) := goodIn_app (goodIn_of _ (by decide +kernel)) ggX11_worth_X8_allPay
set_option maxRecDepth 20000 in
theorem ggX11_worth_X11_total : GoodIn wsX11_worth wsX11_total := goodIn_r _ [241, 242, 243, 244, 8, 245, 246, 247, 2, 3, 4, 11, 12, 13, 14, 15, 16, 17, 18, 19, 20, 21, 22, 23, 24, 25, 26, 27, 28, 29, 30, 31, 32, 33, 34, 35, 36, 37, 38, 39, 40, 41, 42, 43, 44, 45, 46, 47, 48, 49, 50, 51, 52, 53, 54, 55, 56, 57, 58, 59, 60, 61, 62, 63, 64, 65, 66, 67, 68, 69, 70, 71, 72, 73, 74, 75, 76, 77, 78, 79, 80, 81, 82, 83, 84, 85, 86, 87, 88, 89, 90, 91, 92, 93, 94, 95, 96, 97, 98, 99, 100, 101, 102, 103, 104, 105, 106, 107, 108, 109, 110, 111, 112, 113, 114, 115, 116, 117, 118, 119, 120, 121, 122, 123, 124, 125, 126, 127, 128, 129, 130, 131, 132, 133, 134, 135, 136, 137, 138, 139, 140, 141, 142, 143, 144, 145, 146, 147, 148, 149, 150, 151, 152, 153, 154, 155, 156, 157, 158, 159, 160, 161, 162, 163, 164, 165, 166, 167, 168, 169, 170, 171, 172, 173, 174, 175, 176, 177, 178, 179, 180, 181, 182, 183, 184, 185, 186, 187, 188, 189, 190, 191, 192, 193, 194, 195, 196, 197, 198, 199, 200, 201, 202, 203, 204, 205, 206, 207, 208, 209, 210, 211, 212, 213, 214, 215, 216, 217, 218, 219, 220, 221, 222, 223, 224, 225, 226, 227, 228, 229, 230, 231, 232, 233, 234, 235, 236, 237, 248, 249, 250, 251, 252, 253, 254, 255, 256, 257, 268, 269, 270, 271, 272, 273, 274, 275, 276, 277, 278, 279, 280, 281, 282, 283, 284, 258, 259, 260, 261, 262, 263, 264, 265, 266, 267, 285, 286, 287, 288, 289, 290, 291, 292, 293, 294, 295, 296, 297, 298, 299, 300, 301, 302, 303, 304, 305, 306, 307, 308, 309, 310, 311] (by decide +kernel) (by decide +kernel)
set_option maxRecDepth 20000 in
theorem gX11_worth_X11_total : GoodIn wsX11_worth (wsV RX11 278 RX11 yX11_total wsX11_total) := goodIn_app (goodIn_of _ (by decide +kernel)) ggX11_worth_X11_total
theorem dX11_worth_0 : decode cX11_worth 0 = .ok (.aload_n 0, 1) := by decide +kernel
theorem dX11_worth_1 : decode cX11_worth 1 = .ok (.iload_n 1, 1) := by decide +kernel
theorem dX11_worth_2 : decode cX11_worth 2 = .ok (.invokevirtual 133, 3) := by decide +kernel
theorem dX11_worth_5 : decode cX11_worth 5 = .ok (.ifCond .ne 5, 3) := by decide +kernel
theorem dX11_worth_8 : decode cX11_worth 8 = .ok (.iconst (-1), 1) := by decide +kernel
theorem dX11_worth_9 : decode cX11_worth 9 = .ok (.ireturn, 1) := by decide +kernel
theorem dX11_worth_10 : decode cX11_worth 10 = .ok (.iconst 0, 1) := by decide +kernel
theorem dX11_worth_11 : decode cX11_worth 11 = .ok (.istore_n 2, 1) := by decide +kernel
theorem dX11_worth_12 : decode cX11_worth 12 = .ok (.iconst 0, 1) := by decide +kernel
theorem dX11_worth_13 : decode cX11_worth 13 = .ok (.istore_n 3, 1) := by decide +kernel
theorem dX11_worth_14 : decode cX11_worth 14 = .ok (.iload_n 3, 1) := by decide +kernel
theorem dX11_worth_15 : decode cX11_worth 15 = .ok (.iconst 4, 1) := by decide +kernel
theorem dX11_worth_16 : decode cX11_worth 16 = .ok (.if_icmp .ge 49, 3) := by decide +kernel
theorem dX11_worth_19 : decode cX11_worth 19 = .ok (.aload_n 0, 1) := by decide +kernel
theorem dX11_worth_20 : decode cX11_worth 20 = .ok (.getfield 58, 3) := by decide +kernel
theorem dX11_worth_23 : decode cX11_worth 23 = .ok (.aload_n 0, 1) := by decide +kernel
theorem dX11_worth_24 : decode cX11_worth 24 = .ok (.getfield 35, 3) := by decide +kernel
theorem dX11_worth_27 : decode cX11_worth 27 = .ok (.iload_n 3, 1) := by decide +kernel
theorem dX11_worth_28 : decode cX11_worth 28 = .ok (.aaload, 1) := by decide +kernel
theorem dX11_worth_29 : decode cX11_worth 29 = .ok (.aload_n 0, 1) := by decide +kernel
theorem dX11_worth_30 : decode cX11_worth 30 = .ok (.getfield 26, 3) := by decide +kernel
theorem dX11_worth_33 : decode cX11_worth 33 = .ok (.sipush 255, 3) := by decide +kernel
theorem dX11_worth_36 : decode cX11_worth 36 = .ok (.iconst 1, 1) := by decide +kernel
theorem dX11_worth_37 : decode cX11_worth 37 = .ok (.iload_n 1, 1) := by decide +kernel
theorem dX11_worth_38 : decode cX11_worth 38 = .ok (.ishl, 1) := by decide +kernel
theorem dX11_worth_39 : decode cX11_worth 39 = .ok (.iconst (-1), 1) := by decide +kernel
theorem dX11_worth_40 : decode cX11_worth 40 = .ok (.ixor, 1) := by decide +kernel
theorem dX11_worth_41 : decode cX11_worth 41 = .ok (.iand, 1) := by decide +kernel
theorem dX11_worth_42 : decode cX11_worth 42 = .ok (.aload_n 0, 1) := by decide +kernel
theorem dX11_worth_43 : decode cX11_worth 43 = .ok (.getfield 65, 3) := by decide +kernel
theorem dX11_worth_46 : decode cX11_worth 46 = .ok (.invokevirtual 274, 3) := by decide +kernel
theorem dX11_worth_49 : decode cX11_worth 49 = .ok (.iload_n 2, 1) := by decide +kernel
theorem dX11_worth_50 : decode cX11_worth 50 = .ok (.aload_n 0, 1) := by decide +kernel
theorem dX11_worth_51 : decode cX11_worth 51 = .ok (.getfield 58, 3) := by decide +kernel
theorem dX11_worth_54 : decode cX11_worth 54 = .ok (.invokevirtual 265, 3) := by decide +kernel
theorem dX11_worth_57 : decode cX11_worth 57 = .ok (.iadd, 1) := by decide +kernel
theorem dX11_worth_58 : decode cX11_worth 58 = .ok (.istore_n 2, 1) := by decide +kernel
theorem dX11_worth_59 : decode cX11_worth 59 = .ok (.iinc 3 1, 3) := by decide +kernel
theorem dX11_worth_62 : decode cX11_worth 62 = .ok (.goto (-48), 3) := by decide +kernel
theorem dX11_worth_65 : decode cX11_worth 65 = .ok (.aload_n 0, 1) := by decide +kernel
theorem dX11_worth_66 : decode cX11_worth 66 = .ok (.invokevirtual 278, 3) := by decide +kernel
theorem dX11_worth_69 : decode cX11_worth 69 = .ok (.iload_n 2, 1) := by decide +kernel
theorem dX11_worth_70 : decode cX11_worth 70 = .ok (.isub, 1) := by decide +kernel
theorem dX11_worth_71 : decode cX11_worth 71 = .ok (.ireturn, 1) := by decide +kernel
set_option maxRecDepth 20000 in
theorem ggX11_together_X11_isWorker : GoodIn wsX11_together wsX11_isWorker := goodIn_r _ [7] (by decide +kernel) (by decide +kernel)
set_option maxRecDepth 20000 in
theorem gX11_together_X11_isWorker : GoodIn wsX11_together (va_wsS RX11 190 yX11_isWorker wsX11_isWorker) := goodIn_app (goodIn_of _ (by decide +kernel)) ggX11_together_X11_isWorker
set_option maxRecDepth 20000 in
theorem ggX11_together_X11_sheetOf : GoodIn wsX11_together wsX11_sheetOf := goodIn_r _ [11, 12, 13, 14, 2, 15, 16, 17, 18, 19, 20, 21, 22, 23, 24, 25, 26, 27, 28, 29, 30, 31, 32, 33, 34, 35, 36, 37, 38, 39, 40, 41, 42, 43, 44, 45, 46, 47, 48, 49, 50, 51, 52, 53, 54, 55, 56, 57, 58, 59, 60, 61, 62, 63, 64, 65, 66, 67, 68, 69, 70, 71, 72, 73, 74, 75, 76, 77, 78, 79, 80, 81, 82, 83, 84, 85, 86, 87, 88, 89, 90, 91, 92, 93, 94, 95, 96, 97, 98, 99, 100, 101, 102, 103, 104, 105, 106, 107, 108, 109, 110, 111, 112, 113, 114, 115, 116, 117, 118, 119, 120, 121, 122, 123, 124, 125, 126, 127, 128, 129, 130, 131, 132, 133, 134, 135, 136, 137, 138, 139, 140, 141, 142, 143, 144, 145, 146, 147, 148, 149, 150, 151, 152, 153, 154, 155, 156, 157, 158, 159, 160, 161, 162, 163, 164, 165, 166, 167, 168, 169, 170, 171, 172, 173, 174, 175, 176, 177, 178, 179, 180, 181, 182, 183, 184, 185, 186, 187, 188, 189, 190, 191, 192, 193, 194, 195, 196, 197, 198, 199, 200, 201, 202, 203, 204, 205, 206, 207, 208, 209, 210, 211, 212, 213, 214, 215, 216, 217, 218, 219, 220, 221, 222, 223, 224, 225, 226, 227, 228, 229, 230, 231, 232, 233, 234, 235, 236, 237, 238, 254, 255, 256, 257, 258, 259, 260, 261, 262, 263, 240, 241, 242, 243, 244, 245, 246, 247, 248, 249, 250, 251, 252, 253, 274, 275, 276, 264, 265, 266, 267, 268, 269, 270, 271, 272, 273, 277, 278, 279, 280, 281, 282, 283, 284, 285, 286, 287, 288, 289, 290, 291, 292, 293, 294, 295, 296, 297, 298, 299, 300, 301, 302, 303] (by decide +kernel) (by decide +kernel)
set_option maxRecDepth 20000 in
theorem gX11_together_X11_sheetOf : GoodIn wsX11_together (wsV RX11 215 RX11 yX11_sheetOf wsX11_sheetOf) := goodIn_app (goodIn_of _ (by decide +kernel)) ggX11_together_X11_sheetOf
set_option maxRecDepth 20000 in
theorem ggX11_together_X2_quartersAhead : GoodIn wsX11_together wsX2_quartersAhead := goodIn_r _ [61, 62, 63, 64, 60, 65, 66, 67, 280, 281, 282, 283, 284] (by decide +kernel) (by decide +kernel)
set_option maxRecDepth 20000 in
theorem gX11_together_X2_quartersAhead : GoodIn wsX11_together (wsV RX11 234 RX2 yX2_quartersAhead wsX2_quartersAhead) := goodIn_app (goodIn_of _ (by decide +kernel)) ggX11_together_X2_quartersAhead
theorem dX11_together_0 : decode cX11_together 0 = .ok (.iload_n 1, 1) := by decide +kernel
theorem dX11_together_1 : decode cX11_together 1 = .ok (.invokestatic 190, 3) := by decide +kernel
theorem dX11_together_4 : decode cX11_together 4 = .ok (.ifCond .eq 15, 3) := by decide +kernel
theorem dX11_together_7 : decode cX11_together 7 = .ok (.iload_n 2, 1) := by decide +kernel
theorem dX11_together_8 : decode cX11_together 8 = .ok (.invokestatic 190, 3) := by decide +kernel
theorem dX11_together_11 : decode cX11_together 11 = .ok (.ifCond .eq 8, 3) := by decide +kernel
theorem dX11_together_14 : decode cX11_together 14 = .ok (.iload_n 1, 1) := by decide +kernel
theorem dX11_together_15 : decode cX11_together 15 = .ok (.iload_n 2, 1) := by decide +kernel
theorem dX11_together_16 : decode cX11_together 16 = .ok (.if_icmp .ne 5, 3) := by decide +kernel
theorem dX11_together_19 : decode cX11_together 19 = .ok (.iconst (-1), 1) := by decide +kernel
theorem dX11_together_20 : decode cX11_together 20 = .ok (.ireturn, 1) := by decide +kernel
theorem dX11_together_21 : decode cX11_together 21 = .ok (.aload_n 0, 1) := by decide +kernel
theorem dX11_together_22 : decode cX11_together 22 = .ok (.iload_n 1, 1) := by decide +kernel
theorem dX11_together_23 : decode cX11_together 23 = .ok (.invokevirtual 215, 3) := by decide +kernel
theorem dX11_together_26 : decode cX11_together 26 = .ok (.getfield 237, 3) := by decide +kernel
theorem dX11_together_29 : decode cX11_together 29 = .ok (.astore_n 3, 1) := by decide +kernel
theorem dX11_together_30 : decode cX11_together 30 = .ok (.aload_n 0, 1) := by decide +kernel
theorem dX11_together_31 : decode cX11_together 31 = .ok (.iload_n 2, 1) := by decide +kernel
theorem dX11_together_32 : decode cX11_together 32 = .ok (.invokevirtual 215, 3) := by decide +kernel
theorem dX11_together_35 : decode cX11_together 35 = .ok (.getfield 237, 3) := by decide +kernel
theorem dX11_together_38 : decode cX11_together 38 = .ok (.astore 4, 2) := by decide +kernel
theorem dX11_together_40 : decode cX11_together 40 = .ok (.aload_n 0, 1) := by decide +kernel
theorem dX11_together_41 : decode cX11_together 41 = .ok (.getfield 26, 3) := by decide +kernel
theorem dX11_together_44 : decode cX11_together 44 = .ok (.getfield 91, 3) := by decide +kernel
theorem dX11_together_47 : decode cX11_together 47 = .ok (.bipush 28, 2) := by decide +kernel
theorem dX11_together_49 : decode cX11_together 49 = .ok (.invokevirtual 234, 3) := by decide +kernel
theorem dX11_together_52 : decode cX11_together 52 = .ok (.istore 5, 2) := by decide +kernel
theorem dX11_together_54 : decode cX11_together 54 = .ok (.iconst 0, 1) := by decide +kernel
theorem dX11_together_55 : decode cX11_together 55 = .ok (.istore 6, 2) := by decide +kernel
theorem dX11_together_57 : decode cX11_together 57 = .ok (.iconst 0, 1) := by decide +kernel
theorem dX11_together_58 : decode cX11_together 58 = .ok (.istore 7, 2) := by decide +kernel
theorem dX11_together_60 : decode cX11_together 60 = .ok (.iload 7, 2) := by decide +kernel
theorem dX11_together_62 : decode cX11_together 62 = .ok (.iload 5, 2) := by decide +kernel
theorem dX11_together_64 : decode cX11_together 64 = .ok (.if_icmp .ge 31, 3) := by decide +kernel
theorem dX11_together_67 : decode cX11_together 67 = .ok (.aload_n 3, 1) := by decide +kernel
theorem dX11_together_68 : decode cX11_together 68 = .ok (.iload 7, 2) := by decide +kernel
theorem dX11_together_70 : decode cX11_together 70 = .ok (.iaload, 1) := by decide +kernel
theorem dX11_together_71 : decode cX11_together 71 = .ok (.bipush (-2), 2) := by decide +kernel
theorem dX11_together_73 : decode cX11_together 73 = .ok (.if_icmp .eq 16, 3) := by decide +kernel
theorem dX11_together_76 : decode cX11_together 76 = .ok (.aload 4, 2) := by decide +kernel
theorem dX11_together_78 : decode cX11_together 78 = .ok (.iload 7, 2) := by decide +kernel
theorem dX11_together_80 : decode cX11_together 80 = .ok (.iaload, 1) := by decide +kernel
theorem dX11_together_81 : decode cX11_together 81 = .ok (.bipush (-2), 2) := by decide +kernel
theorem dX11_together_83 : decode cX11_together 83 = .ok (.if_icmp .eq 6, 3) := by decide +kernel
theorem dX11_together_86 : decode cX11_together 86 = .ok (.iinc 6 1, 3) := by decide +kernel
theorem dX11_together_89 : decode cX11_together 89 = .ok (.iinc 7 1, 3) := by decide +kernel
theorem dX11_together_92 : decode cX11_together 92 = .ok (.goto (-32), 3) := by decide +kernel
theorem dX11_together_95 : decode cX11_together 95 = .ok (.iload 6, 2) := by decide +kernel
theorem dX11_together_97 : decode cX11_together 97 = .ok (.ireturn, 1) := by decide +kernel
theorem dX11_isWorker_0 : decode cX11_isWorker 0 = .ok (.iload_n 0, 1) := by decide +kernel
theorem dX11_isWorker_1 : decode cX11_isWorker 1 = .ok (.ifCond .lt 12, 3) := by decide +kernel
theorem dX11_isWorker_4 : decode cX11_isWorker 4 = .ok (.iload_n 0, 1) := by decide +kernel
theorem dX11_isWorker_5 : decode cX11_isWorker 5 = .ok (.iconst 4, 1) := by decide +kernel
theorem dX11_isWorker_6 : decode cX11_isWorker 6 = .ok (.if_icmp .ge 7, 3) := by decide +kernel
theorem dX11_isWorker_9 : decode cX11_isWorker 9 = .ok (.iconst 1, 1) := by decide +kernel
theorem dX11_isWorker_10 : decode cX11_isWorker 10 = .ok (.goto 4, 3) := by decide +kernel
theorem dX11_isWorker_13 : decode cX11_isWorker 13 = .ok (.iconst 0, 1) := by decide +kernel
theorem dX11_isWorker_14 : decode cX11_isWorker 14 = .ok (.ireturn, 1) := by decide +kernel
theorem dX11_isWeek_0 : decode cX11_isWeek 0 = .ok (.iload_n 0, 1) := by decide +kernel
theorem dX11_isWeek_1 : decode cX11_isWeek 1 = .ok (.ifCond .lt 12, 3) := by decide +kernel
theorem dX11_isWeek_4 : decode cX11_isWeek 4 = .ok (.iload_n 0, 1) := by decide +kernel
theorem dX11_isWeek_5 : decode cX11_isWeek 5 = .ok (.iconst 4, 1) := by decide +kernel
theorem dX11_isWeek_6 : decode cX11_isWeek 6 = .ok (.if_icmp .ge 7, 3) := by decide +kernel
theorem dX11_isWeek_9 : decode cX11_isWeek 9 = .ok (.iconst 1, 1) := by decide +kernel
theorem dX11_isWeek_10 : decode cX11_isWeek 10 = .ok (.goto 4, 3) := by decide +kernel
theorem dX11_isWeek_13 : decode cX11_isWeek 13 = .ok (.iconst 0, 1) := by decide +kernel
theorem dX11_isWeek_14 : decode cX11_isWeek 14 = .ok (.ireturn, 1) := by decide +kernel
theorem dX11_isPremium_0 : decode cX11_isPremium 0 = .ok (.iload_n 1, 1) := by decide +kernel
theorem dX11_isPremium_1 : decode cX11_isPremium 1 = .ok (.ifCond .lt 18, 3) := by decide +kernel
theorem dX11_isPremium_4 : decode cX11_isPremium 4 = .ok (.iload_n 1, 1) := by decide +kernel
theorem dX11_isPremium_5 : decode cX11_isPremium 5 = .ok (.aload_n 0, 1) := by decide +kernel
theorem dX11_isPremium_6 : decode cX11_isPremium 6 = .ok (.getfield 26, 3) := by decide +kernel
theorem dX11_isPremium_9 : decode cX11_isPremium 9 = .ok (.getfield 88, 3) := by decide +kernel
theorem dX11_isPremium_12 : decode cX11_isPremium 12 = .ok (.if_icmp .ge 7, 3) := by decide +kernel
theorem dX11_isPremium_15 : decode cX11_isPremium 15 = .ok (.iconst 1, 1) := by decide +kernel
theorem dX11_isPremium_16 : decode cX11_isPremium 16 = .ok (.goto 4, 3) := by decide +kernel
theorem dX11_isPremium_19 : decode cX11_isPremium 19 = .ok (.iconst 0, 1) := by decide +kernel
theorem dX11_isPremium_20 : decode cX11_isPremium 20 = .ok (.ireturn, 1) := by decide +kernel
set_option maxRecDepth 20000 in
theorem ggX11_freeMoment_X11_isWorker : GoodIn wsX11_freeMoment wsX11_isWorker := goodIn_r _ [7] (by decide +kernel) (by decide +kernel)
set_option maxRecDepth 20000 in
theorem gX11_freeMoment_X11_isWorker : GoodIn wsX11_freeMoment (va_wsS RX11 190 yX11_isWorker wsX11_isWorker) := goodIn_app (goodIn_of _ (by decide +kernel)) ggX11_freeMoment_X11_isWorker
set_option maxRecDepth 20000 in
theorem ggX11_freeMoment_X2_momentAt : GoodIn wsX11_freeMoment wsX2_momentAt := goodIn_r _ [12, 13, 14, 15, 47, 48, 49, 50, 51] (by decide +kernel) (by decide +kernel)
set_option maxRecDepth 20000 in
theorem gX11_freeMoment_X2_momentAt : GoodIn wsX11_freeMoment (wsV RX11 161 RX2 yX2_momentAt wsX2_momentAt) := goodIn_app (goodIn_of _ (by decide +kernel)) ggX11_freeMoment_X2_momentAt
set_option maxRecDepth 20000 in
theorem ggX11_freeMoment_X1_takes : GoodIn wsX11_freeMoment wsX1_takes := goodIn_r _ [20, 21, 22, 23, 24, 19, 25, 26, 52, 53, 54] (by decide +kernel) (by decide +kernel)
set_option maxRecDepth 20000 in
theorem gX11_freeMoment_X1_takes : GoodIn wsX11_freeMoment (wsV RX11 281 RX1 yX1_takes wsX1_takes) := goodIn_app (goodIn_of _ (by decide +kernel)) ggX11_freeMoment_X1_takes
theorem dX11_freeMoment_0 : decode cX11_freeMoment 0 = .ok (.iload_n 1, 1) := by decide +kernel
theorem dX11_freeMoment_1 : decode cX11_freeMoment 1 = .ok (.invokestatic 190, 3) := by decide +kernel
theorem dX11_freeMoment_4 : decode cX11_freeMoment 4 = .ok (.ifCond .eq 12, 3) := by decide +kernel
theorem dX11_freeMoment_7 : decode cX11_freeMoment 7 = .ok (.iload_n 2, 1) := by decide +kernel
theorem dX11_freeMoment_8 : decode cX11_freeMoment 8 = .ok (.ifCond .lt 8, 3) := by decide +kernel
theorem dX11_freeMoment_11 : decode cX11_freeMoment 11 = .ok (.iload_n 2, 1) := by decide +kernel
theorem dX11_freeMoment_12 : decode cX11_freeMoment 12 = .ok (.iconst 2, 1) := by decide +kernel
theorem dX11_freeMoment_13 : decode cX11_freeMoment 13 = .ok (.if_icmp .le 5, 3) := by decide +kernel
theorem dX11_freeMoment_16 : decode cX11_freeMoment 16 = .ok (.iconst (-1), 1) := by decide +kernel
theorem dX11_freeMoment_17 : decode cX11_freeMoment 17 = .ok (.ireturn, 1) := by decide +kernel
theorem dX11_freeMoment_18 : decode cX11_freeMoment 18 = .ok (.aload_n 0, 1) := by decide +kernel
theorem dX11_freeMoment_19 : decode cX11_freeMoment 19 = .ok (.getfield 26, 3) := by decide +kernel
theorem dX11_freeMoment_22 : decode cX11_freeMoment 22 = .ok (.getfield 91, 3) := by decide +kernel
theorem dX11_freeMoment_25 : decode cX11_freeMoment 25 = .ok (.iload_n 3, 1) := by decide +kernel
theorem dX11_freeMoment_26 : decode cX11_freeMoment 26 = .ok (.iload 4, 2) := by decide +kernel
theorem dX11_freeMoment_28 : decode cX11_freeMoment 28 = .ok (.iload 5, 2) := by decide +kernel
theorem dX11_freeMoment_30 : decode cX11_freeMoment 30 = .ok (.invokevirtual 161, 3) := by decide +kernel
theorem dX11_freeMoment_33 : decode cX11_freeMoment 33 = .ok (.istore 6, 2) := by decide +kernel
theorem dX11_freeMoment_35 : decode cX11_freeMoment 35 = .ok (.iload 6, 2) := by decide +kernel
theorem dX11_freeMoment_37 : decode cX11_freeMoment 37 = .ok (.iconst (-1), 1) := by decide +kernel
theorem dX11_freeMoment_38 : decode cX11_freeMoment 38 = .ok (.if_icmp .eq 17, 3) := by decide +kernel
theorem dX11_freeMoment_41 : decode cX11_freeMoment 41 = .ok (.aload_n 0, 1) := by decide +kernel
theorem dX11_freeMoment_42 : decode cX11_freeMoment 42 = .ok (.getfield 35, 3) := by decide +kernel
theorem dX11_freeMoment_45 : decode cX11_freeMoment 45 = .ok (.iload_n 1, 1) := by decide +kernel
theorem dX11_freeMoment_46 : decode cX11_freeMoment 46 = .ok (.aaload, 1) := by decide +kernel
theorem dX11_freeMoment_47 : decode cX11_freeMoment 47 = .ok (.iload 6, 2) := by decide +kernel
theorem dX11_freeMoment_49 : decode cX11_freeMoment 49 = .ok (.invokevirtual 281, 3) := by decide +kernel
theorem dX11_freeMoment_52 : decode cX11_freeMoment 52 = .ok (.ifCond .ne 7, 3) := by decide +kernel
theorem dX11_freeMoment_55 : decode cX11_freeMoment 55 = .ok (.iconst (-1), 1) := by decide +kernel
theorem dX11_freeMoment_56 : decode cX11_freeMoment 56 = .ok (.goto 5, 3) := by decide +kernel
theorem dX11_freeMoment_59 : decode cX11_freeMoment 59 = .ok (.iload 6, 2) := by decide +kernel
theorem dX11_freeMoment_61 : decode cX11_freeMoment 61 = .ok (.ireturn, 1) := by decide +kernel
set_option maxRecDepth 20000 in
theorem ggX11_sheetOf_X8_renew : GoodIn wsX11_sheetOf wsX8_renew := goodIn_r _ [10, 11, 12, 13, 14, 15, 16, 17, 18, 19, 20, 9, 21, 22, 23, 24, 25, 26, 27, 28, 29, 30, 31, 32, 33, 34, 35, 36, 37, 38, 39, 40, 41, 42, 43, 44, 45, 46, 47, 48, 49, 50, 51, 52, 53, 54, 55, 56, 57, 58, 59, 60, 61, 62, 63, 64, 65, 66, 67, 68, 69, 70, 71, 72, 73, 74, 75, 76, 77, 78, 79, 80, 81, 82, 83, 84, 85, 86, 87, 88, 89, 90, 91, 92, 93, 94, 95, 96, 97, 98, 99, 100, 101, 102, 103, 104, 105, 106, 107, 108, 109, 110, 111, 112, 113, 114, 115, 116, 117, 118, 119, 120, 121, 122, 123, 124, 125, 126, 127, 128, 129, 130, 131, 132, 133, 134, 135, 136, 137, 138, 139, 140, 141, 142, 143, 144, 145, 146, 147, 148, 149, 150, 151, 152, 153, 154, 155, 156, 157, 158, 159, 160, 161, 162, 163, 164, 165, 166, 167, 168, 169, 170, 171, 172, 173, 174, 175, 176, 177, 178, 179, 180, 181, 182, 183, 184, 185, 186, 187, 188, 189, 190, 191, 192, 193, 194, 195, 196, 197, 198, 199, 200, 201, 202, 203, 204, 205, 206, 207, 208, 209, 210, 211, 212, 213, 214, 215, 216, 217, 218, 219, 220, 221, 222, 223, 224, 225, 226, 227, 228, 239, 240, 241, 242, 243, 244, 245, 246, 247, 248, 249, 250, 251, 252, 253, 254, 255, 256, 257, 258, 259, 260, 261, 262, 263, 264, 265, 266, 267, 268, 269, 270, 271, 272, 273, 274, 275, 276, 277, 278, 279, 280, 281, 282, 283, 284, 285, 286, 287, 288, 289, 290, 291, 292] (by decide +kernel) (by decide +kernel)
set_option maxRecDepth 20000 in
theorem gX11_sheetOf_X8_renew : GoodIn wsX11_sheetOf (wsV RX11 274 RX8 yX8_renew wsX8_renew) := goodIn_app (goodIn_of _ (by decide +kernel)) ggX11_sheetOf_X8_renew
theorem dX11_sheetOf_0 : decode cX11_sheetOf 0 = .ok (.aload_n 0, 1) := by decide +kernel
theorem dX11_sheetOf_1 : decode cX11_sheetOf 1 = .ok (.getfield 41, 3) := by decide +kernel
theorem dX11_sheetOf_4 : decode cX11_sheetOf 4 = .ok (.iload_n 1, 1) := by decide +kernel
theorem dX11_sheetOf_5 : decode cX11_sheetOf 5 = .ok (.aaload, 1) := by decide +kernel
theorem dX11_sheetOf_6 : decode cX11_sheetOf 6 = .ok (.astore_n 2, 1) := by decide +kernel
theorem dX11_sheetOf_7 : decode cX11_sheetOf 7 = .ok (.aload_n 2, 1) := by decide +kernel
theorem dX11_sheetOf_8 : decode cX11_sheetOf 8 = .ok (.getfield 183, 3) := by decide +kernel
theorem dX11_sheetOf_11 : decode cX11_sheetOf 11 = .ok (.ifCond .eq 24, 3) := by decide +kernel
theorem dX11_sheetOf_14 : decode cX11_sheetOf 14 = .ok (.aload_n 2, 1) := by decide +kernel
theorem dX11_sheetOf_15 : decode cX11_sheetOf 15 = .ok (.aload_n 0, 1) := by decide +kernel
theorem dX11_sheetOf_16 : decode cX11_sheetOf 16 = .ok (.getfield 35, 3) := by decide +kernel
theorem dX11_sheetOf_19 : decode cX11_sheetOf 19 = .ok (.iload_n 1, 1) := by decide +kernel
theorem dX11_sheetOf_20 : decode cX11_sheetOf 20 = .ok (.aaload, 1) := by decide +kernel
theorem dX11_sheetOf_21 : decode cX11_sheetOf 21 = .ok (.aload_n 0, 1) := by decide +kernel
theorem dX11_sheetOf_22 : decode cX11_sheetOf 22 = .ok (.getfield 26, 3) := by decide +kernel
theorem dX11_sheetOf_25 : decode cX11_sheetOf 25 = .ok (.sipush 255, 3) := by decide +kernel
theorem dX11_sheetOf_28 : decode cX11_sheetOf 28 = .ok (.aload_n 0, 1) := by decide +kernel
theorem dX11_sheetOf_29 : decode cX11_sheetOf 29 = .ok (.getfield 65, 3) := by decide +kernel
theorem dX11_sheetOf_32 : decode cX11_sheetOf 32 = .ok (.invokevirtual 274, 3) := by decide +kernel
theorem dX11_sheetOf_35 : decode cX11_sheetOf 35 = .ok (.aload_n 2, 1) := by decide +kernel
theorem dX11_sheetOf_36 : decode cX11_sheetOf 36 = .ok (.areturn, 1) := by decide +kernel
set_option maxRecDepth 20000 in
theorem ggX11_payWith_X1_copy : GoodIn wsX11_payWith wsX1_copy := goodIn_r _ [10, 11, 12, 13, 255, 256, 257] (by decide +kernel) (by decide +kernel)
set_option maxRecDepth 20000 in
theorem gX11_payWith_X1_copy : GoodIn wsX11_payWith (wsV RX11 284 RX1 yX1_copy wsX1_copy) := goodIn_app (goodIn_of _ (by decide +kernel)) ggX11_payWith_X1_copy
set_option maxRecDepth 20000 in
theorem ggX11_payWith_X1_add : GoodIn wsX11_payWith wsX1_add := goodIn_r _ [17, 11, 12, 13, 255, 256, 257] (by decide +kernel) (by decide +kernel)
set_option maxRecDepth 20000 in
theorem gX11_payWith_X1_add : GoodIn wsX11_payWith (wsV RX11 179 RX1 yX1_add wsX1_add) := goodIn_app (goodIn_of _ (by decide +kernel)) ggX11_payWith_X1_add
set_option maxRecDepth 20000 in
theorem ggX11_payWith_X8_renew : GoodIn wsX11_payWith wsX8_renew := goodIn_r _ [22, 23, 24, 25, 26, 27, 28, 29, 30, 31, 32, 21, 33, 34, 35, 36, 37, 38, 39, 40, 41, 42, 43, 44, 45, 46, 47, 48, 49, 50, 51, 52, 53, 54, 55, 56, 57, 58, 59, 60, 61, 62, 63, 64, 65, 66, 67, 68, 69, 70, 71, 72, 73, 74, 75, 76, 77, 78, 79, 80, 81, 82, 83, 84, 85, 86, 87, 88, 89, 90, 91, 92, 93, 94, 95, 96, 97, 98, 99, 100, 101, 102, 103, 104, 105, 106, 107, 108, 109, 110, 111, 112, 113, 114, 115, 116, 117, 118, 119, 120, 121, 122, 123, 124, 125, 126, 127, 128, 129, 130, 131, 132, 133, 134, 135, 136, 137, 138, 139, 140, 141, 142, 143, 144, 145, 146, 147, 148, 149, 150, 151, 152, 153, 154, 155, 156, 157, 158, 159, 160, 161, 162, 163, 164, 165, 166, 167, 168, 169, 170, 171, 172, 173, 174, 175, 176, 177, 178, 179, 180, 181, 182, 183, 184, 185, 186, 187, 188, 189, 190, 191, 192, 193, 194, 195, 196, 197, 198, 199, 200, 201, 202, 203, 204, 205, 206, 207, 208, 209, 210, 211, 212, 213, 214, 215, 216, 217, 218, 219, 220, 221, 222, 223, 224, 225, 226, 227, 228, 229, 230, 231, 232, 233, 234, 235, 236, 237, 238, 239, 240, 258, 259, 260, 261, 262, 263, 264, 265, 266, 267, 268, 269, 270, 271, 272, 273, 274, 275, 276, 277, 278, 279, 280, 281, 282, 283, 284, 255, 256, 257, 285, 286, 287, 288, 289, 290, 291, 292, 293, 294, 295, 296, 297, 298, 299, 300, 301, 302, 303, 304, 305, 306, 307, 308] (by decide +kernel) (by decide +kernel)
set_option maxRecDepth 20000 in
theorem gX11_payWith_X8_renew : GoodIn wsX11_payWith (wsV RX11 274 RX8 yX8_renew wsX8_renew) := goodIn_app (goodIn_of _ (by decide +kernel)) ggX11_payWith_X8_renew
set_option maxRecDepth 20000 in
theorem ggX11_payWith_X8_allPay : GoodIn wsX11_payWith wsX8_allPay := goodIn_r _ [244, 106, 258, 259, 260, 261, 262, 263, 264, 265, 266, 267, 268, 269, 270, 271] (by decide +kernel) (by decide +kernel)
set_option maxRecDepth 20000 in
theorem gX11_payWith_X8_allPay : GoodIn wsX11_payWith (wsV RX11 265 RX8 yX8_allPay wsX8_allPay) := goodIn_app (goodIn_of _ (by decide +kernel)) ggX11_payWith_X8_allPay
theorem dX11_payWith_0 : decode cX11_payWith 0 = .ok (.aload_n 0, 1) := by decide +kernel
theorem dX11_payWith_1 : decode cX11_payWith 1 = .ok (.getfield 54, 3) := by decide +kernel
theorem dX11_payWith_4 : decode cX11_payWith 4 = .ok (.aload_n 0, 1) := by decide +kernel
theorem dX11_payWith_5 : decode cX11_payWith 5 = .ok (.getfield 35, 3) := by decide +kernel
theorem dX11_payWith_8 : decode cX11_payWith 8 = .ok (.iload_n 1, 1) := by decide +kernel
theorem dX11_payWith_9 : decode cX11_payWith 9 = .ok (.aaload, 1) := by decide +kernel
theorem dX11_payWith_10 : decode cX11_payWith 10 = .ok (.invokevirtual 284, 3) := by decide +kernel
theorem dX11_payWith_13 : decode cX11_payWith 13 = .ok (.aload_n 0, 1) := by decide +kernel
theorem dX11_payWith_14 : decode cX11_payWith 14 = .ok (.getfield 54, 3) := by decide +kernel
theorem dX11_payWith_17 : decode cX11_payWith 17 = .ok (.iload_n 3, 1) := by decide +kernel
theorem dX11_payWith_18 : decode cX11_payWith 18 = .ok (.iload_n 2, 1) := by decide +kernel
theorem dX11_payWith_19 : decode cX11_payWith 19 = .ok (.invokevirtual 179, 3) := by decide +kernel
theorem dX11_payWith_22 : decode cX11_payWith 22 = .ok (.aload_n 0, 1) := by decide +kernel
theorem dX11_payWith_23 : decode cX11_payWith 23 = .ok (.getfield 58, 3) := by decide +kernel
theorem dX11_payWith_26 : decode cX11_payWith 26 = .ok (.aload_n 0, 1) := by decide +kernel
theorem dX11_payWith_27 : decode cX11_payWith 27 = .ok (.getfield 54, 3) := by decide +kernel
theorem dX11_payWith_30 : decode cX11_payWith 30 = .ok (.aload_n 0, 1) := by decide +kernel
theorem dX11_payWith_31 : decode cX11_payWith 31 = .ok (.getfield 26, 3) := by decide +kernel
theorem dX11_payWith_34 : decode cX11_payWith 34 = .ok (.sipush 255, 3) := by decide +kernel
theorem dX11_payWith_37 : decode cX11_payWith 37 = .ok (.aload_n 0, 1) := by decide +kernel
theorem dX11_payWith_38 : decode cX11_payWith 38 = .ok (.getfield 65, 3) := by decide +kernel
theorem dX11_payWith_41 : decode cX11_payWith 41 = .ok (.invokevirtual 274, 3) := by decide +kernel
theorem dX11_payWith_44 : decode cX11_payWith 44 = .ok (.aload_n 0, 1) := by decide +kernel
theorem dX11_payWith_45 : decode cX11_payWith 45 = .ok (.getfield 58, 3) := by decide +kernel
theorem dX11_payWith_48 : decode cX11_payWith 48 = .ok (.invokevirtual 265, 3) := by decide +kernel
theorem dX11_payWith_51 : decode cX11_payWith 51 = .ok (.ireturn, 1) := by decide +kernel
theorem dX12_thrown_0 : decode cX12_thrown 0 = .ok (.aload_n 0, 1) := by decide +kernel
theorem dX12_thrown_1 : decode cX12_thrown 1 = .ok (.getfield 1, 3) := by decide +kernel
theorem dX12_thrown_4 : decode cX12_thrown 4 = .ok (.ireturn, 1) := by decide +kernel
theorem dX12_within_0 : decode cX12_within 0 = .ok (.iload_n 0, 1) := by decide +kernel
theorem dX12_within_1 : decode cX12_within 1 = .ok (.iload_n 1, 1) := by decide +kernel
theorem dX12_within_2 : decode cX12_within 2 = .ok (.if_icmp .lt 12, 3) := by decide +kernel
theorem dX12_within_5 : decode cX12_within 5 = .ok (.iload_n 0, 1) := by decide +kernel
theorem dX12_within_6 : decode cX12_within 6 = .ok (.iload_n 2, 1) := by decide +kernel
theorem dX12_within_7 : decode cX12_within 7 = .ok (.if_icmp .gt 7, 3) := by decide +kernel
theorem dX12_within_10 : decode cX12_within 10 = .ok (.iconst 1, 1) := by decide +kernel
theorem dX12_within_11 : decode cX12_within 11 = .ok (.goto 4, 3) := by decide +kernel
theorem dX12_within_14 : decode cX12_within 14 = .ok (.iconst 0, 1) := by decide +kernel
theorem dX12_within_15 : decode cX12_within 15 = .ok (.ireturn, 1) := by decide +kernel
set_option maxRecDepth 20000 in
theorem ggX12_feed_X12_puts : GoodIn wsX12_feed wsX12_puts := goodIn_r _ [7, 8, 2, 9, 10, 11, 12, 13, 14, 15, 16, 17, 18, 19, 20, 21, 22, 23, 24, 25, 26, 27, 28, 29, 30, 31, 32, 33, 34, 35, 36, 37, 38, 39, 40, 41, 42, 43, 44, 45, 46] (by decide +kernel) (by decide +kernel)
set_option maxRecDepth 20000 in
theorem gX12_feed_X12_puts : GoodIn wsX12_feed (wsV RX12 10 RX12 yX12_puts wsX12_puts) := goodIn_app (goodIn_of _ (by decide +kernel)) ggX12_feed_X12_puts
theorem dX12_feed_0 : decode cX12_feed 0 = .ok (.aload_n 0, 1) := by decide +kernel
theorem dX12_feed_1 : decode cX12_feed 1 = .ok (.iconst 0, 1) := by decide +kernel
theorem dX12_feed_2 : decode cX12_feed 2 = .ok (.putfield 1, 3) := by decide +kernel
theorem dX12_feed_5 : decode cX12_feed 5 = .ok (.aload_n 0, 1) := by decide +kernel
theorem dX12_feed_6 : decode cX12_feed 6 = .ok (.getfield 7, 3) := by decide +kernel
theorem dX12_feed_9 : decode cX12_feed 9 = .ok (.bipush 20, 2) := by decide +kernel
theorem dX12_feed_11 : decode cX12_feed 11 = .ok (.iadd, 1) := by decide +kernel
theorem dX12_feed_12 : decode cX12_feed 12 = .ok (.sipush 400, 3) := by decide +kernel
theorem dX12_feed_15 : decode cX12_feed 15 = .ok (.if_icmp .le 5, 3) := by decide +kernel
theorem dX12_feed_18 : decode cX12_feed 18 = .ok (.iconst (-1), 1) := by decide +kernel
theorem dX12_feed_19 : decode cX12_feed 19 = .ok (.ireturn, 1) := by decide +kernel
theorem dX12_feed_20 : decode cX12_feed 20 = .ok (.aload_n 0, 1) := by decide +kernel
theorem dX12_feed_21 : decode cX12_feed 21 = .ok (.iload_n 1, 1) := by decide +kernel
theorem dX12_feed_22 : decode cX12_feed 22 = .ok (.invokevirtual 10, 3) := by decide +kernel
theorem dX12_feed_25 : decode cX12_feed 25 = .ok (.aload_n 0, 1) := by decide +kernel
theorem dX12_feed_26 : decode cX12_feed 26 = .ok (.iload_n 2, 1) := by decide +kernel
theorem dX12_feed_27 : decode cX12_feed 27 = .ok (.invokevirtual 10, 3) := by decide +kernel
theorem dX12_feed_30 : decode cX12_feed 30 = .ok (.aload_n 0, 1) := by decide +kernel
theorem dX12_feed_31 : decode cX12_feed 31 = .ok (.iload_n 3, 1) := by decide +kernel
theorem dX12_feed_32 : decode cX12_feed 32 = .ok (.invokevirtual 10, 3) := by decide +kernel
theorem dX12_feed_35 : decode cX12_feed 35 = .ok (.aload_n 0, 1) := by decide +kernel
theorem dX12_feed_36 : decode cX12_feed 36 = .ok (.iload 4, 2) := by decide +kernel
theorem dX12_feed_38 : decode cX12_feed 38 = .ok (.invokevirtual 10, 3) := by decide +kernel
theorem dX12_feed_41 : decode cX12_feed 41 = .ok (.aload_n 0, 1) := by decide +kernel
theorem dX12_feed_42 : decode cX12_feed 42 = .ok (.iload 5, 2) := by decide +kernel
theorem dX12_feed_44 : decode cX12_feed 44 = .ok (.invokevirtual 10, 3) := by decide +kernel
theorem dX12_feed_47 : decode cX12_feed 47 = .ok (.aload_n 0, 1) := by decide +kernel
theorem dX12_feed_48 : decode cX12_feed 48 = .ok (.getfield 7, 3) := by decide +kernel
theorem dX12_feed_51 : decode cX12_feed 51 = .ok (.ireturn, 1) := by decide +kernel
theorem dX12_puts_0 : decode cX12_puts 0 = .ok (.bipush 24, 2) := by decide +kernel
theorem dX12_puts_2 : decode cX12_puts 2 = .ok (.istore_n 2, 1) := by decide +kernel
theorem dX12_puts_3 : decode cX12_puts 3 = .ok (.iload_n 2, 1) := by decide +kernel
theorem dX12_puts_4 : decode cX12_puts 4 = .ok (.ifCond .lt 32, 3) := by decide +kernel
theorem dX12_puts_7 : decode cX12_puts 7 = .ok (.aload_n 0, 1) := by decide +kernel
theorem dX12_puts_8 : decode cX12_puts 8 = .ok (.getfield 14, 3) := by decide +kernel
theorem dX12_puts_11 : decode cX12_puts 11 = .ok (.aload_n 0, 1) := by decide +kernel
theorem dX12_puts_12 : decode cX12_puts 12 = .ok (.getfield 7, 3) := by decide +kernel
theorem dX12_puts_15 : decode cX12_puts 15 = .ok (.iload_n 1, 1) := by decide +kernel
theorem dX12_puts_16 : decode cX12_puts 16 = .ok (.iload_n 2, 1) := by decide +kernel
theorem dX12_puts_17 : decode cX12_puts 17 = .ok (.ishr, 1) := by decide +kernel
theorem dX12_puts_18 : decode cX12_puts 18 = .ok (.i2b, 1) := by decide +kernel
theorem dX12_puts_19 : decode cX12_puts 19 = .ok (.bastore, 1) := by decide +kernel
theorem dX12_puts_20 : decode cX12_puts 20 = .ok (.aload_n 0, 1) := by decide +kernel
theorem dX12_puts_21 : decode cX12_puts 21 = .ok (.dup, 1) := by decide +kernel
theorem dX12_puts_22 : decode cX12_puts 22 = .ok (.getfield 7, 3) := by decide +kernel
theorem dX12_puts_25 : decode cX12_puts 25 = .ok (.iconst 1, 1) := by decide +kernel
theorem dX12_puts_26 : decode cX12_puts 26 = .ok (.iadd, 1) := by decide +kernel
theorem dX12_puts_27 : decode cX12_puts 27 = .ok (.putfield 7, 3) := by decide +kernel
theorem dX12_puts_30 : decode cX12_puts 30 = .ok (.iinc 2 (-8), 3) := by decide +kernel
theorem dX12_puts_33 : decode cX12_puts 33 = .ok (.goto (-30), 3) := by decide +kernel
theorem dX12_puts_36 : decode cX12_puts 36 = .ok (.return_, 1) := by decide +kernel
theorem dX12_byteAt_0 : decode cX12_byteAt 0 = .ok (.iload_n 1, 1) := by decide +kernel
theorem dX12_byteAt_1 : decode cX12_byteAt 1 = .ok (.aload_n 0, 1) := by decide +kernel
theorem dX12_byteAt_2 : decode cX12_byteAt 2 = .ok (.getfield 18, 3) := by decide +kernel
theorem dX12_byteAt_5 : decode cX12_byteAt 5 = .ok (.if_icmp .ge 16, 3) := by decide +kernel
theorem dX12_byteAt_8 : decode cX12_byteAt 8 = .ok (.aload_n 0, 1) := by decide +kernel
theorem dX12_byteAt_9 : decode cX12_byteAt 9 = .ok (.getfield 14, 3) := by decide +kernel
theorem dX12_byteAt_12 : decode cX12_byteAt 12 = .ok (.iload_n 1, 1) := by decide +kernel
theorem dX12_byteAt_13 : decode cX12_byteAt 13 = .ok (.baload, 1) := by decide +kernel
theorem dX12_byteAt_14 : decode cX12_byteAt 14 = .ok (.sipush 255, 3) := by decide +kernel
theorem dX12_byteAt_17 : decode cX12_byteAt 17 = .ok (.iand, 1) := by decide +kernel
theorem dX12_byteAt_18 : decode cX12_byteAt 18 = .ok (.goto 4, 3) := by decide +kernel
theorem dX12_byteAt_21 : decode cX12_byteAt 21 = .ok (.iconst (-1), 1) := by decide +kernel
theorem dX12_byteAt_22 : decode cX12_byteAt 22 = .ok (.ireturn, 1) := by decide +kernel
set_option maxRecDepth 20000 in
theorem ggX12_go_X12_byteAt : GoodIn wsX12_go wsX12_byteAt := goodIn_r _ [10, 11, 12, 16, 17, 18, 19, 20, 21, 22, 23, 24, 25, 26, 27, 28, 29, 30, 31, 32, 33, 34, 35, 36, 37, 38, 39, 40, 41, 42, 43, 44, 45, 46, 47, 48, 49, 50, 51, 52, 53] (by decide +kernel) (by decide +kernel)
set_option maxRecDepth 20000 in
theorem gX12_go_X12_byteAt : GoodIn wsX12_go (wsV RX12 24 RX12 yX12_byteAt wsX12_byteAt) := goodIn_app (goodIn_of _ (by decide +kernel)) ggX12_go_X12_byteAt
set_option maxRecDepth 20000 in
theorem ggX12_go_X12_within : GoodIn wsX12_go wsX12_within := goodIn_r _ [15] (by decide +kernel) (by decide +kernel)
set_option maxRecDepth 20000 in
theorem gX12_go_X12_within : GoodIn wsX12_go (va_wsS RX12 34 yX12_within wsX12_within) := goodIn_app (goodIn_of _ (by decide +kernel)) ggX12_go_X12_within
theorem dX12_go_0 : decode cX12_go 0 = .ok (.aload_n 0, 1) := by decide +kernel
theorem dX12_go_1 : decode cX12_go 1 = .ok (.aload_n 0, 1) := by decide +kernel
theorem dX12_go_2 : decode cX12_go 2 = .ok (.getfield 21, 3) := by decide +kernel
theorem dX12_go_5 : decode cX12_go 5 = .ok (.invokevirtual 24, 3) := by decide +kernel
theorem dX12_go_8 : decode cX12_go 8 = .ok (.bipush 32, 2) := by decide +kernel
theorem dX12_go_10 : decode cX12_go 10 = .ok (.if_icmp .eq 16, 3) := by decide +kernel
theorem dX12_go_13 : decode cX12_go 13 = .ok (.aload_n 0, 1) := by decide +kernel
theorem dX12_go_14 : decode cX12_go 14 = .ok (.aload_n 0, 1) := by decide +kernel
theorem dX12_go_15 : decode cX12_go 15 = .ok (.getfield 21, 3) := by decide +kernel
theorem dX12_go_18 : decode cX12_go 18 = .ok (.invokevirtual 24, 3) := by decide +kernel
theorem dX12_go_21 : decode cX12_go 21 = .ok (.bipush 10, 2) := by decide +kernel
theorem dX12_go_23 : decode cX12_go 23 = .ok (.if_icmp .ne 16, 3) := by decide +kernel
theorem dX12_go_26 : decode cX12_go 26 = .ok (.aload_n 0, 1) := by decide +kernel
theorem dX12_go_27 : decode cX12_go 27 = .ok (.dup, 1) := by decide +kernel
theorem dX12_go_28 : decode cX12_go 28 = .ok (.getfield 21, 3) := by decide +kernel
theorem dX12_go_31 : decode cX12_go 31 = .ok (.iconst 1, 1) := by decide +kernel
theorem dX12_go_32 : decode cX12_go 32 = .ok (.iadd, 1) := by decide +kernel
theorem dX12_go_33 : decode cX12_go 33 = .ok (.putfield 21, 3) := by decide +kernel
theorem dX12_go_36 : decode cX12_go 36 = .ok (.goto (-36), 3) := by decide +kernel
theorem dX12_go_39 : decode cX12_go 39 = .ok (.aload_n 0, 1) := by decide +kernel
theorem dX12_go_40 : decode cX12_go 40 = .ok (.aload_n 0, 1) := by decide +kernel
theorem dX12_go_41 : decode cX12_go 41 = .ok (.getfield 21, 3) := by decide +kernel
theorem dX12_go_44 : decode cX12_go 44 = .ok (.putfield 28, 3) := by decide +kernel
theorem dX12_go_47 : decode cX12_go 47 = .ok (.aload_n 0, 1) := by decide +kernel
theorem dX12_go_48 : decode cX12_go 48 = .ok (.aload_n 0, 1) := by decide +kernel
theorem dX12_go_49 : decode cX12_go 49 = .ok (.getfield 21, 3) := by decide +kernel
theorem dX12_go_52 : decode cX12_go 52 = .ok (.invokevirtual 24, 3) := by decide +kernel
theorem dX12_go_55 : decode cX12_go 55 = .ok (.istore_n 1, 1) := by decide +kernel
theorem dX12_go_56 : decode cX12_go 56 = .ok (.iload_n 1, 1) := by decide +kernel
theorem dX12_go_57 : decode cX12_go 57 = .ok (.ifCond .ge 11, 3) := by decide +kernel
theorem dX12_go_60 : decode cX12_go 60 = .ok (.aload_n 0, 1) := by decide +kernel
theorem dX12_go_61 : decode cX12_go 61 = .ok (.iconst 0, 1) := by decide +kernel
theorem dX12_go_62 : decode cX12_go 62 = .ok (.putfield 31, 3) := by decide +kernel
theorem dX12_go_65 : decode cX12_go 65 = .ok (.goto 174, 3) := by decide +kernel
theorem dX12_go_68 : decode cX12_go 68 = .ok (.iload_n 1, 1) := by decide +kernel
theorem dX12_go_69 : decode cX12_go 69 = .ok (.bipush 97, 2) := by decide +kernel
theorem dX12_go_71 : decode cX12_go 71 = .ok (.bipush 122, 2) := by decide +kernel
theorem dX12_go_73 : decode cX12_go 73 = .ok (.invokestatic 34, 3) := by decide +kernel
theorem dX12_go_76 : decode cX12_go 76 = .ok (.ifCond .eq 42, 3) := by decide +kernel
theorem dX12_go_79 : decode cX12_go 79 = .ok (.aload_n 0, 1) := by decide +kernel
theorem dX12_go_80 : decode cX12_go 80 = .ok (.aload_n 0, 1) := by decide +kernel
theorem dX12_go_81 : decode cX12_go 81 = .ok (.getfield 21, 3) := by decide +kernel
theorem dX12_go_84 : decode cX12_go 84 = .ok (.invokevirtual 24, 3) := by decide +kernel
theorem dX12_go_87 : decode cX12_go 87 = .ok (.bipush 97, 2) := by decide +kernel
theorem dX12_go_89 : decode cX12_go 89 = .ok (.bipush 122, 2) := by decide +kernel
theorem dX12_go_91 : decode cX12_go 91 = .ok (.invokestatic 34, 3) := by decide +kernel
theorem dX12_go_94 : decode cX12_go 94 = .ok (.ifCond .eq 16, 3) := by decide +kernel
theorem dX12_go_97 : decode cX12_go 97 = .ok (.aload_n 0, 1) := by decide +kernel
theorem dX12_go_98 : decode cX12_go 98 = .ok (.dup, 1) := by decide +kernel
theorem dX12_go_99 : decode cX12_go 99 = .ok (.getfield 21, 3) := by decide +kernel
theorem dX12_go_102 : decode cX12_go 102 = .ok (.iconst 1, 1) := by decide +kernel
theorem dX12_go_103 : decode cX12_go 103 = .ok (.iadd, 1) := by decide +kernel
theorem dX12_go_104 : decode cX12_go 104 = .ok (.putfield 21, 3) := by decide +kernel
theorem dX12_go_107 : decode cX12_go 107 = .ok (.goto (-28), 3) := by decide +kernel
theorem dX12_go_110 : decode cX12_go 110 = .ok (.aload_n 0, 1) := by decide +kernel
theorem dX12_go_111 : decode cX12_go 111 = .ok (.iconst 1, 1) := by decide +kernel
theorem dX12_go_112 : decode cX12_go 112 = .ok (.putfield 31, 3) := by decide +kernel
theorem dX12_go_115 : decode cX12_go 115 = .ok (.goto 124, 3) := by decide +kernel
theorem dX12_go_118 : decode cX12_go 118 = .ok (.iload_n 1, 1) := by decide +kernel
theorem dX12_go_119 : decode cX12_go 119 = .ok (.bipush 48, 2) := by decide +kernel
theorem dX12_go_121 : decode cX12_go 121 = .ok (.bipush 57, 2) := by decide +kernel
theorem dX12_go_123 : decode cX12_go 123 = .ok (.invokestatic 34, 3) := by decide +kernel
theorem dX12_go_126 : decode cX12_go 126 = .ok (.ifCond .eq 88, 3) := by decide +kernel
theorem dX12_go_129 : decode cX12_go 129 = .ok (.aload_n 0, 1) := by decide +kernel
theorem dX12_go_130 : decode cX12_go 130 = .ok (.iconst 0, 1) := by decide +kernel
theorem dX12_go_131 : decode cX12_go 131 = .ok (.putfield 38, 3) := by decide +kernel
theorem dX12_go_134 : decode cX12_go 134 = .ok (.aload_n 0, 1) := by decide +kernel
theorem dX12_go_135 : decode cX12_go 135 = .ok (.aload_n 0, 1) := by decide +kernel
theorem dX12_go_136 : decode cX12_go 136 = .ok (.getfield 21, 3) := by decide +kernel
theorem dX12_go_139 : decode cX12_go 139 = .ok (.invokevirtual 24, 3) := by decide +kernel
theorem dX12_go_142 : decode cX12_go 142 = .ok (.bipush 48, 2) := by decide +kernel
theorem dX12_go_144 : decode cX12_go 144 = .ok (.bipush 57, 2) := by decide +kernel
theorem dX12_go_146 : decode cX12_go 146 = .ok (.invokestatic 34, 3) := by decide +kernel
theorem dX12_go_149 : decode cX12_go 149 = .ok (.ifCond .eq 57, 3) := by decide +kernel
theorem dX12_go_152 : decode cX12_go 152 = .ok (.aload_n 0, 1) := by decide +kernel
theorem dX12_go_153 : decode cX12_go 153 = .ok (.aload_n 0, 1) := by decide +kernel
theorem dX12_go_154 : decode cX12_go 154 = .ok (.getfield 21, 3) := by decide +kernel
theorem dX12_go_157 : decode cX12_go 157 = .ok (.aload_n 0, 1) := by decide +kernel
theorem dX12_go_158 : decode cX12_go 158 = .ok (.getfield 28, 3) := by decide +kernel
theorem dX12_go_161 : decode cX12_go 161 = .ok (.isub, 1) := by decide +kernel
theorem dX12_go_162 : decode cX12_go 162 = .ok (.iconst 4, 1) := by decide +kernel
theorem dX12_go_163 : decode cX12_go 163 = .ok (.if_icmp .ge 25, 3) := by decide +kernel
theorem dX12_go_166 : decode cX12_go 166 = .ok (.bipush 10, 2) := by decide +kernel
theorem dX12_go_168 : decode cX12_go 168 = .ok (.aload_n 0, 1) := by decide +kernel
theorem dX12_go_169 : decode cX12_go 169 = .ok (.getfield 38, 3) := by decide +kernel
theorem dX12_go_172 : decode cX12_go 172 = .ok (.imul, 1) := by decide +kernel
theorem dX12_go_173 : decode cX12_go 173 = .ok (.aload_n 0, 1) := by decide +kernel
theorem dX12_go_174 : decode cX12_go 174 = .ok (.aload_n 0, 1) := by decide +kernel
theorem dX12_go_175 : decode cX12_go 175 = .ok (.getfield 21, 3) := by decide +kernel
theorem dX12_go_178 : decode cX12_go 178 = .ok (.invokevirtual 24, 3) := by decide +kernel
theorem dX12_go_181 : decode cX12_go 181 = .ok (.iadd, 1) := by decide +kernel
theorem dX12_go_182 : decode cX12_go 182 = .ok (.bipush 48, 2) := by decide +kernel
theorem dX12_go_184 : decode cX12_go 184 = .ok (.isub, 1) := by decide +kernel
theorem dX12_go_185 : decode cX12_go 185 = .ok (.goto 5, 3) := by decide +kernel
theorem dX12_go_188 : decode cX12_go 188 = .ok (.ldc 41, 2) := by decide +kernel
theorem dX12_go_190 : decode cX12_go 190 = .ok (.putfield 38, 3) := by decide +kernel
theorem dX12_go_193 : decode cX12_go 193 = .ok (.aload_n 0, 1) := by decide +kernel
theorem dX12_go_194 : decode cX12_go 194 = .ok (.dup, 1) := by decide +kernel
theorem dX12_go_195 : decode cX12_go 195 = .ok (.getfield 21, 3) := by decide +kernel
theorem dX12_go_198 : decode cX12_go 198 = .ok (.iconst 1, 1) := by decide +kernel
theorem dX12_go_199 : decode cX12_go 199 = .ok (.iadd, 1) := by decide +kernel
theorem dX12_go_200 : decode cX12_go 200 = .ok (.putfield 21, 3) := by decide +kernel
theorem dX12_go_203 : decode cX12_go 203 = .ok (.goto (-69), 3) := by decide +kernel
theorem dX12_go_206 : decode cX12_go 206 = .ok (.aload_n 0, 1) := by decide +kernel
theorem dX12_go_207 : decode cX12_go 207 = .ok (.iconst 2, 1) := by decide +kernel
theorem dX12_go_208 : decode cX12_go 208 = .ok (.putfield 31, 3) := by decide +kernel
theorem dX12_go_211 : decode cX12_go 211 = .ok (.goto 28, 3) := by decide +kernel
theorem dX12_go_214 : decode cX12_go 214 = .ok (.aload_n 0, 1) := by decide +kernel
theorem dX12_go_215 : decode cX12_go 215 = .ok (.dup, 1) := by decide +kernel
theorem dX12_go_216 : decode cX12_go 216 = .ok (.getfield 21, 3) := by decide +kernel
theorem dX12_go_219 : decode cX12_go 219 = .ok (.iconst 1, 1) := by decide +kernel
theorem dX12_go_220 : decode cX12_go 220 = .ok (.iadd, 1) := by decide +kernel
theorem dX12_go_221 : decode cX12_go 221 = .ok (.putfield 21, 3) := by decide +kernel
theorem dX12_go_224 : decode cX12_go 224 = .ok (.aload_n 0, 1) := by decide +kernel
theorem dX12_go_225 : decode cX12_go 225 = .ok (.iload_n 1, 1) := by decide +kernel
theorem dX12_go_226 : decode cX12_go 226 = .ok (.bipush 59, 2) := by decide +kernel
theorem dX12_go_228 : decode cX12_go 228 = .ok (.if_icmp .ne 7, 3) := by decide +kernel
theorem dX12_go_231 : decode cX12_go 231 = .ok (.iconst 3, 1) := by decide +kernel
theorem dX12_go_232 : decode cX12_go 232 = .ok (.goto 4, 3) := by decide +kernel
theorem dX12_go_235 : decode cX12_go 235 = .ok (.iconst 4, 1) := by decide +kernel
theorem dX12_go_236 : decode cX12_go 236 = .ok (.putfield 31, 3) := by decide +kernel
theorem dX12_go_239 : decode cX12_go 239 = .ok (.return_, 1) := by decide +kernel
theorem dX12_bad_0 : decode cX12_bad 0 = .ok (.aload_n 0, 1) := by decide +kernel
theorem dX12_bad_1 : decode cX12_bad 1 = .ok (.aload_n 0, 1) := by decide +kernel
theorem dX12_bad_2 : decode cX12_bad 2 = .ok (.getfield 42, 3) := by decide +kernel
theorem dX12_bad_5 : decode cX12_bad 5 = .ok (.ifCond .ne 15, 3) := by decide +kernel
theorem dX12_bad_8 : decode cX12_bad 8 = .ok (.bipush 8, 2) := by decide +kernel
theorem dX12_bad_10 : decode cX12_bad 10 = .ok (.aload_n 0, 1) := by decide +kernel
theorem dX12_bad_11 : decode cX12_bad 11 = .ok (.getfield 28, 3) := by decide +kernel
theorem dX12_bad_14 : decode cX12_bad 14 = .ok (.imul, 1) := by decide +kernel
theorem dX12_bad_15 : decode cX12_bad 15 = .ok (.iload_n 1, 1) := by decide +kernel
theorem dX12_bad_16 : decode cX12_bad 16 = .ok (.iadd, 1) := by decide +kernel
theorem dX12_bad_17 : decode cX12_bad 17 = .ok (.goto 7, 3) := by decide +kernel
theorem dX12_bad_20 : decode cX12_bad 20 = .ok (.aload_n 0, 1) := by decide +kernel
theorem dX12_bad_21 : decode cX12_bad 21 = .ok (.getfield 42, 3) := by decide +kernel
theorem dX12_bad_24 : decode cX12_bad 24 = .ok (.putfield 42, 3) := by decide +kernel
theorem dX12_bad_27 : decode cX12_bad 27 = .ok (.iconst 0, 1) := by decide +kernel
theorem dX12_bad_28 : decode cX12_bad 28 = .ok (.ireturn, 1) := by decide +kernel
set_option maxRecDepth 20000 in
theorem ggX12_isWord_X12_byteAt : GoodIn wsX12_isWord wsX12_byteAt := goodIn_r _ [9, 10, 11, 12, 13, 14, 15, 16, 17, 18, 19, 20, 21, 22, 23, 24, 25, 26, 27, 28, 29, 30, 31, 32, 33, 34, 35, 36, 37, 38, 39, 40, 41, 42, 43, 44, 45, 46, 47, 48, 49] (by decide +kernel) (by decide +kernel)
set_option maxRecDepth 20000 in
theorem gX12_isWord_X12_byteAt : GoodIn wsX12_isWord (wsV RX12 24 RX12 yX12_byteAt wsX12_byteAt) := goodIn_app (goodIn_of _ (by decide +kernel)) ggX12_isWord_X12_byteAt
theorem dX12_isWord_0 : decode cX12_isWord 0 = .ok (.bipush 8, 2) := by decide +kernel
theorem dX12_isWord_2 : decode cX12_isWord 2 = .ok (.newarray .int, 2) := by decide +kernel
theorem dX12_isWord_4 : decode cX12_isWord 4 = .ok (.dup, 1) := by decide +kernel
theorem dX12_isWord_5 : decode cX12_isWord 5 = .ok (.iconst 0, 1) := by decide +kernel
theorem dX12_isWord_6 : decode cX12_isWord 6 = .ok (.iload_n 1, 1) := by decide +kernel
theorem dX12_isWord_7 : decode cX12_isWord 7 = .ok (.iastore, 1) := by decide +kernel
theorem dX12_isWord_8 : decode cX12_isWord 8 = .ok (.dup, 1) := by decide +kernel
theorem dX12_isWord_9 : decode cX12_isWord 9 = .ok (.iconst 1, 1) := by decide +kernel
theorem dX12_isWord_10 : decode cX12_isWord 10 = .ok (.iload_n 2, 1) := by decide +kernel
theorem dX12_isWord_11 : decode cX12_isWord 11 = .ok (.iastore, 1) := by decide +kernel
theorem dX12_isWord_12 : decode cX12_isWord 12 = .ok (.dup, 1) := by decide +kernel
theorem dX12_isWord_13 : decode cX12_isWord 13 = .ok (.iconst 2, 1) := by decide +kernel
theorem dX12_isWord_14 : decode cX12_isWord 14 = .ok (.iload_n 3, 1) := by decide +kernel
theorem dX12_isWord_15 : decode cX12_isWord 15 = .ok (.iastore, 1) := by decide +kernel
theorem dX12_isWord_16 : decode cX12_isWord 16 = .ok (.dup, 1) := by decide +kernel
theorem dX12_isWord_17 : decode cX12_isWord 17 = .ok (.iconst 3, 1) := by decide +kernel
theorem dX12_isWord_18 : decode cX12_isWord 18 = .ok (.iload 4, 2) := by decide +kernel
theorem dX12_isWord_20 : decode cX12_isWord 20 = .ok (.iastore, 1) := by decide +kernel
theorem dX12_isWord_21 : decode cX12_isWord 21 = .ok (.dup, 1) := by decide +kernel
theorem dX12_isWord_22 : decode cX12_isWord 22 = .ok (.iconst 4, 1) := by decide +kernel
theorem dX12_isWord_23 : decode cX12_isWord 23 = .ok (.iload 5, 2) := by decide +kernel
theorem dX12_isWord_25 : decode cX12_isWord 25 = .ok (.iastore, 1) := by decide +kernel
theorem dX12_isWord_26 : decode cX12_isWord 26 = .ok (.dup, 1) := by decide +kernel
theorem dX12_isWord_27 : decode cX12_isWord 27 = .ok (.iconst 5, 1) := by decide +kernel
theorem dX12_isWord_28 : decode cX12_isWord 28 = .ok (.iload 6, 2) := by decide +kernel
theorem dX12_isWord_30 : decode cX12_isWord 30 = .ok (.iastore, 1) := by decide +kernel
theorem dX12_isWord_31 : decode cX12_isWord 31 = .ok (.dup, 1) := by decide +kernel
theorem dX12_isWord_32 : decode cX12_isWord 32 = .ok (.bipush 6, 2) := by decide +kernel
theorem dX12_isWord_34 : decode cX12_isWord 34 = .ok (.iload 7, 2) := by decide +kernel
theorem dX12_isWord_36 : decode cX12_isWord 36 = .ok (.iastore, 1) := by decide +kernel
theorem dX12_isWord_37 : decode cX12_isWord 37 = .ok (.dup, 1) := by decide +kernel
theorem dX12_isWord_38 : decode cX12_isWord 38 = .ok (.bipush 7, 2) := by decide +kernel
theorem dX12_isWord_40 : decode cX12_isWord 40 = .ok (.iload 8, 2) := by decide +kernel
theorem dX12_isWord_42 : decode cX12_isWord 42 = .ok (.iastore, 1) := by decide +kernel
theorem dX12_isWord_43 : decode cX12_isWord 43 = .ok (.astore 9, 2) := by decide +kernel
theorem dX12_isWord_45 : decode cX12_isWord 45 = .ok (.aload_n 0, 1) := by decide +kernel
theorem dX12_isWord_46 : decode cX12_isWord 46 = .ok (.getfield 31, 3) := by decide +kernel
theorem dX12_isWord_49 : decode cX12_isWord 49 = .ok (.iconst 1, 1) := by decide +kernel
theorem dX12_isWord_50 : decode cX12_isWord 50 = .ok (.if_icmp .ne 21, 3) := by decide +kernel
theorem dX12_isWord_53 : decode cX12_isWord 53 = .ok (.aload_n 0, 1) := by decide +kernel
theorem dX12_isWord_54 : decode cX12_isWord 54 = .ok (.getfield 21, 3) := by decide +kernel
theorem dX12_isWord_57 : decode cX12_isWord 57 = .ok (.aload_n 0, 1) := by decide +kernel
theorem dX12_isWord_58 : decode cX12_isWord 58 = .ok (.getfield 28, 3) := by decide +kernel
theorem dX12_isWord_61 : decode cX12_isWord 61 = .ok (.isub, 1) := by decide +kernel
theorem dX12_isWord_62 : decode cX12_isWord 62 = .ok (.bipush 8, 2) := by decide +kernel
theorem dX12_isWord_64 : decode cX12_isWord 64 = .ok (.if_icmp .gt 7, 3) := by decide +kernel
theorem dX12_isWord_67 : decode cX12_isWord 67 = .ok (.iconst 1, 1) := by decide +kernel
theorem dX12_isWord_68 : decode cX12_isWord 68 = .ok (.goto 4, 3) := by decide +kernel
theorem dX12_isWord_71 : decode cX12_isWord 71 = .ok (.iconst 0, 1) := by decide +kernel
theorem dX12_isWord_72 : decode cX12_isWord 72 = .ok (.istore 10, 2) := by decide +kernel
theorem dX12_isWord_74 : decode cX12_isWord 74 = .ok (.iconst 0, 1) := by decide +kernel
theorem dX12_isWord_75 : decode cX12_isWord 75 = .ok (.istore 11, 2) := by decide +kernel
theorem dX12_isWord_77 : decode cX12_isWord 77 = .ok (.iload 11, 2) := by decide +kernel
theorem dX12_isWord_79 : decode cX12_isWord 79 = .ok (.bipush 8, 2) := by decide +kernel
theorem dX12_isWord_81 : decode cX12_isWord 81 = .ok (.if_icmp .ge 58, 3) := by decide +kernel
theorem dX12_isWord_84 : decode cX12_isWord 84 = .ok (.iload 10, 2) := by decide +kernel
theorem dX12_isWord_86 : decode cX12_isWord 86 = .ok (.ifCond .eq 53, 3) := by decide +kernel
theorem dX12_isWord_89 : decode cX12_isWord 89 = .ok (.iload 11, 2) := by decide +kernel
theorem dX12_isWord_91 : decode cX12_isWord 91 = .ok (.aload_n 0, 1) := by decide +kernel
theorem dX12_isWord_92 : decode cX12_isWord 92 = .ok (.getfield 21, 3) := by decide +kernel
theorem dX12_isWord_95 : decode cX12_isWord 95 = .ok (.aload_n 0, 1) := by decide +kernel
theorem dX12_isWord_96 : decode cX12_isWord 96 = .ok (.getfield 28, 3) := by decide +kernel
theorem dX12_isWord_99 : decode cX12_isWord 99 = .ok (.isub, 1) := by decide +kernel
theorem dX12_isWord_100 : decode cX12_isWord 100 = .ok (.if_icmp .ge 17, 3) := by decide +kernel
theorem dX12_isWord_103 : decode cX12_isWord 103 = .ok (.aload_n 0, 1) := by decide +kernel
theorem dX12_isWord_104 : decode cX12_isWord 104 = .ok (.aload_n 0, 1) := by decide +kernel
theorem dX12_isWord_105 : decode cX12_isWord 105 = .ok (.getfield 28, 3) := by decide +kernel
theorem dX12_isWord_108 : decode cX12_isWord 108 = .ok (.iload 11, 2) := by decide +kernel
theorem dX12_isWord_110 : decode cX12_isWord 110 = .ok (.iadd, 1) := by decide +kernel
theorem dX12_isWord_111 : decode cX12_isWord 111 = .ok (.invokevirtual 24, 3) := by decide +kernel
theorem dX12_isWord_114 : decode cX12_isWord 114 = .ok (.goto 4, 3) := by decide +kernel
theorem dX12_isWord_117 : decode cX12_isWord 117 = .ok (.iconst 0, 1) := by decide +kernel
theorem dX12_isWord_118 : decode cX12_isWord 118 = .ok (.aload 9, 2) := by decide +kernel
theorem dX12_isWord_120 : decode cX12_isWord 120 = .ok (.iload 11, 2) := by decide +kernel
theorem dX12_isWord_122 : decode cX12_isWord 122 = .ok (.iaload, 1) := by decide +kernel
theorem dX12_isWord_123 : decode cX12_isWord 123 = .ok (.if_icmp .ne 7, 3) := by decide +kernel
theorem dX12_isWord_126 : decode cX12_isWord 126 = .ok (.iconst 1, 1) := by decide +kernel
theorem dX12_isWord_127 : decode cX12_isWord 127 = .ok (.goto 4, 3) := by decide +kernel
theorem dX12_isWord_130 : decode cX12_isWord 130 = .ok (.iconst 0, 1) := by decide +kernel
theorem dX12_isWord_131 : decode cX12_isWord 131 = .ok (.istore 10, 2) := by decide +kernel
theorem dX12_isWord_133 : decode cX12_isWord 133 = .ok (.iinc 11 1, 3) := by decide +kernel
theorem dX12_isWord_136 : decode cX12_isWord 136 = .ok (.goto (-59), 3) := by decide +kernel
theorem dX12_isWord_139 : decode cX12_isWord 139 = .ok (.iload 10, 2) := by decide +kernel
theorem dX12_isWord_141 : decode cX12_isWord 141 = .ok (.ireturn, 1) := by decide +kernel
set_option maxRecDepth 20000 in
theorem ggX12_number_X12_bad : GoodIn wsX12_number wsX12_bad := goodIn_r _ [8, 9, 10, 26, 27, 28, 29, 30, 31, 32, 33, 34, 35, 36, 37, 38, 39, 40, 41, 42, 43, 44, 45, 46, 47, 48, 49, 50, 51, 52, 53, 54, 55, 56, 57, 58, 59, 60, 61, 62, 63] (by decide +kernel) (by decide +kernel)
set_option maxRecDepth 20000 in
theorem gX12_number_X12_bad : GoodIn wsX12_number (wsV RX12 45 RX12 yX12_bad wsX12_bad) := goodIn_app (goodIn_of _ (by decide +kernel)) ggX12_number_X12_bad
set_option maxRecDepth 20000 in
theorem ggX12_number_X12_within : GoodIn wsX12_number wsX12_within := goodIn_r _ [13] (by decide +kernel) (by decide +kernel)
set_option maxRecDepth 20000 in
theorem gX12_number_X12_within : GoodIn wsX12_number (va_wsS RX12 34 yX12_within wsX12_within) := goodIn_app (goodIn_of _ (by decide +kernel)) ggX12_number_X12_within
set_option maxRecDepth 20000 in
theorem ggX12_number_X12_go : GoodIn wsX12_number wsX12_go := goodIn_r _ [17, 18, 10, 1, 2, 19, 20, 21, 22, 7, 23, 24, 25, 11, 12, 13, 26, 27, 28, 29, 30, 31, 32, 33, 34, 35, 36, 37, 38, 39, 40, 41, 42, 43, 44, 45, 46, 47, 48, 49, 50, 51, 52, 53, 54, 55, 56, 57, 58, 59, 60, 61, 62, 63] (by decide +kernel) (by decide +kernel)
set_option maxRecDepth 20000 in
theorem gX12_number_X12_go : GoodIn wsX12_number (wsV RX12 52 RX12 yX12_go wsX12_go) := goodIn_app (goodIn_of _ (by decide +kernel)) ggX12_number_X12_go
theorem dX12_number_0 : decode cX12_number 0 = .ok (.aload_n 0, 1) := by decide +kernel
theorem dX12_number_1 : decode cX12_number 1 = .ok (.getfield 31, 3) := by decide +kernel
theorem dX12_number_4 : decode cX12_number 4 = .ok (.iconst 2, 1) := by decide +kernel
theorem dX12_number_5 : decode cX12_number 5 = .ok (.if_icmp .eq 9, 3) := by decide +kernel
theorem dX12_number_8 : decode cX12_number 8 = .ok (.aload_n 0, 1) := by decide +kernel
theorem dX12_number_9 : decode cX12_number 9 = .ok (.iconst 1, 1) := by decide +kernel
theorem dX12_number_10 : decode cX12_number 10 = .ok (.invokevirtual 45, 3) := by decide +kernel
theorem dX12_number_13 : decode cX12_number 13 = .ok (.ireturn, 1) := by decide +kernel
theorem dX12_number_14 : decode cX12_number 14 = .ok (.aload_n 0, 1) := by decide +kernel
theorem dX12_number_15 : decode cX12_number 15 = .ok (.getfield 38, 3) := by decide +kernel
theorem dX12_number_18 : decode cX12_number 18 = .ok (.iload_n 1, 1) := by decide +kernel
theorem dX12_number_19 : decode cX12_number 19 = .ok (.iload_n 2, 1) := by decide +kernel
theorem dX12_number_20 : decode cX12_number 20 = .ok (.invokestatic 34, 3) := by decide +kernel
theorem dX12_number_23 : decode cX12_number 23 = .ok (.ifCond .ne 9, 3) := by decide +kernel
theorem dX12_number_26 : decode cX12_number 26 = .ok (.aload_n 0, 1) := by decide +kernel
theorem dX12_number_27 : decode cX12_number 27 = .ok (.iconst 2, 1) := by decide +kernel
theorem dX12_number_28 : decode cX12_number 28 = .ok (.invokevirtual 45, 3) := by decide +kernel
theorem dX12_number_31 : decode cX12_number 31 = .ok (.ireturn, 1) := by decide +kernel
theorem dX12_number_32 : decode cX12_number 32 = .ok (.aload_n 0, 1) := by decide +kernel
theorem dX12_number_33 : decode cX12_number 33 = .ok (.aload_n 0, 1) := by decide +kernel
theorem dX12_number_34 : decode cX12_number 34 = .ok (.getfield 38, 3) := by decide +kernel
theorem dX12_number_37 : decode cX12_number 37 = .ok (.putfield 49, 3) := by decide +kernel
theorem dX12_number_40 : decode cX12_number 40 = .ok (.aload_n 0, 1) := by decide +kernel
theorem dX12_number_41 : decode cX12_number 41 = .ok (.invokevirtual 52, 3) := by decide +kernel
theorem dX12_number_44 : decode cX12_number 44 = .ok (.iconst 1, 1) := by decide +kernel
theorem dX12_number_45 : decode cX12_number 45 = .ok (.ireturn, 1) := by decide +kernel
set_option maxRecDepth 20000 in
theorem ggX12_init_X12_clearsDraft : GoodIn wsX12_init wsX12_clearsDraft := goodIn_r _ [35, 8, 36, 41, 42, 43, 44, 45, 46, 47, 48, 49, 50, 51, 52, 53, 54, 55, 56, 57, 58, 59, 60, 61, 62, 63, 64, 65, 66, 67, 68, 69, 70, 71, 72, 73, 74, 75, 76, 77, 78] (by decide +kernel) (by decide +kernel)
set_option maxRecDepth 20000 in
theorem gX12_init_X12_clearsDraft : GoodIn wsX12_init (wsV RX12 130 RX12 yX12_clearsDraft wsX12_clearsDraft) := goodIn_app (goodIn_of _ (by decide +kernel)) ggX12_init_X12_clearsDraft
set_option maxRecDepth 20000 in
theorem ggX12_init_X12_takes : GoodIn wsX12_init wsX12_takes := goodIn_r _ [40, 7, 8, 41, 42, 43, 44, 45, 46, 47, 48, 49, 50, 51, 52, 53, 54, 55, 56, 57, 58, 59, 60, 61, 62, 63, 64, 65, 66, 67, 68, 69, 70, 71, 72, 73, 74, 75, 76, 77, 78] (by decide +kernel) (by decide +kernel)
set_option maxRecDepth 20000 in
theorem gX12_init_X12_takes : GoodIn wsX12_init (wsV RX12 133 RX12 yX12_takes wsX12_takes) := goodIn_app (goodIn_of _ (by decide +kernel)) ggX12_init_X12_takes
theorem dX12_init_0 : decode cX12_init 0 = .ok (.aload_n 0, 1) := by decide +kernel
theorem dX12_init_1 : decode cX12_init 1 = .ok (.invokespecial 56, 3) := by decide +kernel
theorem dX12_init_4 : decode cX12_init 4 = .ok (.aload_n 0, 1) := by decide +kernel
theorem dX12_init_5 : decode cX12_init 5 = .ok (.sipush 400, 3) := by decide +kernel
theorem dX12_init_8 : decode cX12_init 8 = .ok (.newarray .byte, 2) := by decide +kernel
theorem dX12_init_10 : decode cX12_init 10 = .ok (.putfield 14, 3) := by decide +kernel
theorem dX12_init_13 : decode cX12_init 13 = .ok (.aload_n 0, 1) := by decide +kernel
theorem dX12_init_14 : decode cX12_init 14 = .ok (.bipush 51, 2) := by decide +kernel
theorem dX12_init_16 : decode cX12_init 16 = .ok (.newarray .int, 2) := by decide +kernel
theorem dX12_init_18 : decode cX12_init 18 = .ok (.putfield 61, 3) := by decide +kernel
theorem dX12_init_21 : decode cX12_init 21 = .ok (.aload_n 0, 1) := by decide +kernel
theorem dX12_init_22 : decode cX12_init 22 = .ok (.bipush 51, 2) := by decide +kernel
theorem dX12_init_24 : decode cX12_init 24 = .ok (.newarray .int, 2) := by decide +kernel
theorem dX12_init_26 : decode cX12_init 26 = .ok (.putfield 65, 3) := by decide +kernel
theorem dX12_init_29 : decode cX12_init 29 = .ok (.aload_n 0, 1) := by decide +kernel
theorem dX12_init_30 : decode cX12_init 30 = .ok (.iconst 4, 1) := by decide +kernel
theorem dX12_init_31 : decode cX12_init 31 = .ok (.newarray .int, 2) := by decide +kernel
theorem dX12_init_33 : decode cX12_init 33 = .ok (.putfield 68, 3) := by decide +kernel
theorem dX12_init_36 : decode cX12_init 36 = .ok (.aload_n 0, 1) := by decide +kernel
theorem dX12_init_37 : decode cX12_init 37 = .ok (.sipush 244, 3) := by decide +kernel
theorem dX12_init_40 : decode cX12_init 40 = .ok (.newarray .int, 2) := by decide +kernel
theorem dX12_init_42 : decode cX12_init 42 = .ok (.putfield 71, 3) := by decide +kernel
theorem dX12_init_45 : decode cX12_init 45 = .ok (.aload_n 0, 1) := by decide +kernel
theorem dX12_init_46 : decode cX12_init 46 = .ok (.sipush 244, 3) := by decide +kernel
theorem dX12_init_49 : decode cX12_init 49 = .ok (.newarray .int, 2) := by decide +kernel
theorem dX12_init_51 : decode cX12_init 51 = .ok (.putfield 74, 3) := by decide +kernel
theorem dX12_init_54 : decode cX12_init 54 = .ok (.aload_n 0, 1) := by decide +kernel
theorem dX12_init_55 : decode cX12_init 55 = .ok (.bipush 64, 2) := by decide +kernel
theorem dX12_init_57 : decode cX12_init 57 = .ok (.newarray .int, 2) := by decide +kernel
theorem dX12_init_59 : decode cX12_init 59 = .ok (.putfield 77, 3) := by decide +kernel
theorem dX12_init_62 : decode cX12_init 62 = .ok (.aload_n 0, 1) := by decide +kernel
theorem dX12_init_63 : decode cX12_init 63 = .ok (.bipush 61, 2) := by decide +kernel
theorem dX12_init_65 : decode cX12_init 65 = .ok (.newarray .int, 2) := by decide +kernel
theorem dX12_init_67 : decode cX12_init 67 = .ok (.putfield 80, 3) := by decide +kernel
theorem dX12_init_70 : decode cX12_init 70 = .ok (.aload_n 0, 1) := by decide +kernel
theorem dX12_init_71 : decode cX12_init 71 = .ok (.bipush 31, 2) := by decide +kernel
theorem dX12_init_73 : decode cX12_init 73 = .ok (.newarray .int, 2) := by decide +kernel
theorem dX12_init_75 : decode cX12_init 75 = .ok (.putfield 83, 3) := by decide +kernel
theorem dX12_init_78 : decode cX12_init 78 = .ok (.aload_n 0, 1) := by decide +kernel
theorem dX12_init_79 : decode cX12_init 79 = .ok (.bipush 31, 2) := by decide +kernel
theorem dX12_init_81 : decode cX12_init 81 = .ok (.newarray .int, 2) := by decide +kernel
theorem dX12_init_83 : decode cX12_init 83 = .ok (.putfield 86, 3) := by decide +kernel
theorem dX12_init_86 : decode cX12_init 86 = .ok (.aload_n 0, 1) := by decide +kernel
theorem dX12_init_87 : decode cX12_init 87 = .ok (.sipush 2720, 3) := by decide +kernel
theorem dX12_init_90 : decode cX12_init 90 = .ok (.newarray .boolean, 2) := by decide +kernel
theorem dX12_init_92 : decode cX12_init 92 = .ok (.putfield 89, 3) := by decide +kernel
theorem dX12_init_95 : decode cX12_init 95 = .ok (.aload_n 0, 1) := by decide +kernel
theorem dX12_init_96 : decode cX12_init 96 = .ok (.sipush 680, 3) := by decide +kernel
theorem dX12_init_99 : decode cX12_init 99 = .ok (.newarray .int, 2) := by decide +kernel
theorem dX12_init_101 : decode cX12_init 101 = .ok (.putfield 93, 3) := by decide +kernel
theorem dX12_init_104 : decode cX12_init 104 = .ok (.aload_n 0, 1) := by decide +kernel
theorem dX12_init_105 : decode cX12_init 105 = .ok (.sipush 680, 3) := by decide +kernel
theorem dX12_init_108 : decode cX12_init 108 = .ok (.newarray .int, 2) := by decide +kernel
theorem dX12_init_110 : decode cX12_init 110 = .ok (.putfield 96, 3) := by decide +kernel
theorem dX12_init_113 : decode cX12_init 113 = .ok (.aload_n 0, 1) := by decide +kernel
theorem dX12_init_114 : decode cX12_init 114 = .ok (.sipush 680, 3) := by decide +kernel
theorem dX12_init_117 : decode cX12_init 117 = .ok (.newarray .int, 2) := by decide +kernel
theorem dX12_init_119 : decode cX12_init 119 = .ok (.putfield 99, 3) := by decide +kernel
theorem dX12_init_122 : decode cX12_init 122 = .ok (.aload_n 0, 1) := by decide +kernel
theorem dX12_init_123 : decode cX12_init 123 = .ok (.sipush 680, 3) := by decide +kernel
theorem dX12_init_126 : decode cX12_init 126 = .ok (.newarray .int, 2) := by decide +kernel
theorem dX12_init_128 : decode cX12_init 128 = .ok (.putfield 102, 3) := by decide +kernel
theorem dX12_init_131 : decode cX12_init 131 = .ok (.aload_n 0, 1) := by decide +kernel
theorem dX12_init_132 : decode cX12_init 132 = .ok (.sipush 680, 3) := by decide +kernel
theorem dX12_init_135 : decode cX12_init 135 = .ok (.newarray .int, 2) := by decide +kernel
theorem dX12_init_137 : decode cX12_init 137 = .ok (.putfield 105, 3) := by decide +kernel
theorem dX12_init_140 : decode cX12_init 140 = .ok (.aload_n 0, 1) := by decide +kernel
theorem dX12_init_141 : decode cX12_init 141 = .ok (.ldc 108, 2) := by decide +kernel
theorem dX12_init_143 : decode cX12_init 143 = .ok (.newarray .int, 2) := by decide +kernel
theorem dX12_init_145 : decode cX12_init 145 = .ok (.putfield 109, 3) := by decide +kernel
theorem dX12_init_148 : decode cX12_init 148 = .ok (.aload_n 0, 1) := by decide +kernel
theorem dX12_init_149 : decode cX12_init 149 = .ok (.sipush 680, 3) := by decide +kernel
theorem dX12_init_152 : decode cX12_init 152 = .ok (.newarray .int, 2) := by decide +kernel
theorem dX12_init_154 : decode cX12_init 154 = .ok (.putfield 112, 3) := by decide +kernel
theorem dX12_init_157 : decode cX12_init 157 = .ok (.aload_n 0, 1) := by decide +kernel
theorem dX12_init_158 : decode cX12_init 158 = .ok (.sipush 680, 3) := by decide +kernel
theorem dX12_init_161 : decode cX12_init 161 = .ok (.newarray .int, 2) := by decide +kernel
theorem dX12_init_163 : decode cX12_init 163 = .ok (.putfield 115, 3) := by decide +kernel
theorem dX12_init_166 : decode cX12_init 166 = .ok (.aload_n 0, 1) := by decide +kernel
theorem dX12_init_167 : decode cX12_init 167 = .ok (.sipush 5520, 3) := by decide +kernel
theorem dX12_init_170 : decode cX12_init 170 = .ok (.newarray .boolean, 2) := by decide +kernel
theorem dX12_init_172 : decode cX12_init 172 = .ok (.putfield 118, 3) := by decide +kernel
theorem dX12_init_175 : decode cX12_init 175 = .ok (.aload_n 0, 1) := by decide +kernel
theorem dX12_init_176 : decode cX12_init 176 = .ok (.bipush 8, 2) := by decide +kernel
theorem dX12_init_178 : decode cX12_init 178 = .ok (.newarray .int, 2) := by decide +kernel
theorem dX12_init_180 : decode cX12_init 180 = .ok (.putfield 121, 3) := by decide +kernel
theorem dX12_init_183 : decode cX12_init 183 = .ok (.aload_n 0, 1) := by decide +kernel
theorem dX12_init_184 : decode cX12_init 184 = .ok (.bipush 8, 2) := by decide +kernel
theorem dX12_init_186 : decode cX12_init 186 = .ok (.newarray .boolean, 2) := by decide +kernel
theorem dX12_init_188 : decode cX12_init 188 = .ok (.putfield 124, 3) := by decide +kernel
theorem dX12_init_191 : decode cX12_init 191 = .ok (.aload_n 0, 1) := by decide +kernel
theorem dX12_init_192 : decode cX12_init 192 = .ok (.sipush 2720, 3) := by decide +kernel
theorem dX12_init_195 : decode cX12_init 195 = .ok (.newarray .boolean, 2) := by decide +kernel
theorem dX12_init_197 : decode cX12_init 197 = .ok (.putfield 127, 3) := by decide +kernel
theorem dX12_init_200 : decode cX12_init 200 = .ok (.aload_n 0, 1) := by decide +kernel
theorem dX12_init_201 : decode cX12_init 201 = .ok (.invokevirtual 130, 3) := by decide +kernel
theorem dX12_init_204 : decode cX12_init 204 = .ok (.aload_n 0, 1) := by decide +kernel
theorem dX12_init_205 : decode cX12_init 205 = .ok (.invokevirtual 133, 3) := by decide +kernel
theorem dX12_init_208 : decode cX12_init 208 = .ok (.return_, 1) := by decide +kernel
theorem dX12_clearsDraft_0 : decode cX12_clearsDraft 0 = .ok (.iconst 0, 1) := by decide +kernel
theorem dX12_clearsDraft_1 : decode cX12_clearsDraft 1 = .ok (.istore_n 1, 1) := by decide +kernel
theorem dX12_clearsDraft_2 : decode cX12_clearsDraft 2 = .ok (.iload_n 1, 1) := by decide +kernel
theorem dX12_clearsDraft_3 : decode cX12_clearsDraft 3 = .ok (.bipush 51, 2) := by decide +kernel
theorem dX12_clearsDraft_5 : decode cX12_clearsDraft 5 = .ok (.if_icmp .ge 16, 3) := by decide +kernel
theorem dX12_clearsDraft_8 : decode cX12_clearsDraft 8 = .ok (.aload_n 0, 1) := by decide +kernel
theorem dX12_clearsDraft_9 : decode cX12_clearsDraft 9 = .ok (.getfield 65, 3) := by decide +kernel
theorem dX12_clearsDraft_12 : decode cX12_clearsDraft 12 = .ok (.iload_n 1, 1) := by decide +kernel
theorem dX12_clearsDraft_13 : decode cX12_clearsDraft 13 = .ok (.iconst 0, 1) := by decide +kernel
theorem dX12_clearsDraft_14 : decode cX12_clearsDraft 14 = .ok (.iastore, 1) := by decide +kernel
theorem dX12_clearsDraft_15 : decode cX12_clearsDraft 15 = .ok (.iinc 1 1, 3) := by decide +kernel
theorem dX12_clearsDraft_18 : decode cX12_clearsDraft 18 = .ok (.goto (-16), 3) := by decide +kernel
theorem dX12_clearsDraft_21 : decode cX12_clearsDraft 21 = .ok (.aload_n 0, 1) := by decide +kernel
theorem dX12_clearsDraft_22 : decode cX12_clearsDraft 22 = .ok (.getfield 65, 3) := by decide +kernel
theorem dX12_clearsDraft_25 : decode cX12_clearsDraft 25 = .ok (.iconst 0, 1) := by decide +kernel
theorem dX12_clearsDraft_26 : decode cX12_clearsDraft 26 = .ok (.bipush 7, 2) := by decide +kernel
theorem dX12_clearsDraft_28 : decode cX12_clearsDraft 28 = .ok (.iastore, 1) := by decide +kernel
theorem dX12_clearsDraft_29 : decode cX12_clearsDraft 29 = .ok (.aload_n 0, 1) := by decide +kernel
theorem dX12_clearsDraft_30 : decode cX12_clearsDraft 30 = .ok (.getfield 65, 3) := by decide +kernel
theorem dX12_clearsDraft_33 : decode cX12_clearsDraft 33 = .ok (.iconst 3, 1) := by decide +kernel
theorem dX12_clearsDraft_34 : decode cX12_clearsDraft 34 = .ok (.bipush 16, 2) := by decide +kernel
theorem dX12_clearsDraft_36 : decode cX12_clearsDraft 36 = .ok (.iastore, 1) := by decide +kernel
theorem dX12_clearsDraft_37 : decode cX12_clearsDraft 37 = .ok (.aload_n 0, 1) := by decide +kernel
theorem dX12_clearsDraft_38 : decode cX12_clearsDraft 38 = .ok (.getfield 65, 3) := by decide +kernel
theorem dX12_clearsDraft_41 : decode cX12_clearsDraft 41 = .ok (.iconst 4, 1) := by decide +kernel
theorem dX12_clearsDraft_42 : decode cX12_clearsDraft 42 = .ok (.bipush 100, 2) := by decide +kernel
theorem dX12_clearsDraft_44 : decode cX12_clearsDraft 44 = .ok (.iastore, 1) := by decide +kernel
theorem dX12_clearsDraft_45 : decode cX12_clearsDraft 45 = .ok (.aload_n 0, 1) := by decide +kernel
theorem dX12_clearsDraft_46 : decode cX12_clearsDraft 46 = .ok (.getfield 65, 3) := by decide +kernel
theorem dX12_clearsDraft_49 : decode cX12_clearsDraft 49 = .ok (.iconst 5, 1) := by decide +kernel
theorem dX12_clearsDraft_50 : decode cX12_clearsDraft 50 = .ok (.iconst (-1), 1) := by decide +kernel
theorem dX12_clearsDraft_51 : decode cX12_clearsDraft 51 = .ok (.iastore, 1) := by decide +kernel
theorem dX12_clearsDraft_52 : decode cX12_clearsDraft 52 = .ok (.aload_n 0, 1) := by decide +kernel
theorem dX12_clearsDraft_53 : decode cX12_clearsDraft 53 = .ok (.getfield 65, 3) := by decide +kernel
theorem dX12_clearsDraft_56 : decode cX12_clearsDraft 56 = .ok (.bipush 6, 2) := by decide +kernel
theorem dX12_clearsDraft_58 : decode cX12_clearsDraft 58 = .ok (.iconst (-1), 1) := by decide +kernel
theorem dX12_clearsDraft_59 : decode cX12_clearsDraft 59 = .ok (.iastore, 1) := by decide +kernel
theorem dX12_clearsDraft_60 : decode cX12_clearsDraft 60 = .ok (.aload_n 0, 1) := by decide +kernel
theorem dX12_clearsDraft_61 : decode cX12_clearsDraft 61 = .ok (.getfield 65, 3) := by decide +kernel
theorem dX12_clearsDraft_64 : decode cX12_clearsDraft 64 = .ok (.bipush 7, 2) := by decide +kernel
theorem dX12_clearsDraft_66 : decode cX12_clearsDraft 66 = .ok (.iconst (-1), 1) := by decide +kernel
theorem dX12_clearsDraft_67 : decode cX12_clearsDraft 67 = .ok (.iastore, 1) := by decide +kernel
theorem dX12_clearsDraft_68 : decode cX12_clearsDraft 68 = .ok (.aload_n 0, 1) := by decide +kernel
theorem dX12_clearsDraft_69 : decode cX12_clearsDraft 69 = .ok (.iconst 0, 1) := by decide +kernel
theorem dX12_clearsDraft_70 : decode cX12_clearsDraft 70 = .ok (.putfield 136, 3) := by decide +kernel
theorem dX12_clearsDraft_73 : decode cX12_clearsDraft 73 = .ok (.return_, 1) := by decide +kernel
theorem dX12_takes_0 : decode cX12_takes 0 = .ok (.iconst 0, 1) := by decide +kernel
theorem dX12_takes_1 : decode cX12_takes 1 = .ok (.istore_n 1, 1) := by decide +kernel
theorem dX12_takes_2 : decode cX12_takes 2 = .ok (.iload_n 1, 1) := by decide +kernel
theorem dX12_takes_3 : decode cX12_takes 3 = .ok (.bipush 51, 2) := by decide +kernel
theorem dX12_takes_5 : decode cX12_takes 5 = .ok (.if_icmp .ge 21, 3) := by decide +kernel
theorem dX12_takes_8 : decode cX12_takes 8 = .ok (.aload_n 0, 1) := by decide +kernel
theorem dX12_takes_9 : decode cX12_takes 9 = .ok (.getfield 61, 3) := by decide +kernel
theorem dX12_takes_12 : decode cX12_takes 12 = .ok (.iload_n 1, 1) := by decide +kernel
theorem dX12_takes_13 : decode cX12_takes 13 = .ok (.aload_n 0, 1) := by decide +kernel
theorem dX12_takes_14 : decode cX12_takes 14 = .ok (.getfield 65, 3) := by decide +kernel
theorem dX12_takes_17 : decode cX12_takes 17 = .ok (.iload_n 1, 1) := by decide +kernel
theorem dX12_takes_18 : decode cX12_takes 18 = .ok (.iaload, 1) := by decide +kernel
theorem dX12_takes_19 : decode cX12_takes 19 = .ok (.iastore, 1) := by decide +kernel
theorem dX12_takes_20 : decode cX12_takes 20 = .ok (.iinc 1 1, 3) := by decide +kernel
theorem dX12_takes_23 : decode cX12_takes 23 = .ok (.goto (-21), 3) := by decide +kernel
theorem dX12_takes_26 : decode cX12_takes 26 = .ok (.return_, 1) := by decide +kernel
set_option maxRecDepth 20000 in
theorem ggX12_once_X12_bad : GoodIn wsX12_once wsX12_bad := goodIn_r _ [6, 7, 8, 26, 27, 28, 29, 30, 31, 32, 33, 34, 35, 36, 37, 38, 39, 40, 41, 42, 43, 44, 45, 46, 47, 48, 49, 50, 51, 52, 53, 54, 55, 56, 57, 58, 59, 60, 61, 62, 63] (by decide +kernel) (by decide +kernel)
set_option maxRecDepth 20000 in
theorem gX12_once_X12_bad : GoodIn wsX12_once (wsV RX12 45 RX12 yX12_bad wsX12_bad) := goodIn_app (goodIn_of _ (by decide +kernel)) ggX12_once_X12_bad
set_option maxRecDepth 20000 in
theorem ggX12_once_X12_go : GoodIn wsX12_once wsX12_go := goodIn_r _ [12, 13, 8, 14, 15, 16, 17, 18, 19, 5, 20, 21, 22, 23, 24, 25, 26, 27, 28, 29, 30, 31, 32, 33, 34, 35, 36, 37, 38, 39, 40, 41, 42, 43, 44, 45, 46, 47, 48, 49, 50, 51, 52, 53, 54, 55, 56, 57, 58, 59, 60, 61, 62, 63] (by decide +kernel) (by decide +kernel)
set_option maxRecDepth 20000 in
theorem gX12_once_X12_go : GoodIn wsX12_once (wsV RX12 52 RX12 yX12_go wsX12_go) := goodIn_app (goodIn_of _ (by decide +kernel)) ggX12_once_X12_go
theorem dX12_once_0 : decode cX12_once 0 = .ok (.aload_n 0, 1) := by decide +kernel
theorem dX12_once_1 : decode cX12_once 1 = .ok (.getfield 136, 3) := by decide +kernel
theorem dX12_once_4 : decode cX12_once 4 = .ok (.iload_n 1, 1) := by decide +kernel
theorem dX12_once_5 : decode cX12_once 5 = .ok (.ishr, 1) := by decide +kernel
theorem dX12_once_6 : decode cX12_once 6 = .ok (.iconst 1, 1) := by decide +kernel
theorem dX12_once_7 : decode cX12_once 7 = .ok (.iand, 1) := by decide +kernel
theorem dX12_once_8 : decode cX12_once 8 = .ok (.iconst 1, 1) := by decide +kernel
