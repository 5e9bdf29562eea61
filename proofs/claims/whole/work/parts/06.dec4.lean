theorem dX12_laysBest_37 : decode cX12_laysBest 37 = .ok (.getfield 232, 3) := by decide +kernel
theorem dX12_laysBest_40 : decode cX12_laysBest 40 = .ok (.iconst 1, 1) := by decide +kernel
theorem dX12_laysBest_41 : decode cX12_laysBest 41 = .ok (.isub, 1) := by decide +kernel
theorem dX12_laysBest_42 : decode cX12_laysBest 42 = .ok (.istore_n 1, 1) := by decide +kernel
theorem dX12_laysBest_43 : decode cX12_laysBest 43 = .ok (.iload_n 1, 1) := by decide +kernel
theorem dX12_laysBest_44 : decode cX12_laysBest 44 = .ok (.ifCond .lt 168, 3) := by decide +kernel
theorem dX12_laysBest_47 : decode cX12_laysBest 47 = .ok (.aload_n 0, 1) := by decide +kernel
theorem dX12_laysBest_48 : decode cX12_laysBest 48 = .ok (.iload_n 1, 1) := by decide +kernel
theorem dX12_laysBest_49 : decode cX12_laysBest 49 = .ok (.iconst 1, 1) := by decide +kernel
theorem dX12_laysBest_50 : decode cX12_laysBest 50 = .ok (.iconst 0, 1) := by decide +kernel
theorem dX12_laysBest_51 : decode cX12_laysBest 51 = .ok (.invokevirtual 255, 3) := by decide +kernel
theorem dX12_laysBest_54 : decode cX12_laysBest 54 = .ok (.istore_n 2, 1) := by decide +kernel
theorem dX12_laysBest_55 : decode cX12_laysBest 55 = .ok (.aload_n 0, 1) := by decide +kernel
theorem dX12_laysBest_56 : decode cX12_laysBest 56 = .ok (.iload_n 1, 1) := by decide +kernel
theorem dX12_laysBest_57 : decode cX12_laysBest 57 = .ok (.iconst 0, 1) := by decide +kernel
theorem dX12_laysBest_58 : decode cX12_laysBest 58 = .ok (.iconst (-1), 1) := by decide +kernel
theorem dX12_laysBest_59 : decode cX12_laysBest 59 = .ok (.invokevirtual 255, 3) := by decide +kernel
theorem dX12_laysBest_62 : decode cX12_laysBest 62 = .ok (.istore_n 3, 1) := by decide +kernel
theorem dX12_laysBest_63 : decode cX12_laysBest 63 = .ok (.sipush 680, 3) := by decide +kernel
theorem dX12_laysBest_66 : decode cX12_laysBest 66 = .ok (.iload_n 1, 1) := by decide +kernel
theorem dX12_laysBest_67 : decode cX12_laysBest 67 = .ok (.iconst 1, 1) := by decide +kernel
theorem dX12_laysBest_68 : decode cX12_laysBest 68 = .ok (.iadd, 1) := by decide +kernel
theorem dX12_laysBest_69 : decode cX12_laysBest 69 = .ok (.imul, 1) := by decide +kernel
theorem dX12_laysBest_70 : decode cX12_laysBest 70 = .ok (.istore 4, 2) := by decide +kernel
theorem dX12_laysBest_72 : decode cX12_laysBest 72 = .ok (.iconst 0, 1) := by decide +kernel
theorem dX12_laysBest_73 : decode cX12_laysBest 73 = .ok (.istore 5, 2) := by decide +kernel
theorem dX12_laysBest_75 : decode cX12_laysBest 75 = .ok (.iload 5, 2) := by decide +kernel
theorem dX12_laysBest_77 : decode cX12_laysBest 77 = .ok (.iload_n 1, 1) := by decide +kernel
theorem dX12_laysBest_78 : decode cX12_laysBest 78 = .ok (.if_icmp .gt 128, 3) := by decide +kernel
theorem dX12_laysBest_81 : decode cX12_laysBest 81 = .ok (.bipush 100, 2) := by decide +kernel
theorem dX12_laysBest_83 : decode cX12_laysBest 83 = .ok (.aload_n 0, 1) := by decide +kernel
theorem dX12_laysBest_84 : decode cX12_laysBest 84 = .ok (.getfield 109, 3) := by decide +kernel
theorem dX12_laysBest_87 : decode cX12_laysBest 87 = .ok (.iload 4, 2) := by decide +kernel
theorem dX12_laysBest_89 : decode cX12_laysBest 89 = .ok (.iload 5, 2) := by decide +kernel
theorem dX12_laysBest_91 : decode cX12_laysBest 91 = .ok (.iadd, 1) := by decide +kernel
theorem dX12_laysBest_92 : decode cX12_laysBest 92 = .ok (.iconst 1, 1) := by decide +kernel
theorem dX12_laysBest_93 : decode cX12_laysBest 93 = .ok (.iadd, 1) := by decide +kernel
theorem dX12_laysBest_94 : decode cX12_laysBest 94 = .ok (.iaload, 1) := by decide +kernel
theorem dX12_laysBest_95 : decode cX12_laysBest 95 = .ok (.iadd, 1) := by decide +kernel
theorem dX12_laysBest_96 : decode cX12_laysBest 96 = .ok (.aload_n 0, 1) := by decide +kernel
theorem dX12_laysBest_97 : decode cX12_laysBest 97 = .ok (.getfield 112, 3) := by decide +kernel
theorem dX12_laysBest_100 : decode cX12_laysBest 100 = .ok (.iload 5, 2) := by decide +kernel
theorem dX12_laysBest_102 : decode cX12_laysBest 102 = .ok (.iaload, 1) := by decide +kernel
theorem dX12_laysBest_103 : decode cX12_laysBest 103 = .ok (.iload_n 2, 1) := by decide +kernel
theorem dX12_laysBest_104 : decode cX12_laysBest 104 = .ok (.if_icmp .le 13, 3) := by decide +kernel
theorem dX12_laysBest_107 : decode cX12_laysBest 107 = .ok (.aload_n 0, 1) := by decide +kernel
theorem dX12_laysBest_108 : decode cX12_laysBest 108 = .ok (.getfield 112, 3) := by decide +kernel
theorem dX12_laysBest_111 : decode cX12_laysBest 111 = .ok (.iload 5, 2) := by decide +kernel
theorem dX12_laysBest_113 : decode cX12_laysBest 113 = .ok (.iaload, 1) := by decide +kernel
theorem dX12_laysBest_114 : decode cX12_laysBest 114 = .ok (.goto 4, 3) := by decide +kernel
theorem dX12_laysBest_117 : decode cX12_laysBest 117 = .ok (.iload_n 2, 1) := by decide +kernel
theorem dX12_laysBest_118 : decode cX12_laysBest 118 = .ok (.iadd, 1) := by decide +kernel
theorem dX12_laysBest_119 : decode cX12_laysBest 119 = .ok (.istore 6, 2) := by decide +kernel
theorem dX12_laysBest_121 : decode cX12_laysBest 121 = .ok (.aload_n 0, 1) := by decide +kernel
theorem dX12_laysBest_122 : decode cX12_laysBest 122 = .ok (.getfield 115, 3) := by decide +kernel
theorem dX12_laysBest_125 : decode cX12_laysBest 125 = .ok (.iload 5, 2) := by decide +kernel
theorem dX12_laysBest_127 : decode cX12_laysBest 127 = .ok (.iaload, 1) := by decide +kernel
theorem dX12_laysBest_128 : decode cX12_laysBest 128 = .ok (.iload_n 3, 1) := by decide +kernel
theorem dX12_laysBest_129 : decode cX12_laysBest 129 = .ok (.if_icmp .le 13, 3) := by decide +kernel
theorem dX12_laysBest_132 : decode cX12_laysBest 132 = .ok (.aload_n 0, 1) := by decide +kernel
theorem dX12_laysBest_133 : decode cX12_laysBest 133 = .ok (.getfield 115, 3) := by decide +kernel
theorem dX12_laysBest_136 : decode cX12_laysBest 136 = .ok (.iload 5, 2) := by decide +kernel
theorem dX12_laysBest_138 : decode cX12_laysBest 138 = .ok (.iaload, 1) := by decide +kernel
theorem dX12_laysBest_139 : decode cX12_laysBest 139 = .ok (.goto 4, 3) := by decide +kernel
theorem dX12_laysBest_142 : decode cX12_laysBest 142 = .ok (.iload_n 3, 1) := by decide +kernel
theorem dX12_laysBest_143 : decode cX12_laysBest 143 = .ok (.istore 7, 2) := by decide +kernel
theorem dX12_laysBest_145 : decode cX12_laysBest 145 = .ok (.iload 7, 2) := by decide +kernel
theorem dX12_laysBest_147 : decode cX12_laysBest 147 = .ok (.iconst (-1), 1) := by decide +kernel
theorem dX12_laysBest_148 : decode cX12_laysBest 148 = .ok (.if_icmp .ne 7, 3) := by decide +kernel
theorem dX12_laysBest_151 : decode cX12_laysBest 151 = .ok (.iconst 0, 1) := by decide +kernel
theorem dX12_laysBest_152 : decode cX12_laysBest 152 = .ok (.goto 19, 3) := by decide +kernel
theorem dX12_laysBest_155 : decode cX12_laysBest 155 = .ok (.bipush 100, 2) := by decide +kernel
theorem dX12_laysBest_157 : decode cX12_laysBest 157 = .ok (.aload_n 0, 1) := by decide +kernel
theorem dX12_laysBest_158 : decode cX12_laysBest 158 = .ok (.getfield 109, 3) := by decide +kernel
theorem dX12_laysBest_161 : decode cX12_laysBest 161 = .ok (.iload 4, 2) := by decide +kernel
theorem dX12_laysBest_163 : decode cX12_laysBest 163 = .ok (.iload 5, 2) := by decide +kernel
theorem dX12_laysBest_165 : decode cX12_laysBest 165 = .ok (.iadd, 1) := by decide +kernel
theorem dX12_laysBest_166 : decode cX12_laysBest 166 = .ok (.iaload, 1) := by decide +kernel
theorem dX12_laysBest_167 : decode cX12_laysBest 167 = .ok (.iadd, 1) := by decide +kernel
theorem dX12_laysBest_168 : decode cX12_laysBest 168 = .ok (.iload 7, 2) := by decide +kernel
theorem dX12_laysBest_170 : decode cX12_laysBest 170 = .ok (.iadd, 1) := by decide +kernel
theorem dX12_laysBest_171 : decode cX12_laysBest 171 = .ok (.istore 8, 2) := by decide +kernel
theorem dX12_laysBest_173 : decode cX12_laysBest 173 = .ok (.aload_n 0, 1) := by decide +kernel
theorem dX12_laysBest_174 : decode cX12_laysBest 174 = .ok (.getfield 109, 3) := by decide +kernel
theorem dX12_laysBest_177 : decode cX12_laysBest 177 = .ok (.sipush 680, 3) := by decide +kernel
theorem dX12_laysBest_180 : decode cX12_laysBest 180 = .ok (.iload_n 1, 1) := by decide +kernel
theorem dX12_laysBest_181 : decode cX12_laysBest 181 = .ok (.imul, 1) := by decide +kernel
theorem dX12_laysBest_182 : decode cX12_laysBest 182 = .ok (.iload 5, 2) := by decide +kernel
theorem dX12_laysBest_184 : decode cX12_laysBest 184 = .ok (.iadd, 1) := by decide +kernel
theorem dX12_laysBest_185 : decode cX12_laysBest 185 = .ok (.iload 8, 2) := by decide +kernel
theorem dX12_laysBest_187 : decode cX12_laysBest 187 = .ok (.iload 6, 2) := by decide +kernel
theorem dX12_laysBest_189 : decode cX12_laysBest 189 = .ok (.if_icmp .le 8, 3) := by decide +kernel
theorem dX12_laysBest_192 : decode cX12_laysBest 192 = .ok (.iload 8, 2) := by decide +kernel
theorem dX12_laysBest_194 : decode cX12_laysBest 194 = .ok (.goto 5, 3) := by decide +kernel
theorem dX12_laysBest_197 : decode cX12_laysBest 197 = .ok (.iload 6, 2) := by decide +kernel
theorem dX12_laysBest_199 : decode cX12_laysBest 199 = .ok (.iastore, 1) := by decide +kernel
theorem dX12_laysBest_200 : decode cX12_laysBest 200 = .ok (.iinc 5 1, 3) := by decide +kernel
theorem dX12_laysBest_203 : decode cX12_laysBest 203 = .ok (.goto (-128), 3) := by decide +kernel
theorem dX12_laysBest_206 : decode cX12_laysBest 206 = .ok (.iinc 1 (-1), 3) := by decide +kernel
theorem dX12_laysBest_209 : decode cX12_laysBest 209 = .ok (.goto (-166), 3) := by decide +kernel
theorem dX12_laysBest_212 : decode cX12_laysBest 212 = .ok (.return_, 1) := by decide +kernel
set_option maxRecDepth 20000 in
theorem ggX12_readsBest_X12_premiums : GoodIn wsX12_readsBest wsX12_premiums := goodIn_r _ [10, 11, 21, 22, 23, 24, 25, 26, 27, 28, 29, 30, 31, 32, 33, 34, 35, 36, 37, 38, 39, 40, 41, 42, 43, 44, 45, 46, 47, 48, 49, 50, 51, 52, 53, 54, 55, 56, 57, 58] (by decide +kernel) (by decide +kernel)
set_option maxRecDepth 20000 in
theorem gX12_readsBest_X12_premiums : GoodIn wsX12_readsBest (wsV RX12 177 RX12 yX12_premiums wsX12_premiums) := goodIn_app (goodIn_of _ (by decide +kernel)) ggX12_readsBest_X12_premiums
set_option maxRecDepth 20000 in
theorem ggX12_readsBest_X12_canBe : GoodIn wsX12_readsBest wsX12_canBe := goodIn_r _ [15, 16, 17, 18, 19, 9, 20, 11, 21, 22, 23, 24, 25, 26, 27, 28, 29, 30, 31, 32, 33, 34, 35, 36, 37, 38, 39, 40, 41, 42, 43, 44, 45, 46, 47, 48, 49, 50, 51, 52, 53, 54, 55, 56, 57, 58] (by decide +kernel) (by decide +kernel)
set_option maxRecDepth 20000 in
theorem gX12_readsBest_X12_canBe : GoodIn wsX12_readsBest (wsV RX12 259 RX12 yX12_canBe wsX12_canBe) := goodIn_app (goodIn_of _ (by decide +kernel)) ggX12_readsBest_X12_canBe
set_option maxRecDepth 20000 in
theorem ggX12_readsBest_X12_premiumIs : GoodIn wsX12_readsBest wsX12_premiumIs := goodIn_r _ [20, 11, 21, 22, 23, 24, 25, 26, 27, 28, 29, 30, 31, 32, 33, 34, 35, 36, 37, 38, 39, 40, 41, 42, 43, 44, 45, 46, 47, 48, 49, 50, 51, 52, 53, 54, 55, 56, 57, 58] (by decide +kernel) (by decide +kernel)
set_option maxRecDepth 20000 in
theorem gX12_readsBest_X12_premiumIs : GoodIn wsX12_readsBest (wsV RX12 180 RX12 yX12_premiumIs wsX12_premiumIs) := goodIn_app (goodIn_of _ (by decide +kernel)) ggX12_readsBest_X12_premiumIs
theorem dX12_readsBest_0 : decode cX12_readsBest 0 = .ok (.iconst 0, 1) := by decide +kernel
theorem dX12_readsBest_1 : decode cX12_readsBest 1 = .ok (.istore_n 1, 1) := by decide +kernel
theorem dX12_readsBest_2 : decode cX12_readsBest 2 = .ok (.iconst 0, 1) := by decide +kernel
theorem dX12_readsBest_3 : decode cX12_readsBest 3 = .ok (.istore_n 2, 1) := by decide +kernel
theorem dX12_readsBest_4 : decode cX12_readsBest 4 = .ok (.iload_n 2, 1) := by decide +kernel
theorem dX12_readsBest_5 : decode cX12_readsBest 5 = .ok (.aload_n 0, 1) := by decide +kernel
theorem dX12_readsBest_6 : decode cX12_readsBest 6 = .ok (.getfield 232, 3) := by decide +kernel
theorem dX12_readsBest_9 : decode cX12_readsBest 9 = .ok (.if_icmp .ge 174, 3) := by decide +kernel
theorem dX12_readsBest_12 : decode cX12_readsBest 12 = .ok (.aload_n 0, 1) := by decide +kernel
theorem dX12_readsBest_13 : decode cX12_readsBest 13 = .ok (.getfield 105, 3) := by decide +kernel
theorem dX12_readsBest_16 : decode cX12_readsBest 16 = .ok (.iload_n 2, 1) := by decide +kernel
theorem dX12_readsBest_17 : decode cX12_readsBest 17 = .ok (.iload_n 1, 1) := by decide +kernel
theorem dX12_readsBest_18 : decode cX12_readsBest 18 = .ok (.iastore, 1) := by decide +kernel
theorem dX12_readsBest_19 : decode cX12_readsBest 19 = .ok (.aload_n 0, 1) := by decide +kernel
theorem dX12_readsBest_20 : decode cX12_readsBest 20 = .ok (.getfield 109, 3) := by decide +kernel
theorem dX12_readsBest_23 : decode cX12_readsBest 23 = .ok (.sipush 680, 3) := by decide +kernel
theorem dX12_readsBest_26 : decode cX12_readsBest 26 = .ok (.iload_n 2, 1) := by decide +kernel
theorem dX12_readsBest_27 : decode cX12_readsBest 27 = .ok (.imul, 1) := by decide +kernel
theorem dX12_readsBest_28 : decode cX12_readsBest 28 = .ok (.iload_n 1, 1) := by decide +kernel
theorem dX12_readsBest_29 : decode cX12_readsBest 29 = .ok (.iadd, 1) := by decide +kernel
theorem dX12_readsBest_30 : decode cX12_readsBest 30 = .ok (.iaload, 1) := by decide +kernel
theorem dX12_readsBest_31 : decode cX12_readsBest 31 = .ok (.istore_n 3, 1) := by decide +kernel
theorem dX12_readsBest_32 : decode cX12_readsBest 32 = .ok (.bipush 100, 2) := by decide +kernel
theorem dX12_readsBest_34 : decode cX12_readsBest 34 = .ok (.aload_n 0, 1) := by decide +kernel
theorem dX12_readsBest_35 : decode cX12_readsBest 35 = .ok (.getfield 109, 3) := by decide +kernel
theorem dX12_readsBest_38 : decode cX12_readsBest 38 = .ok (.sipush 680, 3) := by decide +kernel
theorem dX12_readsBest_41 : decode cX12_readsBest 41 = .ok (.iload_n 2, 1) := by decide +kernel
theorem dX12_readsBest_42 : decode cX12_readsBest 42 = .ok (.iconst 1, 1) := by decide +kernel
theorem dX12_readsBest_43 : decode cX12_readsBest 43 = .ok (.iadd, 1) := by decide +kernel
theorem dX12_readsBest_44 : decode cX12_readsBest 44 = .ok (.imul, 1) := by decide +kernel
theorem dX12_readsBest_45 : decode cX12_readsBest 45 = .ok (.iload_n 1, 1) := by decide +kernel
theorem dX12_readsBest_46 : decode cX12_readsBest 46 = .ok (.iadd, 1) := by decide +kernel
theorem dX12_readsBest_47 : decode cX12_readsBest 47 = .ok (.iconst 1, 1) := by decide +kernel
theorem dX12_readsBest_48 : decode cX12_readsBest 48 = .ok (.iadd, 1) := by decide +kernel
theorem dX12_readsBest_49 : decode cX12_readsBest 49 = .ok (.iaload, 1) := by decide +kernel
theorem dX12_readsBest_50 : decode cX12_readsBest 50 = .ok (.iadd, 1) := by decide +kernel
theorem dX12_readsBest_51 : decode cX12_readsBest 51 = .ok (.iload_n 3, 1) := by decide +kernel
theorem dX12_readsBest_52 : decode cX12_readsBest 52 = .ok (.if_icmp .ne 7, 3) := by decide +kernel
theorem dX12_readsBest_55 : decode cX12_readsBest 55 = .ok (.iconst (-1), 1) := by decide +kernel
theorem dX12_readsBest_56 : decode cX12_readsBest 56 = .ok (.goto 7, 3) := by decide +kernel
theorem dX12_readsBest_59 : decode cX12_readsBest 59 = .ok (.aload_n 0, 1) := by decide +kernel
theorem dX12_readsBest_60 : decode cX12_readsBest 60 = .ok (.invokevirtual 177, 3) := by decide +kernel
theorem dX12_readsBest_63 : decode cX12_readsBest 63 = .ok (.istore 4, 2) := by decide +kernel
theorem dX12_readsBest_65 : decode cX12_readsBest 65 = .ok (.iconst 0, 1) := by decide +kernel
theorem dX12_readsBest_66 : decode cX12_readsBest 66 = .ok (.istore 5, 2) := by decide +kernel
theorem dX12_readsBest_68 : decode cX12_readsBest 68 = .ok (.iload 5, 2) := by decide +kernel
theorem dX12_readsBest_70 : decode cX12_readsBest 70 = .ok (.aload_n 0, 1) := by decide +kernel
theorem dX12_readsBest_71 : decode cX12_readsBest 71 = .ok (.invokevirtual 177, 3) := by decide +kernel
theorem dX12_readsBest_74 : decode cX12_readsBest 74 = .ok (.if_icmp .ge 75, 3) := by decide +kernel
theorem dX12_readsBest_77 : decode cX12_readsBest 77 = .ok (.iload 4, 2) := by decide +kernel
theorem dX12_readsBest_79 : decode cX12_readsBest 79 = .ok (.aload_n 0, 1) := by decide +kernel
theorem dX12_readsBest_80 : decode cX12_readsBest 80 = .ok (.invokevirtual 177, 3) := by decide +kernel
theorem dX12_readsBest_83 : decode cX12_readsBest 83 = .ok (.if_icmp .ne 66, 3) := by decide +kernel
theorem dX12_readsBest_86 : decode cX12_readsBest 86 = .ok (.aload_n 0, 1) := by decide +kernel
theorem dX12_readsBest_87 : decode cX12_readsBest 87 = .ok (.iload_n 2, 1) := by decide +kernel
theorem dX12_readsBest_88 : decode cX12_readsBest 88 = .ok (.iload 5, 2) := by decide +kernel
theorem dX12_readsBest_90 : decode cX12_readsBest 90 = .ok (.iload_n 1, 1) := by decide +kernel
theorem dX12_readsBest_91 : decode cX12_readsBest 91 = .ok (.invokevirtual 259, 3) := by decide +kernel
theorem dX12_readsBest_94 : decode cX12_readsBest 94 = .ok (.ifCond .eq 45, 3) := by decide +kernel
theorem dX12_readsBest_97 : decode cX12_readsBest 97 = .ok (.bipush 100, 2) := by decide +kernel
theorem dX12_readsBest_99 : decode cX12_readsBest 99 = .ok (.aload_n 0, 1) := by decide +kernel
theorem dX12_readsBest_100 : decode cX12_readsBest 100 = .ok (.iload 5, 2) := by decide +kernel
theorem dX12_readsBest_102 : decode cX12_readsBest 102 = .ok (.iconst 1, 1) := by decide +kernel
theorem dX12_readsBest_103 : decode cX12_readsBest 103 = .ok (.invokevirtual 180, 3) := by decide +kernel
theorem dX12_readsBest_106 : decode cX12_readsBest 106 = .ok (.iadd, 1) := by decide +kernel
theorem dX12_readsBest_107 : decode cX12_readsBest 107 = .ok (.aload_n 0, 1) := by decide +kernel
theorem dX12_readsBest_108 : decode cX12_readsBest 108 = .ok (.getfield 109, 3) := by decide +kernel
theorem dX12_readsBest_111 : decode cX12_readsBest 111 = .ok (.sipush 680, 3) := by decide +kernel
theorem dX12_readsBest_114 : decode cX12_readsBest 114 = .ok (.iload_n 2, 1) := by decide +kernel
theorem dX12_readsBest_115 : decode cX12_readsBest 115 = .ok (.iconst 1, 1) := by decide +kernel
theorem dX12_readsBest_116 : decode cX12_readsBest 116 = .ok (.iadd, 1) := by decide +kernel
theorem dX12_readsBest_117 : decode cX12_readsBest 117 = .ok (.imul, 1) := by decide +kernel
theorem dX12_readsBest_118 : decode cX12_readsBest 118 = .ok (.iload_n 1, 1) := by decide +kernel
theorem dX12_readsBest_119 : decode cX12_readsBest 119 = .ok (.iadd, 1) := by decide +kernel
theorem dX12_readsBest_120 : decode cX12_readsBest 120 = .ok (.aload_n 0, 1) := by decide +kernel
theorem dX12_readsBest_121 : decode cX12_readsBest 121 = .ok (.iload 5, 2) := by decide +kernel
theorem dX12_readsBest_123 : decode cX12_readsBest 123 = .ok (.iconst 2, 1) := by decide +kernel
theorem dX12_readsBest_124 : decode cX12_readsBest 124 = .ok (.invokevirtual 180, 3) := by decide +kernel
theorem dX12_readsBest_127 : decode cX12_readsBest 127 = .ok (.iadd, 1) := by decide +kernel
theorem dX12_readsBest_128 : decode cX12_readsBest 128 = .ok (.iaload, 1) := by decide +kernel
theorem dX12_readsBest_129 : decode cX12_readsBest 129 = .ok (.iadd, 1) := by decide +kernel
theorem dX12_readsBest_130 : decode cX12_readsBest 130 = .ok (.iload_n 3, 1) := by decide +kernel
theorem dX12_readsBest_131 : decode cX12_readsBest 131 = .ok (.if_icmp .ne 8, 3) := by decide +kernel
theorem dX12_readsBest_134 : decode cX12_readsBest 134 = .ok (.iload 5, 2) := by decide +kernel
theorem dX12_readsBest_136 : decode cX12_readsBest 136 = .ok (.goto 5, 3) := by decide +kernel
theorem dX12_readsBest_139 : decode cX12_readsBest 139 = .ok (.iload 4, 2) := by decide +kernel
theorem dX12_readsBest_141 : decode cX12_readsBest 141 = .ok (.istore 4, 2) := by decide +kernel
theorem dX12_readsBest_143 : decode cX12_readsBest 143 = .ok (.iinc 5 1, 3) := by decide +kernel
theorem dX12_readsBest_146 : decode cX12_readsBest 146 = .ok (.goto (-78), 3) := by decide +kernel
theorem dX12_readsBest_149 : decode cX12_readsBest 149 = .ok (.aload_n 0, 1) := by decide +kernel
theorem dX12_readsBest_150 : decode cX12_readsBest 150 = .ok (.getfield 99, 3) := by decide +kernel
theorem dX12_readsBest_153 : decode cX12_readsBest 153 = .ok (.iload_n 2, 1) := by decide +kernel
theorem dX12_readsBest_154 : decode cX12_readsBest 154 = .ok (.iload 4, 2) := by decide +kernel
theorem dX12_readsBest_156 : decode cX12_readsBest 156 = .ok (.iastore, 1) := by decide +kernel
theorem dX12_readsBest_157 : decode cX12_readsBest 157 = .ok (.iload_n 1, 1) := by decide +kernel
theorem dX12_readsBest_158 : decode cX12_readsBest 158 = .ok (.iload 4, 2) := by decide +kernel
theorem dX12_readsBest_160 : decode cX12_readsBest 160 = .ok (.iconst (-1), 1) := by decide +kernel
theorem dX12_readsBest_161 : decode cX12_readsBest 161 = .ok (.if_icmp .ne 7, 3) := by decide +kernel
theorem dX12_readsBest_164 : decode cX12_readsBest 164 = .ok (.iconst 1, 1) := by decide +kernel
theorem dX12_readsBest_165 : decode cX12_readsBest 165 = .ok (.goto 10, 3) := by decide +kernel
theorem dX12_readsBest_168 : decode cX12_readsBest 168 = .ok (.aload_n 0, 1) := by decide +kernel
theorem dX12_readsBest_169 : decode cX12_readsBest 169 = .ok (.iload 4, 2) := by decide +kernel
theorem dX12_readsBest_171 : decode cX12_readsBest 171 = .ok (.iconst 2, 1) := by decide +kernel
theorem dX12_readsBest_172 : decode cX12_readsBest 172 = .ok (.invokevirtual 180, 3) := by decide +kernel
theorem dX12_readsBest_175 : decode cX12_readsBest 175 = .ok (.iadd, 1) := by decide +kernel
theorem dX12_readsBest_176 : decode cX12_readsBest 176 = .ok (.istore_n 1, 1) := by decide +kernel
theorem dX12_readsBest_177 : decode cX12_readsBest 177 = .ok (.iinc 2 1, 3) := by decide +kernel
theorem dX12_readsBest_180 : decode cX12_readsBest 180 = .ok (.goto (-176), 3) := by decide +kernel
theorem dX12_readsBest_183 : decode cX12_readsBest 183 = .ok (.aload_n 0, 1) := by decide +kernel
theorem dX12_readsBest_184 : decode cX12_readsBest 184 = .ok (.iload_n 1, 1) := by decide +kernel
theorem dX12_readsBest_185 : decode cX12_readsBest 185 = .ok (.putfield 262, 3) := by decide +kernel
theorem dX12_readsBest_188 : decode cX12_readsBest 188 = .ok (.return_, 1) := by decide +kernel
set_option maxRecDepth 20000 in
theorem ggX12_laysComing_X12_premiums : GoodIn wsX12_laysComing wsX12_premiums := goodIn_r _ [8, 9, 19, 20, 21, 22, 23, 24, 25, 26, 27, 28, 29, 30, 31, 32, 33, 34, 35, 36, 37, 38, 39, 40, 41, 42, 43, 44, 45, 46, 47, 48, 49, 50, 51, 52, 53, 54, 55, 56] (by decide +kernel) (by decide +kernel)
set_option maxRecDepth 20000 in
theorem gX12_laysComing_X12_premiums : GoodIn wsX12_laysComing (wsV RX12 177 RX12 yX12_premiums wsX12_premiums) := goodIn_app (goodIn_of _ (by decide +kernel)) ggX12_laysComing_X12_premiums
set_option maxRecDepth 20000 in
theorem ggX12_laysComing_X12_canBe : GoodIn wsX12_laysComing wsX12_canBe := goodIn_r _ [13, 14, 15, 16, 17, 7, 18, 9, 19, 20, 21, 22, 23, 24, 25, 26, 27, 28, 29, 30, 31, 32, 33, 34, 35, 36, 37, 38, 39, 40, 41, 42, 43, 44, 45, 46, 47, 48, 49, 50, 51, 52, 53, 54, 55, 56] (by decide +kernel) (by decide +kernel)
set_option maxRecDepth 20000 in
theorem gX12_laysComing_X12_canBe : GoodIn wsX12_laysComing (wsV RX12 259 RX12 yX12_canBe wsX12_canBe) := goodIn_app (goodIn_of _ (by decide +kernel)) ggX12_laysComing_X12_canBe
set_option maxRecDepth 20000 in
theorem ggX12_laysComing_X12_premiumIs : GoodIn wsX12_laysComing wsX12_premiumIs := goodIn_r _ [18, 9, 19, 20, 21, 22, 23, 24, 25, 26, 27, 28, 29, 30, 31, 32, 33, 34, 35, 36, 37, 38, 39, 40, 41, 42, 43, 44, 45, 46, 47, 48, 49, 50, 51, 52, 53, 54, 55, 56] (by decide +kernel) (by decide +kernel)
set_option maxRecDepth 20000 in
theorem gX12_laysComing_X12_premiumIs : GoodIn wsX12_laysComing (wsV RX12 180 RX12 yX12_premiumIs wsX12_premiumIs) := goodIn_app (goodIn_of _ (by decide +kernel)) ggX12_laysComing_X12_premiumIs
theorem dX12_laysComing_0 : decode cX12_laysComing 0 = .ok (.iconst 0, 1) := by decide +kernel
theorem dX12_laysComing_1 : decode cX12_laysComing 1 = .ok (.istore_n 1, 1) := by decide +kernel
theorem dX12_laysComing_2 : decode cX12_laysComing 2 = .ok (.iconst 0, 1) := by decide +kernel
theorem dX12_laysComing_3 : decode cX12_laysComing 3 = .ok (.istore_n 2, 1) := by decide +kernel
theorem dX12_laysComing_4 : decode cX12_laysComing 4 = .ok (.iload_n 2, 1) := by decide +kernel
theorem dX12_laysComing_5 : decode cX12_laysComing 5 = .ok (.aload_n 0, 1) := by decide +kernel
theorem dX12_laysComing_6 : decode cX12_laysComing 6 = .ok (.getfield 232, 3) := by decide +kernel
theorem dX12_laysComing_9 : decode cX12_laysComing 9 = .ok (.if_icmp .ge 93, 3) := by decide +kernel
theorem dX12_laysComing_12 : decode cX12_laysComing 12 = .ok (.iconst (-1), 1) := by decide +kernel
theorem dX12_laysComing_13 : decode cX12_laysComing 13 = .ok (.istore_n 3, 1) := by decide +kernel
theorem dX12_laysComing_14 : decode cX12_laysComing 14 = .ok (.iconst 0, 1) := by decide +kernel
theorem dX12_laysComing_15 : decode cX12_laysComing 15 = .ok (.istore 4, 2) := by decide +kernel
theorem dX12_laysComing_17 : decode cX12_laysComing 17 = .ok (.iload 4, 2) := by decide +kernel
theorem dX12_laysComing_19 : decode cX12_laysComing 19 = .ok (.aload_n 0, 1) := by decide +kernel
theorem dX12_laysComing_20 : decode cX12_laysComing 20 = .ok (.invokevirtual 177, 3) := by decide +kernel
theorem dX12_laysComing_23 : decode cX12_laysComing 23 = .ok (.if_icmp .ge 48, 3) := by decide +kernel
theorem dX12_laysComing_26 : decode cX12_laysComing 26 = .ok (.aload_n 0, 1) := by decide +kernel
theorem dX12_laysComing_27 : decode cX12_laysComing 27 = .ok (.iload_n 2, 1) := by decide +kernel
theorem dX12_laysComing_28 : decode cX12_laysComing 28 = .ok (.iload 4, 2) := by decide +kernel
theorem dX12_laysComing_30 : decode cX12_laysComing 30 = .ok (.iload_n 1, 1) := by decide +kernel
theorem dX12_laysComing_31 : decode cX12_laysComing 31 = .ok (.invokevirtual 259, 3) := by decide +kernel
theorem dX12_laysComing_34 : decode cX12_laysComing 34 = .ok (.ifCond .eq 29, 3) := by decide +kernel
theorem dX12_laysComing_37 : decode cX12_laysComing 37 = .ok (.iload_n 3, 1) := by decide +kernel
theorem dX12_laysComing_38 : decode cX12_laysComing 38 = .ok (.iconst (-1), 1) := by decide +kernel
theorem dX12_laysComing_39 : decode cX12_laysComing 39 = .ok (.if_icmp .eq 19, 3) := by decide +kernel
theorem dX12_laysComing_42 : decode cX12_laysComing 42 = .ok (.aload_n 0, 1) := by decide +kernel
theorem dX12_laysComing_43 : decode cX12_laysComing 43 = .ok (.iload 4, 2) := by decide +kernel
theorem dX12_laysComing_45 : decode cX12_laysComing 45 = .ok (.iconst 1, 1) := by decide +kernel
theorem dX12_laysComing_46 : decode cX12_laysComing 46 = .ok (.invokevirtual 180, 3) := by decide +kernel
theorem dX12_laysComing_49 : decode cX12_laysComing 49 = .ok (.aload_n 0, 1) := by decide +kernel
theorem dX12_laysComing_50 : decode cX12_laysComing 50 = .ok (.iload_n 3, 1) := by decide +kernel
theorem dX12_laysComing_51 : decode cX12_laysComing 51 = .ok (.iconst 1, 1) := by decide +kernel
theorem dX12_laysComing_52 : decode cX12_laysComing 52 = .ok (.invokevirtual 180, 3) := by decide +kernel
theorem dX12_laysComing_55 : decode cX12_laysComing 55 = .ok (.if_icmp .le 8, 3) := by decide +kernel
theorem dX12_laysComing_58 : decode cX12_laysComing 58 = .ok (.iload 4, 2) := by decide +kernel
theorem dX12_laysComing_60 : decode cX12_laysComing 60 = .ok (.goto 4, 3) := by decide +kernel
theorem dX12_laysComing_63 : decode cX12_laysComing 63 = .ok (.iload_n 3, 1) := by decide +kernel
theorem dX12_laysComing_64 : decode cX12_laysComing 64 = .ok (.istore_n 3, 1) := by decide +kernel
theorem dX12_laysComing_65 : decode cX12_laysComing 65 = .ok (.iinc 4 1, 3) := by decide +kernel
theorem dX12_laysComing_68 : decode cX12_laysComing 68 = .ok (.goto (-51), 3) := by decide +kernel
theorem dX12_laysComing_71 : decode cX12_laysComing 71 = .ok (.aload_n 0, 1) := by decide +kernel
theorem dX12_laysComing_72 : decode cX12_laysComing 72 = .ok (.getfield 102, 3) := by decide +kernel
theorem dX12_laysComing_75 : decode cX12_laysComing 75 = .ok (.iload_n 2, 1) := by decide +kernel
theorem dX12_laysComing_76 : decode cX12_laysComing 76 = .ok (.iload_n 3, 1) := by decide +kernel
theorem dX12_laysComing_77 : decode cX12_laysComing 77 = .ok (.iastore, 1) := by decide +kernel
theorem dX12_laysComing_78 : decode cX12_laysComing 78 = .ok (.iload_n 1, 1) := by decide +kernel
theorem dX12_laysComing_79 : decode cX12_laysComing 79 = .ok (.iload_n 3, 1) := by decide +kernel
theorem dX12_laysComing_80 : decode cX12_laysComing 80 = .ok (.iconst (-1), 1) := by decide +kernel
theorem dX12_laysComing_81 : decode cX12_laysComing 81 = .ok (.if_icmp .ne 7, 3) := by decide +kernel
theorem dX12_laysComing_84 : decode cX12_laysComing 84 = .ok (.iconst 1, 1) := by decide +kernel
theorem dX12_laysComing_85 : decode cX12_laysComing 85 = .ok (.goto 9, 3) := by decide +kernel
theorem dX12_laysComing_88 : decode cX12_laysComing 88 = .ok (.aload_n 0, 1) := by decide +kernel
theorem dX12_laysComing_89 : decode cX12_laysComing 89 = .ok (.iload_n 3, 1) := by decide +kernel
theorem dX12_laysComing_90 : decode cX12_laysComing 90 = .ok (.iconst 2, 1) := by decide +kernel
theorem dX12_laysComing_91 : decode cX12_laysComing 91 = .ok (.invokevirtual 180, 3) := by decide +kernel
theorem dX12_laysComing_94 : decode cX12_laysComing 94 = .ok (.iadd, 1) := by decide +kernel
theorem dX12_laysComing_95 : decode cX12_laysComing 95 = .ok (.istore_n 1, 1) := by decide +kernel
theorem dX12_laysComing_96 : decode cX12_laysComing 96 = .ok (.iinc 2 1, 3) := by decide +kernel
theorem dX12_laysComing_99 : decode cX12_laysComing 99 = .ok (.goto (-95), 3) := by decide +kernel
theorem dX12_laysComing_102 : decode cX12_laysComing 102 = .ok (.aload_n 0, 1) := by decide +kernel
theorem dX12_laysComing_103 : decode cX12_laysComing 103 = .ok (.iload_n 1, 1) := by decide +kernel
theorem dX12_laysComing_104 : decode cX12_laysComing 104 = .ok (.putfield 265, 3) := by decide +kernel
theorem dX12_laysComing_107 : decode cX12_laysComing 107 = .ok (.return_, 1) := by decide +kernel
set_option maxRecDepth 20000 in
theorem ggX12_laysWeek_X12_laysWorked : GoodIn wsX12_laysWeek wsX12_laysWorked := goodIn_r _ [5, 6, 7, 8, 9, 10, 11, 12, 4, 13, 14, 15, 16, 17, 18, 19, 20, 21, 22, 23, 24, 25, 26, 27, 28, 29, 30, 31, 32, 33, 34, 35, 36, 37, 38, 39, 40, 41, 42, 110, 111, 112, 113, 114, 115, 116, 117, 118, 119, 120, 121, 122, 123, 124, 125, 126, 127, 128, 129, 130, 131, 132, 133, 134, 135, 136, 137, 138, 139, 140, 141, 142, 143, 144, 145, 146, 147] (by decide +kernel) (by decide +kernel)
set_option maxRecDepth 20000 in
theorem gX12_laysWeek_X12_laysWorked : GoodIn wsX12_laysWeek (wsV RX12 268 RX12 yX12_laysWorked wsX12_laysWorked) := goodIn_app (goodIn_of _ (by decide +kernel)) ggX12_laysWeek_X12_laysWorked
set_option maxRecDepth 20000 in
theorem ggX12_laysWeek_X12_laysQuarters : GoodIn wsX12_laysWeek wsX12_laysQuarters := goodIn_r _ [46, 47, 6, 48, 49, 50, 51, 52, 4, 53, 31, 32, 33, 34, 18, 35, 36, 37, 38, 39, 40, 41, 42, 54, 55, 56, 57, 58, 59, 60, 61, 62, 63, 64, 65, 66, 67, 68, 69, 70, 71, 72, 73, 110, 111, 112, 113, 114, 115, 116, 117, 118, 119, 120, 121, 122, 123, 124, 125, 126, 127, 128, 129, 130, 131, 132, 133, 134, 135, 136, 137, 138, 139, 140, 141, 142, 143, 144, 145, 146, 147] (by decide +kernel) (by decide +kernel)
set_option maxRecDepth 20000 in
theorem gX12_laysWeek_X12_laysQuarters : GoodIn wsX12_laysWeek (wsV RX12 271 RX12 yX12_laysQuarters wsX12_laysQuarters) := goodIn_app (goodIn_of _ (by decide +kernel)) ggX12_laysWeek_X12_laysQuarters
set_option maxRecDepth 20000 in
theorem ggX12_laysWeek_X12_laysBest : GoodIn wsX12_laysWeek wsX12_laysBest := goodIn_r _ [77, 47, 78, 79, 80, 81, 82, 83, 4, 84, 54, 55, 56, 57, 18, 62, 63, 64, 65, 85, 86, 87, 88, 89, 90, 91, 92, 49, 110, 111, 112, 113, 114, 115, 116, 117, 118, 119, 120, 121, 122, 123, 124, 125, 126, 127, 128, 129, 130, 131, 132, 133, 134, 135, 136, 137, 138, 139, 140, 141, 142, 143, 144, 145, 146, 147] (by decide +kernel) (by decide +kernel)
set_option maxRecDepth 20000 in
theorem gX12_laysWeek_X12_laysBest : GoodIn wsX12_laysWeek (wsV RX12 274 RX12 yX12_laysBest wsX12_laysBest) := goodIn_app (goodIn_of _ (by decide +kernel)) ggX12_laysWeek_X12_laysBest
set_option maxRecDepth 20000 in
theorem ggX12_laysWeek_X12_readsBest : GoodIn wsX12_laysWeek wsX12_readsBest := goodIn_r _ [96, 47, 97, 78, 98, 99, 54, 55, 56, 4, 57, 18, 100, 101, 102, 103, 49, 62, 63, 64, 65, 110, 111, 112, 113, 114, 115, 116, 117, 118, 119, 120, 121, 122, 123, 124, 125, 126, 127, 128, 129, 130, 131, 132, 133, 134, 135, 136, 137, 138, 139, 140, 141, 142, 143, 144, 145, 146, 147] (by decide +kernel) (by decide +kernel)
set_option maxRecDepth 20000 in
theorem gX12_laysWeek_X12_readsBest : GoodIn wsX12_laysWeek (wsV RX12 277 RX12 yX12_readsBest wsX12_readsBest) := goodIn_app (goodIn_of _ (by decide +kernel)) ggX12_laysWeek_X12_readsBest
set_option maxRecDepth 20000 in
theorem ggX12_laysWeek_X12_laysComing : GoodIn wsX12_laysWeek wsX12_laysComing := goodIn_r _ [107, 47, 108, 109, 54, 55, 56, 4, 57, 18, 100, 101, 102, 103, 49, 62, 63, 64, 65, 110, 111, 112, 113, 114, 115, 116, 117, 118, 119, 120, 121, 122, 123, 124, 125, 126, 127, 128, 129, 130, 131, 132, 133, 134, 135, 136, 137, 138, 139, 140, 141, 142, 143, 144, 145, 146, 147] (by decide +kernel) (by decide +kernel)
set_option maxRecDepth 20000 in
theorem gX12_laysWeek_X12_laysComing : GoodIn wsX12_laysWeek (wsV RX12 280 RX12 yX12_laysComing wsX12_laysComing) := goodIn_app (goodIn_of _ (by decide +kernel)) ggX12_laysWeek_X12_laysComing
theorem dX12_laysWeek_0 : decode cX12_laysWeek 0 = .ok (.aload_n 0, 1) := by decide +kernel
theorem dX12_laysWeek_1 : decode cX12_laysWeek 1 = .ok (.iload_n 1, 1) := by decide +kernel
theorem dX12_laysWeek_2 : decode cX12_laysWeek 2 = .ok (.invokevirtual 268, 3) := by decide +kernel
theorem dX12_laysWeek_5 : decode cX12_laysWeek 5 = .ok (.aload_n 0, 1) := by decide +kernel
theorem dX12_laysWeek_6 : decode cX12_laysWeek 6 = .ok (.iload_n 2, 1) := by decide +kernel
theorem dX12_laysWeek_7 : decode cX12_laysWeek 7 = .ok (.invokevirtual 271, 3) := by decide +kernel
theorem dX12_laysWeek_10 : decode cX12_laysWeek 10 = .ok (.aload_n 0, 1) := by decide +kernel
theorem dX12_laysWeek_11 : decode cX12_laysWeek 11 = .ok (.invokevirtual 274, 3) := by decide +kernel
theorem dX12_laysWeek_14 : decode cX12_laysWeek 14 = .ok (.aload_n 0, 1) := by decide +kernel
theorem dX12_laysWeek_15 : decode cX12_laysWeek 15 = .ok (.invokevirtual 277, 3) := by decide +kernel
theorem dX12_laysWeek_18 : decode cX12_laysWeek 18 = .ok (.aload_n 0, 1) := by decide +kernel
theorem dX12_laysWeek_19 : decode cX12_laysWeek 19 = .ok (.invokevirtual 280, 3) := by decide +kernel
theorem dX12_laysWeek_22 : decode cX12_laysWeek 22 = .ok (.return_, 1) := by decide +kernel
set_option maxRecDepth 20000 in
theorem ggX12_hundredths_X12_premiumIs : GoodIn wsX12_hundredths wsX12_premiumIs := goodIn_r _ [5, 6, 7, 8, 9, 10, 11, 12, 13, 14, 15, 16, 17, 18, 19, 20, 21, 22, 23, 24, 25, 26, 27, 28, 29, 30, 31, 32, 33, 34, 35, 36, 37, 38, 39, 40, 41, 42, 43, 44] (by decide +kernel) (by decide +kernel)
set_option maxRecDepth 20000 in
theorem gX12_hundredths_X12_premiumIs : GoodIn wsX12_hundredths (wsV RX12 180 RX12 yX12_premiumIs wsX12_premiumIs) := goodIn_app (goodIn_of _ (by decide +kernel)) ggX12_hundredths_X12_premiumIs
theorem dX12_hundredths_0 : decode cX12_hundredths 0 = .ok (.bipush 100, 2) := by decide +kernel
theorem dX12_hundredths_2 : decode cX12_hundredths 2 = .ok (.aload_n 1, 1) := by decide +kernel
theorem dX12_hundredths_3 : decode cX12_hundredths 3 = .ok (.iload_n 2, 1) := by decide +kernel
theorem dX12_hundredths_4 : decode cX12_hundredths 4 = .ok (.iaload, 1) := by decide +kernel
theorem dX12_hundredths_5 : decode cX12_hundredths 5 = .ok (.iconst (-1), 1) := by decide +kernel
theorem dX12_hundredths_6 : decode cX12_hundredths 6 = .ok (.if_icmp .ne 7, 3) := by decide +kernel
theorem dX12_hundredths_9 : decode cX12_hundredths 9 = .ok (.iconst 0, 1) := by decide +kernel
theorem dX12_hundredths_10 : decode cX12_hundredths 10 = .ok (.goto 11, 3) := by decide +kernel
theorem dX12_hundredths_13 : decode cX12_hundredths 13 = .ok (.aload_n 0, 1) := by decide +kernel
theorem dX12_hundredths_14 : decode cX12_hundredths 14 = .ok (.aload_n 1, 1) := by decide +kernel
theorem dX12_hundredths_15 : decode cX12_hundredths 15 = .ok (.iload_n 2, 1) := by decide +kernel
theorem dX12_hundredths_16 : decode cX12_hundredths 16 = .ok (.iaload, 1) := by decide +kernel
theorem dX12_hundredths_17 : decode cX12_hundredths 17 = .ok (.iconst 1, 1) := by decide +kernel
theorem dX12_hundredths_18 : decode cX12_hundredths 18 = .ok (.invokevirtual 180, 3) := by decide +kernel
theorem dX12_hundredths_21 : decode cX12_hundredths 21 = .ok (.iadd, 1) := by decide +kernel
theorem dX12_hundredths_22 : decode cX12_hundredths 22 = .ok (.ireturn, 1) := by decide +kernel
set_option maxRecDepth 20000 in
theorem ggX12_quarter_X12_isWorker : GoodIn wsX12_quarter wsX12_isWorker := goodIn_r _ [11, 12, 13, 10, 14] (by decide +kernel) (by decide +kernel)
set_option maxRecDepth 20000 in
theorem gX12_quarter_X12_isWorker : GoodIn wsX12_quarter (wsV RX12 196 RX12 yX12_isWorker wsX12_isWorker) := goodIn_app (goodIn_of _ (by decide +kernel)) ggX12_quarter_X12_isWorker
set_option maxRecDepth 20000 in
theorem ggX12_quarter_X12_within : GoodIn wsX12_quarter wsX12_within := goodIn_r _ [14] (by decide +kernel) (by decide +kernel)
set_option maxRecDepth 20000 in
theorem gX12_quarter_X12_within : GoodIn wsX12_quarter (va_wsS RX12 34 yX12_within wsX12_within) := goodIn_app (goodIn_of _ (by decide +kernel)) ggX12_quarter_X12_within
set_option maxRecDepth 20000 in
theorem ggX12_quarter_X12_laysWorked : GoodIn wsX12_quarter wsX12_laysWorked := goodIn_r _ [18, 2, 19, 20, 21, 22, 23, 24, 10, 25, 26, 27, 28, 29, 30, 31, 32, 33, 34, 35, 36, 37, 38, 39, 40, 41, 42, 43, 44, 45, 46, 47, 48, 49, 50, 51, 12, 13, 14, 119, 120, 121, 122, 123, 124, 125, 126, 127, 128, 129, 130, 131, 132, 133, 134, 135, 136, 137, 138, 139, 140, 141, 142, 143, 144, 145, 146, 147, 148, 149, 150, 151, 152, 153, 154, 155, 156] (by decide +kernel) (by decide +kernel)
set_option maxRecDepth 20000 in
theorem gX12_quarter_X12_laysWorked : GoodIn wsX12_quarter (wsV RX12 268 RX12 yX12_laysWorked wsX12_laysWorked) := goodIn_app (goodIn_of _ (by decide +kernel)) ggX12_quarter_X12_laysWorked
set_option maxRecDepth 20000 in
theorem ggX12_quarter_X12_dayOf : GoodIn wsX12_quarter wsX12_dayOf := goodIn_r _ [55, 43, 44, 45, 10, 46, 30, 47, 48, 49, 50, 51, 12, 13, 14, 119, 120, 121, 122, 123, 124, 125, 126, 127, 128, 129, 130, 131, 132, 133, 134, 135, 136, 137, 138, 139, 140, 141, 142, 143, 144, 145, 146, 147, 148, 149, 150, 151, 152, 153, 154, 155, 156] (by decide +kernel) (by decide +kernel)
set_option maxRecDepth 20000 in
theorem gX12_quarter_X12_dayOf : GoodIn wsX12_quarter (wsV RX12 235 RX12 yX12_dayOf wsX12_dayOf) := goodIn_app (goodIn_of _ (by decide +kernel)) ggX12_quarter_X12_dayOf
set_option maxRecDepth 20000 in
theorem ggX12_quarter_X12_laysWeek : GoodIn wsX12_quarter wsX12_laysWeek := goodIn_r _ [59, 15, 16, 17, 10, 18, 2, 19, 20, 21, 22, 23, 24, 25, 26, 27, 28, 29, 30, 31, 32, 33, 34, 35, 36, 37, 38, 39, 40, 41, 42, 43, 44, 45, 46, 47, 48, 49, 50, 51, 12, 13, 14, 60, 61, 62, 63, 64, 3, 65, 52, 53, 54, 55, 66, 67, 68, 69, 70, 71, 72, 73, 74, 75, 76, 77, 78, 79, 80, 81, 82, 83, 84, 85, 86, 87, 88, 89, 90, 91, 92, 93, 94, 95, 96, 97, 98, 99, 100, 101, 102, 103, 104, 105, 106, 107, 108, 6, 4, 109, 110, 111, 112, 113, 114, 115, 116, 117, 5, 118, 119, 120, 121, 122, 123, 124, 125, 126, 127, 128, 129, 130, 131, 132, 133, 134, 135, 136, 137, 138, 139, 140, 141, 142, 143, 144, 145, 146, 147, 148, 149, 150, 151, 152, 153, 154, 155, 156] (by decide +kernel) (by decide +kernel)
set_option maxRecDepth 20000 in
theorem gX12_quarter_X12_laysWeek : GoodIn wsX12_quarter (wsV RX12 283 RX12 yX12_laysWeek wsX12_laysWeek) := goodIn_app (goodIn_of _ (by decide +kernel)) ggX12_quarter_X12_laysWeek
set_option maxRecDepth 20000 in
theorem ggX12_quarter_X12_hourOf : GoodIn wsX12_quarter wsX12_hourOf := goodIn_r _ [81, 43, 44, 45, 10, 46, 30, 47, 48, 49, 50, 51, 12, 13, 14, 119, 120, 121, 122, 123, 124, 125, 126, 127, 128, 129, 130, 131, 132, 133, 134, 135, 136, 137, 138, 139, 140, 141, 142, 143, 144, 145, 146, 147, 148, 149, 150, 151, 152, 153, 154, 155, 156] (by decide +kernel) (by decide +kernel)
set_option maxRecDepth 20000 in
theorem gX12_quarter_X12_hourOf : GoodIn wsX12_quarter (wsV RX12 242 RX12 yX12_hourOf wsX12_hourOf) := goodIn_app (goodIn_of _ (by decide +kernel)) ggX12_quarter_X12_hourOf
set_option maxRecDepth 20000 in
theorem ggX12_quarter_X12_premiums : GoodIn wsX12_quarter wsX12_premiums := goodIn_r _ [69, 30, 119, 120, 121, 122, 123, 124, 125, 126, 127, 128, 129, 130, 131, 132, 133, 134, 135, 136, 137, 138, 139, 140, 141, 142, 143, 144, 145, 146, 147, 148, 149, 150, 151, 152, 153, 154, 155, 156] (by decide +kernel) (by decide +kernel)
set_option maxRecDepth 20000 in
theorem gX12_quarter_X12_premiums : GoodIn wsX12_quarter (wsV RX12 177 RX12 yX12_premiums wsX12_premiums) := goodIn_app (goodIn_of _ (by decide +kernel)) ggX12_quarter_X12_premiums
set_option maxRecDepth 20000 in
theorem ggX12_quarter_X12_canBe : GoodIn wsX12_quarter wsX12_canBe := goodIn_r _ [113, 65, 74, 75, 76, 10, 77, 30, 119, 120, 121, 122, 123, 124, 125, 126, 127, 128, 129, 130, 131, 132, 133, 134, 135, 136, 137, 138, 139, 140, 141, 142, 143, 144, 145, 146, 147, 148, 149, 150, 151, 152, 153, 154, 155, 156] (by decide +kernel) (by decide +kernel)
set_option maxRecDepth 20000 in
theorem gX12_quarter_X12_canBe : GoodIn wsX12_quarter (wsV RX12 259 RX12 yX12_canBe wsX12_canBe) := goodIn_app (goodIn_of _ (by decide +kernel)) ggX12_quarter_X12_canBe
theorem dX12_quarter_0 : decode cX12_quarter 0 = .ok (.aload_n 0, 1) := by decide +kernel
theorem dX12_quarter_1 : decode cX12_quarter 1 = .ok (.aload_n 0, 1) := by decide +kernel
theorem dX12_quarter_2 : decode cX12_quarter 2 = .ok (.iload_n 1, 1) := by decide +kernel
theorem dX12_quarter_3 : decode cX12_quarter 3 = .ok (.invokevirtual 196, 3) := by decide +kernel
theorem dX12_quarter_6 : decode cX12_quarter 6 = .ok (.ifCond .eq 16, 3) := by decide +kernel
theorem dX12_quarter_9 : decode cX12_quarter 9 = .ok (.iload_n 3, 1) := by decide +kernel
theorem dX12_quarter_10 : decode cX12_quarter 10 = .ok (.iconst 0, 1) := by decide +kernel
theorem dX12_quarter_11 : decode cX12_quarter 11 = .ok (.iconst 4, 1) := by decide +kernel
theorem dX12_quarter_12 : decode cX12_quarter 12 = .ok (.invokestatic 34, 3) := by decide +kernel
theorem dX12_quarter_15 : decode cX12_quarter 15 = .ok (.ifCond .eq 7, 3) := by decide +kernel
theorem dX12_quarter_18 : decode cX12_quarter 18 = .ok (.iconst 0, 1) := by decide +kernel
theorem dX12_quarter_19 : decode cX12_quarter 19 = .ok (.goto 4, 3) := by decide +kernel
theorem dX12_quarter_22 : decode cX12_quarter 22 = .ok (.iconst 1, 1) := by decide +kernel
theorem dX12_quarter_23 : decode cX12_quarter 23 = .ok (.putfield 1, 3) := by decide +kernel
theorem dX12_quarter_26 : decode cX12_quarter 26 = .ok (.aload_n 0, 1) := by decide +kernel
theorem dX12_quarter_27 : decode cX12_quarter 27 = .ok (.getfield 1, 3) := by decide +kernel
theorem dX12_quarter_30 : decode cX12_quarter 30 = .ok (.ifCond .le 5, 3) := by decide +kernel
theorem dX12_quarter_33 : decode cX12_quarter 33 = .ok (.iconst 0, 1) := by decide +kernel
theorem dX12_quarter_34 : decode cX12_quarter 34 = .ok (.ireturn, 1) := by decide +kernel
theorem dX12_quarter_35 : decode cX12_quarter 35 = .ok (.aload_n 0, 1) := by decide +kernel
theorem dX12_quarter_36 : decode cX12_quarter 36 = .ok (.iload_n 1, 1) := by decide +kernel
theorem dX12_quarter_37 : decode cX12_quarter 37 = .ok (.invokevirtual 268, 3) := by decide +kernel
theorem dX12_quarter_40 : decode cX12_quarter 40 = .ok (.iload_n 2, 1) := by decide +kernel
theorem dX12_quarter_41 : decode cX12_quarter 41 = .ok (.iconst 0, 1) := by decide +kernel
theorem dX12_quarter_42 : decode cX12_quarter 42 = .ok (.sipush 2719, 3) := by decide +kernel
theorem dX12_quarter_45 : decode cX12_quarter 45 = .ok (.invokestatic 34, 3) := by decide +kernel
theorem dX12_quarter_48 : decode cX12_quarter 48 = .ok (.ifCond .eq 12, 3) := by decide +kernel
theorem dX12_quarter_51 : decode cX12_quarter 51 = .ok (.aload_n 0, 1) := by decide +kernel
theorem dX12_quarter_52 : decode cX12_quarter 52 = .ok (.getfield 89, 3) := by decide +kernel
theorem dX12_quarter_55 : decode cX12_quarter 55 = .ok (.iload_n 2, 1) := by decide +kernel
theorem dX12_quarter_56 : decode cX12_quarter 56 = .ok (.baload, 1) := by decide +kernel
theorem dX12_quarter_57 : decode cX12_quarter 57 = .ok (.ifCond .ne 6, 3) := by decide +kernel
theorem dX12_quarter_60 : decode cX12_quarter 60 = .ok (.bipush (-2), 2) := by decide +kernel
theorem dX12_quarter_62 : decode cX12_quarter 62 = .ok (.ireturn, 1) := by decide +kernel
theorem dX12_quarter_63 : decode cX12_quarter 63 = .ok (.aload_n 0, 1) := by decide +kernel
theorem dX12_quarter_64 : decode cX12_quarter 64 = .ok (.iload_n 1, 1) := by decide +kernel
theorem dX12_quarter_65 : decode cX12_quarter 65 = .ok (.aload_n 0, 1) := by decide +kernel
theorem dX12_quarter_66 : decode cX12_quarter 66 = .ok (.iload_n 2, 1) := by decide +kernel
theorem dX12_quarter_67 : decode cX12_quarter 67 = .ok (.invokevirtual 235, 3) := by decide +kernel
theorem dX12_quarter_70 : decode cX12_quarter 70 = .ok (.bipush 7, 2) := by decide +kernel
theorem dX12_quarter_72 : decode cX12_quarter 72 = .ok (.idiv, 1) := by decide +kernel
theorem dX12_quarter_73 : decode cX12_quarter 73 = .ok (.invokevirtual 283, 3) := by decide +kernel
theorem dX12_quarter_76 : decode cX12_quarter 76 = .ok (.iconst 0, 1) := by decide +kernel
theorem dX12_quarter_77 : decode cX12_quarter 77 = .ok (.istore 4, 2) := by decide +kernel
theorem dX12_quarter_79 : decode cX12_quarter 79 = .ok (.aload_n 0, 1) := by decide +kernel
theorem dX12_quarter_80 : decode cX12_quarter 80 = .ok (.getfield 93, 3) := by decide +kernel
theorem dX12_quarter_83 : decode cX12_quarter 83 = .ok (.iload 4, 2) := by decide +kernel
theorem dX12_quarter_85 : decode cX12_quarter 85 = .ok (.iaload, 1) := by decide +kernel
theorem dX12_quarter_86 : decode cX12_quarter 86 = .ok (.iload_n 2, 1) := by decide +kernel
theorem dX12_quarter_87 : decode cX12_quarter 87 = .ok (.if_icmp .eq 9, 3) := by decide +kernel
theorem dX12_quarter_90 : decode cX12_quarter 90 = .ok (.iinc 4 1, 3) := by decide +kernel
theorem dX12_quarter_93 : decode cX12_quarter 93 = .ok (.goto (-14), 3) := by decide +kernel
theorem dX12_quarter_96 : decode cX12_quarter 96 = .ok (.iload_n 3, 1) := by decide +kernel
theorem dX12_quarter_97 : decode cX12_quarter 97 = .ok (.tableswitch 59 0 3 #[31, 37, 43, 51], 31) := by decide +kernel
theorem dX12_quarter_128 : decode cX12_quarter 128 = .ok (.aload_n 0, 1) := by decide +kernel
theorem dX12_quarter_129 : decode cX12_quarter 129 = .ok (.iload_n 2, 1) := by decide +kernel
theorem dX12_quarter_130 : decode cX12_quarter 130 = .ok (.invokevirtual 235, 3) := by decide +kernel
theorem dX12_quarter_133 : decode cX12_quarter 133 = .ok (.ireturn, 1) := by decide +kernel
theorem dX12_quarter_134 : decode cX12_quarter 134 = .ok (.aload_n 0, 1) := by decide +kernel
theorem dX12_quarter_135 : decode cX12_quarter 135 = .ok (.iload_n 2, 1) := by decide +kernel
theorem dX12_quarter_136 : decode cX12_quarter 136 = .ok (.invokevirtual 242, 3) := by decide +kernel
theorem dX12_quarter_139 : decode cX12_quarter 139 = .ok (.ireturn, 1) := by decide +kernel
theorem dX12_quarter_140 : decode cX12_quarter 140 = .ok (.aload_n 0, 1) := by decide +kernel
theorem dX12_quarter_141 : decode cX12_quarter 141 = .ok (.getfield 99, 3) := by decide +kernel
theorem dX12_quarter_144 : decode cX12_quarter 144 = .ok (.iload 4, 2) := by decide +kernel
theorem dX12_quarter_146 : decode cX12_quarter 146 = .ok (.iaload, 1) := by decide +kernel
theorem dX12_quarter_147 : decode cX12_quarter 147 = .ok (.ireturn, 1) := by decide +kernel
theorem dX12_quarter_148 : decode cX12_quarter 148 = .ok (.aload_n 0, 1) := by decide +kernel
theorem dX12_quarter_149 : decode cX12_quarter 149 = .ok (.getfield 102, 3) := by decide +kernel
theorem dX12_quarter_152 : decode cX12_quarter 152 = .ok (.iload 4, 2) := by decide +kernel
theorem dX12_quarter_154 : decode cX12_quarter 154 = .ok (.iaload, 1) := by decide +kernel
theorem dX12_quarter_155 : decode cX12_quarter 155 = .ok (.ireturn, 1) := by decide +kernel
theorem dX12_quarter_156 : decode cX12_quarter 156 = .ok (.iconst 0, 1) := by decide +kernel
theorem dX12_quarter_157 : decode cX12_quarter 157 = .ok (.istore 5, 2) := by decide +kernel
theorem dX12_quarter_159 : decode cX12_quarter 159 = .ok (.iconst 0, 1) := by decide +kernel
theorem dX12_quarter_160 : decode cX12_quarter 160 = .ok (.istore 6, 2) := by decide +kernel
theorem dX12_quarter_162 : decode cX12_quarter 162 = .ok (.iload 6, 2) := by decide +kernel
theorem dX12_quarter_164 : decode cX12_quarter 164 = .ok (.aload_n 0, 1) := by decide +kernel
theorem dX12_quarter_165 : decode cX12_quarter 165 = .ok (.invokevirtual 177, 3) := by decide +kernel
theorem dX12_quarter_168 : decode cX12_quarter 168 = .ok (.if_icmp .ge 40, 3) := by decide +kernel
theorem dX12_quarter_171 : decode cX12_quarter 171 = .ok (.iload 5, 2) := by decide +kernel
theorem dX12_quarter_173 : decode cX12_quarter 173 = .ok (.aload_n 0, 1) := by decide +kernel
theorem dX12_quarter_174 : decode cX12_quarter 174 = .ok (.iload 4, 2) := by decide +kernel
theorem dX12_quarter_176 : decode cX12_quarter 176 = .ok (.iload 6, 2) := by decide +kernel
theorem dX12_quarter_178 : decode cX12_quarter 178 = .ok (.aload_n 0, 1) := by decide +kernel
theorem dX12_quarter_179 : decode cX12_quarter 179 = .ok (.getfield 105, 3) := by decide +kernel
theorem dX12_quarter_182 : decode cX12_quarter 182 = .ok (.iload 4, 2) := by decide +kernel
theorem dX12_quarter_184 : decode cX12_quarter 184 = .ok (.iaload, 1) := by decide +kernel
theorem dX12_quarter_185 : decode cX12_quarter 185 = .ok (.invokevirtual 259, 3) := by decide +kernel
theorem dX12_quarter_188 : decode cX12_quarter 188 = .ok (.ifCond .eq 10, 3) := by decide +kernel
theorem dX12_quarter_191 : decode cX12_quarter 191 = .ok (.iconst 1, 1) := by decide +kernel
theorem dX12_quarter_192 : decode cX12_quarter 192 = .ok (.iload 6, 2) := by decide +kernel
theorem dX12_quarter_194 : decode cX12_quarter 194 = .ok (.ishl, 1) := by decide +kernel
theorem dX12_quarter_195 : decode cX12_quarter 195 = .ok (.goto 4, 3) := by decide +kernel
theorem dX12_quarter_198 : decode cX12_quarter 198 = .ok (.iconst 0, 1) := by decide +kernel
theorem dX12_quarter_199 : decode cX12_quarter 199 = .ok (.ior, 1) := by decide +kernel
theorem dX12_quarter_200 : decode cX12_quarter 200 = .ok (.istore 5, 2) := by decide +kernel
theorem dX12_quarter_202 : decode cX12_quarter 202 = .ok (.iinc 6 1, 3) := by decide +kernel
theorem dX12_quarter_205 : decode cX12_quarter 205 = .ok (.goto (-43), 3) := by decide +kernel
theorem dX12_quarter_208 : decode cX12_quarter 208 = .ok (.iload 5, 2) := by decide +kernel
theorem dX12_quarter_210 : decode cX12_quarter 210 = .ok (.ireturn, 1) := by decide +kernel
set_option maxRecDepth 20000 in
theorem ggX12_isAsked_X12_premiums : GoodIn wsX12_isAsked wsX12_premiums := goodIn_r _ [5, 6, 10, 11, 12, 13, 14, 15, 16, 17, 18, 19, 20, 21, 22, 23, 24, 25, 26, 27, 28, 29, 30, 31, 32, 33, 34, 35, 36, 37, 38, 39, 40, 41, 42, 43, 44, 45, 46, 47] (by decide +kernel) (by decide +kernel)
set_option maxRecDepth 20000 in
theorem gX12_isAsked_X12_premiums : GoodIn wsX12_isAsked (wsV RX12 177 RX12 yX12_premiums wsX12_premiums) := goodIn_app (goodIn_of _ (by decide +kernel)) ggX12_isAsked_X12_premiums
set_option maxRecDepth 20000 in
theorem ggX12_isAsked_X12_within : GoodIn wsX12_isAsked wsX12_within := goodIn_r _ [9] (by decide +kernel) (by decide +kernel)
set_option maxRecDepth 20000 in
theorem gX12_isAsked_X12_within : GoodIn wsX12_isAsked (va_wsS RX12 34 yX12_within wsX12_within) := goodIn_app (goodIn_of _ (by decide +kernel)) ggX12_isAsked_X12_within
theorem dX12_isAsked_0 : decode cX12_isAsked 0 = .ok (.iload_n 1, 1) := by decide +kernel
theorem dX12_isAsked_1 : decode cX12_isAsked 1 = .ok (.bipush (-2), 2) := by decide +kernel
theorem dX12_isAsked_3 : decode cX12_isAsked 3 = .ok (.aload_n 0, 1) := by decide +kernel
theorem dX12_isAsked_4 : decode cX12_isAsked 4 = .ok (.invokevirtual 177, 3) := by decide +kernel
theorem dX12_isAsked_7 : decode cX12_isAsked 7 = .ok (.iconst 1, 1) := by decide +kernel
theorem dX12_isAsked_8 : decode cX12_isAsked 8 = .ok (.isub, 1) := by decide +kernel
theorem dX12_isAsked_9 : decode cX12_isAsked 9 = .ok (.invokestatic 34, 3) := by decide +kernel
theorem dX12_isAsked_12 : decode cX12_isAsked 12 = .ok (.ireturn, 1) := by decide +kernel
theorem dX12_isOf_0 : decode cX12_isOf 0 = .ok (.iload_n 2, 1) := by decide +kernel
theorem dX12_isOf_1 : decode cX12_isOf 1 = .ok (.bipush (-2), 2) := by decide +kernel
theorem dX12_isOf_3 : decode cX12_isOf 3 = .ok (.if_icmp .eq 13, 3) := by decide +kernel
theorem dX12_isOf_6 : decode cX12_isOf 6 = .ok (.aload_n 0, 1) := by decide +kernel
theorem dX12_isOf_7 : decode cX12_isOf 7 = .ok (.getfield 99, 3) := by decide +kernel
theorem dX12_isOf_10 : decode cX12_isOf 10 = .ok (.iload_n 1, 1) := by decide +kernel
theorem dX12_isOf_11 : decode cX12_isOf 11 = .ok (.iaload, 1) := by decide +kernel
theorem dX12_isOf_12 : decode cX12_isOf 12 = .ok (.iload_n 2, 1) := by decide +kernel
theorem dX12_isOf_13 : decode cX12_isOf 13 = .ok (.if_icmp .ne 7, 3) := by decide +kernel
theorem dX12_isOf_16 : decode cX12_isOf 16 = .ok (.iconst 1, 1) := by decide +kernel
theorem dX12_isOf_17 : decode cX12_isOf 17 = .ok (.goto 4, 3) := by decide +kernel
theorem dX12_isOf_20 : decode cX12_isOf 20 = .ok (.iconst 0, 1) := by decide +kernel
theorem dX12_isOf_21 : decode cX12_isOf 21 = .ok (.ireturn, 1) := by decide +kernel
set_option maxRecDepth 20000 in
theorem ggX12_day_X12_isWorker : GoodIn wsX12_day wsX12_isWorker := goodIn_r _ [8, 9, 10, 7, 11] (by decide +kernel) (by decide +kernel)
set_option maxRecDepth 20000 in
theorem gX12_day_X12_isWorker : GoodIn wsX12_day (wsV RX12 196 RX12 yX12_isWorker wsX12_isWorker) := goodIn_app (goodIn_of _ (by decide +kernel)) ggX12_day_X12_isWorker
set_option maxRecDepth 20000 in
theorem ggX12_day_X12_within : GoodIn wsX12_day wsX12_within := goodIn_r _ [11] (by decide +kernel) (by decide +kernel)
set_option maxRecDepth 20000 in
theorem gX12_day_X12_within : GoodIn wsX12_day (va_wsS RX12 34 yX12_within wsX12_within) := goodIn_app (goodIn_of _ (by decide +kernel)) ggX12_day_X12_within
set_option maxRecDepth 20000 in
theorem ggX12_day_X12_isAsked : GoodIn wsX12_day wsX12_isAsked := goodIn_r _ [15, 16, 17, 18, 7, 19, 20, 9, 10, 11, 127, 128, 129, 130, 131, 132, 133, 134, 135, 136, 137, 138, 139, 140, 141, 142, 143, 144, 145, 146, 147, 148, 149, 150, 151, 152, 153, 154, 155, 156, 157, 158, 159, 160, 161, 162, 163, 164] (by decide +kernel) (by decide +kernel)
set_option maxRecDepth 20000 in
theorem gX12_day_X12_isAsked : GoodIn wsX12_day (wsV RX12 286 RX12 yX12_isAsked wsX12_isAsked) := goodIn_app (goodIn_of _ (by decide +kernel)) ggX12_day_X12_isAsked
set_option maxRecDepth 20000 in
theorem ggX12_day_X12_laysWeek : GoodIn wsX12_day wsX12_laysWeek := goodIn_r _ [24, 25, 26, 27, 7, 28, 29, 30, 31, 32, 33, 34, 35, 36, 37, 38, 39, 40, 20, 41, 42, 43, 44, 45, 46, 47, 48, 49, 50, 51, 52, 53, 54, 55, 56, 57, 58, 59, 60, 61, 9, 10, 11, 62, 63, 64, 65, 2, 3, 66, 67, 68, 69, 70, 16, 17, 18, 19, 71, 72, 73, 74, 75, 76, 77, 78, 79, 80, 81, 82, 83, 84, 85, 86, 87, 88, 89, 90, 91, 92, 93, 94, 95, 96, 97, 98, 99, 100, 101, 102, 103, 104, 105, 106, 107, 108, 109, 110, 111, 112, 113, 114, 115, 116, 117, 118, 119, 120, 121, 122, 127, 128, 129, 130, 131, 132, 133, 134, 135, 136, 137, 138, 139, 140, 141, 142, 143, 144, 145, 146, 147, 148, 149, 150, 151, 152, 153, 154, 155, 156, 157, 158, 159, 160, 161, 162, 163, 164] (by decide +kernel) (by decide +kernel)
set_option maxRecDepth 20000 in
theorem gX12_day_X12_laysWeek : GoodIn wsX12_day (wsV RX12 283 RX12 yX12_laysWeek wsX12_laysWeek) := goodIn_app (goodIn_of _ (by decide +kernel)) ggX12_day_X12_laysWeek
set_option maxRecDepth 20000 in
theorem ggX12_day_X12_dayOf : GoodIn wsX12_day wsX12_dayOf := goodIn_r _ [70, 53, 54, 55, 7, 56, 20, 57, 58, 59, 60, 61, 9, 10, 11, 127, 128, 129, 130, 131, 132, 133, 134, 135, 136, 137, 138, 139, 140, 141, 142, 143, 144, 145, 146, 147, 148, 149, 150, 151, 152, 153, 154, 155, 156, 157, 158, 159, 160, 161, 162, 163, 164] (by decide +kernel) (by decide +kernel)
set_option maxRecDepth 20000 in
theorem gX12_day_X12_dayOf : GoodIn wsX12_day (wsV RX12 235 RX12 yX12_dayOf wsX12_dayOf) := goodIn_app (goodIn_of _ (by decide +kernel)) ggX12_day_X12_dayOf
set_option maxRecDepth 20000 in
theorem ggX12_day_X12_isOf : GoodIn wsX12_day wsX12_isOf := goodIn_r _ [126, 111, 127, 128, 129, 130, 131, 132, 133, 134, 135, 136, 137, 138, 139, 140, 141, 142, 143, 144, 145, 146, 147, 148, 149, 150, 151, 152, 153, 154, 155, 156, 157, 158, 159, 160, 161, 162, 163, 164] (by decide +kernel) (by decide +kernel)
set_option maxRecDepth 20000 in
theorem gX12_day_X12_isOf : GoodIn wsX12_day (wsV RX12 289 RX12 yX12_isOf wsX12_isOf) := goodIn_app (goodIn_of _ (by decide +kernel)) ggX12_day_X12_isOf
theorem dX12_day_0 : decode cX12_day 0 = .ok (.aload_n 0, 1) := by decide +kernel
theorem dX12_day_1 : decode cX12_day 1 = .ok (.iconst 0, 1) := by decide +kernel
theorem dX12_day_2 : decode cX12_day 2 = .ok (.putfield 1, 3) := by decide +kernel
theorem dX12_day_5 : decode cX12_day 5 = .ok (.aload_n 0, 1) := by decide +kernel
theorem dX12_day_6 : decode cX12_day 6 = .ok (.iload_n 1, 1) := by decide +kernel
theorem dX12_day_7 : decode cX12_day 7 = .ok (.invokevirtual 196, 3) := by decide +kernel
theorem dX12_day_10 : decode cX12_day 10 = .ok (.ifCond .eq 21, 3) := by decide +kernel
theorem dX12_day_13 : decode cX12_day 13 = .ok (.iload_n 2, 1) := by decide +kernel
theorem dX12_day_14 : decode cX12_day 14 = .ok (.iconst 0, 1) := by decide +kernel
theorem dX12_day_15 : decode cX12_day 15 = .ok (.bipush 27, 2) := by decide +kernel
theorem dX12_day_17 : decode cX12_day 17 = .ok (.invokestatic 34, 3) := by decide +kernel
theorem dX12_day_20 : decode cX12_day 20 = .ok (.ifCond .eq 11, 3) := by decide +kernel
theorem dX12_day_23 : decode cX12_day 23 = .ok (.aload_n 0, 1) := by decide +kernel
theorem dX12_day_24 : decode cX12_day 24 = .ok (.iload_n 3, 1) := by decide +kernel
theorem dX12_day_25 : decode cX12_day 25 = .ok (.invokevirtual 286, 3) := by decide +kernel
theorem dX12_day_28 : decode cX12_day 28 = .ok (.ifCond .ne 5, 3) := by decide +kernel
theorem dX12_day_31 : decode cX12_day 31 = .ok (.iconst (-1), 1) := by decide +kernel
theorem dX12_day_32 : decode cX12_day 32 = .ok (.ireturn, 1) := by decide +kernel
theorem dX12_day_33 : decode cX12_day 33 = .ok (.aload_n 0, 1) := by decide +kernel
theorem dX12_day_34 : decode cX12_day 34 = .ok (.iload_n 1, 1) := by decide +kernel
theorem dX12_day_35 : decode cX12_day 35 = .ok (.iload_n 2, 1) := by decide +kernel
theorem dX12_day_36 : decode cX12_day 36 = .ok (.bipush 7, 2) := by decide +kernel
theorem dX12_day_38 : decode cX12_day 38 = .ok (.idiv, 1) := by decide +kernel
theorem dX12_day_39 : decode cX12_day 39 = .ok (.invokevirtual 283, 3) := by decide +kernel
theorem dX12_day_42 : decode cX12_day 42 = .ok (.iconst 0, 1) := by decide +kernel
theorem dX12_day_43 : decode cX12_day 43 = .ok (.istore 4, 2) := by decide +kernel
theorem dX12_day_45 : decode cX12_day 45 = .ok (.iconst 0, 1) := by decide +kernel
theorem dX12_day_46 : decode cX12_day 46 = .ok (.istore 5, 2) := by decide +kernel
theorem dX12_day_48 : decode cX12_day 48 = .ok (.iload 5, 2) := by decide +kernel
theorem dX12_day_50 : decode cX12_day 50 = .ok (.aload_n 0, 1) := by decide +kernel
theorem dX12_day_51 : decode cX12_day 51 = .ok (.getfield 232, 3) := by decide +kernel
theorem dX12_day_54 : decode cX12_day 54 = .ok (.if_icmp .ge 44, 3) := by decide +kernel
theorem dX12_day_57 : decode cX12_day 57 = .ok (.iload 4, 2) := by decide +kernel
theorem dX12_day_59 : decode cX12_day 59 = .ok (.aload_n 0, 1) := by decide +kernel
theorem dX12_day_60 : decode cX12_day 60 = .ok (.aload_n 0, 1) := by decide +kernel
theorem dX12_day_61 : decode cX12_day 61 = .ok (.getfield 93, 3) := by decide +kernel
theorem dX12_day_64 : decode cX12_day 64 = .ok (.iload 5, 2) := by decide +kernel
theorem dX12_day_66 : decode cX12_day 66 = .ok (.iaload, 1) := by decide +kernel
theorem dX12_day_67 : decode cX12_day 67 = .ok (.invokevirtual 235, 3) := by decide +kernel
theorem dX12_day_70 : decode cX12_day 70 = .ok (.iload_n 2, 1) := by decide +kernel
theorem dX12_day_71 : decode cX12_day 71 = .ok (.if_icmp .ne 17, 3) := by decide +kernel
theorem dX12_day_74 : decode cX12_day 74 = .ok (.aload_n 0, 1) := by decide +kernel
theorem dX12_day_75 : decode cX12_day 75 = .ok (.iload 5, 2) := by decide +kernel
theorem dX12_day_77 : decode cX12_day 77 = .ok (.iload_n 3, 1) := by decide +kernel
theorem dX12_day_78 : decode cX12_day 78 = .ok (.invokevirtual 289, 3) := by decide +kernel
theorem dX12_day_81 : decode cX12_day 81 = .ok (.ifCond .eq 7, 3) := by decide +kernel
theorem dX12_day_84 : decode cX12_day 84 = .ok (.iconst 1, 1) := by decide +kernel
theorem dX12_day_85 : decode cX12_day 85 = .ok (.goto 4, 3) := by decide +kernel
theorem dX12_day_88 : decode cX12_day 88 = .ok (.iconst 0, 1) := by decide +kernel
theorem dX12_day_89 : decode cX12_day 89 = .ok (.iadd, 1) := by decide +kernel
theorem dX12_day_90 : decode cX12_day 90 = .ok (.istore 4, 2) := by decide +kernel
theorem dX12_day_92 : decode cX12_day 92 = .ok (.iinc 5 1, 3) := by decide +kernel
theorem dX12_day_95 : decode cX12_day 95 = .ok (.goto (-47), 3) := by decide +kernel
theorem dX12_day_98 : decode cX12_day 98 = .ok (.iload 4, 2) := by decide +kernel
theorem dX12_day_100 : decode cX12_day 100 = .ok (.ireturn, 1) := by decide +kernel
set_option maxRecDepth 20000 in
theorem ggX12_isWeek_X12_within : GoodIn wsX12_isWeek wsX12_within := goodIn_r _ [4] (by decide +kernel) (by decide +kernel)
set_option maxRecDepth 20000 in
theorem gX12_isWeek_X12_within : GoodIn wsX12_isWeek (va_wsS RX12 34 yX12_within wsX12_within) := goodIn_app (goodIn_of _ (by decide +kernel)) ggX12_isWeek_X12_within
theorem dX12_isWeek_0 : decode cX12_isWeek 0 = .ok (.iload_n 1, 1) := by decide +kernel
theorem dX12_isWeek_1 : decode cX12_isWeek 1 = .ok (.iconst 0, 1) := by decide +kernel
theorem dX12_isWeek_2 : decode cX12_isWeek 2 = .ok (.iconst 3, 1) := by decide +kernel
theorem dX12_isWeek_3 : decode cX12_isWeek 3 = .ok (.invokestatic 34, 3) := by decide +kernel
theorem dX12_isWeek_6 : decode cX12_isWeek 6 = .ok (.ireturn, 1) := by decide +kernel
set_option maxRecDepth 20000 in
theorem ggX12_week_X12_isWorker : GoodIn wsX12_week wsX12_isWorker := goodIn_r _ [7, 8, 9, 6, 10] (by decide +kernel) (by decide +kernel)
set_option maxRecDepth 20000 in
theorem gX12_week_X12_isWorker : GoodIn wsX12_week (wsV RX12 196 RX12 yX12_isWorker wsX12_isWorker) := goodIn_app (goodIn_of _ (by decide +kernel)) ggX12_week_X12_isWorker
set_option maxRecDepth 20000 in
theorem ggX12_week_X12_isWeek : GoodIn wsX12_week wsX12_isWeek := goodIn_r _ [14, 8, 9, 6, 10] (by decide +kernel) (by decide +kernel)
set_option maxRecDepth 20000 in
theorem gX12_week_X12_isWeek : GoodIn wsX12_week (wsV RX12 292 RX12 yX12_isWeek wsX12_isWeek) := goodIn_app (goodIn_of _ (by decide +kernel)) ggX12_week_X12_isWeek
set_option maxRecDepth 20000 in
theorem ggX12_week_X12_isAsked : GoodIn wsX12_week wsX12_isAsked := goodIn_r _ [18, 19, 20, 21, 6, 22, 23, 8, 9, 10, 131, 132, 133, 134, 135, 136, 137, 138, 139, 140, 141, 142, 143, 144, 145, 146, 147, 148, 149, 150, 151, 152, 153, 154, 155, 156, 157, 158, 159, 160, 161, 162, 163, 164, 165, 166, 167, 168] (by decide +kernel) (by decide +kernel)
set_option maxRecDepth 20000 in
theorem gX12_week_X12_isAsked : GoodIn wsX12_week (wsV RX12 286 RX12 yX12_isAsked wsX12_isAsked) := goodIn_app (goodIn_of _ (by decide +kernel)) ggX12_week_X12_isAsked
set_option maxRecDepth 20000 in
theorem ggX12_week_X12_laysWeek : GoodIn wsX12_week wsX12_laysWeek := goodIn_r _ [27, 28, 29, 30, 6, 31, 32, 33, 34, 35, 36, 37, 38, 39, 40, 41, 42, 43, 23, 44, 45, 46, 47, 48, 49, 50, 51, 52, 53, 54, 55, 56, 57, 58, 59, 60, 61, 62, 63, 64, 8, 9, 10, 65, 66, 67, 68, 2, 69, 70, 71, 72, 73, 74, 19, 20, 21, 22, 75, 76, 77, 78, 79, 80, 81, 82, 83, 84, 85, 86, 87, 88, 89, 90, 91, 92, 93, 94, 95, 96, 97, 98, 99, 100, 101, 102, 103, 104, 105, 106, 107, 108, 109, 110, 111, 112, 113, 114, 115, 116, 117, 118, 119, 120, 121, 122, 123, 124, 125, 126, 131, 132, 133, 134, 135, 136, 137, 138, 139, 140, 141, 142, 143, 144, 145, 146, 147, 148, 149, 150, 151, 152, 153, 154, 155, 156, 157, 158, 159, 160, 161, 162, 163, 164, 165, 166, 167, 168] (by decide +kernel) (by decide +kernel)
set_option maxRecDepth 20000 in
theorem gX12_week_X12_laysWeek : GoodIn wsX12_week (wsV RX12 283 RX12 yX12_laysWeek wsX12_laysWeek) := goodIn_app (goodIn_of _ (by decide +kernel)) ggX12_week_X12_laysWeek
set_option maxRecDepth 20000 in
theorem ggX12_week_X12_isOf : GoodIn wsX12_week wsX12_isOf := goodIn_r _ [130, 115, 131, 132, 133, 134, 135, 136, 137, 138, 139, 140, 141, 142, 143, 144, 145, 146, 147, 148, 149, 150, 151, 152, 153, 154, 155, 156, 157, 158, 159, 160, 161, 162, 163, 164, 165, 166, 167, 168] (by decide +kernel) (by decide +kernel)
set_option maxRecDepth 20000 in
theorem gX12_week_X12_isOf : GoodIn wsX12_week (wsV RX12 289 RX12 yX12_isOf wsX12_isOf) := goodIn_app (goodIn_of _ (by decide +kernel)) ggX12_week_X12_isOf
theorem dX12_week_0 : decode cX12_week 0 = .ok (.aload_n 0, 1) := by decide +kernel
theorem dX12_week_1 : decode cX12_week 1 = .ok (.iconst 0, 1) := by decide +kernel
theorem dX12_week_2 : decode cX12_week 2 = .ok (.putfield 1, 3) := by decide +kernel
theorem dX12_week_5 : decode cX12_week 5 = .ok (.aload_n 0, 1) := by decide +kernel
theorem dX12_week_6 : decode cX12_week 6 = .ok (.iload_n 1, 1) := by decide +kernel
theorem dX12_week_7 : decode cX12_week 7 = .ok (.invokevirtual 196, 3) := by decide +kernel
theorem dX12_week_10 : decode cX12_week 10 = .ok (.ifCond .eq 19, 3) := by decide +kernel
theorem dX12_week_13 : decode cX12_week 13 = .ok (.aload_n 0, 1) := by decide +kernel
theorem dX12_week_14 : decode cX12_week 14 = .ok (.iload_n 2, 1) := by decide +kernel
theorem dX12_week_15 : decode cX12_week 15 = .ok (.invokevirtual 292, 3) := by decide +kernel
theorem dX12_week_18 : decode cX12_week 18 = .ok (.ifCond .eq 11, 3) := by decide +kernel
theorem dX12_week_21 : decode cX12_week 21 = .ok (.aload_n 0, 1) := by decide +kernel
theorem dX12_week_22 : decode cX12_week 22 = .ok (.iload_n 3, 1) := by decide +kernel
theorem dX12_week_23 : decode cX12_week 23 = .ok (.invokevirtual 286, 3) := by decide +kernel
theorem dX12_week_26 : decode cX12_week 26 = .ok (.ifCond .ne 5, 3) := by decide +kernel
theorem dX12_week_29 : decode cX12_week 29 = .ok (.iconst (-1), 1) := by decide +kernel
theorem dX12_week_30 : decode cX12_week 30 = .ok (.ireturn, 1) := by decide +kernel
theorem dX12_week_31 : decode cX12_week 31 = .ok (.aload_n 0, 1) := by decide +kernel
theorem dX12_week_32 : decode cX12_week 32 = .ok (.iload_n 1, 1) := by decide +kernel
theorem dX12_week_33 : decode cX12_week 33 = .ok (.iload_n 2, 1) := by decide +kernel
theorem dX12_week_34 : decode cX12_week 34 = .ok (.invokevirtual 283, 3) := by decide +kernel
theorem dX12_week_37 : decode cX12_week 37 = .ok (.iconst 0, 1) := by decide +kernel
theorem dX12_week_38 : decode cX12_week 38 = .ok (.istore 4, 2) := by decide +kernel
theorem dX12_week_40 : decode cX12_week 40 = .ok (.iconst 0, 1) := by decide +kernel
theorem dX12_week_41 : decode cX12_week 41 = .ok (.istore 5, 2) := by decide +kernel
theorem dX12_week_43 : decode cX12_week 43 = .ok (.iload 5, 2) := by decide +kernel
theorem dX12_week_45 : decode cX12_week 45 = .ok (.aload_n 0, 1) := by decide +kernel
theorem dX12_week_46 : decode cX12_week 46 = .ok (.getfield 232, 3) := by decide +kernel
theorem dX12_week_49 : decode cX12_week 49 = .ok (.if_icmp .ge 29, 3) := by decide +kernel
theorem dX12_week_52 : decode cX12_week 52 = .ok (.iload 4, 2) := by decide +kernel
theorem dX12_week_54 : decode cX12_week 54 = .ok (.aload_n 0, 1) := by decide +kernel
theorem dX12_week_55 : decode cX12_week 55 = .ok (.iload 5, 2) := by decide +kernel
theorem dX12_week_57 : decode cX12_week 57 = .ok (.iload_n 3, 1) := by decide +kernel
theorem dX12_week_58 : decode cX12_week 58 = .ok (.invokevirtual 289, 3) := by decide +kernel
theorem dX12_week_61 : decode cX12_week 61 = .ok (.ifCond .eq 7, 3) := by decide +kernel
theorem dX12_week_64 : decode cX12_week 64 = .ok (.iconst 1, 1) := by decide +kernel
theorem dX12_week_65 : decode cX12_week 65 = .ok (.goto 4, 3) := by decide +kernel
theorem dX12_week_68 : decode cX12_week 68 = .ok (.iconst 0, 1) := by decide +kernel
theorem dX12_week_69 : decode cX12_week 69 = .ok (.iadd, 1) := by decide +kernel
theorem dX12_week_70 : decode cX12_week 70 = .ok (.istore 4, 2) := by decide +kernel
theorem dX12_week_72 : decode cX12_week 72 = .ok (.iinc 5 1, 3) := by decide +kernel
theorem dX12_week_75 : decode cX12_week 75 = .ok (.goto (-32), 3) := by decide +kernel
theorem dX12_week_78 : decode cX12_week 78 = .ok (.iload 4, 2) := by decide +kernel
theorem dX12_week_80 : decode cX12_week 80 = .ok (.ireturn, 1) := by decide +kernel
set_option maxRecDepth 20000 in
theorem ggX12_counted_X12_isWorker : GoodIn wsX12_counted wsX12_isWorker := goodIn_r _ [8, 9, 10, 7, 11] (by decide +kernel) (by decide +kernel)
set_option maxRecDepth 20000 in
theorem gX12_counted_X12_isWorker : GoodIn wsX12_counted (wsV RX12 196 RX12 yX12_isWorker wsX12_isWorker) := goodIn_app (goodIn_of _ (by decide +kernel)) ggX12_counted_X12_isWorker
set_option maxRecDepth 20000 in
theorem ggX12_counted_X12_isWeek : GoodIn wsX12_counted wsX12_isWeek := goodIn_r _ [15, 9, 10, 7, 11] (by decide +kernel) (by decide +kernel)
set_option maxRecDepth 20000 in
theorem gX12_counted_X12_isWeek : GoodIn wsX12_counted (wsV RX12 292 RX12 yX12_isWeek wsX12_isWeek) := goodIn_app (goodIn_of _ (by decide +kernel)) ggX12_counted_X12_isWeek
set_option maxRecDepth 20000 in
theorem ggX12_counted_X12_laysWeek : GoodIn wsX12_counted wsX12_laysWeek := goodIn_r _ [19, 20, 21, 22, 7, 23, 24, 25, 26, 27, 28, 29, 30, 31, 32, 33, 34, 35, 36, 37, 38, 39, 40, 41, 42, 43, 44, 45, 46, 47, 48, 49, 50, 51, 52, 53, 54, 55, 56, 57, 9, 10, 11, 58, 59, 60, 61, 62, 63, 64, 65, 66, 67, 68, 69, 70, 71, 72, 73, 74, 75, 76, 77, 78, 79, 80, 81, 82, 83, 84, 85, 86, 87, 88, 89, 90, 91, 92, 93, 94, 95, 96, 97, 98, 99, 100, 101, 102, 103, 104, 105, 106, 107, 108, 109, 110, 111, 112, 113, 3, 114, 115, 116, 117, 118, 119, 120, 121, 122, 2, 123, 124, 125, 126, 127, 128, 129, 130, 131, 132, 133, 134, 135, 136, 137, 138, 139, 140, 141, 142, 143, 144, 145, 146, 147, 148, 149, 150, 151, 152, 153, 154, 155, 156, 157, 158, 159, 160] (by decide +kernel) (by decide +kernel)
set_option maxRecDepth 20000 in
theorem gX12_counted_X12_laysWeek : GoodIn wsX12_counted (wsV RX12 283 RX12 yX12_laysWeek wsX12_laysWeek) := goodIn_app (goodIn_of _ (by decide +kernel)) ggX12_counted_X12_laysWeek
theorem dX12_counted_0 : decode cX12_counted 0 = .ok (.aload_n 0, 1) := by decide +kernel
theorem dX12_counted_1 : decode cX12_counted 1 = .ok (.iconst 0, 1) := by decide +kernel
theorem dX12_counted_2 : decode cX12_counted 2 = .ok (.putfield 1, 3) := by decide +kernel
theorem dX12_counted_5 : decode cX12_counted 5 = .ok (.aload_n 0, 1) := by decide +kernel
theorem dX12_counted_6 : decode cX12_counted 6 = .ok (.iload_n 1, 1) := by decide +kernel
theorem dX12_counted_7 : decode cX12_counted 7 = .ok (.invokevirtual 196, 3) := by decide +kernel
theorem dX12_counted_10 : decode cX12_counted 10 = .ok (.ifCond .eq 11, 3) := by decide +kernel
theorem dX12_counted_13 : decode cX12_counted 13 = .ok (.aload_n 0, 1) := by decide +kernel
theorem dX12_counted_14 : decode cX12_counted 14 = .ok (.iload_n 2, 1) := by decide +kernel
theorem dX12_counted_15 : decode cX12_counted 15 = .ok (.invokevirtual 292, 3) := by decide +kernel
theorem dX12_counted_18 : decode cX12_counted 18 = .ok (.ifCond .ne 5, 3) := by decide +kernel
theorem dX12_counted_21 : decode cX12_counted 21 = .ok (.iconst (-1), 1) := by decide +kernel
theorem dX12_counted_22 : decode cX12_counted 22 = .ok (.ireturn, 1) := by decide +kernel
theorem dX12_counted_23 : decode cX12_counted 23 = .ok (.aload_n 0, 1) := by decide +kernel
theorem dX12_counted_24 : decode cX12_counted 24 = .ok (.iload_n 1, 1) := by decide +kernel
theorem dX12_counted_25 : decode cX12_counted 25 = .ok (.iload_n 2, 1) := by decide +kernel
theorem dX12_counted_26 : decode cX12_counted 26 = .ok (.invokevirtual 283, 3) := by decide +kernel
theorem dX12_counted_29 : decode cX12_counted 29 = .ok (.iload_n 3, 1) := by decide +kernel
theorem dX12_counted_30 : decode cX12_counted 30 = .ok (.ifCond .eq 10, 3) := by decide +kernel
theorem dX12_counted_33 : decode cX12_counted 33 = .ok (.aload_n 0, 1) := by decide +kernel
theorem dX12_counted_34 : decode cX12_counted 34 = .ok (.getfield 265, 3) := by decide +kernel
theorem dX12_counted_37 : decode cX12_counted 37 = .ok (.goto 7, 3) := by decide +kernel
theorem dX12_counted_40 : decode cX12_counted 40 = .ok (.aload_n 0, 1) := by decide +kernel
theorem dX12_counted_41 : decode cX12_counted 41 = .ok (.getfield 262, 3) := by decide +kernel
theorem dX12_counted_44 : decode cX12_counted 44 = .ok (.ireturn, 1) := by decide +kernel
set_option maxRecDepth 20000 in
theorem ggX12_pay_X12_isWorker : GoodIn wsX12_pay wsX12_isWorker := goodIn_r _ [10, 11, 12, 9, 13] (by decide +kernel) (by decide +kernel)
set_option maxRecDepth 20000 in
theorem gX12_pay_X12_isWorker : GoodIn wsX12_pay (wsV RX12 196 RX12 yX12_isWorker wsX12_isWorker) := goodIn_app (goodIn_of _ (by decide +kernel)) ggX12_pay_X12_isWorker
set_option maxRecDepth 20000 in
theorem ggX12_pay_X12_isWeek : GoodIn wsX12_pay wsX12_isWeek := goodIn_r _ [17, 11, 12, 9, 13] (by decide +kernel) (by decide +kernel)
set_option maxRecDepth 20000 in
theorem gX12_pay_X12_isWeek : GoodIn wsX12_pay (wsV RX12 292 RX12 yX12_isWeek wsX12_isWeek) := goodIn_app (goodIn_of _ (by decide +kernel)) ggX12_pay_X12_isWeek
set_option maxRecDepth 20000 in
theorem ggX12_pay_X12_laysWeek : GoodIn wsX12_pay wsX12_laysWeek := goodIn_r _ [21, 22, 23, 24, 9, 25, 26, 27, 28, 29, 30, 31, 32, 33, 34, 35, 36, 37, 5, 38, 39, 40, 41, 42, 43, 44, 45, 46, 47, 48, 49, 50, 51, 52, 53, 54, 55, 56, 57, 58, 11, 12, 13, 59, 60, 61, 62, 2, 63, 64, 65, 66, 67, 68, 69, 70, 71, 72, 73, 74, 75, 76, 77, 78, 79, 80, 81, 82, 83, 84, 85, 86, 87, 88, 89, 90, 91, 92, 93, 94, 95, 96, 97, 98, 99, 100, 101, 102, 103, 104, 105, 106, 107, 108, 109, 110, 111, 112, 4, 113, 114, 115, 116, 117, 118, 119, 120, 121, 3, 122, 127, 128, 129, 130, 131, 132, 133, 134, 135, 136, 137, 138, 139, 140, 141, 142, 143, 144, 145, 146, 147, 148, 149, 150, 151, 152, 153, 154, 155, 156, 157, 158, 159, 160, 161, 162, 163, 164] (by decide +kernel) (by decide +kernel)
set_option maxRecDepth 20000 in
theorem gX12_pay_X12_laysWeek : GoodIn wsX12_pay (wsV RX12 283 RX12 yX12_laysWeek wsX12_laysWeek) := goodIn_app (goodIn_of _ (by decide +kernel)) ggX12_pay_X12_laysWeek
set_option maxRecDepth 20000 in
theorem ggX12_pay_X12_hundredths : GoodIn wsX12_pay wsX12_hundredths := goodIn_r _ [126, 77, 78, 79, 9, 80, 5, 127, 128, 129, 130, 131, 132, 133, 134, 135, 136, 137, 138, 139, 140, 141, 142, 143, 144, 145, 146, 147, 148, 149, 150, 151, 152, 153, 154, 155, 156, 157, 158, 159, 160, 161, 162, 163, 164] (by decide +kernel) (by decide +kernel)
set_option maxRecDepth 20000 in
theorem gX12_pay_X12_hundredths : GoodIn wsX12_pay (wsV RX12 295 RX12 yX12_hundredths wsX12_hundredths) := goodIn_app (goodIn_of _ (by decide +kernel)) ggX12_pay_X12_hundredths
theorem dX12_pay_0 : decode cX12_pay 0 = .ok (.aload_n 0, 1) := by decide +kernel
theorem dX12_pay_1 : decode cX12_pay 1 = .ok (.iconst 0, 1) := by decide +kernel
theorem dX12_pay_2 : decode cX12_pay 2 = .ok (.putfield 1, 3) := by decide +kernel
theorem dX12_pay_5 : decode cX12_pay 5 = .ok (.aload_n 0, 1) := by decide +kernel
theorem dX12_pay_6 : decode cX12_pay 6 = .ok (.iload_n 1, 1) := by decide +kernel
theorem dX12_pay_7 : decode cX12_pay 7 = .ok (.invokevirtual 196, 3) := by decide +kernel
theorem dX12_pay_10 : decode cX12_pay 10 = .ok (.ifCond .eq 11, 3) := by decide +kernel
theorem dX12_pay_13 : decode cX12_pay 13 = .ok (.aload_n 0, 1) := by decide +kernel
theorem dX12_pay_14 : decode cX12_pay 14 = .ok (.iload_n 2, 1) := by decide +kernel
theorem dX12_pay_15 : decode cX12_pay 15 = .ok (.invokevirtual 292, 3) := by decide +kernel
theorem dX12_pay_18 : decode cX12_pay 18 = .ok (.ifCond .ne 5, 3) := by decide +kernel
theorem dX12_pay_21 : decode cX12_pay 21 = .ok (.iconst (-1), 1) := by decide +kernel
theorem dX12_pay_22 : decode cX12_pay 22 = .ok (.ireturn, 1) := by decide +kernel
theorem dX12_pay_23 : decode cX12_pay 23 = .ok (.aload_n 0, 1) := by decide +kernel
theorem dX12_pay_24 : decode cX12_pay 24 = .ok (.iload_n 1, 1) := by decide +kernel
theorem dX12_pay_25 : decode cX12_pay 25 = .ok (.iload_n 2, 1) := by decide +kernel
theorem dX12_pay_26 : decode cX12_pay 26 = .ok (.invokevirtual 283, 3) := by decide +kernel
theorem dX12_pay_29 : decode cX12_pay 29 = .ok (.iconst 0, 1) := by decide +kernel
theorem dX12_pay_30 : decode cX12_pay 30 = .ok (.istore 4, 2) := by decide +kernel
theorem dX12_pay_32 : decode cX12_pay 32 = .ok (.iconst 0, 1) := by decide +kernel
theorem dX12_pay_33 : decode cX12_pay 33 = .ok (.istore 5, 2) := by decide +kernel
theorem dX12_pay_35 : decode cX12_pay 35 = .ok (.iload 5, 2) := by decide +kernel
theorem dX12_pay_37 : decode cX12_pay 37 = .ok (.aload_n 0, 1) := by decide +kernel
theorem dX12_pay_38 : decode cX12_pay 38 = .ok (.getfield 232, 3) := by decide +kernel
theorem dX12_pay_41 : decode cX12_pay 41 = .ok (.if_icmp .ge 35, 3) := by decide +kernel
theorem dX12_pay_44 : decode cX12_pay 44 = .ok (.iload 4, 2) := by decide +kernel
theorem dX12_pay_46 : decode cX12_pay 46 = .ok (.aload_n 0, 1) := by decide +kernel
theorem dX12_pay_47 : decode cX12_pay 47 = .ok (.iload_n 3, 1) := by decide +kernel
theorem dX12_pay_48 : decode cX12_pay 48 = .ok (.ifCond .eq 10, 3) := by decide +kernel
theorem dX12_pay_51 : decode cX12_pay 51 = .ok (.aload_n 0, 1) := by decide +kernel
theorem dX12_pay_52 : decode cX12_pay 52 = .ok (.getfield 102, 3) := by decide +kernel
theorem dX12_pay_55 : decode cX12_pay 55 = .ok (.goto 7, 3) := by decide +kernel
theorem dX12_pay_58 : decode cX12_pay 58 = .ok (.aload_n 0, 1) := by decide +kernel
theorem dX12_pay_59 : decode cX12_pay 59 = .ok (.getfield 99, 3) := by decide +kernel
theorem dX12_pay_62 : decode cX12_pay 62 = .ok (.iload 5, 2) := by decide +kernel
theorem dX12_pay_64 : decode cX12_pay 64 = .ok (.invokevirtual 295, 3) := by decide +kernel
theorem dX12_pay_67 : decode cX12_pay 67 = .ok (.iadd, 1) := by decide +kernel
theorem dX12_pay_68 : decode cX12_pay 68 = .ok (.istore 4, 2) := by decide +kernel
theorem dX12_pay_70 : decode cX12_pay 70 = .ok (.iinc 5 1, 3) := by decide +kernel
theorem dX12_pay_73 : decode cX12_pay 73 = .ok (.goto (-38), 3) := by decide +kernel
theorem dX12_pay_76 : decode cX12_pay 76 = .ok (.aload_n 0, 1) := by decide +kernel
theorem dX12_pay_77 : decode cX12_pay 77 = .ok (.getfield 61, 3) := by decide +kernel
theorem dX12_pay_80 : decode cX12_pay 80 = .ok (.iconst 4, 1) := by decide +kernel
theorem dX12_pay_81 : decode cX12_pay 81 = .ok (.iaload, 1) := by decide +kernel
theorem dX12_pay_82 : decode cX12_pay 82 = .ok (.iload 4, 2) := by decide +kernel
theorem dX12_pay_84 : decode cX12_pay 84 = .ok (.imul, 1) := by decide +kernel
theorem dX12_pay_85 : decode cX12_pay 85 = .ok (.ireturn, 1) := by decide +kernel
set_option maxRecDepth 20000 in
theorem ggX12_dayPay_X12_isWorker : GoodIn wsX12_dayPay wsX12_isWorker := goodIn_r _ [10, 11, 12, 9, 13] (by decide +kernel) (by decide +kernel)
set_option maxRecDepth 20000 in
theorem gX12_dayPay_X12_isWorker : GoodIn wsX12_dayPay (wsV RX12 196 RX12 yX12_isWorker wsX12_isWorker) := goodIn_app (goodIn_of _ (by decide +kernel)) ggX12_dayPay_X12_isWorker
set_option maxRecDepth 20000 in
theorem ggX12_dayPay_X12_within : GoodIn wsX12_dayPay wsX12_within := goodIn_r _ [13] (by decide +kernel) (by decide +kernel)
set_option maxRecDepth 20000 in
theorem gX12_dayPay_X12_within : GoodIn wsX12_dayPay (va_wsS RX12 34 yX12_within wsX12_within) := goodIn_app (goodIn_of _ (by decide +kernel)) ggX12_dayPay_X12_within
set_option maxRecDepth 20000 in
theorem ggX12_dayPay_X12_laysWeek : GoodIn wsX12_dayPay wsX12_laysWeek := goodIn_r _ [17, 18, 19, 20, 9, 21, 22, 23, 24, 25, 26, 27, 28, 29, 30, 31, 32, 33, 5, 34, 35, 36, 37, 38, 39, 40, 41, 42, 43, 44, 45, 46, 47, 48, 49, 50, 51, 52, 53, 54, 11, 12, 13, 55, 56, 57, 58, 2, 3, 59, 60, 61, 62, 63, 64, 65, 66, 67, 68, 69, 70, 71, 72, 73, 74, 75, 76, 77, 78, 79, 80, 81, 82, 83, 84, 85, 86, 87, 88, 89, 90, 91, 92, 93, 94, 95, 96, 97, 98, 99, 100, 101, 102, 103, 104, 105, 106, 107, 4, 108, 109, 110, 111, 112, 113, 114, 115, 116, 117, 118, 123, 124, 125, 126, 127, 128, 129, 130, 131, 132, 133, 134, 135, 136, 137, 138, 139, 140, 141, 142, 143, 144, 145, 146, 147, 148, 149, 150, 151, 152, 153, 154, 155, 156, 157, 158, 159, 160] (by decide +kernel) (by decide +kernel)
set_option maxRecDepth 20000 in
theorem gX12_dayPay_X12_laysWeek : GoodIn wsX12_dayPay (wsV RX12 283 RX12 yX12_laysWeek wsX12_laysWeek) := goodIn_app (goodIn_of _ (by decide +kernel)) ggX12_dayPay_X12_laysWeek
set_option maxRecDepth 20000 in
theorem ggX12_dayPay_X12_dayOf : GoodIn wsX12_dayPay wsX12_dayOf := goodIn_r _ [63, 46, 47, 48, 9, 49, 5, 50, 51, 52, 53, 54, 11, 12, 13, 123, 124, 125, 126, 127, 128, 129, 130, 131, 132, 133, 134, 135, 136, 137, 138, 139, 140, 141, 142, 143, 144, 145, 146, 147, 148, 149, 150, 151, 152, 153, 154, 155, 156, 157, 158, 159, 160] (by decide +kernel) (by decide +kernel)
set_option maxRecDepth 20000 in
theorem gX12_dayPay_X12_dayOf : GoodIn wsX12_dayPay (wsV RX12 235 RX12 yX12_dayOf wsX12_dayOf) := goodIn_app (goodIn_of _ (by decide +kernel)) ggX12_dayPay_X12_dayOf
set_option maxRecDepth 20000 in
theorem ggX12_dayPay_X12_hundredths : GoodIn wsX12_dayPay wsX12_hundredths := goodIn_r _ [122, 72, 73, 74, 9, 75, 5, 123, 124, 125, 126, 127, 128, 129, 130, 131, 132, 133, 134, 135, 136, 137, 138, 139, 140, 141, 142, 143, 144, 145, 146, 147, 148, 149, 150, 151, 152, 153, 154, 155, 156, 157, 158, 159, 160] (by decide +kernel) (by decide +kernel)
set_option maxRecDepth 20000 in
theorem gX12_dayPay_X12_hundredths : GoodIn wsX12_dayPay (wsV RX12 295 RX12 yX12_hundredths wsX12_hundredths) := goodIn_app (goodIn_of _ (by decide +kernel)) ggX12_dayPay_X12_hundredths
theorem dX12_dayPay_0 : decode cX12_dayPay 0 = .ok (.aload_n 0, 1) := by decide +kernel
theorem dX12_dayPay_1 : decode cX12_dayPay 1 = .ok (.iconst 0, 1) := by decide +kernel
theorem dX12_dayPay_2 : decode cX12_dayPay 2 = .ok (.putfield 1, 3) := by decide +kernel
theorem dX12_dayPay_5 : decode cX12_dayPay 5 = .ok (.aload_n 0, 1) := by decide +kernel
theorem dX12_dayPay_6 : decode cX12_dayPay 6 = .ok (.iload_n 1, 1) := by decide +kernel
theorem dX12_dayPay_7 : decode cX12_dayPay 7 = .ok (.invokevirtual 196, 3) := by decide +kernel
theorem dX12_dayPay_10 : decode cX12_dayPay 10 = .ok (.ifCond .eq 13, 3) := by decide +kernel
theorem dX12_dayPay_13 : decode cX12_dayPay 13 = .ok (.iload_n 2, 1) := by decide +kernel
theorem dX12_dayPay_14 : decode cX12_dayPay 14 = .ok (.iconst 0, 1) := by decide +kernel
theorem dX12_dayPay_15 : decode cX12_dayPay 15 = .ok (.bipush 27, 2) := by decide +kernel
theorem dX12_dayPay_17 : decode cX12_dayPay 17 = .ok (.invokestatic 34, 3) := by decide +kernel
theorem dX12_dayPay_20 : decode cX12_dayPay 20 = .ok (.ifCond .ne 5, 3) := by decide +kernel
theorem dX12_dayPay_23 : decode cX12_dayPay 23 = .ok (.iconst (-1), 1) := by decide +kernel
theorem dX12_dayPay_24 : decode cX12_dayPay 24 = .ok (.ireturn, 1) := by decide +kernel
theorem dX12_dayPay_25 : decode cX12_dayPay 25 = .ok (.aload_n 0, 1) := by decide +kernel
theorem dX12_dayPay_26 : decode cX12_dayPay 26 = .ok (.iload_n 1, 1) := by decide +kernel
theorem dX12_dayPay_27 : decode cX12_dayPay 27 = .ok (.iload_n 2, 1) := by decide +kernel
theorem dX12_dayPay_28 : decode cX12_dayPay 28 = .ok (.bipush 7, 2) := by decide +kernel
theorem dX12_dayPay_30 : decode cX12_dayPay 30 = .ok (.idiv, 1) := by decide +kernel
theorem dX12_dayPay_31 : decode cX12_dayPay 31 = .ok (.invokevirtual 283, 3) := by decide +kernel
theorem dX12_dayPay_34 : decode cX12_dayPay 34 = .ok (.iconst 0, 1) := by decide +kernel
theorem dX12_dayPay_35 : decode cX12_dayPay 35 = .ok (.istore_n 3, 1) := by decide +kernel
theorem dX12_dayPay_36 : decode cX12_dayPay 36 = .ok (.iconst 0, 1) := by decide +kernel
theorem dX12_dayPay_37 : decode cX12_dayPay 37 = .ok (.istore 4, 2) := by decide +kernel
theorem dX12_dayPay_39 : decode cX12_dayPay 39 = .ok (.iload 4, 2) := by decide +kernel
theorem dX12_dayPay_41 : decode cX12_dayPay 41 = .ok (.aload_n 0, 1) := by decide +kernel
theorem dX12_dayPay_42 : decode cX12_dayPay 42 = .ok (.getfield 232, 3) := by decide +kernel
theorem dX12_dayPay_45 : decode cX12_dayPay 45 = .ok (.if_icmp .ge 41, 3) := by decide +kernel
theorem dX12_dayPay_48 : decode cX12_dayPay 48 = .ok (.iload_n 3, 1) := by decide +kernel
theorem dX12_dayPay_49 : decode cX12_dayPay 49 = .ok (.aload_n 0, 1) := by decide +kernel
theorem dX12_dayPay_50 : decode cX12_dayPay 50 = .ok (.aload_n 0, 1) := by decide +kernel
theorem dX12_dayPay_51 : decode cX12_dayPay 51 = .ok (.getfield 93, 3) := by decide +kernel
theorem dX12_dayPay_54 : decode cX12_dayPay 54 = .ok (.iload 4, 2) := by decide +kernel
theorem dX12_dayPay_56 : decode cX12_dayPay 56 = .ok (.iaload, 1) := by decide +kernel
theorem dX12_dayPay_57 : decode cX12_dayPay 57 = .ok (.invokevirtual 235, 3) := by decide +kernel
theorem dX12_dayPay_60 : decode cX12_dayPay 60 = .ok (.iload_n 2, 1) := by decide +kernel
theorem dX12_dayPay_61 : decode cX12_dayPay 61 = .ok (.if_icmp .ne 16, 3) := by decide +kernel
theorem dX12_dayPay_64 : decode cX12_dayPay 64 = .ok (.aload_n 0, 1) := by decide +kernel
theorem dX12_dayPay_65 : decode cX12_dayPay 65 = .ok (.aload_n 0, 1) := by decide +kernel
theorem dX12_dayPay_66 : decode cX12_dayPay 66 = .ok (.getfield 99, 3) := by decide +kernel
theorem dX12_dayPay_69 : decode cX12_dayPay 69 = .ok (.iload 4, 2) := by decide +kernel
theorem dX12_dayPay_71 : decode cX12_dayPay 71 = .ok (.invokevirtual 295, 3) := by decide +kernel
theorem dX12_dayPay_74 : decode cX12_dayPay 74 = .ok (.goto 4, 3) := by decide +kernel
theorem dX12_dayPay_77 : decode cX12_dayPay 77 = .ok (.iconst 0, 1) := by decide +kernel
theorem dX12_dayPay_78 : decode cX12_dayPay 78 = .ok (.iadd, 1) := by decide +kernel
theorem dX12_dayPay_79 : decode cX12_dayPay 79 = .ok (.istore_n 3, 1) := by decide +kernel
theorem dX12_dayPay_80 : decode cX12_dayPay 80 = .ok (.iinc 4 1, 3) := by decide +kernel
theorem dX12_dayPay_83 : decode cX12_dayPay 83 = .ok (.goto (-44), 3) := by decide +kernel
theorem dX12_dayPay_86 : decode cX12_dayPay 86 = .ok (.aload_n 0, 1) := by decide +kernel
theorem dX12_dayPay_87 : decode cX12_dayPay 87 = .ok (.getfield 61, 3) := by decide +kernel
theorem dX12_dayPay_90 : decode cX12_dayPay 90 = .ok (.iconst 4, 1) := by decide +kernel
theorem dX12_dayPay_91 : decode cX12_dayPay 91 = .ok (.iaload, 1) := by decide +kernel
theorem dX12_dayPay_92 : decode cX12_dayPay 92 = .ok (.iload_n 3, 1) := by decide +kernel
theorem dX12_dayPay_93 : decode cX12_dayPay 93 = .ok (.imul, 1) := by decide +kernel
theorem dX12_dayPay_94 : decode cX12_dayPay 94 = .ok (.ireturn, 1) := by decide +kernel
set_option maxRecDepth 20000 in
theorem ggX12_payOf_X12_laysWorked : GoodIn wsX12_payOf wsX12_laysWorked := goodIn_r _ [8, 9, 10, 11, 12, 13, 14, 15, 7, 16, 17, 18, 19, 20, 3, 21, 22, 23, 24, 25, 26, 27, 28, 29, 30, 31, 32, 33, 34, 35, 36, 37, 38, 39, 40, 41, 42, 43, 44, 93, 94, 95, 96, 97, 98, 99, 100, 101, 102, 103, 104, 105, 106, 107, 108, 109, 110, 111, 112, 113, 114, 115, 116, 117, 118, 119, 120, 121, 122, 123, 124, 125, 126, 127, 128, 129, 130] (by decide +kernel) (by decide +kernel)
set_option maxRecDepth 20000 in
theorem gX12_payOf_X12_laysWorked : GoodIn wsX12_payOf (wsV RX12 268 RX12 yX12_laysWorked wsX12_laysWorked) := goodIn_app (goodIn_of _ (by decide +kernel)) ggX12_payOf_X12_laysWorked
set_option maxRecDepth 20000 in
theorem ggX12_payOf_X12_laysQuarters : GoodIn wsX12_payOf wsX12_laysQuarters := goodIn_r _ [48, 1, 9, 49, 50, 51, 52, 53, 7, 54, 33, 34, 35, 36, 3, 37, 38, 39, 40, 41, 42, 43, 44, 55, 56, 57, 58, 59, 60, 61, 62, 63, 64, 65, 66, 67, 68, 69, 70, 71, 72, 73, 74, 93, 94, 95, 96, 97, 98, 99, 100, 101, 102, 103, 104, 105, 106, 107, 108, 109, 110, 111, 112, 113, 114, 115, 116, 117, 118, 119, 120, 121, 122, 123, 124, 125, 126, 127, 128, 129, 130] (by decide +kernel) (by decide +kernel)
set_option maxRecDepth 20000 in
theorem gX12_payOf_X12_laysQuarters : GoodIn wsX12_payOf (wsV RX12 271 RX12 yX12_laysQuarters wsX12_laysQuarters) := goodIn_app (goodIn_of _ (by decide +kernel)) ggX12_payOf_X12_laysQuarters
set_option maxRecDepth 20000 in
theorem ggX12_payOf_X12_laysBest : GoodIn wsX12_payOf wsX12_laysBest := goodIn_r _ [78, 1, 2, 79, 80, 81, 82, 83, 7, 84, 55, 56, 57, 58, 3, 63, 64, 65, 66, 85, 86, 87, 88, 89, 90, 91, 92, 50, 93, 94, 95, 96, 97, 98, 99, 100, 101, 102, 103, 104, 105, 106, 107, 108, 109, 110, 111, 112, 113, 114, 115, 116, 117, 118, 119, 120, 121, 122, 123, 124, 125, 126, 127, 128, 129, 130] (by decide +kernel) (by decide +kernel)
set_option maxRecDepth 20000 in
theorem gX12_payOf_X12_laysBest : GoodIn wsX12_payOf (wsV RX12 274 RX12 yX12_laysBest wsX12_laysBest) := goodIn_app (goodIn_of _ (by decide +kernel)) ggX12_payOf_X12_laysBest
theorem dX12_payOf_0 : decode cX12_payOf 0 = .ok (.aload_n 0, 1) := by decide +kernel
theorem dX12_payOf_1 : decode cX12_payOf 1 = .ok (.iload_n 1, 1) := by decide +kernel
theorem dX12_payOf_2 : decode cX12_payOf 2 = .ok (.invokevirtual 268, 3) := by decide +kernel
theorem dX12_payOf_5 : decode cX12_payOf 5 = .ok (.iconst 0, 1) := by decide +kernel
theorem dX12_payOf_6 : decode cX12_payOf 6 = .ok (.istore_n 2, 1) := by decide +kernel
theorem dX12_payOf_7 : decode cX12_payOf 7 = .ok (.iconst 0, 1) := by decide +kernel
theorem dX12_payOf_8 : decode cX12_payOf 8 = .ok (.istore_n 3, 1) := by decide +kernel
theorem dX12_payOf_9 : decode cX12_payOf 9 = .ok (.iload_n 3, 1) := by decide +kernel
theorem dX12_payOf_10 : decode cX12_payOf 10 = .ok (.iconst 4, 1) := by decide +kernel
theorem dX12_payOf_11 : decode cX12_payOf 11 = .ok (.if_icmp .ge 38, 3) := by decide +kernel
theorem dX12_payOf_14 : decode cX12_payOf 14 = .ok (.aload_n 0, 1) := by decide +kernel
theorem dX12_payOf_15 : decode cX12_payOf 15 = .ok (.iload_n 3, 1) := by decide +kernel
theorem dX12_payOf_16 : decode cX12_payOf 16 = .ok (.invokevirtual 271, 3) := by decide +kernel
theorem dX12_payOf_19 : decode cX12_payOf 19 = .ok (.aload_n 0, 1) := by decide +kernel
theorem dX12_payOf_20 : decode cX12_payOf 20 = .ok (.invokevirtual 274, 3) := by decide +kernel
theorem dX12_payOf_23 : decode cX12_payOf 23 = .ok (.iload_n 2, 1) := by decide +kernel
theorem dX12_payOf_24 : decode cX12_payOf 24 = .ok (.aload_n 0, 1) := by decide +kernel
theorem dX12_payOf_25 : decode cX12_payOf 25 = .ok (.getfield 232, 3) := by decide +kernel
theorem dX12_payOf_28 : decode cX12_payOf 28 = .ok (.ifCond .ne 7, 3) := by decide +kernel
theorem dX12_payOf_31 : decode cX12_payOf 31 = .ok (.iconst 0, 1) := by decide +kernel
theorem dX12_payOf_32 : decode cX12_payOf 32 = .ok (.goto 9, 3) := by decide +kernel
theorem dX12_payOf_35 : decode cX12_payOf 35 = .ok (.aload_n 0, 1) := by decide +kernel
theorem dX12_payOf_36 : decode cX12_payOf 36 = .ok (.getfield 109, 3) := by decide +kernel
theorem dX12_payOf_39 : decode cX12_payOf 39 = .ok (.iconst 0, 1) := by decide +kernel
theorem dX12_payOf_40 : decode cX12_payOf 40 = .ok (.iaload, 1) := by decide +kernel
theorem dX12_payOf_41 : decode cX12_payOf 41 = .ok (.iadd, 1) := by decide +kernel
theorem dX12_payOf_42 : decode cX12_payOf 42 = .ok (.istore_n 2, 1) := by decide +kernel
theorem dX12_payOf_43 : decode cX12_payOf 43 = .ok (.iinc 3 1, 3) := by decide +kernel
theorem dX12_payOf_46 : decode cX12_payOf 46 = .ok (.goto (-37), 3) := by decide +kernel
theorem dX12_payOf_49 : decode cX12_payOf 49 = .ok (.aload_n 0, 1) := by decide +kernel
theorem dX12_payOf_50 : decode cX12_payOf 50 = .ok (.getfield 61, 3) := by decide +kernel
theorem dX12_payOf_53 : decode cX12_payOf 53 = .ok (.iconst 4, 1) := by decide +kernel
theorem dX12_payOf_54 : decode cX12_payOf 54 = .ok (.iaload, 1) := by decide +kernel
theorem dX12_payOf_55 : decode cX12_payOf 55 = .ok (.iload_n 2, 1) := by decide +kernel
theorem dX12_payOf_56 : decode cX12_payOf 56 = .ok (.imul, 1) := by decide +kernel
theorem dX12_payOf_57 : decode cX12_payOf 57 = .ok (.ireturn, 1) := by decide +kernel
theorem dX12_about_0 : decode cX12_about 0 = .ok (.iload_n 0, 1) := by decide +kernel
theorem dX12_about_1 : decode cX12_about 1 = .ok (.ifCond .ne 7, 3) := by decide +kernel
theorem dX12_about_4 : decode cX12_about 4 = .ok (.iconst 0, 1) := by decide +kernel
theorem dX12_about_5 : decode cX12_about 5 = .ok (.goto 11, 3) := by decide +kernel
theorem dX12_about_8 : decode cX12_about 8 = .ok (.sipush 672, 3) := by decide +kernel
theorem dX12_about_11 : decode cX12_about 11 = .ok (.iload_n 0, 1) := by decide +kernel
theorem dX12_about_12 : decode cX12_about 12 = .ok (.imul, 1) := by decide +kernel
theorem dX12_about_13 : decode cX12_about 13 = .ok (.bipush 8, 2) := by decide +kernel
theorem dX12_about_15 : decode cX12_about 15 = .ok (.isub, 1) := by decide +kernel
theorem dX12_about_16 : decode cX12_about 16 = .ok (.ireturn, 1) := by decide +kernel
set_option maxRecDepth 20000 in
theorem ggX12_isAsKept_X12_about : GoodIn wsX12_isAsKept wsX12_about := goodIn_r _ [7] (by decide +kernel) (by decide +kernel)
set_option maxRecDepth 20000 in
theorem gX12_isAsKept_X12_about : GoodIn wsX12_isAsKept (va_wsS RX12 299 yX12_about wsX12_about) := goodIn_app (goodIn_of _ (by decide +kernel)) ggX12_isAsKept_X12_about
theorem dX12_isAsKept_0 : decode cX12_isAsKept 0 = .ok (.aload_n 0, 1) := by decide +kernel
theorem dX12_isAsKept_1 : decode cX12_isAsKept 1 = .ok (.getfield 124, 3) := by decide +kernel
theorem dX12_isAsKept_4 : decode cX12_isAsKept 4 = .ok (.iload_n 1, 1) := by decide +kernel
theorem dX12_isAsKept_5 : decode cX12_isAsKept 5 = .ok (.baload, 1) := by decide +kernel
theorem dX12_isAsKept_6 : decode cX12_isAsKept 6 = .ok (.istore_n 3, 1) := by decide +kernel
theorem dX12_isAsKept_7 : decode cX12_isAsKept 7 = .ok (.iconst 0, 1) := by decide +kernel
theorem dX12_isAsKept_8 : decode cX12_isAsKept 8 = .ok (.istore 4, 2) := by decide +kernel
theorem dX12_isAsKept_10 : decode cX12_isAsKept 10 = .ok (.iload 4, 2) := by decide +kernel
theorem dX12_isAsKept_12 : decode cX12_isAsKept 12 = .ok (.sipush 690, 3) := by decide +kernel
theorem dX12_isAsKept_15 : decode cX12_isAsKept 15 = .ok (.if_icmp .ge 47, 3) := by decide +kernel
theorem dX12_isAsKept_18 : decode cX12_isAsKept 18 = .ok (.iload_n 3, 1) := by decide +kernel
theorem dX12_isAsKept_19 : decode cX12_isAsKept 19 = .ok (.ifCond .eq 43, 3) := by decide +kernel
theorem dX12_isAsKept_22 : decode cX12_isAsKept 22 = .ok (.aload_n 0, 1) := by decide +kernel
theorem dX12_isAsKept_23 : decode cX12_isAsKept 23 = .ok (.getfield 118, 3) := by decide +kernel
theorem dX12_isAsKept_26 : decode cX12_isAsKept 26 = .ok (.sipush 690, 3) := by decide +kernel
theorem dX12_isAsKept_29 : decode cX12_isAsKept 29 = .ok (.iload_n 1, 1) := by decide +kernel
theorem dX12_isAsKept_30 : decode cX12_isAsKept 30 = .ok (.imul, 1) := by decide +kernel
theorem dX12_isAsKept_31 : decode cX12_isAsKept 31 = .ok (.iload 4, 2) := by decide +kernel
theorem dX12_isAsKept_33 : decode cX12_isAsKept 33 = .ok (.iadd, 1) := by decide +kernel
theorem dX12_isAsKept_34 : decode cX12_isAsKept 34 = .ok (.baload, 1) := by decide +kernel
theorem dX12_isAsKept_35 : decode cX12_isAsKept 35 = .ok (.aload_n 0, 1) := by decide +kernel
theorem dX12_isAsKept_36 : decode cX12_isAsKept 36 = .ok (.getfield 89, 3) := by decide +kernel
theorem dX12_isAsKept_39 : decode cX12_isAsKept 39 = .ok (.iload_n 2, 1) := by decide +kernel
theorem dX12_isAsKept_40 : decode cX12_isAsKept 40 = .ok (.invokestatic 299, 3) := by decide +kernel
theorem dX12_isAsKept_43 : decode cX12_isAsKept 43 = .ok (.iload 4, 2) := by decide +kernel
theorem dX12_isAsKept_45 : decode cX12_isAsKept 45 = .ok (.iadd, 1) := by decide +kernel
theorem dX12_isAsKept_46 : decode cX12_isAsKept 46 = .ok (.baload, 1) := by decide +kernel
theorem dX12_isAsKept_47 : decode cX12_isAsKept 47 = .ok (.if_icmp .ne 7, 3) := by decide +kernel
theorem dX12_isAsKept_50 : decode cX12_isAsKept 50 = .ok (.iconst 1, 1) := by decide +kernel
theorem dX12_isAsKept_51 : decode cX12_isAsKept 51 = .ok (.goto 4, 3) := by decide +kernel
theorem dX12_isAsKept_54 : decode cX12_isAsKept 54 = .ok (.iconst 0, 1) := by decide +kernel
theorem dX12_isAsKept_55 : decode cX12_isAsKept 55 = .ok (.istore_n 3, 1) := by decide +kernel
theorem dX12_isAsKept_56 : decode cX12_isAsKept 56 = .ok (.iinc 4 1, 3) := by decide +kernel
theorem dX12_isAsKept_59 : decode cX12_isAsKept 59 = .ok (.goto (-49), 3) := by decide +kernel
theorem dX12_isAsKept_62 : decode cX12_isAsKept 62 = .ok (.iload_n 3, 1) := by decide +kernel
theorem dX12_isAsKept_63 : decode cX12_isAsKept 63 = .ok (.ireturn, 1) := by decide +kernel
set_option maxRecDepth 20000 in
theorem ggX12_weekSum_X12_isAsKept : GoodIn wsX12_weekSum wsX12_isAsKept := goodIn_r _ [11, 2, 3, 4, 12, 13, 10, 14, 76, 77, 78, 79, 80, 81, 82, 83, 84, 85, 86, 87, 88, 89, 90, 91, 92, 93, 94, 95, 96, 97, 98, 99, 100, 101, 102, 103, 104, 105, 106, 107, 108, 109, 110, 111, 112, 113] (by decide +kernel) (by decide +kernel)
set_option maxRecDepth 20000 in
theorem gX12_weekSum_X12_isAsKept : GoodIn wsX12_weekSum (wsV RX12 302 RX12 yX12_isAsKept wsX12_isAsKept) := goodIn_app (goodIn_of _ (by decide +kernel)) ggX12_weekSum_X12_isAsKept
set_option maxRecDepth 20000 in
theorem ggX12_weekSum_X12_laysQuarters : GoodIn wsX12_weekSum wsX12_laysQuarters := goodIn_r _ [18, 5, 4, 19, 20, 21, 22, 23, 10, 24, 25, 26, 27, 28, 29, 30, 31, 32, 33, 34, 35, 36, 37, 38, 39, 40, 41, 42, 43, 44, 45, 46, 47, 48, 49, 50, 51, 52, 53, 54, 55, 56, 57, 76, 77, 78, 79, 80, 81, 82, 83, 84, 85, 86, 87, 88, 89, 90, 91, 92, 93, 94, 95, 96, 97, 98, 99, 100, 101, 102, 103, 104, 105, 106, 107, 108, 109, 110, 111, 112, 113] (by decide +kernel) (by decide +kernel)
set_option maxRecDepth 20000 in
theorem gX12_weekSum_X12_laysQuarters : GoodIn wsX12_weekSum (wsV RX12 271 RX12 yX12_laysQuarters wsX12_laysQuarters) := goodIn_app (goodIn_of _ (by decide +kernel)) ggX12_weekSum_X12_laysQuarters
set_option maxRecDepth 20000 in
theorem ggX12_weekSum_X12_laysBest : GoodIn wsX12_weekSum wsX12_laysBest := goodIn_r _ [61, 5, 6, 62, 63, 64, 65, 66, 10, 67, 38, 39, 40, 41, 29, 46, 47, 48, 49, 68, 69, 70, 71, 72, 73, 74, 75, 20, 76, 77, 78, 79, 80, 81, 82, 83, 84, 85, 86, 87, 88, 89, 90, 91, 92, 93, 94, 95, 96, 97, 98, 99, 100, 101, 102, 103, 104, 105, 106, 107, 108, 109, 110, 111, 112, 113] (by decide +kernel) (by decide +kernel)
set_option maxRecDepth 20000 in
theorem gX12_weekSum_X12_laysBest : GoodIn wsX12_weekSum (wsV RX12 274 RX12 yX12_laysBest wsX12_laysBest) := goodIn_app (goodIn_of _ (by decide +kernel)) ggX12_weekSum_X12_laysBest
set_option maxRecDepth 20000 in
theorem ggX12_weekSum_X12_about : GoodIn wsX12_weekSum wsX12_about := goodIn_r _ [14] (by decide +kernel) (by decide +kernel)
set_option maxRecDepth 20000 in
theorem gX12_weekSum_X12_about : GoodIn wsX12_weekSum (va_wsS RX12 299 yX12_about wsX12_about) := goodIn_app (goodIn_of _ (by decide +kernel)) ggX12_weekSum_X12_about
theorem dX12_weekSum_0 : decode cX12_weekSum 0 = .ok (.iconst 0, 1) := by decide +kernel
theorem dX12_weekSum_1 : decode cX12_weekSum 1 = .ok (.istore_n 2, 1) := by decide +kernel
theorem dX12_weekSum_2 : decode cX12_weekSum 2 = .ok (.iload_n 2, 1) := by decide +kernel
theorem dX12_weekSum_3 : decode cX12_weekSum 3 = .ok (.iconst 2, 1) := by decide +kernel
theorem dX12_weekSum_4 : decode cX12_weekSum 4 = .ok (.if_icmp .ge 33, 3) := by decide +kernel
theorem dX12_weekSum_7 : decode cX12_weekSum 7 = .ok (.aload_n 0, 1) := by decide +kernel
theorem dX12_weekSum_8 : decode cX12_weekSum 8 = .ok (.iconst 4, 1) := by decide +kernel
theorem dX12_weekSum_9 : decode cX12_weekSum 9 = .ok (.iload_n 2, 1) := by decide +kernel
theorem dX12_weekSum_10 : decode cX12_weekSum 10 = .ok (.imul, 1) := by decide +kernel
theorem dX12_weekSum_11 : decode cX12_weekSum 11 = .ok (.iload_n 1, 1) := by decide +kernel
theorem dX12_weekSum_12 : decode cX12_weekSum 12 = .ok (.iadd, 1) := by decide +kernel
theorem dX12_weekSum_13 : decode cX12_weekSum 13 = .ok (.iload_n 1, 1) := by decide +kernel
theorem dX12_weekSum_14 : decode cX12_weekSum 14 = .ok (.invokevirtual 302, 3) := by decide +kernel
theorem dX12_weekSum_17 : decode cX12_weekSum 17 = .ok (.ifCond .eq 14, 3) := by decide +kernel
theorem dX12_weekSum_20 : decode cX12_weekSum 20 = .ok (.aload_n 0, 1) := by decide +kernel
theorem dX12_weekSum_21 : decode cX12_weekSum 21 = .ok (.getfield 121, 3) := by decide +kernel
theorem dX12_weekSum_24 : decode cX12_weekSum 24 = .ok (.iconst 4, 1) := by decide +kernel
theorem dX12_weekSum_25 : decode cX12_weekSum 25 = .ok (.iload_n 2, 1) := by decide +kernel
theorem dX12_weekSum_26 : decode cX12_weekSum 26 = .ok (.imul, 1) := by decide +kernel
theorem dX12_weekSum_27 : decode cX12_weekSum 27 = .ok (.iload_n 1, 1) := by decide +kernel
theorem dX12_weekSum_28 : decode cX12_weekSum 28 = .ok (.iadd, 1) := by decide +kernel
theorem dX12_weekSum_29 : decode cX12_weekSum 29 = .ok (.iaload, 1) := by decide +kernel
theorem dX12_weekSum_30 : decode cX12_weekSum 30 = .ok (.ireturn, 1) := by decide +kernel
theorem dX12_weekSum_31 : decode cX12_weekSum 31 = .ok (.iinc 2 1, 3) := by decide +kernel
theorem dX12_weekSum_34 : decode cX12_weekSum 34 = .ok (.goto (-32), 3) := by decide +kernel
theorem dX12_weekSum_37 : decode cX12_weekSum 37 = .ok (.aload_n 0, 1) := by decide +kernel
theorem dX12_weekSum_38 : decode cX12_weekSum 38 = .ok (.iload_n 1, 1) := by decide +kernel
theorem dX12_weekSum_39 : decode cX12_weekSum 39 = .ok (.invokevirtual 271, 3) := by decide +kernel
theorem dX12_weekSum_42 : decode cX12_weekSum 42 = .ok (.aload_n 0, 1) := by decide +kernel
theorem dX12_weekSum_43 : decode cX12_weekSum 43 = .ok (.invokevirtual 274, 3) := by decide +kernel
theorem dX12_weekSum_46 : decode cX12_weekSum 46 = .ok (.aload_n 0, 1) := by decide +kernel
theorem dX12_weekSum_47 : decode cX12_weekSum 47 = .ok (.getfield 124, 3) := by decide +kernel
theorem dX12_weekSum_50 : decode cX12_weekSum 50 = .ok (.iload_n 1, 1) := by decide +kernel
theorem dX12_weekSum_51 : decode cX12_weekSum 51 = .ok (.baload, 1) := by decide +kernel
theorem dX12_weekSum_52 : decode cX12_weekSum 52 = .ok (.ifCond .eq 9, 3) := by decide +kernel
theorem dX12_weekSum_55 : decode cX12_weekSum 55 = .ok (.iconst 4, 1) := by decide +kernel
theorem dX12_weekSum_56 : decode cX12_weekSum 56 = .ok (.iload_n 1, 1) := by decide +kernel
theorem dX12_weekSum_57 : decode cX12_weekSum 57 = .ok (.iadd, 1) := by decide +kernel
theorem dX12_weekSum_58 : decode cX12_weekSum 58 = .ok (.goto 4, 3) := by decide +kernel
theorem dX12_weekSum_61 : decode cX12_weekSum 61 = .ok (.iload_n 1, 1) := by decide +kernel
theorem dX12_weekSum_62 : decode cX12_weekSum 62 = .ok (.istore_n 2, 1) := by decide +kernel
theorem dX12_weekSum_63 : decode cX12_weekSum 63 = .ok (.iconst 0, 1) := by decide +kernel
theorem dX12_weekSum_64 : decode cX12_weekSum 64 = .ok (.istore_n 3, 1) := by decide +kernel
theorem dX12_weekSum_65 : decode cX12_weekSum 65 = .ok (.iload_n 3, 1) := by decide +kernel
theorem dX12_weekSum_66 : decode cX12_weekSum 66 = .ok (.sipush 690, 3) := by decide +kernel
theorem dX12_weekSum_69 : decode cX12_weekSum 69 = .ok (.if_icmp .ge 32, 3) := by decide +kernel
theorem dX12_weekSum_72 : decode cX12_weekSum 72 = .ok (.aload_n 0, 1) := by decide +kernel
theorem dX12_weekSum_73 : decode cX12_weekSum 73 = .ok (.getfield 118, 3) := by decide +kernel
theorem dX12_weekSum_76 : decode cX12_weekSum 76 = .ok (.sipush 690, 3) := by decide +kernel
theorem dX12_weekSum_79 : decode cX12_weekSum 79 = .ok (.iload_n 2, 1) := by decide +kernel
theorem dX12_weekSum_80 : decode cX12_weekSum 80 = .ok (.imul, 1) := by decide +kernel
theorem dX12_weekSum_81 : decode cX12_weekSum 81 = .ok (.iload_n 3, 1) := by decide +kernel
theorem dX12_weekSum_82 : decode cX12_weekSum 82 = .ok (.iadd, 1) := by decide +kernel
theorem dX12_weekSum_83 : decode cX12_weekSum 83 = .ok (.aload_n 0, 1) := by decide +kernel
theorem dX12_weekSum_84 : decode cX12_weekSum 84 = .ok (.getfield 89, 3) := by decide +kernel
theorem dX12_weekSum_87 : decode cX12_weekSum 87 = .ok (.iload_n 1, 1) := by decide +kernel
theorem dX12_weekSum_88 : decode cX12_weekSum 88 = .ok (.invokestatic 299, 3) := by decide +kernel
theorem dX12_weekSum_91 : decode cX12_weekSum 91 = .ok (.iload_n 3, 1) := by decide +kernel
theorem dX12_weekSum_92 : decode cX12_weekSum 92 = .ok (.iadd, 1) := by decide +kernel
theorem dX12_weekSum_93 : decode cX12_weekSum 93 = .ok (.baload, 1) := by decide +kernel
theorem dX12_weekSum_94 : decode cX12_weekSum 94 = .ok (.bastore, 1) := by decide +kernel
theorem dX12_weekSum_95 : decode cX12_weekSum 95 = .ok (.iinc 3 1, 3) := by decide +kernel
theorem dX12_weekSum_98 : decode cX12_weekSum 98 = .ok (.goto (-33), 3) := by decide +kernel
theorem dX12_weekSum_101 : decode cX12_weekSum 101 = .ok (.aload_n 0, 1) := by decide +kernel
theorem dX12_weekSum_102 : decode cX12_weekSum 102 = .ok (.getfield 121, 3) := by decide +kernel
theorem dX12_weekSum_105 : decode cX12_weekSum 105 = .ok (.iload_n 2, 1) := by decide +kernel
theorem dX12_weekSum_106 : decode cX12_weekSum 106 = .ok (.aload_n 0, 1) := by decide +kernel
theorem dX12_weekSum_107 : decode cX12_weekSum 107 = .ok (.getfield 232, 3) := by decide +kernel
theorem dX12_weekSum_110 : decode cX12_weekSum 110 = .ok (.ifCond .ne 7, 3) := by decide +kernel
theorem dX12_weekSum_113 : decode cX12_weekSum 113 = .ok (.iconst 0, 1) := by decide +kernel
theorem dX12_weekSum_114 : decode cX12_weekSum 114 = .ok (.goto 9, 3) := by decide +kernel
theorem dX12_weekSum_117 : decode cX12_weekSum 117 = .ok (.aload_n 0, 1) := by decide +kernel
theorem dX12_weekSum_118 : decode cX12_weekSum 118 = .ok (.getfield 109, 3) := by decide +kernel
theorem dX12_weekSum_121 : decode cX12_weekSum 121 = .ok (.iconst 0, 1) := by decide +kernel
theorem dX12_weekSum_122 : decode cX12_weekSum 122 = .ok (.iaload, 1) := by decide +kernel
theorem dX12_weekSum_123 : decode cX12_weekSum 123 = .ok (.iastore, 1) := by decide +kernel
theorem dX12_weekSum_124 : decode cX12_weekSum 124 = .ok (.aload_n 0, 1) := by decide +kernel
theorem dX12_weekSum_125 : decode cX12_weekSum 125 = .ok (.getfield 124, 3) := by decide +kernel
theorem dX12_weekSum_128 : decode cX12_weekSum 128 = .ok (.iload_n 2, 1) := by decide +kernel
theorem dX12_weekSum_129 : decode cX12_weekSum 129 = .ok (.iconst 1, 1) := by decide +kernel
theorem dX12_weekSum_130 : decode cX12_weekSum 130 = .ok (.bastore, 1) := by decide +kernel
theorem dX12_weekSum_131 : decode cX12_weekSum 131 = .ok (.aload_n 0, 1) := by decide +kernel
theorem dX12_weekSum_132 : decode cX12_weekSum 132 = .ok (.getfield 121, 3) := by decide +kernel
theorem dX12_weekSum_135 : decode cX12_weekSum 135 = .ok (.iload_n 2, 1) := by decide +kernel
theorem dX12_weekSum_136 : decode cX12_weekSum 136 = .ok (.iaload, 1) := by decide +kernel
theorem dX12_weekSum_137 : decode cX12_weekSum 137 = .ok (.ireturn, 1) := by decide +kernel
set_option maxRecDepth 20000 in
theorem ggX12_payKept_X12_laysWorked : GoodIn wsX12_payKept wsX12_laysWorked := goodIn_r _ [6, 7, 8, 9, 10, 11, 12, 13, 5, 14, 15, 16, 17, 18, 1, 19, 20, 21, 22, 23, 24, 25, 26, 27, 28, 29, 30, 31, 32, 33, 34, 35, 36, 37, 38, 39, 40, 41, 42, 107, 108, 109, 110, 111, 112, 113, 114, 115, 116, 117, 118, 119, 120, 121, 122, 123, 124, 125, 126, 127, 128, 129, 130, 131, 132, 133, 134, 135, 136, 137, 138, 139, 140, 141, 142, 143, 144] (by decide +kernel) (by decide +kernel)
set_option maxRecDepth 20000 in
theorem gX12_payKept_X12_laysWorked : GoodIn wsX12_payKept (wsV RX12 268 RX12 yX12_laysWorked wsX12_laysWorked) := goodIn_app (goodIn_of _ (by decide +kernel)) ggX12_payKept_X12_laysWorked
set_option maxRecDepth 20000 in
theorem ggX12_payKept_X12_weekSum : GoodIn wsX12_payKept wsX12_weekSum := goodIn_r _ [46, 47, 48, 49, 7, 50, 51, 52, 53, 54, 5, 55, 56, 57, 58, 59, 60, 61, 62, 63, 64, 65, 66, 67, 68, 31, 32, 33, 34, 1, 35, 36, 37, 38, 39, 40, 41, 42, 69, 70, 71, 72, 73, 74, 75, 76, 77, 78, 79, 80, 81, 82, 83, 84, 85, 86, 87, 88, 89, 90, 91, 92, 93, 94, 95, 96, 97, 98, 99, 100, 101, 102, 103, 104, 105, 106, 107, 108, 109, 110, 111, 112, 113, 114, 115, 116, 117, 118, 119, 120, 121, 122, 123, 124, 125, 126, 127, 128, 129, 130, 131, 132, 133, 134, 135, 136, 137, 138, 139, 140, 141, 142, 143, 144] (by decide +kernel) (by decide +kernel)
set_option maxRecDepth 20000 in
theorem gX12_payKept_X12_weekSum : GoodIn wsX12_payKept (wsV RX12 305 RX12 yX12_weekSum wsX12_weekSum) := goodIn_app (goodIn_of _ (by decide +kernel)) ggX12_payKept_X12_weekSum
theorem dX12_payKept_0 : decode cX12_payKept 0 = .ok (.aload_n 0, 1) := by decide +kernel
theorem dX12_payKept_1 : decode cX12_payKept 1 = .ok (.iload_n 1, 1) := by decide +kernel
theorem dX12_payKept_2 : decode cX12_payKept 2 = .ok (.invokevirtual 268, 3) := by decide +kernel
theorem dX12_payKept_5 : decode cX12_payKept 5 = .ok (.iconst 0, 1) := by decide +kernel
theorem dX12_payKept_6 : decode cX12_payKept 6 = .ok (.istore_n 2, 1) := by decide +kernel
theorem dX12_payKept_7 : decode cX12_payKept 7 = .ok (.iconst 0, 1) := by decide +kernel
theorem dX12_payKept_8 : decode cX12_payKept 8 = .ok (.istore_n 3, 1) := by decide +kernel
theorem dX12_payKept_9 : decode cX12_payKept 9 = .ok (.iload_n 3, 1) := by decide +kernel
theorem dX12_payKept_10 : decode cX12_payKept 10 = .ok (.iconst 4, 1) := by decide +kernel
theorem dX12_payKept_11 : decode cX12_payKept 11 = .ok (.if_icmp .ge 17, 3) := by decide +kernel
theorem dX12_payKept_14 : decode cX12_payKept 14 = .ok (.iload_n 2, 1) := by decide +kernel
theorem dX12_payKept_15 : decode cX12_payKept 15 = .ok (.aload_n 0, 1) := by decide +kernel
theorem dX12_payKept_16 : decode cX12_payKept 16 = .ok (.iload_n 3, 1) := by decide +kernel
theorem dX12_payKept_17 : decode cX12_payKept 17 = .ok (.invokevirtual 305, 3) := by decide +kernel
theorem dX12_payKept_20 : decode cX12_payKept 20 = .ok (.iadd, 1) := by decide +kernel
theorem dX12_payKept_21 : decode cX12_payKept 21 = .ok (.istore_n 2, 1) := by decide +kernel
theorem dX12_payKept_22 : decode cX12_payKept 22 = .ok (.iinc 3 1, 3) := by decide +kernel
theorem dX12_payKept_25 : decode cX12_payKept 25 = .ok (.goto (-16), 3) := by decide +kernel
theorem dX12_payKept_28 : decode cX12_payKept 28 = .ok (.aload_n 0, 1) := by decide +kernel
theorem dX12_payKept_29 : decode cX12_payKept 29 = .ok (.getfield 61, 3) := by decide +kernel
theorem dX12_payKept_32 : decode cX12_payKept 32 = .ok (.iconst 4, 1) := by decide +kernel
theorem dX12_payKept_33 : decode cX12_payKept 33 = .ok (.iaload, 1) := by decide +kernel
theorem dX12_payKept_34 : decode cX12_payKept 34 = .ok (.iload_n 2, 1) := by decide +kernel
theorem dX12_payKept_35 : decode cX12_payKept 35 = .ok (.imul, 1) := by decide +kernel
theorem dX12_payKept_36 : decode cX12_payKept 36 = .ok (.ireturn, 1) := by decide +kernel
set_option maxRecDepth 20000 in
theorem ggX12_allPay_X12_payOf : GoodIn wsX12_allPay wsX12_payOf := goodIn_r _ [5, 6, 7, 8, 9, 10, 11, 4, 12, 13, 14, 15, 16, 17, 18, 19, 20, 21, 22, 23, 24, 25, 26, 27, 28, 29, 30, 31, 32, 33, 34, 35, 36, 37, 38, 39, 40, 41, 42, 43, 44, 45, 46, 47, 48, 49, 50, 51, 52, 53, 54, 55, 56, 57, 58, 59, 60, 61, 62, 63, 64, 65, 66, 67, 68, 69, 70, 71, 72, 73, 74, 75, 76, 77, 78, 79, 80, 81, 82, 83, 84, 85, 86, 87, 88, 89, 90, 91, 92, 93, 94, 95, 96, 97, 98, 99, 100, 101, 102, 103, 104, 105, 106, 107, 108, 109, 110, 111, 112, 113, 114, 115, 116, 117, 118, 119, 120, 121, 122, 123, 124, 125, 126, 127, 128, 129, 130, 131, 132, 133, 134] (by decide +kernel) (by decide +kernel)
set_option maxRecDepth 20000 in
theorem gX12_allPay_X12_payOf : GoodIn wsX12_allPay (wsV RX12 308 RX12 yX12_payOf wsX12_payOf) := goodIn_app (goodIn_of _ (by decide +kernel)) ggX12_allPay_X12_payOf
theorem dX12_allPay_0 : decode cX12_allPay 0 = .ok (.iconst 0, 1) := by decide +kernel
theorem dX12_allPay_1 : decode cX12_allPay 1 = .ok (.istore_n 1, 1) := by decide +kernel
theorem dX12_allPay_2 : decode cX12_allPay 2 = .ok (.iconst 0, 1) := by decide +kernel
theorem dX12_allPay_3 : decode cX12_allPay 3 = .ok (.istore_n 2, 1) := by decide +kernel
theorem dX12_allPay_4 : decode cX12_allPay 4 = .ok (.iload_n 2, 1) := by decide +kernel
theorem dX12_allPay_5 : decode cX12_allPay 5 = .ok (.iconst 4, 1) := by decide +kernel
theorem dX12_allPay_6 : decode cX12_allPay 6 = .ok (.if_icmp .ge 17, 3) := by decide +kernel
theorem dX12_allPay_9 : decode cX12_allPay 9 = .ok (.iload_n 1, 1) := by decide +kernel
theorem dX12_allPay_10 : decode cX12_allPay 10 = .ok (.aload_n 0, 1) := by decide +kernel
theorem dX12_allPay_11 : decode cX12_allPay 11 = .ok (.iload_n 2, 1) := by decide +kernel
theorem dX12_allPay_12 : decode cX12_allPay 12 = .ok (.invokevirtual 308, 3) := by decide +kernel
theorem dX12_allPay_15 : decode cX12_allPay 15 = .ok (.iadd, 1) := by decide +kernel
theorem dX12_allPay_16 : decode cX12_allPay 16 = .ok (.istore_n 1, 1) := by decide +kernel
theorem dX12_allPay_17 : decode cX12_allPay 17 = .ok (.iinc 2 1, 3) := by decide +kernel
theorem dX12_allPay_20 : decode cX12_allPay 20 = .ok (.goto (-16), 3) := by decide +kernel
theorem dX12_allPay_23 : decode cX12_allPay 23 = .ok (.iload_n 1, 1) := by decide +kernel
theorem dX12_allPay_24 : decode cX12_allPay 24 = .ok (.ireturn, 1) := by decide +kernel
set_option maxRecDepth 20000 in
theorem ggX12_total_X12_allPay : GoodIn wsX12_total wsX12_allPay := goodIn_r _ [6, 7, 8, 9, 5, 10, 11, 12, 13, 14, 15, 16, 17, 18, 19, 20, 21, 22, 23, 24, 25, 26, 27, 28, 29, 30, 31, 32, 33, 34, 35, 36, 37, 38, 39, 40, 41, 42, 43, 44, 45, 46, 47, 48, 49, 50, 51, 52, 53, 54, 55, 56, 57, 58, 59, 60, 61, 62, 63, 64, 65, 66, 67, 68, 69, 70, 71, 72, 73, 74, 75, 76, 77, 78, 79, 80, 81, 82, 83, 84, 85, 86, 87, 88, 89, 90, 91, 92, 93, 94, 95, 96, 97, 98, 99, 100, 101, 102, 103, 104, 105, 106, 107, 108, 109, 110, 111, 112, 113, 114, 115, 116, 117, 118, 119, 120, 121, 122, 123, 124, 125, 126, 127, 128, 129, 130, 131, 132, 133, 134, 135, 136, 137, 138, 139] (by decide +kernel) (by decide +kernel)
set_option maxRecDepth 20000 in
theorem gX12_total_X12_allPay : GoodIn wsX12_total (wsV RX12 311 RX12 yX12_allPay wsX12_allPay) := goodIn_app (goodIn_of _ (by decide +kernel)) ggX12_total_X12_allPay
theorem dX12_total_0 : decode cX12_total 0 = .ok (.aload_n 0, 1) := by decide +kernel
theorem dX12_total_1 : decode cX12_total 1 = .ok (.iconst 0, 1) := by decide +kernel
theorem dX12_total_2 : decode cX12_total 2 = .ok (.putfield 1, 3) := by decide +kernel
theorem dX12_total_5 : decode cX12_total 5 = .ok (.aload_n 0, 1) := by decide +kernel
theorem dX12_total_6 : decode cX12_total 6 = .ok (.invokevirtual 311, 3) := by decide +kernel
theorem dX12_total_9 : decode cX12_total 9 = .ok (.ireturn, 1) := by decide +kernel
set_option maxRecDepth 20000 in
theorem ggX12_would_X12_momentOf : GoodIn wsX12_would wsX12_momentOf := goodIn_r _ [7, 8, 9, 10, 6, 11, 12, 13, 14, 15, 123, 124, 125, 126, 127, 128, 129, 130, 131, 132, 133, 134, 135, 136, 137, 138, 139, 140, 141, 142, 143, 144, 145, 146, 147, 148, 149, 150, 151, 152, 153, 154, 155, 156, 157, 158, 159, 160] (by decide +kernel) (by decide +kernel)
set_option maxRecDepth 20000 in
theorem gX12_would_X12_momentOf : GoodIn wsX12_would (wsV RX12 188 RX12 yX12_momentOf wsX12_momentOf) := goodIn_app (goodIn_of _ (by decide +kernel)) ggX12_would_X12_momentOf
set_option maxRecDepth 20000 in
theorem ggX12_would_X12_canCome : GoodIn wsX12_would wsX12_canCome := goodIn_r _ [19, 20, 21, 22, 23, 6, 24, 9, 10, 11, 25, 26, 27, 28, 29, 123, 124, 125, 126, 127, 128, 129, 130, 131, 132, 133, 134, 135, 136, 137, 138, 139, 140, 141, 142, 143, 144, 145, 146, 147, 148, 149, 150, 151, 152, 153, 154, 155, 156, 157, 158, 159, 160] (by decide +kernel) (by decide +kernel)
set_option maxRecDepth 20000 in
theorem gX12_would_X12_canCome : GoodIn wsX12_would (wsV RX12 202 RX12 yX12_canCome wsX12_canCome) := goodIn_app (goodIn_of _ (by decide +kernel)) ggX12_would_X12_canCome
set_option maxRecDepth 20000 in
theorem ggX12_would_X12_payOf : GoodIn wsX12_would wsX12_payOf := goodIn_r _ [33, 34, 35, 8, 36, 37, 38, 6, 39, 40, 41, 42, 43, 44, 45, 46, 47, 20, 48, 49, 29, 50, 51, 52, 53, 54, 55, 56, 57, 58, 59, 60, 61, 62, 63, 64, 65, 66, 12, 13, 14, 15, 9, 10, 11, 67, 68, 69, 70, 71, 72, 73, 74, 75, 76, 77, 78, 79, 80, 81, 82, 83, 84, 85, 86, 87, 88, 89, 90, 91, 92, 93, 94, 95, 96, 97, 98, 99, 100, 101, 102, 103, 104, 105, 106, 107, 108, 109, 110, 111, 112, 113, 114, 123, 124, 125, 126, 127, 128, 129, 130, 131, 132, 133, 134, 135, 136, 137, 138, 139, 140, 141, 142, 143, 144, 145, 146, 147, 148, 149, 150, 151, 152, 153, 154, 155, 156, 157, 158, 159, 160] (by decide +kernel) (by decide +kernel)
set_option maxRecDepth 20000 in
theorem gX12_would_X12_payOf : GoodIn wsX12_would (wsV RX12 308 RX12 yX12_payOf wsX12_payOf) := goodIn_app (goodIn_of _ (by decide +kernel)) ggX12_would_X12_payOf
set_option maxRecDepth 20000 in
theorem ggX12_would_X12_comes : GoodIn wsX12_would wsX12_comes := goodIn_r _ [118, 20, 29, 48, 123, 124, 125, 126, 127, 128, 129, 130, 131, 132, 133, 134, 135, 136, 137, 138, 139, 140, 141, 142, 143, 144, 145, 146, 147, 148, 149, 150, 151, 152, 153, 154, 155, 156, 157, 158, 159, 160] (by decide +kernel) (by decide +kernel)
set_option maxRecDepth 20000 in
theorem gX12_would_X12_comes : GoodIn wsX12_would (wsV RX12 205 RX12 yX12_comes wsX12_comes) := goodIn_app (goodIn_of _ (by decide +kernel)) ggX12_would_X12_comes
set_option maxRecDepth 20000 in
theorem ggX12_would_X12_leaves : GoodIn wsX12_would wsX12_leaves := goodIn_r _ [122, 20, 29, 48, 123, 124, 125, 126, 127, 128, 129, 130, 131, 132, 133, 134, 135, 136, 137, 138, 139, 140, 141, 142, 143, 144, 145, 146, 147, 148, 149, 150, 151, 152, 153, 154, 155, 156, 157, 158, 159, 160] (by decide +kernel) (by decide +kernel)
set_option maxRecDepth 20000 in
theorem gX12_would_X12_leaves : GoodIn wsX12_would (wsV RX12 213 RX12 yX12_leaves wsX12_leaves) := goodIn_app (goodIn_of _ (by decide +kernel)) ggX12_would_X12_leaves
theorem dX12_would_0 : decode cX12_would 0 = .ok (.aload_n 0, 1) := by decide +kernel
theorem dX12_would_1 : decode cX12_would 1 = .ok (.iconst 0, 1) := by decide +kernel
theorem dX12_would_2 : decode cX12_would 2 = .ok (.putfield 1, 3) := by decide +kernel
theorem dX12_would_5 : decode cX12_would 5 = .ok (.aload_n 0, 1) := by decide +kernel
theorem dX12_would_6 : decode cX12_would 6 = .ok (.iload_n 3, 1) := by decide +kernel
theorem dX12_would_7 : decode cX12_would 7 = .ok (.iload 4, 2) := by decide +kernel
theorem dX12_would_9 : decode cX12_would 9 = .ok (.iload 5, 2) := by decide +kernel
theorem dX12_would_11 : decode cX12_would 11 = .ok (.invokevirtual 188, 3) := by decide +kernel
theorem dX12_would_14 : decode cX12_would 14 = .ok (.istore 6, 2) := by decide +kernel
theorem dX12_would_16 : decode cX12_would 16 = .ok (.aload_n 0, 1) := by decide +kernel
theorem dX12_would_17 : decode cX12_would 17 = .ok (.iload_n 1, 1) := by decide +kernel
theorem dX12_would_18 : decode cX12_would 18 = .ok (.iload_n 2, 1) := by decide +kernel
theorem dX12_would_19 : decode cX12_would 19 = .ok (.iload 6, 2) := by decide +kernel
theorem dX12_would_21 : decode cX12_would 21 = .ok (.invokevirtual 202, 3) := by decide +kernel
theorem dX12_would_24 : decode cX12_would 24 = .ok (.ifCond .ne 7, 3) := by decide +kernel
theorem dX12_would_27 : decode cX12_would 27 = .ok (.ldc_w 316, 3) := by decide +kernel
theorem dX12_would_30 : decode cX12_would 30 = .ok (.ireturn, 1) := by decide +kernel
theorem dX12_would_31 : decode cX12_would 31 = .ok (.aload_n 0, 1) := by decide +kernel
theorem dX12_would_32 : decode cX12_would 32 = .ok (.iload_n 1, 1) := by decide +kernel
theorem dX12_would_33 : decode cX12_would 33 = .ok (.invokevirtual 308, 3) := by decide +kernel
theorem dX12_would_36 : decode cX12_would 36 = .ok (.istore 7, 2) := by decide +kernel
theorem dX12_would_38 : decode cX12_would 38 = .ok (.aload_n 0, 1) := by decide +kernel
theorem dX12_would_39 : decode cX12_would 39 = .ok (.iload_n 1, 1) := by decide +kernel
theorem dX12_would_40 : decode cX12_would 40 = .ok (.iload 6, 2) := by decide +kernel
theorem dX12_would_42 : decode cX12_would 42 = .ok (.iload_n 2, 1) := by decide +kernel
theorem dX12_would_43 : decode cX12_would 43 = .ok (.invokevirtual 205, 3) := by decide +kernel
theorem dX12_would_46 : decode cX12_would 46 = .ok (.aload_n 0, 1) := by decide +kernel
theorem dX12_would_47 : decode cX12_would 47 = .ok (.iload_n 1, 1) := by decide +kernel
theorem dX12_would_48 : decode cX12_would 48 = .ok (.invokevirtual 308, 3) := by decide +kernel
theorem dX12_would_51 : decode cX12_would 51 = .ok (.istore 8, 2) := by decide +kernel
theorem dX12_would_53 : decode cX12_would 53 = .ok (.aload_n 0, 1) := by decide +kernel
theorem dX12_would_54 : decode cX12_would 54 = .ok (.iload_n 1, 1) := by decide +kernel
theorem dX12_would_55 : decode cX12_would 55 = .ok (.iload 6, 2) := by decide +kernel
theorem dX12_would_57 : decode cX12_would 57 = .ok (.invokevirtual 213, 3) := by decide +kernel
theorem dX12_would_60 : decode cX12_would 60 = .ok (.iload 8, 2) := by decide +kernel
theorem dX12_would_62 : decode cX12_would 62 = .ok (.iload 7, 2) := by decide +kernel
theorem dX12_would_64 : decode cX12_would 64 = .ok (.isub, 1) := by decide +kernel
theorem dX12_would_65 : decode cX12_would 65 = .ok (.ireturn, 1) := by decide +kernel
set_option maxRecDepth 20000 in
theorem ggX12_dearest_X12_isWorker : GoodIn wsX12_dearest wsX12_isWorker := goodIn_r _ [7, 8, 9, 6, 10] (by decide +kernel) (by decide +kernel)
set_option maxRecDepth 20000 in
theorem gX12_dearest_X12_isWorker : GoodIn wsX12_dearest (wsV RX12 196 RX12 yX12_isWorker wsX12_isWorker) := goodIn_app (goodIn_of _ (by decide +kernel)) ggX12_dearest_X12_isWorker
set_option maxRecDepth 20000 in
theorem ggX12_dearest_X12_within : GoodIn wsX12_dearest wsX12_within := goodIn_r _ [10] (by decide +kernel) (by decide +kernel)
set_option maxRecDepth 20000 in
theorem gX12_dearest_X12_within : GoodIn wsX12_dearest (va_wsS RX12 34 yX12_within wsX12_within) := goodIn_app (goodIn_of _ (by decide +kernel)) ggX12_dearest_X12_within
set_option maxRecDepth 20000 in
theorem ggX12_dearest_X12_momentOf : GoodIn wsX12_dearest wsX12_momentOf := goodIn_r _ [14, 15, 8, 9, 6, 10, 16, 17, 18, 19, 136, 137, 138, 139, 140, 141, 142, 143, 144, 145, 146, 147, 148, 149, 150, 151, 152, 153, 154, 155, 156, 157, 158, 159, 160, 161, 162, 163, 164, 165, 166, 167, 168, 169, 170, 171, 172, 173] (by decide +kernel) (by decide +kernel)
set_option maxRecDepth 20000 in
theorem gX12_dearest_X12_momentOf : GoodIn wsX12_dearest (wsV RX12 188 RX12 yX12_momentOf wsX12_momentOf) := goodIn_app (goodIn_of _ (by decide +kernel)) ggX12_dearest_X12_momentOf
set_option maxRecDepth 20000 in
theorem ggX12_dearest_X12_canCome : GoodIn wsX12_dearest wsX12_canCome := goodIn_r _ [23, 24, 3, 4, 5, 6, 7, 8, 9, 10, 25, 26, 27, 28, 29, 136, 137, 138, 139, 140, 141, 142, 143, 144, 145, 146, 147, 148, 149, 150, 151, 152, 153, 154, 155, 156, 157, 158, 159, 160, 161, 162, 163, 164, 165, 166, 167, 168, 169, 170, 171, 172, 173] (by decide +kernel) (by decide +kernel)
set_option maxRecDepth 20000 in
theorem gX12_dearest_X12_canCome : GoodIn wsX12_dearest (wsV RX12 202 RX12 yX12_canCome wsX12_canCome) := goodIn_app (goodIn_of _ (by decide +kernel)) ggX12_dearest_X12_canCome
set_option maxRecDepth 20000 in
theorem ggX12_dearest_X12_comes : GoodIn wsX12_dearest wsX12_comes := goodIn_r _ [33, 24, 29, 34, 136, 137, 138, 139, 140, 141, 142, 143, 144, 145, 146, 147, 148, 149, 150, 151, 152, 153, 154, 155, 156, 157, 158, 159, 160, 161, 162, 163, 164, 165, 166, 167, 168, 169, 170, 171, 172, 173] (by decide +kernel) (by decide +kernel)
set_option maxRecDepth 20000 in
theorem gX12_dearest_X12_comes : GoodIn wsX12_dearest (wsV RX12 205 RX12 yX12_comes wsX12_comes) := goodIn_app (goodIn_of _ (by decide +kernel)) ggX12_dearest_X12_comes
set_option maxRecDepth 20000 in
theorem ggX12_dearest_X12_payKept : GoodIn wsX12_dearest wsX12_payKept := goodIn_r _ [38, 15, 39, 40, 41, 6, 42, 43, 44, 45, 46, 47, 48, 49, 50, 24, 34, 51, 29, 52, 53, 54, 55, 56, 57, 58, 59, 60, 61, 62, 63, 64, 65, 66, 67, 68, 16, 17, 18, 19, 8, 9, 10, 69, 70, 71, 72, 73, 2, 74, 75, 76, 77, 78, 79, 80, 81, 82, 83, 84, 85, 86, 87, 88, 89, 90, 91, 92, 93, 94, 95, 96, 97, 98, 99, 100, 101, 102, 103, 104, 105, 106, 107, 108, 109, 110, 111, 112, 113, 114, 115, 116, 117, 118, 119, 120, 121, 122, 123, 124, 125, 126, 127, 128, 129, 130, 131, 136, 137, 138, 139, 140, 141, 142, 143, 144, 145, 146, 147, 148, 149, 150, 151, 152, 153, 154, 155, 156, 157, 158, 159, 160, 161, 162, 163, 164, 165, 166, 167, 168, 169, 170, 171, 172, 173] (by decide +kernel) (by decide +kernel)
set_option maxRecDepth 20000 in
theorem gX12_dearest_X12_payKept : GoodIn wsX12_dearest (wsV RX12 317 RX12 yX12_payKept wsX12_payKept) := goodIn_app (goodIn_of _ (by decide +kernel)) ggX12_dearest_X12_payKept
set_option maxRecDepth 20000 in
theorem ggX12_dearest_X12_leaves : GoodIn wsX12_dearest wsX12_leaves := goodIn_r _ [135, 24, 29, 34, 136, 137, 138, 139, 140, 141, 142, 143, 144, 145, 146, 147, 148, 149, 150, 151, 152, 153, 154, 155, 156, 157, 158, 159, 160, 161, 162, 163, 164, 165, 166, 167, 168, 169, 170, 171, 172, 173] (by decide +kernel) (by decide +kernel)
set_option maxRecDepth 20000 in
theorem gX12_dearest_X12_leaves : GoodIn wsX12_dearest (wsV RX12 213 RX12 yX12_leaves wsX12_leaves) := goodIn_app (goodIn_of _ (by decide +kernel)) ggX12_dearest_X12_leaves
theorem dX12_dearest_0 : decode cX12_dearest 0 = .ok (.aload_n 0, 1) := by decide +kernel
theorem dX12_dearest_1 : decode cX12_dearest 1 = .ok (.iconst 0, 1) := by decide +kernel
theorem dX12_dearest_2 : decode cX12_dearest 2 = .ok (.putfield 1, 3) := by decide +kernel
theorem dX12_dearest_5 : decode cX12_dearest 5 = .ok (.aload_n 0, 1) := by decide +kernel
theorem dX12_dearest_6 : decode cX12_dearest 6 = .ok (.iload_n 1, 1) := by decide +kernel
theorem dX12_dearest_7 : decode cX12_dearest 7 = .ok (.invokevirtual 196, 3) := by decide +kernel
theorem dX12_dearest_10 : decode cX12_dearest 10 = .ok (.ifCond .eq 22, 3) := by decide +kernel
theorem dX12_dearest_13 : decode cX12_dearest 13 = .ok (.iload_n 2, 1) := by decide +kernel
theorem dX12_dearest_14 : decode cX12_dearest 14 = .ok (.iconst 0, 1) := by decide +kernel
theorem dX12_dearest_15 : decode cX12_dearest 15 = .ok (.iconst 2, 1) := by decide +kernel
theorem dX12_dearest_16 : decode cX12_dearest 16 = .ok (.invokestatic 34, 3) := by decide +kernel
theorem dX12_dearest_19 : decode cX12_dearest 19 = .ok (.ifCond .eq 13, 3) := by decide +kernel
theorem dX12_dearest_22 : decode cX12_dearest 22 = .ok (.iload_n 3, 1) := by decide +kernel
theorem dX12_dearest_23 : decode cX12_dearest 23 = .ok (.iconst 0, 1) := by decide +kernel
theorem dX12_dearest_24 : decode cX12_dearest 24 = .ok (.bipush 27, 2) := by decide +kernel
theorem dX12_dearest_26 : decode cX12_dearest 26 = .ok (.invokestatic 34, 3) := by decide +kernel
theorem dX12_dearest_29 : decode cX12_dearest 29 = .ok (.ifCond .ne 5, 3) := by decide +kernel
theorem dX12_dearest_32 : decode cX12_dearest 32 = .ok (.iconst (-1), 1) := by decide +kernel
theorem dX12_dearest_33 : decode cX12_dearest 33 = .ok (.ireturn, 1) := by decide +kernel
theorem dX12_dearest_34 : decode cX12_dearest 34 = .ok (.iconst (-1), 1) := by decide +kernel
theorem dX12_dearest_35 : decode cX12_dearest 35 = .ok (.istore 4, 2) := by decide +kernel
theorem dX12_dearest_37 : decode cX12_dearest 37 = .ok (.iconst (-1), 1) := by decide +kernel
theorem dX12_dearest_38 : decode cX12_dearest 38 = .ok (.istore 5, 2) := by decide +kernel
theorem dX12_dearest_40 : decode cX12_dearest 40 = .ok (.iconst 0, 1) := by decide +kernel
theorem dX12_dearest_41 : decode cX12_dearest 41 = .ok (.istore 6, 2) := by decide +kernel
theorem dX12_dearest_43 : decode cX12_dearest 43 = .ok (.iload 6, 2) := by decide +kernel
theorem dX12_dearest_45 : decode cX12_dearest 45 = .ok (.bipush 8, 2) := by decide +kernel
theorem dX12_dearest_47 : decode cX12_dearest 47 = .ok (.if_icmp .ge 17, 3) := by decide +kernel
theorem dX12_dearest_50 : decode cX12_dearest 50 = .ok (.aload_n 0, 1) := by decide +kernel
theorem dX12_dearest_51 : decode cX12_dearest 51 = .ok (.getfield 124, 3) := by decide +kernel
theorem dX12_dearest_54 : decode cX12_dearest 54 = .ok (.iload 6, 2) := by decide +kernel
theorem dX12_dearest_56 : decode cX12_dearest 56 = .ok (.iconst 0, 1) := by decide +kernel
theorem dX12_dearest_57 : decode cX12_dearest 57 = .ok (.bastore, 1) := by decide +kernel
theorem dX12_dearest_58 : decode cX12_dearest 58 = .ok (.iinc 6 1, 3) := by decide +kernel
theorem dX12_dearest_61 : decode cX12_dearest 61 = .ok (.goto (-18), 3) := by decide +kernel
theorem dX12_dearest_64 : decode cX12_dearest 64 = .ok (.iconst 0, 1) := by decide +kernel
theorem dX12_dearest_65 : decode cX12_dearest 65 = .ok (.istore 6, 2) := by decide +kernel
theorem dX12_dearest_67 : decode cX12_dearest 67 = .ok (.iload 6, 2) := by decide +kernel
theorem dX12_dearest_69 : decode cX12_dearest 69 = .ok (.sipush 1440, 3) := by decide +kernel
theorem dX12_dearest_72 : decode cX12_dearest 72 = .ok (.if_icmp .ge 84, 3) := by decide +kernel
theorem dX12_dearest_75 : decode cX12_dearest 75 = .ok (.aload_n 0, 1) := by decide +kernel
theorem dX12_dearest_76 : decode cX12_dearest 76 = .ok (.iload_n 3, 1) := by decide +kernel
theorem dX12_dearest_77 : decode cX12_dearest 77 = .ok (.iload 6, 2) := by decide +kernel
theorem dX12_dearest_79 : decode cX12_dearest 79 = .ok (.iconst 0, 1) := by decide +kernel
theorem dX12_dearest_80 : decode cX12_dearest 80 = .ok (.invokevirtual 188, 3) := by decide +kernel
theorem dX12_dearest_83 : decode cX12_dearest 83 = .ok (.istore 7, 2) := by decide +kernel
theorem dX12_dearest_85 : decode cX12_dearest 85 = .ok (.aload_n 0, 1) := by decide +kernel
theorem dX12_dearest_86 : decode cX12_dearest 86 = .ok (.iload_n 1, 1) := by decide +kernel
theorem dX12_dearest_87 : decode cX12_dearest 87 = .ok (.iload_n 2, 1) := by decide +kernel
theorem dX12_dearest_88 : decode cX12_dearest 88 = .ok (.iload 7, 2) := by decide +kernel
theorem dX12_dearest_90 : decode cX12_dearest 90 = .ok (.invokevirtual 202, 3) := by decide +kernel
theorem dX12_dearest_93 : decode cX12_dearest 93 = .ok (.ifCond .eq 57, 3) := by decide +kernel
theorem dX12_dearest_96 : decode cX12_dearest 96 = .ok (.aload_n 0, 1) := by decide +kernel
theorem dX12_dearest_97 : decode cX12_dearest 97 = .ok (.iload_n 1, 1) := by decide +kernel
theorem dX12_dearest_98 : decode cX12_dearest 98 = .ok (.iload 7, 2) := by decide +kernel
theorem dX12_dearest_100 : decode cX12_dearest 100 = .ok (.iload_n 2, 1) := by decide +kernel
theorem dX12_dearest_101 : decode cX12_dearest 101 = .ok (.invokevirtual 205, 3) := by decide +kernel
theorem dX12_dearest_104 : decode cX12_dearest 104 = .ok (.aload_n 0, 1) := by decide +kernel
theorem dX12_dearest_105 : decode cX12_dearest 105 = .ok (.iload_n 1, 1) := by decide +kernel
theorem dX12_dearest_106 : decode cX12_dearest 106 = .ok (.invokevirtual 317, 3) := by decide +kernel
theorem dX12_dearest_109 : decode cX12_dearest 109 = .ok (.istore 8, 2) := by decide +kernel
theorem dX12_dearest_111 : decode cX12_dearest 111 = .ok (.aload_n 0, 1) := by decide +kernel
theorem dX12_dearest_112 : decode cX12_dearest 112 = .ok (.iload_n 1, 1) := by decide +kernel
theorem dX12_dearest_113 : decode cX12_dearest 113 = .ok (.iload 7, 2) := by decide +kernel
theorem dX12_dearest_115 : decode cX12_dearest 115 = .ok (.invokevirtual 213, 3) := by decide +kernel
theorem dX12_dearest_118 : decode cX12_dearest 118 = .ok (.iload 8, 2) := by decide +kernel
theorem dX12_dearest_120 : decode cX12_dearest 120 = .ok (.iload 5, 2) := by decide +kernel
theorem dX12_dearest_122 : decode cX12_dearest 122 = .ok (.if_icmp .le 8, 3) := by decide +kernel
theorem dX12_dearest_125 : decode cX12_dearest 125 = .ok (.iload 6, 2) := by decide +kernel
theorem dX12_dearest_127 : decode cX12_dearest 127 = .ok (.goto 5, 3) := by decide +kernel
theorem dX12_dearest_130 : decode cX12_dearest 130 = .ok (.iload 4, 2) := by decide +kernel
theorem dX12_dearest_132 : decode cX12_dearest 132 = .ok (.istore 4, 2) := by decide +kernel
theorem dX12_dearest_134 : decode cX12_dearest 134 = .ok (.iload 8, 2) := by decide +kernel
theorem dX12_dearest_136 : decode cX12_dearest 136 = .ok (.iload 5, 2) := by decide +kernel
theorem dX12_dearest_138 : decode cX12_dearest 138 = .ok (.if_icmp .le 8, 3) := by decide +kernel
theorem dX12_dearest_141 : decode cX12_dearest 141 = .ok (.iload 8, 2) := by decide +kernel
theorem dX12_dearest_143 : decode cX12_dearest 143 = .ok (.goto 5, 3) := by decide +kernel
theorem dX12_dearest_146 : decode cX12_dearest 146 = .ok (.iload 5, 2) := by decide +kernel
theorem dX12_dearest_148 : decode cX12_dearest 148 = .ok (.istore 5, 2) := by decide +kernel
theorem dX12_dearest_150 : decode cX12_dearest 150 = .ok (.iinc 6 15, 3) := by decide +kernel
theorem dX12_dearest_153 : decode cX12_dearest 153 = .ok (.goto (-86), 3) := by decide +kernel
theorem dX12_dearest_156 : decode cX12_dearest 156 = .ok (.iload 4, 2) := by decide +kernel
theorem dX12_dearest_158 : decode cX12_dearest 158 = .ok (.ireturn, 1) := by decide +kernel
set_option maxRecDepth 20000 in
theorem ggX12_worth_X12_premiums : GoodIn wsX12_worth wsX12_premiums := goodIn_r _ [8, 3, 107, 108, 109, 110, 111, 112, 113, 114, 115, 116, 117, 118, 119, 120, 121, 122, 123, 124, 125, 126, 127, 128, 129, 130, 131, 132, 133, 134, 135, 136, 137, 138, 139, 140, 141, 142, 143, 144] (by decide +kernel) (by decide +kernel)
set_option maxRecDepth 20000 in
theorem gX12_worth_X12_premiums : GoodIn wsX12_worth (wsV RX12 177 RX12 yX12_premiums wsX12_premiums) := goodIn_app (goodIn_of _ (by decide +kernel)) ggX12_worth_X12_premiums
set_option maxRecDepth 20000 in
theorem ggX12_worth_X12_within : GoodIn wsX12_worth wsX12_within := goodIn_r _ [11] (by decide +kernel) (by decide +kernel)
set_option maxRecDepth 20000 in
theorem gX12_worth_X12_within : GoodIn wsX12_worth (va_wsS RX12 34 yX12_within wsX12_within) := goodIn_app (goodIn_of _ (by decide +kernel)) ggX12_worth_X12_within
set_option maxRecDepth 20000 in
theorem ggX12_worth_X12_allPay : GoodIn wsX12_worth wsX12_allPay := goodIn_r _ [15, 16, 17, 18, 7, 19, 20, 21, 3, 22, 23, 24, 25, 26, 27, 28, 29, 30, 31, 32, 33, 34, 35, 36, 37, 38, 39, 40, 41, 42, 43, 44, 45, 46, 47, 48, 49, 50, 51, 52, 53, 54, 55, 56, 57, 58, 9, 10, 11, 59, 60, 61, 62, 63, 64, 65, 66, 67, 68, 4, 5, 6, 8, 69, 70, 71, 72, 73, 74, 75, 76, 77, 78, 79, 80, 81, 82, 83, 84, 85, 86, 87, 88, 89, 90, 91, 92, 93, 94, 95, 96, 97, 98, 99, 100, 101, 102, 107, 108, 109, 110, 111, 112, 113, 114, 115, 116, 117, 118, 119, 120, 121, 122, 123, 124, 125, 126, 127, 128, 129, 130, 131, 132, 133, 134, 135, 136, 137, 138, 139, 140, 141, 142, 143, 144] (by decide +kernel) (by decide +kernel)
set_option maxRecDepth 20000 in
theorem gX12_worth_X12_allPay : GoodIn wsX12_worth (wsV RX12 311 RX12 yX12_allPay wsX12_allPay) := goodIn_app (goodIn_of _ (by decide +kernel)) ggX12_worth_X12_allPay
set_option maxRecDepth 20000 in
theorem ggX12_worth_X12_takes : GoodIn wsX12_worth wsX12_takes := goodIn_r _ [106, 3, 2, 107, 108, 109, 110, 111, 112, 113, 114, 115, 116, 117, 118, 119, 120, 121, 122, 123, 124, 125, 126, 127, 128, 129, 130, 131, 132, 133, 134, 135, 136, 137, 138, 139, 140, 141, 142, 143, 144] (by decide +kernel) (by decide +kernel)
set_option maxRecDepth 20000 in
theorem gX12_worth_X12_takes : GoodIn wsX12_worth (wsV RX12 133 RX12 yX12_takes wsX12_takes) := goodIn_app (goodIn_of _ (by decide +kernel)) ggX12_worth_X12_takes
theorem dX12_worth_0 : decode cX12_worth 0 = .ok (.aload_n 0, 1) := by decide +kernel
theorem dX12_worth_1 : decode cX12_worth 1 = .ok (.iconst 0, 1) := by decide +kernel
theorem dX12_worth_2 : decode cX12_worth 2 = .ok (.putfield 1, 3) := by decide +kernel
theorem dX12_worth_5 : decode cX12_worth 5 = .ok (.iload_n 1, 1) := by decide +kernel
theorem dX12_worth_6 : decode cX12_worth 6 = .ok (.iconst 0, 1) := by decide +kernel
theorem dX12_worth_7 : decode cX12_worth 7 = .ok (.aload_n 0, 1) := by decide +kernel
theorem dX12_worth_8 : decode cX12_worth 8 = .ok (.invokevirtual 177, 3) := by decide +kernel
theorem dX12_worth_11 : decode cX12_worth 11 = .ok (.iconst 1, 1) := by decide +kernel
theorem dX12_worth_12 : decode cX12_worth 12 = .ok (.isub, 1) := by decide +kernel
theorem dX12_worth_13 : decode cX12_worth 13 = .ok (.invokestatic 34, 3) := by decide +kernel
theorem dX12_worth_16 : decode cX12_worth 16 = .ok (.ifCond .ne 5, 3) := by decide +kernel
theorem dX12_worth_19 : decode cX12_worth 19 = .ok (.iconst (-1), 1) := by decide +kernel
theorem dX12_worth_20 : decode cX12_worth 20 = .ok (.ireturn, 1) := by decide +kernel
theorem dX12_worth_21 : decode cX12_worth 21 = .ok (.aload_n 0, 1) := by decide +kernel
theorem dX12_worth_22 : decode cX12_worth 22 = .ok (.invokevirtual 311, 3) := by decide +kernel
theorem dX12_worth_25 : decode cX12_worth 25 = .ok (.istore_n 2, 1) := by decide +kernel
theorem dX12_worth_26 : decode cX12_worth 26 = .ok (.iconst 0, 1) := by decide +kernel
theorem dX12_worth_27 : decode cX12_worth 27 = .ok (.istore_n 3, 1) := by decide +kernel
theorem dX12_worth_28 : decode cX12_worth 28 = .ok (.iload_n 3, 1) := by decide +kernel
theorem dX12_worth_29 : decode cX12_worth 29 = .ok (.bipush 51, 2) := by decide +kernel
theorem dX12_worth_31 : decode cX12_worth 31 = .ok (.if_icmp .ge 21, 3) := by decide +kernel
theorem dX12_worth_34 : decode cX12_worth 34 = .ok (.aload_n 0, 1) := by decide +kernel
theorem dX12_worth_35 : decode cX12_worth 35 = .ok (.getfield 65, 3) := by decide +kernel
theorem dX12_worth_38 : decode cX12_worth 38 = .ok (.iload_n 3, 1) := by decide +kernel
theorem dX12_worth_39 : decode cX12_worth 39 = .ok (.aload_n 0, 1) := by decide +kernel
theorem dX12_worth_40 : decode cX12_worth 40 = .ok (.getfield 61, 3) := by decide +kernel
theorem dX12_worth_43 : decode cX12_worth 43 = .ok (.iload_n 3, 1) := by decide +kernel
theorem dX12_worth_44 : decode cX12_worth 44 = .ok (.iaload, 1) := by decide +kernel
theorem dX12_worth_45 : decode cX12_worth 45 = .ok (.iastore, 1) := by decide +kernel
theorem dX12_worth_46 : decode cX12_worth 46 = .ok (.iinc 3 1, 3) := by decide +kernel
theorem dX12_worth_49 : decode cX12_worth 49 = .ok (.goto (-21), 3) := by decide +kernel
theorem dX12_worth_52 : decode cX12_worth 52 = .ok (.bipush 11, 2) := by decide +kernel
theorem dX12_worth_54 : decode cX12_worth 54 = .ok (.iconst 5, 1) := by decide +kernel
theorem dX12_worth_55 : decode cX12_worth 55 = .ok (.iload_n 1, 1) := by decide +kernel
theorem dX12_worth_56 : decode cX12_worth 56 = .ok (.imul, 1) := by decide +kernel
theorem dX12_worth_57 : decode cX12_worth 57 = .ok (.iadd, 1) := by decide +kernel
theorem dX12_worth_58 : decode cX12_worth 58 = .ok (.istore_n 3, 1) := by decide +kernel
theorem dX12_worth_59 : decode cX12_worth 59 = .ok (.iload_n 3, 1) := by decide +kernel
theorem dX12_worth_60 : decode cX12_worth 60 = .ok (.iconst 5, 1) := by decide +kernel
theorem dX12_worth_61 : decode cX12_worth 61 = .ok (.iadd, 1) := by decide +kernel
theorem dX12_worth_62 : decode cX12_worth 62 = .ok (.bipush 51, 2) := by decide +kernel
theorem dX12_worth_64 : decode cX12_worth 64 = .ok (.if_icmp .ge 23, 3) := by decide +kernel
theorem dX12_worth_67 : decode cX12_worth 67 = .ok (.aload_n 0, 1) := by decide +kernel
theorem dX12_worth_68 : decode cX12_worth 68 = .ok (.getfield 61, 3) := by decide +kernel
theorem dX12_worth_71 : decode cX12_worth 71 = .ok (.iload_n 3, 1) := by decide +kernel
theorem dX12_worth_72 : decode cX12_worth 72 = .ok (.aload_n 0, 1) := by decide +kernel
theorem dX12_worth_73 : decode cX12_worth 73 = .ok (.getfield 61, 3) := by decide +kernel
theorem dX12_worth_76 : decode cX12_worth 76 = .ok (.iload_n 3, 1) := by decide +kernel
theorem dX12_worth_77 : decode cX12_worth 77 = .ok (.iconst 5, 1) := by decide +kernel
theorem dX12_worth_78 : decode cX12_worth 78 = .ok (.iadd, 1) := by decide +kernel
theorem dX12_worth_79 : decode cX12_worth 79 = .ok (.iaload, 1) := by decide +kernel
theorem dX12_worth_80 : decode cX12_worth 80 = .ok (.iastore, 1) := by decide +kernel
theorem dX12_worth_81 : decode cX12_worth 81 = .ok (.iinc 3 1, 3) := by decide +kernel
theorem dX12_worth_84 : decode cX12_worth 84 = .ok (.goto (-25), 3) := by decide +kernel
theorem dX12_worth_87 : decode cX12_worth 87 = .ok (.aload_n 0, 1) := by decide +kernel
theorem dX12_worth_88 : decode cX12_worth 88 = .ok (.getfield 61, 3) := by decide +kernel
theorem dX12_worth_91 : decode cX12_worth 91 = .ok (.bipush 10, 2) := by decide +kernel
theorem dX12_worth_93 : decode cX12_worth 93 = .ok (.dup2, 1) := by decide +kernel
theorem dX12_worth_94 : decode cX12_worth 94 = .ok (.iaload, 1) := by decide +kernel
theorem dX12_worth_95 : decode cX12_worth 95 = .ok (.iconst 1, 1) := by decide +kernel
theorem dX12_worth_96 : decode cX12_worth 96 = .ok (.isub, 1) := by decide +kernel
theorem dX12_worth_97 : decode cX12_worth 97 = .ok (.iastore, 1) := by decide +kernel
theorem dX12_worth_98 : decode cX12_worth 98 = .ok (.aload_n 0, 1) := by decide +kernel
theorem dX12_worth_99 : decode cX12_worth 99 = .ok (.invokevirtual 311, 3) := by decide +kernel
theorem dX12_worth_102 : decode cX12_worth 102 = .ok (.istore_n 3, 1) := by decide +kernel
theorem dX12_worth_103 : decode cX12_worth 103 = .ok (.aload_n 0, 1) := by decide +kernel
theorem dX12_worth_104 : decode cX12_worth 104 = .ok (.invokevirtual 133, 3) := by decide +kernel
theorem dX12_worth_107 : decode cX12_worth 107 = .ok (.iload_n 2, 1) := by decide +kernel
theorem dX12_worth_108 : decode cX12_worth 108 = .ok (.iload_n 3, 1) := by decide +kernel
theorem dX12_worth_109 : decode cX12_worth 109 = .ok (.isub, 1) := by decide +kernel
theorem dX12_worth_110 : decode cX12_worth 110 = .ok (.ireturn, 1) := by decide +kernel
set_option maxRecDepth 20000 in
theorem ggX12_together_X12_isWorker : GoodIn wsX12_together wsX12_isWorker := goodIn_r _ [8, 9, 10, 7, 11] (by decide +kernel) (by decide +kernel)
set_option maxRecDepth 20000 in
theorem gX12_together_X12_isWorker : GoodIn wsX12_together (wsV RX12 196 RX12 yX12_isWorker wsX12_isWorker) := goodIn_app (goodIn_of _ (by decide +kernel)) ggX12_together_X12_isWorker
set_option maxRecDepth 20000 in
theorem ggX12_together_X12_laysWorked : GoodIn wsX12_together wsX12_laysWorked := goodIn_r _ [15, 3, 16, 17, 18, 19, 20, 21, 7, 22, 23, 24, 25, 26, 27, 28, 29, 30, 31, 32, 33, 34, 35, 36, 37, 38, 39, 40, 41, 42, 43, 44, 45, 46, 47, 48, 9, 10, 11, 49, 50, 51, 52, 53, 54, 55, 56, 57, 58, 59, 60, 61, 62, 63, 64, 65, 66, 67, 68, 69, 70, 71, 72, 73, 74, 75, 76, 77, 78, 79, 80, 81, 82, 83, 84, 85, 86] (by decide +kernel) (by decide +kernel)
set_option maxRecDepth 20000 in
theorem gX12_together_X12_laysWorked : GoodIn wsX12_together (wsV RX12 268 RX12 yX12_laysWorked wsX12_laysWorked) := goodIn_app (goodIn_of _ (by decide +kernel)) ggX12_together_X12_laysWorked
theorem dX12_together_0 : decode cX12_together 0 = .ok (.aload_n 0, 1) := by decide +kernel
theorem dX12_together_1 : decode cX12_together 1 = .ok (.iconst 0, 1) := by decide +kernel
theorem dX12_together_2 : decode cX12_together 2 = .ok (.putfield 1, 3) := by decide +kernel
theorem dX12_together_5 : decode cX12_together 5 = .ok (.aload_n 0, 1) := by decide +kernel
theorem dX12_together_6 : decode cX12_together 6 = .ok (.iload_n 1, 1) := by decide +kernel
theorem dX12_together_7 : decode cX12_together 7 = .ok (.invokevirtual 196, 3) := by decide +kernel
theorem dX12_together_10 : decode cX12_together 10 = .ok (.ifCond .eq 16, 3) := by decide +kernel
theorem dX12_together_13 : decode cX12_together 13 = .ok (.aload_n 0, 1) := by decide +kernel
theorem dX12_together_14 : decode cX12_together 14 = .ok (.iload_n 2, 1) := by decide +kernel
theorem dX12_together_15 : decode cX12_together 15 = .ok (.invokevirtual 196, 3) := by decide +kernel
theorem dX12_together_18 : decode cX12_together 18 = .ok (.ifCond .eq 8, 3) := by decide +kernel
theorem dX12_together_21 : decode cX12_together 21 = .ok (.iload_n 1, 1) := by decide +kernel
theorem dX12_together_22 : decode cX12_together 22 = .ok (.iload_n 2, 1) := by decide +kernel
theorem dX12_together_23 : decode cX12_together 23 = .ok (.if_icmp .ne 5, 3) := by decide +kernel
theorem dX12_together_26 : decode cX12_together 26 = .ok (.iconst (-1), 1) := by decide +kernel
theorem dX12_together_27 : decode cX12_together 27 = .ok (.ireturn, 1) := by decide +kernel
theorem dX12_together_28 : decode cX12_together 28 = .ok (.aload_n 0, 1) := by decide +kernel
theorem dX12_together_29 : decode cX12_together 29 = .ok (.iload_n 1, 1) := by decide +kernel
theorem dX12_together_30 : decode cX12_together 30 = .ok (.invokevirtual 268, 3) := by decide +kernel
theorem dX12_together_33 : decode cX12_together 33 = .ok (.iconst 0, 1) := by decide +kernel
theorem dX12_together_34 : decode cX12_together 34 = .ok (.istore_n 3, 1) := by decide +kernel
theorem dX12_together_35 : decode cX12_together 35 = .ok (.iload_n 3, 1) := by decide +kernel
theorem dX12_together_36 : decode cX12_together 36 = .ok (.sipush 2720, 3) := by decide +kernel
theorem dX12_together_39 : decode cX12_together 39 = .ok (.if_icmp .ge 21, 3) := by decide +kernel
theorem dX12_together_42 : decode cX12_together 42 = .ok (.aload_n 0, 1) := by decide +kernel
theorem dX12_together_43 : decode cX12_together 43 = .ok (.getfield 127, 3) := by decide +kernel
theorem dX12_together_46 : decode cX12_together 46 = .ok (.iload_n 3, 1) := by decide +kernel
theorem dX12_together_47 : decode cX12_together 47 = .ok (.aload_n 0, 1) := by decide +kernel
theorem dX12_together_48 : decode cX12_together 48 = .ok (.getfield 89, 3) := by decide +kernel
theorem dX12_together_51 : decode cX12_together 51 = .ok (.iload_n 3, 1) := by decide +kernel
theorem dX12_together_52 : decode cX12_together 52 = .ok (.baload, 1) := by decide +kernel
theorem dX12_together_53 : decode cX12_together 53 = .ok (.bastore, 1) := by decide +kernel
theorem dX12_together_54 : decode cX12_together 54 = .ok (.iinc 3 1, 3) := by decide +kernel
theorem dX12_together_57 : decode cX12_together 57 = .ok (.goto (-22), 3) := by decide +kernel
theorem dX12_together_60 : decode cX12_together 60 = .ok (.aload_n 0, 1) := by decide +kernel
theorem dX12_together_61 : decode cX12_together 61 = .ok (.iload_n 2, 1) := by decide +kernel
theorem dX12_together_62 : decode cX12_together 62 = .ok (.invokevirtual 268, 3) := by decide +kernel
theorem dX12_together_65 : decode cX12_together 65 = .ok (.iconst 0, 1) := by decide +kernel
theorem dX12_together_66 : decode cX12_together 66 = .ok (.istore_n 3, 1) := by decide +kernel
theorem dX12_together_67 : decode cX12_together 67 = .ok (.iconst 0, 1) := by decide +kernel
theorem dX12_together_68 : decode cX12_together 68 = .ok (.istore 4, 2) := by decide +kernel
theorem dX12_together_70 : decode cX12_together 70 = .ok (.iload 4, 2) := by decide +kernel
theorem dX12_together_72 : decode cX12_together 72 = .ok (.sipush 2720, 3) := by decide +kernel
theorem dX12_together_75 : decode cX12_together 75 = .ok (.if_icmp .ge 37, 3) := by decide +kernel
theorem dX12_together_78 : decode cX12_together 78 = .ok (.iload_n 3, 1) := by decide +kernel
theorem dX12_together_79 : decode cX12_together 79 = .ok (.aload_n 0, 1) := by decide +kernel
theorem dX12_together_80 : decode cX12_together 80 = .ok (.getfield 127, 3) := by decide +kernel
theorem dX12_together_83 : decode cX12_together 83 = .ok (.iload 4, 2) := by decide +kernel
theorem dX12_together_85 : decode cX12_together 85 = .ok (.baload, 1) := by decide +kernel
theorem dX12_together_86 : decode cX12_together 86 = .ok (.ifCond .eq 17, 3) := by decide +kernel
theorem dX12_together_89 : decode cX12_together 89 = .ok (.aload_n 0, 1) := by decide +kernel
theorem dX12_together_90 : decode cX12_together 90 = .ok (.getfield 89, 3) := by decide +kernel
theorem dX12_together_93 : decode cX12_together 93 = .ok (.iload 4, 2) := by decide +kernel
theorem dX12_together_95 : decode cX12_together 95 = .ok (.baload, 1) := by decide +kernel
theorem dX12_together_96 : decode cX12_together 96 = .ok (.ifCond .eq 7, 3) := by decide +kernel
theorem dX12_together_99 : decode cX12_together 99 = .ok (.iconst 1, 1) := by decide +kernel
theorem dX12_together_100 : decode cX12_together 100 = .ok (.goto 4, 3) := by decide +kernel
theorem dX12_together_103 : decode cX12_together 103 = .ok (.iconst 0, 1) := by decide +kernel
theorem dX12_together_104 : decode cX12_together 104 = .ok (.iadd, 1) := by decide +kernel
theorem dX12_together_105 : decode cX12_together 105 = .ok (.istore_n 3, 1) := by decide +kernel
theorem dX12_together_106 : decode cX12_together 106 = .ok (.iinc 4 1, 3) := by decide +kernel
theorem dX12_together_109 : decode cX12_together 109 = .ok (.goto (-39), 3) := by decide +kernel
theorem dX12_together_112 : decode cX12_together 112 = .ok (.iload_n 3, 1) := by decide +kernel
theorem dX12_together_113 : decode cX12_together 113 = .ok (.ireturn, 1) := by decide +kernel
theorem dJ9_max_7cf53_0 : decode cJ9_max_7cf53 0 = .ok (.iload_n 0, 1) := by decide +kernel
theorem dJ9_max_7cf53_1 : decode cJ9_max_7cf53 1 = .ok (.iload_n 1, 1) := by decide +kernel
theorem dJ9_max_7cf53_2 : decode cJ9_max_7cf53 2 = .ok (.if_icmp .lt 7, 3) := by decide +kernel
theorem dJ9_max_7cf53_5 : decode cJ9_max_7cf53 5 = .ok (.iload_n 0, 1) := by decide +kernel
theorem dJ9_max_7cf53_6 : decode cJ9_max_7cf53 6 = .ok (.goto 4, 3) := by decide +kernel
theorem dJ9_max_7cf53_9 : decode cJ9_max_7cf53 9 = .ok (.iload_n 1, 1) := by decide +kernel
theorem dJ9_max_7cf53_10 : decode cJ9_max_7cf53 10 = .ok (.ireturn, 1) := by decide +kernel
theorem dJ9_min_7cf53_0 : decode cJ9_min_7cf53 0 = .ok (.iload_n 0, 1) := by decide +kernel
theorem dJ9_min_7cf53_1 : decode cJ9_min_7cf53 1 = .ok (.iload_n 1, 1) := by decide +kernel
theorem dJ9_min_7cf53_2 : decode cJ9_min_7cf53 2 = .ok (.if_icmp .gt 7, 3) := by decide +kernel
theorem dJ9_min_7cf53_5 : decode cJ9_min_7cf53 5 = .ok (.iload_n 0, 1) := by decide +kernel
theorem dJ9_min_7cf53_6 : decode cJ9_min_7cf53 6 = .ok (.goto 4, 3) := by decide +kernel
theorem dJ9_min_7cf53_9 : decode cJ9_min_7cf53 9 = .ok (.iload_n 1, 1) := by decide +kernel
theorem dJ9_min_7cf53_10 : decode cJ9_min_7cf53 10 = .ok (.ireturn, 1) := by decide +kernel
set_option maxRecDepth 20000 in
theorem ggJ0_length_8abf5_J0_coder_7d493 : GoodIn wsJ0_length_8abf5 wsJ0_coder_7d493 := goodIn_r _ [6, 7, 8] (by decide +kernel) (by decide +kernel)
set_option maxRecDepth 20000 in
theorem gJ0_length_8abf5_J0_coder_7d493 : GoodIn wsJ0_length_8abf5 (wsV RJ0 335 RJ0 yJ0_coder_7d493 wsJ0_coder_7d493) := goodIn_app (goodIn_of _ (by decide +kernel)) ggJ0_length_8abf5_J0_coder_7d493
theorem dJ0_length_8abf5_0 : decode cJ0_length_8abf5 0 = .ok (.aload_n 0, 1) := by decide +kernel
theorem dJ0_length_8abf5_1 : decode cJ0_length_8abf5 1 = .ok (.getfield 9, 3) := by decide +kernel
theorem dJ0_length_8abf5_4 : decode cJ0_length_8abf5 4 = .ok (.arraylength, 1) := by decide +kernel
theorem dJ0_length_8abf5_5 : decode cJ0_length_8abf5 5 = .ok (.aload_n 0, 1) := by decide +kernel
theorem dJ0_length_8abf5_6 : decode cJ0_length_8abf5 6 = .ok (.invokevirtual 335, 3) := by decide +kernel
theorem dJ0_length_8abf5_9 : decode cJ0_length_8abf5 9 = .ok (.ishr, 1) := by decide +kernel
theorem dJ0_length_8abf5_10 : decode cJ0_length_8abf5 10 = .ok (.ireturn, 1) := by decide +kernel
set_option maxRecDepth 20000 in
theorem ggJ0_charAt_5068e_J0_isLatin1_aae02 : GoodIn wsJ0_charAt_5068e wsJ0_isLatin1_aae02 := goodIn_r _ [6, 7, 8] (by decide +kernel) (by decide +kernel)
set_option maxRecDepth 20000 in
theorem gJ0_charAt_5068e_J0_isLatin1_aae02 : GoodIn wsJ0_charAt_5068e (wsV RJ0 492 RJ0 yJ0_isLatin1_aae02 wsJ0_isLatin1_aae02) := goodIn_app (goodIn_of _ (by decide +kernel)) ggJ0_charAt_5068e_J0_isLatin1_aae02
set_option maxRecDepth 20000 in
theorem ggJ0_charAt_5068e_J1_charAt_3b067 : GoodIn wsJ0_charAt_5068e wsJ1_charAt_3b067 := goodIn_r _ [12, 13, 14, 5, 15, 16, 17, 18, 19, 20] (by decide +kernel) (by decide +kernel)
set_option maxRecDepth 20000 in
theorem gJ0_charAt_5068e_J1_charAt_3b067 : GoodIn wsJ0_charAt_5068e (va_wsS RJ0 495 yJ1_charAt_3b067 wsJ1_charAt_3b067) := goodIn_app (goodIn_of _ (by decide +kernel)) ggJ0_charAt_5068e_J1_charAt_3b067
set_option maxRecDepth 20000 in
theorem ggJ0_charAt_5068e_J2_charAt_3b067 : GoodIn wsJ0_charAt_5068e wsJ2_charAt_3b067 := goodIn_r _ [24, 25, 26, 23, 27, 28, 29, 30, 31, 14, 5, 15, 16, 17, 18, 19, 20, 32, 33, 34, 35, 36, 37] (by decide +kernel) (by decide +kernel)
set_option maxRecDepth 20000 in
theorem gJ0_charAt_5068e_J2_charAt_3b067 : GoodIn wsJ0_charAt_5068e (va_wsS RJ0 498 yJ2_charAt_3b067 wsJ2_charAt_3b067) := goodIn_app (goodIn_of _ (by decide +kernel)) ggJ0_charAt_5068e_J2_charAt_3b067
theorem dJ0_charAt_5068e_0 : decode cJ0_charAt_5068e 0 = .ok (.aload_n 0, 1) := by decide +kernel
theorem dJ0_charAt_5068e_1 : decode cJ0_charAt_5068e 1 = .ok (.invokevirtual 492, 3) := by decide +kernel
theorem dJ0_charAt_5068e_4 : decode cJ0_charAt_5068e 4 = .ok (.ifCond .eq 12, 3) := by decide +kernel
theorem dJ0_charAt_5068e_7 : decode cJ0_charAt_5068e 7 = .ok (.aload_n 0, 1) := by decide +kernel
theorem dJ0_charAt_5068e_8 : decode cJ0_charAt_5068e 8 = .ok (.getfield 9, 3) := by decide +kernel
theorem dJ0_charAt_5068e_11 : decode cJ0_charAt_5068e 11 = .ok (.iload_n 1, 1) := by decide +kernel
theorem dJ0_charAt_5068e_12 : decode cJ0_charAt_5068e 12 = .ok (.invokestatic 495, 3) := by decide +kernel
theorem dJ0_charAt_5068e_15 : decode cJ0_charAt_5068e 15 = .ok (.ireturn, 1) := by decide +kernel
theorem dJ0_charAt_5068e_16 : decode cJ0_charAt_5068e 16 = .ok (.aload_n 0, 1) := by decide +kernel
theorem dJ0_charAt_5068e_17 : decode cJ0_charAt_5068e 17 = .ok (.getfield 9, 3) := by decide +kernel
theorem dJ0_charAt_5068e_20 : decode cJ0_charAt_5068e 20 = .ok (.iload_n 1, 1) := by decide +kernel
theorem dJ0_charAt_5068e_21 : decode cJ0_charAt_5068e 21 = .ok (.invokestatic 498, 3) := by decide +kernel
theorem dJ0_charAt_5068e_24 : decode cJ0_charAt_5068e 24 = .ok (.ireturn, 1) := by decide +kernel
theorem dJ0_coder_7d493_0 : decode cJ0_coder_7d493 0 = .ok (.getstatic 38, 3) := by decide +kernel
theorem dJ0_coder_7d493_3 : decode cJ0_coder_7d493 3 = .ok (.ifCond .eq 10, 3) := by decide +kernel
theorem dJ0_coder_7d493_6 : decode cJ0_coder_7d493 6 = .ok (.aload_n 0, 1) := by decide +kernel
theorem dJ0_coder_7d493_7 : decode cJ0_coder_7d493 7 = .ok (.getfield 15, 3) := by decide +kernel
theorem dJ0_coder_7d493_10 : decode cJ0_coder_7d493 10 = .ok (.goto 4, 3) := by decide +kernel
theorem dJ0_coder_7d493_13 : decode cJ0_coder_7d493 13 = .ok (.iconst 1, 1) := by decide +kernel
theorem dJ0_coder_7d493_14 : decode cJ0_coder_7d493 14 = .ok (.ireturn, 1) := by decide +kernel
theorem dJ0_isLatin1_aae02_0 : decode cJ0_isLatin1_aae02 0 = .ok (.getstatic 38, 3) := by decide +kernel
theorem dJ0_isLatin1_aae02_3 : decode cJ0_isLatin1_aae02 3 = .ok (.ifCond .eq 14, 3) := by decide +kernel
theorem dJ0_isLatin1_aae02_6 : decode cJ0_isLatin1_aae02 6 = .ok (.aload_n 0, 1) := by decide +kernel
theorem dJ0_isLatin1_aae02_7 : decode cJ0_isLatin1_aae02 7 = .ok (.getfield 15, 3) := by decide +kernel
theorem dJ0_isLatin1_aae02_10 : decode cJ0_isLatin1_aae02 10 = .ok (.ifCond .ne 7, 3) := by decide +kernel
theorem dJ0_isLatin1_aae02_13 : decode cJ0_isLatin1_aae02 13 = .ok (.iconst 1, 1) := by decide +kernel
theorem dJ0_isLatin1_aae02_14 : decode cJ0_isLatin1_aae02 14 = .ok (.goto 4, 3) := by decide +kernel
theorem dJ0_isLatin1_aae02_17 : decode cJ0_isLatin1_aae02 17 = .ok (.iconst 0, 1) := by decide +kernel
theorem dJ0_isLatin1_aae02_18 : decode cJ0_isLatin1_aae02 18 = .ok (.ireturn, 1) := by decide +kernel
set_option maxRecDepth 20000 in
theorem ggJ0_checkIndex_df160_J3_checkIndex_8e157 : GoodIn wsJ0_checkIndex_df160 wsJ3_checkIndex_8e157 := goodIn_r _ [5] (by decide +kernel) (by decide +kernel)
set_option maxRecDepth 20000 in
theorem gJ0_checkIndex_df160_J3_checkIndex_8e157 : GoodIn wsJ0_checkIndex_df160 (va_wsS RJ0 1059 yJ3_checkIndex_8e157 wsJ3_checkIndex_8e157) := goodIn_app (goodIn_of _ (by decide +kernel)) ggJ0_checkIndex_df160_J3_checkIndex_8e157
theorem dJ0_checkIndex_df160_0 : decode cJ0_checkIndex_df160 0 = .ok (.iload_n 0, 1) := by decide +kernel
theorem dJ0_checkIndex_df160_1 : decode cJ0_checkIndex_df160 1 = .ok (.iload_n 1, 1) := by decide +kernel
theorem dJ0_checkIndex_df160_2 : decode cJ0_checkIndex_df160 2 = .ok (.getstatic 1053, 3) := by decide +kernel
theorem dJ0_checkIndex_df160_5 : decode cJ0_checkIndex_df160 5 = .ok (.invokestatic 1059, 3) := by decide +kernel
theorem dJ0_checkIndex_df160_8 : decode cJ0_checkIndex_df160 8 = .ok (.pop, 1) := by decide +kernel
theorem dJ0_checkIndex_df160_9 : decode cJ0_checkIndex_df160 9 = .ok (.return_, 1) := by decide +kernel
set_option maxRecDepth 20000 in
theorem ggJ1_charAt_3b067_J0_checkIndex_df160 : GoodIn wsJ1_charAt_3b067 wsJ0_checkIndex_df160 := goodIn_r _ [4, 5, 6, 7, 8, 9] (by decide +kernel) (by decide +kernel)
set_option maxRecDepth 20000 in
theorem gJ1_charAt_3b067_J0_checkIndex_df160 : GoodIn wsJ1_charAt_3b067 (va_wsS RJ1 9 yJ0_checkIndex_df160 wsJ0_checkIndex_df160) := goodIn_app (goodIn_of _ (by decide +kernel)) ggJ1_charAt_3b067_J0_checkIndex_df160
theorem dJ1_charAt_3b067_0 : decode cJ1_charAt_3b067 0 = .ok (.iload_n 1, 1) := by decide +kernel
theorem dJ1_charAt_3b067_1 : decode cJ1_charAt_3b067 1 = .ok (.aload_n 0, 1) := by decide +kernel
theorem dJ1_charAt_3b067_2 : decode cJ1_charAt_3b067 2 = .ok (.arraylength, 1) := by decide +kernel
theorem dJ1_charAt_3b067_3 : decode cJ1_charAt_3b067 3 = .ok (.invokestatic 9, 3) := by decide +kernel
theorem dJ1_charAt_3b067_6 : decode cJ1_charAt_3b067 6 = .ok (.aload_n 0, 1) := by decide +kernel
theorem dJ1_charAt_3b067_7 : decode cJ1_charAt_3b067 7 = .ok (.iload_n 1, 1) := by decide +kernel
theorem dJ1_charAt_3b067_8 : decode cJ1_charAt_3b067 8 = .ok (.baload, 1) := by decide +kernel
theorem dJ1_charAt_3b067_9 : decode cJ1_charAt_3b067 9 = .ok (.sipush 255, 3) := by decide +kernel
theorem dJ1_charAt_3b067_12 : decode cJ1_charAt_3b067 12 = .ok (.iand, 1) := by decide +kernel
theorem dJ1_charAt_3b067_13 : decode cJ1_charAt_3b067 13 = .ok (.i2c, 1) := by decide +kernel
theorem dJ1_charAt_3b067_14 : decode cJ1_charAt_3b067 14 = .ok (.ireturn, 1) := by decide +kernel
set_option maxRecDepth 20000 in
theorem ggJ2_getChar_3b067_J2_length_9d52b : GoodIn wsJ2_getChar_3b067 wsJ2_length_9d52b := goodIn_r _ [7] (by decide +kernel) (by decide +kernel)
set_option maxRecDepth 20000 in
theorem gJ2_getChar_3b067_J2_length_9d52b : GoodIn wsJ2_getChar_3b067 (va_wsS RJ2 48 yJ2_length_9d52b wsJ2_length_9d52b) := goodIn_app (goodIn_of _ (by decide +kernel)) ggJ2_getChar_3b067_J2_length_9d52b
theorem dJ2_getChar_3b067_0 : decode cJ2_getChar_3b067 0 = .ok (.getstatic 44, 3) := by decide +kernel
theorem dJ2_getChar_3b067_3 : decode cJ2_getChar_3b067 3 = .ok (.ifCond .ne 25, 3) := by decide +kernel
theorem dJ2_getChar_3b067_6 : decode cJ2_getChar_3b067 6 = .ok (.iload_n 1, 1) := by decide +kernel
theorem dJ2_getChar_3b067_7 : decode cJ2_getChar_3b067 7 = .ok (.ifCond .lt 11, 3) := by decide +kernel
theorem dJ2_getChar_3b067_10 : decode cJ2_getChar_3b067 10 = .ok (.iload_n 1, 1) := by decide +kernel
theorem dJ2_getChar_3b067_11 : decode cJ2_getChar_3b067 11 = .ok (.aload_n 0, 1) := by decide +kernel
theorem dJ2_getChar_3b067_12 : decode cJ2_getChar_3b067 12 = .ok (.invokestatic 48, 3) := by decide +kernel
theorem dJ2_getChar_3b067_15 : decode cJ2_getChar_3b067 15 = .ok (.if_icmp .lt 13, 3) := by decide +kernel
theorem dJ2_getChar_3b067_18 : decode cJ2_getChar_3b067 18 = .ok (.new 52, 3) := by decide +kernel
theorem dJ2_getChar_3b067_21 : decode cJ2_getChar_3b067 21 = .ok (.dup, 1) := by decide +kernel
theorem dJ2_getChar_3b067_22 : decode cJ2_getChar_3b067 22 = .ok (.ldc 54, 2) := by decide +kernel
theorem dJ2_getChar_3b067_24 : decode cJ2_getChar_3b067 24 = .ok (.invokespecial 56, 3) := by decide +kernel
theorem dJ2_getChar_3b067_27 : decode cJ2_getChar_3b067 27 = .ok (.athrow, 1) := by decide +kernel
theorem dJ2_getChar_3b067_28 : decode cJ2_getChar_3b067 28 = .ok (.iload_n 1, 1) := by decide +kernel
theorem dJ2_getChar_3b067_29 : decode cJ2_getChar_3b067 29 = .ok (.iconst 1, 1) := by decide +kernel
theorem dJ2_getChar_3b067_30 : decode cJ2_getChar_3b067 30 = .ok (.ishl, 1) := by decide +kernel
theorem dJ2_getChar_3b067_31 : decode cJ2_getChar_3b067 31 = .ok (.istore_n 1, 1) := by decide +kernel
theorem dJ2_getChar_3b067_32 : decode cJ2_getChar_3b067 32 = .ok (.aload_n 0, 1) := by decide +kernel
theorem dJ2_getChar_3b067_33 : decode cJ2_getChar_3b067 33 = .ok (.iload_n 1, 1) := by decide +kernel
theorem dJ2_getChar_3b067_34 : decode cJ2_getChar_3b067 34 = .ok (.iinc 1 1, 3) := by decide +kernel
theorem dJ2_getChar_3b067_37 : decode cJ2_getChar_3b067 37 = .ok (.baload, 1) := by decide +kernel
theorem dJ2_getChar_3b067_38 : decode cJ2_getChar_3b067 38 = .ok (.sipush 255, 3) := by decide +kernel
theorem dJ2_getChar_3b067_41 : decode cJ2_getChar_3b067 41 = .ok (.iand, 1) := by decide +kernel
theorem dJ2_getChar_3b067_42 : decode cJ2_getChar_3b067 42 = .ok (.getstatic 59, 3) := by decide +kernel
theorem dJ2_getChar_3b067_45 : decode cJ2_getChar_3b067 45 = .ok (.ishl, 1) := by decide +kernel
theorem dJ2_getChar_3b067_46 : decode cJ2_getChar_3b067 46 = .ok (.aload_n 0, 1) := by decide +kernel
theorem dJ2_getChar_3b067_47 : decode cJ2_getChar_3b067 47 = .ok (.iload_n 1, 1) := by decide +kernel
theorem dJ2_getChar_3b067_48 : decode cJ2_getChar_3b067 48 = .ok (.baload, 1) := by decide +kernel
theorem dJ2_getChar_3b067_49 : decode cJ2_getChar_3b067 49 = .ok (.sipush 255, 3) := by decide +kernel
theorem dJ2_getChar_3b067_52 : decode cJ2_getChar_3b067 52 = .ok (.iand, 1) := by decide +kernel
theorem dJ2_getChar_3b067_53 : decode cJ2_getChar_3b067 53 = .ok (.getstatic 63, 3) := by decide +kernel
theorem dJ2_getChar_3b067_56 : decode cJ2_getChar_3b067 56 = .ok (.ishl, 1) := by decide +kernel
theorem dJ2_getChar_3b067_57 : decode cJ2_getChar_3b067 57 = .ok (.ior, 1) := by decide +kernel
theorem dJ2_getChar_3b067_58 : decode cJ2_getChar_3b067 58 = .ok (.i2c, 1) := by decide +kernel
theorem dJ2_getChar_3b067_59 : decode cJ2_getChar_3b067 59 = .ok (.ireturn, 1) := by decide +kernel
theorem dJ2_length_9d52b_0 : decode cJ2_length_9d52b 0 = .ok (.aload_n 0, 1) := by decide +kernel
theorem dJ2_length_9d52b_1 : decode cJ2_length_9d52b 1 = .ok (.arraylength, 1) := by decide +kernel
theorem dJ2_length_9d52b_2 : decode cJ2_length_9d52b 2 = .ok (.iconst 1, 1) := by decide +kernel
theorem dJ2_length_9d52b_3 : decode cJ2_length_9d52b 3 = .ok (.ishr, 1) := by decide +kernel
theorem dJ2_length_9d52b_4 : decode cJ2_length_9d52b 4 = .ok (.ireturn, 1) := by decide +kernel
set_option maxRecDepth 20000 in
theorem ggJ2_charAt_3b067_J2_checkIndex_2214a : GoodIn wsJ2_charAt_3b067 wsJ2_checkIndex_2214a := goodIn_r _ [4, 5, 6, 3, 7, 8, 9, 10, 11, 12, 13, 14, 15, 16] (by decide +kernel) (by decide +kernel)
set_option maxRecDepth 20000 in
theorem gJ2_charAt_3b067_J2_checkIndex_2214a : GoodIn wsJ2_charAt_3b067 (va_wsS RJ2 67 yJ2_checkIndex_2214a wsJ2_checkIndex_2214a) := goodIn_app (goodIn_of _ (by decide +kernel)) ggJ2_charAt_3b067_J2_checkIndex_2214a
set_option maxRecDepth 20000 in
theorem ggJ2_charAt_3b067_J2_getChar_3b067 : GoodIn wsJ2_charAt_3b067 wsJ2_getChar_3b067 := goodIn_r _ [19, 20, 21, 22, 5, 6, 3, 7] (by decide +kernel) (by decide +kernel)
set_option maxRecDepth 20000 in
theorem gJ2_charAt_3b067_J2_getChar_3b067 : GoodIn wsJ2_charAt_3b067 (va_wsS RJ2 71 yJ2_getChar_3b067 wsJ2_getChar_3b067) := goodIn_app (goodIn_of _ (by decide +kernel)) ggJ2_charAt_3b067_J2_getChar_3b067
theorem dJ2_charAt_3b067_0 : decode cJ2_charAt_3b067 0 = .ok (.iload_n 1, 1) := by decide +kernel
theorem dJ2_charAt_3b067_1 : decode cJ2_charAt_3b067 1 = .ok (.aload_n 0, 1) := by decide +kernel
theorem dJ2_charAt_3b067_2 : decode cJ2_charAt_3b067 2 = .ok (.invokestatic 67, 3) := by decide +kernel
theorem dJ2_charAt_3b067_5 : decode cJ2_charAt_3b067 5 = .ok (.aload_n 0, 1) := by decide +kernel
theorem dJ2_charAt_3b067_6 : decode cJ2_charAt_3b067 6 = .ok (.iload_n 1, 1) := by decide +kernel
theorem dJ2_charAt_3b067_7 : decode cJ2_charAt_3b067 7 = .ok (.invokestatic 71, 3) := by decide +kernel
theorem dJ2_charAt_3b067_10 : decode cJ2_charAt_3b067 10 = .ok (.ireturn, 1) := by decide +kernel
set_option maxRecDepth 20000 in
theorem ggJ2_checkIndex_2214a_J2_length_9d52b : GoodIn wsJ2_checkIndex_2214a wsJ2_length_9d52b := goodIn_r _ [4] (by decide +kernel) (by decide +kernel)
set_option maxRecDepth 20000 in
theorem gJ2_checkIndex_2214a_J2_length_9d52b : GoodIn wsJ2_checkIndex_2214a (va_wsS RJ2 48 yJ2_length_9d52b wsJ2_length_9d52b) := goodIn_app (goodIn_of _ (by decide +kernel)) ggJ2_checkIndex_2214a_J2_length_9d52b
set_option maxRecDepth 20000 in
theorem ggJ2_checkIndex_2214a_J0_checkIndex_df160 : GoodIn wsJ2_checkIndex_2214a wsJ0_checkIndex_df160 := goodIn_r _ [8, 9, 10, 11, 12, 13] (by decide +kernel) (by decide +kernel)
set_option maxRecDepth 20000 in
theorem gJ2_checkIndex_2214a_J0_checkIndex_df160 : GoodIn wsJ2_checkIndex_2214a (va_wsS RJ2 414 yJ0_checkIndex_df160 wsJ0_checkIndex_df160) := goodIn_app (goodIn_of _ (by decide +kernel)) ggJ2_checkIndex_2214a_J0_checkIndex_df160
theorem dJ2_checkIndex_2214a_0 : decode cJ2_checkIndex_2214a 0 = .ok (.iload_n 0, 1) := by decide +kernel
theorem dJ2_checkIndex_2214a_1 : decode cJ2_checkIndex_2214a 1 = .ok (.aload_n 1, 1) := by decide +kernel
theorem dJ2_checkIndex_2214a_2 : decode cJ2_checkIndex_2214a 2 = .ok (.invokestatic 48, 3) := by decide +kernel
theorem dJ2_checkIndex_2214a_5 : decode cJ2_checkIndex_2214a 5 = .ok (.invokestatic 414, 3) := by decide +kernel
theorem dJ2_checkIndex_2214a_8 : decode cJ2_checkIndex_2214a 8 = .ok (.return_, 1) := by decide +kernel
theorem dJ3_checkIndex_8e157_0 : decode cJ3_checkIndex_8e157 0 = .ok (.iload_n 0, 1) := by decide +kernel
theorem dJ3_checkIndex_8e157_1 : decode cJ3_checkIndex_8e157 1 = .ok (.ifCond .lt 8, 3) := by decide +kernel
theorem dJ3_checkIndex_8e157_4 : decode cJ3_checkIndex_8e157 4 = .ok (.iload_n 0, 1) := by decide +kernel
theorem dJ3_checkIndex_8e157_5 : decode cJ3_checkIndex_8e157 5 = .ok (.iload_n 1, 1) := by decide +kernel
theorem dJ3_checkIndex_8e157_6 : decode cJ3_checkIndex_8e157 6 = .ok (.if_icmp .lt 10, 3) := by decide +kernel
theorem dJ3_checkIndex_8e157_9 : decode cJ3_checkIndex_8e157 9 = .ok (.aload_n 2, 1) := by decide +kernel
theorem dJ3_checkIndex_8e157_10 : decode cJ3_checkIndex_8e157 10 = .ok (.iload_n 0, 1) := by decide +kernel
theorem dJ3_checkIndex_8e157_11 : decode cJ3_checkIndex_8e157 11 = .ok (.iload_n 1, 1) := by decide +kernel
theorem dJ3_checkIndex_8e157_12 : decode cJ3_checkIndex_8e157 12 = .ok (.invokestatic 95, 3) := by decide +kernel
theorem dJ3_checkIndex_8e157_15 : decode cJ3_checkIndex_8e157 15 = .ok (.athrow, 1) := by decide +kernel
theorem dJ3_checkIndex_8e157_16 : decode cJ3_checkIndex_8e157 16 = .ok (.iload_n 0, 1) := by decide +kernel
theorem dJ3_checkIndex_8e157_17 : decode cJ3_checkIndex_8e157 17 = .ok (.ireturn, 1) := by decide +kernel
set_option maxRecDepth 20000 in
theorem ggL_premium_X11_premium : GoodIn wsL_premium wsX11_premium := goodIn_ca (goodIn_r _ [6, 7, 8, 9, 10, 11, 12, 13, 14, 15, 16, 17, 18, 5, 19, 20, 21, 22, 23, 24, 25, 26, 27, 28, 29, 30, 31, 32, 33, 34, 35, 36, 37, 38, 39, 40, 41, 42, 43, 44, 45] (by decide +kernel) (by decide +kernel)) (goodIn_sub (fun _ h => List.mem_cons_of_mem _ (List.mem_append_right _ h)) (by decide +kernel))
set_option maxRecDepth 20000 in
theorem gL_premium_X11_premium : GoodIn wsL_premium (wsV RL 7 RX11 yX11_premium wsX11_premium) := goodIn_app (goodIn_of _ (by decide +kernel)) ggL_premium_X11_premium
theorem dL_premium_0 : decode cL_premium 0 = .ok (.aload_n 3, 1) := by decide +kernel
theorem dL_premium_1 : decode cL_premium 1 = .ok (.iconst 0, 1) := by decide +kernel
theorem dL_premium_2 : decode cL_premium 2 = .ok (.aload_n 0, 1) := by decide +kernel
theorem dL_premium_3 : decode cL_premium 3 = .ok (.iload_n 1, 1) := by decide +kernel
theorem dL_premium_4 : decode cL_premium 4 = .ok (.iload_n 2, 1) := by decide +kernel
theorem dL_premium_5 : decode cL_premium 5 = .ok (.invokevirtual 7, 3) := by decide +kernel
theorem dL_premium_8 : decode cL_premium 8 = .ok (.i2l, 1) := by decide +kernel
theorem dL_premium_9 : decode cL_premium 9 = .ok (.lastore, 1) := by decide +kernel
theorem dL_premium_10 : decode cL_premium 10 = .ok (.goto 7, 3) := by decide +kernel
theorem dL_premium_13 : decode cL_premium 13 = .ok (.astore 4, 2) := by decide +kernel
theorem dL_premium_15 : decode cL_premium 15 = .ok (.iconst 1, 1) := by decide +kernel
theorem dL_premium_16 : decode cL_premium 16 = .ok (.ireturn, 1) := by decide +kernel
theorem dL_premium_17 : decode cL_premium 17 = .ok (.iconst 0, 1) := by decide +kernel
theorem dL_premium_18 : decode cL_premium 18 = .ok (.ireturn, 1) := by decide +kernel
set_option maxRecDepth 20000 in
theorem ggL_quarter_X11_quarter : GoodIn wsL_quarter wsX11_quarter := goodIn_ca (goodIn_r _ [6, 7, 8, 9, 10, 11, 12, 13, 14, 15, 5, 16, 17, 18, 19, 20, 21, 22, 23, 24, 25, 26, 27, 28, 29, 30, 31, 32, 33, 34, 35, 36, 37, 38, 39, 40, 41, 42, 43, 44, 45, 46, 47, 48, 49, 50, 51, 52, 53, 54, 55, 56, 57, 58, 59, 60, 61, 62, 63, 64, 65, 66, 67, 68, 69, 70, 71, 72, 73, 74, 75, 76, 77, 78, 79, 80, 81, 82, 83, 84, 85, 86, 87, 88, 89, 90, 91, 92, 93, 94, 95, 96, 97, 98, 99, 100, 101, 102, 103, 104, 105, 106, 107, 108, 109, 110, 111, 112, 113, 114, 115, 116, 117, 118, 119, 120, 121, 122, 123, 124, 125, 126, 127, 128, 129, 130, 131, 132, 133, 134, 135, 136, 137, 138, 139, 140, 141, 142, 143, 144, 145, 146, 147, 148, 149, 150, 151, 152, 153, 154, 155, 156, 157, 158, 159, 160, 161, 162, 163, 164, 165, 166, 167, 168, 169, 170, 171, 172, 173, 174, 175, 176, 177, 178, 179, 180, 181, 182, 183, 184, 185, 186, 187, 188, 189, 190, 191, 192, 193, 194, 195, 196, 197, 198, 199, 200, 201, 202, 203, 204, 205, 206, 207, 208, 209, 210, 211, 212, 213, 214, 215, 216, 217, 218, 219, 220, 221, 222, 223, 224, 225, 226, 227, 228, 229, 230, 231, 232, 233, 234, 235, 236, 237, 238, 239, 240, 241, 242, 243, 244, 245, 246, 247, 248, 249, 250, 251, 252, 253, 254, 255, 256, 257, 258, 259, 260, 261, 262, 263, 264, 265, 266, 267, 268, 269, 270, 271, 272, 273, 274, 275, 276, 277, 278, 279, 280, 281, 282, 283, 284, 285, 286, 287, 288, 289, 290, 291, 292, 293, 294, 295, 296, 297, 298, 299, 300, 301, 302, 303, 304, 305, 306, 307, 308, 309, 310, 311, 312, 313, 314] (by decide +kernel) (by decide +kernel)) (goodIn_sub (fun _ h => List.mem_cons_of_mem _ (List.mem_append_right _ h)) (by decide +kernel))
set_option maxRecDepth 20000 in
theorem gL_quarter_X11_quarter : GoodIn wsL_quarter (wsV RL 15 RX11 yX11_quarter wsX11_quarter) := goodIn_app (goodIn_of _ (by decide +kernel)) ggL_quarter_X11_quarter
theorem dL_quarter_0 : decode cL_quarter 0 = .ok (.aload 4, 2) := by decide +kernel
theorem dL_quarter_2 : decode cL_quarter 2 = .ok (.iconst 0, 1) := by decide +kernel
theorem dL_quarter_3 : decode cL_quarter 3 = .ok (.aload_n 0, 1) := by decide +kernel
theorem dL_quarter_4 : decode cL_quarter 4 = .ok (.iload_n 1, 1) := by decide +kernel
theorem dL_quarter_5 : decode cL_quarter 5 = .ok (.iload_n 2, 1) := by decide +kernel
theorem dL_quarter_6 : decode cL_quarter 6 = .ok (.iload_n 3, 1) := by decide +kernel
theorem dL_quarter_7 : decode cL_quarter 7 = .ok (.invokevirtual 15, 3) := by decide +kernel
theorem dL_quarter_10 : decode cL_quarter 10 = .ok (.i2l, 1) := by decide +kernel
theorem dL_quarter_11 : decode cL_quarter 11 = .ok (.lastore, 1) := by decide +kernel
theorem dL_quarter_12 : decode cL_quarter 12 = .ok (.goto 7, 3) := by decide +kernel
theorem dL_quarter_15 : decode cL_quarter 15 = .ok (.astore 5, 2) := by decide +kernel
theorem dL_quarter_17 : decode cL_quarter 17 = .ok (.iconst 1, 1) := by decide +kernel
theorem dL_quarter_18 : decode cL_quarter 18 = .ok (.ireturn, 1) := by decide +kernel
theorem dL_quarter_19 : decode cL_quarter 19 = .ok (.iconst 0, 1) := by decide +kernel
theorem dL_quarter_20 : decode cL_quarter 20 = .ok (.ireturn, 1) := by decide +kernel
set_option maxRecDepth 20000 in
theorem ggL_law_X11_init : GoodIn wsL_law wsX11_init := goodIn_r _ [9, 10, 11, 12, 13, 14, 15, 16, 17, 18, 19, 20, 21, 22, 23, 24, 25, 26, 27, 28, 29, 30, 31, 32, 33, 34, 35, 36, 37, 38, 39, 40, 41, 42, 43, 44, 45, 46, 47, 48, 49, 50, 51, 52, 53, 54, 55, 56, 57, 58, 59, 60, 61, 62, 63, 64, 65, 66, 67, 68, 69, 70, 71, 72, 73, 74, 75, 76, 77, 78, 79, 80, 81, 82, 83, 84, 85, 86, 87, 88, 89, 90, 91, 92, 93, 94, 95, 96, 97, 98, 99, 100, 101, 102, 103, 104, 105, 106, 107, 108, 109, 110, 111, 112, 113, 114, 115, 116, 117, 118, 119, 120, 121, 122, 123, 124, 125, 126, 127, 128, 129, 130, 131, 132, 133, 134, 135, 136, 137, 138, 139, 140, 141, 142, 143, 144, 145, 1116, 1117, 1118, 1119, 1120, 1121, 1068, 1069, 1070, 1071, 1072, 1073, 1074, 1075, 1076, 1077, 1122, 1123, 1124, 1125, 1126, 1127, 1128, 1129, 1130, 1131, 1132, 1133, 1134, 1135, 1136, 1137, 1138, 1139, 1140, 1141, 1142, 1143, 1144, 1145, 1146, 1147, 1148, 1149, 1150, 1151, 1152, 1153, 1154, 1155, 1156, 1157, 1158, 1159, 1160, 1161, 1162, 1163, 1164, 1165, 1166, 1167, 1168, 1169, 1170, 1171, 1172, 1173, 1174, 1175, 1176, 1177, 1178, 1179, 1180, 1181, 1182] (by decide +kernel) (by decide +kernel)
set_option maxRecDepth 20000 in
theorem gL_law_X11_init : GoodIn wsL_law (wsX11_init) := ggL_law_X11_init
set_option maxRecDepth 20000 in
theorem ggL_law_X12_init : GoodIn wsL_law wsX12_init := goodIn_r _ [148, 149, 11, 12, 150, 151, 47, 152, 153, 154, 155, 156, 157, 158, 159, 160, 124, 161, 162, 163, 164, 165, 166, 167, 168, 169, 170, 171, 172, 173, 174, 175, 176, 177, 5, 178, 179, 180, 181, 182, 183, 1078, 1079, 1080, 1081, 1082, 1083, 1084, 1085, 1086, 1087, 1088, 1089, 1090, 1091, 1092, 1093, 1094, 1095, 1096, 1097, 1098, 1099, 1100, 1101, 1102, 1103, 1104, 1105, 1106, 1107, 1108, 1109, 1110, 1111, 1112, 1113, 1114, 1115] (by decide +kernel) (by decide +kernel)
set_option maxRecDepth 20000 in
theorem gL_law_X12_init : GoodIn wsL_law (wsX12_init) := ggL_law_X12_init
set_option maxRecDepth 20000 in
theorem ggL_law_X11_feed : GoodIn wsL_law wsX11_feed := goodIn_r _ [187, 16, 188, 189, 190, 191, 15, 192, 193, 48, 194, 195, 196, 197, 1068, 1069, 1070, 1071, 1072, 1073, 1074, 1075, 1076, 1077, 1116, 1117, 1118, 1119, 1120, 1121] (by decide +kernel) (by decide +kernel)
set_option maxRecDepth 20000 in
theorem gL_law_X11_feed : GoodIn wsL_law (wsV RL 23 RX11 yX11_feed wsX11_feed) := goodIn_app (goodIn_of _ (by decide +kernel)) ggL_law_X11_feed
set_option maxRecDepth 20000 in
theorem ggL_law_X12_feed : GoodIn wsL_law wsX12_feed := goodIn_r _ [201, 202, 203, 204, 205, 206, 5, 207, 151, 1078, 1079, 1080, 1081, 1082, 1083, 1084, 1085, 1086, 1087, 1088, 1089, 1090, 1091, 1092, 1093, 1094, 1095, 1096, 1097, 1098, 1099, 1100, 1101, 1102, 1103, 1104, 1105, 1106, 1107, 1108, 1109, 1110, 1111, 1112, 1113, 1114, 1115] (by decide +kernel) (by decide +kernel)
set_option maxRecDepth 20000 in
theorem gL_law_X12_feed : GoodIn wsL_law (wsV RL 27 RX12 yX12_feed wsX12_feed) := goodIn_app (goodIn_of _ (by decide +kernel)) ggL_law_X12_feed
set_option maxRecDepth 20000 in
theorem ggL_law_X11_rules : GoodIn wsL_law wsX11_rules := goodIn_r _ [211, 16, 188, 20, 25, 24, 212, 213, 214, 215, 19, 216, 217, 218, 219, 220, 75, 76, 23, 77, 59, 78, 79, 80, 81, 82, 83, 84, 85, 86, 87, 58, 88, 68, 69, 70, 89, 90, 221, 222, 223, 15, 224, 193, 225, 226, 227, 228, 229, 230, 231, 232, 233, 234, 235, 48, 236, 237, 238, 239, 240, 241, 242, 243, 244, 245, 246, 247, 248, 249, 250, 251, 252, 253, 254, 255, 256, 257, 258, 259, 260, 261, 262, 263, 264, 265, 266, 267, 268, 269, 270, 271, 272, 273, 274, 275, 276, 277, 278, 279, 280, 281, 282, 283, 284, 285, 286, 287, 288, 289, 290, 291, 292, 293, 294, 295, 296, 297, 298, 299, 300, 301, 302, 303, 304, 305, 306, 307, 308, 309, 310, 311, 312, 313, 314, 315, 316, 317, 318, 319, 320, 321, 322, 323, 324, 325, 326, 327, 328, 329, 330, 331, 332, 333, 334, 335, 336, 337, 338, 339, 340, 341, 342, 62, 343, 344, 345, 346, 347, 348, 349, 350, 351, 352, 353, 354, 355, 356, 357, 358, 359, 360, 361, 362, 363, 2, 364, 365, 37, 366, 39, 29, 27, 367, 368, 369, 370, 371, 372, 373, 374, 33, 375, 99, 376, 1068, 1069, 1070, 1071, 1072, 1073, 1074, 1075, 1076, 1077, 1116, 1117, 1118, 1119, 1120, 1121, 1124, 1125, 1126, 1127, 1128, 1129, 1130, 1131, 1132, 1133, 1122, 1123, 1165, 1166, 1167, 1168, 1169, 1170, 1171, 1172, 1173, 1174, 1151, 1152, 1153, 1154, 1155, 1134, 1135, 1136, 1137, 1138, 1139, 1140, 1141, 1142, 1143, 1144, 1145, 1146, 1147, 1148, 1149, 1150] (by decide +kernel) (by decide +kernel)
set_option maxRecDepth 20000 in
theorem gL_law_X11_rules : GoodIn wsL_law (wsV RL 28 RX11 yX11_rules wsX11_rules) := goodIn_app (goodIn_of _ (by decide +kernel)) ggL_law_X11_rules
set_option maxRecDepth 20000 in
theorem ggL_law_X12_rules : GoodIn wsL_law wsX12_rules := goodIn_r _ [380, 202, 203, 381, 382, 383, 384, 152, 153, 154, 385, 386, 387, 5, 388, 175, 176, 177, 178, 179, 389, 390, 391, 392, 393, 394, 395, 396, 397, 398, 399, 151, 400, 401, 402, 403, 404, 405, 406, 407, 47, 408, 409, 410, 411, 412, 413, 414, 415, 416, 417, 418, 419, 420, 421, 422, 423, 424, 425, 426, 427, 428, 429, 430, 431, 432, 433, 434, 435, 436, 437, 438, 439, 440, 441, 442, 443, 444, 180, 181, 182, 183, 1078, 1079, 1080, 1081, 1082, 1083, 1084, 1085, 1086, 1087, 1088, 1089, 1090, 1091, 1092, 1093, 1094, 1095, 1096, 1097, 1098, 1099, 1100, 1101, 1102, 1103, 1104, 1105, 1106, 1107, 1108, 1109, 1110, 1111, 1112, 1113, 1114, 1115] (by decide +kernel) (by decide +kernel)
set_option maxRecDepth 20000 in
theorem gL_law_X12_rules : GoodIn wsL_law (wsV RL 32 RX12 yX12_rules wsX12_rules) := goodIn_app (goodIn_of _ (by decide +kernel)) ggL_law_X12_rules
set_option maxRecDepth 20000 in
theorem ggL_law_X11_count : GoodIn wsL_law wsX11_count := goodIn_r _ [448, 24, 212, 449, 450, 451, 452, 453, 454, 365, 455, 456, 457, 16, 188, 37, 366, 1068, 1069, 1070, 1071, 1072, 1073, 1074, 1075, 1076, 1077, 1124, 1125, 1126, 1127, 1128, 1129, 1130, 1131, 1132, 1133, 1165, 1166, 1167, 1168, 1169, 1116, 1117, 1118, 1119, 1120, 1121, 1151, 1152, 1153, 1154, 1155] (by decide +kernel) (by decide +kernel)
set_option maxRecDepth 20000 in
theorem gL_law_X11_count : GoodIn wsL_law (wsV RL 33 RX11 yX11_count wsX11_count) := goodIn_app (goodIn_of _ (by decide +kernel)) ggL_law_X11_count
set_option maxRecDepth 20000 in
theorem ggL_law_X12_count : GoodIn wsL_law wsX12_count := goodIn_r _ [461, 202, 152, 203, 385, 1078, 1079, 1080, 1081, 1082, 1083, 1084, 1085, 1086, 1087, 1088, 1089, 1090, 1091, 1092, 1093, 1094, 1095, 1096, 1097, 1098, 1099, 1100, 1101, 1102, 1103, 1104, 1105, 1106, 1107, 1108, 1109, 1110, 1111, 1112, 1113, 1114, 1115] (by decide +kernel) (by decide +kernel)
set_option maxRecDepth 20000 in
theorem gL_law_X12_count : GoodIn wsL_law (wsV RL 36 RX12 yX12_count wsX12_count) := goodIn_app (goodIn_of _ (by decide +kernel)) ggL_law_X12_count
set_option maxRecDepth 20000 in
theorem ggL_law_L_premium : GoodIn wsL_law wsL_premium := goodIn_ca (goodIn_r _ [465, 466, 467, 468, 469, 2, 470, 471, 472, 24, 473, 474, 475, 476, 477, 478, 479, 480, 481, 482, 212, 1068, 1069, 1070, 1071, 1072, 1073, 1074, 1075, 1076, 1077, 1124, 1125, 1126, 1127, 1128, 1129, 1130, 1131, 1132, 1133, 1170, 1171, 1172, 1173, 1174] (by decide +kernel) (by decide +kernel)) (goodIn_sub (fun _ h => List.mem_append_right _ h) (by decide +kernel))
set_option maxRecDepth 20000 in
theorem gL_law_L_premium : GoodIn wsL_law (va_wsS RL 37 yL_premium wsL_premium) := goodIn_app (goodIn_of _ (by decide +kernel)) ggL_law_L_premium
set_option maxRecDepth 20000 in
theorem ggL_law_X12_premium : GoodIn wsL_law wsX12_premium := goodIn_r _ [486, 202, 487, 488, 489, 5, 490, 152, 386, 387, 388, 491, 492, 493, 494, 1078, 1079, 1080, 1081, 1082, 1083, 1084, 1085, 1086, 1087, 1088, 1089, 1090, 1091, 1092, 1093, 1094, 1095, 1096, 1097, 1098, 1099, 1100, 1101, 1102, 1103, 1104, 1105, 1106, 1107, 1108, 1109, 1110, 1111, 1112, 1113, 1114, 1115] (by decide +kernel) (by decide +kernel)
set_option maxRecDepth 20000 in
theorem gL_law_X12_premium : GoodIn wsL_law (wsV RL 42 RX12 yX12_premium wsX12_premium) := goodIn_app (goodIn_of _ (by decide +kernel)) ggL_law_X12_premium
set_option maxRecDepth 20000 in
theorem ggL_law_X12_thrown : GoodIn wsL_law wsX12_thrown := goodIn_r _ [498, 202, 1078, 1079, 1080, 1081, 1082, 1083, 1084, 1085, 1086, 1087, 1088, 1089, 1090, 1091, 1092, 1093, 1094, 1095, 1096, 1097, 1098, 1099, 1100, 1101, 1102, 1103, 1104, 1105, 1106, 1107, 1108, 1109, 1110, 1111, 1112, 1113, 1114, 1115] (by decide +kernel) (by decide +kernel)
set_option maxRecDepth 20000 in
theorem gL_law_X12_thrown : GoodIn wsL_law (wsV RL 43 RX12 yX12_thrown wsX12_thrown) := goodIn_app (goodIn_of _ (by decide +kernel)) ggL_law_X12_thrown
set_option maxRecDepth 20000 in
theorem ggL_law_X11_moment : GoodIn wsL_law wsX11_moment := goodIn_r _ [502, 24, 365, 503, 504, 505, 58, 506, 70, 89, 90, 1068, 1069, 1070, 1071, 1072, 1073, 1074, 1075, 1076, 1077, 1124, 1125, 1126, 1127, 1128, 1129, 1130, 1131, 1132, 1133, 1165, 1166, 1167, 1168, 1169] (by decide +kernel) (by decide +kernel)
set_option maxRecDepth 20000 in
theorem gL_law_X11_moment : GoodIn wsL_law (wsV RL 47 RX11 yX11_moment wsX11_moment) := goodIn_app (goodIn_of _ (by decide +kernel)) ggL_law_X11_moment
set_option maxRecDepth 20000 in
theorem ggL_law_X12_moment : GoodIn wsL_law wsX12_moment := goodIn_r _ [510, 202, 511, 512, 513, 5, 514, 152, 386, 387, 388, 515, 516, 517, 518, 1078, 1079, 1080, 1081, 1082, 1083, 1084, 1085, 1086, 1087, 1088, 1089, 1090, 1091, 1092, 1093, 1094, 1095, 1096, 1097, 1098, 1099, 1100, 1101, 1102, 1103, 1104, 1105, 1106, 1107, 1108, 1109, 1110, 1111, 1112, 1113, 1114, 1115] (by decide +kernel) (by decide +kernel)
set_option maxRecDepth 20000 in
theorem gL_law_X12_moment : GoodIn wsL_law (wsV RL 51 RX12 yX12_moment wsX12_moment) := goodIn_app (goodIn_of _ (by decide +kernel)) ggL_law_X12_moment
set_option maxRecDepth 20000 in
theorem ggL_law_X11_clock : GoodIn wsL_law wsX11_clock := goodIn_r _ [522, 24, 365, 523, 524, 525, 58, 526, 68, 90, 527, 528, 529, 530, 70, 89, 531, 532, 533, 534, 1068, 1069, 1070, 1071, 1072, 1073, 1074, 1075, 1076, 1077, 1124, 1125, 1126, 1127, 1128, 1129, 1130, 1131, 1132, 1133, 1165, 1166, 1167, 1168, 1169] (by decide +kernel) (by decide +kernel)
set_option maxRecDepth 20000 in
theorem gL_law_X11_clock : GoodIn wsL_law (wsV RL 52 RX11 yX11_clock wsX11_clock) := goodIn_app (goodIn_of _ (by decide +kernel)) ggL_law_X11_clock
set_option maxRecDepth 20000 in
theorem ggL_law_X12_clock : GoodIn wsL_law wsX12_clock := goodIn_r _ [538, 202, 539, 152, 540, 541, 542, 5, 543, 544, 515, 516, 517, 518, 386, 387, 388, 1078, 1079, 1080, 1081, 1082, 1083, 1084, 1085, 1086, 1087, 1088, 1089, 1090, 1091, 1092, 1093, 1094, 1095, 1096, 1097, 1098, 1099, 1100, 1101, 1102, 1103, 1104, 1105, 1106, 1107, 1108, 1109, 1110, 1111, 1112, 1113, 1114, 1115] (by decide +kernel) (by decide +kernel)
set_option maxRecDepth 20000 in
theorem gL_law_X12_clock : GoodIn wsL_law (wsV RL 55 RX12 yX12_clock wsX12_clock) := goodIn_app (goodIn_of _ (by decide +kernel)) ggL_law_X12_clock
set_option maxRecDepth 20000 in
theorem ggL_law_X11_punch : GoodIn wsL_law wsX11_punch := goodIn_r _ [548, 27, 29, 549, 37, 367, 550, 551, 552, 2, 553, 24, 365, 554, 555, 556, 503, 504, 505, 58, 506, 70, 89, 90, 557, 558, 559, 31, 560, 561, 562, 563, 564, 565, 94, 566, 567, 568, 569, 95, 570, 571, 572, 36, 573, 574, 121, 122, 123, 125, 575, 576, 577, 578, 1068, 1069, 1070, 1071, 1072, 1073, 1074, 1075, 1076, 1077, 1137, 1138, 1139, 1140, 1141, 1142, 1143, 1144, 1145, 1146, 1147, 1148, 1149, 1150, 1134, 1135, 1136, 1124, 1125, 1126, 1127, 1128, 1129, 1130, 1131, 1132, 1133, 1165, 1166, 1167, 1168, 1169, 1151, 1152, 1153, 1154, 1155] (by decide +kernel) (by decide +kernel)
set_option maxRecDepth 20000 in
theorem gL_law_X11_punch : GoodIn wsL_law (wsV RL 56 RX11 yX11_punch wsX11_punch) := goodIn_app (goodIn_of _ (by decide +kernel)) ggL_law_X11_punch
set_option maxRecDepth 20000 in
theorem ggL_law_X12_punch : GoodIn wsL_law wsX12_punch := goodIn_r _ [582, 202, 154, 511, 512, 513, 5, 514, 152, 386, 387, 388, 515, 516, 517, 518, 583, 584, 585, 586, 587, 588, 589, 590, 591, 592, 593, 594, 155, 595, 596, 597, 598, 156, 599, 600, 601, 602, 385, 157, 1078, 1079, 1080, 1081, 1082, 1083, 1084, 1085, 1086, 1087, 1088, 1089, 1090, 1091, 1092, 1093, 1094, 1095, 1096, 1097, 1098, 1099, 1100, 1101, 1102, 1103, 1104, 1105, 1106, 1107, 1108, 1109, 1110, 1111, 1112, 1113, 1114, 1115] (by decide +kernel) (by decide +kernel)
set_option maxRecDepth 20000 in
theorem gL_law_X12_punch : GoodIn wsL_law (wsV RL 60 RX12 yX12_punch wsX12_punch) := goodIn_app (goodIn_of _ (by decide +kernel)) ggL_law_X12_punch
set_option maxRecDepth 20000 in
theorem ggL_law_X11_strike : GoodIn wsL_law wsX11_strike := goodIn_r _ [606, 24, 365, 27, 37, 607, 29, 549, 367, 503, 504, 505, 58, 506, 70, 89, 90, 554, 555, 2, 556, 608, 563, 564, 31, 565, 561, 94, 570, 571, 572, 36, 573, 574, 121, 122, 123, 125, 575, 576, 577, 578, 609, 610, 611, 612, 95, 1068, 1069, 1070, 1071, 1072, 1073, 1074, 1075, 1076, 1077, 1124, 1125, 1126, 1127, 1128, 1129, 1130, 1131, 1132, 1133, 1134, 1135, 1136, 1137, 1138, 1139, 1140, 1141, 1142, 1143, 1144, 1145, 1146, 1147, 1148, 1149, 1150, 1165, 1166, 1167, 1168, 1169, 1151, 1152, 1153, 1154, 1155] (by decide +kernel) (by decide +kernel)
set_option maxRecDepth 20000 in
theorem gL_law_X11_strike : GoodIn wsL_law (wsV RL 61 RX11 yX11_strike wsX11_strike) := goodIn_app (goodIn_of _ (by decide +kernel)) ggL_law_X11_strike
set_option maxRecDepth 20000 in
theorem ggL_law_X12_strike : GoodIn wsL_law wsX12_strike := goodIn_r _ [616, 202, 156, 154, 511, 512, 513, 5, 514, 152, 386, 387, 388, 515, 516, 517, 518, 587, 588, 589, 590, 591, 592, 593, 594, 155, 599, 600, 601, 602, 385, 157, 617, 618, 619, 620, 1078, 1079, 1080, 1081, 1082, 1083, 1084, 1085, 1086, 1087, 1088, 1089, 1090, 1091, 1092, 1093, 1094, 1095, 1096, 1097, 1098, 1099, 1100, 1101, 1102, 1103, 1104, 1105, 1106, 1107, 1108, 1109, 1110, 1111, 1112, 1113, 1114, 1115] (by decide +kernel) (by decide +kernel)
set_option maxRecDepth 20000 in
theorem gL_law_X12_strike : GoodIn wsL_law (wsV RL 65 RX12 yX12_strike wsX12_strike) := goodIn_app (goodIn_of _ (by decide +kernel)) ggL_law_X12_strike
set_option maxRecDepth 20000 in
theorem ggL_law_X11_undo : GoodIn wsL_law wsX11_undo := goodIn_r _ [624, 37, 366, 625, 626, 27, 627, 628, 29, 549, 608, 563, 564, 31, 565, 561, 94, 609, 610, 611, 612, 95, 566, 567, 568, 569, 1068, 1069, 1070, 1071, 1072, 1073, 1074, 1075, 1076, 1077, 1151, 1152, 1153, 1154, 1155, 1137, 1138, 1139, 1140, 1141, 1142, 1143, 1144, 1145, 1146, 1147, 1148, 1149, 1150, 1134, 1135, 1136] (by decide +kernel) (by decide +kernel)
set_option maxRecDepth 20000 in
theorem gL_law_X11_undo : GoodIn wsL_law (wsV RL 66 RX11 yX11_undo wsX11_undo) := goodIn_app (goodIn_of _ (by decide +kernel)) ggL_law_X11_undo
set_option maxRecDepth 20000 in
theorem ggL_law_X12_undo : GoodIn wsL_law wsX12_undo := goodIn_r _ [632, 202, 385, 157, 617, 618, 619, 5, 620, 154, 155, 156, 595, 596, 597, 598, 1078, 1079, 1080, 1081, 1082, 1083, 1084, 1085, 1086, 1087, 1088, 1089, 1090, 1091, 1092, 1093, 1094, 1095, 1096, 1097, 1098, 1099, 1100, 1101, 1102, 1103, 1104, 1105, 1106, 1107, 1108, 1109, 1110, 1111, 1112, 1113, 1114, 1115] (by decide +kernel) (by decide +kernel)
set_option maxRecDepth 20000 in
theorem gL_law_X12_undo : GoodIn wsL_law (wsV RL 69 RX12 yX12_undo wsX12_undo) := goodIn_app (goodIn_of _ (by decide +kernel)) ggL_law_X12_undo
set_option maxRecDepth 20000 in
theorem ggL_law_X11_punched : GoodIn wsL_law wsX11_punched := goodIn_r _ [636, 27, 367, 637, 607, 638, 554, 555, 2, 556, 639, 640, 641, 642, 29, 549, 24, 43, 643, 644, 645, 33, 646, 647, 376, 111, 110, 648, 649, 99, 650, 651, 652, 653, 654, 655, 656, 100, 657, 658, 659, 660, 661, 23, 662, 80, 663, 664, 665, 666, 101, 667, 226, 227, 228, 668, 669, 102, 103, 670, 671, 672, 58, 673, 674, 524, 525, 526, 68, 90, 675, 676, 677, 109, 678, 679, 116, 117, 680, 681, 682, 683, 684, 685, 686, 687, 688, 689, 690, 691, 692, 693, 694, 695, 104, 105, 696, 697, 698, 699, 700, 701, 702, 703, 106, 704, 112, 705, 706, 707, 708, 131, 709, 710, 711, 712, 713, 714, 715, 716, 717, 718, 719, 720, 721, 143, 144, 722, 340, 341, 342, 79, 62, 723, 724, 725, 726, 727, 728, 528, 529, 530, 70, 89, 729, 730, 731, 732, 78, 61, 733, 734, 735, 736, 737, 64, 738, 739, 740, 741, 742, 743, 744, 145, 745, 746, 747, 748, 749, 750, 751, 752, 753, 754, 755, 756, 757, 758, 759, 760, 761, 762, 763, 764, 765, 42, 766, 132, 767, 768, 135, 136, 138, 769, 770, 771, 772, 773, 774, 775, 776, 777, 778, 779, 780, 781, 782, 133, 783, 134, 137, 784, 785, 786, 787, 788, 789, 790, 791, 792, 793, 139, 794, 795, 796, 797, 798, 799, 800, 801, 802, 803, 804, 805, 806, 807, 808, 809, 810, 811, 812, 1068, 1069, 1070, 1071, 1072, 1073, 1074, 1075, 1076, 1077, 1134, 1135, 1136, 1137, 1138, 1139, 1140, 1141, 1142, 1143, 1144, 1145, 1146, 1147, 1148, 1149, 1150, 1175, 1176, 1177, 1124, 1125, 1126, 1127, 1128, 1129, 1130, 1131, 1132, 1133, 1165, 1166, 1167, 1168, 1169, 1156, 1157, 1158, 1159, 1160, 1161, 1162, 1163, 1164, 1178, 1179, 1180, 1181, 1182, 1170, 1171, 1172, 1173, 1174] (by decide +kernel) (by decide +kernel)
set_option maxRecDepth 20000 in
theorem gL_law_X11_punched : GoodIn wsL_law (wsV RL 70 RX11 yX11_punched wsX11_punched) := goodIn_app (goodIn_of _ (by decide +kernel)) ggL_law_X11_punched
set_option maxRecDepth 20000 in
theorem ggL_law_X12_punched : GoodIn wsL_law wsX12_punched := goodIn_r _ [816, 202, 154, 155, 156, 158, 587, 588, 589, 5, 590, 386, 387, 388, 817, 818, 819, 820, 821, 152, 159, 160, 822, 823, 824, 825, 1078, 1079, 1080, 1081, 1082, 1083, 1084, 1085, 1086, 1087, 1088, 1089, 1090, 1091, 1092, 1093, 1094, 1095, 1096, 1097, 1098, 1099, 1100, 1101, 1102, 1103, 1104, 1105, 1106, 1107, 1108, 1109, 1110, 1111, 1112, 1113, 1114, 1115] (by decide +kernel) (by decide +kernel)
set_option maxRecDepth 20000 in
theorem gL_law_X12_punched : GoodIn wsL_law (wsV RL 73 RX12 yX12_punched wsX12_punched) := goodIn_app (goodIn_of _ (by decide +kernel)) ggL_law_X12_punched
set_option maxRecDepth 20000 in
theorem ggL_law_X11_span : GoodIn wsL_law wsX11_span := goodIn_r _ [829, 830, 831, 832, 833, 554, 555, 2, 556, 639, 640, 641, 642, 29, 549, 27, 24, 43, 643, 644, 645, 33, 646, 647, 376, 111, 110, 648, 649, 99, 650, 651, 652, 653, 654, 655, 656, 100, 657, 658, 659, 660, 661, 23, 662, 80, 663, 664, 665, 666, 101, 667, 226, 227, 228, 668, 669, 102, 103, 670, 671, 672, 58, 673, 674, 524, 525, 526, 68, 90, 675, 676, 677, 109, 678, 679, 116, 117, 680, 681, 682, 683, 684, 685, 686, 687, 688, 689, 690, 691, 692, 693, 694, 695, 104, 105, 696, 697, 698, 699, 700, 701, 702, 703, 106, 704, 112, 705, 706, 707, 708, 131, 709, 710, 711, 712, 713, 714, 715, 716, 717, 718, 719, 720, 721, 143, 144, 722, 340, 341, 342, 79, 62, 723, 724, 725, 726, 727, 728, 528, 529, 530, 70, 89, 729, 730, 731, 732, 78, 61, 733, 734, 735, 736, 737, 64, 738, 739, 740, 741, 742, 743, 744, 145, 745, 746, 747, 748, 749, 750, 751, 752, 753, 754, 755, 756, 757, 758, 759, 760, 761, 762, 763, 764, 765, 42, 766, 132, 767, 768, 135, 136, 138, 769, 770, 771, 772, 773, 774, 775, 776, 777, 778, 779, 780, 781, 782, 133, 783, 134, 137, 784, 785, 786, 787, 788, 789, 790, 791, 792, 793, 139, 794, 795, 796, 797, 798, 799, 800, 801, 802, 803, 804, 805, 806, 807, 808, 809, 810, 811, 812, 1137, 1138, 1139, 1140, 1141, 1142, 1143, 1144, 1145, 1146, 1147, 1148, 1149, 1150, 1068, 1069, 1070, 1071, 1072, 1073, 1074, 1075, 1076, 1077, 1175, 1176, 1177, 1124, 1125, 1126, 1127, 1128, 1129, 1130, 1131, 1132, 1133, 1134, 1135, 1136, 1165, 1166, 1167, 1168, 1169, 1156, 1157, 1158, 1159, 1160, 1161, 1162, 1163, 1164, 1178, 1179, 1180, 1181, 1182, 1170, 1171, 1172, 1173, 1174] (by decide +kernel) (by decide +kernel)
set_option maxRecDepth 20000 in
theorem gL_law_X11_span : GoodIn wsL_law (wsV RL 74 RX11 yX11_span wsX11_span) := goodIn_app (goodIn_of _ (by decide +kernel)) ggL_law_X11_span
set_option maxRecDepth 20000 in
theorem ggL_law_X12_span : GoodIn wsL_law wsX12_span := goodIn_r _ [837, 202, 821, 159, 160, 587, 588, 589, 5, 590, 386, 387, 388, 817, 818, 819, 820, 154, 156, 158, 155, 152, 822, 823, 824, 825, 838, 839, 840, 841, 842, 843, 844, 845, 540, 541, 542, 543, 544, 515, 516, 517, 518, 1078, 1079, 1080, 1081, 1082, 1083, 1084, 1085, 1086, 1087, 1088, 1089, 1090, 1091, 1092, 1093, 1094, 1095, 1096, 1097, 1098, 1099, 1100, 1101, 1102, 1103, 1104, 1105, 1106, 1107, 1108, 1109, 1110, 1111, 1112, 1113, 1114, 1115] (by decide +kernel) (by decide +kernel)
set_option maxRecDepth 20000 in
theorem gL_law_X12_span : GoodIn wsL_law (wsV RL 77 RX12 yX12_span wsX12_span) := goodIn_app (goodIn_of _ (by decide +kernel)) ggL_law_X12_span
set_option maxRecDepth 20000 in
theorem ggL_law_L_quarter : GoodIn wsL_law wsL_quarter := goodIn_ca (goodIn_r _ [848, 466, 849, 850, 851, 2, 852, 471, 472, 24, 365, 853, 854, 855, 554, 555, 556, 639, 640, 641, 642, 29, 549, 27, 43, 643, 644, 645, 33, 646, 647, 376, 111, 110, 648, 649, 99, 650, 651, 652, 653, 654, 655, 656, 100, 657, 658, 659, 660, 661, 23, 662, 80, 663, 664, 665, 666, 101, 667, 226, 227, 228, 668, 669, 102, 103, 670, 671, 672, 58, 673, 674, 524, 525, 526, 68, 90, 675, 676, 677, 109, 678, 679, 116, 117, 680, 681, 682, 683, 684, 685, 686, 687, 688, 689, 690, 691, 692, 693, 694, 695, 104, 105, 696, 697, 698, 699, 700, 701, 702, 703, 106, 704, 112, 705, 706, 707, 708, 131, 709, 710, 711, 712, 713, 714, 715, 716, 717, 718, 719, 720, 721, 143, 144, 722, 340, 341, 342, 79, 62, 723, 724, 725, 726, 727, 728, 528, 529, 530, 70, 89, 729, 730, 731, 732, 78, 61, 733, 734, 735, 736, 737, 64, 738, 739, 740, 741, 742, 743, 744, 145, 745, 746, 747, 748, 749, 750, 751, 752, 753, 754, 755, 756, 757, 758, 759, 760, 761, 762, 763, 764, 765, 42, 766, 132, 767, 768, 135, 136, 138, 769, 770, 771, 772, 773, 774, 775, 776, 777, 778, 779, 780, 781, 782, 133, 783, 134, 137, 784, 785, 786, 787, 788, 789, 790, 791, 792, 793, 139, 794, 795, 796, 797, 798, 799, 800, 801, 802, 803, 804, 805, 806, 807, 808, 809, 810, 811, 812, 856, 527, 857, 1068, 1069, 1070, 1071, 1072, 1073, 1074, 1075, 1076, 1077, 1124, 1125, 1126, 1127, 1128, 1129, 1130, 1131, 1132, 1133, 1137, 1138, 1139, 1140, 1141, 1142, 1143, 1144, 1145, 1146, 1147, 1148, 1149, 1150, 1175, 1176, 1177, 1134, 1135, 1136, 1165, 1166, 1167, 1168, 1169, 1156, 1157, 1158, 1159, 1160, 1161, 1162, 1163, 1164, 1178, 1179, 1180, 1181, 1182, 1170, 1171, 1172, 1173, 1174] (by decide +kernel) (by decide +kernel)) (goodIn_sub (fun _ h => List.mem_append_right _ h) (by decide +kernel))
set_option maxRecDepth 20000 in
theorem gL_law_L_quarter : GoodIn wsL_law (va_wsS RL 78 yL_quarter wsL_quarter) := goodIn_app (goodIn_of _ (by decide +kernel)) ggL_law_L_quarter
set_option maxRecDepth 20000 in
theorem ggL_law_X12_quarter : GoodIn wsL_law wsX12_quarter := goodIn_r _ [861, 202, 161, 162, 164, 165, 166, 587, 588, 589, 5, 590, 386, 387, 388, 862, 863, 864, 865, 821, 159, 160, 817, 818, 819, 820, 154, 156, 158, 155, 152, 822, 823, 824, 825, 838, 839, 840, 841, 842, 843, 844, 845, 540, 541, 542, 543, 544, 515, 516, 517, 518, 866, 867, 868, 869, 870, 871, 872, 873, 874, 875, 876, 877, 878, 163, 487, 488, 489, 490, 879, 880, 881, 882, 491, 492, 493, 494, 883, 884, 885, 886, 887, 888, 889, 890, 891, 892, 893, 894, 168, 169, 170, 895, 896, 897, 898, 899, 900, 901, 902, 903, 904, 905, 906, 907, 908, 909, 910, 911, 912, 913, 914, 915, 916, 917, 918, 919, 920, 1078, 1079, 1080, 1081, 1082, 1083, 1084, 1085, 1086, 1087, 1088, 1089, 1090, 1091, 1092, 1093, 1094, 1095, 1096, 1097, 1098, 1099, 1100, 1101, 1102, 1103, 1104, 1105, 1106, 1107, 1108, 1109, 1110, 1111, 1112, 1113, 1114, 1115] (by decide +kernel) (by decide +kernel)
set_option maxRecDepth 20000 in
theorem gL_law_X12_quarter : GoodIn wsL_law (wsV RL 81 RX12 yX12_quarter wsX12_quarter) := goodIn_app (goodIn_of _ (by decide +kernel)) ggL_law_X12_quarter
set_option maxRecDepth 20000 in
theorem ggL_law_X11_day : GoodIn wsL_law wsX11_day := goodIn_r _ [924, 925, 926, 927, 2, 928, 853, 24, 365, 554, 555, 556, 479, 480, 481, 482, 212, 639, 640, 641, 642, 29, 549, 27, 43, 643, 644, 645, 33, 646, 647, 376, 111, 110, 648, 649, 99, 650, 651, 652, 653, 654, 655, 656, 100, 657, 658, 659, 660, 661, 23, 662, 80, 663, 664, 665, 666, 101, 667, 226, 227, 228, 668, 669, 102, 103, 670, 671, 672, 58, 673, 674, 524, 525, 526, 68, 90, 675, 676, 677, 109, 678, 679, 116, 117, 680, 681, 682, 683, 684, 685, 686, 687, 688, 689, 690, 691, 692, 693, 694, 695, 104, 105, 696, 697, 698, 699, 700, 701, 702, 703, 106, 704, 112, 705, 706, 707, 708, 131, 709, 710, 711, 712, 713, 714, 715, 716, 717, 718, 719, 720, 721, 143, 144, 722, 340, 341, 342, 79, 62, 723, 724, 725, 726, 727, 728, 528, 529, 530, 70, 89, 729, 730, 731, 732, 78, 61, 733, 734, 735, 736, 737, 64, 738, 739, 740, 741, 742, 743, 744, 145, 745, 746, 747, 748, 749, 750, 751, 752, 753, 754, 755, 756, 757, 758, 759, 760, 761, 762, 763, 764, 765, 42, 766, 132, 767, 768, 135, 136, 138, 769, 770, 771, 772, 773, 774, 775, 776, 777, 778, 779, 780, 781, 782, 133, 783, 134, 137, 784, 785, 786, 787, 788, 789, 790, 791, 792, 793, 139, 794, 795, 796, 797, 798, 799, 800, 801, 802, 803, 804, 805, 806, 807, 808, 809, 810, 811, 812, 856, 1137, 1138, 1139, 1140, 1141, 1142, 1143, 1144, 1145, 1146, 1147, 1148, 1149, 1150, 1068, 1069, 1070, 1071, 1072, 1073, 1074, 1075, 1076, 1077, 1124, 1125, 1126, 1127, 1128, 1129, 1130, 1131, 1132, 1133, 1175, 1176, 1177, 1134, 1135, 1136, 1165, 1166, 1167, 1168, 1169, 1156, 1157, 1158, 1159, 1160, 1161, 1162, 1163, 1164, 1178, 1179, 1180, 1181, 1182, 1170, 1171, 1172, 1173, 1174] (by decide +kernel) (by decide +kernel)
set_option maxRecDepth 20000 in
theorem gL_law_X11_day : GoodIn wsL_law (wsV RL 82 RX11 yX11_day wsX11_day) := goodIn_app (goodIn_of _ (by decide +kernel)) ggL_law_X11_day
set_option maxRecDepth 20000 in
theorem ggL_law_X12_day : GoodIn wsL_law wsX12_day := goodIn_r _ [932, 202, 878, 162, 587, 588, 589, 5, 590, 386, 387, 388, 933, 934, 935, 936, 487, 488, 489, 490, 152, 870, 871, 872, 873, 862, 863, 864, 865, 161, 821, 159, 160, 817, 818, 819, 820, 154, 156, 158, 155, 822, 823, 824, 825, 838, 839, 840, 841, 842, 843, 844, 845, 540, 541, 542, 543, 544, 515, 516, 517, 518, 874, 875, 876, 877, 163, 866, 867, 868, 869, 879, 880, 881, 882, 491, 492, 493, 494, 883, 884, 885, 886, 887, 888, 889, 890, 891, 892, 893, 894, 168, 169, 170, 895, 896, 897, 898, 899, 900, 901, 902, 903, 904, 905, 906, 907, 908, 909, 910, 166, 164, 911, 912, 913, 914, 915, 916, 917, 918, 919, 165, 920, 937, 938, 939, 940, 1078, 1079, 1080, 1081, 1082, 1083, 1084, 1085, 1086, 1087, 1088, 1089, 1090, 1091, 1092, 1093, 1094, 1095, 1096, 1097, 1098, 1099, 1100, 1101, 1102, 1103, 1104, 1105, 1106, 1107, 1108, 1109, 1110, 1111, 1112, 1113, 1114, 1115] (by decide +kernel) (by decide +kernel)
set_option maxRecDepth 20000 in
theorem gL_law_X12_day : GoodIn wsL_law (wsV RL 85 RX12 yX12_day wsX12_day) := goodIn_app (goodIn_of _ (by decide +kernel)) ggL_law_X12_day
set_option maxRecDepth 20000 in
theorem ggL_law_X11_week : GoodIn wsL_law wsX11_week := goodIn_r _ [944, 945, 946, 2, 947, 925, 926, 927, 928, 853, 24, 365, 554, 555, 556, 479, 480, 481, 482, 212, 639, 640, 641, 642, 29, 549, 27, 43, 643, 644, 645, 33, 646, 647, 376, 111, 110, 648, 649, 99, 650, 651, 652, 653, 654, 655, 656, 100, 657, 658, 659, 660, 661, 23, 662, 80, 663, 664, 665, 666, 101, 667, 226, 227, 228, 668, 669, 102, 103, 670, 671, 672, 58, 673, 674, 524, 525, 526, 68, 90, 675, 676, 677, 109, 678, 679, 116, 117, 680, 681, 682, 683, 684, 685, 686, 687, 688, 689, 690, 691, 692, 693, 694, 695, 104, 105, 696, 697, 698, 699, 700, 701, 702, 703, 106, 704, 112, 705, 706, 707, 708, 131, 709, 710, 711, 712, 713, 714, 715, 716, 717, 718, 719, 720, 721, 143, 144, 722, 340, 341, 342, 79, 62, 723, 724, 725, 726, 727, 728, 528, 529, 530, 70, 89, 729, 730, 731, 732, 78, 61, 733, 734, 735, 736, 737, 64, 738, 739, 740, 741, 742, 743, 744, 145, 745, 746, 747, 748, 749, 750, 751, 752, 753, 754, 755, 756, 757, 758, 759, 760, 761, 762, 763, 764, 765, 42, 766, 132, 767, 768, 135, 136, 138, 769, 770, 771, 772, 773, 774, 775, 776, 777, 778, 779, 780, 781, 782, 133, 783, 134, 137, 784, 785, 786, 787, 788, 789, 790, 791, 792, 793, 139, 794, 795, 796, 797, 798, 799, 800, 801, 802, 803, 804, 805, 806, 807, 808, 809, 810, 811, 812, 856, 1137, 1138, 1139, 1140, 1141, 1142, 1143, 1144, 1145, 1146, 1147, 1148, 1149, 1150, 1068, 1069, 1070, 1071, 1072, 1073, 1074, 1075, 1076, 1077, 1124, 1125, 1126, 1127, 1128, 1129, 1130, 1131, 1132, 1133, 1175, 1176, 1177, 1134, 1135, 1136, 1165, 1166, 1167, 1168, 1169, 1156, 1157, 1158, 1159, 1160, 1161, 1162, 1163, 1164, 1178, 1179, 1180, 1181, 1182, 1170, 1171, 1172, 1173, 1174] (by decide +kernel) (by decide +kernel)
set_option maxRecDepth 20000 in
theorem gL_law_X11_week : GoodIn wsL_law (wsV RL 86 RX11 yX11_week wsX11_week) := goodIn_app (goodIn_of _ (by decide +kernel)) ggL_law_X11_week
set_option maxRecDepth 20000 in
theorem ggL_law_X12_week : GoodIn wsL_law wsX12_week := goodIn_r _ [951, 202, 878, 587, 588, 589, 5, 590, 386, 387, 388, 952, 953, 954, 955, 933, 934, 935, 936, 487, 488, 489, 490, 152, 870, 871, 872, 873, 862, 863, 864, 865, 161, 821, 159, 160, 817, 818, 819, 820, 154, 156, 158, 155, 822, 823, 824, 825, 838, 839, 840, 841, 842, 843, 844, 845, 540, 541, 542, 543, 544, 515, 516, 517, 518, 874, 875, 876, 877, 162, 163, 866, 867, 868, 869, 879, 880, 881, 882, 491, 492, 493, 494, 883, 884, 885, 886, 887, 888, 889, 890, 891, 892, 893, 894, 168, 169, 170, 895, 896, 897, 898, 899, 900, 901, 902, 903, 904, 905, 906, 907, 908, 909, 910, 166, 164, 911, 912, 913, 914, 915, 916, 917, 918, 919, 165, 920, 937, 938, 939, 940, 1078, 1079, 1080, 1081, 1082, 1083, 1084, 1085, 1086, 1087, 1088, 1089, 1090, 1091, 1092, 1093, 1094, 1095, 1096, 1097, 1098, 1099, 1100, 1101, 1102, 1103, 1104, 1105, 1106, 1107, 1108, 1109, 1110, 1111, 1112, 1113, 1114, 1115] (by decide +kernel) (by decide +kernel)
set_option maxRecDepth 20000 in
theorem gL_law_X12_week : GoodIn wsL_law (wsV RL 89 RX12 yX12_week wsX12_week) := goodIn_app (goodIn_of _ (by decide +kernel)) ggL_law_X12_week
set_option maxRecDepth 20000 in
theorem ggL_law_X11_counted : GoodIn wsL_law wsX11_counted := goodIn_r _ [959, 854, 853, 24, 365, 554, 555, 2, 556, 945, 946, 947, 639, 640, 641, 642, 29, 549, 27, 43, 643, 644, 645, 33, 646, 647, 376, 111, 110, 648, 649, 99, 650, 651, 652, 653, 654, 655, 656, 100, 657, 658, 659, 660, 661, 23, 662, 80, 663, 664, 665, 666, 101, 667, 226, 227, 228, 668, 669, 102, 103, 670, 671, 672, 58, 673, 674, 524, 525, 526, 68, 90, 675, 676, 677, 109, 678, 679, 116, 117, 680, 681, 682, 683, 684, 685, 686, 687, 688, 689, 690, 691, 692, 693, 694, 695, 104, 105, 696, 697, 698, 699, 700, 701, 702, 703, 106, 704, 112, 705, 706, 707, 708, 131, 709, 710, 711, 712, 713, 714, 715, 716, 717, 718, 719, 720, 721, 143, 144, 722, 340, 341, 342, 79, 62, 723, 724, 725, 726, 727, 728, 528, 529, 530, 70, 89, 729, 730, 731, 732, 78, 61, 733, 734, 735, 736, 737, 64, 738, 739, 740, 741, 742, 743, 744, 145, 745, 746, 747, 748, 749, 750, 751, 752, 753, 754, 755, 756, 757, 758, 759, 760, 761, 762, 763, 764, 765, 42, 766, 132, 767, 768, 135, 136, 138, 769, 770, 771, 772, 773, 774, 775, 776, 777, 778, 779, 780, 781, 782, 133, 783, 134, 137, 784, 785, 786, 787, 788, 789, 790, 791, 792, 793, 139, 794, 795, 796, 797, 798, 799, 800, 801, 802, 803, 804, 805, 806, 807, 808, 809, 810, 811, 812, 856, 960, 1137, 1138, 1139, 1140, 1141, 1142, 1143, 1144, 1145, 1146, 1147, 1148, 1149, 1150, 1068, 1069, 1070, 1071, 1072, 1073, 1074, 1075, 1076, 1077, 1124, 1125, 1126, 1127, 1128, 1129, 1130, 1131, 1132, 1133, 1175, 1176, 1177, 1134, 1135, 1136, 1165, 1166, 1167, 1168, 1169, 1156, 1157, 1158, 1159, 1160, 1161, 1162, 1163, 1164, 1178, 1179, 1180, 1181, 1182, 1170, 1171, 1172, 1173, 1174] (by decide +kernel) (by decide +kernel)
set_option maxRecDepth 20000 in
theorem gL_law_X11_counted : GoodIn wsL_law (wsV RL 90 RX11 yX11_counted wsX11_counted) := goodIn_app (goodIn_of _ (by decide +kernel)) ggL_law_X11_counted
set_option maxRecDepth 20000 in
theorem ggL_law_X12_counted : GoodIn wsL_law wsX12_counted := goodIn_r _ [964, 202, 920, 911, 587, 588, 589, 5, 590, 386, 387, 388, 952, 953, 954, 955, 870, 871, 872, 873, 862, 863, 864, 865, 161, 821, 159, 160, 817, 818, 819, 820, 154, 156, 158, 155, 152, 822, 823, 824, 825, 838, 839, 840, 841, 842, 843, 844, 845, 540, 541, 542, 543, 544, 515, 516, 517, 518, 874, 875, 876, 877, 878, 162, 163, 866, 867, 868, 869, 487, 488, 489, 490, 879, 880, 881, 882, 491, 492, 493, 494, 883, 884, 885, 886, 887, 888, 889, 890, 891, 892, 893, 894, 168, 169, 170, 895, 896, 897, 898, 899, 900, 901, 902, 903, 904, 905, 906, 907, 908, 909, 910, 166, 164, 912, 913, 914, 915, 916, 917, 918, 919, 165, 1078, 1079, 1080, 1081, 1082, 1083, 1084, 1085, 1086, 1087, 1088, 1089, 1090, 1091, 1092, 1093, 1094, 1095, 1096, 1097, 1098, 1099, 1100, 1101, 1102, 1103, 1104, 1105, 1106, 1107, 1108, 1109, 1110, 1111, 1112, 1113, 1114, 1115] (by decide +kernel) (by decide +kernel)
set_option maxRecDepth 20000 in
theorem gL_law_X12_counted : GoodIn wsL_law (wsV RL 93 RX12 yX12_counted wsX12_counted) := goodIn_app (goodIn_of _ (by decide +kernel)) ggL_law_X12_counted
set_option maxRecDepth 20000 in
theorem ggL_law_X11_pay : GoodIn wsL_law wsX11_pay := goodIn_r _ [968, 854, 853, 554, 555, 2, 556, 945, 946, 947, 639, 640, 641, 642, 29, 549, 27, 24, 43, 643, 644, 645, 33, 646, 647, 376, 111, 110, 648, 649, 99, 650, 651, 652, 653, 654, 655, 656, 100, 657, 658, 659, 660, 661, 23, 662, 80, 663, 664, 665, 666, 101, 667, 226, 227, 228, 668, 669, 102, 103, 670, 671, 672, 58, 673, 674, 524, 525, 526, 68, 90, 675, 676, 677, 109, 678, 679, 116, 117, 680, 681, 682, 683, 684, 685, 686, 687, 688, 689, 690, 691, 692, 693, 694, 695, 104, 105, 696, 697, 698, 699, 700, 701, 702, 703, 106, 704, 112, 705, 706, 707, 708, 131, 709, 710, 711, 712, 713, 714, 715, 716, 717, 718, 719, 720, 721, 143, 144, 722, 340, 341, 342, 79, 62, 723, 724, 725, 726, 727, 728, 528, 529, 530, 70, 89, 729, 730, 731, 732, 78, 61, 733, 734, 735, 736, 737, 64, 738, 739, 740, 741, 742, 743, 744, 145, 745, 746, 747, 748, 749, 750, 751, 752, 753, 754, 755, 756, 757, 758, 759, 760, 761, 762, 763, 764, 765, 42, 766, 132, 767, 768, 135, 136, 138, 769, 770, 771, 772, 773, 774, 775, 776, 777, 778, 779, 780, 781, 782, 133, 783, 134, 137, 784, 785, 786, 787, 788, 789, 790, 791, 792, 793, 139, 794, 795, 796, 797, 798, 799, 800, 801, 802, 803, 804, 805, 806, 807, 808, 809, 810, 811, 812, 969, 970, 971, 972, 365, 454, 856, 973, 1137, 1138, 1139, 1140, 1141, 1142, 1143, 1144, 1145, 1146, 1147, 1148, 1149, 1150, 1068, 1069, 1070, 1071, 1072, 1073, 1074, 1075, 1076, 1077, 1175, 1176, 1177, 1124, 1125, 1126, 1127, 1128, 1129, 1130, 1131, 1132, 1133, 1134, 1135, 1136, 1165, 1166, 1167, 1168, 1169, 1156, 1157, 1158, 1159, 1160, 1161, 1162, 1163, 1164, 1178, 1179, 1180, 1181, 1182, 1170, 1171, 1172, 1173, 1174] (by decide +kernel) (by decide +kernel)
set_option maxRecDepth 20000 in
theorem gL_law_X11_pay : GoodIn wsL_law (wsV RL 94 RX11 yX11_pay wsX11_pay) := goodIn_app (goodIn_of _ (by decide +kernel)) ggL_law_X11_pay
set_option maxRecDepth 20000 in
theorem ggL_law_X12_pay : GoodIn wsL_law wsX12_pay := goodIn_r _ [977, 202, 878, 165, 164, 152, 587, 588, 589, 5, 590, 386, 387, 388, 952, 953, 954, 955, 870, 871, 872, 873, 862, 863, 864, 865, 161, 821, 159, 160, 817, 818, 819, 820, 154, 156, 158, 155, 822, 823, 824, 825, 838, 839, 840, 841, 842, 843, 844, 845, 540, 541, 542, 543, 544, 515, 516, 517, 518, 874, 875, 876, 877, 162, 163, 866, 867, 868, 869, 487, 488, 489, 490, 879, 880, 881, 882, 491, 492, 493, 494, 883, 884, 885, 886, 887, 888, 889, 890, 891, 892, 893, 894, 168, 169, 170, 895, 896, 897, 898, 899, 900, 901, 902, 903, 904, 905, 906, 907, 908, 909, 910, 166, 911, 912, 913, 914, 915, 916, 917, 918, 919, 920, 978, 979, 980, 981, 1078, 1079, 1080, 1081, 1082, 1083, 1084, 1085, 1086, 1087, 1088, 1089, 1090, 1091, 1092, 1093, 1094, 1095, 1096, 1097, 1098, 1099, 1100, 1101, 1102, 1103, 1104, 1105, 1106, 1107, 1108, 1109, 1110, 1111, 1112, 1113, 1114, 1115] (by decide +kernel) (by decide +kernel)
set_option maxRecDepth 20000 in
theorem gL_law_X12_pay : GoodIn wsL_law (wsV RL 97 RX12 yX12_pay wsX12_pay) := goodIn_app (goodIn_of _ (by decide +kernel)) ggL_law_X12_pay
set_option maxRecDepth 20000 in
theorem ggL_law_X11_dayPay : GoodIn wsL_law wsX11_dayPay := goodIn_r _ [985, 853, 554, 555, 2, 556, 639, 640, 641, 642, 29, 549, 27, 24, 43, 643, 644, 645, 33, 646, 647, 376, 111, 110, 648, 649, 99, 650, 651, 652, 653, 654, 655, 656, 100, 657, 658, 659, 660, 661, 23, 662, 80, 663, 664, 665, 666, 101, 667, 226, 227, 228, 668, 669, 102, 103, 670, 671, 672, 58, 673, 674, 524, 525, 526, 68, 90, 675, 676, 677, 109, 678, 679, 116, 117, 680, 681, 682, 683, 684, 685, 686, 687, 688, 689, 690, 691, 692, 693, 694, 695, 104, 105, 696, 697, 698, 699, 700, 701, 702, 703, 106, 704, 112, 705, 706, 707, 708, 131, 709, 710, 711, 712, 713, 714, 715, 716, 717, 718, 719, 720, 721, 143, 144, 722, 340, 341, 342, 79, 62, 723, 724, 725, 726, 727, 728, 528, 529, 530, 70, 89, 729, 730, 731, 732, 78, 61, 733, 734, 735, 736, 737, 64, 738, 739, 740, 741, 742, 743, 744, 145, 745, 746, 747, 748, 749, 750, 751, 752, 753, 754, 755, 756, 757, 758, 759, 760, 761, 762, 763, 764, 765, 42, 766, 132, 767, 768, 135, 136, 138, 769, 770, 771, 772, 773, 774, 775, 776, 777, 778, 779, 780, 781, 782, 133, 783, 134, 137, 784, 785, 786, 787, 788, 789, 790, 791, 792, 793, 139, 794, 795, 796, 797, 798, 799, 800, 801, 802, 803, 804, 805, 806, 807, 808, 809, 810, 811, 812, 969, 970, 971, 972, 365, 454, 856, 973, 1137, 1138, 1139, 1140, 1141, 1142, 1143, 1144, 1145, 1146, 1147, 1148, 1149, 1150, 1068, 1069, 1070, 1071, 1072, 1073, 1074, 1075, 1076, 1077, 1175, 1176, 1177, 1124, 1125, 1126, 1127, 1128, 1129, 1130, 1131, 1132, 1133, 1134, 1135, 1136, 1165, 1166, 1167, 1168, 1169, 1156, 1157, 1158, 1159, 1160, 1161, 1162, 1163, 1164, 1178, 1179, 1180, 1181, 1182, 1170, 1171, 1172, 1173, 1174] (by decide +kernel) (by decide +kernel)
set_option maxRecDepth 20000 in
theorem gL_law_X11_dayPay : GoodIn wsL_law (wsV RL 98 RX11 yX11_dayPay wsX11_dayPay) := goodIn_app (goodIn_of _ (by decide +kernel)) ggL_law_X11_dayPay
set_option maxRecDepth 20000 in
theorem ggL_law_X12_dayPay : GoodIn wsL_law wsX12_dayPay := goodIn_r _ [989, 202, 878, 162, 164, 152, 587, 588, 589, 5, 590, 386, 387, 388, 870, 871, 872, 873, 862, 863, 864, 865, 161, 821, 159, 160, 817, 818, 819, 820, 154, 156, 158, 155, 822, 823, 824, 825, 838, 839, 840, 841, 842, 843, 844, 845, 540, 541, 542, 543, 544, 515, 516, 517, 518, 874, 875, 876, 877, 163, 866, 867, 868, 869, 487, 488, 489, 490, 879, 880, 881, 882, 491, 492, 493, 494, 883, 884, 885, 886, 887, 888, 889, 890, 891, 892, 893, 894, 168, 169, 170, 895, 896, 897, 898, 899, 900, 901, 902, 903, 904, 905, 906, 907, 908, 909, 910, 166, 911, 912, 913, 914, 915, 916, 917, 918, 919, 165, 920, 978, 979, 980, 981, 1078, 1079, 1080, 1081, 1082, 1083, 1084, 1085, 1086, 1087, 1088, 1089, 1090, 1091, 1092, 1093, 1094, 1095, 1096, 1097, 1098, 1099, 1100, 1101, 1102, 1103, 1104, 1105, 1106, 1107, 1108, 1109, 1110, 1111, 1112, 1113, 1114, 1115] (by decide +kernel) (by decide +kernel)
set_option maxRecDepth 20000 in
theorem gL_law_X12_dayPay : GoodIn wsL_law (wsV RL 101 RX12 yX12_dayPay wsX12_dayPay) := goodIn_app (goodIn_of _ (by decide +kernel)) ggL_law_X12_dayPay
set_option maxRecDepth 20000 in
theorem ggL_law_X11_total : GoodIn wsL_law wsX11_total := goodIn_r _ [993, 639, 640, 641, 2, 642, 29, 549, 27, 24, 43, 643, 644, 645, 33, 646, 647, 376, 111, 110, 648, 649, 99, 650, 651, 652, 653, 654, 655, 656, 100, 657, 658, 659, 660, 661, 23, 662, 80, 663, 664, 665, 666, 101, 667, 226, 227, 228, 668, 669, 102, 103, 670, 671, 672, 58, 673, 674, 524, 525, 526, 68, 90, 675, 676, 677, 109, 678, 679, 116, 117, 680, 681, 682, 683, 684, 685, 686, 687, 688, 689, 690, 691, 692, 693, 694, 695, 104, 105, 696, 697, 698, 699, 700, 701, 702, 703, 106, 704, 112, 705, 706, 707, 708, 131, 709, 710, 711, 712, 713, 714, 715, 716, 717, 718, 719, 720, 721, 143, 144, 722, 340, 341, 342, 79, 62, 723, 724, 725, 726, 727, 728, 528, 529, 530, 70, 89, 729, 730, 731, 732, 78, 61, 733, 734, 735, 736, 737, 64, 738, 739, 740, 741, 742, 743, 744, 145, 745, 746, 747, 748, 749, 750, 751, 752, 753, 754, 755, 756, 757, 758, 759, 760, 761, 762, 763, 764, 765, 42, 766, 132, 767, 768, 135, 136, 138, 769, 770, 771, 772, 773, 774, 775, 776, 777, 778, 779, 780, 781, 782, 133, 783, 134, 137, 784, 785, 786, 787, 788, 789, 790, 791, 792, 793, 139, 794, 795, 796, 797, 798, 799, 800, 801, 802, 803, 804, 805, 806, 807, 808, 809, 810, 811, 812, 994, 995, 996, 997, 1068, 1069, 1070, 1071, 1072, 1073, 1074, 1075, 1076, 1077, 1137, 1138, 1139, 1140, 1141, 1142, 1143, 1144, 1145, 1146, 1147, 1148, 1149, 1150, 1175, 1176, 1177, 1124, 1125, 1126, 1127, 1128, 1129, 1130, 1131, 1132, 1133, 1134, 1135, 1136, 1165, 1166, 1167, 1168, 1169, 1156, 1157, 1158, 1159, 1160, 1161, 1162, 1163, 1164, 1178, 1179, 1180, 1181, 1182, 1170, 1171, 1172, 1173, 1174] (by decide +kernel) (by decide +kernel)
set_option maxRecDepth 20000 in
theorem gL_law_X11_total : GoodIn wsL_law (wsV RL 102 RX11 yX11_total wsX11_total) := goodIn_app (goodIn_of _ (by decide +kernel)) ggL_law_X11_total
set_option maxRecDepth 20000 in
theorem ggL_law_X12_total : GoodIn wsL_law wsX12_total := goodIn_r _ [1001, 202, 1002, 1003, 1004, 5, 1005, 1006, 1007, 1008, 1009, 878, 168, 152, 862, 863, 864, 865, 161, 821, 159, 160, 817, 818, 819, 820, 154, 156, 158, 155, 822, 823, 824, 825, 838, 839, 840, 841, 842, 843, 844, 845, 540, 541, 542, 543, 544, 515, 516, 517, 518, 386, 387, 388, 874, 875, 876, 877, 162, 163, 866, 867, 868, 869, 487, 488, 489, 490, 879, 880, 881, 882, 491, 492, 493, 494, 883, 884, 885, 886, 887, 888, 889, 890, 891, 892, 893, 894, 169, 170, 895, 896, 897, 898, 899, 900, 901, 902, 903, 904, 905, 906, 1078, 1079, 1080, 1081, 1082, 1083, 1084, 1085, 1086, 1087, 1088, 1089, 1090, 1091, 1092, 1093, 1094, 1095, 1096, 1097, 1098, 1099, 1100, 1101, 1102, 1103, 1104, 1105, 1106, 1107, 1108, 1109, 1110, 1111, 1112, 1113, 1114, 1115] (by decide +kernel) (by decide +kernel)
set_option maxRecDepth 20000 in
theorem gL_law_X12_total : GoodIn wsL_law (wsV RL 105 RX12 yX12_total wsX12_total) := goodIn_app (goodIn_of _ (by decide +kernel)) ggL_law_X12_total
set_option maxRecDepth 20000 in
theorem ggL_law_X11_would : GoodIn wsL_law wsX11_would := goodIn_r _ [1013, 1014, 550, 551, 552, 2, 553, 24, 365, 27, 554, 555, 556, 503, 504, 505, 58, 506, 70, 89, 90, 557, 558, 559, 31, 560, 561, 562, 563, 564, 565, 94, 1015, 1016, 1017, 1018, 38, 39, 43, 1019, 1020, 1021, 1022, 95, 566, 567, 568, 569, 643, 644, 645, 33, 646, 647, 376, 111, 110, 648, 649, 99, 650, 651, 652, 653, 654, 655, 656, 100, 657, 658, 659, 660, 661, 23, 662, 80, 663, 664, 665, 666, 101, 667, 226, 227, 228, 668, 669, 102, 103, 670, 671, 672, 673, 674, 524, 525, 526, 68, 675, 676, 677, 109, 678, 679, 116, 117, 680, 681, 682, 683, 684, 685, 686, 687, 688, 689, 690, 691, 692, 693, 694, 695, 104, 105, 696, 697, 698, 699, 700, 701, 702, 703, 106, 704, 112, 705, 706, 707, 708, 131, 709, 710, 711, 712, 713, 714, 715, 716, 717, 718, 719, 720, 721, 143, 144, 722, 340, 341, 342, 79, 62, 723, 724, 725, 726, 727, 728, 528, 529, 530, 729, 730, 731, 732, 78, 61, 733, 734, 735, 736, 737, 64, 738, 739, 740, 741, 742, 743, 744, 145, 745, 746, 747, 748, 749, 750, 751, 752, 753, 754, 755, 756, 757, 758, 759, 760, 761, 762, 763, 764, 765, 42, 766, 132, 767, 768, 135, 136, 138, 769, 770, 771, 772, 773, 774, 775, 776, 777, 778, 779, 780, 781, 782, 133, 783, 134, 137, 784, 785, 786, 787, 788, 789, 790, 791, 792, 793, 139, 794, 795, 796, 797, 798, 799, 800, 801, 802, 803, 804, 805, 806, 807, 808, 809, 810, 811, 812, 994, 995, 996, 997, 639, 640, 641, 642, 29, 549, 1068, 1069, 1070, 1071, 1072, 1073, 1074, 1075, 1076, 1077, 1124, 1125, 1126, 1127, 1128, 1129, 1130, 1131, 1132, 1133, 1165, 1166, 1167, 1168, 1169, 1134, 1135, 1136, 1137, 1138, 1139, 1140, 1141, 1142, 1143, 1144, 1145, 1146, 1147, 1148, 1149, 1150, 1175, 1176, 1177, 1156, 1157, 1158, 1159, 1160, 1161, 1162, 1163, 1164, 1178, 1179, 1180, 1181, 1182, 1170, 1171, 1172, 1173, 1174] (by decide +kernel) (by decide +kernel)
set_option maxRecDepth 20000 in
theorem gL_law_X11_would : GoodIn wsL_law (wsV RL 106 RX11 yX11_would wsX11_would) := goodIn_app (goodIn_of _ (by decide +kernel)) ggL_law_X11_would
set_option maxRecDepth 20000 in
theorem ggL_law_X12_would : GoodIn wsL_law wsX12_would := goodIn_r _ [1026, 202, 1027, 511, 512, 513, 5, 514, 152, 386, 387, 388, 515, 516, 517, 518, 583, 584, 585, 586, 154, 587, 588, 589, 590, 591, 592, 593, 594, 155, 1006, 1007, 1008, 1009, 878, 168, 862, 863, 864, 865, 161, 821, 159, 160, 817, 818, 819, 820, 156, 158, 822, 823, 824, 825, 838, 839, 840, 841, 842, 843, 844, 845, 540, 541, 542, 543, 544, 874, 875, 876, 877, 162, 163, 866, 867, 868, 869, 487, 488, 489, 490, 879, 880, 881, 882, 491, 492, 493, 494, 883, 884, 885, 886, 887, 888, 889, 890, 891, 892, 893, 894, 169, 170, 895, 896, 897, 898, 899, 900, 901, 902, 903, 904, 905, 906, 595, 596, 597, 598, 617, 618, 619, 620, 1078, 1079, 1080, 1081, 1082, 1083, 1084, 1085, 1086, 1087, 1088, 1089, 1090, 1091, 1092, 1093, 1094, 1095, 1096, 1097, 1098, 1099, 1100, 1101, 1102, 1103, 1104, 1105, 1106, 1107, 1108, 1109, 1110, 1111, 1112, 1113, 1114, 1115] (by decide +kernel) (by decide +kernel)
set_option maxRecDepth 20000 in
theorem gL_law_X12_would : GoodIn wsL_law (wsV RL 109 RX12 yX12_would wsX12_would) := goodIn_app (goodIn_of _ (by decide +kernel)) ggL_law_X12_would
set_option maxRecDepth 20000 in
theorem ggL_law_X11_dearest : GoodIn wsL_law wsX11_dearest := goodIn_r _ [1031, 550, 551, 552, 2, 553, 24, 365, 27, 554, 555, 556, 503, 504, 505, 58, 506, 70, 89, 90, 557, 558, 559, 31, 560, 561, 562, 563, 564, 565, 94, 1015, 1016, 1017, 1018, 38, 39, 43, 1019, 1020, 1021, 1022, 95, 566, 567, 568, 569, 643, 644, 645, 33, 646, 647, 376, 111, 110, 648, 649, 99, 650, 651, 652, 653, 654, 655, 656, 100, 657, 658, 659, 660, 661, 23, 662, 80, 663, 664, 665, 666, 101, 667, 226, 227, 228, 668, 669, 102, 103, 670, 671, 672, 673, 674, 524, 525, 526, 68, 675, 676, 677, 109, 678, 679, 116, 117, 680, 681, 682, 683, 684, 685, 686, 687, 688, 689, 690, 691, 692, 693, 694, 695, 104, 105, 696, 697, 698, 699, 700, 701, 702, 703, 106, 704, 112, 705, 706, 707, 708, 131, 709, 710, 711, 712, 713, 714, 715, 716, 717, 718, 719, 720, 721, 143, 144, 722, 340, 341, 342, 79, 62, 723, 724, 725, 726, 727, 728, 528, 529, 530, 729, 730, 731, 732, 78, 61, 733, 734, 735, 736, 737, 64, 738, 739, 740, 741, 742, 743, 744, 145, 745, 746, 747, 748, 749, 750, 751, 752, 753, 754, 755, 756, 757, 758, 759, 760, 761, 762, 763, 764, 765, 42, 766, 132, 767, 768, 135, 136, 138, 769, 770, 771, 772, 773, 774, 775, 776, 777, 778, 779, 780, 781, 782, 133, 783, 134, 137, 784, 785, 786, 787, 788, 789, 790, 791, 792, 793, 139, 794, 795, 796, 797, 798, 799, 800, 801, 802, 803, 804, 805, 806, 807, 808, 809, 810, 811, 812, 994, 995, 996, 997, 1068, 1069, 1070, 1071, 1072, 1073, 1074, 1075, 1076, 1077, 1124, 1125, 1126, 1127, 1128, 1129, 1130, 1131, 1132, 1133, 1165, 1166, 1167, 1168, 1169, 1134, 1135, 1136, 1137, 1138, 1139, 1140, 1141, 1142, 1143, 1144, 1145, 1146, 1147, 1148, 1149, 1150, 1175, 1176, 1177, 1156, 1157, 1158, 1159, 1160, 1161, 1162, 1163, 1164, 1178, 1179, 1180, 1181, 1182, 1170, 1171, 1172, 1173, 1174] (by decide +kernel) (by decide +kernel)
set_option maxRecDepth 20000 in
theorem gL_law_X11_dearest : GoodIn wsL_law (wsV RL 110 RX11 yX11_dearest wsX11_dearest) := goodIn_app (goodIn_of _ (by decide +kernel)) ggL_law_X11_dearest
set_option maxRecDepth 20000 in
theorem ggL_law_X12_dearest : GoodIn wsL_law wsX12_dearest := goodIn_r _ [1035, 202, 173, 587, 588, 589, 5, 590, 386, 387, 388, 511, 512, 513, 514, 152, 515, 516, 517, 518, 583, 584, 585, 586, 154, 591, 592, 593, 594, 155, 595, 596, 597, 598, 156, 1036, 1037, 1038, 1039, 862, 863, 864, 865, 161, 821, 159, 160, 817, 818, 819, 820, 158, 822, 823, 824, 825, 838, 839, 840, 841, 842, 843, 844, 845, 540, 541, 542, 543, 544, 1040, 1041, 1042, 1043, 172, 171, 878, 168, 1044, 1045, 1046, 1047, 1048, 1049, 1050, 874, 875, 876, 877, 162, 163, 866, 867, 868, 869, 487, 488, 489, 490, 879, 880, 881, 882, 491, 492, 493, 494, 883, 884, 885, 886, 887, 888, 889, 890, 891, 892, 893, 894, 169, 170, 895, 896, 897, 898, 899, 900, 901, 902, 903, 904, 905, 906, 617, 618, 619, 620, 1078, 1079, 1080, 1081, 1082, 1083, 1084, 1085, 1086, 1087, 1088, 1089, 1090, 1091, 1092, 1093, 1094, 1095, 1096, 1097, 1098, 1099, 1100, 1101, 1102, 1103, 1104, 1105, 1106, 1107, 1108, 1109, 1110, 1111, 1112, 1113, 1114, 1115] (by decide +kernel) (by decide +kernel)
set_option maxRecDepth 20000 in
theorem gL_law_X12_dearest : GoodIn wsL_law (wsV RL 113 RX12 yX12_dearest wsX12_dearest) := goodIn_app (goodIn_of _ (by decide +kernel)) ggL_law_X12_dearest
set_option maxRecDepth 20000 in
theorem ggL_law_X11_worth : GoodIn wsL_law wsX11_worth := goodIn_r _ [1054, 39, 27, 24, 43, 479, 480, 481, 2, 482, 212, 643, 644, 645, 33, 646, 647, 376, 111, 110, 648, 649, 99, 650, 651, 652, 653, 654, 655, 656, 100, 657, 658, 659, 660, 661, 23, 662, 80, 663, 664, 665, 666, 101, 667, 226, 227, 228, 668, 669, 102, 103, 670, 671, 672, 58, 673, 674, 524, 525, 526, 68, 90, 675, 676, 677, 109, 678, 679, 116, 117, 680, 681, 682, 683, 684, 685, 686, 687, 688, 689, 690, 691, 692, 693, 694, 695, 104, 105, 696, 697, 698, 699, 700, 701, 702, 703, 106, 704, 112, 705, 706, 707, 708, 131, 709, 710, 711, 712, 713, 714, 715, 716, 717, 718, 719, 720, 721, 143, 144, 722, 340, 341, 342, 79, 62, 723, 724, 725, 726, 727, 728, 528, 529, 530, 70, 89, 729, 730, 731, 732, 78, 61, 733, 734, 735, 736, 737, 64, 738, 739, 740, 741, 742, 743, 744, 145, 745, 746, 747, 748, 749, 750, 751, 752, 753, 754, 755, 756, 757, 758, 759, 760, 761, 762, 763, 764, 765, 42, 766, 132, 767, 768, 135, 136, 138, 769, 770, 771, 772, 773, 774, 775, 776, 777, 778, 779, 780, 781, 782, 133, 783, 134, 137, 784, 785, 786, 787, 788, 789, 790, 791, 792, 793, 139, 794, 795, 796, 797, 798, 799, 800, 801, 802, 803, 804, 805, 806, 807, 808, 809, 810, 811, 812, 994, 995, 996, 997, 1055, 991, 992, 993, 639, 640, 641, 642, 29, 549, 1068, 1069, 1070, 1071, 1072, 1073, 1074, 1075, 1076, 1077, 1124, 1125, 1126, 1127, 1128, 1129, 1130, 1131, 1132, 1133, 1137, 1138, 1139, 1140, 1141, 1142, 1143, 1144, 1145, 1146, 1147, 1148, 1149, 1150, 1175, 1176, 1177, 1134, 1135, 1136, 1165, 1166, 1167, 1168, 1169, 1156, 1157, 1158, 1159, 1160, 1161, 1162, 1163, 1164, 1178, 1179, 1180, 1181, 1182, 1170, 1171, 1172, 1173, 1174] (by decide +kernel) (by decide +kernel)
set_option maxRecDepth 20000 in
theorem gL_law_X11_worth : GoodIn wsL_law (wsV RL 114 RX11 yX11_worth wsX11_worth) := goodIn_app (goodIn_of _ (by decide +kernel)) ggL_law_X11_worth
set_option maxRecDepth 20000 in
theorem ggL_law_X12_worth : GoodIn wsL_law wsX12_worth := goodIn_r _ [1059, 202, 153, 152, 487, 488, 489, 5, 490, 386, 387, 388, 1002, 1003, 1004, 1005, 1006, 1007, 1008, 1009, 878, 168, 862, 863, 864, 865, 161, 821, 159, 160, 817, 818, 819, 820, 154, 156, 158, 155, 822, 823, 824, 825, 838, 839, 840, 841, 842, 843, 844, 845, 540, 541, 542, 543, 544, 515, 516, 517, 518, 874, 875, 876, 877, 162, 163, 866, 867, 868, 869, 879, 880, 881, 882, 491, 492, 493, 494, 883, 884, 885, 886, 887, 888, 889, 890, 891, 892, 893, 894, 169, 170, 895, 896, 897, 898, 899, 900, 901, 902, 903, 904, 905, 906, 180, 181, 182, 183, 1078, 1079, 1080, 1081, 1082, 1083, 1084, 1085, 1086, 1087, 1088, 1089, 1090, 1091, 1092, 1093, 1094, 1095, 1096, 1097, 1098, 1099, 1100, 1101, 1102, 1103, 1104, 1105, 1106, 1107, 1108, 1109, 1110, 1111, 1112, 1113, 1114, 1115] (by decide +kernel) (by decide +kernel)
set_option maxRecDepth 20000 in
theorem gL_law_X12_worth : GoodIn wsL_law (wsV RL 117 RX12 yX12_worth wsX12_worth) := goodIn_app (goodIn_of _ (by decide +kernel)) ggL_law_X12_worth
set_option maxRecDepth 20000 in
theorem ggL_law_X11_together : GoodIn wsL_law wsX11_together := goodIn_r _ [1063, 853, 24, 365, 554, 555, 2, 556, 639, 640, 641, 642, 29, 549, 27, 43, 643, 644, 645, 33, 646, 647, 376, 111, 110, 648, 649, 99, 650, 651, 652, 653, 654, 655, 656, 100, 657, 658, 659, 660, 661, 23, 662, 80, 663, 664, 665, 666, 101, 667, 226, 227, 228, 668, 669, 102, 103, 670, 671, 672, 58, 673, 674, 524, 525, 526, 68, 90, 675, 676, 677, 109, 678, 679, 116, 117, 680, 681, 682, 683, 684, 685, 686, 687, 688, 689, 690, 691, 692, 693, 694, 695, 104, 105, 696, 697, 698, 699, 700, 701, 702, 703, 106, 704, 112, 705, 706, 707, 708, 131, 709, 710, 711, 712, 713, 714, 715, 716, 717, 718, 719, 720, 721, 143, 144, 722, 340, 341, 342, 79, 62, 723, 724, 725, 726, 727, 728, 528, 529, 530, 70, 89, 729, 730, 731, 732, 78, 61, 733, 734, 735, 736, 737, 64, 738, 739, 740, 741, 742, 743, 744, 145, 745, 746, 747, 748, 749, 750, 751, 752, 753, 754, 755, 756, 757, 758, 759, 760, 761, 762, 763, 764, 765, 42, 766, 132, 767, 768, 135, 136, 138, 769, 770, 771, 772, 773, 774, 775, 776, 777, 778, 779, 780, 781, 782, 133, 783, 134, 137, 784, 785, 786, 787, 788, 789, 790, 791, 792, 793, 139, 794, 795, 796, 797, 798, 799, 800, 801, 802, 803, 804, 805, 806, 807, 808, 809, 810, 811, 812, 856, 1137, 1138, 1139, 1140, 1141, 1142, 1143, 1144, 1145, 1146, 1147, 1148, 1149, 1150, 1068, 1069, 1070, 1071, 1072, 1073, 1074, 1075, 1076, 1077, 1124, 1125, 1126, 1127, 1128, 1129, 1130, 1131, 1132, 1133, 1175, 1176, 1177, 1134, 1135, 1136, 1165, 1166, 1167, 1168, 1169, 1156, 1157, 1158, 1159, 1160, 1161, 1162, 1163, 1164, 1178, 1179, 1180, 1181, 1182, 1170, 1171, 1172, 1173, 1174] (by decide +kernel) (by decide +kernel)
set_option maxRecDepth 20000 in
theorem gL_law_X11_together : GoodIn wsL_law (wsV RL 118 RX11 yX11_together wsX11_together) := goodIn_app (goodIn_of _ (by decide +kernel)) ggL_law_X11_together
set_option maxRecDepth 20000 in
theorem ggL_law_X12_together : GoodIn wsL_law wsX12_together := goodIn_r _ [1067, 202, 174, 161, 587, 588, 589, 5, 590, 386, 387, 388, 862, 863, 864, 865, 821, 159, 160, 817, 818, 819, 820, 154, 156, 158, 155, 152, 822, 823, 824, 825, 838, 839, 840, 841, 842, 843, 844, 845, 540, 541, 542, 543, 544, 515, 516, 517, 518, 1078, 1079, 1080, 1081, 1082, 1083, 1084, 1085, 1086, 1087, 1088, 1089, 1090, 1091, 1092, 1093, 1094, 1095, 1096, 1097, 1098, 1099, 1100, 1101, 1102, 1103, 1104, 1105, 1106, 1107, 1108, 1109, 1110, 1111, 1112, 1113, 1114, 1115] (by decide +kernel) (by decide +kernel)
set_option maxRecDepth 20000 in
theorem gL_law_X12_together : GoodIn wsL_law (wsV RL 121 RX12 yX12_together wsX12_together) := goodIn_app (goodIn_of _ (by decide +kernel)) ggL_law_X12_together
theorem dL_law_0 : decode cL_law 0 = .ok (.new 8, 3) := by decide +kernel
theorem dL_law_3 : decode cL_law 3 = .ok (.dup, 1) := by decide +kernel
theorem dL_law_4 : decode cL_law 4 = .ok (.invokespecial 19, 3) := by decide +kernel
theorem dL_law_7 : decode cL_law 7 = .ok (.astore_n 1, 1) := by decide +kernel
theorem dL_law_8 : decode cL_law 8 = .ok (.new 20, 3) := by decide +kernel
theorem dL_law_11 : decode cL_law 11 = .ok (.dup, 1) := by decide +kernel
theorem dL_law_12 : decode cL_law 12 = .ok (.invokespecial 22, 3) := by decide +kernel
theorem dL_law_15 : decode cL_law 15 = .ok (.astore_n 2, 1) := by decide +kernel
theorem dL_law_16 : decode cL_law 16 = .ok (.iconst 1, 1) := by decide +kernel
theorem dL_law_17 : decode cL_law 17 = .ok (.newarray .long, 2) := by decide +kernel
theorem dL_law_19 : decode cL_law 19 = .ok (.astore_n 3, 1) := by decide +kernel
theorem dL_law_20 : decode cL_law 20 = .ok (.iconst 0, 1) := by decide +kernel
theorem dL_law_21 : decode cL_law 21 = .ok (.istore 4, 2) := by decide +kernel
theorem dL_law_23 : decode cL_law 23 = .ok (.iload 4, 2) := by decide +kernel
theorem dL_law_25 : decode cL_law 25 = .ok (.aload_n 0, 1) := by decide +kernel
theorem dL_law_26 : decode cL_law 26 = .ok (.arraylength, 1) := by decide +kernel
theorem dL_law_27 : decode cL_law 27 = .ok (.bipush 6, 2) := by decide +kernel
theorem dL_law_29 : decode cL_law 29 = .ok (.isub, 1) := by decide +kernel
theorem dL_law_30 : decode cL_law 30 = .ok (.if_icmp .gt 1248, 3) := by decide +kernel
theorem dL_law_33 : decode cL_law 33 = .ok (.aload_n 0, 1) := by decide +kernel
theorem dL_law_34 : decode cL_law 34 = .ok (.iload 4, 2) := by decide +kernel
theorem dL_law_36 : decode cL_law 36 = .ok (.iaload, 1) := by decide +kernel
theorem dL_law_37 : decode cL_law 37 = .ok (.bipush 31, 2) := by decide +kernel
theorem dL_law_39 : decode cL_law 39 = .ok (.iand, 1) := by decide +kernel
theorem dL_law_40 : decode cL_law 40 = .ok (.tableswitch 1232 0 21 #[104, 177, 202, 227, 295, 360, 397, 486, 563, 576, 625, 674, 754, 803, 852, 917, 982, 1019, 1032, 1121, 1170, 1195], 104) := by decide +kernel
theorem dL_law_144 : decode cL_law 144 = .ok (.aload_n 1, 1) := by decide +kernel
theorem dL_law_145 : decode cL_law 145 = .ok (.aload_n 0, 1) := by decide +kernel
theorem dL_law_146 : decode cL_law 146 = .ok (.iload 4, 2) := by decide +kernel
theorem dL_law_148 : decode cL_law 148 = .ok (.iconst 1, 1) := by decide +kernel
theorem dL_law_149 : decode cL_law 149 = .ok (.iadd, 1) := by decide +kernel
theorem dL_law_150 : decode cL_law 150 = .ok (.iaload, 1) := by decide +kernel
theorem dL_law_151 : decode cL_law 151 = .ok (.aload_n 0, 1) := by decide +kernel
theorem dL_law_152 : decode cL_law 152 = .ok (.iload 4, 2) := by decide +kernel
theorem dL_law_154 : decode cL_law 154 = .ok (.iconst 2, 1) := by decide +kernel
theorem dL_law_155 : decode cL_law 155 = .ok (.iadd, 1) := by decide +kernel
theorem dL_law_156 : decode cL_law 156 = .ok (.iaload, 1) := by decide +kernel
theorem dL_law_157 : decode cL_law 157 = .ok (.aload_n 0, 1) := by decide +kernel
theorem dL_law_158 : decode cL_law 158 = .ok (.iload 4, 2) := by decide +kernel
theorem dL_law_160 : decode cL_law 160 = .ok (.iconst 3, 1) := by decide +kernel
theorem dL_law_161 : decode cL_law 161 = .ok (.iadd, 1) := by decide +kernel
theorem dL_law_162 : decode cL_law 162 = .ok (.iaload, 1) := by decide +kernel
theorem dL_law_163 : decode cL_law 163 = .ok (.aload_n 0, 1) := by decide +kernel
theorem dL_law_164 : decode cL_law 164 = .ok (.iload 4, 2) := by decide +kernel
theorem dL_law_166 : decode cL_law 166 = .ok (.iconst 4, 1) := by decide +kernel
theorem dL_law_167 : decode cL_law 167 = .ok (.iadd, 1) := by decide +kernel
theorem dL_law_168 : decode cL_law 168 = .ok (.iaload, 1) := by decide +kernel
theorem dL_law_169 : decode cL_law 169 = .ok (.aload_n 0, 1) := by decide +kernel
theorem dL_law_170 : decode cL_law 170 = .ok (.iload 4, 2) := by decide +kernel
theorem dL_law_172 : decode cL_law 172 = .ok (.iconst 5, 1) := by decide +kernel
theorem dL_law_173 : decode cL_law 173 = .ok (.iadd, 1) := by decide +kernel
theorem dL_law_174 : decode cL_law 174 = .ok (.iaload, 1) := by decide +kernel
theorem dL_law_175 : decode cL_law 175 = .ok (.invokevirtual 23, 3) := by decide +kernel
theorem dL_law_178 : decode cL_law 178 = .ok (.aload_n 2, 1) := by decide +kernel
theorem dL_law_179 : decode cL_law 179 = .ok (.aload_n 0, 1) := by decide +kernel
theorem dL_law_180 : decode cL_law 180 = .ok (.iload 4, 2) := by decide +kernel
theorem dL_law_182 : decode cL_law 182 = .ok (.iconst 1, 1) := by decide +kernel
theorem dL_law_183 : decode cL_law 183 = .ok (.iadd, 1) := by decide +kernel
theorem dL_law_184 : decode cL_law 184 = .ok (.iaload, 1) := by decide +kernel
theorem dL_law_185 : decode cL_law 185 = .ok (.aload_n 0, 1) := by decide +kernel
theorem dL_law_186 : decode cL_law 186 = .ok (.iload 4, 2) := by decide +kernel
theorem dL_law_188 : decode cL_law 188 = .ok (.iconst 2, 1) := by decide +kernel
theorem dL_law_189 : decode cL_law 189 = .ok (.iadd, 1) := by decide +kernel
theorem dL_law_190 : decode cL_law 190 = .ok (.iaload, 1) := by decide +kernel
theorem dL_law_191 : decode cL_law 191 = .ok (.aload_n 0, 1) := by decide +kernel
theorem dL_law_192 : decode cL_law 192 = .ok (.iload 4, 2) := by decide +kernel
theorem dL_law_194 : decode cL_law 194 = .ok (.iconst 3, 1) := by decide +kernel
theorem dL_law_195 : decode cL_law 195 = .ok (.iadd, 1) := by decide +kernel
theorem dL_law_196 : decode cL_law 196 = .ok (.iaload, 1) := by decide +kernel
theorem dL_law_197 : decode cL_law 197 = .ok (.aload_n 0, 1) := by decide +kernel
theorem dL_law_198 : decode cL_law 198 = .ok (.iload 4, 2) := by decide +kernel
theorem dL_law_200 : decode cL_law 200 = .ok (.iconst 4, 1) := by decide +kernel
theorem dL_law_201 : decode cL_law 201 = .ok (.iadd, 1) := by decide +kernel
theorem dL_law_202 : decode cL_law 202 = .ok (.iaload, 1) := by decide +kernel
theorem dL_law_203 : decode cL_law 203 = .ok (.aload_n 0, 1) := by decide +kernel
theorem dL_law_204 : decode cL_law 204 = .ok (.iload 4, 2) := by decide +kernel
theorem dL_law_206 : decode cL_law 206 = .ok (.iconst 5, 1) := by decide +kernel
theorem dL_law_207 : decode cL_law 207 = .ok (.iadd, 1) := by decide +kernel
theorem dL_law_208 : decode cL_law 208 = .ok (.iaload, 1) := by decide +kernel
theorem dL_law_209 : decode cL_law 209 = .ok (.invokevirtual 27, 3) := by decide +kernel
theorem dL_law_212 : decode cL_law 212 = .ok (.if_icmp .eq 1060, 3) := by decide +kernel
theorem dL_law_215 : decode cL_law 215 = .ok (.iconst 0, 1) := by decide +kernel
theorem dL_law_216 : decode cL_law 216 = .ok (.ireturn, 1) := by decide +kernel
theorem dL_law_217 : decode cL_law 217 = .ok (.aload_n 1, 1) := by decide +kernel
theorem dL_law_218 : decode cL_law 218 = .ok (.aload_n 0, 1) := by decide +kernel
theorem dL_law_219 : decode cL_law 219 = .ok (.iload 4, 2) := by decide +kernel
theorem dL_law_221 : decode cL_law 221 = .ok (.iconst 1, 1) := by decide +kernel
theorem dL_law_222 : decode cL_law 222 = .ok (.iadd, 1) := by decide +kernel
theorem dL_law_223 : decode cL_law 223 = .ok (.iaload, 1) := by decide +kernel
theorem dL_law_224 : decode cL_law 224 = .ok (.invokevirtual 28, 3) := by decide +kernel
theorem dL_law_227 : decode cL_law 227 = .ok (.aload_n 2, 1) := by decide +kernel
theorem dL_law_228 : decode cL_law 228 = .ok (.aload_n 0, 1) := by decide +kernel
theorem dL_law_229 : decode cL_law 229 = .ok (.iload 4, 2) := by decide +kernel
theorem dL_law_231 : decode cL_law 231 = .ok (.iconst 1, 1) := by decide +kernel
theorem dL_law_232 : decode cL_law 232 = .ok (.iadd, 1) := by decide +kernel
theorem dL_law_233 : decode cL_law 233 = .ok (.iaload, 1) := by decide +kernel
theorem dL_law_234 : decode cL_law 234 = .ok (.invokevirtual 32, 3) := by decide +kernel
theorem dL_law_237 : decode cL_law 237 = .ok (.if_icmp .eq 1035, 3) := by decide +kernel
theorem dL_law_240 : decode cL_law 240 = .ok (.iconst 0, 1) := by decide +kernel
theorem dL_law_241 : decode cL_law 241 = .ok (.ireturn, 1) := by decide +kernel
theorem dL_law_242 : decode cL_law 242 = .ok (.aload_n 1, 1) := by decide +kernel
theorem dL_law_243 : decode cL_law 243 = .ok (.aload_n 0, 1) := by decide +kernel
theorem dL_law_244 : decode cL_law 244 = .ok (.iload 4, 2) := by decide +kernel
theorem dL_law_246 : decode cL_law 246 = .ok (.iconst 1, 1) := by decide +kernel
theorem dL_law_247 : decode cL_law 247 = .ok (.iadd, 1) := by decide +kernel
theorem dL_law_248 : decode cL_law 248 = .ok (.iaload, 1) := by decide +kernel
theorem dL_law_249 : decode cL_law 249 = .ok (.invokevirtual 33, 3) := by decide +kernel
theorem dL_law_252 : decode cL_law 252 = .ok (.aload_n 2, 1) := by decide +kernel
theorem dL_law_253 : decode cL_law 253 = .ok (.aload_n 0, 1) := by decide +kernel
theorem dL_law_254 : decode cL_law 254 = .ok (.iload 4, 2) := by decide +kernel
theorem dL_law_256 : decode cL_law 256 = .ok (.iconst 1, 1) := by decide +kernel
theorem dL_law_257 : decode cL_law 257 = .ok (.iadd, 1) := by decide +kernel
theorem dL_law_258 : decode cL_law 258 = .ok (.iaload, 1) := by decide +kernel
theorem dL_law_259 : decode cL_law 259 = .ok (.invokevirtual 36, 3) := by decide +kernel
theorem dL_law_262 : decode cL_law 262 = .ok (.if_icmp .eq 1010, 3) := by decide +kernel
theorem dL_law_265 : decode cL_law 265 = .ok (.iconst 0, 1) := by decide +kernel
theorem dL_law_266 : decode cL_law 266 = .ok (.ireturn, 1) := by decide +kernel
theorem dL_law_267 : decode cL_law 267 = .ok (.aload_n 1, 1) := by decide +kernel
theorem dL_law_268 : decode cL_law 268 = .ok (.aload_n 0, 1) := by decide +kernel
theorem dL_law_269 : decode cL_law 269 = .ok (.iload 4, 2) := by decide +kernel
theorem dL_law_271 : decode cL_law 271 = .ok (.iconst 1, 1) := by decide +kernel
theorem dL_law_272 : decode cL_law 272 = .ok (.iadd, 1) := by decide +kernel
theorem dL_law_273 : decode cL_law 273 = .ok (.iaload, 1) := by decide +kernel
theorem dL_law_274 : decode cL_law 274 = .ok (.aload_n 0, 1) := by decide +kernel
theorem dL_law_275 : decode cL_law 275 = .ok (.iload 4, 2) := by decide +kernel
theorem dL_law_277 : decode cL_law 277 = .ok (.iconst 2, 1) := by decide +kernel
theorem dL_law_278 : decode cL_law 278 = .ok (.iadd, 1) := by decide +kernel
theorem dL_law_279 : decode cL_law 279 = .ok (.iaload, 1) := by decide +kernel
theorem dL_law_280 : decode cL_law 280 = .ok (.aload_n 3, 1) := by decide +kernel
theorem dL_law_281 : decode cL_law 281 = .ok (.invokestatic 37, 3) := by decide +kernel
theorem dL_law_284 : decode cL_law 284 = .ok (.istore 5, 2) := by decide +kernel
theorem dL_law_286 : decode cL_law 286 = .ok (.aload_n 2, 1) := by decide +kernel
theorem dL_law_287 : decode cL_law 287 = .ok (.aload_n 0, 1) := by decide +kernel
theorem dL_law_288 : decode cL_law 288 = .ok (.iload 4, 2) := by decide +kernel
theorem dL_law_290 : decode cL_law 290 = .ok (.iconst 1, 1) := by decide +kernel
theorem dL_law_291 : decode cL_law 291 = .ok (.iadd, 1) := by decide +kernel
theorem dL_law_292 : decode cL_law 292 = .ok (.iaload, 1) := by decide +kernel
theorem dL_law_293 : decode cL_law 293 = .ok (.aload_n 0, 1) := by decide +kernel
theorem dL_law_294 : decode cL_law 294 = .ok (.iload 4, 2) := by decide +kernel
theorem dL_law_296 : decode cL_law 296 = .ok (.iconst 2, 1) := by decide +kernel
theorem dL_law_297 : decode cL_law 297 = .ok (.iadd, 1) := by decide +kernel
theorem dL_law_298 : decode cL_law 298 = .ok (.iaload, 1) := by decide +kernel
theorem dL_law_299 : decode cL_law 299 = .ok (.invokevirtual 42, 3) := by decide +kernel
theorem dL_law_302 : decode cL_law 302 = .ok (.istore 6, 2) := by decide +kernel
theorem dL_law_304 : decode cL_law 304 = .ok (.aload_n 2, 1) := by decide +kernel
theorem dL_law_305 : decode cL_law 305 = .ok (.invokevirtual 43, 3) := by decide +kernel
theorem dL_law_308 : decode cL_law 308 = .ok (.iload 5, 2) := by decide +kernel
theorem dL_law_310 : decode cL_law 310 = .ok (.if_icmp .eq 5, 3) := by decide +kernel
theorem dL_law_313 : decode cL_law 313 = .ok (.iconst 0, 1) := by decide +kernel
theorem dL_law_314 : decode cL_law 314 = .ok (.ireturn, 1) := by decide +kernel
theorem dL_law_315 : decode cL_law 315 = .ok (.iload 5, 2) := by decide +kernel
theorem dL_law_317 : decode cL_law 317 = .ok (.ifCond .ne 15, 3) := by decide +kernel
theorem dL_law_320 : decode cL_law 320 = .ok (.aload_n 3, 1) := by decide +kernel
theorem dL_law_321 : decode cL_law 321 = .ok (.iconst 0, 1) := by decide +kernel
theorem dL_law_322 : decode cL_law 322 = .ok (.laload, 1) := by decide +kernel
theorem dL_law_323 : decode cL_law 323 = .ok (.iload 6, 2) := by decide +kernel
theorem dL_law_325 : decode cL_law 325 = .ok (.i2l, 1) := by decide +kernel
theorem dL_law_326 : decode cL_law 326 = .ok (.lcmp, 1) := by decide +kernel
theorem dL_law_327 : decode cL_law 327 = .ok (.ifCond .eq 5, 3) := by decide +kernel
theorem dL_law_330 : decode cL_law 330 = .ok (.iconst 0, 1) := by decide +kernel
theorem dL_law_331 : decode cL_law 331 = .ok (.ireturn, 1) := by decide +kernel
theorem dL_law_332 : decode cL_law 332 = .ok (.goto 940, 3) := by decide +kernel
theorem dL_law_335 : decode cL_law 335 = .ok (.aload_n 1, 1) := by decide +kernel
theorem dL_law_336 : decode cL_law 336 = .ok (.aload_n 0, 1) := by decide +kernel
theorem dL_law_337 : decode cL_law 337 = .ok (.iload 4, 2) := by decide +kernel
theorem dL_law_339 : decode cL_law 339 = .ok (.iconst 1, 1) := by decide +kernel
theorem dL_law_340 : decode cL_law 340 = .ok (.iadd, 1) := by decide +kernel
theorem dL_law_341 : decode cL_law 341 = .ok (.iaload, 1) := by decide +kernel
theorem dL_law_342 : decode cL_law 342 = .ok (.aload_n 0, 1) := by decide +kernel
theorem dL_law_343 : decode cL_law 343 = .ok (.iload 4, 2) := by decide +kernel
theorem dL_law_345 : decode cL_law 345 = .ok (.iconst 2, 1) := by decide +kernel
theorem dL_law_346 : decode cL_law 346 = .ok (.iadd, 1) := by decide +kernel
theorem dL_law_347 : decode cL_law 347 = .ok (.iaload, 1) := by decide +kernel
theorem dL_law_348 : decode cL_law 348 = .ok (.aload_n 0, 1) := by decide +kernel
theorem dL_law_349 : decode cL_law 349 = .ok (.iload 4, 2) := by decide +kernel
theorem dL_law_351 : decode cL_law 351 = .ok (.iconst 3, 1) := by decide +kernel
theorem dL_law_352 : decode cL_law 352 = .ok (.iadd, 1) := by decide +kernel
theorem dL_law_353 : decode cL_law 353 = .ok (.iaload, 1) := by decide +kernel
theorem dL_law_354 : decode cL_law 354 = .ok (.ifCond .eq 7, 3) := by decide +kernel
theorem dL_law_357 : decode cL_law 357 = .ok (.iconst 1, 1) := by decide +kernel
theorem dL_law_358 : decode cL_law 358 = .ok (.goto 4, 3) := by decide +kernel
theorem dL_law_361 : decode cL_law 361 = .ok (.iconst 0, 1) := by decide +kernel
theorem dL_law_362 : decode cL_law 362 = .ok (.invokevirtual 47, 3) := by decide +kernel
theorem dL_law_365 : decode cL_law 365 = .ok (.aload_n 2, 1) := by decide +kernel
theorem dL_law_366 : decode cL_law 366 = .ok (.aload_n 0, 1) := by decide +kernel
theorem dL_law_367 : decode cL_law 367 = .ok (.iload 4, 2) := by decide +kernel
theorem dL_law_369 : decode cL_law 369 = .ok (.iconst 1, 1) := by decide +kernel
theorem dL_law_370 : decode cL_law 370 = .ok (.iadd, 1) := by decide +kernel
theorem dL_law_371 : decode cL_law 371 = .ok (.iaload, 1) := by decide +kernel
theorem dL_law_372 : decode cL_law 372 = .ok (.aload_n 0, 1) := by decide +kernel
theorem dL_law_373 : decode cL_law 373 = .ok (.iload 4, 2) := by decide +kernel
theorem dL_law_375 : decode cL_law 375 = .ok (.iconst 2, 1) := by decide +kernel
theorem dL_law_376 : decode cL_law 376 = .ok (.iadd, 1) := by decide +kernel
theorem dL_law_377 : decode cL_law 377 = .ok (.iaload, 1) := by decide +kernel
theorem dL_law_378 : decode cL_law 378 = .ok (.aload_n 0, 1) := by decide +kernel
theorem dL_law_379 : decode cL_law 379 = .ok (.iload 4, 2) := by decide +kernel
theorem dL_law_381 : decode cL_law 381 = .ok (.iconst 3, 1) := by decide +kernel
theorem dL_law_382 : decode cL_law 382 = .ok (.iadd, 1) := by decide +kernel
theorem dL_law_383 : decode cL_law 383 = .ok (.iaload, 1) := by decide +kernel
theorem dL_law_384 : decode cL_law 384 = .ok (.ifCond .eq 7, 3) := by decide +kernel
theorem dL_law_387 : decode cL_law 387 = .ok (.iconst 1, 1) := by decide +kernel
theorem dL_law_388 : decode cL_law 388 = .ok (.goto 4, 3) := by decide +kernel
theorem dL_law_391 : decode cL_law 391 = .ok (.iconst 0, 1) := by decide +kernel
theorem dL_law_392 : decode cL_law 392 = .ok (.invokevirtual 51, 3) := by decide +kernel
theorem dL_law_395 : decode cL_law 395 = .ok (.if_icmp .eq 877, 3) := by decide +kernel
theorem dL_law_398 : decode cL_law 398 = .ok (.iconst 0, 1) := by decide +kernel
theorem dL_law_399 : decode cL_law 399 = .ok (.ireturn, 1) := by decide +kernel
theorem dL_law_400 : decode cL_law 400 = .ok (.aload_n 1, 1) := by decide +kernel
theorem dL_law_401 : decode cL_law 401 = .ok (.aload_n 0, 1) := by decide +kernel
theorem dL_law_402 : decode cL_law 402 = .ok (.iload 4, 2) := by decide +kernel
theorem dL_law_404 : decode cL_law 404 = .ok (.iconst 1, 1) := by decide +kernel
theorem dL_law_405 : decode cL_law 405 = .ok (.iadd, 1) := by decide +kernel
theorem dL_law_406 : decode cL_law 406 = .ok (.iaload, 1) := by decide +kernel
theorem dL_law_407 : decode cL_law 407 = .ok (.aload_n 0, 1) := by decide +kernel
theorem dL_law_408 : decode cL_law 408 = .ok (.iload 4, 2) := by decide +kernel
theorem dL_law_410 : decode cL_law 410 = .ok (.iconst 2, 1) := by decide +kernel
theorem dL_law_411 : decode cL_law 411 = .ok (.iadd, 1) := by decide +kernel
theorem dL_law_412 : decode cL_law 412 = .ok (.iaload, 1) := by decide +kernel
theorem dL_law_413 : decode cL_law 413 = .ok (.invokevirtual 52, 3) := by decide +kernel
theorem dL_law_416 : decode cL_law 416 = .ok (.aload_n 2, 1) := by decide +kernel
theorem dL_law_417 : decode cL_law 417 = .ok (.aload_n 0, 1) := by decide +kernel
theorem dL_law_418 : decode cL_law 418 = .ok (.iload 4, 2) := by decide +kernel
theorem dL_law_420 : decode cL_law 420 = .ok (.iconst 1, 1) := by decide +kernel
theorem dL_law_421 : decode cL_law 421 = .ok (.iadd, 1) := by decide +kernel
theorem dL_law_422 : decode cL_law 422 = .ok (.iaload, 1) := by decide +kernel
theorem dL_law_423 : decode cL_law 423 = .ok (.aload_n 0, 1) := by decide +kernel
theorem dL_law_424 : decode cL_law 424 = .ok (.iload 4, 2) := by decide +kernel
theorem dL_law_426 : decode cL_law 426 = .ok (.iconst 2, 1) := by decide +kernel
theorem dL_law_427 : decode cL_law 427 = .ok (.iadd, 1) := by decide +kernel
theorem dL_law_428 : decode cL_law 428 = .ok (.iaload, 1) := by decide +kernel
theorem dL_law_429 : decode cL_law 429 = .ok (.invokevirtual 55, 3) := by decide +kernel
theorem dL_law_432 : decode cL_law 432 = .ok (.if_icmp .eq 840, 3) := by decide +kernel
theorem dL_law_435 : decode cL_law 435 = .ok (.iconst 0, 1) := by decide +kernel
theorem dL_law_436 : decode cL_law 436 = .ok (.ireturn, 1) := by decide +kernel
theorem dL_law_437 : decode cL_law 437 = .ok (.aload_n 1, 1) := by decide +kernel
theorem dL_law_438 : decode cL_law 438 = .ok (.aload_n 0, 1) := by decide +kernel
theorem dL_law_439 : decode cL_law 439 = .ok (.iload 4, 2) := by decide +kernel
theorem dL_law_441 : decode cL_law 441 = .ok (.iconst 1, 1) := by decide +kernel
theorem dL_law_442 : decode cL_law 442 = .ok (.iadd, 1) := by decide +kernel
theorem dL_law_443 : decode cL_law 443 = .ok (.iaload, 1) := by decide +kernel
theorem dL_law_444 : decode cL_law 444 = .ok (.aload_n 0, 1) := by decide +kernel
theorem dL_law_445 : decode cL_law 445 = .ok (.iload 4, 2) := by decide +kernel
theorem dL_law_447 : decode cL_law 447 = .ok (.iconst 2, 1) := by decide +kernel
theorem dL_law_448 : decode cL_law 448 = .ok (.iadd, 1) := by decide +kernel
theorem dL_law_449 : decode cL_law 449 = .ok (.iaload, 1) := by decide +kernel
theorem dL_law_450 : decode cL_law 450 = .ok (.aload_n 0, 1) := by decide +kernel
theorem dL_law_451 : decode cL_law 451 = .ok (.iload 4, 2) := by decide +kernel
theorem dL_law_453 : decode cL_law 453 = .ok (.iconst 3, 1) := by decide +kernel
theorem dL_law_454 : decode cL_law 454 = .ok (.iadd, 1) := by decide +kernel
theorem dL_law_455 : decode cL_law 455 = .ok (.iaload, 1) := by decide +kernel
theorem dL_law_456 : decode cL_law 456 = .ok (.aload_n 0, 1) := by decide +kernel
theorem dL_law_457 : decode cL_law 457 = .ok (.iload 4, 2) := by decide +kernel
theorem dL_law_459 : decode cL_law 459 = .ok (.iconst 4, 1) := by decide +kernel
theorem dL_law_460 : decode cL_law 460 = .ok (.iadd, 1) := by decide +kernel
theorem dL_law_461 : decode cL_law 461 = .ok (.iaload, 1) := by decide +kernel
theorem dL_law_462 : decode cL_law 462 = .ok (.aload_n 0, 1) := by decide +kernel
theorem dL_law_463 : decode cL_law 463 = .ok (.iload 4, 2) := by decide +kernel
theorem dL_law_465 : decode cL_law 465 = .ok (.iconst 5, 1) := by decide +kernel
theorem dL_law_466 : decode cL_law 466 = .ok (.iadd, 1) := by decide +kernel
theorem dL_law_467 : decode cL_law 467 = .ok (.iaload, 1) := by decide +kernel
theorem dL_law_468 : decode cL_law 468 = .ok (.ifCond .eq 7, 3) := by decide +kernel
theorem dL_law_471 : decode cL_law 471 = .ok (.iconst 1, 1) := by decide +kernel
theorem dL_law_472 : decode cL_law 472 = .ok (.goto 4, 3) := by decide +kernel
theorem dL_law_475 : decode cL_law 475 = .ok (.iconst 0, 1) := by decide +kernel
theorem dL_law_476 : decode cL_law 476 = .ok (.invokevirtual 56, 3) := by decide +kernel
theorem dL_law_479 : decode cL_law 479 = .ok (.aload_n 2, 1) := by decide +kernel
theorem dL_law_480 : decode cL_law 480 = .ok (.aload_n 0, 1) := by decide +kernel
theorem dL_law_481 : decode cL_law 481 = .ok (.iload 4, 2) := by decide +kernel
theorem dL_law_483 : decode cL_law 483 = .ok (.iconst 1, 1) := by decide +kernel
theorem dL_law_484 : decode cL_law 484 = .ok (.iadd, 1) := by decide +kernel
theorem dL_law_485 : decode cL_law 485 = .ok (.iaload, 1) := by decide +kernel
theorem dL_law_486 : decode cL_law 486 = .ok (.aload_n 0, 1) := by decide +kernel
theorem dL_law_487 : decode cL_law 487 = .ok (.iload 4, 2) := by decide +kernel
theorem dL_law_489 : decode cL_law 489 = .ok (.iconst 2, 1) := by decide +kernel
theorem dL_law_490 : decode cL_law 490 = .ok (.iadd, 1) := by decide +kernel
theorem dL_law_491 : decode cL_law 491 = .ok (.iaload, 1) := by decide +kernel
theorem dL_law_492 : decode cL_law 492 = .ok (.aload_n 0, 1) := by decide +kernel
theorem dL_law_493 : decode cL_law 493 = .ok (.iload 4, 2) := by decide +kernel
theorem dL_law_495 : decode cL_law 495 = .ok (.iconst 3, 1) := by decide +kernel
theorem dL_law_496 : decode cL_law 496 = .ok (.iadd, 1) := by decide +kernel
theorem dL_law_497 : decode cL_law 497 = .ok (.iaload, 1) := by decide +kernel
theorem dL_law_498 : decode cL_law 498 = .ok (.aload_n 0, 1) := by decide +kernel
theorem dL_law_499 : decode cL_law 499 = .ok (.iload 4, 2) := by decide +kernel
theorem dL_law_501 : decode cL_law 501 = .ok (.iconst 4, 1) := by decide +kernel
theorem dL_law_502 : decode cL_law 502 = .ok (.iadd, 1) := by decide +kernel
theorem dL_law_503 : decode cL_law 503 = .ok (.iaload, 1) := by decide +kernel
theorem dL_law_504 : decode cL_law 504 = .ok (.aload_n 0, 1) := by decide +kernel
theorem dL_law_505 : decode cL_law 505 = .ok (.iload 4, 2) := by decide +kernel
theorem dL_law_507 : decode cL_law 507 = .ok (.iconst 5, 1) := by decide +kernel
theorem dL_law_508 : decode cL_law 508 = .ok (.iadd, 1) := by decide +kernel
theorem dL_law_509 : decode cL_law 509 = .ok (.iaload, 1) := by decide +kernel
theorem dL_law_510 : decode cL_law 510 = .ok (.ifCond .eq 7, 3) := by decide +kernel
theorem dL_law_513 : decode cL_law 513 = .ok (.iconst 1, 1) := by decide +kernel
theorem dL_law_514 : decode cL_law 514 = .ok (.goto 4, 3) := by decide +kernel
theorem dL_law_517 : decode cL_law 517 = .ok (.iconst 0, 1) := by decide +kernel
theorem dL_law_518 : decode cL_law 518 = .ok (.invokevirtual 60, 3) := by decide +kernel
theorem dL_law_521 : decode cL_law 521 = .ok (.if_icmp .eq 751, 3) := by decide +kernel
theorem dL_law_524 : decode cL_law 524 = .ok (.iconst 0, 1) := by decide +kernel
theorem dL_law_525 : decode cL_law 525 = .ok (.ireturn, 1) := by decide +kernel
theorem dL_law_526 : decode cL_law 526 = .ok (.aload_n 1, 1) := by decide +kernel
theorem dL_law_527 : decode cL_law 527 = .ok (.aload_n 0, 1) := by decide +kernel
theorem dL_law_528 : decode cL_law 528 = .ok (.iload 4, 2) := by decide +kernel
theorem dL_law_530 : decode cL_law 530 = .ok (.iconst 1, 1) := by decide +kernel
theorem dL_law_531 : decode cL_law 531 = .ok (.iadd, 1) := by decide +kernel
theorem dL_law_532 : decode cL_law 532 = .ok (.iaload, 1) := by decide +kernel
theorem dL_law_533 : decode cL_law 533 = .ok (.aload_n 0, 1) := by decide +kernel
theorem dL_law_534 : decode cL_law 534 = .ok (.iload 4, 2) := by decide +kernel
theorem dL_law_536 : decode cL_law 536 = .ok (.iconst 2, 1) := by decide +kernel
theorem dL_law_537 : decode cL_law 537 = .ok (.iadd, 1) := by decide +kernel
theorem dL_law_538 : decode cL_law 538 = .ok (.iaload, 1) := by decide +kernel
theorem dL_law_539 : decode cL_law 539 = .ok (.aload_n 0, 1) := by decide +kernel
theorem dL_law_540 : decode cL_law 540 = .ok (.iload 4, 2) := by decide +kernel
theorem dL_law_542 : decode cL_law 542 = .ok (.iconst 3, 1) := by decide +kernel
theorem dL_law_543 : decode cL_law 543 = .ok (.iadd, 1) := by decide +kernel
theorem dL_law_544 : decode cL_law 544 = .ok (.iaload, 1) := by decide +kernel
theorem dL_law_545 : decode cL_law 545 = .ok (.aload_n 0, 1) := by decide +kernel
theorem dL_law_546 : decode cL_law 546 = .ok (.iload 4, 2) := by decide +kernel
theorem dL_law_548 : decode cL_law 548 = .ok (.iconst 4, 1) := by decide +kernel
theorem dL_law_549 : decode cL_law 549 = .ok (.iadd, 1) := by decide +kernel
theorem dL_law_550 : decode cL_law 550 = .ok (.iaload, 1) := by decide +kernel
theorem dL_law_551 : decode cL_law 551 = .ok (.ifCond .eq 7, 3) := by decide +kernel
theorem dL_law_554 : decode cL_law 554 = .ok (.iconst 1, 1) := by decide +kernel
theorem dL_law_555 : decode cL_law 555 = .ok (.goto 4, 3) := by decide +kernel
theorem dL_law_558 : decode cL_law 558 = .ok (.iconst 0, 1) := by decide +kernel
theorem dL_law_559 : decode cL_law 559 = .ok (.invokevirtual 61, 3) := by decide +kernel
theorem dL_law_562 : decode cL_law 562 = .ok (.aload_n 2, 1) := by decide +kernel
theorem dL_law_563 : decode cL_law 563 = .ok (.aload_n 0, 1) := by decide +kernel
theorem dL_law_564 : decode cL_law 564 = .ok (.iload 4, 2) := by decide +kernel
theorem dL_law_566 : decode cL_law 566 = .ok (.iconst 1, 1) := by decide +kernel
theorem dL_law_567 : decode cL_law 567 = .ok (.iadd, 1) := by decide +kernel
theorem dL_law_568 : decode cL_law 568 = .ok (.iaload, 1) := by decide +kernel
theorem dL_law_569 : decode cL_law 569 = .ok (.aload_n 0, 1) := by decide +kernel
theorem dL_law_570 : decode cL_law 570 = .ok (.iload 4, 2) := by decide +kernel
theorem dL_law_572 : decode cL_law 572 = .ok (.iconst 2, 1) := by decide +kernel
theorem dL_law_573 : decode cL_law 573 = .ok (.iadd, 1) := by decide +kernel
theorem dL_law_574 : decode cL_law 574 = .ok (.iaload, 1) := by decide +kernel
theorem dL_law_575 : decode cL_law 575 = .ok (.aload_n 0, 1) := by decide +kernel
theorem dL_law_576 : decode cL_law 576 = .ok (.iload 4, 2) := by decide +kernel
theorem dL_law_578 : decode cL_law 578 = .ok (.iconst 3, 1) := by decide +kernel
theorem dL_law_579 : decode cL_law 579 = .ok (.iadd, 1) := by decide +kernel
theorem dL_law_580 : decode cL_law 580 = .ok (.iaload, 1) := by decide +kernel
theorem dL_law_581 : decode cL_law 581 = .ok (.aload_n 0, 1) := by decide +kernel
theorem dL_law_582 : decode cL_law 582 = .ok (.iload 4, 2) := by decide +kernel
theorem dL_law_584 : decode cL_law 584 = .ok (.iconst 4, 1) := by decide +kernel
theorem dL_law_585 : decode cL_law 585 = .ok (.iadd, 1) := by decide +kernel
theorem dL_law_586 : decode cL_law 586 = .ok (.iaload, 1) := by decide +kernel
theorem dL_law_587 : decode cL_law 587 = .ok (.ifCond .eq 7, 3) := by decide +kernel
theorem dL_law_590 : decode cL_law 590 = .ok (.iconst 1, 1) := by decide +kernel
theorem dL_law_591 : decode cL_law 591 = .ok (.goto 4, 3) := by decide +kernel
theorem dL_law_594 : decode cL_law 594 = .ok (.iconst 0, 1) := by decide +kernel
theorem dL_law_595 : decode cL_law 595 = .ok (.invokevirtual 65, 3) := by decide +kernel
theorem dL_law_598 : decode cL_law 598 = .ok (.if_icmp .eq 674, 3) := by decide +kernel
theorem dL_law_601 : decode cL_law 601 = .ok (.iconst 0, 1) := by decide +kernel
theorem dL_law_602 : decode cL_law 602 = .ok (.ireturn, 1) := by decide +kernel
theorem dL_law_603 : decode cL_law 603 = .ok (.aload_n 1, 1) := by decide +kernel
theorem dL_law_604 : decode cL_law 604 = .ok (.invokevirtual 66, 3) := by decide +kernel
theorem dL_law_607 : decode cL_law 607 = .ok (.aload_n 2, 1) := by decide +kernel
theorem dL_law_608 : decode cL_law 608 = .ok (.invokevirtual 69, 3) := by decide +kernel
theorem dL_law_611 : decode cL_law 611 = .ok (.if_icmp .eq 661, 3) := by decide +kernel
theorem dL_law_614 : decode cL_law 614 = .ok (.iconst 0, 1) := by decide +kernel
theorem dL_law_615 : decode cL_law 615 = .ok (.ireturn, 1) := by decide +kernel
theorem dL_law_616 : decode cL_law 616 = .ok (.aload_n 1, 1) := by decide +kernel
theorem dL_law_617 : decode cL_law 617 = .ok (.aload_n 0, 1) := by decide +kernel
theorem dL_law_618 : decode cL_law 618 = .ok (.iload 4, 2) := by decide +kernel
theorem dL_law_620 : decode cL_law 620 = .ok (.iconst 1, 1) := by decide +kernel
theorem dL_law_621 : decode cL_law 621 = .ok (.iadd, 1) := by decide +kernel
theorem dL_law_622 : decode cL_law 622 = .ok (.iaload, 1) := by decide +kernel
theorem dL_law_623 : decode cL_law 623 = .ok (.aload_n 0, 1) := by decide +kernel
theorem dL_law_624 : decode cL_law 624 = .ok (.iload 4, 2) := by decide +kernel
theorem dL_law_626 : decode cL_law 626 = .ok (.iconst 2, 1) := by decide +kernel
theorem dL_law_627 : decode cL_law 627 = .ok (.iadd, 1) := by decide +kernel
theorem dL_law_628 : decode cL_law 628 = .ok (.iaload, 1) := by decide +kernel
theorem dL_law_629 : decode cL_law 629 = .ok (.aload_n 0, 1) := by decide +kernel
theorem dL_law_630 : decode cL_law 630 = .ok (.iload 4, 2) := by decide +kernel
theorem dL_law_632 : decode cL_law 632 = .ok (.iconst 3, 1) := by decide +kernel
theorem dL_law_633 : decode cL_law 633 = .ok (.iadd, 1) := by decide +kernel
theorem dL_law_634 : decode cL_law 634 = .ok (.iaload, 1) := by decide +kernel
theorem dL_law_635 : decode cL_law 635 = .ok (.invokevirtual 70, 3) := by decide +kernel
theorem dL_law_638 : decode cL_law 638 = .ok (.aload_n 2, 1) := by decide +kernel
theorem dL_law_639 : decode cL_law 639 = .ok (.aload_n 0, 1) := by decide +kernel
theorem dL_law_640 : decode cL_law 640 = .ok (.iload 4, 2) := by decide +kernel
theorem dL_law_642 : decode cL_law 642 = .ok (.iconst 1, 1) := by decide +kernel
theorem dL_law_643 : decode cL_law 643 = .ok (.iadd, 1) := by decide +kernel
theorem dL_law_644 : decode cL_law 644 = .ok (.iaload, 1) := by decide +kernel
theorem dL_law_645 : decode cL_law 645 = .ok (.aload_n 0, 1) := by decide +kernel
theorem dL_law_646 : decode cL_law 646 = .ok (.iload 4, 2) := by decide +kernel
theorem dL_law_648 : decode cL_law 648 = .ok (.iconst 2, 1) := by decide +kernel
theorem dL_law_649 : decode cL_law 649 = .ok (.iadd, 1) := by decide +kernel
theorem dL_law_650 : decode cL_law 650 = .ok (.iaload, 1) := by decide +kernel
theorem dL_law_651 : decode cL_law 651 = .ok (.aload_n 0, 1) := by decide +kernel
theorem dL_law_652 : decode cL_law 652 = .ok (.iload 4, 2) := by decide +kernel
theorem dL_law_654 : decode cL_law 654 = .ok (.iconst 3, 1) := by decide +kernel
theorem dL_law_655 : decode cL_law 655 = .ok (.iadd, 1) := by decide +kernel
theorem dL_law_656 : decode cL_law 656 = .ok (.iaload, 1) := by decide +kernel
theorem dL_law_657 : decode cL_law 657 = .ok (.invokevirtual 73, 3) := by decide +kernel
theorem dL_law_660 : decode cL_law 660 = .ok (.if_icmp .eq 612, 3) := by decide +kernel
theorem dL_law_663 : decode cL_law 663 = .ok (.iconst 0, 1) := by decide +kernel
theorem dL_law_664 : decode cL_law 664 = .ok (.ireturn, 1) := by decide +kernel
theorem dL_law_665 : decode cL_law 665 = .ok (.aload_n 1, 1) := by decide +kernel
theorem dL_law_666 : decode cL_law 666 = .ok (.aload_n 0, 1) := by decide +kernel
theorem dL_law_667 : decode cL_law 667 = .ok (.iload 4, 2) := by decide +kernel
theorem dL_law_669 : decode cL_law 669 = .ok (.iconst 1, 1) := by decide +kernel
theorem dL_law_670 : decode cL_law 670 = .ok (.iadd, 1) := by decide +kernel
theorem dL_law_671 : decode cL_law 671 = .ok (.iaload, 1) := by decide +kernel
theorem dL_law_672 : decode cL_law 672 = .ok (.aload_n 0, 1) := by decide +kernel
theorem dL_law_673 : decode cL_law 673 = .ok (.iload 4, 2) := by decide +kernel
theorem dL_law_675 : decode cL_law 675 = .ok (.iconst 2, 1) := by decide +kernel
theorem dL_law_676 : decode cL_law 676 = .ok (.iadd, 1) := by decide +kernel
theorem dL_law_677 : decode cL_law 677 = .ok (.iaload, 1) := by decide +kernel
theorem dL_law_678 : decode cL_law 678 = .ok (.aload_n 0, 1) := by decide +kernel
theorem dL_law_679 : decode cL_law 679 = .ok (.iload 4, 2) := by decide +kernel
theorem dL_law_681 : decode cL_law 681 = .ok (.iconst 3, 1) := by decide +kernel
theorem dL_law_682 : decode cL_law 682 = .ok (.iadd, 1) := by decide +kernel
theorem dL_law_683 : decode cL_law 683 = .ok (.iaload, 1) := by decide +kernel
theorem dL_law_684 : decode cL_law 684 = .ok (.invokevirtual 74, 3) := by decide +kernel
theorem dL_law_687 : decode cL_law 687 = .ok (.aload_n 2, 1) := by decide +kernel
theorem dL_law_688 : decode cL_law 688 = .ok (.aload_n 0, 1) := by decide +kernel
theorem dL_law_689 : decode cL_law 689 = .ok (.iload 4, 2) := by decide +kernel
theorem dL_law_691 : decode cL_law 691 = .ok (.iconst 1, 1) := by decide +kernel
theorem dL_law_692 : decode cL_law 692 = .ok (.iadd, 1) := by decide +kernel
theorem dL_law_693 : decode cL_law 693 = .ok (.iaload, 1) := by decide +kernel
theorem dL_law_694 : decode cL_law 694 = .ok (.aload_n 0, 1) := by decide +kernel
theorem dL_law_695 : decode cL_law 695 = .ok (.iload 4, 2) := by decide +kernel
theorem dL_law_697 : decode cL_law 697 = .ok (.iconst 2, 1) := by decide +kernel
theorem dL_law_698 : decode cL_law 698 = .ok (.iadd, 1) := by decide +kernel
theorem dL_law_699 : decode cL_law 699 = .ok (.iaload, 1) := by decide +kernel
theorem dL_law_700 : decode cL_law 700 = .ok (.aload_n 0, 1) := by decide +kernel
theorem dL_law_701 : decode cL_law 701 = .ok (.iload 4, 2) := by decide +kernel
theorem dL_law_703 : decode cL_law 703 = .ok (.iconst 3, 1) := by decide +kernel
theorem dL_law_704 : decode cL_law 704 = .ok (.iadd, 1) := by decide +kernel
theorem dL_law_705 : decode cL_law 705 = .ok (.iaload, 1) := by decide +kernel
theorem dL_law_706 : decode cL_law 706 = .ok (.invokevirtual 77, 3) := by decide +kernel
theorem dL_law_709 : decode cL_law 709 = .ok (.if_icmp .eq 563, 3) := by decide +kernel
theorem dL_law_712 : decode cL_law 712 = .ok (.iconst 0, 1) := by decide +kernel
theorem dL_law_713 : decode cL_law 713 = .ok (.ireturn, 1) := by decide +kernel
theorem dL_law_714 : decode cL_law 714 = .ok (.aload_n 1, 1) := by decide +kernel
theorem dL_law_715 : decode cL_law 715 = .ok (.aload_n 0, 1) := by decide +kernel
theorem dL_law_716 : decode cL_law 716 = .ok (.iload 4, 2) := by decide +kernel
theorem dL_law_718 : decode cL_law 718 = .ok (.iconst 1, 1) := by decide +kernel
theorem dL_law_719 : decode cL_law 719 = .ok (.iadd, 1) := by decide +kernel
theorem dL_law_720 : decode cL_law 720 = .ok (.iaload, 1) := by decide +kernel
theorem dL_law_721 : decode cL_law 721 = .ok (.aload_n 0, 1) := by decide +kernel
theorem dL_law_722 : decode cL_law 722 = .ok (.iload 4, 2) := by decide +kernel
theorem dL_law_724 : decode cL_law 724 = .ok (.iconst 2, 1) := by decide +kernel
theorem dL_law_725 : decode cL_law 725 = .ok (.iadd, 1) := by decide +kernel
theorem dL_law_726 : decode cL_law 726 = .ok (.iaload, 1) := by decide +kernel
theorem dL_law_727 : decode cL_law 727 = .ok (.aload_n 0, 1) := by decide +kernel
theorem dL_law_728 : decode cL_law 728 = .ok (.iload 4, 2) := by decide +kernel
theorem dL_law_730 : decode cL_law 730 = .ok (.iconst 3, 1) := by decide +kernel
theorem dL_law_731 : decode cL_law 731 = .ok (.iadd, 1) := by decide +kernel
theorem dL_law_732 : decode cL_law 732 = .ok (.iaload, 1) := by decide +kernel
theorem dL_law_733 : decode cL_law 733 = .ok (.aload_n 3, 1) := by decide +kernel
theorem dL_law_734 : decode cL_law 734 = .ok (.invokestatic 78, 3) := by decide +kernel
theorem dL_law_737 : decode cL_law 737 = .ok (.istore 5, 2) := by decide +kernel
theorem dL_law_739 : decode cL_law 739 = .ok (.aload_n 2, 1) := by decide +kernel
theorem dL_law_740 : decode cL_law 740 = .ok (.aload_n 0, 1) := by decide +kernel
theorem dL_law_741 : decode cL_law 741 = .ok (.iload 4, 2) := by decide +kernel
theorem dL_law_743 : decode cL_law 743 = .ok (.iconst 1, 1) := by decide +kernel
theorem dL_law_744 : decode cL_law 744 = .ok (.iadd, 1) := by decide +kernel
theorem dL_law_745 : decode cL_law 745 = .ok (.iaload, 1) := by decide +kernel
theorem dL_law_746 : decode cL_law 746 = .ok (.aload_n 0, 1) := by decide +kernel
theorem dL_law_747 : decode cL_law 747 = .ok (.iload 4, 2) := by decide +kernel
theorem dL_law_749 : decode cL_law 749 = .ok (.iconst 2, 1) := by decide +kernel
theorem dL_law_750 : decode cL_law 750 = .ok (.iadd, 1) := by decide +kernel
theorem dL_law_751 : decode cL_law 751 = .ok (.iaload, 1) := by decide +kernel
theorem dL_law_752 : decode cL_law 752 = .ok (.aload_n 0, 1) := by decide +kernel
theorem dL_law_753 : decode cL_law 753 = .ok (.iload 4, 2) := by decide +kernel
theorem dL_law_755 : decode cL_law 755 = .ok (.iconst 3, 1) := by decide +kernel
theorem dL_law_756 : decode cL_law 756 = .ok (.iadd, 1) := by decide +kernel
theorem dL_law_757 : decode cL_law 757 = .ok (.iaload, 1) := by decide +kernel
theorem dL_law_758 : decode cL_law 758 = .ok (.invokevirtual 81, 3) := by decide +kernel
theorem dL_law_761 : decode cL_law 761 = .ok (.istore 6, 2) := by decide +kernel
theorem dL_law_763 : decode cL_law 763 = .ok (.aload_n 2, 1) := by decide +kernel
theorem dL_law_764 : decode cL_law 764 = .ok (.invokevirtual 43, 3) := by decide +kernel
theorem dL_law_767 : decode cL_law 767 = .ok (.iload 5, 2) := by decide +kernel
theorem dL_law_769 : decode cL_law 769 = .ok (.if_icmp .eq 5, 3) := by decide +kernel
theorem dL_law_772 : decode cL_law 772 = .ok (.iconst 0, 1) := by decide +kernel
theorem dL_law_773 : decode cL_law 773 = .ok (.ireturn, 1) := by decide +kernel
theorem dL_law_774 : decode cL_law 774 = .ok (.iload 5, 2) := by decide +kernel
theorem dL_law_776 : decode cL_law 776 = .ok (.ifCond .ne 15, 3) := by decide +kernel
theorem dL_law_779 : decode cL_law 779 = .ok (.aload_n 3, 1) := by decide +kernel
theorem dL_law_780 : decode cL_law 780 = .ok (.iconst 0, 1) := by decide +kernel
theorem dL_law_781 : decode cL_law 781 = .ok (.laload, 1) := by decide +kernel
theorem dL_law_782 : decode cL_law 782 = .ok (.iload 6, 2) := by decide +kernel
theorem dL_law_784 : decode cL_law 784 = .ok (.i2l, 1) := by decide +kernel
theorem dL_law_785 : decode cL_law 785 = .ok (.lcmp, 1) := by decide +kernel
theorem dL_law_786 : decode cL_law 786 = .ok (.ifCond .eq 5, 3) := by decide +kernel
theorem dL_law_789 : decode cL_law 789 = .ok (.iconst 0, 1) := by decide +kernel
theorem dL_law_790 : decode cL_law 790 = .ok (.ireturn, 1) := by decide +kernel
theorem dL_law_791 : decode cL_law 791 = .ok (.goto 481, 3) := by decide +kernel
theorem dL_law_794 : decode cL_law 794 = .ok (.aload_n 1, 1) := by decide +kernel
theorem dL_law_795 : decode cL_law 795 = .ok (.aload_n 0, 1) := by decide +kernel
theorem dL_law_796 : decode cL_law 796 = .ok (.iload 4, 2) := by decide +kernel
theorem dL_law_798 : decode cL_law 798 = .ok (.iconst 1, 1) := by decide +kernel
theorem dL_law_799 : decode cL_law 799 = .ok (.iadd, 1) := by decide +kernel
theorem dL_law_800 : decode cL_law 800 = .ok (.iaload, 1) := by decide +kernel
theorem dL_law_801 : decode cL_law 801 = .ok (.aload_n 0, 1) := by decide +kernel
theorem dL_law_802 : decode cL_law 802 = .ok (.iload 4, 2) := by decide +kernel
theorem dL_law_804 : decode cL_law 804 = .ok (.iconst 2, 1) := by decide +kernel
theorem dL_law_805 : decode cL_law 805 = .ok (.iadd, 1) := by decide +kernel
theorem dL_law_806 : decode cL_law 806 = .ok (.iaload, 1) := by decide +kernel
theorem dL_law_807 : decode cL_law 807 = .ok (.aload_n 0, 1) := by decide +kernel
theorem dL_law_808 : decode cL_law 808 = .ok (.iload 4, 2) := by decide +kernel
theorem dL_law_810 : decode cL_law 810 = .ok (.iconst 3, 1) := by decide +kernel
theorem dL_law_811 : decode cL_law 811 = .ok (.iadd, 1) := by decide +kernel
theorem dL_law_812 : decode cL_law 812 = .ok (.iaload, 1) := by decide +kernel
theorem dL_law_813 : decode cL_law 813 = .ok (.invokevirtual 82, 3) := by decide +kernel
theorem dL_law_816 : decode cL_law 816 = .ok (.aload_n 2, 1) := by decide +kernel
theorem dL_law_817 : decode cL_law 817 = .ok (.aload_n 0, 1) := by decide +kernel
theorem dL_law_818 : decode cL_law 818 = .ok (.iload 4, 2) := by decide +kernel
theorem dL_law_820 : decode cL_law 820 = .ok (.iconst 1, 1) := by decide +kernel
theorem dL_law_821 : decode cL_law 821 = .ok (.iadd, 1) := by decide +kernel
theorem dL_law_822 : decode cL_law 822 = .ok (.iaload, 1) := by decide +kernel
theorem dL_law_823 : decode cL_law 823 = .ok (.aload_n 0, 1) := by decide +kernel
theorem dL_law_824 : decode cL_law 824 = .ok (.iload 4, 2) := by decide +kernel
theorem dL_law_826 : decode cL_law 826 = .ok (.iconst 2, 1) := by decide +kernel
theorem dL_law_827 : decode cL_law 827 = .ok (.iadd, 1) := by decide +kernel
theorem dL_law_828 : decode cL_law 828 = .ok (.iaload, 1) := by decide +kernel
theorem dL_law_829 : decode cL_law 829 = .ok (.aload_n 0, 1) := by decide +kernel
theorem dL_law_830 : decode cL_law 830 = .ok (.iload 4, 2) := by decide +kernel
theorem dL_law_832 : decode cL_law 832 = .ok (.iconst 3, 1) := by decide +kernel
theorem dL_law_833 : decode cL_law 833 = .ok (.iadd, 1) := by decide +kernel
theorem dL_law_834 : decode cL_law 834 = .ok (.iaload, 1) := by decide +kernel
theorem dL_law_835 : decode cL_law 835 = .ok (.invokevirtual 85, 3) := by decide +kernel
theorem dL_law_838 : decode cL_law 838 = .ok (.if_icmp .eq 434, 3) := by decide +kernel
theorem dL_law_841 : decode cL_law 841 = .ok (.iconst 0, 1) := by decide +kernel
theorem dL_law_842 : decode cL_law 842 = .ok (.ireturn, 1) := by decide +kernel
theorem dL_law_843 : decode cL_law 843 = .ok (.aload_n 1, 1) := by decide +kernel
theorem dL_law_844 : decode cL_law 844 = .ok (.aload_n 0, 1) := by decide +kernel
theorem dL_law_845 : decode cL_law 845 = .ok (.iload 4, 2) := by decide +kernel
theorem dL_law_847 : decode cL_law 847 = .ok (.iconst 1, 1) := by decide +kernel
theorem dL_law_848 : decode cL_law 848 = .ok (.iadd, 1) := by decide +kernel
theorem dL_law_849 : decode cL_law 849 = .ok (.iaload, 1) := by decide +kernel
theorem dL_law_850 : decode cL_law 850 = .ok (.aload_n 0, 1) := by decide +kernel
theorem dL_law_851 : decode cL_law 851 = .ok (.iload 4, 2) := by decide +kernel
theorem dL_law_853 : decode cL_law 853 = .ok (.iconst 2, 1) := by decide +kernel
theorem dL_law_854 : decode cL_law 854 = .ok (.iadd, 1) := by decide +kernel
theorem dL_law_855 : decode cL_law 855 = .ok (.iaload, 1) := by decide +kernel
theorem dL_law_856 : decode cL_law 856 = .ok (.aload_n 0, 1) := by decide +kernel
theorem dL_law_857 : decode cL_law 857 = .ok (.iload 4, 2) := by decide +kernel
theorem dL_law_859 : decode cL_law 859 = .ok (.iconst 3, 1) := by decide +kernel
theorem dL_law_860 : decode cL_law 860 = .ok (.iadd, 1) := by decide +kernel
theorem dL_law_861 : decode cL_law 861 = .ok (.iaload, 1) := by decide +kernel
theorem dL_law_862 : decode cL_law 862 = .ok (.invokevirtual 86, 3) := by decide +kernel
theorem dL_law_865 : decode cL_law 865 = .ok (.aload_n 2, 1) := by decide +kernel
theorem dL_law_866 : decode cL_law 866 = .ok (.aload_n 0, 1) := by decide +kernel
theorem dL_law_867 : decode cL_law 867 = .ok (.iload 4, 2) := by decide +kernel
theorem dL_law_869 : decode cL_law 869 = .ok (.iconst 1, 1) := by decide +kernel
theorem dL_law_870 : decode cL_law 870 = .ok (.iadd, 1) := by decide +kernel
theorem dL_law_871 : decode cL_law 871 = .ok (.iaload, 1) := by decide +kernel
theorem dL_law_872 : decode cL_law 872 = .ok (.aload_n 0, 1) := by decide +kernel
theorem dL_law_873 : decode cL_law 873 = .ok (.iload 4, 2) := by decide +kernel
theorem dL_law_875 : decode cL_law 875 = .ok (.iconst 2, 1) := by decide +kernel
theorem dL_law_876 : decode cL_law 876 = .ok (.iadd, 1) := by decide +kernel
theorem dL_law_877 : decode cL_law 877 = .ok (.iaload, 1) := by decide +kernel
theorem dL_law_878 : decode cL_law 878 = .ok (.aload_n 0, 1) := by decide +kernel
theorem dL_law_879 : decode cL_law 879 = .ok (.iload 4, 2) := by decide +kernel
theorem dL_law_881 : decode cL_law 881 = .ok (.iconst 3, 1) := by decide +kernel
theorem dL_law_882 : decode cL_law 882 = .ok (.iadd, 1) := by decide +kernel
theorem dL_law_883 : decode cL_law 883 = .ok (.iaload, 1) := by decide +kernel
theorem dL_law_884 : decode cL_law 884 = .ok (.invokevirtual 89, 3) := by decide +kernel
theorem dL_law_887 : decode cL_law 887 = .ok (.if_icmp .eq 385, 3) := by decide +kernel
theorem dL_law_890 : decode cL_law 890 = .ok (.iconst 0, 1) := by decide +kernel
theorem dL_law_891 : decode cL_law 891 = .ok (.ireturn, 1) := by decide +kernel
theorem dL_law_892 : decode cL_law 892 = .ok (.aload_n 1, 1) := by decide +kernel
theorem dL_law_893 : decode cL_law 893 = .ok (.aload_n 0, 1) := by decide +kernel
theorem dL_law_894 : decode cL_law 894 = .ok (.iload 4, 2) := by decide +kernel
theorem dL_law_896 : decode cL_law 896 = .ok (.iconst 1, 1) := by decide +kernel
theorem dL_law_897 : decode cL_law 897 = .ok (.iadd, 1) := by decide +kernel
theorem dL_law_898 : decode cL_law 898 = .ok (.iaload, 1) := by decide +kernel
theorem dL_law_899 : decode cL_law 899 = .ok (.aload_n 0, 1) := by decide +kernel
theorem dL_law_900 : decode cL_law 900 = .ok (.iload 4, 2) := by decide +kernel
theorem dL_law_902 : decode cL_law 902 = .ok (.iconst 2, 1) := by decide +kernel
theorem dL_law_903 : decode cL_law 903 = .ok (.iadd, 1) := by decide +kernel
theorem dL_law_904 : decode cL_law 904 = .ok (.iaload, 1) := by decide +kernel
theorem dL_law_905 : decode cL_law 905 = .ok (.aload_n 0, 1) := by decide +kernel
theorem dL_law_906 : decode cL_law 906 = .ok (.iload 4, 2) := by decide +kernel
theorem dL_law_908 : decode cL_law 908 = .ok (.iconst 3, 1) := by decide +kernel
theorem dL_law_909 : decode cL_law 909 = .ok (.iadd, 1) := by decide +kernel
theorem dL_law_910 : decode cL_law 910 = .ok (.iaload, 1) := by decide +kernel
theorem dL_law_911 : decode cL_law 911 = .ok (.ifCond .eq 7, 3) := by decide +kernel
theorem dL_law_914 : decode cL_law 914 = .ok (.iconst 1, 1) := by decide +kernel
theorem dL_law_915 : decode cL_law 915 = .ok (.goto 4, 3) := by decide +kernel
theorem dL_law_918 : decode cL_law 918 = .ok (.iconst 0, 1) := by decide +kernel
theorem dL_law_919 : decode cL_law 919 = .ok (.invokevirtual 90, 3) := by decide +kernel
theorem dL_law_922 : decode cL_law 922 = .ok (.aload_n 2, 1) := by decide +kernel
theorem dL_law_923 : decode cL_law 923 = .ok (.aload_n 0, 1) := by decide +kernel
theorem dL_law_924 : decode cL_law 924 = .ok (.iload 4, 2) := by decide +kernel
theorem dL_law_926 : decode cL_law 926 = .ok (.iconst 1, 1) := by decide +kernel
theorem dL_law_927 : decode cL_law 927 = .ok (.iadd, 1) := by decide +kernel
theorem dL_law_928 : decode cL_law 928 = .ok (.iaload, 1) := by decide +kernel
theorem dL_law_929 : decode cL_law 929 = .ok (.aload_n 0, 1) := by decide +kernel
theorem dL_law_930 : decode cL_law 930 = .ok (.iload 4, 2) := by decide +kernel
theorem dL_law_932 : decode cL_law 932 = .ok (.iconst 2, 1) := by decide +kernel
theorem dL_law_933 : decode cL_law 933 = .ok (.iadd, 1) := by decide +kernel
theorem dL_law_934 : decode cL_law 934 = .ok (.iaload, 1) := by decide +kernel
theorem dL_law_935 : decode cL_law 935 = .ok (.aload_n 0, 1) := by decide +kernel
theorem dL_law_936 : decode cL_law 936 = .ok (.iload 4, 2) := by decide +kernel
theorem dL_law_938 : decode cL_law 938 = .ok (.iconst 3, 1) := by decide +kernel
theorem dL_law_939 : decode cL_law 939 = .ok (.iadd, 1) := by decide +kernel
theorem dL_law_940 : decode cL_law 940 = .ok (.iaload, 1) := by decide +kernel
theorem dL_law_941 : decode cL_law 941 = .ok (.ifCond .eq 7, 3) := by decide +kernel
theorem dL_law_944 : decode cL_law 944 = .ok (.iconst 1, 1) := by decide +kernel
theorem dL_law_945 : decode cL_law 945 = .ok (.goto 4, 3) := by decide +kernel
theorem dL_law_948 : decode cL_law 948 = .ok (.iconst 0, 1) := by decide +kernel
theorem dL_law_949 : decode cL_law 949 = .ok (.invokevirtual 93, 3) := by decide +kernel
theorem dL_law_952 : decode cL_law 952 = .ok (.if_icmp .eq 320, 3) := by decide +kernel
theorem dL_law_955 : decode cL_law 955 = .ok (.iconst 0, 1) := by decide +kernel
theorem dL_law_956 : decode cL_law 956 = .ok (.ireturn, 1) := by decide +kernel
theorem dL_law_957 : decode cL_law 957 = .ok (.aload_n 1, 1) := by decide +kernel
theorem dL_law_958 : decode cL_law 958 = .ok (.aload_n 0, 1) := by decide +kernel
theorem dL_law_959 : decode cL_law 959 = .ok (.iload 4, 2) := by decide +kernel
theorem dL_law_961 : decode cL_law 961 = .ok (.iconst 1, 1) := by decide +kernel
theorem dL_law_962 : decode cL_law 962 = .ok (.iadd, 1) := by decide +kernel
theorem dL_law_963 : decode cL_law 963 = .ok (.iaload, 1) := by decide +kernel
theorem dL_law_964 : decode cL_law 964 = .ok (.aload_n 0, 1) := by decide +kernel
theorem dL_law_965 : decode cL_law 965 = .ok (.iload 4, 2) := by decide +kernel
theorem dL_law_967 : decode cL_law 967 = .ok (.iconst 2, 1) := by decide +kernel
theorem dL_law_968 : decode cL_law 968 = .ok (.iadd, 1) := by decide +kernel
theorem dL_law_969 : decode cL_law 969 = .ok (.iaload, 1) := by decide +kernel
theorem dL_law_970 : decode cL_law 970 = .ok (.aload_n 0, 1) := by decide +kernel
theorem dL_law_971 : decode cL_law 971 = .ok (.iload 4, 2) := by decide +kernel
theorem dL_law_973 : decode cL_law 973 = .ok (.iconst 3, 1) := by decide +kernel
theorem dL_law_974 : decode cL_law 974 = .ok (.iadd, 1) := by decide +kernel
theorem dL_law_975 : decode cL_law 975 = .ok (.iaload, 1) := by decide +kernel
theorem dL_law_976 : decode cL_law 976 = .ok (.ifCond .eq 7, 3) := by decide +kernel
theorem dL_law_979 : decode cL_law 979 = .ok (.iconst 1, 1) := by decide +kernel
theorem dL_law_980 : decode cL_law 980 = .ok (.goto 4, 3) := by decide +kernel
theorem dL_law_983 : decode cL_law 983 = .ok (.iconst 0, 1) := by decide +kernel
theorem dL_law_984 : decode cL_law 984 = .ok (.invokevirtual 94, 3) := by decide +kernel
theorem dL_law_987 : decode cL_law 987 = .ok (.aload_n 2, 1) := by decide +kernel
theorem dL_law_988 : decode cL_law 988 = .ok (.aload_n 0, 1) := by decide +kernel
theorem dL_law_989 : decode cL_law 989 = .ok (.iload 4, 2) := by decide +kernel
theorem dL_law_991 : decode cL_law 991 = .ok (.iconst 1, 1) := by decide +kernel
theorem dL_law_992 : decode cL_law 992 = .ok (.iadd, 1) := by decide +kernel
theorem dL_law_993 : decode cL_law 993 = .ok (.iaload, 1) := by decide +kernel
theorem dL_law_994 : decode cL_law 994 = .ok (.aload_n 0, 1) := by decide +kernel
theorem dL_law_995 : decode cL_law 995 = .ok (.iload 4, 2) := by decide +kernel
theorem dL_law_997 : decode cL_law 997 = .ok (.iconst 2, 1) := by decide +kernel
theorem dL_law_998 : decode cL_law 998 = .ok (.iadd, 1) := by decide +kernel
theorem dL_law_999 : decode cL_law 999 = .ok (.iaload, 1) := by decide +kernel
theorem dL_law_1000 : decode cL_law 1000 = .ok (.aload_n 0, 1) := by decide +kernel
theorem dL_law_1001 : decode cL_law 1001 = .ok (.iload 4, 2) := by decide +kernel
theorem dL_law_1003 : decode cL_law 1003 = .ok (.iconst 3, 1) := by decide +kernel
theorem dL_law_1004 : decode cL_law 1004 = .ok (.iadd, 1) := by decide +kernel
theorem dL_law_1005 : decode cL_law 1005 = .ok (.iaload, 1) := by decide +kernel
theorem dL_law_1006 : decode cL_law 1006 = .ok (.ifCond .eq 7, 3) := by decide +kernel
theorem dL_law_1009 : decode cL_law 1009 = .ok (.iconst 1, 1) := by decide +kernel
theorem dL_law_1010 : decode cL_law 1010 = .ok (.goto 4, 3) := by decide +kernel
theorem dL_law_1013 : decode cL_law 1013 = .ok (.iconst 0, 1) := by decide +kernel
theorem dL_law_1014 : decode cL_law 1014 = .ok (.invokevirtual 97, 3) := by decide +kernel
theorem dL_law_1017 : decode cL_law 1017 = .ok (.if_icmp .eq 255, 3) := by decide +kernel
theorem dL_law_1020 : decode cL_law 1020 = .ok (.iconst 0, 1) := by decide +kernel
theorem dL_law_1021 : decode cL_law 1021 = .ok (.ireturn, 1) := by decide +kernel
theorem dL_law_1022 : decode cL_law 1022 = .ok (.aload_n 1, 1) := by decide +kernel
theorem dL_law_1023 : decode cL_law 1023 = .ok (.aload_n 0, 1) := by decide +kernel
theorem dL_law_1024 : decode cL_law 1024 = .ok (.iload 4, 2) := by decide +kernel
theorem dL_law_1026 : decode cL_law 1026 = .ok (.iconst 1, 1) := by decide +kernel
theorem dL_law_1027 : decode cL_law 1027 = .ok (.iadd, 1) := by decide +kernel
theorem dL_law_1028 : decode cL_law 1028 = .ok (.iaload, 1) := by decide +kernel
theorem dL_law_1029 : decode cL_law 1029 = .ok (.aload_n 0, 1) := by decide +kernel
theorem dL_law_1030 : decode cL_law 1030 = .ok (.iload 4, 2) := by decide +kernel
theorem dL_law_1032 : decode cL_law 1032 = .ok (.iconst 2, 1) := by decide +kernel
theorem dL_law_1033 : decode cL_law 1033 = .ok (.iadd, 1) := by decide +kernel
theorem dL_law_1034 : decode cL_law 1034 = .ok (.iaload, 1) := by decide +kernel
theorem dL_law_1035 : decode cL_law 1035 = .ok (.invokevirtual 98, 3) := by decide +kernel
theorem dL_law_1038 : decode cL_law 1038 = .ok (.aload_n 2, 1) := by decide +kernel
theorem dL_law_1039 : decode cL_law 1039 = .ok (.aload_n 0, 1) := by decide +kernel
theorem dL_law_1040 : decode cL_law 1040 = .ok (.iload 4, 2) := by decide +kernel
theorem dL_law_1042 : decode cL_law 1042 = .ok (.iconst 1, 1) := by decide +kernel
theorem dL_law_1043 : decode cL_law 1043 = .ok (.iadd, 1) := by decide +kernel
theorem dL_law_1044 : decode cL_law 1044 = .ok (.iaload, 1) := by decide +kernel
theorem dL_law_1045 : decode cL_law 1045 = .ok (.aload_n 0, 1) := by decide +kernel
theorem dL_law_1046 : decode cL_law 1046 = .ok (.iload 4, 2) := by decide +kernel
theorem dL_law_1048 : decode cL_law 1048 = .ok (.iconst 2, 1) := by decide +kernel
theorem dL_law_1049 : decode cL_law 1049 = .ok (.iadd, 1) := by decide +kernel
theorem dL_law_1050 : decode cL_law 1050 = .ok (.iaload, 1) := by decide +kernel
theorem dL_law_1051 : decode cL_law 1051 = .ok (.invokevirtual 101, 3) := by decide +kernel
theorem dL_law_1054 : decode cL_law 1054 = .ok (.if_icmp .eq 218, 3) := by decide +kernel
theorem dL_law_1057 : decode cL_law 1057 = .ok (.iconst 0, 1) := by decide +kernel
theorem dL_law_1058 : decode cL_law 1058 = .ok (.ireturn, 1) := by decide +kernel
theorem dL_law_1059 : decode cL_law 1059 = .ok (.aload_n 1, 1) := by decide +kernel
theorem dL_law_1060 : decode cL_law 1060 = .ok (.invokevirtual 102, 3) := by decide +kernel
theorem dL_law_1063 : decode cL_law 1063 = .ok (.aload_n 2, 1) := by decide +kernel
theorem dL_law_1064 : decode cL_law 1064 = .ok (.invokevirtual 105, 3) := by decide +kernel
theorem dL_law_1067 : decode cL_law 1067 = .ok (.if_icmp .eq 205, 3) := by decide +kernel
theorem dL_law_1070 : decode cL_law 1070 = .ok (.iconst 0, 1) := by decide +kernel
theorem dL_law_1071 : decode cL_law 1071 = .ok (.ireturn, 1) := by decide +kernel
theorem dL_law_1072 : decode cL_law 1072 = .ok (.aload_n 1, 1) := by decide +kernel
theorem dL_law_1073 : decode cL_law 1073 = .ok (.aload_n 0, 1) := by decide +kernel
theorem dL_law_1074 : decode cL_law 1074 = .ok (.iload 4, 2) := by decide +kernel
theorem dL_law_1076 : decode cL_law 1076 = .ok (.iconst 1, 1) := by decide +kernel
theorem dL_law_1077 : decode cL_law 1077 = .ok (.iadd, 1) := by decide +kernel
theorem dL_law_1078 : decode cL_law 1078 = .ok (.iaload, 1) := by decide +kernel
theorem dL_law_1079 : decode cL_law 1079 = .ok (.aload_n 0, 1) := by decide +kernel
theorem dL_law_1080 : decode cL_law 1080 = .ok (.iload 4, 2) := by decide +kernel
theorem dL_law_1082 : decode cL_law 1082 = .ok (.iconst 2, 1) := by decide +kernel
theorem dL_law_1083 : decode cL_law 1083 = .ok (.iadd, 1) := by decide +kernel
theorem dL_law_1084 : decode cL_law 1084 = .ok (.iaload, 1) := by decide +kernel
theorem dL_law_1085 : decode cL_law 1085 = .ok (.aload_n 0, 1) := by decide +kernel
theorem dL_law_1086 : decode cL_law 1086 = .ok (.iload 4, 2) := by decide +kernel
theorem dL_law_1088 : decode cL_law 1088 = .ok (.iconst 3, 1) := by decide +kernel
theorem dL_law_1089 : decode cL_law 1089 = .ok (.iadd, 1) := by decide +kernel
theorem dL_law_1090 : decode cL_law 1090 = .ok (.iaload, 1) := by decide +kernel
theorem dL_law_1091 : decode cL_law 1091 = .ok (.aload_n 0, 1) := by decide +kernel
theorem dL_law_1092 : decode cL_law 1092 = .ok (.iload 4, 2) := by decide +kernel
theorem dL_law_1094 : decode cL_law 1094 = .ok (.iconst 4, 1) := by decide +kernel
theorem dL_law_1095 : decode cL_law 1095 = .ok (.iadd, 1) := by decide +kernel
theorem dL_law_1096 : decode cL_law 1096 = .ok (.iaload, 1) := by decide +kernel
theorem dL_law_1097 : decode cL_law 1097 = .ok (.aload_n 0, 1) := by decide +kernel
theorem dL_law_1098 : decode cL_law 1098 = .ok (.iload 4, 2) := by decide +kernel
theorem dL_law_1100 : decode cL_law 1100 = .ok (.iconst 5, 1) := by decide +kernel
theorem dL_law_1101 : decode cL_law 1101 = .ok (.iadd, 1) := by decide +kernel
theorem dL_law_1102 : decode cL_law 1102 = .ok (.iaload, 1) := by decide +kernel
theorem dL_law_1103 : decode cL_law 1103 = .ok (.ifCond .eq 7, 3) := by decide +kernel
theorem dL_law_1106 : decode cL_law 1106 = .ok (.iconst 1, 1) := by decide +kernel
theorem dL_law_1107 : decode cL_law 1107 = .ok (.goto 4, 3) := by decide +kernel
theorem dL_law_1110 : decode cL_law 1110 = .ok (.iconst 0, 1) := by decide +kernel
theorem dL_law_1111 : decode cL_law 1111 = .ok (.invokevirtual 106, 3) := by decide +kernel
theorem dL_law_1114 : decode cL_law 1114 = .ok (.aload_n 2, 1) := by decide +kernel
theorem dL_law_1115 : decode cL_law 1115 = .ok (.aload_n 0, 1) := by decide +kernel
theorem dL_law_1116 : decode cL_law 1116 = .ok (.iload 4, 2) := by decide +kernel
theorem dL_law_1118 : decode cL_law 1118 = .ok (.iconst 1, 1) := by decide +kernel
theorem dL_law_1119 : decode cL_law 1119 = .ok (.iadd, 1) := by decide +kernel
theorem dL_law_1120 : decode cL_law 1120 = .ok (.iaload, 1) := by decide +kernel
theorem dL_law_1121 : decode cL_law 1121 = .ok (.aload_n 0, 1) := by decide +kernel
theorem dL_law_1122 : decode cL_law 1122 = .ok (.iload 4, 2) := by decide +kernel
theorem dL_law_1124 : decode cL_law 1124 = .ok (.iconst 2, 1) := by decide +kernel
theorem dL_law_1125 : decode cL_law 1125 = .ok (.iadd, 1) := by decide +kernel
theorem dL_law_1126 : decode cL_law 1126 = .ok (.iaload, 1) := by decide +kernel
theorem dL_law_1127 : decode cL_law 1127 = .ok (.aload_n 0, 1) := by decide +kernel
theorem dL_law_1128 : decode cL_law 1128 = .ok (.iload 4, 2) := by decide +kernel
theorem dL_law_1130 : decode cL_law 1130 = .ok (.iconst 3, 1) := by decide +kernel
theorem dL_law_1131 : decode cL_law 1131 = .ok (.iadd, 1) := by decide +kernel
theorem dL_law_1132 : decode cL_law 1132 = .ok (.iaload, 1) := by decide +kernel
theorem dL_law_1133 : decode cL_law 1133 = .ok (.aload_n 0, 1) := by decide +kernel
theorem dL_law_1134 : decode cL_law 1134 = .ok (.iload 4, 2) := by decide +kernel
theorem dL_law_1136 : decode cL_law 1136 = .ok (.iconst 4, 1) := by decide +kernel
theorem dL_law_1137 : decode cL_law 1137 = .ok (.iadd, 1) := by decide +kernel
theorem dL_law_1138 : decode cL_law 1138 = .ok (.iaload, 1) := by decide +kernel
theorem dL_law_1139 : decode cL_law 1139 = .ok (.aload_n 0, 1) := by decide +kernel
theorem dL_law_1140 : decode cL_law 1140 = .ok (.iload 4, 2) := by decide +kernel
theorem dL_law_1142 : decode cL_law 1142 = .ok (.iconst 5, 1) := by decide +kernel
theorem dL_law_1143 : decode cL_law 1143 = .ok (.iadd, 1) := by decide +kernel
theorem dL_law_1144 : decode cL_law 1144 = .ok (.iaload, 1) := by decide +kernel
theorem dL_law_1145 : decode cL_law 1145 = .ok (.ifCond .eq 7, 3) := by decide +kernel
theorem dL_law_1148 : decode cL_law 1148 = .ok (.iconst 1, 1) := by decide +kernel
theorem dL_law_1149 : decode cL_law 1149 = .ok (.goto 4, 3) := by decide +kernel
theorem dL_law_1152 : decode cL_law 1152 = .ok (.iconst 0, 1) := by decide +kernel
theorem dL_law_1153 : decode cL_law 1153 = .ok (.invokevirtual 109, 3) := by decide +kernel
theorem dL_law_1156 : decode cL_law 1156 = .ok (.if_icmp .eq 116, 3) := by decide +kernel
theorem dL_law_1159 : decode cL_law 1159 = .ok (.iconst 0, 1) := by decide +kernel
theorem dL_law_1160 : decode cL_law 1160 = .ok (.ireturn, 1) := by decide +kernel
theorem dL_law_1161 : decode cL_law 1161 = .ok (.aload_n 1, 1) := by decide +kernel
theorem dL_law_1162 : decode cL_law 1162 = .ok (.aload_n 0, 1) := by decide +kernel
theorem dL_law_1163 : decode cL_law 1163 = .ok (.iload 4, 2) := by decide +kernel
theorem dL_law_1165 : decode cL_law 1165 = .ok (.iconst 1, 1) := by decide +kernel
theorem dL_law_1166 : decode cL_law 1166 = .ok (.iadd, 1) := by decide +kernel
theorem dL_law_1167 : decode cL_law 1167 = .ok (.iaload, 1) := by decide +kernel
theorem dL_law_1168 : decode cL_law 1168 = .ok (.aload_n 0, 1) := by decide +kernel
theorem dL_law_1169 : decode cL_law 1169 = .ok (.iload 4, 2) := by decide +kernel
theorem dL_law_1171 : decode cL_law 1171 = .ok (.iconst 2, 1) := by decide +kernel
theorem dL_law_1172 : decode cL_law 1172 = .ok (.iadd, 1) := by decide +kernel
theorem dL_law_1173 : decode cL_law 1173 = .ok (.iaload, 1) := by decide +kernel
theorem dL_law_1174 : decode cL_law 1174 = .ok (.aload_n 0, 1) := by decide +kernel
theorem dL_law_1175 : decode cL_law 1175 = .ok (.iload 4, 2) := by decide +kernel
theorem dL_law_1177 : decode cL_law 1177 = .ok (.iconst 3, 1) := by decide +kernel
theorem dL_law_1178 : decode cL_law 1178 = .ok (.iadd, 1) := by decide +kernel
theorem dL_law_1179 : decode cL_law 1179 = .ok (.iaload, 1) := by decide +kernel
theorem dL_law_1180 : decode cL_law 1180 = .ok (.invokevirtual 110, 3) := by decide +kernel
theorem dL_law_1183 : decode cL_law 1183 = .ok (.aload_n 2, 1) := by decide +kernel
theorem dL_law_1184 : decode cL_law 1184 = .ok (.aload_n 0, 1) := by decide +kernel
theorem dL_law_1185 : decode cL_law 1185 = .ok (.iload 4, 2) := by decide +kernel
theorem dL_law_1187 : decode cL_law 1187 = .ok (.iconst 1, 1) := by decide +kernel
theorem dL_law_1188 : decode cL_law 1188 = .ok (.iadd, 1) := by decide +kernel
theorem dL_law_1189 : decode cL_law 1189 = .ok (.iaload, 1) := by decide +kernel
theorem dL_law_1190 : decode cL_law 1190 = .ok (.aload_n 0, 1) := by decide +kernel
theorem dL_law_1191 : decode cL_law 1191 = .ok (.iload 4, 2) := by decide +kernel
theorem dL_law_1193 : decode cL_law 1193 = .ok (.iconst 2, 1) := by decide +kernel
theorem dL_law_1194 : decode cL_law 1194 = .ok (.iadd, 1) := by decide +kernel
theorem dL_law_1195 : decode cL_law 1195 = .ok (.iaload, 1) := by decide +kernel
theorem dL_law_1196 : decode cL_law 1196 = .ok (.aload_n 0, 1) := by decide +kernel
theorem dL_law_1197 : decode cL_law 1197 = .ok (.iload 4, 2) := by decide +kernel
theorem dL_law_1199 : decode cL_law 1199 = .ok (.iconst 3, 1) := by decide +kernel
theorem dL_law_1200 : decode cL_law 1200 = .ok (.iadd, 1) := by decide +kernel
theorem dL_law_1201 : decode cL_law 1201 = .ok (.iaload, 1) := by decide +kernel
theorem dL_law_1202 : decode cL_law 1202 = .ok (.invokevirtual 113, 3) := by decide +kernel
theorem dL_law_1205 : decode cL_law 1205 = .ok (.if_icmp .eq 67, 3) := by decide +kernel
theorem dL_law_1208 : decode cL_law 1208 = .ok (.iconst 0, 1) := by decide +kernel
theorem dL_law_1209 : decode cL_law 1209 = .ok (.ireturn, 1) := by decide +kernel
theorem dL_law_1210 : decode cL_law 1210 = .ok (.aload_n 1, 1) := by decide +kernel
theorem dL_law_1211 : decode cL_law 1211 = .ok (.aload_n 0, 1) := by decide +kernel
theorem dL_law_1212 : decode cL_law 1212 = .ok (.iload 4, 2) := by decide +kernel
theorem dL_law_1214 : decode cL_law 1214 = .ok (.iconst 1, 1) := by decide +kernel
theorem dL_law_1215 : decode cL_law 1215 = .ok (.iadd, 1) := by decide +kernel
theorem dL_law_1216 : decode cL_law 1216 = .ok (.iaload, 1) := by decide +kernel
theorem dL_law_1217 : decode cL_law 1217 = .ok (.invokevirtual 114, 3) := by decide +kernel
theorem dL_law_1220 : decode cL_law 1220 = .ok (.aload_n 2, 1) := by decide +kernel
theorem dL_law_1221 : decode cL_law 1221 = .ok (.aload_n 0, 1) := by decide +kernel
theorem dL_law_1222 : decode cL_law 1222 = .ok (.iload 4, 2) := by decide +kernel
theorem dL_law_1224 : decode cL_law 1224 = .ok (.iconst 1, 1) := by decide +kernel
theorem dL_law_1225 : decode cL_law 1225 = .ok (.iadd, 1) := by decide +kernel
theorem dL_law_1226 : decode cL_law 1226 = .ok (.iaload, 1) := by decide +kernel
theorem dL_law_1227 : decode cL_law 1227 = .ok (.invokevirtual 117, 3) := by decide +kernel
theorem dL_law_1230 : decode cL_law 1230 = .ok (.if_icmp .eq 42, 3) := by decide +kernel
theorem dL_law_1233 : decode cL_law 1233 = .ok (.iconst 0, 1) := by decide +kernel
theorem dL_law_1234 : decode cL_law 1234 = .ok (.ireturn, 1) := by decide +kernel
theorem dL_law_1235 : decode cL_law 1235 = .ok (.aload_n 1, 1) := by decide +kernel
theorem dL_law_1236 : decode cL_law 1236 = .ok (.aload_n 0, 1) := by decide +kernel
theorem dL_law_1237 : decode cL_law 1237 = .ok (.iload 4, 2) := by decide +kernel
theorem dL_law_1239 : decode cL_law 1239 = .ok (.iconst 1, 1) := by decide +kernel
theorem dL_law_1240 : decode cL_law 1240 = .ok (.iadd, 1) := by decide +kernel
theorem dL_law_1241 : decode cL_law 1241 = .ok (.iaload, 1) := by decide +kernel
theorem dL_law_1242 : decode cL_law 1242 = .ok (.aload_n 0, 1) := by decide +kernel
theorem dL_law_1243 : decode cL_law 1243 = .ok (.iload 4, 2) := by decide +kernel
theorem dL_law_1245 : decode cL_law 1245 = .ok (.iconst 2, 1) := by decide +kernel
theorem dL_law_1246 : decode cL_law 1246 = .ok (.iadd, 1) := by decide +kernel
theorem dL_law_1247 : decode cL_law 1247 = .ok (.iaload, 1) := by decide +kernel
theorem dL_law_1248 : decode cL_law 1248 = .ok (.invokevirtual 118, 3) := by decide +kernel
theorem dL_law_1251 : decode cL_law 1251 = .ok (.aload_n 2, 1) := by decide +kernel
theorem dL_law_1252 : decode cL_law 1252 = .ok (.aload_n 0, 1) := by decide +kernel
theorem dL_law_1253 : decode cL_law 1253 = .ok (.iload 4, 2) := by decide +kernel
theorem dL_law_1255 : decode cL_law 1255 = .ok (.iconst 1, 1) := by decide +kernel
theorem dL_law_1256 : decode cL_law 1256 = .ok (.iadd, 1) := by decide +kernel
theorem dL_law_1257 : decode cL_law 1257 = .ok (.iaload, 1) := by decide +kernel
theorem dL_law_1258 : decode cL_law 1258 = .ok (.aload_n 0, 1) := by decide +kernel
theorem dL_law_1259 : decode cL_law 1259 = .ok (.iload 4, 2) := by decide +kernel
theorem dL_law_1261 : decode cL_law 1261 = .ok (.iconst 2, 1) := by decide +kernel
theorem dL_law_1262 : decode cL_law 1262 = .ok (.iadd, 1) := by decide +kernel
theorem dL_law_1263 : decode cL_law 1263 = .ok (.iaload, 1) := by decide +kernel
theorem dL_law_1264 : decode cL_law 1264 = .ok (.invokevirtual 121, 3) := by decide +kernel
theorem dL_law_1267 : decode cL_law 1267 = .ok (.if_icmp .eq 5, 3) := by decide +kernel
theorem dL_law_1270 : decode cL_law 1270 = .ok (.iconst 0, 1) := by decide +kernel
theorem dL_law_1271 : decode cL_law 1271 = .ok (.ireturn, 1) := by decide +kernel
theorem dL_law_1272 : decode cL_law 1272 = .ok (.iinc 4 6, 3) := by decide +kernel
theorem dL_law_1275 : decode cL_law 1275 = .ok (.goto (-1252), 3) := by decide +kernel
theorem dL_law_1278 : decode cL_law 1278 = .ok (.iconst 1, 1) := by decide +kernel
theorem dL_law_1279 : decode cL_law 1279 = .ok (.ireturn, 1) := by decide +kernel
