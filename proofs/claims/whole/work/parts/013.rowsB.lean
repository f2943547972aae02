theorem dX12_init_0 : decode cX12_init 0 = .ok (.aload_n 0, 1) := by decide +kernel
theorem dX12_init_1 : decode cX12_init 1 = .ok (.invokespecial 1, 3) := by decide +kernel
theorem dX12_init_4 : decode cX12_init 4 = .ok (.aload_n 0, 1) := by decide +kernel
theorem dX12_init_5 : decode cX12_init 5 = .ok (.bipush 6, 2) := by decide +kernel
theorem dX12_init_7 : decode cX12_init 7 = .ok (.newarray .int, 2) := by decide +kernel
theorem dX12_init_9 : decode cX12_init 9 = .ok (.putfield 7, 3) := by decide +kernel
theorem dX12_init_12 : decode cX12_init 12 = .ok (.aload_n 0, 1) := by decide +kernel
theorem dX12_init_13 : decode cX12_init 13 = .ok (.bipush 6, 2) := by decide +kernel
theorem dX12_init_15 : decode cX12_init 15 = .ok (.newarray .int, 2) := by decide +kernel
theorem dX12_init_17 : decode cX12_init 17 = .ok (.putfield 13, 3) := by decide +kernel
theorem dX12_init_20 : decode cX12_init 20 = .ok (.aload_n 0, 1) := by decide +kernel
theorem dX12_init_21 : decode cX12_init 21 = .ok (.bipush 6, 2) := by decide +kernel
theorem dX12_init_23 : decode cX12_init 23 = .ok (.newarray .int, 2) := by decide +kernel
theorem dX12_init_25 : decode cX12_init 25 = .ok (.putfield 16, 3) := by decide +kernel
theorem dX12_init_28 : decode cX12_init 28 = .ok (.aload_n 0, 1) := by decide +kernel
theorem dX12_init_29 : decode cX12_init 29 = .ok (.bipush 6, 2) := by decide +kernel
theorem dX12_init_31 : decode cX12_init 31 = .ok (.newarray .int, 2) := by decide +kernel
theorem dX12_init_33 : decode cX12_init 33 = .ok (.putfield 19, 3) := by decide +kernel
theorem dX12_init_36 : decode cX12_init 36 = .ok (.aload_n 0, 1) := by decide +kernel
theorem dX12_init_37 : decode cX12_init 37 = .ok (.bipush 8, 2) := by decide +kernel
theorem dX12_init_39 : decode cX12_init 39 = .ok (.newarray .int, 2) := by decide +kernel
theorem dX12_init_41 : decode cX12_init 41 = .ok (.putfield 22, 3) := by decide +kernel
theorem dX12_init_44 : decode cX12_init 44 = .ok (.aload_n 0, 1) := by decide +kernel
theorem dX12_init_45 : decode cX12_init 45 = .ok (.bipush 8, 2) := by decide +kernel
theorem dX12_init_47 : decode cX12_init 47 = .ok (.newarray .int, 2) := by decide +kernel
theorem dX12_init_49 : decode cX12_init 49 = .ok (.putfield 25, 3) := by decide +kernel
theorem dX12_init_52 : decode cX12_init 52 = .ok (.aload_n 0, 1) := by decide +kernel
theorem dX12_init_53 : decode cX12_init 53 = .ok (.bipush 60, 2) := by decide +kernel
theorem dX12_init_55 : decode cX12_init 55 = .ok (.newarray .int, 2) := by decide +kernel
theorem dX12_init_57 : decode cX12_init 57 = .ok (.putfield 28, 3) := by decide +kernel
theorem dX12_init_60 : decode cX12_init 60 = .ok (.aload_n 0, 1) := by decide +kernel
theorem dX12_init_61 : decode cX12_init 61 = .ok (.bipush 60, 2) := by decide +kernel
theorem dX12_init_63 : decode cX12_init 63 = .ok (.newarray .int, 2) := by decide +kernel
theorem dX12_init_65 : decode cX12_init 65 = .ok (.putfield 31, 3) := by decide +kernel
theorem dX12_init_68 : decode cX12_init 68 = .ok (.aload_n 0, 1) := by decide +kernel
theorem dX12_init_69 : decode cX12_init 69 = .ok (.bipush 60, 2) := by decide +kernel
theorem dX12_init_71 : decode cX12_init 71 = .ok (.newarray .int, 2) := by decide +kernel
theorem dX12_init_73 : decode cX12_init 73 = .ok (.putfield 34, 3) := by decide +kernel
theorem dX12_init_76 : decode cX12_init 76 = .ok (.aload_n 0, 1) := by decide +kernel
theorem dX12_init_77 : decode cX12_init 77 = .ok (.bipush 20, 2) := by decide +kernel
theorem dX12_init_79 : decode cX12_init 79 = .ok (.newarray .int, 2) := by decide +kernel
theorem dX12_init_81 : decode cX12_init 81 = .ok (.putfield 37, 3) := by decide +kernel
theorem dX12_init_84 : decode cX12_init 84 = .ok (.aload_n 0, 1) := by decide +kernel
theorem dX12_init_85 : decode cX12_init 85 = .ok (.sipush 504, 3) := by decide +kernel
theorem dX12_init_88 : decode cX12_init 88 = .ok (.newarray .long, 2) := by decide +kernel
theorem dX12_init_90 : decode cX12_init 90 = .ok (.putfield 40, 3) := by decide +kernel
theorem dX12_init_93 : decode cX12_init 93 = .ok (.aload_n 0, 1) := by decide +kernel
theorem dX12_init_94 : decode cX12_init 94 = .ok (.sipush 504, 3) := by decide +kernel
theorem dX12_init_97 : decode cX12_init 97 = .ok (.newarray .long, 2) := by decide +kernel
theorem dX12_init_99 : decode cX12_init 99 = .ok (.putfield 44, 3) := by decide +kernel
theorem dX12_init_102 : decode cX12_init 102 = .ok (.aload_n 0, 1) := by decide +kernel
theorem dX12_init_103 : decode cX12_init 103 = .ok (.bipush 73, 2) := by decide +kernel
theorem dX12_init_105 : decode cX12_init 105 = .ok (.newarray .long, 2) := by decide +kernel
theorem dX12_init_107 : decode cX12_init 107 = .ok (.putfield 47, 3) := by decide +kernel
theorem dX12_init_110 : decode cX12_init 110 = .ok (.aload_n 0, 1) := by decide +kernel
theorem dX12_init_111 : decode cX12_init 111 = .ok (.bipush 7, 2) := by decide +kernel
theorem dX12_init_113 : decode cX12_init 113 = .ok (.newarray .int, 2) := by decide +kernel
theorem dX12_init_115 : decode cX12_init 115 = .ok (.putfield 50, 3) := by decide +kernel
theorem dX12_init_118 : decode cX12_init 118 = .ok (.aload_n 0, 1) := by decide +kernel
theorem dX12_init_119 : decode cX12_init 119 = .ok (.sipush 700, 3) := by decide +kernel
theorem dX12_init_122 : decode cX12_init 122 = .ok (.newarray .boolean, 2) := by decide +kernel
theorem dX12_init_124 : decode cX12_init 124 = .ok (.putfield 53, 3) := by decide +kernel
theorem dX12_init_127 : decode cX12_init 127 = .ok (.aload_n 0, 1) := by decide +kernel
theorem dX12_init_128 : decode cX12_init 128 = .ok (.sipush 160, 3) := by decide +kernel
theorem dX12_init_131 : decode cX12_init 131 = .ok (.newarray .int, 2) := by decide +kernel
theorem dX12_init_133 : decode cX12_init 133 = .ok (.putfield 57, 3) := by decide +kernel
theorem dX12_init_136 : decode cX12_init 136 = .ok (.aload_n 0, 1) := by decide +kernel
theorem dX12_init_137 : decode cX12_init 137 = .ok (.iconst 2, 1) := by decide +kernel
theorem dX12_init_138 : decode cX12_init 138 = .ok (.newarray .boolean, 2) := by decide +kernel
theorem dX12_init_140 : decode cX12_init 140 = .ok (.putfield 60, 3) := by decide +kernel
theorem dX12_init_143 : decode cX12_init 143 = .ok (.iconst 0, 1) := by decide +kernel
theorem dX12_init_144 : decode cX12_init 144 = .ok (.istore_n 1, 1) := by decide +kernel
theorem dX12_init_145 : decode cX12_init 145 = .ok (.iload_n 1, 1) := by decide +kernel
theorem dX12_init_146 : decode cX12_init 146 = .ok (.bipush 6, 2) := by decide +kernel
theorem dX12_init_148 : decode cX12_init 148 = .ok (.if_icmp .ge 16, 3) := by decide +kernel
theorem dX12_init_151 : decode cX12_init 151 = .ok (.aload_n 0, 1) := by decide +kernel
theorem dX12_init_152 : decode cX12_init 152 = .ok (.getfield 19, 3) := by decide +kernel
theorem dX12_init_155 : decode cX12_init 155 = .ok (.iload_n 1, 1) := by decide +kernel
theorem dX12_init_156 : decode cX12_init 156 = .ok (.iconst 1, 1) := by decide +kernel
theorem dX12_init_157 : decode cX12_init 157 = .ok (.iastore, 1) := by decide +kernel
theorem dX12_init_158 : decode cX12_init 158 = .ok (.iinc 1 1, 3) := by decide +kernel
theorem dX12_init_161 : decode cX12_init 161 = .ok (.goto (-16), 3) := by decide +kernel
theorem dX12_init_164 : decode cX12_init 164 = .ok (.aload_n 0, 1) := by decide +kernel
theorem dX12_init_165 : decode cX12_init 165 = .ok (.getfield 7, 3) := by decide +kernel
theorem dX12_init_168 : decode cX12_init 168 = .ok (.iconst 0, 1) := by decide +kernel
theorem dX12_init_169 : decode cX12_init 169 = .ok (.iconst 1, 1) := by decide +kernel
theorem dX12_init_170 : decode cX12_init 170 = .ok (.iastore, 1) := by decide +kernel
theorem dX12_init_171 : decode cX12_init 171 = .ok (.aload_n 0, 1) := by decide +kernel
theorem dX12_init_172 : decode cX12_init 172 = .ok (.getfield 7, 3) := by decide +kernel
theorem dX12_init_175 : decode cX12_init 175 = .ok (.iconst 1, 1) := by decide +kernel
theorem dX12_init_176 : decode cX12_init 176 = .ok (.iconst 1, 1) := by decide +kernel
theorem dX12_init_177 : decode cX12_init 177 = .ok (.iastore, 1) := by decide +kernel
theorem dX12_init_178 : decode cX12_init 178 = .ok (.aload_n 0, 1) := by decide +kernel
theorem dX12_init_179 : decode cX12_init 179 = .ok (.getfield 7, 3) := by decide +kernel
theorem dX12_init_182 : decode cX12_init 182 = .ok (.iconst 2, 1) := by decide +kernel
theorem dX12_init_183 : decode cX12_init 183 = .ok (.iconst 1, 1) := by decide +kernel
theorem dX12_init_184 : decode cX12_init 184 = .ok (.iastore, 1) := by decide +kernel
theorem dX12_init_185 : decode cX12_init 185 = .ok (.aload_n 0, 1) := by decide +kernel
theorem dX12_init_186 : decode cX12_init 186 = .ok (.getfield 7, 3) := by decide +kernel
theorem dX12_init_189 : decode cX12_init 189 = .ok (.iconst 3, 1) := by decide +kernel
theorem dX12_init_190 : decode cX12_init 190 = .ok (.bipush 6, 2) := by decide +kernel
theorem dX12_init_192 : decode cX12_init 192 = .ok (.iastore, 1) := by decide +kernel
theorem dX12_init_193 : decode cX12_init 193 = .ok (.aload_n 0, 1) := by decide +kernel
theorem dX12_init_194 : decode cX12_init 194 = .ok (.getfield 7, 3) := by decide +kernel
theorem dX12_init_197 : decode cX12_init 197 = .ok (.iconst 4, 1) := by decide +kernel
theorem dX12_init_198 : decode cX12_init 198 = .ok (.iconst 2, 1) := by decide +kernel
theorem dX12_init_199 : decode cX12_init 199 = .ok (.iastore, 1) := by decide +kernel
theorem dX12_init_200 : decode cX12_init 200 = .ok (.aload_n 0, 1) := by decide +kernel
theorem dX12_init_201 : decode cX12_init 201 = .ok (.getfield 7, 3) := by decide +kernel
theorem dX12_init_204 : decode cX12_init 204 = .ok (.iconst 5, 1) := by decide +kernel
theorem dX12_init_205 : decode cX12_init 205 = .ok (.iconst 2, 1) := by decide +kernel
theorem dX12_init_206 : decode cX12_init 206 = .ok (.iastore, 1) := by decide +kernel
theorem dX12_init_207 : decode cX12_init 207 = .ok (.return_, 1) := by decide +kernel
theorem dX12_in_0 : decode cX12_in 0 = .ok (.lload_n 0, 1) := by decide +kernel
theorem dX12_in_1 : decode cX12_in 1 = .ok (.lload_n 2, 1) := by decide +kernel
theorem dX12_in_2 : decode cX12_in 2 = .ok (.lcmp, 1) := by decide +kernel
theorem dX12_in_3 : decode cX12_in 3 = .ok (.ifCond .lt 14, 3) := by decide +kernel
theorem dX12_in_6 : decode cX12_in 6 = .ok (.lload_n 0, 1) := by decide +kernel
theorem dX12_in_7 : decode cX12_in 7 = .ok (.lload 4, 2) := by decide +kernel
theorem dX12_in_9 : decode cX12_in 9 = .ok (.lcmp, 1) := by decide +kernel
theorem dX12_in_10 : decode cX12_in 10 = .ok (.ifCond .gt 7, 3) := by decide +kernel
theorem dX12_in_13 : decode cX12_in 13 = .ok (.iconst 1, 1) := by decide +kernel
theorem dX12_in_14 : decode cX12_in 14 = .ok (.goto 4, 3) := by decide +kernel
theorem dX12_in_17 : decode cX12_in 17 = .ok (.iconst 0, 1) := by decide +kernel
theorem dX12_in_18 : decode cX12_in 18 = .ok (.ireturn, 1) := by decide +kernel
set_option maxRecDepth 20000 in
theorem ggX12_isPlayer_X12_in : GoodIn wsX12_isPlayer wsX12_in := goodIn_r _ [5] (by decide +kernel) (by decide +kernel)
set_option maxRecDepth 20000 in
theorem gX12_isPlayer_X12_in : GoodIn wsX12_isPlayer (va_wsS RX12 65 yX12_in wsX12_in) := goodIn_app (goodIn_of _ (by decide +kernel)) ggX12_isPlayer_X12_in
theorem dX12_isPlayer_0 : decode cX12_isPlayer 0 = .ok (.iload_n 0, 1) := by decide +kernel
theorem dX12_isPlayer_1 : decode cX12_isPlayer 1 = .ok (.i2l, 1) := by decide +kernel
theorem dX12_isPlayer_2 : decode cX12_isPlayer 2 = .ok (.lconst 0, 1) := by decide +kernel
theorem dX12_isPlayer_3 : decode cX12_isPlayer 3 = .ok (.ldc2_w 63, 3) := by decide +kernel
theorem dX12_isPlayer_6 : decode cX12_isPlayer 6 = .ok (.invokestatic 65, 3) := by decide +kernel
theorem dX12_isPlayer_9 : decode cX12_isPlayer 9 = .ok (.ireturn, 1) := by decide +kernel
theorem dX12_less_0 : decode cX12_less 0 = .ok (.iload_n 0, 1) := by decide +kernel
theorem dX12_less_1 : decode cX12_less 1 = .ok (.iload_n 1, 1) := by decide +kernel
theorem dX12_less_2 : decode cX12_less 2 = .ok (.if_icmp .ge 7, 3) := by decide +kernel
theorem dX12_less_5 : decode cX12_less 5 = .ok (.iload_n 0, 1) := by decide +kernel
theorem dX12_less_6 : decode cX12_less 6 = .ok (.goto 4, 3) := by decide +kernel
theorem dX12_less_9 : decode cX12_less 9 = .ok (.iload_n 1, 1) := by decide +kernel
theorem dX12_less_10 : decode cX12_less 10 = .ok (.ireturn, 1) := by decide +kernel
theorem dX12_tenTo_0 : decode cX12_tenTo 0 = .ok (.iconst 1, 1) := by decide +kernel
theorem dX12_tenTo_1 : decode cX12_tenTo 1 = .ok (.istore_n 1, 1) := by decide +kernel
theorem dX12_tenTo_2 : decode cX12_tenTo 2 = .ok (.iconst 0, 1) := by decide +kernel
theorem dX12_tenTo_3 : decode cX12_tenTo 3 = .ok (.istore_n 2, 1) := by decide +kernel
theorem dX12_tenTo_4 : decode cX12_tenTo 4 = .ok (.iload_n 2, 1) := by decide +kernel
theorem dX12_tenTo_5 : decode cX12_tenTo 5 = .ok (.iload_n 0, 1) := by decide +kernel
theorem dX12_tenTo_6 : decode cX12_tenTo 6 = .ok (.if_icmp .ge 14, 3) := by decide +kernel
theorem dX12_tenTo_9 : decode cX12_tenTo 9 = .ok (.iload_n 1, 1) := by decide +kernel
theorem dX12_tenTo_10 : decode cX12_tenTo 10 = .ok (.bipush 10, 2) := by decide +kernel
theorem dX12_tenTo_12 : decode cX12_tenTo 12 = .ok (.imul, 1) := by decide +kernel
theorem dX12_tenTo_13 : decode cX12_tenTo 13 = .ok (.istore_n 1, 1) := by decide +kernel
theorem dX12_tenTo_14 : decode cX12_tenTo 14 = .ok (.iinc 2 1, 3) := by decide +kernel
theorem dX12_tenTo_17 : decode cX12_tenTo 17 = .ok (.goto (-13), 3) := by decide +kernel
theorem dX12_tenTo_20 : decode cX12_tenTo 20 = .ok (.iload_n 1, 1) := by decide +kernel
theorem dX12_tenTo_21 : decode cX12_tenTo 21 = .ok (.ireturn, 1) := by decide +kernel
set_option maxRecDepth 20000 in
theorem ggX12_figureOf_X12_tenTo : GoodIn wsX12_figureOf wsX12_tenTo := goodIn_r _ [4] (by decide +kernel) (by decide +kernel)
set_option maxRecDepth 20000 in
theorem gX12_figureOf_X12_tenTo : GoodIn wsX12_figureOf (va_wsS RX12 69 yX12_tenTo wsX12_tenTo) := goodIn_app (goodIn_of _ (by decide +kernel)) ggX12_figureOf_X12_tenTo
theorem dX12_figureOf_0 : decode cX12_figureOf 0 = .ok (.iload_n 0, 1) := by decide +kernel
theorem dX12_figureOf_1 : decode cX12_figureOf 1 = .ok (.iconst 5, 1) := by decide +kernel
theorem dX12_figureOf_2 : decode cX12_figureOf 2 = .ok (.iload_n 1, 1) := by decide +kernel
theorem dX12_figureOf_3 : decode cX12_figureOf 3 = .ok (.isub, 1) := by decide +kernel
theorem dX12_figureOf_4 : decode cX12_figureOf 4 = .ok (.invokestatic 69, 3) := by decide +kernel
theorem dX12_figureOf_7 : decode cX12_figureOf 7 = .ok (.idiv, 1) := by decide +kernel
theorem dX12_figureOf_8 : decode cX12_figureOf 8 = .ok (.bipush 10, 2) := by decide +kernel
theorem dX12_figureOf_10 : decode cX12_figureOf 10 = .ok (.irem, 1) := by decide +kernel
theorem dX12_figureOf_11 : decode cX12_figureOf 11 = .ok (.ireturn, 1) := by decide +kernel
theorem dX12_needOf_0 : decode cX12_needOf 0 = .ok (.iload_n 0, 1) := by decide +kernel
theorem dX12_needOf_1 : decode cX12_needOf 1 = .ok (.ifCond .ne 8, 3) := by decide +kernel
theorem dX12_needOf_4 : decode cX12_needOf 4 = .ok (.bipush (-6), 2) := by decide +kernel
theorem dX12_needOf_6 : decode cX12_needOf 6 = .ok (.goto 13, 3) := by decide +kernel
theorem dX12_needOf_9 : decode cX12_needOf 9 = .ok (.iload_n 0, 1) := by decide +kernel
theorem dX12_needOf_10 : decode cX12_needOf 10 = .ok (.iconst 4, 1) := by decide +kernel
theorem dX12_needOf_11 : decode cX12_needOf 11 = .ok (.if_icmp .ge 7, 3) := by decide +kernel
theorem dX12_needOf_14 : decode cX12_needOf 14 = .ok (.iconst 0, 1) := by decide +kernel
theorem dX12_needOf_15 : decode cX12_needOf 15 = .ok (.goto 4, 3) := by decide +kernel
theorem dX12_needOf_18 : decode cX12_needOf 18 = .ok (.iconst 1, 1) := by decide +kernel
theorem dX12_needOf_19 : decode cX12_needOf 19 = .ok (.ireturn, 1) := by decide +kernel
set_option maxRecDepth 20000 in
theorem ggX12_isBeetle_X12_in : GoodIn wsX12_isBeetle wsX12_in := goodIn_r _ [6] (by decide +kernel) (by decide +kernel)
set_option maxRecDepth 20000 in
theorem gX12_isBeetle_X12_in : GoodIn wsX12_isBeetle (va_wsS RX12 65 yX12_in wsX12_in) := goodIn_app (goodIn_of _ (by decide +kernel)) ggX12_isBeetle_X12_in
set_option maxRecDepth 20000 in
theorem ggX12_isBeetle_X12_figureOf : GoodIn wsX12_isBeetle wsX12_figureOf := goodIn_r _ [9, 10, 11, 5, 12] (by decide +kernel) (by decide +kernel)
set_option maxRecDepth 20000 in
theorem gX12_isBeetle_X12_figureOf : GoodIn wsX12_isBeetle (va_wsS RX12 75 yX12_figureOf wsX12_figureOf) := goodIn_app (goodIn_of _ (by decide +kernel)) ggX12_isBeetle_X12_figureOf
set_option maxRecDepth 20000 in
theorem ggX12_isBeetle_X12_needOf : GoodIn wsX12_isBeetle wsX12_needOf := goodIn_r _ [15] (by decide +kernel) (by decide +kernel)
set_option maxRecDepth 20000 in
theorem gX12_isBeetle_X12_needOf : GoodIn wsX12_isBeetle (va_wsS RX12 79 yX12_needOf wsX12_needOf) := goodIn_app (goodIn_of _ (by decide +kernel)) ggX12_isBeetle_X12_needOf
theorem dX12_isBeetle_0 : decode cX12_isBeetle 0 = .ok (.iload_n 1, 1) := by decide +kernel
theorem dX12_isBeetle_1 : decode cX12_isBeetle 1 = .ok (.i2l, 1) := by decide +kernel
theorem dX12_isBeetle_2 : decode cX12_isBeetle 2 = .ok (.lconst 0, 1) := by decide +kernel
theorem dX12_isBeetle_3 : decode cX12_isBeetle 3 = .ok (.ldc2_w 73, 3) := by decide +kernel
theorem dX12_isBeetle_6 : decode cX12_isBeetle 6 = .ok (.invokestatic 65, 3) := by decide +kernel
theorem dX12_isBeetle_9 : decode cX12_isBeetle 9 = .ok (.istore_n 2, 1) := by decide +kernel
theorem dX12_isBeetle_10 : decode cX12_isBeetle 10 = .ok (.iconst 0, 1) := by decide +kernel
theorem dX12_isBeetle_11 : decode cX12_isBeetle 11 = .ok (.istore_n 3, 1) := by decide +kernel
theorem dX12_isBeetle_12 : decode cX12_isBeetle 12 = .ok (.iload_n 3, 1) := by decide +kernel
theorem dX12_isBeetle_13 : decode cX12_isBeetle 13 = .ok (.bipush 6, 2) := by decide +kernel
theorem dX12_isBeetle_15 : decode cX12_isBeetle 15 = .ok (.if_icmp .ge 60, 3) := by decide +kernel
theorem dX12_isBeetle_18 : decode cX12_isBeetle 18 = .ok (.iload_n 1, 1) := by decide +kernel
theorem dX12_isBeetle_19 : decode cX12_isBeetle 19 = .ok (.iload_n 3, 1) := by decide +kernel
theorem dX12_isBeetle_20 : decode cX12_isBeetle 20 = .ok (.invokestatic 75, 3) := by decide +kernel
theorem dX12_isBeetle_23 : decode cX12_isBeetle 23 = .ok (.istore 4, 2) := by decide +kernel
theorem dX12_isBeetle_25 : decode cX12_isBeetle 25 = .ok (.iload_n 2, 1) := by decide +kernel
theorem dX12_isBeetle_26 : decode cX12_isBeetle 26 = .ok (.ifCond .eq 41, 3) := by decide +kernel
theorem dX12_isBeetle_29 : decode cX12_isBeetle 29 = .ok (.iload 4, 2) := by decide +kernel
theorem dX12_isBeetle_31 : decode cX12_isBeetle 31 = .ok (.aload_n 0, 1) := by decide +kernel
theorem dX12_isBeetle_32 : decode cX12_isBeetle 32 = .ok (.getfield 7, 3) := by decide +kernel
theorem dX12_isBeetle_35 : decode cX12_isBeetle 35 = .ok (.iload_n 3, 1) := by decide +kernel
theorem dX12_isBeetle_36 : decode cX12_isBeetle 36 = .ok (.iaload, 1) := by decide +kernel
theorem dX12_isBeetle_37 : decode cX12_isBeetle 37 = .ok (.if_icmp .gt 30, 3) := by decide +kernel
theorem dX12_isBeetle_40 : decode cX12_isBeetle 40 = .ok (.iload 4, 2) := by decide +kernel
theorem dX12_isBeetle_42 : decode cX12_isBeetle 42 = .ok (.ifCond .eq 21, 3) := by decide +kernel
theorem dX12_isBeetle_45 : decode cX12_isBeetle 45 = .ok (.iload_n 3, 1) := by decide +kernel
theorem dX12_isBeetle_46 : decode cX12_isBeetle 46 = .ok (.invokestatic 79, 3) := by decide +kernel
theorem dX12_isBeetle_49 : decode cX12_isBeetle 49 = .ok (.ifCond .lt 14, 3) := by decide +kernel
theorem dX12_isBeetle_52 : decode cX12_isBeetle 52 = .ok (.iload_n 1, 1) := by decide +kernel
theorem dX12_isBeetle_53 : decode cX12_isBeetle 53 = .ok (.iload_n 3, 1) := by decide +kernel
theorem dX12_isBeetle_54 : decode cX12_isBeetle 54 = .ok (.invokestatic 79, 3) := by decide +kernel
theorem dX12_isBeetle_57 : decode cX12_isBeetle 57 = .ok (.invokestatic 75, 3) := by decide +kernel
theorem dX12_isBeetle_60 : decode cX12_isBeetle 60 = .ok (.ifCond .le 7, 3) := by decide +kernel
theorem dX12_isBeetle_63 : decode cX12_isBeetle 63 = .ok (.iconst 1, 1) := by decide +kernel
theorem dX12_isBeetle_64 : decode cX12_isBeetle 64 = .ok (.goto 4, 3) := by decide +kernel
theorem dX12_isBeetle_67 : decode cX12_isBeetle 67 = .ok (.iconst 0, 1) := by decide +kernel
theorem dX12_isBeetle_68 : decode cX12_isBeetle 68 = .ok (.istore_n 2, 1) := by decide +kernel
theorem dX12_isBeetle_69 : decode cX12_isBeetle 69 = .ok (.iinc 3 1, 3) := by decide +kernel
theorem dX12_isBeetle_72 : decode cX12_isBeetle 72 = .ok (.goto (-60), 3) := by decide +kernel
theorem dX12_isBeetle_75 : decode cX12_isBeetle 75 = .ok (.iload_n 2, 1) := by decide +kernel
theorem dX12_isBeetle_76 : decode cX12_isBeetle 76 = .ok (.ireturn, 1) := by decide +kernel
set_option maxRecDepth 20000 in
theorem ggX12_partsOf_X12_figureOf : GoodIn wsX12_partsOf wsX12_figureOf := goodIn_r _ [4, 5, 6, 3, 7] (by decide +kernel) (by decide +kernel)
set_option maxRecDepth 20000 in
theorem gX12_partsOf_X12_figureOf : GoodIn wsX12_partsOf (va_wsS RX12 75 yX12_figureOf wsX12_figureOf) := goodIn_app (goodIn_of _ (by decide +kernel)) ggX12_partsOf_X12_figureOf
theorem dX12_partsOf_0 : decode cX12_partsOf 0 = .ok (.iconst 0, 1) := by decide +kernel
theorem dX12_partsOf_1 : decode cX12_partsOf 1 = .ok (.istore_n 1, 1) := by decide +kernel
theorem dX12_partsOf_2 : decode cX12_partsOf 2 = .ok (.iconst 0, 1) := by decide +kernel
theorem dX12_partsOf_3 : decode cX12_partsOf 3 = .ok (.istore_n 2, 1) := by decide +kernel
theorem dX12_partsOf_4 : decode cX12_partsOf 4 = .ok (.iload_n 2, 1) := by decide +kernel
theorem dX12_partsOf_5 : decode cX12_partsOf 5 = .ok (.bipush 6, 2) := by decide +kernel
theorem dX12_partsOf_7 : decode cX12_partsOf 7 = .ok (.if_icmp .ge 17, 3) := by decide +kernel
theorem dX12_partsOf_10 : decode cX12_partsOf 10 = .ok (.iload_n 1, 1) := by decide +kernel
theorem dX12_partsOf_11 : decode cX12_partsOf 11 = .ok (.iload_n 0, 1) := by decide +kernel
theorem dX12_partsOf_12 : decode cX12_partsOf 12 = .ok (.iload_n 2, 1) := by decide +kernel
theorem dX12_partsOf_13 : decode cX12_partsOf 13 = .ok (.invokestatic 75, 3) := by decide +kernel
theorem dX12_partsOf_16 : decode cX12_partsOf 16 = .ok (.iadd, 1) := by decide +kernel
theorem dX12_partsOf_17 : decode cX12_partsOf 17 = .ok (.istore_n 1, 1) := by decide +kernel
theorem dX12_partsOf_18 : decode cX12_partsOf 18 = .ok (.iinc 2 1, 3) := by decide +kernel
theorem dX12_partsOf_21 : decode cX12_partsOf 21 = .ok (.goto (-17), 3) := by decide +kernel
theorem dX12_partsOf_24 : decode cX12_partsOf 24 = .ok (.iload_n 1, 1) := by decide +kernel
theorem dX12_partsOf_25 : decode cX12_partsOf 25 = .ok (.ireturn, 1) := by decide +kernel
set_option maxRecDepth 20000 in
theorem ggX12_canDraw_X12_figureOf : GoodIn wsX12_canDraw wsX12_figureOf := goodIn_r _ [5, 6, 7, 4, 8] (by decide +kernel) (by decide +kernel)
set_option maxRecDepth 20000 in
theorem gX12_canDraw_X12_figureOf : GoodIn wsX12_canDraw (va_wsS RX12 75 yX12_figureOf wsX12_figureOf) := goodIn_app (goodIn_of _ (by decide +kernel)) ggX12_canDraw_X12_figureOf
set_option maxRecDepth 20000 in
theorem ggX12_canDraw_X12_needOf : GoodIn wsX12_canDraw wsX12_needOf := goodIn_r _ [11] (by decide +kernel) (by decide +kernel)
set_option maxRecDepth 20000 in
theorem gX12_canDraw_X12_needOf : GoodIn wsX12_canDraw (va_wsS RX12 79 yX12_needOf wsX12_needOf) := goodIn_app (goodIn_of _ (by decide +kernel)) ggX12_canDraw_X12_needOf
theorem dX12_canDraw_0 : decode cX12_canDraw 0 = .ok (.bipush 6, 2) := by decide +kernel
theorem dX12_canDraw_2 : decode cX12_canDraw 2 = .ok (.iload_n 2, 1) := by decide +kernel
theorem dX12_canDraw_3 : decode cX12_canDraw 3 = .ok (.isub, 1) := by decide +kernel
theorem dX12_canDraw_4 : decode cX12_canDraw 4 = .ok (.istore_n 3, 1) := by decide +kernel
theorem dX12_canDraw_5 : decode cX12_canDraw 5 = .ok (.iload_n 1, 1) := by decide +kernel
theorem dX12_canDraw_6 : decode cX12_canDraw 6 = .ok (.iload_n 3, 1) := by decide +kernel
theorem dX12_canDraw_7 : decode cX12_canDraw 7 = .ok (.invokestatic 75, 3) := by decide +kernel
theorem dX12_canDraw_10 : decode cX12_canDraw 10 = .ok (.aload_n 0, 1) := by decide +kernel
theorem dX12_canDraw_11 : decode cX12_canDraw 11 = .ok (.getfield 7, 3) := by decide +kernel
theorem dX12_canDraw_14 : decode cX12_canDraw 14 = .ok (.iload_n 3, 1) := by decide +kernel
theorem dX12_canDraw_15 : decode cX12_canDraw 15 = .ok (.iaload, 1) := by decide +kernel
theorem dX12_canDraw_16 : decode cX12_canDraw 16 = .ok (.if_icmp .ge 25, 3) := by decide +kernel
theorem dX12_canDraw_19 : decode cX12_canDraw 19 = .ok (.iload_n 3, 1) := by decide +kernel
theorem dX12_canDraw_20 : decode cX12_canDraw 20 = .ok (.invokestatic 79, 3) := by decide +kernel
theorem dX12_canDraw_23 : decode cX12_canDraw 23 = .ok (.ifCond .lt 14, 3) := by decide +kernel
theorem dX12_canDraw_26 : decode cX12_canDraw 26 = .ok (.iload_n 1, 1) := by decide +kernel
theorem dX12_canDraw_27 : decode cX12_canDraw 27 = .ok (.iload_n 3, 1) := by decide +kernel
theorem dX12_canDraw_28 : decode cX12_canDraw 28 = .ok (.invokestatic 79, 3) := by decide +kernel
theorem dX12_canDraw_31 : decode cX12_canDraw 31 = .ok (.invokestatic 75, 3) := by decide +kernel
theorem dX12_canDraw_34 : decode cX12_canDraw 34 = .ok (.ifCond .le 7, 3) := by decide +kernel
theorem dX12_canDraw_37 : decode cX12_canDraw 37 = .ok (.iconst 1, 1) := by decide +kernel
theorem dX12_canDraw_38 : decode cX12_canDraw 38 = .ok (.goto 4, 3) := by decide +kernel
theorem dX12_canDraw_41 : decode cX12_canDraw 41 = .ok (.iconst 0, 1) := by decide +kernel
theorem dX12_canDraw_42 : decode cX12_canDraw 42 = .ok (.ireturn, 1) := by decide +kernel
set_option maxRecDepth 20000 in
theorem ggX12_drawnBy_X12_tenTo : GoodIn wsX12_drawnBy wsX12_tenTo := goodIn_r _ [4] (by decide +kernel) (by decide +kernel)
set_option maxRecDepth 20000 in
theorem gX12_drawnBy_X12_tenTo : GoodIn wsX12_drawnBy (va_wsS RX12 69 yX12_tenTo wsX12_tenTo) := goodIn_app (goodIn_of _ (by decide +kernel)) ggX12_drawnBy_X12_tenTo
theorem dX12_drawnBy_0 : decode cX12_drawnBy 0 = .ok (.iload_n 0, 1) := by decide +kernel
theorem dX12_drawnBy_1 : decode cX12_drawnBy 1 = .ok (.iload_n 1, 1) := by decide +kernel
theorem dX12_drawnBy_2 : decode cX12_drawnBy 2 = .ok (.iconst 1, 1) := by decide +kernel
theorem dX12_drawnBy_3 : decode cX12_drawnBy 3 = .ok (.isub, 1) := by decide +kernel
theorem dX12_drawnBy_4 : decode cX12_drawnBy 4 = .ok (.invokestatic 69, 3) := by decide +kernel
theorem dX12_drawnBy_7 : decode cX12_drawnBy 7 = .ok (.iadd, 1) := by decide +kernel
theorem dX12_drawnBy_8 : decode cX12_drawnBy 8 = .ok (.ireturn, 1) := by decide +kernel
set_option maxRecDepth 20000 in
theorem ggX12_player_X12_isPlayer : GoodIn wsX12_player wsX12_isPlayer := goodIn_r _ [7, 8, 9, 10, 6, 11] (by decide +kernel) (by decide +kernel)
set_option maxRecDepth 20000 in
theorem gX12_player_X12_isPlayer : GoodIn wsX12_player (va_wsS RX12 82 yX12_isPlayer wsX12_isPlayer) := goodIn_app (goodIn_of _ (by decide +kernel)) ggX12_player_X12_isPlayer
set_option maxRecDepth 20000 in
theorem ggX12_player_X12_isBeetle : GoodIn wsX12_player wsX12_isBeetle := goodIn_r _ [15, 16, 17, 9, 10, 6, 11, 18, 19, 20, 21, 22, 23, 24, 25, 26, 27, 28, 29, 30, 31, 32, 33, 34, 35, 36, 37, 38, 39, 40, 41, 42, 43, 44, 45, 46, 47, 48, 49, 50, 51, 52, 53, 54, 55, 56] (by decide +kernel) (by decide +kernel)
set_option maxRecDepth 20000 in
theorem gX12_player_X12_isBeetle : GoodIn wsX12_player (wsV RX12 86 RX12 yX12_isBeetle wsX12_isBeetle) := goodIn_app (goodIn_of _ (by decide +kernel)) ggX12_player_X12_isBeetle
set_option maxRecDepth 20000 in
theorem ggX12_player_X12_in : GoodIn wsX12_player wsX12_in := goodIn_r _ [11] (by decide +kernel) (by decide +kernel)
set_option maxRecDepth 20000 in
theorem gX12_player_X12_in : GoodIn wsX12_player (va_wsS RX12 65 yX12_in wsX12_in) := goodIn_app (goodIn_of _ (by decide +kernel)) ggX12_player_X12_in
theorem dX12_player_0 : decode cX12_player 0 = .ok (.iload_n 1, 1) := by decide +kernel
theorem dX12_player_1 : decode cX12_player 1 = .ok (.invokestatic 82, 3) := by decide +kernel
theorem dX12_player_4 : decode cX12_player 4 = .ok (.ifCond .ne 5, 3) := by decide +kernel
theorem dX12_player_7 : decode cX12_player 7 = .ok (.iconst (-1), 1) := by decide +kernel
theorem dX12_player_8 : decode cX12_player 8 = .ok (.ireturn, 1) := by decide +kernel
theorem dX12_player_9 : decode cX12_player 9 = .ok (.aload_n 0, 1) := by decide +kernel
theorem dX12_player_10 : decode cX12_player 10 = .ok (.iload_n 2, 1) := by decide +kernel
theorem dX12_player_11 : decode cX12_player 11 = .ok (.invokevirtual 86, 3) := by decide +kernel
theorem dX12_player_14 : decode cX12_player 14 = .ok (.ifCond .eq 15, 3) := by decide +kernel
theorem dX12_player_17 : decode cX12_player 17 = .ok (.iload_n 3, 1) := by decide +kernel
theorem dX12_player_18 : decode cX12_player 18 = .ok (.i2l, 1) := by decide +kernel
theorem dX12_player_19 : decode cX12_player 19 = .ok (.lconst 0, 1) := by decide +kernel
theorem dX12_player_20 : decode cX12_player 20 = .ok (.ldc2_w 89, 3) := by decide +kernel
theorem dX12_player_23 : decode cX12_player 23 = .ok (.invokestatic 65, 3) := by decide +kernel
theorem dX12_player_26 : decode cX12_player 26 = .ok (.ifCond .ne 6, 3) := by decide +kernel
theorem dX12_player_29 : decode cX12_player 29 = .ok (.bipush (-2), 2) := by decide +kernel
theorem dX12_player_31 : decode cX12_player 31 = .ok (.ireturn, 1) := by decide +kernel
theorem dX12_player_32 : decode cX12_player 32 = .ok (.aload_n 0, 1) := by decide +kernel
theorem dX12_player_33 : decode cX12_player 33 = .ok (.getfield 16, 3) := by decide +kernel
theorem dX12_player_36 : decode cX12_player 36 = .ok (.iload_n 1, 1) := by decide +kernel
theorem dX12_player_37 : decode cX12_player 37 = .ok (.iaload, 1) := by decide +kernel
theorem dX12_player_38 : decode cX12_player 38 = .ok (.istore 4, 2) := by decide +kernel
theorem dX12_player_40 : decode cX12_player 40 = .ok (.aload_n 0, 1) := by decide +kernel
theorem dX12_player_41 : decode cX12_player 41 = .ok (.getfield 13, 3) := by decide +kernel
theorem dX12_player_44 : decode cX12_player 44 = .ok (.iload_n 1, 1) := by decide +kernel
theorem dX12_player_45 : decode cX12_player 45 = .ok (.iload_n 2, 1) := by decide +kernel
theorem dX12_player_46 : decode cX12_player 46 = .ok (.iastore, 1) := by decide +kernel
theorem dX12_player_47 : decode cX12_player 47 = .ok (.aload_n 0, 1) := by decide +kernel
theorem dX12_player_48 : decode cX12_player 48 = .ok (.getfield 16, 3) := by decide +kernel
theorem dX12_player_51 : decode cX12_player 51 = .ok (.iload_n 1, 1) := by decide +kernel
theorem dX12_player_52 : decode cX12_player 52 = .ok (.iload_n 3, 1) := by decide +kernel
theorem dX12_player_53 : decode cX12_player 53 = .ok (.iastore, 1) := by decide +kernel
theorem dX12_player_54 : decode cX12_player 54 = .ok (.iload 4, 2) := by decide +kernel
theorem dX12_player_56 : decode cX12_player 56 = .ok (.ireturn, 1) := by decide +kernel
set_option maxRecDepth 20000 in
theorem ggX12_die_X12_isPlayer : GoodIn wsX12_die wsX12_isPlayer := goodIn_r _ [6, 7, 8, 9, 5, 10] (by decide +kernel) (by decide +kernel)
set_option maxRecDepth 20000 in
theorem gX12_die_X12_isPlayer : GoodIn wsX12_die (va_wsS RX12 82 yX12_isPlayer wsX12_isPlayer) := goodIn_app (goodIn_of _ (by decide +kernel)) ggX12_die_X12_isPlayer
theorem dX12_die_0 : decode cX12_die 0 = .ok (.iload_n 1, 1) := by decide +kernel
theorem dX12_die_1 : decode cX12_die 1 = .ok (.invokestatic 82, 3) := by decide +kernel
theorem dX12_die_4 : decode cX12_die 4 = .ok (.ifCond .ne 5, 3) := by decide +kernel
theorem dX12_die_7 : decode cX12_die 7 = .ok (.iconst (-1), 1) := by decide +kernel
theorem dX12_die_8 : decode cX12_die 8 = .ok (.ireturn, 1) := by decide +kernel
theorem dX12_die_9 : decode cX12_die 9 = .ok (.aload_n 0, 1) := by decide +kernel
theorem dX12_die_10 : decode cX12_die 10 = .ok (.getfield 19, 3) := by decide +kernel
theorem dX12_die_13 : decode cX12_die 13 = .ok (.iload_n 1, 1) := by decide +kernel
theorem dX12_die_14 : decode cX12_die 14 = .ok (.iaload, 1) := by decide +kernel
theorem dX12_die_15 : decode cX12_die 15 = .ok (.ifCond .ne 6, 3) := by decide +kernel
theorem dX12_die_18 : decode cX12_die 18 = .ok (.bipush (-3), 2) := by decide +kernel
theorem dX12_die_20 : decode cX12_die 20 = .ok (.ireturn, 1) := by decide +kernel
theorem dX12_die_21 : decode cX12_die 21 = .ok (.aload_n 0, 1) := by decide +kernel
theorem dX12_die_22 : decode cX12_die 22 = .ok (.getfield 91, 3) := by decide +kernel
theorem dX12_die_25 : decode cX12_die 25 = .ok (.istore_n 2, 1) := by decide +kernel
theorem dX12_die_26 : decode cX12_die 26 = .ok (.aload_n 0, 1) := by decide +kernel
theorem dX12_die_27 : decode cX12_die 27 = .ok (.iload_n 1, 1) := by decide +kernel
theorem dX12_die_28 : decode cX12_die 28 = .ok (.putfield 91, 3) := by decide +kernel
theorem dX12_die_31 : decode cX12_die 31 = .ok (.iload_n 2, 1) := by decide +kernel
theorem dX12_die_32 : decode cX12_die 32 = .ok (.ireturn, 1) := by decide +kernel
set_option maxRecDepth 20000 in
theorem ggX12_say_X12_in : GoodIn wsX12_say wsX12_in := goodIn_r _ [8] (by decide +kernel) (by decide +kernel)
set_option maxRecDepth 20000 in
theorem gX12_say_X12_in : GoodIn wsX12_say (va_wsS RX12 65 yX12_in wsX12_in) := goodIn_app (goodIn_of _ (by decide +kernel)) ggX12_say_X12_in
theorem dX12_say_0 : decode cX12_say 0 = .ok (.iload_n 1, 1) := by decide +kernel
theorem dX12_say_1 : decode cX12_say 1 = .ok (.i2l, 1) := by decide +kernel
theorem dX12_say_2 : decode cX12_say 2 = .ok (.ldc2_w 95, 3) := by decide +kernel
theorem dX12_say_5 : decode cX12_say 5 = .ok (.ldc2_w 97, 3) := by decide +kernel
theorem dX12_say_8 : decode cX12_say 8 = .ok (.invokestatic 65, 3) := by decide +kernel
theorem dX12_say_11 : decode cX12_say 11 = .ok (.ifCond .ne 6, 3) := by decide +kernel
theorem dX12_say_14 : decode cX12_say 14 = .ok (.bipush (-2), 2) := by decide +kernel
theorem dX12_say_16 : decode cX12_say 16 = .ok (.ireturn, 1) := by decide +kernel
theorem dX12_say_17 : decode cX12_say 17 = .ok (.aload_n 0, 1) := by decide +kernel
theorem dX12_say_18 : decode cX12_say 18 = .ok (.getfield 99, 3) := by decide +kernel
theorem dX12_say_21 : decode cX12_say 21 = .ok (.bipush 60, 2) := by decide +kernel
theorem dX12_say_23 : decode cX12_say 23 = .ok (.if_icmp .ne 6, 3) := by decide +kernel
theorem dX12_say_26 : decode cX12_say 26 = .ok (.bipush (-4), 2) := by decide +kernel
theorem dX12_say_28 : decode cX12_say 28 = .ok (.ireturn, 1) := by decide +kernel
theorem dX12_say_29 : decode cX12_say 29 = .ok (.aload_n 0, 1) := by decide +kernel
theorem dX12_say_30 : decode cX12_say 30 = .ok (.getfield 28, 3) := by decide +kernel
theorem dX12_say_33 : decode cX12_say 33 = .ok (.aload_n 0, 1) := by decide +kernel
theorem dX12_say_34 : decode cX12_say 34 = .ok (.getfield 99, 3) := by decide +kernel
theorem dX12_say_37 : decode cX12_say 37 = .ok (.iload_n 1, 1) := by decide +kernel
theorem dX12_say_38 : decode cX12_say 38 = .ok (.iastore, 1) := by decide +kernel
theorem dX12_say_39 : decode cX12_say 39 = .ok (.aload_n 0, 1) := by decide +kernel
theorem dX12_say_40 : decode cX12_say 40 = .ok (.dup, 1) := by decide +kernel
theorem dX12_say_41 : decode cX12_say 41 = .ok (.getfield 99, 3) := by decide +kernel
theorem dX12_say_44 : decode cX12_say 44 = .ok (.iconst 1, 1) := by decide +kernel
theorem dX12_say_45 : decode cX12_say 45 = .ok (.iadd, 1) := by decide +kernel
theorem dX12_say_46 : decode cX12_say 46 = .ok (.putfield 99, 3) := by decide +kernel
theorem dX12_say_49 : decode cX12_say 49 = .ok (.aload_n 0, 1) := by decide +kernel
theorem dX12_say_50 : decode cX12_say 50 = .ok (.getfield 99, 3) := by decide +kernel
theorem dX12_say_53 : decode cX12_say 53 = .ok (.ireturn, 1) := by decide +kernel
theorem dX12_wipe_0 : decode cX12_wipe 0 = .ok (.aload_n 0, 1) := by decide +kernel
theorem dX12_wipe_1 : decode cX12_wipe 1 = .ok (.getfield 99, 3) := by decide +kernel
theorem dX12_wipe_4 : decode cX12_wipe 4 = .ok (.istore_n 1, 1) := by decide +kernel
theorem dX12_wipe_5 : decode cX12_wipe 5 = .ok (.aload_n 0, 1) := by decide +kernel
theorem dX12_wipe_6 : decode cX12_wipe 6 = .ok (.iconst 0, 1) := by decide +kernel
theorem dX12_wipe_7 : decode cX12_wipe 7 = .ok (.putfield 99, 3) := by decide +kernel
theorem dX12_wipe_10 : decode cX12_wipe 10 = .ok (.iload_n 1, 1) := by decide +kernel
theorem dX12_wipe_11 : decode cX12_wipe 11 = .ok (.ireturn, 1) := by decide +kernel
theorem dX12_close_0 : decode cX12_close 0 = .ok (.aload_n 0, 1) := by decide +kernel
theorem dX12_close_1 : decode cX12_close 1 = .ok (.getfield 31, 3) := by decide +kernel
theorem dX12_close_4 : decode cX12_close 4 = .ok (.aload_n 0, 1) := by decide +kernel
theorem dX12_close_5 : decode cX12_close 5 = .ok (.getfield 102, 3) := by decide +kernel
theorem dX12_close_8 : decode cX12_close 8 = .ok (.iload_n 1, 1) := by decide +kernel
theorem dX12_close_9 : decode cX12_close 9 = .ok (.iastore, 1) := by decide +kernel
theorem dX12_close_10 : decode cX12_close 10 = .ok (.aload_n 0, 1) := by decide +kernel
theorem dX12_close_11 : decode cX12_close 11 = .ok (.getfield 34, 3) := by decide +kernel
theorem dX12_close_14 : decode cX12_close 14 = .ok (.aload_n 0, 1) := by decide +kernel
theorem dX12_close_15 : decode cX12_close 15 = .ok (.getfield 102, 3) := by decide +kernel
theorem dX12_close_18 : decode cX12_close 18 = .ok (.iload_n 2, 1) := by decide +kernel
theorem dX12_close_19 : decode cX12_close 19 = .ok (.iastore, 1) := by decide +kernel
theorem dX12_close_20 : decode cX12_close 20 = .ok (.aload_n 0, 1) := by decide +kernel
theorem dX12_close_21 : decode cX12_close 21 = .ok (.dup, 1) := by decide +kernel
theorem dX12_close_22 : decode cX12_close 22 = .ok (.getfield 102, 3) := by decide +kernel
theorem dX12_close_25 : decode cX12_close 25 = .ok (.iconst 1, 1) := by decide +kernel
theorem dX12_close_26 : decode cX12_close 26 = .ok (.iadd, 1) := by decide +kernel
theorem dX12_close_27 : decode cX12_close 27 = .ok (.putfield 102, 3) := by decide +kernel
theorem dX12_close_30 : decode cX12_close 30 = .ok (.iconst 0, 1) := by decide +kernel
theorem dX12_close_31 : decode cX12_close 31 = .ok (.ireturn, 1) := by decide +kernel
set_option maxRecDepth 20000 in
theorem ggX12_begin_X12_in : GoodIn wsX12_begin wsX12_in := goodIn_r _ [10] (by decide +kernel) (by decide +kernel)
set_option maxRecDepth 20000 in
theorem gX12_begin_X12_in : GoodIn wsX12_begin (va_wsS RX12 65 yX12_in wsX12_in) := goodIn_app (goodIn_of _ (by decide +kernel)) ggX12_begin_X12_in
set_option maxRecDepth 20000 in
theorem ggX12_begin_X12_close : GoodIn wsX12_begin wsX12_close := goodIn_r _ [14, 15, 4, 3, 16, 17, 18, 19, 20, 21, 22, 23, 24, 25, 26, 27, 28, 29, 30, 31, 32, 33, 34, 35, 36, 37, 38, 39, 40, 41, 42, 43, 44, 45] (by decide +kernel) (by decide +kernel)
set_option maxRecDepth 20000 in
theorem gX12_begin_X12_close : GoodIn wsX12_begin (wsV RX12 109 RX12 yX12_close wsX12_close) := goodIn_app (goodIn_of _ (by decide +kernel)) ggX12_begin_X12_close
theorem dX12_begin_0 : decode cX12_begin 0 = .ok (.iload_n 1, 1) := by decide +kernel
theorem dX12_begin_1 : decode cX12_begin 1 = .ok (.i2l, 1) := by decide +kernel
theorem dX12_begin_2 : decode cX12_begin 2 = .ok (.ldc2_w 105, 3) := by decide +kernel
theorem dX12_begin_5 : decode cX12_begin 5 = .ok (.ldc2_w 107, 3) := by decide +kernel
theorem dX12_begin_8 : decode cX12_begin 8 = .ok (.invokestatic 65, 3) := by decide +kernel
theorem dX12_begin_11 : decode cX12_begin 11 = .ok (.ifCond .eq 13, 3) := by decide +kernel
theorem dX12_begin_14 : decode cX12_begin 14 = .ok (.aload_n 0, 1) := by decide +kernel
theorem dX12_begin_15 : decode cX12_begin 15 = .ok (.iconst 0, 1) := by decide +kernel
theorem dX12_begin_16 : decode cX12_begin 16 = .ok (.iload_n 1, 1) := by decide +kernel
theorem dX12_begin_17 : decode cX12_begin 17 = .ok (.bipush 48, 2) := by decide +kernel
theorem dX12_begin_19 : decode cX12_begin 19 = .ok (.isub, 1) := by decide +kernel
theorem dX12_begin_20 : decode cX12_begin 20 = .ok (.invokevirtual 109, 3) := by decide +kernel
theorem dX12_begin_23 : decode cX12_begin 23 = .ok (.ireturn, 1) := by decide +kernel
theorem dX12_begin_24 : decode cX12_begin 24 = .ok (.aload_n 0, 1) := by decide +kernel
theorem dX12_begin_25 : decode cX12_begin 25 = .ok (.getfield 34, 3) := by decide +kernel
theorem dX12_begin_28 : decode cX12_begin 28 = .ok (.aload_n 0, 1) := by decide +kernel
theorem dX12_begin_29 : decode cX12_begin 29 = .ok (.getfield 102, 3) := by decide +kernel
theorem dX12_begin_32 : decode cX12_begin 32 = .ok (.iload_n 1, 1) := by decide +kernel
theorem dX12_begin_33 : decode cX12_begin 33 = .ok (.bipush 65, 2) := by decide +kernel
theorem dX12_begin_35 : decode cX12_begin 35 = .ok (.isub, 1) := by decide +kernel
theorem dX12_begin_36 : decode cX12_begin 36 = .ok (.iastore, 1) := by decide +kernel
theorem dX12_begin_37 : decode cX12_begin 37 = .ok (.iload_n 1, 1) := by decide +kernel
theorem dX12_begin_38 : decode cX12_begin 38 = .ok (.bipush 46, 2) := by decide +kernel
theorem dX12_begin_40 : decode cX12_begin 40 = .ok (.if_icmp .ne 12, 3) := by decide +kernel
theorem dX12_begin_43 : decode cX12_begin 43 = .ok (.aload_n 0, 1) := by decide +kernel
theorem dX12_begin_44 : decode cX12_begin 44 = .ok (.iconst 1, 1) := by decide +kernel
theorem dX12_begin_45 : decode cX12_begin 45 = .ok (.iconst 0, 1) := by decide +kernel
theorem dX12_begin_46 : decode cX12_begin 46 = .ok (.invokevirtual 109, 3) := by decide +kernel
theorem dX12_begin_49 : decode cX12_begin 49 = .ok (.goto 23, 3) := by decide +kernel
theorem dX12_begin_52 : decode cX12_begin 52 = .ok (.iload_n 1, 1) := by decide +kernel
theorem dX12_begin_53 : decode cX12_begin 53 = .ok (.i2l, 1) := by decide +kernel
theorem dX12_begin_54 : decode cX12_begin 54 = .ok (.ldc2_w 112, 3) := by decide +kernel
theorem dX12_begin_57 : decode cX12_begin 57 = .ok (.ldc2_w 114, 3) := by decide +kernel
theorem dX12_begin_60 : decode cX12_begin 60 = .ok (.invokestatic 65, 3) := by decide +kernel
theorem dX12_begin_63 : decode cX12_begin 63 = .ok (.ifCond .eq 7, 3) := by decide +kernel
theorem dX12_begin_66 : decode cX12_begin 66 = .ok (.iconst 1, 1) := by decide +kernel
theorem dX12_begin_67 : decode cX12_begin 67 = .ok (.goto 5, 3) := by decide +kernel
theorem dX12_begin_70 : decode cX12_begin 70 = .ok (.bipush (-6), 2) := by decide +kernel
theorem dX12_begin_72 : decode cX12_begin 72 = .ok (.ireturn, 1) := by decide +kernel
set_option maxRecDepth 20000 in
theorem ggX12_deed_X12_close : GoodIn wsX12_deed wsX12_close := goodIn_r _ [7, 8, 2, 1, 9, 10, 11, 12, 13, 14, 15, 16, 17, 18, 19, 20, 21, 22, 23, 24, 25, 26, 27, 28, 29, 30, 31, 32, 33, 34, 35, 36, 37, 38] (by decide +kernel) (by decide +kernel)
set_option maxRecDepth 20000 in
theorem gX12_deed_X12_close : GoodIn wsX12_deed (wsV RX12 109 RX12 yX12_close wsX12_close) := goodIn_app (goodIn_of _ (by decide +kernel)) ggX12_deed_X12_close
theorem dX12_deed_0 : decode cX12_deed 0 = .ok (.iload_n 1, 1) := by decide +kernel
theorem dX12_deed_1 : decode cX12_deed 1 = .ok (.bipush 33, 2) := by decide +kernel
theorem dX12_deed_3 : decode cX12_deed 3 = .ok (.if_icmp .ne 20, 3) := by decide +kernel
theorem dX12_deed_6 : decode cX12_deed 6 = .ok (.aload_n 0, 1) := by decide +kernel
theorem dX12_deed_7 : decode cX12_deed 7 = .ok (.iconst 2, 1) := by decide +kernel
theorem dX12_deed_8 : decode cX12_deed 8 = .ok (.aload_n 0, 1) := by decide +kernel
theorem dX12_deed_9 : decode cX12_deed 9 = .ok (.getfield 34, 3) := by decide +kernel
theorem dX12_deed_12 : decode cX12_deed 12 = .ok (.aload_n 0, 1) := by decide +kernel
theorem dX12_deed_13 : decode cX12_deed 13 = .ok (.getfield 102, 3) := by decide +kernel
theorem dX12_deed_16 : decode cX12_deed 16 = .ok (.iaload, 1) := by decide +kernel
theorem dX12_deed_17 : decode cX12_deed 17 = .ok (.invokevirtual 109, 3) := by decide +kernel
theorem dX12_deed_20 : decode cX12_deed 20 = .ok (.goto 28, 3) := by decide +kernel
theorem dX12_deed_23 : decode cX12_deed 23 = .ok (.iload_n 1, 1) := by decide +kernel
theorem dX12_deed_24 : decode cX12_deed 24 = .ok (.bipush 35, 2) := by decide +kernel
theorem dX12_deed_26 : decode cX12_deed 26 = .ok (.if_icmp .ne 20, 3) := by decide +kernel
theorem dX12_deed_29 : decode cX12_deed 29 = .ok (.aload_n 0, 1) := by decide +kernel
theorem dX12_deed_30 : decode cX12_deed 30 = .ok (.iconst 3, 1) := by decide +kernel
theorem dX12_deed_31 : decode cX12_deed 31 = .ok (.aload_n 0, 1) := by decide +kernel
theorem dX12_deed_32 : decode cX12_deed 32 = .ok (.getfield 34, 3) := by decide +kernel
theorem dX12_deed_35 : decode cX12_deed 35 = .ok (.aload_n 0, 1) := by decide +kernel
theorem dX12_deed_36 : decode cX12_deed 36 = .ok (.getfield 102, 3) := by decide +kernel
theorem dX12_deed_39 : decode cX12_deed 39 = .ok (.iaload, 1) := by decide +kernel
theorem dX12_deed_40 : decode cX12_deed 40 = .ok (.invokevirtual 109, 3) := by decide +kernel
theorem dX12_deed_43 : decode cX12_deed 43 = .ok (.goto 5, 3) := by decide +kernel
theorem dX12_deed_46 : decode cX12_deed 46 = .ok (.bipush (-6), 2) := by decide +kernel
theorem dX12_deed_48 : decode cX12_deed 48 = .ok (.ireturn, 1) := by decide +kernel
set_option maxRecDepth 20000 in
theorem ggX12_fault_X12_begin : GoodIn wsX12_fault wsX12_begin := goodIn_r _ [8, 9, 10, 11, 1, 12, 13, 14, 15, 7, 16, 17, 18, 19, 20, 21, 26, 27, 28, 29, 30, 31, 32, 33, 34, 35, 36, 37, 38, 39, 40, 41, 42, 43, 44, 45, 46, 47, 48, 49, 50, 51, 52, 53, 54, 55] (by decide +kernel) (by decide +kernel)
set_option maxRecDepth 20000 in
theorem gX12_fault_X12_begin : GoodIn wsX12_fault (wsV RX12 116 RX12 yX12_begin wsX12_begin) := goodIn_app (goodIn_of _ (by decide +kernel)) ggX12_fault_X12_begin
set_option maxRecDepth 20000 in
theorem ggX12_fault_X12_deed : GoodIn wsX12_fault wsX12_deed := goodIn_r _ [25, 11, 1, 17, 18, 19, 7, 20, 21, 26, 27, 28, 29, 30, 31, 32, 33, 34, 35, 36, 37, 38, 39, 40, 41, 42, 43, 44, 45, 46, 47, 48, 49, 50, 51, 52, 53, 54, 55] (by decide +kernel) (by decide +kernel)
set_option maxRecDepth 20000 in
theorem gX12_fault_X12_deed : GoodIn wsX12_fault (wsV RX12 119 RX12 yX12_deed wsX12_deed) := goodIn_app (goodIn_of _ (by decide +kernel)) ggX12_fault_X12_deed
theorem dX12_fault_0 : decode cX12_fault 0 = .ok (.aload_n 0, 1) := by decide +kernel
theorem dX12_fault_1 : decode cX12_fault 1 = .ok (.iconst 0, 1) := by decide +kernel
theorem dX12_fault_2 : decode cX12_fault 2 = .ok (.putfield 102, 3) := by decide +kernel
theorem dX12_fault_5 : decode cX12_fault 5 = .ok (.iconst 0, 1) := by decide +kernel
theorem dX12_fault_6 : decode cX12_fault 6 = .ok (.istore_n 1, 1) := by decide +kernel
theorem dX12_fault_7 : decode cX12_fault 7 = .ok (.iconst 0, 1) := by decide +kernel
theorem dX12_fault_8 : decode cX12_fault 8 = .ok (.istore_n 2, 1) := by decide +kernel
theorem dX12_fault_9 : decode cX12_fault 9 = .ok (.iload_n 2, 1) := by decide +kernel
theorem dX12_fault_10 : decode cX12_fault 10 = .ok (.aload_n 0, 1) := by decide +kernel
theorem dX12_fault_11 : decode cX12_fault 11 = .ok (.getfield 99, 3) := by decide +kernel
theorem dX12_fault_14 : decode cX12_fault 14 = .ok (.if_icmp .ge 43, 3) := by decide +kernel
theorem dX12_fault_17 : decode cX12_fault 17 = .ok (.iload_n 1, 1) := by decide +kernel
theorem dX12_fault_18 : decode cX12_fault 18 = .ok (.ifCond .ne 16, 3) := by decide +kernel
theorem dX12_fault_21 : decode cX12_fault 21 = .ok (.aload_n 0, 1) := by decide +kernel
theorem dX12_fault_22 : decode cX12_fault 22 = .ok (.aload_n 0, 1) := by decide +kernel
theorem dX12_fault_23 : decode cX12_fault 23 = .ok (.getfield 28, 3) := by decide +kernel
theorem dX12_fault_26 : decode cX12_fault 26 = .ok (.iload_n 2, 1) := by decide +kernel
theorem dX12_fault_27 : decode cX12_fault 27 = .ok (.iaload, 1) := by decide +kernel
theorem dX12_fault_28 : decode cX12_fault 28 = .ok (.invokevirtual 116, 3) := by decide +kernel
theorem dX12_fault_31 : decode cX12_fault 31 = .ok (.goto 13, 3) := by decide +kernel
theorem dX12_fault_34 : decode cX12_fault 34 = .ok (.aload_n 0, 1) := by decide +kernel
theorem dX12_fault_35 : decode cX12_fault 35 = .ok (.aload_n 0, 1) := by decide +kernel
theorem dX12_fault_36 : decode cX12_fault 36 = .ok (.getfield 28, 3) := by decide +kernel
theorem dX12_fault_39 : decode cX12_fault 39 = .ok (.iload_n 2, 1) := by decide +kernel
theorem dX12_fault_40 : decode cX12_fault 40 = .ok (.iaload, 1) := by decide +kernel
theorem dX12_fault_41 : decode cX12_fault 41 = .ok (.invokevirtual 119, 3) := by decide +kernel
theorem dX12_fault_44 : decode cX12_fault 44 = .ok (.istore_n 1, 1) := by decide +kernel
theorem dX12_fault_45 : decode cX12_fault 45 = .ok (.iload_n 1, 1) := by decide +kernel
theorem dX12_fault_46 : decode cX12_fault 46 = .ok (.ifCond .ge 5, 3) := by decide +kernel
theorem dX12_fault_49 : decode cX12_fault 49 = .ok (.iload_n 2, 1) := by decide +kernel
theorem dX12_fault_50 : decode cX12_fault 50 = .ok (.ireturn, 1) := by decide +kernel
theorem dX12_fault_51 : decode cX12_fault 51 = .ok (.iinc 2 1, 3) := by decide +kernel
theorem dX12_fault_54 : decode cX12_fault 54 = .ok (.goto (-45), 3) := by decide +kernel
theorem dX12_fault_57 : decode cX12_fault 57 = .ok (.iload_n 1, 1) := by decide +kernel
theorem dX12_fault_58 : decode cX12_fault 58 = .ok (.ifCond .ne 8, 3) := by decide +kernel
theorem dX12_fault_61 : decode cX12_fault 61 = .ok (.bipush (-6), 2) := by decide +kernel
theorem dX12_fault_63 : decode cX12_fault 63 = .ok (.goto 7, 3) := by decide +kernel
theorem dX12_fault_66 : decode cX12_fault 66 = .ok (.aload_n 0, 1) := by decide +kernel
theorem dX12_fault_67 : decode cX12_fault 67 = .ok (.getfield 99, 3) := by decide +kernel
theorem dX12_fault_70 : decode cX12_fault 70 = .ok (.ireturn, 1) := by decide +kernel
theorem dX12_inMany_0 : decode cX12_inMany 0 = .ok (.iconst 0, 1) := by decide +kernel
theorem dX12_inMany_1 : decode cX12_inMany 1 = .ok (.istore_n 1, 1) := by decide +kernel
theorem dX12_inMany_2 : decode cX12_inMany 2 = .ok (.iconst 0, 1) := by decide +kernel
theorem dX12_inMany_3 : decode cX12_inMany 3 = .ok (.istore_n 2, 1) := by decide +kernel
theorem dX12_inMany_4 : decode cX12_inMany 4 = .ok (.iload_n 2, 1) := by decide +kernel
theorem dX12_inMany_5 : decode cX12_inMany 5 = .ok (.bipush 6, 2) := by decide +kernel
theorem dX12_inMany_7 : decode cX12_inMany 7 = .ok (.if_icmp .ge 18, 3) := by decide +kernel
theorem dX12_inMany_10 : decode cX12_inMany 10 = .ok (.iload_n 1, 1) := by decide +kernel
theorem dX12_inMany_11 : decode cX12_inMany 11 = .ok (.aload_n 0, 1) := by decide +kernel
theorem dX12_inMany_12 : decode cX12_inMany 12 = .ok (.getfield 19, 3) := by decide +kernel
theorem dX12_inMany_15 : decode cX12_inMany 15 = .ok (.iload_n 2, 1) := by decide +kernel
theorem dX12_inMany_16 : decode cX12_inMany 16 = .ok (.iaload, 1) := by decide +kernel
theorem dX12_inMany_17 : decode cX12_inMany 17 = .ok (.iadd, 1) := by decide +kernel
theorem dX12_inMany_18 : decode cX12_inMany 18 = .ok (.istore_n 1, 1) := by decide +kernel
theorem dX12_inMany_19 : decode cX12_inMany 19 = .ok (.iinc 2 1, 3) := by decide +kernel
theorem dX12_inMany_22 : decode cX12_inMany 22 = .ok (.goto (-18), 3) := by decide +kernel
theorem dX12_inMany_25 : decode cX12_inMany 25 = .ok (.iload_n 1, 1) := by decide +kernel
theorem dX12_inMany_26 : decode cX12_inMany 26 = .ok (.ireturn, 1) := by decide +kernel
set_option maxRecDepth 20000 in
theorem ggX12_whyNot_X12_inMany : GoodIn wsX12_whyNot wsX12_inMany := goodIn_r _ [10, 4, 11, 12, 13, 14, 15, 16, 17, 18, 19, 20, 21, 22, 23, 24, 25, 26, 27, 28, 29, 30, 31, 32, 33, 34, 35, 36, 37, 38, 39, 40] (by decide +kernel) (by decide +kernel)
set_option maxRecDepth 20000 in
theorem gX12_whyNot_X12_inMany : GoodIn wsX12_whyNot (wsV RX12 126 RX12 yX12_inMany wsX12_inMany) := goodIn_app (goodIn_of _ (by decide +kernel)) ggX12_whyNot_X12_inMany
theorem dX12_whyNot_0 : decode cX12_whyNot 0 = .ok (.iload_n 1, 1) := by decide +kernel
theorem dX12_whyNot_1 : decode cX12_whyNot 1 = .ok (.tableswitch 114 0 3 #[31, 114, 51, 90], 31) := by decide +kernel
theorem dX12_whyNot_32 : decode cX12_whyNot 32 = .ok (.aload_n 0, 1) := by decide +kernel
theorem dX12_whyNot_33 : decode cX12_whyNot 33 = .ok (.getfield 13, 3) := by decide +kernel
theorem dX12_whyNot_36 : decode cX12_whyNot 36 = .ok (.aload_n 0, 1) := by decide +kernel
theorem dX12_whyNot_37 : decode cX12_whyNot 37 = .ok (.getfield 91, 3) := by decide +kernel
theorem dX12_whyNot_40 : decode cX12_whyNot 40 = .ok (.iaload, 1) := by decide +kernel
theorem dX12_whyNot_41 : decode cX12_whyNot 41 = .ok (.ldc 122, 2) := by decide +kernel
theorem dX12_whyNot_43 : decode cX12_whyNot 43 = .ok (.if_icmp .ne 7, 3) := by decide +kernel
theorem dX12_whyNot_46 : decode cX12_whyNot 46 = .ok (.iconst 1, 1) := by decide +kernel
theorem dX12_whyNot_47 : decode cX12_whyNot 47 = .ok (.goto 4, 3) := by decide +kernel
theorem dX12_whyNot_50 : decode cX12_whyNot 50 = .ok (.iconst 0, 1) := by decide +kernel
theorem dX12_whyNot_51 : decode cX12_whyNot 51 = .ok (.ireturn, 1) := by decide +kernel
theorem dX12_whyNot_52 : decode cX12_whyNot 52 = .ok (.aload_n 0, 1) := by decide +kernel
theorem dX12_whyNot_53 : decode cX12_whyNot 53 = .ok (.getfield 13, 3) := by decide +kernel
theorem dX12_whyNot_56 : decode cX12_whyNot 56 = .ok (.iload_n 2, 1) := by decide +kernel
theorem dX12_whyNot_57 : decode cX12_whyNot 57 = .ok (.iaload, 1) := by decide +kernel
theorem dX12_whyNot_58 : decode cX12_whyNot 58 = .ok (.ldc 122, 2) := by decide +kernel
theorem dX12_whyNot_60 : decode cX12_whyNot 60 = .ok (.if_icmp .ne 12, 3) := by decide +kernel
theorem dX12_whyNot_63 : decode cX12_whyNot 63 = .ok (.aload_n 0, 1) := by decide +kernel
theorem dX12_whyNot_64 : decode cX12_whyNot 64 = .ok (.getfield 19, 3) := by decide +kernel
theorem dX12_whyNot_67 : decode cX12_whyNot 67 = .ok (.iload_n 2, 1) := by decide +kernel
theorem dX12_whyNot_68 : decode cX12_whyNot 68 = .ok (.iaload, 1) := by decide +kernel
theorem dX12_whyNot_69 : decode cX12_whyNot 69 = .ok (.ifCond .ne 7, 3) := by decide +kernel
theorem dX12_whyNot_72 : decode cX12_whyNot 72 = .ok (.iconst 2, 1) := by decide +kernel
theorem dX12_whyNot_73 : decode cX12_whyNot 73 = .ok (.goto 17, 3) := by decide +kernel
theorem dX12_whyNot_76 : decode cX12_whyNot 76 = .ok (.aload_n 0, 1) := by decide +kernel
theorem dX12_whyNot_77 : decode cX12_whyNot 77 = .ok (.getfield 123, 3) := by decide +kernel
theorem dX12_whyNot_80 : decode cX12_whyNot 80 = .ok (.bipush 99, 2) := by decide +kernel
theorem dX12_whyNot_82 : decode cX12_whyNot 82 = .ok (.if_icmp .ne 7, 3) := by decide +kernel
theorem dX12_whyNot_85 : decode cX12_whyNot 85 = .ok (.iconst 4, 1) := by decide +kernel
theorem dX12_whyNot_86 : decode cX12_whyNot 86 = .ok (.goto 4, 3) := by decide +kernel
theorem dX12_whyNot_89 : decode cX12_whyNot 89 = .ok (.iconst 0, 1) := by decide +kernel
theorem dX12_whyNot_90 : decode cX12_whyNot 90 = .ok (.ireturn, 1) := by decide +kernel
theorem dX12_whyNot_91 : decode cX12_whyNot 91 = .ok (.aload_n 0, 1) := by decide +kernel
theorem dX12_whyNot_92 : decode cX12_whyNot 92 = .ok (.getfield 19, 3) := by decide +kernel
theorem dX12_whyNot_95 : decode cX12_whyNot 95 = .ok (.iload_n 2, 1) := by decide +kernel
theorem dX12_whyNot_96 : decode cX12_whyNot 96 = .ok (.iaload, 1) := by decide +kernel
theorem dX12_whyNot_97 : decode cX12_whyNot 97 = .ok (.iconst 1, 1) := by decide +kernel
theorem dX12_whyNot_98 : decode cX12_whyNot 98 = .ok (.if_icmp .ne 15, 3) := by decide +kernel
theorem dX12_whyNot_101 : decode cX12_whyNot 101 = .ok (.aload_n 0, 1) := by decide +kernel
theorem dX12_whyNot_102 : decode cX12_whyNot 102 = .ok (.invokevirtual 126, 3) := by decide +kernel
theorem dX12_whyNot_105 : decode cX12_whyNot 105 = .ok (.iconst 1, 1) := by decide +kernel
theorem dX12_whyNot_106 : decode cX12_whyNot 106 = .ok (.if_icmp .ne 7, 3) := by decide +kernel
theorem dX12_whyNot_109 : decode cX12_whyNot 109 = .ok (.iconst 3, 1) := by decide +kernel
theorem dX12_whyNot_110 : decode cX12_whyNot 110 = .ok (.goto 4, 3) := by decide +kernel
theorem dX12_whyNot_113 : decode cX12_whyNot 113 = .ok (.iconst 0, 1) := by decide +kernel
theorem dX12_whyNot_114 : decode cX12_whyNot 114 = .ok (.ireturn, 1) := by decide +kernel
theorem dX12_whyNot_115 : decode cX12_whyNot 115 = .ok (.iconst 0, 1) := by decide +kernel
theorem dX12_whyNot_116 : decode cX12_whyNot 116 = .ok (.ireturn, 1) := by decide +kernel
theorem dX12_goesOn_0 : decode cX12_goesOn 0 = .ok (.aload_n 0, 1) := by decide +kernel
theorem dX12_goesOn_1 : decode cX12_goesOn 1 = .ok (.aload_n 0, 1) := by decide +kernel
theorem dX12_goesOn_2 : decode cX12_goesOn 2 = .ok (.getfield 91, 3) := by decide +kernel
theorem dX12_goesOn_5 : decode cX12_goesOn 5 = .ok (.iconst 1, 1) := by decide +kernel
theorem dX12_goesOn_6 : decode cX12_goesOn 6 = .ok (.iadd, 1) := by decide +kernel
theorem dX12_goesOn_7 : decode cX12_goesOn 7 = .ok (.bipush 6, 2) := by decide +kernel
theorem dX12_goesOn_9 : decode cX12_goesOn 9 = .ok (.irem, 1) := by decide +kernel
theorem dX12_goesOn_10 : decode cX12_goesOn 10 = .ok (.putfield 91, 3) := by decide +kernel
theorem dX12_goesOn_13 : decode cX12_goesOn 13 = .ok (.aload_n 0, 1) := by decide +kernel
theorem dX12_goesOn_14 : decode cX12_goesOn 14 = .ok (.getfield 19, 3) := by decide +kernel
theorem dX12_goesOn_17 : decode cX12_goesOn 17 = .ok (.aload_n 0, 1) := by decide +kernel
theorem dX12_goesOn_18 : decode cX12_goesOn 18 = .ok (.getfield 91, 3) := by decide +kernel
theorem dX12_goesOn_21 : decode cX12_goesOn 21 = .ok (.iaload, 1) := by decide +kernel
theorem dX12_goesOn_22 : decode cX12_goesOn 22 = .ok (.ifCond .ne 19, 3) := by decide +kernel
theorem dX12_goesOn_25 : decode cX12_goesOn 25 = .ok (.aload_n 0, 1) := by decide +kernel
theorem dX12_goesOn_26 : decode cX12_goesOn 26 = .ok (.aload_n 0, 1) := by decide +kernel
theorem dX12_goesOn_27 : decode cX12_goesOn 27 = .ok (.getfield 91, 3) := by decide +kernel
theorem dX12_goesOn_30 : decode cX12_goesOn 30 = .ok (.iconst 1, 1) := by decide +kernel
theorem dX12_goesOn_31 : decode cX12_goesOn 31 = .ok (.iadd, 1) := by decide +kernel
theorem dX12_goesOn_32 : decode cX12_goesOn 32 = .ok (.bipush 6, 2) := by decide +kernel
theorem dX12_goesOn_34 : decode cX12_goesOn 34 = .ok (.irem, 1) := by decide +kernel
theorem dX12_goesOn_35 : decode cX12_goesOn 35 = .ok (.putfield 91, 3) := by decide +kernel
theorem dX12_goesOn_38 : decode cX12_goesOn 38 = .ok (.goto (-25), 3) := by decide +kernel
theorem dX12_goesOn_41 : decode cX12_goesOn 41 = .ok (.return_, 1) := by decide +kernel
set_option maxRecDepth 20000 in
theorem ggX12_cast_X12_canDraw : GoodIn wsX12_cast wsX12_canDraw := goodIn_r _ [10, 11, 12, 13, 9, 14, 15, 16, 17, 18, 19, 20, 29, 30, 31, 32, 33, 34, 35, 36, 37, 38, 39, 40, 41, 42, 43, 44, 45, 46, 47, 48, 49, 50, 51, 52, 53, 54, 55, 56, 57, 58] (by decide +kernel) (by decide +kernel)
set_option maxRecDepth 20000 in
theorem gX12_cast_X12_canDraw : GoodIn wsX12_cast (wsV RX12 130 RX12 yX12_canDraw wsX12_canDraw) := goodIn_app (goodIn_of _ (by decide +kernel)) ggX12_cast_X12_canDraw
set_option maxRecDepth 20000 in
theorem ggX12_cast_X12_goesOn : GoodIn wsX12_cast wsX12_goesOn := goodIn_r _ [24, 2, 25, 29, 30, 31, 32, 33, 34, 35, 36, 37, 38, 39, 40, 41, 42, 43, 44, 45, 46, 47, 48, 49, 50, 51, 52, 53, 54, 55, 56, 57, 58] (by decide +kernel) (by decide +kernel)
set_option maxRecDepth 20000 in
theorem gX12_cast_X12_goesOn : GoodIn wsX12_cast (wsV RX12 137 RX12 yX12_goesOn wsX12_goesOn) := goodIn_app (goodIn_of _ (by decide +kernel)) ggX12_cast_X12_goesOn
set_option maxRecDepth 20000 in
theorem ggX12_cast_X12_drawnBy : GoodIn wsX12_cast wsX12_drawnBy := goodIn_r _ [28, 15, 16, 9, 17] (by decide +kernel) (by decide +kernel)
set_option maxRecDepth 20000 in
theorem gX12_cast_X12_drawnBy : GoodIn wsX12_cast (va_wsS RX12 140 yX12_drawnBy wsX12_drawnBy) := goodIn_app (goodIn_of _ (by decide +kernel)) ggX12_cast_X12_drawnBy
theorem dX12_cast_0 : decode cX12_cast 0 = .ok (.aload_n 0, 1) := by decide +kernel
theorem dX12_cast_1 : decode cX12_cast 1 = .ok (.aload_n 0, 1) := by decide +kernel
theorem dX12_cast_2 : decode cX12_cast 2 = .ok (.getfield 13, 3) := by decide +kernel
theorem dX12_cast_5 : decode cX12_cast 5 = .ok (.aload_n 0, 1) := by decide +kernel
theorem dX12_cast_6 : decode cX12_cast 6 = .ok (.getfield 91, 3) := by decide +kernel
theorem dX12_cast_9 : decode cX12_cast 9 = .ok (.iaload, 1) := by decide +kernel
theorem dX12_cast_10 : decode cX12_cast 10 = .ok (.iload_n 1, 1) := by decide +kernel
theorem dX12_cast_11 : decode cX12_cast 11 = .ok (.invokevirtual 130, 3) := by decide +kernel
theorem dX12_cast_14 : decode cX12_cast 14 = .ok (.ifCond .ne 18, 3) := by decide +kernel
theorem dX12_cast_17 : decode cX12_cast 17 = .ok (.aload_n 0, 1) := by decide +kernel
theorem dX12_cast_18 : decode cX12_cast 18 = .ok (.dup, 1) := by decide +kernel
theorem dX12_cast_19 : decode cX12_cast 19 = .ok (.getfield 134, 3) := by decide +kernel
theorem dX12_cast_22 : decode cX12_cast 22 = .ok (.iconst 1, 1) := by decide +kernel
theorem dX12_cast_23 : decode cX12_cast 23 = .ok (.iadd, 1) := by decide +kernel
theorem dX12_cast_24 : decode cX12_cast 24 = .ok (.putfield 134, 3) := by decide +kernel
theorem dX12_cast_27 : decode cX12_cast 27 = .ok (.aload_n 0, 1) := by decide +kernel
theorem dX12_cast_28 : decode cX12_cast 28 = .ok (.invokevirtual 137, 3) := by decide +kernel
theorem dX12_cast_31 : decode cX12_cast 31 = .ok (.return_, 1) := by decide +kernel
theorem dX12_cast_32 : decode cX12_cast 32 = .ok (.aload_n 0, 1) := by decide +kernel
theorem dX12_cast_33 : decode cX12_cast 33 = .ok (.getfield 13, 3) := by decide +kernel
theorem dX12_cast_36 : decode cX12_cast 36 = .ok (.aload_n 0, 1) := by decide +kernel
theorem dX12_cast_37 : decode cX12_cast 37 = .ok (.getfield 91, 3) := by decide +kernel
theorem dX12_cast_40 : decode cX12_cast 40 = .ok (.aload_n 0, 1) := by decide +kernel
theorem dX12_cast_41 : decode cX12_cast 41 = .ok (.getfield 13, 3) := by decide +kernel
theorem dX12_cast_44 : decode cX12_cast 44 = .ok (.aload_n 0, 1) := by decide +kernel
theorem dX12_cast_45 : decode cX12_cast 45 = .ok (.getfield 91, 3) := by decide +kernel
theorem dX12_cast_48 : decode cX12_cast 48 = .ok (.iaload, 1) := by decide +kernel
theorem dX12_cast_49 : decode cX12_cast 49 = .ok (.iload_n 1, 1) := by decide +kernel
theorem dX12_cast_50 : decode cX12_cast 50 = .ok (.invokestatic 140, 3) := by decide +kernel
theorem dX12_cast_53 : decode cX12_cast 53 = .ok (.iastore, 1) := by decide +kernel
theorem dX12_cast_54 : decode cX12_cast 54 = .ok (.aload_n 0, 1) := by decide +kernel
theorem dX12_cast_55 : decode cX12_cast 55 = .ok (.aload_n 0, 1) := by decide +kernel
theorem dX12_cast_56 : decode cX12_cast 56 = .ok (.getfield 13, 3) := by decide +kernel
theorem dX12_cast_59 : decode cX12_cast 59 = .ok (.aload_n 0, 1) := by decide +kernel
theorem dX12_cast_60 : decode cX12_cast 60 = .ok (.getfield 91, 3) := by decide +kernel
theorem dX12_cast_63 : decode cX12_cast 63 = .ok (.iaload, 1) := by decide +kernel
theorem dX12_cast_64 : decode cX12_cast 64 = .ok (.ldc 122, 2) := by decide +kernel
theorem dX12_cast_66 : decode cX12_cast 66 = .ok (.if_icmp .ne 10, 3) := by decide +kernel
theorem dX12_cast_69 : decode cX12_cast 69 = .ok (.aload_n 0, 1) := by decide +kernel
theorem dX12_cast_70 : decode cX12_cast 70 = .ok (.getfield 91, 3) := by decide +kernel
theorem dX12_cast_73 : decode cX12_cast 73 = .ok (.goto 5, 3) := by decide +kernel
theorem dX12_cast_76 : decode cX12_cast 76 = .ok (.bipush (-6), 2) := by decide +kernel
theorem dX12_cast_78 : decode cX12_cast 78 = .ok (.putfield 143, 3) := by decide +kernel
theorem dX12_cast_81 : decode cX12_cast 81 = .ok (.return_, 1) := by decide +kernel
set_option maxRecDepth 20000 in
theorem ggX12_cry_X12_partsOf : GoodIn wsX12_cry wsX12_partsOf := goodIn_r _ [8, 9, 10, 7, 11, 12, 13, 14] (by decide +kernel) (by decide +kernel)
set_option maxRecDepth 20000 in
theorem gX12_cry_X12_partsOf : GoodIn wsX12_cry (va_wsS RX12 146 yX12_partsOf wsX12_partsOf) := goodIn_app (goodIn_of _ (by decide +kernel)) ggX12_cry_X12_partsOf
set_option maxRecDepth 20000 in
theorem ggX12_cry_X12_less : GoodIn wsX12_cry wsX12_less := goodIn_r _ [17] (by decide +kernel) (by decide +kernel)
set_option maxRecDepth 20000 in
theorem gX12_cry_X12_less : GoodIn wsX12_cry (va_wsS RX12 149 yX12_less wsX12_less) := goodIn_app (goodIn_of _ (by decide +kernel)) ggX12_cry_X12_less
theorem dX12_cry_0 : decode cX12_cry 0 = .ok (.iconst 0, 1) := by decide +kernel
theorem dX12_cry_1 : decode cX12_cry 1 = .ok (.istore_n 2, 1) := by decide +kernel
theorem dX12_cry_2 : decode cX12_cry 2 = .ok (.iload_n 2, 1) := by decide +kernel
theorem dX12_cry_3 : decode cX12_cry 3 = .ok (.bipush 6, 2) := by decide +kernel
theorem dX12_cry_5 : decode cX12_cry 5 = .ok (.if_icmp .ge 44, 3) := by decide +kernel
theorem dX12_cry_8 : decode cX12_cry 8 = .ok (.aload_n 0, 1) := by decide +kernel
theorem dX12_cry_9 : decode cX12_cry 9 = .ok (.getfield 16, 3) := by decide +kernel
theorem dX12_cry_12 : decode cX12_cry 12 = .ok (.iload_n 2, 1) := by decide +kernel
theorem dX12_cry_13 : decode cX12_cry 13 = .ok (.sipush 999, 3) := by decide +kernel
theorem dX12_cry_16 : decode cX12_cry 16 = .ok (.aload_n 0, 1) := by decide +kernel
theorem dX12_cry_17 : decode cX12_cry 17 = .ok (.getfield 16, 3) := by decide +kernel
theorem dX12_cry_20 : decode cX12_cry 20 = .ok (.iload_n 2, 1) := by decide +kernel
theorem dX12_cry_21 : decode cX12_cry 21 = .ok (.iaload, 1) := by decide +kernel
theorem dX12_cry_22 : decode cX12_cry 22 = .ok (.aload_n 0, 1) := by decide +kernel
theorem dX12_cry_23 : decode cX12_cry 23 = .ok (.getfield 13, 3) := by decide +kernel
theorem dX12_cry_26 : decode cX12_cry 26 = .ok (.iload_n 2, 1) := by decide +kernel
theorem dX12_cry_27 : decode cX12_cry 27 = .ok (.iaload, 1) := by decide +kernel
theorem dX12_cry_28 : decode cX12_cry 28 = .ok (.invokestatic 146, 3) := by decide +kernel
theorem dX12_cry_31 : decode cX12_cry 31 = .ok (.iadd, 1) := by decide +kernel
theorem dX12_cry_32 : decode cX12_cry 32 = .ok (.invokestatic 149, 3) := by decide +kernel
theorem dX12_cry_35 : decode cX12_cry 35 = .ok (.iastore, 1) := by decide +kernel
theorem dX12_cry_36 : decode cX12_cry 36 = .ok (.aload_n 0, 1) := by decide +kernel
theorem dX12_cry_37 : decode cX12_cry 37 = .ok (.getfield 13, 3) := by decide +kernel
theorem dX12_cry_40 : decode cX12_cry 40 = .ok (.iload_n 2, 1) := by decide +kernel
theorem dX12_cry_41 : decode cX12_cry 41 = .ok (.iconst 0, 1) := by decide +kernel
theorem dX12_cry_42 : decode cX12_cry 42 = .ok (.iastore, 1) := by decide +kernel
theorem dX12_cry_43 : decode cX12_cry 43 = .ok (.iinc 2 1, 3) := by decide +kernel
theorem dX12_cry_46 : decode cX12_cry 46 = .ok (.goto (-44), 3) := by decide +kernel
theorem dX12_cry_49 : decode cX12_cry 49 = .ok (.aload_n 0, 1) := by decide +kernel
theorem dX12_cry_50 : decode cX12_cry 50 = .ok (.iload_n 1, 1) := by decide +kernel
theorem dX12_cry_51 : decode cX12_cry 51 = .ok (.putfield 91, 3) := by decide +kernel
theorem dX12_cry_54 : decode cX12_cry 54 = .ok (.aload_n 0, 1) := by decide +kernel
theorem dX12_cry_55 : decode cX12_cry 55 = .ok (.dup, 1) := by decide +kernel
theorem dX12_cry_56 : decode cX12_cry 56 = .ok (.getfield 123, 3) := by decide +kernel
theorem dX12_cry_59 : decode cX12_cry 59 = .ok (.iconst 1, 1) := by decide +kernel
theorem dX12_cry_60 : decode cX12_cry 60 = .ok (.iadd, 1) := by decide +kernel
theorem dX12_cry_61 : decode cX12_cry 61 = .ok (.putfield 123, 3) := by decide +kernel
theorem dX12_cry_64 : decode cX12_cry 64 = .ok (.return_, 1) := by decide +kernel
set_option maxRecDepth 20000 in
theorem ggX12_goOrCome_X12_goesOn : GoodIn wsX12_goOrCome wsX12_goesOn := goodIn_r _ [7, 2, 1, 8, 9, 10, 11, 12, 13, 14, 15, 16, 17, 18, 19, 20, 21, 22, 23, 24, 25, 26, 27, 28, 29, 30, 31, 32, 33, 34, 35, 36, 37] (by decide +kernel) (by decide +kernel)
set_option maxRecDepth 20000 in
theorem gX12_goOrCome_X12_goesOn : GoodIn wsX12_goOrCome (wsV RX12 137 RX12 yX12_goesOn wsX12_goesOn) := goodIn_app (goodIn_of _ (by decide +kernel)) ggX12_goOrCome_X12_goesOn
theorem dX12_goOrCome_0 : decode cX12_goOrCome 0 = .ok (.aload_n 0, 1) := by decide +kernel
theorem dX12_goOrCome_1 : decode cX12_goOrCome 1 = .ok (.getfield 19, 3) := by decide +kernel
theorem dX12_goOrCome_4 : decode cX12_goOrCome 4 = .ok (.iload_n 1, 1) := by decide +kernel
theorem dX12_goOrCome_5 : decode cX12_goOrCome 5 = .ok (.iconst 1, 1) := by decide +kernel
theorem dX12_goOrCome_6 : decode cX12_goOrCome 6 = .ok (.aload_n 0, 1) := by decide +kernel
theorem dX12_goOrCome_7 : decode cX12_goOrCome 7 = .ok (.getfield 19, 3) := by decide +kernel
theorem dX12_goOrCome_10 : decode cX12_goOrCome 10 = .ok (.iload_n 1, 1) := by decide +kernel
theorem dX12_goOrCome_11 : decode cX12_goOrCome 11 = .ok (.iaload, 1) := by decide +kernel
theorem dX12_goOrCome_12 : decode cX12_goOrCome 12 = .ok (.isub, 1) := by decide +kernel
theorem dX12_goOrCome_13 : decode cX12_goOrCome 13 = .ok (.iastore, 1) := by decide +kernel
theorem dX12_goOrCome_14 : decode cX12_goOrCome 14 = .ok (.aload_n 0, 1) := by decide +kernel
theorem dX12_goOrCome_15 : decode cX12_goOrCome 15 = .ok (.getfield 19, 3) := by decide +kernel
theorem dX12_goOrCome_18 : decode cX12_goOrCome 18 = .ok (.aload_n 0, 1) := by decide +kernel
theorem dX12_goOrCome_19 : decode cX12_goOrCome 19 = .ok (.getfield 91, 3) := by decide +kernel
theorem dX12_goOrCome_22 : decode cX12_goOrCome 22 = .ok (.iaload, 1) := by decide +kernel
theorem dX12_goOrCome_23 : decode cX12_goOrCome 23 = .ok (.ifCond .ne 7, 3) := by decide +kernel
theorem dX12_goOrCome_26 : decode cX12_goOrCome 26 = .ok (.aload_n 0, 1) := by decide +kernel
theorem dX12_goOrCome_27 : decode cX12_goOrCome 27 = .ok (.invokevirtual 137, 3) := by decide +kernel
theorem dX12_goOrCome_30 : decode cX12_goOrCome 30 = .ok (.return_, 1) := by decide +kernel
set_option maxRecDepth 20000 in
theorem ggX12_happen_X12_cast : GoodIn wsX12_happen wsX12_cast := goodIn_r _ [6, 7, 8, 9, 10, 1, 11, 12, 13, 5, 14, 15, 16, 17, 18, 19, 20, 21, 22, 23, 24, 25, 26, 27, 28, 29, 30, 31, 32, 49, 50, 51, 52, 53, 54, 55, 56, 57, 58, 59, 60, 61, 62, 63, 64, 65, 66, 67, 68, 69, 70, 71, 72, 73, 74, 75, 76, 77, 78] (by decide +kernel) (by decide +kernel)
set_option maxRecDepth 20000 in
theorem gX12_happen_X12_cast : GoodIn wsX12_happen (wsV RX12 152 RX12 yX12_cast wsX12_cast) := goodIn_app (goodIn_of _ (by decide +kernel)) ggX12_happen_X12_cast
set_option maxRecDepth 20000 in
theorem ggX12_happen_X12_cry : GoodIn wsX12_happen wsX12_cry := goodIn_r _ [36, 37, 7, 8, 38, 39, 40, 5, 41, 16, 17, 18, 19, 20, 21, 42, 43, 44, 49, 50, 51, 52, 53, 54, 55, 56, 57, 58, 59, 60, 61, 62, 63, 64, 65, 66, 67, 68, 69, 70, 71, 72, 73, 74, 75, 76, 77, 78] (by decide +kernel) (by decide +kernel)
set_option maxRecDepth 20000 in
theorem gX12_happen_X12_cry : GoodIn wsX12_happen (wsV RX12 156 RX12 yX12_cry wsX12_cry) := goodIn_app (goodIn_of _ (by decide +kernel)) ggX12_happen_X12_cry
set_option maxRecDepth 20000 in
theorem ggX12_happen_X12_goOrCome : GoodIn wsX12_happen wsX12_goOrCome := goodIn_r _ [48, 29, 8, 25, 26, 27, 5, 28, 49, 50, 51, 52, 53, 54, 55, 56, 57, 58, 59, 60, 61, 62, 63, 64, 65, 66, 67, 68, 69, 70, 71, 72, 73, 74, 75, 76, 77, 78] (by decide +kernel) (by decide +kernel)
set_option maxRecDepth 20000 in
theorem gX12_happen_X12_goOrCome : GoodIn wsX12_happen (wsV RX12 159 RX12 yX12_goOrCome wsX12_goOrCome) := goodIn_app (goodIn_of _ (by decide +kernel)) ggX12_happen_X12_goOrCome
set_option maxRecDepth 20000 in
theorem ggX12_happen_X12_goesOn : GoodIn wsX12_happen wsX12_goesOn := goodIn_r _ [28, 8, 29, 49, 50, 51, 52, 53, 54, 55, 56, 57, 58, 59, 60, 61, 62, 63, 64, 65, 66, 67, 68, 69, 70, 71, 72, 73, 74, 75, 76, 77, 78] (by decide +kernel) (by decide +kernel)
set_option maxRecDepth 20000 in
theorem gX12_happen_X12_goesOn : GoodIn wsX12_happen (wsV RX12 137 RX12 yX12_goesOn wsX12_goesOn) := goodIn_app (goodIn_of _ (by decide +kernel)) ggX12_happen_X12_goesOn
theorem dX12_happen_0 : decode cX12_happen 0 = .ok (.aload_n 0, 1) := by decide +kernel
theorem dX12_happen_1 : decode cX12_happen 1 = .ok (.bipush (-6), 2) := by decide +kernel
theorem dX12_happen_3 : decode cX12_happen 3 = .ok (.putfield 143, 3) := by decide +kernel
theorem dX12_happen_6 : decode cX12_happen 6 = .ok (.iload_n 1, 1) := by decide +kernel
theorem dX12_happen_7 : decode cX12_happen 7 = .ok (.tableswitch 53 0 3 #[29, 53, 37, 45], 29) := by decide +kernel
theorem dX12_happen_36 : decode cX12_happen 36 = .ok (.aload_n 0, 1) := by decide +kernel
theorem dX12_happen_37 : decode cX12_happen 37 = .ok (.iload_n 2, 1) := by decide +kernel
theorem dX12_happen_38 : decode cX12_happen 38 = .ok (.invokevirtual 152, 3) := by decide +kernel
theorem dX12_happen_41 : decode cX12_happen 41 = .ok (.goto 23, 3) := by decide +kernel
theorem dX12_happen_44 : decode cX12_happen 44 = .ok (.aload_n 0, 1) := by decide +kernel
theorem dX12_happen_45 : decode cX12_happen 45 = .ok (.iload_n 2, 1) := by decide +kernel
theorem dX12_happen_46 : decode cX12_happen 46 = .ok (.invokevirtual 156, 3) := by decide +kernel
theorem dX12_happen_49 : decode cX12_happen 49 = .ok (.goto 15, 3) := by decide +kernel
theorem dX12_happen_52 : decode cX12_happen 52 = .ok (.aload_n 0, 1) := by decide +kernel
theorem dX12_happen_53 : decode cX12_happen 53 = .ok (.iload_n 2, 1) := by decide +kernel
theorem dX12_happen_54 : decode cX12_happen 54 = .ok (.invokevirtual 159, 3) := by decide +kernel
theorem dX12_happen_57 : decode cX12_happen 57 = .ok (.goto 7, 3) := by decide +kernel
theorem dX12_happen_60 : decode cX12_happen 60 = .ok (.aload_n 0, 1) := by decide +kernel
theorem dX12_happen_61 : decode cX12_happen 61 = .ok (.invokevirtual 137, 3) := by decide +kernel
theorem dX12_happen_64 : decode cX12_happen 64 = .ok (.return_, 1) := by decide +kernel
theorem dX12_keepNow_0 : decode cX12_keepNow 0 = .ok (.iconst 0, 1) := by decide +kernel
theorem dX12_keepNow_1 : decode cX12_keepNow 1 = .ok (.istore_n 1, 1) := by decide +kernel
theorem dX12_keepNow_2 : decode cX12_keepNow 2 = .ok (.iload_n 1, 1) := by decide +kernel
theorem dX12_keepNow_3 : decode cX12_keepNow 3 = .ok (.bipush 6, 2) := by decide +kernel
theorem dX12_keepNow_5 : decode cX12_keepNow 5 = .ok (.if_icmp .ge 51, 3) := by decide +kernel
theorem dX12_keepNow_8 : decode cX12_keepNow 8 = .ok (.aload_n 0, 1) := by decide +kernel
theorem dX12_keepNow_9 : decode cX12_keepNow 9 = .ok (.getfield 37, 3) := by decide +kernel
theorem dX12_keepNow_12 : decode cX12_keepNow 12 = .ok (.iload_n 1, 1) := by decide +kernel
theorem dX12_keepNow_13 : decode cX12_keepNow 13 = .ok (.aload_n 0, 1) := by decide +kernel
theorem dX12_keepNow_14 : decode cX12_keepNow 14 = .ok (.getfield 13, 3) := by decide +kernel
theorem dX12_keepNow_17 : decode cX12_keepNow 17 = .ok (.iload_n 1, 1) := by decide +kernel
theorem dX12_keepNow_18 : decode cX12_keepNow 18 = .ok (.iaload, 1) := by decide +kernel
theorem dX12_keepNow_19 : decode cX12_keepNow 19 = .ok (.iastore, 1) := by decide +kernel
theorem dX12_keepNow_20 : decode cX12_keepNow 20 = .ok (.aload_n 0, 1) := by decide +kernel
theorem dX12_keepNow_21 : decode cX12_keepNow 21 = .ok (.getfield 37, 3) := by decide +kernel
theorem dX12_keepNow_24 : decode cX12_keepNow 24 = .ok (.bipush 6, 2) := by decide +kernel
theorem dX12_keepNow_26 : decode cX12_keepNow 26 = .ok (.iload_n 1, 1) := by decide +kernel
theorem dX12_keepNow_27 : decode cX12_keepNow 27 = .ok (.iadd, 1) := by decide +kernel
theorem dX12_keepNow_28 : decode cX12_keepNow 28 = .ok (.aload_n 0, 1) := by decide +kernel
theorem dX12_keepNow_29 : decode cX12_keepNow 29 = .ok (.getfield 16, 3) := by decide +kernel
theorem dX12_keepNow_32 : decode cX12_keepNow 32 = .ok (.iload_n 1, 1) := by decide +kernel
theorem dX12_keepNow_33 : decode cX12_keepNow 33 = .ok (.iaload, 1) := by decide +kernel
theorem dX12_keepNow_34 : decode cX12_keepNow 34 = .ok (.iastore, 1) := by decide +kernel
theorem dX12_keepNow_35 : decode cX12_keepNow 35 = .ok (.aload_n 0, 1) := by decide +kernel
theorem dX12_keepNow_36 : decode cX12_keepNow 36 = .ok (.getfield 37, 3) := by decide +kernel
theorem dX12_keepNow_39 : decode cX12_keepNow 39 = .ok (.bipush 12, 2) := by decide +kernel
theorem dX12_keepNow_41 : decode cX12_keepNow 41 = .ok (.iload_n 1, 1) := by decide +kernel
theorem dX12_keepNow_42 : decode cX12_keepNow 42 = .ok (.iadd, 1) := by decide +kernel
theorem dX12_keepNow_43 : decode cX12_keepNow 43 = .ok (.aload_n 0, 1) := by decide +kernel
theorem dX12_keepNow_44 : decode cX12_keepNow 44 = .ok (.getfield 19, 3) := by decide +kernel
theorem dX12_keepNow_47 : decode cX12_keepNow 47 = .ok (.iload_n 1, 1) := by decide +kernel
theorem dX12_keepNow_48 : decode cX12_keepNow 48 = .ok (.iaload, 1) := by decide +kernel
theorem dX12_keepNow_49 : decode cX12_keepNow 49 = .ok (.iastore, 1) := by decide +kernel
theorem dX12_keepNow_50 : decode cX12_keepNow 50 = .ok (.iinc 1 1, 3) := by decide +kernel
theorem dX12_keepNow_53 : decode cX12_keepNow 53 = .ok (.goto (-51), 3) := by decide +kernel
theorem dX12_keepNow_56 : decode cX12_keepNow 56 = .ok (.aload_n 0, 1) := by decide +kernel
theorem dX12_keepNow_57 : decode cX12_keepNow 57 = .ok (.getfield 37, 3) := by decide +kernel
theorem dX12_keepNow_60 : decode cX12_keepNow 60 = .ok (.bipush 18, 2) := by decide +kernel
theorem dX12_keepNow_62 : decode cX12_keepNow 62 = .ok (.aload_n 0, 1) := by decide +kernel
theorem dX12_keepNow_63 : decode cX12_keepNow 63 = .ok (.getfield 91, 3) := by decide +kernel
theorem dX12_keepNow_66 : decode cX12_keepNow 66 = .ok (.iastore, 1) := by decide +kernel
theorem dX12_keepNow_67 : decode cX12_keepNow 67 = .ok (.aload_n 0, 1) := by decide +kernel
theorem dX12_keepNow_68 : decode cX12_keepNow 68 = .ok (.getfield 37, 3) := by decide +kernel
theorem dX12_keepNow_71 : decode cX12_keepNow 71 = .ok (.bipush 19, 2) := by decide +kernel
theorem dX12_keepNow_73 : decode cX12_keepNow 73 = .ok (.aload_n 0, 1) := by decide +kernel
theorem dX12_keepNow_74 : decode cX12_keepNow 74 = .ok (.getfield 123, 3) := by decide +kernel
theorem dX12_keepNow_77 : decode cX12_keepNow 77 = .ok (.iastore, 1) := by decide +kernel
theorem dX12_keepNow_78 : decode cX12_keepNow 78 = .ok (.return_, 1) := by decide +kernel
theorem dX12_back_0 : decode cX12_back 0 = .ok (.iconst 0, 1) := by decide +kernel
theorem dX12_back_1 : decode cX12_back 1 = .ok (.istore_n 2, 1) := by decide +kernel
theorem dX12_back_2 : decode cX12_back 2 = .ok (.iload_n 2, 1) := by decide +kernel
theorem dX12_back_3 : decode cX12_back 3 = .ok (.bipush 6, 2) := by decide +kernel
theorem dX12_back_5 : decode cX12_back 5 = .ok (.if_icmp .ge 51, 3) := by decide +kernel
theorem dX12_back_8 : decode cX12_back 8 = .ok (.aload_n 0, 1) := by decide +kernel
theorem dX12_back_9 : decode cX12_back 9 = .ok (.getfield 13, 3) := by decide +kernel
theorem dX12_back_12 : decode cX12_back 12 = .ok (.iload_n 2, 1) := by decide +kernel
theorem dX12_back_13 : decode cX12_back 13 = .ok (.aload_n 0, 1) := by decide +kernel
theorem dX12_back_14 : decode cX12_back 14 = .ok (.getfield 37, 3) := by decide +kernel
theorem dX12_back_17 : decode cX12_back 17 = .ok (.iload_n 2, 1) := by decide +kernel
theorem dX12_back_18 : decode cX12_back 18 = .ok (.iaload, 1) := by decide +kernel
theorem dX12_back_19 : decode cX12_back 19 = .ok (.iastore, 1) := by decide +kernel
theorem dX12_back_20 : decode cX12_back 20 = .ok (.aload_n 0, 1) := by decide +kernel
theorem dX12_back_21 : decode cX12_back 21 = .ok (.getfield 16, 3) := by decide +kernel
theorem dX12_back_24 : decode cX12_back 24 = .ok (.iload_n 2, 1) := by decide +kernel
theorem dX12_back_25 : decode cX12_back 25 = .ok (.aload_n 0, 1) := by decide +kernel
theorem dX12_back_26 : decode cX12_back 26 = .ok (.getfield 37, 3) := by decide +kernel
theorem dX12_back_29 : decode cX12_back 29 = .ok (.bipush 6, 2) := by decide +kernel
theorem dX12_back_31 : decode cX12_back 31 = .ok (.iload_n 2, 1) := by decide +kernel
theorem dX12_back_32 : decode cX12_back 32 = .ok (.iadd, 1) := by decide +kernel
theorem dX12_back_33 : decode cX12_back 33 = .ok (.iaload, 1) := by decide +kernel
theorem dX12_back_34 : decode cX12_back 34 = .ok (.iastore, 1) := by decide +kernel
theorem dX12_back_35 : decode cX12_back 35 = .ok (.aload_n 0, 1) := by decide +kernel
theorem dX12_back_36 : decode cX12_back 36 = .ok (.getfield 19, 3) := by decide +kernel
theorem dX12_back_39 : decode cX12_back 39 = .ok (.iload_n 2, 1) := by decide +kernel
theorem dX12_back_40 : decode cX12_back 40 = .ok (.aload_n 0, 1) := by decide +kernel
theorem dX12_back_41 : decode cX12_back 41 = .ok (.getfield 37, 3) := by decide +kernel
theorem dX12_back_44 : decode cX12_back 44 = .ok (.bipush 12, 2) := by decide +kernel
theorem dX12_back_46 : decode cX12_back 46 = .ok (.iload_n 2, 1) := by decide +kernel
theorem dX12_back_47 : decode cX12_back 47 = .ok (.iadd, 1) := by decide +kernel
theorem dX12_back_48 : decode cX12_back 48 = .ok (.iaload, 1) := by decide +kernel
theorem dX12_back_49 : decode cX12_back 49 = .ok (.iastore, 1) := by decide +kernel
theorem dX12_back_50 : decode cX12_back 50 = .ok (.iinc 2 1, 3) := by decide +kernel
theorem dX12_back_53 : decode cX12_back 53 = .ok (.goto (-51), 3) := by decide +kernel
theorem dX12_back_56 : decode cX12_back 56 = .ok (.aload_n 0, 1) := by decide +kernel
theorem dX12_back_57 : decode cX12_back 57 = .ok (.aload_n 0, 1) := by decide +kernel
theorem dX12_back_58 : decode cX12_back 58 = .ok (.getfield 37, 3) := by decide +kernel
theorem dX12_back_61 : decode cX12_back 61 = .ok (.bipush 18, 2) := by decide +kernel
theorem dX12_back_63 : decode cX12_back 63 = .ok (.iaload, 1) := by decide +kernel
theorem dX12_back_64 : decode cX12_back 64 = .ok (.putfield 91, 3) := by decide +kernel
theorem dX12_back_67 : decode cX12_back 67 = .ok (.aload_n 0, 1) := by decide +kernel
theorem dX12_back_68 : decode cX12_back 68 = .ok (.aload_n 0, 1) := by decide +kernel
theorem dX12_back_69 : decode cX12_back 69 = .ok (.getfield 37, 3) := by decide +kernel
theorem dX12_back_72 : decode cX12_back 72 = .ok (.bipush 19, 2) := by decide +kernel
theorem dX12_back_74 : decode cX12_back 74 = .ok (.iaload, 1) := by decide +kernel
theorem dX12_back_75 : decode cX12_back 75 = .ok (.putfield 123, 3) := by decide +kernel
theorem dX12_back_78 : decode cX12_back 78 = .ok (.iload_n 1, 1) := by decide +kernel
theorem dX12_back_79 : decode cX12_back 79 = .ok (.ireturn, 1) := by decide +kernel
set_option maxRecDepth 20000 in
theorem ggX12_goOne_X12_happen : GoodIn wsX12_goOne wsX12_happen := goodIn_r _ [10, 3, 11, 12, 13, 9, 14, 15, 16, 17, 18, 19, 20, 21, 22, 23, 24, 25, 26, 27, 28, 29, 30, 31, 32, 33, 34, 35, 36, 37, 38, 39, 40, 41, 42, 43, 44, 45, 46, 47, 48, 49, 50, 51, 52, 53, 54, 55, 56, 57, 58, 59, 60, 61, 62, 63, 64, 65, 66, 67, 68, 69, 70, 71, 72, 73, 74, 75, 76, 77, 78, 79, 80, 81, 82, 83, 84, 85, 86] (by decide +kernel) (by decide +kernel)
set_option maxRecDepth 20000 in
theorem gX12_goOne_X12_happen : GoodIn wsX12_goOne (wsV RX12 162 RX12 yX12_happen wsX12_happen) := goodIn_app (goodIn_of _ (by decide +kernel)) ggX12_goOne_X12_happen
theorem dX12_goOne_0 : decode cX12_goOne 0 = .ok (.aload_n 0, 1) := by decide +kernel
theorem dX12_goOne_1 : decode cX12_goOne 1 = .ok (.aload_n 0, 1) := by decide +kernel
theorem dX12_goOne_2 : decode cX12_goOne 2 = .ok (.getfield 31, 3) := by decide +kernel
theorem dX12_goOne_5 : decode cX12_goOne 5 = .ok (.iload_n 1, 1) := by decide +kernel
theorem dX12_goOne_6 : decode cX12_goOne 6 = .ok (.iaload, 1) := by decide +kernel
theorem dX12_goOne_7 : decode cX12_goOne 7 = .ok (.aload_n 0, 1) := by decide +kernel
theorem dX12_goOne_8 : decode cX12_goOne 8 = .ok (.getfield 34, 3) := by decide +kernel
theorem dX12_goOne_11 : decode cX12_goOne 11 = .ok (.iload_n 1, 1) := by decide +kernel
theorem dX12_goOne_12 : decode cX12_goOne 12 = .ok (.iaload, 1) := by decide +kernel
theorem dX12_goOne_13 : decode cX12_goOne 13 = .ok (.invokevirtual 162, 3) := by decide +kernel
theorem dX12_goOne_16 : decode cX12_goOne 16 = .ok (.aload_n 0, 1) := by decide +kernel
theorem dX12_goOne_17 : decode cX12_goOne 17 = .ok (.getfield 143, 3) := by decide +kernel
theorem dX12_goOne_20 : decode cX12_goOne 20 = .ok (.ifCond .lt 23, 3) := by decide +kernel
theorem dX12_goOne_23 : decode cX12_goOne 23 = .ok (.aload_n 0, 1) := by decide +kernel
theorem dX12_goOne_24 : decode cX12_goOne 24 = .ok (.getfield 166, 3) := by decide +kernel
theorem dX12_goOne_27 : decode cX12_goOne 27 = .ok (.ifCond .ge 16, 3) := by decide +kernel
theorem dX12_goOne_30 : decode cX12_goOne 30 = .ok (.aload_n 0, 1) := by decide +kernel
theorem dX12_goOne_31 : decode cX12_goOne 31 = .ok (.iload_n 1, 1) := by decide +kernel
theorem dX12_goOne_32 : decode cX12_goOne 32 = .ok (.putfield 166, 3) := by decide +kernel
theorem dX12_goOne_35 : decode cX12_goOne 35 = .ok (.aload_n 0, 1) := by decide +kernel
theorem dX12_goOne_36 : decode cX12_goOne 36 = .ok (.aload_n 0, 1) := by decide +kernel
theorem dX12_goOne_37 : decode cX12_goOne 37 = .ok (.getfield 143, 3) := by decide +kernel
theorem dX12_goOne_40 : decode cX12_goOne 40 = .ok (.putfield 169, 3) := by decide +kernel
theorem dX12_goOne_43 : decode cX12_goOne 43 = .ok (.return_, 1) := by decide +kernel
set_option maxRecDepth 20000 in
theorem ggX12_goGames_X12_whyNot : GoodIn wsX12_goGames wsX12_whyNot := goodIn_r _ [13, 14, 15, 16, 17, 18, 19, 20, 21, 12, 22, 72, 73, 74, 75, 76, 77, 78, 79, 80, 81, 82, 83, 84, 85, 86, 87, 88, 89, 90, 91, 92, 93, 94, 95, 96, 97, 98, 99, 100, 101] (by decide +kernel) (by decide +kernel)
set_option maxRecDepth 20000 in
theorem gX12_goGames_X12_whyNot : GoodIn wsX12_goGames (wsV RX12 178 RX12 yX12_whyNot wsX12_whyNot) := goodIn_app (goodIn_of _ (by decide +kernel)) ggX12_goGames_X12_whyNot
set_option maxRecDepth 20000 in
theorem ggX12_goGames_X12_goOne : GoodIn wsX12_goGames wsX12_goOne := goodIn_r _ [26, 7, 8, 27, 3, 4, 28, 29, 30, 12, 31, 32, 33, 34, 35, 14, 15, 5, 16, 36, 37, 38, 39, 40, 41, 42, 43, 44, 45, 46, 47, 48, 49, 50, 51, 52, 53, 17, 54, 55, 56, 57, 58, 59, 60, 61, 18, 62, 63, 64, 65, 66, 67, 68, 69, 70, 71, 72, 73, 74, 75, 76, 77, 78, 79, 80, 81, 82, 83, 84, 85, 86, 87, 88, 89, 90, 91, 92, 93, 94, 95, 96, 97, 98, 99, 100, 101] (by decide +kernel) (by decide +kernel)
set_option maxRecDepth 20000 in
theorem gX12_goGames_X12_goOne : GoodIn wsX12_goGames (wsV RX12 181 RX12 yX12_goOne wsX12_goOne) := goodIn_app (goodIn_of _ (by decide +kernel)) ggX12_goGames_X12_goOne
theorem dX12_goGames_0 : decode cX12_goGames 0 = .ok (.aload_n 0, 1) := by decide +kernel
theorem dX12_goGames_1 : decode cX12_goGames 1 = .ok (.bipush (-6), 2) := by decide +kernel
theorem dX12_goGames_3 : decode cX12_goGames 3 = .ok (.putfield 172, 3) := by decide +kernel
theorem dX12_goGames_6 : decode cX12_goGames 6 = .ok (.aload_n 0, 1) := by decide +kernel
theorem dX12_goGames_7 : decode cX12_goGames 7 = .ok (.bipush (-6), 2) := by decide +kernel
theorem dX12_goGames_9 : decode cX12_goGames 9 = .ok (.putfield 175, 3) := by decide +kernel
theorem dX12_goGames_12 : decode cX12_goGames 12 = .ok (.aload_n 0, 1) := by decide +kernel
theorem dX12_goGames_13 : decode cX12_goGames 13 = .ok (.bipush (-6), 2) := by decide +kernel
theorem dX12_goGames_15 : decode cX12_goGames 15 = .ok (.putfield 166, 3) := by decide +kernel
theorem dX12_goGames_18 : decode cX12_goGames 18 = .ok (.aload_n 0, 1) := by decide +kernel
theorem dX12_goGames_19 : decode cX12_goGames 19 = .ok (.bipush (-6), 2) := by decide +kernel
theorem dX12_goGames_21 : decode cX12_goGames 21 = .ok (.putfield 169, 3) := by decide +kernel
theorem dX12_goGames_24 : decode cX12_goGames 24 = .ok (.aload_n 0, 1) := by decide +kernel
theorem dX12_goGames_25 : decode cX12_goGames 25 = .ok (.iconst 0, 1) := by decide +kernel
theorem dX12_goGames_26 : decode cX12_goGames 26 = .ok (.putfield 134, 3) := by decide +kernel
theorem dX12_goGames_29 : decode cX12_goGames 29 = .ok (.iconst 0, 1) := by decide +kernel
theorem dX12_goGames_30 : decode cX12_goGames 30 = .ok (.istore_n 1, 1) := by decide +kernel
theorem dX12_goGames_31 : decode cX12_goGames 31 = .ok (.iload_n 1, 1) := by decide +kernel
theorem dX12_goGames_32 : decode cX12_goGames 32 = .ok (.aload_n 0, 1) := by decide +kernel
theorem dX12_goGames_33 : decode cX12_goGames 33 = .ok (.getfield 102, 3) := by decide +kernel
theorem dX12_goGames_36 : decode cX12_goGames 36 = .ok (.if_icmp .ge 70, 3) := by decide +kernel
theorem dX12_goGames_39 : decode cX12_goGames 39 = .ok (.aload_n 0, 1) := by decide +kernel
theorem dX12_goGames_40 : decode cX12_goGames 40 = .ok (.getfield 172, 3) := by decide +kernel
theorem dX12_goGames_43 : decode cX12_goGames 43 = .ok (.ifCond .ge 63, 3) := by decide +kernel
theorem dX12_goGames_46 : decode cX12_goGames 46 = .ok (.aload_n 0, 1) := by decide +kernel
theorem dX12_goGames_47 : decode cX12_goGames 47 = .ok (.aload_n 0, 1) := by decide +kernel
theorem dX12_goGames_48 : decode cX12_goGames 48 = .ok (.getfield 31, 3) := by decide +kernel
theorem dX12_goGames_51 : decode cX12_goGames 51 = .ok (.iload_n 1, 1) := by decide +kernel
theorem dX12_goGames_52 : decode cX12_goGames 52 = .ok (.iaload, 1) := by decide +kernel
theorem dX12_goGames_53 : decode cX12_goGames 53 = .ok (.aload_n 0, 1) := by decide +kernel
theorem dX12_goGames_54 : decode cX12_goGames 54 = .ok (.getfield 34, 3) := by decide +kernel
theorem dX12_goGames_57 : decode cX12_goGames 57 = .ok (.iload_n 1, 1) := by decide +kernel
theorem dX12_goGames_58 : decode cX12_goGames 58 = .ok (.iaload, 1) := by decide +kernel
theorem dX12_goGames_59 : decode cX12_goGames 59 = .ok (.invokevirtual 178, 3) := by decide +kernel
theorem dX12_goGames_62 : decode cX12_goGames 62 = .ok (.istore_n 2, 1) := by decide +kernel
theorem dX12_goGames_63 : decode cX12_goGames 63 = .ok (.aload_n 0, 1) := by decide +kernel
theorem dX12_goGames_64 : decode cX12_goGames 64 = .ok (.iload_n 2, 1) := by decide +kernel
theorem dX12_goGames_65 : decode cX12_goGames 65 = .ok (.ifCond .le 7, 3) := by decide +kernel
theorem dX12_goGames_68 : decode cX12_goGames 68 = .ok (.iload_n 1, 1) := by decide +kernel
theorem dX12_goGames_69 : decode cX12_goGames 69 = .ok (.goto 5, 3) := by decide +kernel
theorem dX12_goGames_72 : decode cX12_goGames 72 = .ok (.bipush (-6), 2) := by decide +kernel
theorem dX12_goGames_74 : decode cX12_goGames 74 = .ok (.putfield 172, 3) := by decide +kernel
theorem dX12_goGames_77 : decode cX12_goGames 77 = .ok (.aload_n 0, 1) := by decide +kernel
theorem dX12_goGames_78 : decode cX12_goGames 78 = .ok (.iload_n 2, 1) := by decide +kernel
theorem dX12_goGames_79 : decode cX12_goGames 79 = .ok (.ifCond .le 7, 3) := by decide +kernel
theorem dX12_goGames_82 : decode cX12_goGames 82 = .ok (.iload_n 2, 1) := by decide +kernel
theorem dX12_goGames_83 : decode cX12_goGames 83 = .ok (.goto 5, 3) := by decide +kernel
theorem dX12_goGames_86 : decode cX12_goGames 86 = .ok (.bipush (-6), 2) := by decide +kernel
theorem dX12_goGames_88 : decode cX12_goGames 88 = .ok (.putfield 175, 3) := by decide +kernel
theorem dX12_goGames_91 : decode cX12_goGames 91 = .ok (.iload_n 2, 1) := by decide +kernel
theorem dX12_goGames_92 : decode cX12_goGames 92 = .ok (.ifCond .ne 8, 3) := by decide +kernel
theorem dX12_goGames_95 : decode cX12_goGames 95 = .ok (.aload_n 0, 1) := by decide +kernel
theorem dX12_goGames_96 : decode cX12_goGames 96 = .ok (.iload_n 1, 1) := by decide +kernel
theorem dX12_goGames_97 : decode cX12_goGames 97 = .ok (.invokevirtual 181, 3) := by decide +kernel
theorem dX12_goGames_100 : decode cX12_goGames 100 = .ok (.iinc 1 1, 3) := by decide +kernel
theorem dX12_goGames_103 : decode cX12_goGames 103 = .ok (.goto (-72), 3) := by decide +kernel
theorem dX12_goGames_106 : decode cX12_goGames 106 = .ok (.return_, 1) := by decide +kernel
set_option maxRecDepth 20000 in
theorem ggX12_refusal_X12_keepNow : GoodIn wsX12_refusal wsX12_keepNow := goodIn_r _ [6, 7, 8, 9, 10, 11, 12, 106, 107, 108, 109, 110, 111, 112, 113, 114, 115, 116, 117, 118, 119, 120, 121, 122, 123, 124, 125, 126, 127, 128, 129, 130, 131, 132, 133, 134, 135] (by decide +kernel) (by decide +kernel)
set_option maxRecDepth 20000 in
theorem gX12_refusal_X12_keepNow : GoodIn wsX12_refusal (wsV RX12 184 RX12 yX12_keepNow wsX12_keepNow) := goodIn_app (goodIn_of _ (by decide +kernel)) ggX12_refusal_X12_keepNow
set_option maxRecDepth 20000 in
theorem ggX12_refusal_X12_fault : GoodIn wsX12_refusal wsX12_fault := goodIn_r _ [16, 17, 18, 19, 20, 21, 22, 5, 23, 24, 25, 26, 27, 28, 29, 30, 31, 32, 33, 34, 35, 36, 37, 38, 39, 40, 106, 107, 108, 109, 110, 111, 112, 113, 114, 115, 116, 117, 118, 119, 120, 121, 122, 123, 124, 125, 126, 127, 128, 129, 130, 131, 132, 133, 134, 135] (by decide +kernel) (by decide +kernel)
set_option maxRecDepth 20000 in
theorem gX12_refusal_X12_fault : GoodIn wsX12_refusal (wsV RX12 187 RX12 yX12_fault wsX12_fault) := goodIn_app (goodIn_of _ (by decide +kernel)) ggX12_refusal_X12_fault
set_option maxRecDepth 20000 in
theorem ggX12_refusal_X12_goGames : GoodIn wsX12_refusal wsX12_goGames := goodIn_r _ [44, 1, 45, 46, 47, 48, 17, 36, 26, 49, 50, 51, 5, 52, 8, 11, 53, 10, 12, 54, 55, 56, 57, 58, 59, 60, 61, 62, 63, 64, 65, 66, 67, 68, 69, 70, 71, 72, 73, 74, 75, 76, 77, 78, 79, 80, 81, 82, 83, 84, 85, 86, 87, 88, 89, 90, 91, 92, 93, 94, 95, 9, 96, 97, 98, 99, 100, 101, 102, 103, 104, 105, 106, 107, 108, 109, 110, 111, 112, 113, 114, 115, 116, 117, 118, 119, 120, 121, 122, 123, 124, 125, 126, 127, 128, 129, 130, 131, 132, 133, 134, 135] (by decide +kernel) (by decide +kernel)
set_option maxRecDepth 20000 in
theorem gX12_refusal_X12_goGames : GoodIn wsX12_refusal (wsV RX12 190 RX12 yX12_goGames wsX12_goGames) := goodIn_app (goodIn_of _ (by decide +kernel)) ggX12_refusal_X12_goGames
theorem dX12_refusal_0 : decode cX12_refusal 0 = .ok (.aload_n 0, 1) := by decide +kernel
theorem dX12_refusal_1 : decode cX12_refusal 1 = .ok (.invokevirtual 184, 3) := by decide +kernel
theorem dX12_refusal_4 : decode cX12_refusal 4 = .ok (.aload_n 0, 1) := by decide +kernel
theorem dX12_refusal_5 : decode cX12_refusal 5 = .ok (.invokevirtual 187, 3) := by decide +kernel
theorem dX12_refusal_8 : decode cX12_refusal 8 = .ok (.ifCond .lt 6, 3) := by decide +kernel
theorem dX12_refusal_11 : decode cX12_refusal 11 = .ok (.bipush (-5), 2) := by decide +kernel
theorem dX12_refusal_13 : decode cX12_refusal 13 = .ok (.ireturn, 1) := by decide +kernel
theorem dX12_refusal_14 : decode cX12_refusal 14 = .ok (.aload_n 0, 1) := by decide +kernel
theorem dX12_refusal_15 : decode cX12_refusal 15 = .ok (.invokevirtual 190, 3) := by decide +kernel
theorem dX12_refusal_18 : decode cX12_refusal 18 = .ok (.aload_n 0, 1) := by decide +kernel
theorem dX12_refusal_19 : decode cX12_refusal 19 = .ok (.getfield 172, 3) := by decide +kernel
theorem dX12_refusal_22 : decode cX12_refusal 22 = .ok (.ifCond .lt 8, 3) := by decide +kernel
theorem dX12_refusal_25 : decode cX12_refusal 25 = .ok (.bipush (-3), 2) := by decide +kernel
theorem dX12_refusal_27 : decode cX12_refusal 27 = .ok (.goto 5, 3) := by decide +kernel
theorem dX12_refusal_30 : decode cX12_refusal 30 = .ok (.bipush (-6), 2) := by decide +kernel
theorem dX12_refusal_32 : decode cX12_refusal 32 = .ok (.ireturn, 1) := by decide +kernel
set_option maxRecDepth 20000 in
theorem ggX12_judge_X12_in : GoodIn wsX12_judge wsX12_in := goodIn_r _ [8] (by decide +kernel) (by decide +kernel)
set_option maxRecDepth 20000 in
theorem gX12_judge_X12_in : GoodIn wsX12_judge (va_wsS RX12 65 yX12_in wsX12_in) := goodIn_app (goodIn_of _ (by decide +kernel)) ggX12_judge_X12_in
set_option maxRecDepth 20000 in
theorem ggX12_judge_X12_refusal : GoodIn wsX12_judge wsX12_refusal := goodIn_r _ [12, 2, 13, 14, 15, 7, 16, 17, 18, 19, 20, 21, 22, 23, 24, 25, 26, 27, 28, 29, 30, 31, 32, 33, 34, 35, 36, 37, 38, 5, 6, 8, 39, 40, 41, 42, 43, 44, 45, 46, 47, 48, 49, 50, 51, 3, 52, 53, 4, 54, 55, 56, 57, 58, 59, 60, 61, 62, 63, 64, 65, 66, 67, 68, 69, 70, 71, 72, 73, 74, 75, 76, 77, 78, 79, 80, 81, 82, 83, 84, 85, 86, 87, 88, 89, 90, 91, 92, 93, 94, 95, 96, 97, 98, 99, 100, 101, 102, 103, 104, 105, 106, 107, 108, 109, 110, 115, 116, 117, 118, 119, 120, 121, 122, 123, 124, 125, 126, 127, 128, 129, 130, 131, 132, 133, 134, 135, 136, 137, 138, 139, 140, 141, 142, 143, 144] (by decide +kernel) (by decide +kernel)
set_option maxRecDepth 20000 in
theorem gX12_judge_X12_refusal : GoodIn wsX12_judge (wsV RX12 195 RX12 yX12_refusal wsX12_refusal) := goodIn_app (goodIn_of _ (by decide +kernel)) ggX12_judge_X12_refusal
set_option maxRecDepth 20000 in
theorem ggX12_judge_X12_back : GoodIn wsX12_judge wsX12_back := goodIn_r _ [114, 18, 17, 19, 20, 21, 22, 115, 116, 117, 118, 119, 120, 121, 122, 123, 124, 125, 126, 127, 128, 129, 130, 131, 132, 133, 134, 135, 136, 137, 138, 139, 140, 141, 142, 143, 144] (by decide +kernel) (by decide +kernel)
set_option maxRecDepth 20000 in
theorem gX12_judge_X12_back : GoodIn wsX12_judge (wsV RX12 198 RX12 yX12_back wsX12_back) := goodIn_app (goodIn_of _ (by decide +kernel)) ggX12_judge_X12_back
theorem dX12_judge_0 : decode cX12_judge 0 = .ok (.iload_n 1, 1) := by decide +kernel
theorem dX12_judge_1 : decode cX12_judge 1 = .ok (.i2l, 1) := by decide +kernel
theorem dX12_judge_2 : decode cX12_judge 2 = .ok (.lconst 0, 1) := by decide +kernel
theorem dX12_judge_3 : decode cX12_judge 3 = .ok (.ldc2_w 193, 3) := by decide +kernel
theorem dX12_judge_6 : decode cX12_judge 6 = .ok (.invokestatic 65, 3) := by decide +kernel
theorem dX12_judge_9 : decode cX12_judge 9 = .ok (.ifCond .ne 6, 3) := by decide +kernel
theorem dX12_judge_12 : decode cX12_judge 12 = .ok (.bipush (-2), 2) := by decide +kernel
theorem dX12_judge_14 : decode cX12_judge 14 = .ok (.ireturn, 1) := by decide +kernel
theorem dX12_judge_15 : decode cX12_judge 15 = .ok (.aload_n 0, 1) := by decide +kernel
theorem dX12_judge_16 : decode cX12_judge 16 = .ok (.aload_n 0, 1) := by decide +kernel
theorem dX12_judge_17 : decode cX12_judge 17 = .ok (.invokevirtual 195, 3) := by decide +kernel
theorem dX12_judge_20 : decode cX12_judge 20 = .ok (.invokevirtual 198, 3) := by decide +kernel
theorem dX12_judge_23 : decode cX12_judge 23 = .ok (.istore_n 2, 1) := by decide +kernel
theorem dX12_judge_24 : decode cX12_judge 24 = .ok (.iload_n 2, 1) := by decide +kernel
theorem dX12_judge_25 : decode cX12_judge 25 = .ok (.bipush (-5), 2) := by decide +kernel
theorem dX12_judge_27 : decode cX12_judge 27 = .ok (.if_icmp .eq 14, 3) := by decide +kernel
theorem dX12_judge_30 : decode cX12_judge 30 = .ok (.iload_n 1, 1) := by decide +kernel
theorem dX12_judge_31 : decode cX12_judge 31 = .ok (.iconst 1, 1) := by decide +kernel
theorem dX12_judge_32 : decode cX12_judge 32 = .ok (.if_icmp .le 11, 3) := by decide +kernel
theorem dX12_judge_35 : decode cX12_judge 35 = .ok (.iload_n 2, 1) := by decide +kernel
theorem dX12_judge_36 : decode cX12_judge 36 = .ok (.bipush (-3), 2) := by decide +kernel
theorem dX12_judge_38 : decode cX12_judge 38 = .ok (.if_icmp .ne 5, 3) := by decide +kernel
theorem dX12_judge_41 : decode cX12_judge 41 = .ok (.iload_n 2, 1) := by decide +kernel
theorem dX12_judge_42 : decode cX12_judge 42 = .ok (.ireturn, 1) := by decide +kernel
theorem dX12_judge_43 : decode cX12_judge 43 = .ok (.iload_n 1, 1) := by decide +kernel
theorem dX12_judge_44 : decode cX12_judge 44 = .ok (.ifCond .ne 10, 3) := by decide +kernel
theorem dX12_judge_47 : decode cX12_judge 47 = .ok (.aload_n 0, 1) := by decide +kernel
theorem dX12_judge_48 : decode cX12_judge 48 = .ok (.getfield 172, 3) := by decide +kernel
theorem dX12_judge_51 : decode cX12_judge 51 = .ok (.goto 19, 3) := by decide +kernel
theorem dX12_judge_54 : decode cX12_judge 54 = .ok (.iload_n 1, 1) := by decide +kernel
theorem dX12_judge_55 : decode cX12_judge 55 = .ok (.iconst 1, 1) := by decide +kernel
theorem dX12_judge_56 : decode cX12_judge 56 = .ok (.if_icmp .ne 10, 3) := by decide +kernel
theorem dX12_judge_59 : decode cX12_judge 59 = .ok (.aload_n 0, 1) := by decide +kernel
theorem dX12_judge_60 : decode cX12_judge 60 = .ok (.getfield 175, 3) := by decide +kernel
theorem dX12_judge_63 : decode cX12_judge 63 = .ok (.goto 7, 3) := by decide +kernel
theorem dX12_judge_66 : decode cX12_judge 66 = .ok (.aload_n 0, 1) := by decide +kernel
theorem dX12_judge_67 : decode cX12_judge 67 = .ok (.getfield 134, 3) := by decide +kernel
theorem dX12_judge_70 : decode cX12_judge 70 = .ok (.ireturn, 1) := by decide +kernel
set_option maxRecDepth 20000 in
theorem ggX12_ofPlayer_X12_partsOf : GoodIn wsX12_ofPlayer wsX12_partsOf := goodIn_r _ [7, 8, 9, 6, 10, 11, 12, 13] (by decide +kernel) (by decide +kernel)
set_option maxRecDepth 20000 in
theorem gX12_ofPlayer_X12_partsOf : GoodIn wsX12_ofPlayer (va_wsS RX12 146 yX12_partsOf wsX12_partsOf) := goodIn_app (goodIn_of _ (by decide +kernel)) ggX12_ofPlayer_X12_partsOf
theorem dX12_ofPlayer_0 : decode cX12_ofPlayer 0 = .ok (.iload_n 2, 1) := by decide +kernel
theorem dX12_ofPlayer_1 : decode cX12_ofPlayer 1 = .ok (.tableswitch 51 0 2 #[27, 37, 44], 27) := by decide +kernel
theorem dX12_ofPlayer_28 : decode cX12_ofPlayer 28 = .ok (.aload_n 0, 1) := by decide +kernel
theorem dX12_ofPlayer_29 : decode cX12_ofPlayer 29 = .ok (.getfield 13, 3) := by decide +kernel
theorem dX12_ofPlayer_32 : decode cX12_ofPlayer 32 = .ok (.iload_n 1, 1) := by decide +kernel
theorem dX12_ofPlayer_33 : decode cX12_ofPlayer 33 = .ok (.iaload, 1) := by decide +kernel
theorem dX12_ofPlayer_34 : decode cX12_ofPlayer 34 = .ok (.invokestatic 146, 3) := by decide +kernel
theorem dX12_ofPlayer_37 : decode cX12_ofPlayer 37 = .ok (.ireturn, 1) := by decide +kernel
theorem dX12_ofPlayer_38 : decode cX12_ofPlayer 38 = .ok (.aload_n 0, 1) := by decide +kernel
theorem dX12_ofPlayer_39 : decode cX12_ofPlayer 39 = .ok (.getfield 16, 3) := by decide +kernel
theorem dX12_ofPlayer_42 : decode cX12_ofPlayer 42 = .ok (.iload_n 1, 1) := by decide +kernel
theorem dX12_ofPlayer_43 : decode cX12_ofPlayer 43 = .ok (.iaload, 1) := by decide +kernel
theorem dX12_ofPlayer_44 : decode cX12_ofPlayer 44 = .ok (.ireturn, 1) := by decide +kernel
theorem dX12_ofPlayer_45 : decode cX12_ofPlayer 45 = .ok (.aload_n 0, 1) := by decide +kernel
theorem dX12_ofPlayer_46 : decode cX12_ofPlayer 46 = .ok (.getfield 19, 3) := by decide +kernel
theorem dX12_ofPlayer_49 : decode cX12_ofPlayer 49 = .ok (.iload_n 1, 1) := by decide +kernel
theorem dX12_ofPlayer_50 : decode cX12_ofPlayer 50 = .ok (.iaload, 1) := by decide +kernel
theorem dX12_ofPlayer_51 : decode cX12_ofPlayer 51 = .ok (.ireturn, 1) := by decide +kernel
theorem dX12_ofPlayer_52 : decode cX12_ofPlayer 52 = .ok (.aload_n 0, 1) := by decide +kernel
theorem dX12_ofPlayer_53 : decode cX12_ofPlayer 53 = .ok (.getfield 13, 3) := by decide +kernel
theorem dX12_ofPlayer_56 : decode cX12_ofPlayer 56 = .ok (.iload_n 1, 1) := by decide +kernel
theorem dX12_ofPlayer_57 : decode cX12_ofPlayer 57 = .ok (.iaload, 1) := by decide +kernel
theorem dX12_ofPlayer_58 : decode cX12_ofPlayer 58 = .ok (.ireturn, 1) := by decide +kernel
set_option maxRecDepth 20000 in
theorem ggX12_behind_X12_isPlayer : GoodIn wsX12_behind wsX12_isPlayer := goodIn_r _ [5, 6, 7, 8, 4, 9] (by decide +kernel) (by decide +kernel)
set_option maxRecDepth 20000 in
theorem gX12_behind_X12_isPlayer : GoodIn wsX12_behind (va_wsS RX12 82 yX12_isPlayer wsX12_isPlayer) := goodIn_app (goodIn_of _ (by decide +kernel)) ggX12_behind_X12_isPlayer
set_option maxRecDepth 20000 in
theorem ggX12_behind_X12_in : GoodIn wsX12_behind wsX12_in := goodIn_r _ [9] (by decide +kernel) (by decide +kernel)
set_option maxRecDepth 20000 in
theorem gX12_behind_X12_in : GoodIn wsX12_behind (va_wsS RX12 65 yX12_in wsX12_in) := goodIn_app (goodIn_of _ (by decide +kernel)) ggX12_behind_X12_in
set_option maxRecDepth 20000 in
theorem ggX12_behind_X12_refusal : GoodIn wsX12_behind wsX12_refusal := goodIn_r _ [13, 14, 15, 16, 17, 4, 18, 19, 20, 21, 22, 23, 24, 25, 26, 27, 28, 29, 30, 31, 32, 33, 34, 35, 36, 37, 38, 39, 40, 7, 8, 9, 41, 42, 43, 44, 45, 46, 47, 48, 49, 50, 51, 52, 53, 54, 55, 56, 57, 58, 59, 60, 61, 62, 63, 64, 65, 66, 67, 68, 69, 70, 71, 72, 73, 74, 75, 76, 77, 78, 79, 80, 81, 82, 83, 84, 85, 86, 87, 88, 89, 90, 91, 92, 93, 94, 95, 96, 97, 98, 99, 100, 101, 102, 103, 104, 105, 106, 107, 108, 109, 110, 111, 112, 113, 114, 123, 124, 125, 126, 127, 128, 129, 130, 131, 132, 133, 134, 135, 136, 137, 138, 139, 140, 141, 142, 143, 144, 145, 146, 147, 148, 149, 150, 151, 152] (by decide +kernel) (by decide +kernel)
set_option maxRecDepth 20000 in
theorem gX12_behind_X12_refusal : GoodIn wsX12_behind (wsV RX12 195 RX12 yX12_refusal wsX12_refusal) := goodIn_app (goodIn_of _ (by decide +kernel)) ggX12_behind_X12_refusal
set_option maxRecDepth 20000 in
theorem ggX12_behind_X12_ofPlayer : GoodIn wsX12_behind wsX12_ofPlayer := goodIn_r _ [118, 20, 21, 22, 105, 106, 4, 107, 85, 86, 87, 88, 89, 90, 123, 124, 125, 126, 127, 128, 129, 130, 131, 132, 133, 134, 135, 136, 137, 138, 139, 140, 141, 142, 143, 144, 145, 146, 147, 148, 149, 150, 151, 152] (by decide +kernel) (by decide +kernel)
set_option maxRecDepth 20000 in
theorem gX12_behind_X12_ofPlayer : GoodIn wsX12_behind (wsV RX12 203 RX12 yX12_ofPlayer wsX12_ofPlayer) := goodIn_app (goodIn_of _ (by decide +kernel)) ggX12_behind_X12_ofPlayer
set_option maxRecDepth 20000 in
theorem ggX12_behind_X12_back : GoodIn wsX12_behind wsX12_back := goodIn_r _ [122, 20, 19, 21, 22, 23, 24, 123, 124, 125, 126, 127, 128, 129, 130, 131, 132, 133, 134, 135, 136, 137, 138, 139, 140, 141, 142, 143, 144, 145, 146, 147, 148, 149, 150, 151, 152] (by decide +kernel) (by decide +kernel)
set_option maxRecDepth 20000 in
theorem gX12_behind_X12_back : GoodIn wsX12_behind (wsV RX12 198 RX12 yX12_back wsX12_back) := goodIn_app (goodIn_of _ (by decide +kernel)) ggX12_behind_X12_back
theorem dX12_behind_0 : decode cX12_behind 0 = .ok (.iload_n 1, 1) := by decide +kernel
theorem dX12_behind_1 : decode cX12_behind 1 = .ok (.invokestatic 82, 3) := by decide +kernel
theorem dX12_behind_4 : decode cX12_behind 4 = .ok (.ifCond .ne 5, 3) := by decide +kernel
theorem dX12_behind_7 : decode cX12_behind 7 = .ok (.iconst (-1), 1) := by decide +kernel
theorem dX12_behind_8 : decode cX12_behind 8 = .ok (.ireturn, 1) := by decide +kernel
theorem dX12_behind_9 : decode cX12_behind 9 = .ok (.iload_n 2, 1) := by decide +kernel
theorem dX12_behind_10 : decode cX12_behind 10 = .ok (.i2l, 1) := by decide +kernel
theorem dX12_behind_11 : decode cX12_behind 11 = .ok (.lconst 0, 1) := by decide +kernel
theorem dX12_behind_12 : decode cX12_behind 12 = .ok (.ldc2_w 201, 3) := by decide +kernel
theorem dX12_behind_15 : decode cX12_behind 15 = .ok (.invokestatic 65, 3) := by decide +kernel
theorem dX12_behind_18 : decode cX12_behind 18 = .ok (.ifCond .ne 6, 3) := by decide +kernel
theorem dX12_behind_21 : decode cX12_behind 21 = .ok (.bipush (-2), 2) := by decide +kernel
theorem dX12_behind_23 : decode cX12_behind 23 = .ok (.ireturn, 1) := by decide +kernel
theorem dX12_behind_24 : decode cX12_behind 24 = .ok (.aload_n 0, 1) := by decide +kernel
theorem dX12_behind_25 : decode cX12_behind 25 = .ok (.invokevirtual 195, 3) := by decide +kernel
theorem dX12_behind_28 : decode cX12_behind 28 = .ok (.istore_n 3, 1) := by decide +kernel
theorem dX12_behind_29 : decode cX12_behind 29 = .ok (.aload_n 0, 1) := by decide +kernel
theorem dX12_behind_30 : decode cX12_behind 30 = .ok (.iload_n 3, 1) := by decide +kernel
theorem dX12_behind_31 : decode cX12_behind 31 = .ok (.bipush (-6), 2) := by decide +kernel
theorem dX12_behind_33 : decode cX12_behind 33 = .ok (.if_icmp .eq 7, 3) := by decide +kernel
theorem dX12_behind_36 : decode cX12_behind 36 = .ok (.iload_n 3, 1) := by decide +kernel
theorem dX12_behind_37 : decode cX12_behind 37 = .ok (.goto 9, 3) := by decide +kernel
theorem dX12_behind_40 : decode cX12_behind 40 = .ok (.aload_n 0, 1) := by decide +kernel
theorem dX12_behind_41 : decode cX12_behind 41 = .ok (.iload_n 1, 1) := by decide +kernel
theorem dX12_behind_42 : decode cX12_behind 42 = .ok (.iload_n 2, 1) := by decide +kernel
theorem dX12_behind_43 : decode cX12_behind 43 = .ok (.invokevirtual 203, 3) := by decide +kernel
theorem dX12_behind_46 : decode cX12_behind 46 = .ok (.invokevirtual 198, 3) := by decide +kernel
theorem dX12_behind_49 : decode cX12_behind 49 = .ok (.ireturn, 1) := by decide +kernel
theorem dX12_wholeOnes_0 : decode cX12_wholeOnes 0 = .ok (.iconst 0, 1) := by decide +kernel
theorem dX12_wholeOnes_1 : decode cX12_wholeOnes 1 = .ok (.istore_n 1, 1) := by decide +kernel
theorem dX12_wholeOnes_2 : decode cX12_wholeOnes 2 = .ok (.iconst 0, 1) := by decide +kernel
theorem dX12_wholeOnes_3 : decode cX12_wholeOnes 3 = .ok (.istore_n 2, 1) := by decide +kernel
theorem dX12_wholeOnes_4 : decode cX12_wholeOnes 4 = .ok (.iload_n 2, 1) := by decide +kernel
theorem dX12_wholeOnes_5 : decode cX12_wholeOnes 5 = .ok (.bipush 6, 2) := by decide +kernel
theorem dX12_wholeOnes_7 : decode cX12_wholeOnes 7 = .ok (.if_icmp .ge 30, 3) := by decide +kernel
theorem dX12_wholeOnes_10 : decode cX12_wholeOnes 10 = .ok (.iload_n 1, 1) := by decide +kernel
theorem dX12_wholeOnes_11 : decode cX12_wholeOnes 11 = .ok (.aload_n 0, 1) := by decide +kernel
theorem dX12_wholeOnes_12 : decode cX12_wholeOnes 12 = .ok (.getfield 13, 3) := by decide +kernel
theorem dX12_wholeOnes_15 : decode cX12_wholeOnes 15 = .ok (.iload_n 2, 1) := by decide +kernel
theorem dX12_wholeOnes_16 : decode cX12_wholeOnes 16 = .ok (.iaload, 1) := by decide +kernel
theorem dX12_wholeOnes_17 : decode cX12_wholeOnes 17 = .ok (.ldc 122, 2) := by decide +kernel
theorem dX12_wholeOnes_19 : decode cX12_wholeOnes 19 = .ok (.if_icmp .ne 9, 3) := by decide +kernel
theorem dX12_wholeOnes_22 : decode cX12_wholeOnes 22 = .ok (.iconst 1, 1) := by decide +kernel
theorem dX12_wholeOnes_23 : decode cX12_wholeOnes 23 = .ok (.iload_n 2, 1) := by decide +kernel
theorem dX12_wholeOnes_24 : decode cX12_wholeOnes 24 = .ok (.ishl, 1) := by decide +kernel
theorem dX12_wholeOnes_25 : decode cX12_wholeOnes 25 = .ok (.goto 4, 3) := by decide +kernel
theorem dX12_wholeOnes_28 : decode cX12_wholeOnes 28 = .ok (.iconst 0, 1) := by decide +kernel
theorem dX12_wholeOnes_29 : decode cX12_wholeOnes 29 = .ok (.ior, 1) := by decide +kernel
theorem dX12_wholeOnes_30 : decode cX12_wholeOnes 30 = .ok (.istore_n 1, 1) := by decide +kernel
theorem dX12_wholeOnes_31 : decode cX12_wholeOnes 31 = .ok (.iinc 2 1, 3) := by decide +kernel
theorem dX12_wholeOnes_34 : decode cX12_wholeOnes 34 = .ok (.goto (-30), 3) := by decide +kernel
theorem dX12_wholeOnes_37 : decode cX12_wholeOnes 37 = .ok (.iload_n 1, 1) := by decide +kernel
theorem dX12_wholeOnes_38 : decode cX12_wholeOnes 38 = .ok (.ireturn, 1) := by decide +kernel
set_option maxRecDepth 20000 in
theorem ggX12_haveOf_X12_partsOf : GoodIn wsX12_haveOf wsX12_partsOf := goodIn_r _ [6, 7, 8, 5, 9, 10, 11, 12] (by decide +kernel) (by decide +kernel)
set_option maxRecDepth 20000 in
theorem gX12_haveOf_X12_partsOf : GoodIn wsX12_haveOf (va_wsS RX12 146 yX12_partsOf wsX12_partsOf) := goodIn_app (goodIn_of _ (by decide +kernel)) ggX12_haveOf_X12_partsOf
theorem dX12_haveOf_0 : decode cX12_haveOf 0 = .ok (.aload_n 0, 1) := by decide +kernel
theorem dX12_haveOf_1 : decode cX12_haveOf 1 = .ok (.getfield 16, 3) := by decide +kernel
theorem dX12_haveOf_4 : decode cX12_haveOf 4 = .ok (.iload_n 1, 1) := by decide +kernel
theorem dX12_haveOf_5 : decode cX12_haveOf 5 = .ok (.iaload, 1) := by decide +kernel
theorem dX12_haveOf_6 : decode cX12_haveOf 6 = .ok (.aload_n 0, 1) := by decide +kernel
theorem dX12_haveOf_7 : decode cX12_haveOf 7 = .ok (.getfield 13, 3) := by decide +kernel
theorem dX12_haveOf_10 : decode cX12_haveOf 10 = .ok (.iload_n 1, 1) := by decide +kernel
theorem dX12_haveOf_11 : decode cX12_haveOf 11 = .ok (.iaload, 1) := by decide +kernel
theorem dX12_haveOf_12 : decode cX12_haveOf 12 = .ok (.invokestatic 146, 3) := by decide +kernel
theorem dX12_haveOf_15 : decode cX12_haveOf 15 = .ok (.iadd, 1) := by decide +kernel
theorem dX12_haveOf_16 : decode cX12_haveOf 16 = .ok (.ireturn, 1) := by decide +kernel
set_option maxRecDepth 20000 in
theorem ggX12_richest_X12_haveOf : GoodIn wsX12_richest wsX12_haveOf := goodIn_r _ [5, 6, 7, 8, 9, 4, 10, 11, 12, 13, 14, 15, 16, 17, 18, 19, 20, 21, 22, 23, 24, 25, 26, 27, 28, 29, 30, 31, 32, 33, 34, 35, 36, 37, 38, 39, 40, 41, 42, 43, 44, 45, 46] (by decide +kernel) (by decide +kernel)
set_option maxRecDepth 20000 in
theorem gX12_richest_X12_haveOf : GoodIn wsX12_richest (wsV RX12 206 RX12 yX12_haveOf wsX12_haveOf) := goodIn_app (goodIn_of _ (by decide +kernel)) ggX12_richest_X12_haveOf
theorem dX12_richest_0 : decode cX12_richest 0 = .ok (.iconst 0, 1) := by decide +kernel
theorem dX12_richest_1 : decode cX12_richest 1 = .ok (.istore_n 1, 1) := by decide +kernel
theorem dX12_richest_2 : decode cX12_richest 2 = .ok (.iconst 1, 1) := by decide +kernel
theorem dX12_richest_3 : decode cX12_richest 3 = .ok (.istore_n 2, 1) := by decide +kernel
theorem dX12_richest_4 : decode cX12_richest 4 = .ok (.iload_n 2, 1) := by decide +kernel
theorem dX12_richest_5 : decode cX12_richest 5 = .ok (.bipush 6, 2) := by decide +kernel
theorem dX12_richest_7 : decode cX12_richest 7 = .ok (.if_icmp .ge 28, 3) := by decide +kernel
theorem dX12_richest_10 : decode cX12_richest 10 = .ok (.aload_n 0, 1) := by decide +kernel
theorem dX12_richest_11 : decode cX12_richest 11 = .ok (.iload_n 2, 1) := by decide +kernel
theorem dX12_richest_12 : decode cX12_richest 12 = .ok (.invokevirtual 206, 3) := by decide +kernel
theorem dX12_richest_15 : decode cX12_richest 15 = .ok (.aload_n 0, 1) := by decide +kernel
theorem dX12_richest_16 : decode cX12_richest 16 = .ok (.iload_n 1, 1) := by decide +kernel
theorem dX12_richest_17 : decode cX12_richest 17 = .ok (.invokevirtual 206, 3) := by decide +kernel
theorem dX12_richest_20 : decode cX12_richest 20 = .ok (.if_icmp .le 7, 3) := by decide +kernel
theorem dX12_richest_23 : decode cX12_richest 23 = .ok (.iload_n 2, 1) := by decide +kernel
theorem dX12_richest_24 : decode cX12_richest 24 = .ok (.goto 4, 3) := by decide +kernel
theorem dX12_richest_27 : decode cX12_richest 27 = .ok (.iload_n 1, 1) := by decide +kernel
theorem dX12_richest_28 : decode cX12_richest 28 = .ok (.istore_n 1, 1) := by decide +kernel
theorem dX12_richest_29 : decode cX12_richest 29 = .ok (.iinc 2 1, 3) := by decide +kernel
theorem dX12_richest_32 : decode cX12_richest 32 = .ok (.goto (-28), 3) := by decide +kernel
theorem dX12_richest_35 : decode cX12_richest 35 = .ok (.iload_n 1, 1) := by decide +kernel
theorem dX12_richest_36 : decode cX12_richest 36 = .ok (.ireturn, 1) := by decide +kernel
set_option maxRecDepth 20000 in
theorem ggX12_table_X12_in : GoodIn wsX12_table wsX12_in := goodIn_r _ [7] (by decide +kernel) (by decide +kernel)
set_option maxRecDepth 20000 in
theorem gX12_table_X12_in : GoodIn wsX12_table (va_wsS RX12 65 yX12_in wsX12_in) := goodIn_app (goodIn_of _ (by decide +kernel)) ggX12_table_X12_in
set_option maxRecDepth 20000 in
theorem ggX12_table_X12_refusal : GoodIn wsX12_table wsX12_refusal := goodIn_r _ [11, 12, 13, 14, 15, 6, 16, 17, 18, 19, 20, 2, 3, 21, 22, 23, 24, 25, 26, 27, 28, 29, 30, 31, 32, 33, 34, 35, 36, 4, 5, 7, 37, 38, 39, 40, 41, 42, 43, 44, 45, 46, 47, 48, 49, 50, 51, 52, 53, 54, 55, 56, 57, 58, 59, 60, 61, 62, 63, 64, 65, 66, 67, 68, 69, 70, 71, 72, 73, 74, 75, 76, 77, 78, 79, 80, 81, 82, 83, 84, 85, 86, 87, 88, 89, 90, 91, 92, 93, 94, 95, 96, 97, 98, 99, 100, 101, 102, 103, 104, 105, 106, 107, 108, 109, 110, 127, 128, 129, 130, 131, 132, 133, 134, 135, 136, 137, 138, 139, 140, 141, 142, 143, 144, 145, 146, 147, 148, 149, 150, 151, 152, 153, 154, 155, 156] (by decide +kernel) (by decide +kernel)
set_option maxRecDepth 20000 in
theorem gX12_table_X12_refusal : GoodIn wsX12_table (wsV RX12 195 RX12 yX12_refusal wsX12_refusal) := goodIn_app (goodIn_of _ (by decide +kernel)) ggX12_table_X12_refusal
set_option maxRecDepth 20000 in
theorem ggX12_table_X12_wholeOnes : GoodIn wsX12_table wsX12_wholeOnes := goodIn_r _ [114, 18, 58, 127, 128, 129, 130, 131, 132, 133, 134, 135, 136, 137, 138, 139, 140, 141, 142, 143, 144, 145, 146, 147, 148, 149, 150, 151, 152, 153, 154, 155, 156] (by decide +kernel) (by decide +kernel)
set_option maxRecDepth 20000 in
theorem gX12_table_X12_wholeOnes : GoodIn wsX12_table (wsV RX12 209 RX12 yX12_wholeOnes wsX12_wholeOnes) := goodIn_app (goodIn_of _ (by decide +kernel)) ggX12_table_X12_wholeOnes
set_option maxRecDepth 20000 in
theorem ggX12_table_X12_richest : GoodIn wsX12_table wsX12_richest := goodIn_r _ [118, 119, 120, 121, 6, 122, 19, 18, 101, 102, 103, 81, 82, 83, 84, 85, 86, 127, 128, 129, 130, 131, 132, 133, 134, 135, 136, 137, 138, 139, 140, 141, 142, 143, 144, 145, 146, 147, 148, 149, 150, 151, 152, 153, 154, 155, 156] (by decide +kernel) (by decide +kernel)
set_option maxRecDepth 20000 in
theorem gX12_table_X12_richest : GoodIn wsX12_table (wsV RX12 212 RX12 yX12_richest wsX12_richest) := goodIn_app (goodIn_of _ (by decide +kernel)) ggX12_table_X12_richest
set_option maxRecDepth 20000 in
theorem ggX12_table_X12_back : GoodIn wsX12_table wsX12_back := goodIn_r _ [126, 18, 17, 19, 20, 2, 3, 127, 128, 129, 130, 131, 132, 133, 134, 135, 136, 137, 138, 139, 140, 141, 142, 143, 144, 145, 146, 147, 148, 149, 150, 151, 152, 153, 154, 155, 156] (by decide +kernel) (by decide +kernel)
set_option maxRecDepth 20000 in
theorem gX12_table_X12_back : GoodIn wsX12_table (wsV RX12 198 RX12 yX12_back wsX12_back) := goodIn_app (goodIn_of _ (by decide +kernel)) ggX12_table_X12_back
theorem dX12_table_0 : decode cX12_table 0 = .ok (.iload_n 1, 1) := by decide +kernel
theorem dX12_table_1 : decode cX12_table 1 = .ok (.i2l, 1) := by decide +kernel
theorem dX12_table_2 : decode cX12_table 2 = .ok (.lconst 0, 1) := by decide +kernel
theorem dX12_table_3 : decode cX12_table 3 = .ok (.ldc2_w 201, 3) := by decide +kernel
theorem dX12_table_6 : decode cX12_table 6 = .ok (.invokestatic 65, 3) := by decide +kernel
theorem dX12_table_9 : decode cX12_table 9 = .ok (.ifCond .ne 6, 3) := by decide +kernel
theorem dX12_table_12 : decode cX12_table 12 = .ok (.bipush (-2), 2) := by decide +kernel
theorem dX12_table_14 : decode cX12_table 14 = .ok (.ireturn, 1) := by decide +kernel
theorem dX12_table_15 : decode cX12_table 15 = .ok (.aload_n 0, 1) := by decide +kernel
theorem dX12_table_16 : decode cX12_table 16 = .ok (.invokevirtual 195, 3) := by decide +kernel
theorem dX12_table_19 : decode cX12_table 19 = .ok (.istore_n 2, 1) := by decide +kernel
theorem dX12_table_20 : decode cX12_table 20 = .ok (.aload_n 0, 1) := by decide +kernel
theorem dX12_table_21 : decode cX12_table 21 = .ok (.iload_n 2, 1) := by decide +kernel
theorem dX12_table_22 : decode cX12_table 22 = .ok (.bipush (-6), 2) := by decide +kernel
theorem dX12_table_24 : decode cX12_table 24 = .ok (.if_icmp .eq 7, 3) := by decide +kernel
theorem dX12_table_27 : decode cX12_table 27 = .ok (.iload_n 2, 1) := by decide +kernel
theorem dX12_table_28 : decode cX12_table 28 = .ok (.goto 42, 3) := by decide +kernel
theorem dX12_table_31 : decode cX12_table 31 = .ok (.iload_n 1, 1) := by decide +kernel
theorem dX12_table_32 : decode cX12_table 32 = .ok (.ifCond .ne 10, 3) := by decide +kernel
theorem dX12_table_35 : decode cX12_table 35 = .ok (.aload_n 0, 1) := by decide +kernel
theorem dX12_table_36 : decode cX12_table 36 = .ok (.getfield 91, 3) := by decide +kernel
theorem dX12_table_39 : decode cX12_table 39 = .ok (.goto 31, 3) := by decide +kernel
theorem dX12_table_42 : decode cX12_table 42 = .ok (.iload_n 1, 1) := by decide +kernel
theorem dX12_table_43 : decode cX12_table 43 = .ok (.iconst 1, 1) := by decide +kernel
theorem dX12_table_44 : decode cX12_table 44 = .ok (.if_icmp .ne 10, 3) := by decide +kernel
theorem dX12_table_47 : decode cX12_table 47 = .ok (.aload_n 0, 1) := by decide +kernel
theorem dX12_table_48 : decode cX12_table 48 = .ok (.getfield 123, 3) := by decide +kernel
theorem dX12_table_51 : decode cX12_table 51 = .ok (.goto 19, 3) := by decide +kernel
theorem dX12_table_54 : decode cX12_table 54 = .ok (.iload_n 1, 1) := by decide +kernel
theorem dX12_table_55 : decode cX12_table 55 = .ok (.iconst 2, 1) := by decide +kernel
theorem dX12_table_56 : decode cX12_table 56 = .ok (.if_icmp .ne 10, 3) := by decide +kernel
theorem dX12_table_59 : decode cX12_table 59 = .ok (.aload_n 0, 1) := by decide +kernel
theorem dX12_table_60 : decode cX12_table 60 = .ok (.invokevirtual 209, 3) := by decide +kernel
theorem dX12_table_63 : decode cX12_table 63 = .ok (.goto 7, 3) := by decide +kernel
theorem dX12_table_66 : decode cX12_table 66 = .ok (.aload_n 0, 1) := by decide +kernel
theorem dX12_table_67 : decode cX12_table 67 = .ok (.invokevirtual 212, 3) := by decide +kernel
theorem dX12_table_70 : decode cX12_table 70 = .ok (.invokevirtual 198, 3) := by decide +kernel
theorem dX12_table_73 : decode cX12_table 73 = .ok (.ireturn, 1) := by decide +kernel
set_option maxRecDepth 20000 in
theorem ggX12_first_X12_in : GoodIn wsX12_first wsX12_in := goodIn_r _ [6] (by decide +kernel) (by decide +kernel)
set_option maxRecDepth 20000 in
theorem gX12_first_X12_in : GoodIn wsX12_first (va_wsS RX12 65 yX12_in wsX12_in) := goodIn_app (goodIn_of _ (by decide +kernel)) ggX12_first_X12_in
set_option maxRecDepth 20000 in
theorem ggX12_first_X12_refusal : GoodIn wsX12_first wsX12_refusal := goodIn_r _ [10, 11, 12, 13, 14, 5, 15, 16, 17, 18, 19, 20, 21, 22, 23, 24, 25, 26, 27, 28, 29, 30, 31, 32, 33, 34, 35, 36, 37, 3, 4, 6, 38, 39, 40, 41, 42, 43, 44, 45, 46, 47, 48, 49, 50, 51, 1, 2, 52, 53, 54, 55, 56, 57, 58, 59, 60, 61, 62, 63, 64, 65, 66, 67, 68, 69, 70, 71, 72, 73, 74, 75, 76, 77, 78, 79, 80, 81, 82, 83, 84, 85, 86, 87, 88, 89, 90, 91, 92, 93, 94, 95, 96, 97, 98, 99, 100, 101, 102, 103, 104, 105, 106, 107, 108, 109, 114, 115, 116, 117, 118, 119, 120, 121, 122, 123, 124, 125, 126, 127, 128, 129, 130, 131, 132, 133, 134, 135, 136, 137, 138, 139, 140, 141, 142, 143] (by decide +kernel) (by decide +kernel)
set_option maxRecDepth 20000 in
theorem gX12_first_X12_refusal : GoodIn wsX12_first (wsV RX12 195 RX12 yX12_refusal wsX12_refusal) := goodIn_app (goodIn_of _ (by decide +kernel)) ggX12_first_X12_refusal
set_option maxRecDepth 20000 in
theorem ggX12_first_X12_back : GoodIn wsX12_first wsX12_back := goodIn_r _ [113, 17, 16, 18, 19, 20, 21, 114, 115, 116, 117, 118, 119, 120, 121, 122, 123, 124, 125, 126, 127, 128, 129, 130, 131, 132, 133, 134, 135, 136, 137, 138, 139, 140, 141, 142, 143] (by decide +kernel) (by decide +kernel)
set_option maxRecDepth 20000 in
theorem gX12_first_X12_back : GoodIn wsX12_first (wsV RX12 198 RX12 yX12_back wsX12_back) := goodIn_app (goodIn_of _ (by decide +kernel)) ggX12_first_X12_back
theorem dX12_first_0 : decode cX12_first 0 = .ok (.iload_n 1, 1) := by decide +kernel
theorem dX12_first_1 : decode cX12_first 1 = .ok (.i2l, 1) := by decide +kernel
theorem dX12_first_2 : decode cX12_first 2 = .ok (.lconst 0, 1) := by decide +kernel
theorem dX12_first_3 : decode cX12_first 3 = .ok (.lconst 1, 1) := by decide +kernel
theorem dX12_first_4 : decode cX12_first 4 = .ok (.invokestatic 65, 3) := by decide +kernel
theorem dX12_first_7 : decode cX12_first 7 = .ok (.ifCond .ne 6, 3) := by decide +kernel
theorem dX12_first_10 : decode cX12_first 10 = .ok (.bipush (-2), 2) := by decide +kernel
theorem dX12_first_12 : decode cX12_first 12 = .ok (.ireturn, 1) := by decide +kernel
theorem dX12_first_13 : decode cX12_first 13 = .ok (.aload_n 0, 1) := by decide +kernel
theorem dX12_first_14 : decode cX12_first 14 = .ok (.aload_n 0, 1) := by decide +kernel
theorem dX12_first_15 : decode cX12_first 15 = .ok (.invokevirtual 195, 3) := by decide +kernel
theorem dX12_first_18 : decode cX12_first 18 = .ok (.invokevirtual 198, 3) := by decide +kernel
theorem dX12_first_21 : decode cX12_first 21 = .ok (.istore_n 2, 1) := by decide +kernel
theorem dX12_first_22 : decode cX12_first 22 = .ok (.iload_n 2, 1) := by decide +kernel
theorem dX12_first_23 : decode cX12_first 23 = .ok (.bipush (-6), 2) := by decide +kernel
theorem dX12_first_25 : decode cX12_first 25 = .ok (.if_icmp .eq 7, 3) := by decide +kernel
theorem dX12_first_28 : decode cX12_first 28 = .ok (.iload_n 2, 1) := by decide +kernel
theorem dX12_first_29 : decode cX12_first 29 = .ok (.goto 18, 3) := by decide +kernel
theorem dX12_first_32 : decode cX12_first 32 = .ok (.iload_n 1, 1) := by decide +kernel
theorem dX12_first_33 : decode cX12_first 33 = .ok (.ifCond .ne 10, 3) := by decide +kernel
theorem dX12_first_36 : decode cX12_first 36 = .ok (.aload_n 0, 1) := by decide +kernel
theorem dX12_first_37 : decode cX12_first 37 = .ok (.getfield 166, 3) := by decide +kernel
theorem dX12_first_40 : decode cX12_first 40 = .ok (.goto 7, 3) := by decide +kernel
theorem dX12_first_43 : decode cX12_first 43 = .ok (.aload_n 0, 1) := by decide +kernel
theorem dX12_first_44 : decode cX12_first 44 = .ok (.getfield 169, 3) := by decide +kernel
theorem dX12_first_47 : decode cX12_first 47 = .ok (.ireturn, 1) := by decide +kernel
set_option maxRecDepth 20000 in
theorem ggX12_done_X12_refusal : GoodIn wsX12_done wsX12_refusal := goodIn_r _ [7, 8, 9, 10, 11, 6, 12, 13, 14, 15, 16, 17, 18, 19, 20, 21, 22, 2, 1, 23, 24, 25, 26, 27, 28, 29, 30, 31, 32, 33, 34, 35, 36, 37, 38, 39, 40, 41, 42, 43, 44, 45, 46, 47, 48, 49, 50, 51, 52, 53, 54, 55, 56, 57, 58, 59, 60, 61, 62, 63, 64, 65, 66, 67, 68, 69, 70, 71, 72, 73, 74, 75, 76, 77, 78, 79, 80, 81, 82, 83, 84, 85, 86, 87, 88, 89, 90, 91, 92, 93, 94, 95, 96, 97, 98, 99, 100, 101, 102, 103, 104, 105, 106, 107, 108, 109, 114, 115, 116, 117, 118, 119, 120, 121, 122, 123, 124, 125, 126, 127, 128, 129, 130, 131, 132, 133, 134, 135, 136, 137, 138, 139, 140, 141, 142, 143] (by decide +kernel) (by decide +kernel)
set_option maxRecDepth 20000 in
theorem gX12_done_X12_refusal : GoodIn wsX12_done (wsV RX12 195 RX12 yX12_refusal wsX12_refusal) := goodIn_app (goodIn_of _ (by decide +kernel)) ggX12_done_X12_refusal
set_option maxRecDepth 20000 in
theorem ggX12_done_X12_back : GoodIn wsX12_done wsX12_back := goodIn_r _ [113, 14, 13, 15, 16, 17, 18, 114, 115, 116, 117, 118, 119, 120, 121, 122, 123, 124, 125, 126, 127, 128, 129, 130, 131, 132, 133, 134, 135, 136, 137, 138, 139, 140, 141, 142, 143] (by decide +kernel) (by decide +kernel)
set_option maxRecDepth 20000 in
theorem gX12_done_X12_back : GoodIn wsX12_done (wsV RX12 198 RX12 yX12_back wsX12_back) := goodIn_app (goodIn_of _ (by decide +kernel)) ggX12_done_X12_back
theorem dX12_done_0 : decode cX12_done 0 = .ok (.aload_n 0, 1) := by decide +kernel
theorem dX12_done_1 : decode cX12_done 1 = .ok (.invokevirtual 195, 3) := by decide +kernel
theorem dX12_done_4 : decode cX12_done 4 = .ok (.istore_n 1, 1) := by decide +kernel
theorem dX12_done_5 : decode cX12_done 5 = .ok (.iload_n 1, 1) := by decide +kernel
theorem dX12_done_6 : decode cX12_done 6 = .ok (.bipush (-6), 2) := by decide +kernel
theorem dX12_done_8 : decode cX12_done 8 = .ok (.if_icmp .eq 9, 3) := by decide +kernel
theorem dX12_done_11 : decode cX12_done 11 = .ok (.aload_n 0, 1) := by decide +kernel
theorem dX12_done_12 : decode cX12_done 12 = .ok (.iload_n 1, 1) := by decide +kernel
theorem dX12_done_13 : decode cX12_done 13 = .ok (.invokevirtual 198, 3) := by decide +kernel
theorem dX12_done_16 : decode cX12_done 16 = .ok (.ireturn, 1) := by decide +kernel
theorem dX12_done_17 : decode cX12_done 17 = .ok (.aload_n 0, 1) := by decide +kernel
theorem dX12_done_18 : decode cX12_done 18 = .ok (.iconst 0, 1) := by decide +kernel
theorem dX12_done_19 : decode cX12_done 19 = .ok (.putfield 99, 3) := by decide +kernel
theorem dX12_done_22 : decode cX12_done 22 = .ok (.aload_n 0, 1) := by decide +kernel
theorem dX12_done_23 : decode cX12_done 23 = .ok (.getfield 102, 3) := by decide +kernel
theorem dX12_done_26 : decode cX12_done 26 = .ok (.ireturn, 1) := by decide +kernel
set_option maxRecDepth 20000 in
theorem ggX12_placeOf_X12_figureOf : GoodIn wsX12_placeOf wsX12_figureOf := goodIn_r _ [5, 6, 7, 4, 8] (by decide +kernel) (by decide +kernel)
set_option maxRecDepth 20000 in
theorem gX12_placeOf_X12_figureOf : GoodIn wsX12_placeOf (va_wsS RX12 75 yX12_figureOf wsX12_figureOf) := goodIn_app (goodIn_of _ (by decide +kernel)) ggX12_placeOf_X12_figureOf
theorem dX12_placeOf_0 : decode cX12_placeOf 0 = .ok (.iconst 0, 1) := by decide +kernel
theorem dX12_placeOf_1 : decode cX12_placeOf 1 = .ok (.istore_n 2, 1) := by decide +kernel
theorem dX12_placeOf_2 : decode cX12_placeOf 2 = .ok (.iconst 5, 1) := by decide +kernel
theorem dX12_placeOf_3 : decode cX12_placeOf 3 = .ok (.istore_n 3, 1) := by decide +kernel
theorem dX12_placeOf_4 : decode cX12_placeOf 4 = .ok (.iload_n 3, 1) := by decide +kernel
theorem dX12_placeOf_5 : decode cX12_placeOf 5 = .ok (.ifCond .lt 26, 3) := by decide +kernel
theorem dX12_placeOf_8 : decode cX12_placeOf 8 = .ok (.aload_n 0, 1) := by decide +kernel
theorem dX12_placeOf_9 : decode cX12_placeOf 9 = .ok (.getfield 7, 3) := by decide +kernel
theorem dX12_placeOf_12 : decode cX12_placeOf 12 = .ok (.iload_n 3, 1) := by decide +kernel
theorem dX12_placeOf_13 : decode cX12_placeOf 13 = .ok (.iaload, 1) := by decide +kernel
theorem dX12_placeOf_14 : decode cX12_placeOf 14 = .ok (.iconst 1, 1) := by decide +kernel
theorem dX12_placeOf_15 : decode cX12_placeOf 15 = .ok (.iadd, 1) := by decide +kernel
theorem dX12_placeOf_16 : decode cX12_placeOf 16 = .ok (.iload_n 2, 1) := by decide +kernel
theorem dX12_placeOf_17 : decode cX12_placeOf 17 = .ok (.imul, 1) := by decide +kernel
theorem dX12_placeOf_18 : decode cX12_placeOf 18 = .ok (.iload_n 1, 1) := by decide +kernel
theorem dX12_placeOf_19 : decode cX12_placeOf 19 = .ok (.iload_n 3, 1) := by decide +kernel
theorem dX12_placeOf_20 : decode cX12_placeOf 20 = .ok (.invokestatic 75, 3) := by decide +kernel
theorem dX12_placeOf_23 : decode cX12_placeOf 23 = .ok (.iadd, 1) := by decide +kernel
theorem dX12_placeOf_24 : decode cX12_placeOf 24 = .ok (.istore_n 2, 1) := by decide +kernel
theorem dX12_placeOf_25 : decode cX12_placeOf 25 = .ok (.iinc 3 (-1), 3) := by decide +kernel
theorem dX12_placeOf_28 : decode cX12_placeOf 28 = .ok (.goto (-24), 3) := by decide +kernel
theorem dX12_placeOf_31 : decode cX12_placeOf 31 = .ok (.iload_n 2, 1) := by decide +kernel
theorem dX12_placeOf_32 : decode cX12_placeOf 32 = .ok (.ireturn, 1) := by decide +kernel
set_option maxRecDepth 20000 in
theorem ggX12_drawnAt_X12_tenTo : GoodIn wsX12_drawnAt wsX12_tenTo := goodIn_r _ [5] (by decide +kernel) (by decide +kernel)
set_option maxRecDepth 20000 in
theorem gX12_drawnAt_X12_tenTo : GoodIn wsX12_drawnAt (va_wsS RX12 69 yX12_tenTo wsX12_tenTo) := goodIn_app (goodIn_of _ (by decide +kernel)) ggX12_drawnAt_X12_tenTo
theorem dX12_drawnAt_0 : decode cX12_drawnAt 0 = .ok (.iconst 0, 1) := by decide +kernel
theorem dX12_drawnAt_1 : decode cX12_drawnAt 1 = .ok (.istore_n 2, 1) := by decide +kernel
theorem dX12_drawnAt_2 : decode cX12_drawnAt 2 = .ok (.iload_n 1, 1) := by decide +kernel
theorem dX12_drawnAt_3 : decode cX12_drawnAt 3 = .ok (.istore_n 3, 1) := by decide +kernel
theorem dX12_drawnAt_4 : decode cX12_drawnAt 4 = .ok (.iconst 0, 1) := by decide +kernel
theorem dX12_drawnAt_5 : decode cX12_drawnAt 5 = .ok (.istore 4, 2) := by decide +kernel
theorem dX12_drawnAt_7 : decode cX12_drawnAt 7 = .ok (.iload 4, 2) := by decide +kernel
theorem dX12_drawnAt_9 : decode cX12_drawnAt 9 = .ok (.bipush 6, 2) := by decide +kernel
theorem dX12_drawnAt_11 : decode cX12_drawnAt 11 = .ok (.if_icmp .ge 43, 3) := by decide +kernel
theorem dX12_drawnAt_14 : decode cX12_drawnAt 14 = .ok (.iload_n 2, 1) := by decide +kernel
theorem dX12_drawnAt_15 : decode cX12_drawnAt 15 = .ok (.iload_n 3, 1) := by decide +kernel
theorem dX12_drawnAt_16 : decode cX12_drawnAt 16 = .ok (.aload_n 0, 1) := by decide +kernel
theorem dX12_drawnAt_17 : decode cX12_drawnAt 17 = .ok (.getfield 7, 3) := by decide +kernel
theorem dX12_drawnAt_20 : decode cX12_drawnAt 20 = .ok (.iload 4, 2) := by decide +kernel
theorem dX12_drawnAt_22 : decode cX12_drawnAt 22 = .ok (.iaload, 1) := by decide +kernel
theorem dX12_drawnAt_23 : decode cX12_drawnAt 23 = .ok (.iconst 1, 1) := by decide +kernel
theorem dX12_drawnAt_24 : decode cX12_drawnAt 24 = .ok (.iadd, 1) := by decide +kernel
theorem dX12_drawnAt_25 : decode cX12_drawnAt 25 = .ok (.irem, 1) := by decide +kernel
theorem dX12_drawnAt_26 : decode cX12_drawnAt 26 = .ok (.iconst 5, 1) := by decide +kernel
theorem dX12_drawnAt_27 : decode cX12_drawnAt 27 = .ok (.iload 4, 2) := by decide +kernel
theorem dX12_drawnAt_29 : decode cX12_drawnAt 29 = .ok (.isub, 1) := by decide +kernel
theorem dX12_drawnAt_30 : decode cX12_drawnAt 30 = .ok (.invokestatic 69, 3) := by decide +kernel
theorem dX12_drawnAt_33 : decode cX12_drawnAt 33 = .ok (.imul, 1) := by decide +kernel
theorem dX12_drawnAt_34 : decode cX12_drawnAt 34 = .ok (.iadd, 1) := by decide +kernel
theorem dX12_drawnAt_35 : decode cX12_drawnAt 35 = .ok (.istore_n 2, 1) := by decide +kernel
theorem dX12_drawnAt_36 : decode cX12_drawnAt 36 = .ok (.iload_n 3, 1) := by decide +kernel
theorem dX12_drawnAt_37 : decode cX12_drawnAt 37 = .ok (.aload_n 0, 1) := by decide +kernel
theorem dX12_drawnAt_38 : decode cX12_drawnAt 38 = .ok (.getfield 7, 3) := by decide +kernel
theorem dX12_drawnAt_41 : decode cX12_drawnAt 41 = .ok (.iload 4, 2) := by decide +kernel
theorem dX12_drawnAt_43 : decode cX12_drawnAt 43 = .ok (.iaload, 1) := by decide +kernel
theorem dX12_drawnAt_44 : decode cX12_drawnAt 44 = .ok (.iconst 1, 1) := by decide +kernel
theorem dX12_drawnAt_45 : decode cX12_drawnAt 45 = .ok (.iadd, 1) := by decide +kernel
theorem dX12_drawnAt_46 : decode cX12_drawnAt 46 = .ok (.idiv, 1) := by decide +kernel
theorem dX12_drawnAt_47 : decode cX12_drawnAt 47 = .ok (.istore_n 3, 1) := by decide +kernel
theorem dX12_drawnAt_48 : decode cX12_drawnAt 48 = .ok (.iinc 4 1, 3) := by decide +kernel
theorem dX12_drawnAt_51 : decode cX12_drawnAt 51 = .ok (.goto (-44), 3) := by decide +kernel
theorem dX12_drawnAt_54 : decode cX12_drawnAt 54 = .ok (.iload_n 2, 1) := by decide +kernel
theorem dX12_drawnAt_55 : decode cX12_drawnAt 55 = .ok (.ireturn, 1) := by decide +kernel
set_option maxRecDepth 20000 in
theorem ggX12_ordersFrom_X12_canDraw : GoodIn wsX12_ordersFrom wsX12_canDraw := goodIn_r _ [7, 8, 9, 10, 6, 11, 12, 13, 14, 15, 16, 17, 25, 26, 27, 28, 29, 30, 31, 32, 33, 34, 35, 36, 37, 38, 39, 40, 41, 42, 43, 44, 45, 46, 47, 48, 49, 50, 51, 52, 53, 54] (by decide +kernel) (by decide +kernel)
set_option maxRecDepth 20000 in
theorem gX12_ordersFrom_X12_canDraw : GoodIn wsX12_ordersFrom (wsV RX12 130 RX12 yX12_canDraw wsX12_canDraw) := goodIn_app (goodIn_of _ (by decide +kernel)) ggX12_ordersFrom_X12_canDraw
set_option maxRecDepth 20000 in
theorem ggX12_ordersFrom_X12_drawnBy : GoodIn wsX12_ordersFrom wsX12_drawnBy := goodIn_r _ [20, 12, 13, 6, 14] (by decide +kernel) (by decide +kernel)
set_option maxRecDepth 20000 in
theorem gX12_ordersFrom_X12_drawnBy : GoodIn wsX12_ordersFrom (va_wsS RX12 140 yX12_drawnBy wsX12_drawnBy) := goodIn_app (goodIn_of _ (by decide +kernel)) ggX12_ordersFrom_X12_drawnBy
set_option maxRecDepth 20000 in
theorem ggX12_ordersFrom_X12_placeOf : GoodIn wsX12_ordersFrom wsX12_placeOf := goodIn_r _ [24, 8, 9, 10, 6, 11, 12, 13, 14, 25, 26, 27, 28, 29, 30, 31, 32, 33, 34, 35, 36, 37, 38, 39, 40, 41, 42, 43, 44, 45, 46, 47, 48, 49, 50, 51, 52, 53, 54] (by decide +kernel) (by decide +kernel)
set_option maxRecDepth 20000 in
theorem gX12_ordersFrom_X12_placeOf : GoodIn wsX12_ordersFrom (wsV RX12 215 RX12 yX12_placeOf wsX12_placeOf) := goodIn_app (goodIn_of _ (by decide +kernel)) ggX12_ordersFrom_X12_placeOf
theorem dX12_ordersFrom_0 : decode cX12_ordersFrom 0 = .ok (.iload_n 1, 1) := by decide +kernel
theorem dX12_ordersFrom_1 : decode cX12_ordersFrom 1 = .ok (.ldc 122, 2) := by decide +kernel
theorem dX12_ordersFrom_3 : decode cX12_ordersFrom 3 = .ok (.if_icmp .ne 7, 3) := by decide +kernel
theorem dX12_ordersFrom_6 : decode cX12_ordersFrom 6 = .ok (.lconst 1, 1) := by decide +kernel
theorem dX12_ordersFrom_7 : decode cX12_ordersFrom 7 = .ok (.goto 4, 3) := by decide +kernel
theorem dX12_ordersFrom_10 : decode cX12_ordersFrom 10 = .ok (.lconst 0, 1) := by decide +kernel
theorem dX12_ordersFrom_11 : decode cX12_ordersFrom 11 = .ok (.lstore_n 2, 1) := by decide +kernel
theorem dX12_ordersFrom_12 : decode cX12_ordersFrom 12 = .ok (.iconst 1, 1) := by decide +kernel
theorem dX12_ordersFrom_13 : decode cX12_ordersFrom 13 = .ok (.istore 4, 2) := by decide +kernel
theorem dX12_ordersFrom_15 : decode cX12_ordersFrom 15 = .ok (.iload 4, 2) := by decide +kernel
theorem dX12_ordersFrom_17 : decode cX12_ordersFrom 17 = .ok (.bipush 6, 2) := by decide +kernel
theorem dX12_ordersFrom_19 : decode cX12_ordersFrom 19 = .ok (.if_icmp .gt 41, 3) := by decide +kernel
theorem dX12_ordersFrom_22 : decode cX12_ordersFrom 22 = .ok (.lload_n 2, 1) := by decide +kernel
theorem dX12_ordersFrom_23 : decode cX12_ordersFrom 23 = .ok (.aload_n 0, 1) := by decide +kernel
theorem dX12_ordersFrom_24 : decode cX12_ordersFrom 24 = .ok (.iload_n 1, 1) := by decide +kernel
theorem dX12_ordersFrom_25 : decode cX12_ordersFrom 25 = .ok (.iload 4, 2) := by decide +kernel
theorem dX12_ordersFrom_27 : decode cX12_ordersFrom 27 = .ok (.invokevirtual 130, 3) := by decide +kernel
theorem dX12_ordersFrom_30 : decode cX12_ordersFrom 30 = .ok (.ifCond .eq 21, 3) := by decide +kernel
theorem dX12_ordersFrom_33 : decode cX12_ordersFrom 33 = .ok (.aload_n 0, 1) := by decide +kernel
theorem dX12_ordersFrom_34 : decode cX12_ordersFrom 34 = .ok (.getfield 40, 3) := by decide +kernel
theorem dX12_ordersFrom_37 : decode cX12_ordersFrom 37 = .ok (.aload_n 0, 1) := by decide +kernel
theorem dX12_ordersFrom_38 : decode cX12_ordersFrom 38 = .ok (.iload_n 1, 1) := by decide +kernel
theorem dX12_ordersFrom_39 : decode cX12_ordersFrom 39 = .ok (.iload 4, 2) := by decide +kernel
theorem dX12_ordersFrom_41 : decode cX12_ordersFrom 41 = .ok (.invokestatic 140, 3) := by decide +kernel
theorem dX12_ordersFrom_44 : decode cX12_ordersFrom 44 = .ok (.invokevirtual 215, 3) := by decide +kernel
theorem dX12_ordersFrom_47 : decode cX12_ordersFrom 47 = .ok (.laload, 1) := by decide +kernel
theorem dX12_ordersFrom_48 : decode cX12_ordersFrom 48 = .ok (.goto 4, 3) := by decide +kernel
theorem dX12_ordersFrom_51 : decode cX12_ordersFrom 51 = .ok (.lconst 0, 1) := by decide +kernel
theorem dX12_ordersFrom_52 : decode cX12_ordersFrom 52 = .ok (.ladd, 1) := by decide +kernel
theorem dX12_ordersFrom_53 : decode cX12_ordersFrom 53 = .ok (.lstore_n 2, 1) := by decide +kernel
theorem dX12_ordersFrom_54 : decode cX12_ordersFrom 54 = .ok (.iinc 4 1, 3) := by decide +kernel
theorem dX12_ordersFrom_57 : decode cX12_ordersFrom 57 = .ok (.goto (-42), 3) := by decide +kernel
theorem dX12_ordersFrom_60 : decode cX12_ordersFrom 60 = .ok (.lload_n 2, 1) := by decide +kernel
theorem dX12_ordersFrom_61 : decode cX12_ordersFrom 61 = .ok (.lreturn, 1) := by decide +kernel
set_option maxRecDepth 20000 in
theorem ggX12_orders_X12_isBeetle : GoodIn wsX12_orders wsX12_isBeetle := goodIn_r _ [6, 7, 8, 9, 10, 5, 11, 12, 13, 14, 15, 16, 17, 18, 19, 20, 41, 42, 43, 44, 45, 46, 47, 48, 49, 50, 51, 52, 53, 54, 55, 56, 57, 58, 59, 60, 61, 62, 63, 64, 65, 66, 67, 68, 69, 70] (by decide +kernel) (by decide +kernel)
set_option maxRecDepth 20000 in
theorem gX12_orders_X12_isBeetle : GoodIn wsX12_orders (wsV RX12 86 RX12 yX12_isBeetle wsX12_isBeetle) := goodIn_app (goodIn_of _ (by decide +kernel)) ggX12_orders_X12_isBeetle
set_option maxRecDepth 20000 in
theorem ggX12_orders_X12_in : GoodIn wsX12_orders wsX12_in := goodIn_r _ [11] (by decide +kernel) (by decide +kernel)
set_option maxRecDepth 20000 in
theorem gX12_orders_X12_in : GoodIn wsX12_orders (va_wsS RX12 65 yX12_in wsX12_in) := goodIn_app (goodIn_of _ (by decide +kernel)) ggX12_orders_X12_in
set_option maxRecDepth 20000 in
theorem ggX12_orders_X12_drawnAt : GoodIn wsX12_orders wsX12_drawnAt := goodIn_r _ [24, 8, 15, 16, 5, 17, 41, 42, 43, 44, 45, 46, 47, 48, 49, 50, 51, 52, 53, 54, 55, 56, 57, 58, 59, 60, 61, 62, 63, 64, 65, 66, 67, 68, 69, 70] (by decide +kernel) (by decide +kernel)
set_option maxRecDepth 20000 in
theorem gX12_orders_X12_drawnAt : GoodIn wsX12_orders (wsV RX12 218 RX12 yX12_drawnAt wsX12_drawnAt) := goodIn_app (goodIn_of _ (by decide +kernel)) ggX12_orders_X12_drawnAt
set_option maxRecDepth 20000 in
theorem ggX12_orders_X12_ordersFrom : GoodIn wsX12_orders wsX12_ordersFrom := goodIn_r _ [28, 29, 1, 30, 31, 32, 5, 33, 8, 12, 13, 14, 15, 16, 17, 18, 19, 20, 34, 35, 36, 37, 38, 39, 40, 41, 42, 43, 44, 45, 46, 47, 48, 49, 50, 51, 52, 53, 54, 55, 56, 57, 58, 59, 60, 61, 62, 63, 64, 65, 66, 67, 68, 69, 70] (by decide +kernel) (by decide +kernel)
set_option maxRecDepth 20000 in
theorem gX12_orders_X12_ordersFrom : GoodIn wsX12_orders (wsV RX12 221 RX12 yX12_ordersFrom wsX12_ordersFrom) := goodIn_app (goodIn_of _ (by decide +kernel)) ggX12_orders_X12_ordersFrom
set_option maxRecDepth 20000 in
theorem ggX12_orders_X12_placeOf : GoodIn wsX12_orders wsX12_placeOf := goodIn_r _ [40, 8, 12, 13, 5, 14, 15, 16, 17, 41, 42, 43, 44, 45, 46, 47, 48, 49, 50, 51, 52, 53, 54, 55, 56, 57, 58, 59, 60, 61, 62, 63, 64, 65, 66, 67, 68, 69, 70] (by decide +kernel) (by decide +kernel)
set_option maxRecDepth 20000 in
theorem gX12_orders_X12_placeOf : GoodIn wsX12_orders (wsV RX12 215 RX12 yX12_placeOf wsX12_placeOf) := goodIn_app (goodIn_of _ (by decide +kernel)) ggX12_orders_X12_placeOf
set_option maxRecDepth 20000 in
theorem ggX12_orders_X12_canDraw : GoodIn wsX12_orders wsX12_canDraw := goodIn_r _ [33, 8, 12, 13, 5, 14, 15, 16, 17, 18, 19, 20, 41, 42, 43, 44, 45, 46, 47, 48, 49, 50, 51, 52, 53, 54, 55, 56, 57, 58, 59, 60, 61, 62, 63, 64, 65, 66, 67, 68, 69, 70] (by decide +kernel) (by decide +kernel)
set_option maxRecDepth 20000 in
theorem gX12_orders_X12_canDraw : GoodIn wsX12_orders (wsV RX12 130 RX12 yX12_canDraw wsX12_canDraw) := goodIn_app (goodIn_of _ (by decide +kernel)) ggX12_orders_X12_canDraw
theorem dX12_orders_0 : decode cX12_orders 0 = .ok (.aload_n 0, 1) := by decide +kernel
theorem dX12_orders_1 : decode cX12_orders 1 = .ok (.iload_n 1, 1) := by decide +kernel
theorem dX12_orders_2 : decode cX12_orders 2 = .ok (.invokevirtual 86, 3) := by decide +kernel
theorem dX12_orders_5 : decode cX12_orders 5 = .ok (.ifCond .eq 13, 3) := by decide +kernel
theorem dX12_orders_8 : decode cX12_orders 8 = .ok (.iload_n 2, 1) := by decide +kernel
theorem dX12_orders_9 : decode cX12_orders 9 = .ok (.i2l, 1) := by decide +kernel
theorem dX12_orders_10 : decode cX12_orders 10 = .ok (.lconst 0, 1) := by decide +kernel
theorem dX12_orders_11 : decode cX12_orders 11 = .ok (.lconst 1, 1) := by decide +kernel
theorem dX12_orders_12 : decode cX12_orders 12 = .ok (.invokestatic 65, 3) := by decide +kernel
theorem dX12_orders_15 : decode cX12_orders 15 = .ok (.ifCond .ne 6, 3) := by decide +kernel
theorem dX12_orders_18 : decode cX12_orders 18 = .ok (.bipush (-2), 2) := by decide +kernel
theorem dX12_orders_20 : decode cX12_orders 20 = .ok (.ireturn, 1) := by decide +kernel
theorem dX12_orders_21 : decode cX12_orders 21 = .ok (.sipush 503, 3) := by decide +kernel
theorem dX12_orders_24 : decode cX12_orders 24 = .ok (.istore_n 3, 1) := by decide +kernel
theorem dX12_orders_25 : decode cX12_orders 25 = .ok (.iload_n 3, 1) := by decide +kernel
theorem dX12_orders_26 : decode cX12_orders 26 = .ok (.ifCond .lt 24, 3) := by decide +kernel
theorem dX12_orders_29 : decode cX12_orders 29 = .ok (.aload_n 0, 1) := by decide +kernel
theorem dX12_orders_30 : decode cX12_orders 30 = .ok (.getfield 40, 3) := by decide +kernel
theorem dX12_orders_33 : decode cX12_orders 33 = .ok (.iload_n 3, 1) := by decide +kernel
theorem dX12_orders_34 : decode cX12_orders 34 = .ok (.aload_n 0, 1) := by decide +kernel
theorem dX12_orders_35 : decode cX12_orders 35 = .ok (.aload_n 0, 1) := by decide +kernel
theorem dX12_orders_36 : decode cX12_orders 36 = .ok (.iload_n 3, 1) := by decide +kernel
theorem dX12_orders_37 : decode cX12_orders 37 = .ok (.invokevirtual 218, 3) := by decide +kernel
theorem dX12_orders_40 : decode cX12_orders 40 = .ok (.invokevirtual 221, 3) := by decide +kernel
theorem dX12_orders_43 : decode cX12_orders 43 = .ok (.lastore, 1) := by decide +kernel
theorem dX12_orders_44 : decode cX12_orders 44 = .ok (.iinc 3 (-1), 3) := by decide +kernel
theorem dX12_orders_47 : decode cX12_orders 47 = .ok (.goto (-22), 3) := by decide +kernel
theorem dX12_orders_50 : decode cX12_orders 50 = .ok (.iload_n 2, 1) := by decide +kernel
theorem dX12_orders_51 : decode cX12_orders 51 = .ok (.ifCond .ne 15, 3) := by decide +kernel
theorem dX12_orders_54 : decode cX12_orders 54 = .ok (.aload_n 0, 1) := by decide +kernel
theorem dX12_orders_55 : decode cX12_orders 55 = .ok (.getfield 40, 3) := by decide +kernel
theorem dX12_orders_58 : decode cX12_orders 58 = .ok (.aload_n 0, 1) := by decide +kernel
theorem dX12_orders_59 : decode cX12_orders 59 = .ok (.iload_n 1, 1) := by decide +kernel
theorem dX12_orders_60 : decode cX12_orders 60 = .ok (.invokevirtual 215, 3) := by decide +kernel
theorem dX12_orders_63 : decode cX12_orders 63 = .ok (.laload, 1) := by decide +kernel
theorem dX12_orders_64 : decode cX12_orders 64 = .ok (.l2i, 1) := by decide +kernel
theorem dX12_orders_65 : decode cX12_orders 65 = .ok (.ireturn, 1) := by decide +kernel
theorem dX12_orders_66 : decode cX12_orders 66 = .ok (.bipush (-6), 2) := by decide +kernel
theorem dX12_orders_68 : decode cX12_orders 68 = .ok (.istore_n 3, 1) := by decide +kernel
theorem dX12_orders_69 : decode cX12_orders 69 = .ok (.bipush 6, 2) := by decide +kernel
theorem dX12_orders_71 : decode cX12_orders 71 = .ok (.istore 4, 2) := by decide +kernel
theorem dX12_orders_73 : decode cX12_orders 73 = .ok (.iload 4, 2) := by decide +kernel
theorem dX12_orders_75 : decode cX12_orders 75 = .ok (.ifCond .le 26, 3) := by decide +kernel
theorem dX12_orders_78 : decode cX12_orders 78 = .ok (.aload_n 0, 1) := by decide +kernel
theorem dX12_orders_79 : decode cX12_orders 79 = .ok (.iload_n 1, 1) := by decide +kernel
theorem dX12_orders_80 : decode cX12_orders 80 = .ok (.iload 4, 2) := by decide +kernel
theorem dX12_orders_82 : decode cX12_orders 82 = .ok (.invokevirtual 130, 3) := by decide +kernel
theorem dX12_orders_85 : decode cX12_orders 85 = .ok (.ifCond .eq 8, 3) := by decide +kernel
theorem dX12_orders_88 : decode cX12_orders 88 = .ok (.iload 4, 2) := by decide +kernel
theorem dX12_orders_90 : decode cX12_orders 90 = .ok (.goto 4, 3) := by decide +kernel
theorem dX12_orders_93 : decode cX12_orders 93 = .ok (.iload_n 3, 1) := by decide +kernel
theorem dX12_orders_94 : decode cX12_orders 94 = .ok (.istore_n 3, 1) := by decide +kernel
theorem dX12_orders_95 : decode cX12_orders 95 = .ok (.iinc 4 (-1), 3) := by decide +kernel
theorem dX12_orders_98 : decode cX12_orders 98 = .ok (.goto (-25), 3) := by decide +kernel
theorem dX12_orders_101 : decode cX12_orders 101 = .ok (.iload_n 3, 1) := by decide +kernel
theorem dX12_orders_102 : decode cX12_orders 102 = .ok (.ireturn, 1) := by decide +kernel
set_option maxRecDepth 20000 in
theorem ggX12_castsFrom_X12_drawnAt : GoodIn wsX12_castsFrom wsX12_drawnAt := goodIn_r _ [6, 7, 8, 9, 5, 10, 28, 29, 30, 31, 32, 33, 34, 35, 36, 37, 38, 39, 40, 41, 42, 43, 44, 45, 46, 47, 48, 49, 50, 51, 52, 53, 54, 55, 56, 57] (by decide +kernel) (by decide +kernel)
set_option maxRecDepth 20000 in
theorem gX12_castsFrom_X12_drawnAt : GoodIn wsX12_castsFrom (wsV RX12 218 RX12 yX12_drawnAt wsX12_drawnAt) := goodIn_app (goodIn_of _ (by decide +kernel)) ggX12_castsFrom_X12_drawnAt
set_option maxRecDepth 20000 in
theorem ggX12_castsFrom_X12_canDraw : GoodIn wsX12_castsFrom wsX12_canDraw := goodIn_r _ [14, 7, 15, 16, 5, 17, 8, 9, 10, 18, 19, 20, 28, 29, 30, 31, 32, 33, 34, 35, 36, 37, 38, 39, 40, 41, 42, 43, 44, 45, 46, 47, 48, 49, 50, 51, 52, 53, 54, 55, 56, 57] (by decide +kernel) (by decide +kernel)
set_option maxRecDepth 20000 in
theorem gX12_castsFrom_X12_canDraw : GoodIn wsX12_castsFrom (wsV RX12 130 RX12 yX12_canDraw wsX12_canDraw) := goodIn_app (goodIn_of _ (by decide +kernel)) ggX12_castsFrom_X12_canDraw
set_option maxRecDepth 20000 in
theorem ggX12_castsFrom_X12_drawnBy : GoodIn wsX12_castsFrom wsX12_drawnBy := goodIn_r _ [23, 8, 9, 5, 10] (by decide +kernel) (by decide +kernel)
set_option maxRecDepth 20000 in
theorem gX12_castsFrom_X12_drawnBy : GoodIn wsX12_castsFrom (va_wsS RX12 140 yX12_drawnBy wsX12_drawnBy) := goodIn_app (goodIn_of _ (by decide +kernel)) ggX12_castsFrom_X12_drawnBy
set_option maxRecDepth 20000 in
theorem ggX12_castsFrom_X12_placeOf : GoodIn wsX12_castsFrom wsX12_placeOf := goodIn_r _ [27, 7, 15, 16, 5, 17, 8, 9, 10, 28, 29, 30, 31, 32, 33, 34, 35, 36, 37, 38, 39, 40, 41, 42, 43, 44, 45, 46, 47, 48, 49, 50, 51, 52, 53, 54, 55, 56, 57] (by decide +kernel) (by decide +kernel)
set_option maxRecDepth 20000 in
theorem gX12_castsFrom_X12_placeOf : GoodIn wsX12_castsFrom (wsV RX12 215 RX12 yX12_placeOf wsX12_placeOf) := goodIn_app (goodIn_of _ (by decide +kernel)) ggX12_castsFrom_X12_placeOf
theorem dX12_castsFrom_0 : decode cX12_castsFrom 0 = .ok (.aload_n 0, 1) := by decide +kernel
theorem dX12_castsFrom_1 : decode cX12_castsFrom 1 = .ok (.iload_n 1, 1) := by decide +kernel
theorem dX12_castsFrom_2 : decode cX12_castsFrom 2 = .ok (.invokevirtual 218, 3) := by decide +kernel
theorem dX12_castsFrom_5 : decode cX12_castsFrom 5 = .ok (.istore_n 2, 1) := by decide +kernel
theorem dX12_castsFrom_6 : decode cX12_castsFrom 6 = .ok (.lconst 0, 1) := by decide +kernel
theorem dX12_castsFrom_7 : decode cX12_castsFrom 7 = .ok (.lstore_n 3, 1) := by decide +kernel
theorem dX12_castsFrom_8 : decode cX12_castsFrom 8 = .ok (.iconst 1, 1) := by decide +kernel
theorem dX12_castsFrom_9 : decode cX12_castsFrom 9 = .ok (.istore 5, 2) := by decide +kernel
theorem dX12_castsFrom_11 : decode cX12_castsFrom 11 = .ok (.iload 5, 2) := by decide +kernel
theorem dX12_castsFrom_13 : decode cX12_castsFrom 13 = .ok (.bipush 6, 2) := by decide +kernel
theorem dX12_castsFrom_15 : decode cX12_castsFrom 15 = .ok (.if_icmp .gt 45, 3) := by decide +kernel
theorem dX12_castsFrom_18 : decode cX12_castsFrom 18 = .ok (.aload_n 0, 1) := by decide +kernel
theorem dX12_castsFrom_19 : decode cX12_castsFrom 19 = .ok (.iload_n 2, 1) := by decide +kernel
theorem dX12_castsFrom_20 : decode cX12_castsFrom 20 = .ok (.iload 5, 2) := by decide +kernel
theorem dX12_castsFrom_22 : decode cX12_castsFrom 22 = .ok (.invokevirtual 130, 3) := by decide +kernel
theorem dX12_castsFrom_25 : decode cX12_castsFrom 25 = .ok (.ifCond .eq 16, 3) := by decide +kernel
theorem dX12_castsFrom_28 : decode cX12_castsFrom 28 = .ok (.aload_n 0, 1) := by decide +kernel
theorem dX12_castsFrom_29 : decode cX12_castsFrom 29 = .ok (.iload_n 2, 1) := by decide +kernel
theorem dX12_castsFrom_30 : decode cX12_castsFrom 30 = .ok (.iload 5, 2) := by decide +kernel
theorem dX12_castsFrom_32 : decode cX12_castsFrom 32 = .ok (.invokestatic 140, 3) := by decide +kernel
theorem dX12_castsFrom_35 : decode cX12_castsFrom 35 = .ok (.invokevirtual 215, 3) := by decide +kernel
theorem dX12_castsFrom_38 : decode cX12_castsFrom 38 = .ok (.goto 4, 3) := by decide +kernel
theorem dX12_castsFrom_41 : decode cX12_castsFrom 41 = .ok (.iload_n 1, 1) := by decide +kernel
theorem dX12_castsFrom_42 : decode cX12_castsFrom 42 = .ok (.istore 6, 2) := by decide +kernel
theorem dX12_castsFrom_44 : decode cX12_castsFrom 44 = .ok (.lload_n 3, 1) := by decide +kernel
theorem dX12_castsFrom_45 : decode cX12_castsFrom 45 = .ok (.aload_n 0, 1) := by decide +kernel
theorem dX12_castsFrom_46 : decode cX12_castsFrom 46 = .ok (.getfield 44, 3) := by decide +kernel
theorem dX12_castsFrom_49 : decode cX12_castsFrom 49 = .ok (.iload 6, 2) := by decide +kernel
theorem dX12_castsFrom_51 : decode cX12_castsFrom 51 = .ok (.laload, 1) := by decide +kernel
theorem dX12_castsFrom_52 : decode cX12_castsFrom 52 = .ok (.ladd, 1) := by decide +kernel
theorem dX12_castsFrom_53 : decode cX12_castsFrom 53 = .ok (.lstore_n 3, 1) := by decide +kernel
theorem dX12_castsFrom_54 : decode cX12_castsFrom 54 = .ok (.iinc 5 1, 3) := by decide +kernel
theorem dX12_castsFrom_57 : decode cX12_castsFrom 57 = .ok (.goto (-46), 3) := by decide +kernel
theorem dX12_castsFrom_60 : decode cX12_castsFrom 60 = .ok (.lload_n 3, 1) := by decide +kernel
theorem dX12_castsFrom_61 : decode cX12_castsFrom 61 = .ok (.lreturn, 1) := by decide +kernel
theorem dX12_divisor_0 : decode cX12_divisor 0 = .ok (.lload_n 2, 1) := by decide +kernel
theorem dX12_divisor_1 : decode cX12_divisor 1 = .ok (.lstore 4, 2) := by decide +kernel
theorem dX12_divisor_3 : decode cX12_divisor 3 = .ok (.lload_n 0, 1) := by decide +kernel
theorem dX12_divisor_4 : decode cX12_divisor 4 = .ok (.lstore 6, 2) := by decide +kernel
theorem dX12_divisor_6 : decode cX12_divisor 6 = .ok (.lload 6, 2) := by decide +kernel
theorem dX12_divisor_8 : decode cX12_divisor 8 = .ok (.lconst 0, 1) := by decide +kernel
theorem dX12_divisor_9 : decode cX12_divisor 9 = .ok (.lcmp, 1) := by decide +kernel
theorem dX12_divisor_10 : decode cX12_divisor 10 = .ok (.ifCond .eq 21, 3) := by decide +kernel
theorem dX12_divisor_13 : decode cX12_divisor 13 = .ok (.lload 4, 2) := by decide +kernel
theorem dX12_divisor_15 : decode cX12_divisor 15 = .ok (.lload 6, 2) := by decide +kernel
theorem dX12_divisor_17 : decode cX12_divisor 17 = .ok (.lrem, 1) := by decide +kernel
theorem dX12_divisor_18 : decode cX12_divisor 18 = .ok (.lstore 8, 2) := by decide +kernel
theorem dX12_divisor_20 : decode cX12_divisor 20 = .ok (.lload 6, 2) := by decide +kernel
theorem dX12_divisor_22 : decode cX12_divisor 22 = .ok (.lstore 4, 2) := by decide +kernel
theorem dX12_divisor_24 : decode cX12_divisor 24 = .ok (.lload 8, 2) := by decide +kernel
theorem dX12_divisor_26 : decode cX12_divisor 26 = .ok (.lstore 6, 2) := by decide +kernel
theorem dX12_divisor_28 : decode cX12_divisor 28 = .ok (.goto (-22), 3) := by decide +kernel
theorem dX12_divisor_31 : decode cX12_divisor 31 = .ok (.lload 4, 2) := by decide +kernel
theorem dX12_divisor_33 : decode cX12_divisor 33 = .ok (.lreturn, 1) := by decide +kernel
set_option maxRecDepth 20000 in
theorem ggX12_whole_X12_isBeetle : GoodIn wsX12_whole wsX12_isBeetle := goodIn_r _ [11, 12, 13, 14, 15, 10, 16, 17, 18, 19, 20, 21, 22, 23, 24, 25, 48, 49, 50, 51, 52, 53, 54, 55, 56, 57, 58, 59, 60, 61, 62, 63, 64, 65, 66, 67, 68, 69, 70, 71, 72, 73, 74, 75, 76, 77] (by decide +kernel) (by decide +kernel)
set_option maxRecDepth 20000 in
theorem gX12_whole_X12_isBeetle : GoodIn wsX12_whole (wsV RX12 86 RX12 yX12_isBeetle wsX12_isBeetle) := goodIn_app (goodIn_of _ (by decide +kernel)) ggX12_whole_X12_isBeetle
set_option maxRecDepth 20000 in
theorem ggX12_whole_X12_in : GoodIn wsX12_whole wsX12_in := goodIn_r _ [16] (by decide +kernel) (by decide +kernel)
set_option maxRecDepth 20000 in
theorem gX12_whole_X12_in : GoodIn wsX12_whole (va_wsS RX12 65 yX12_in wsX12_in) := goodIn_app (goodIn_of _ (by decide +kernel)) ggX12_whole_X12_in
set_option maxRecDepth 20000 in
theorem ggX12_whole_X12_drawnAt : GoodIn wsX12_whole wsX12_drawnAt := goodIn_r _ [29, 13, 20, 21, 10, 22, 48, 49, 50, 51, 52, 53, 54, 55, 56, 57, 58, 59, 60, 61, 62, 63, 64, 65, 66, 67, 68, 69, 70, 71, 72, 73, 74, 75, 76, 77] (by decide +kernel) (by decide +kernel)
set_option maxRecDepth 20000 in
theorem gX12_whole_X12_drawnAt : GoodIn wsX12_whole (wsV RX12 218 RX12 yX12_drawnAt wsX12_drawnAt) := goodIn_app (goodIn_of _ (by decide +kernel)) ggX12_whole_X12_drawnAt
set_option maxRecDepth 20000 in
theorem ggX12_whole_X12_castsFrom : GoodIn wsX12_whole wsX12_castsFrom := goodIn_r _ [33, 6, 26, 27, 28, 10, 29, 13, 20, 21, 22, 34, 35, 36, 37, 17, 18, 19, 23, 24, 25, 38, 39, 40, 41, 42, 43, 44, 48, 49, 50, 51, 52, 53, 54, 55, 56, 57, 58, 59, 60, 61, 62, 63, 64, 65, 66, 67, 68, 69, 70, 71, 72, 73, 74, 75, 76, 77] (by decide +kernel) (by decide +kernel)
set_option maxRecDepth 20000 in
theorem gX12_whole_X12_castsFrom : GoodIn wsX12_whole (wsV RX12 231 RX12 yX12_castsFrom wsX12_castsFrom) := goodIn_app (goodIn_of _ (by decide +kernel)) ggX12_whole_X12_castsFrom
set_option maxRecDepth 20000 in
theorem ggX12_whole_X12_placeOf : GoodIn wsX12_whole wsX12_placeOf := goodIn_r _ [44, 13, 17, 18, 10, 19, 20, 21, 22, 48, 49, 50, 51, 52, 53, 54, 55, 56, 57, 58, 59, 60, 61, 62, 63, 64, 65, 66, 67, 68, 69, 70, 71, 72, 73, 74, 75, 76, 77] (by decide +kernel) (by decide +kernel)
set_option maxRecDepth 20000 in
theorem gX12_whole_X12_placeOf : GoodIn wsX12_whole (wsV RX12 215 RX12 yX12_placeOf wsX12_placeOf) := goodIn_app (goodIn_of _ (by decide +kernel)) ggX12_whole_X12_placeOf
set_option maxRecDepth 20000 in
theorem ggX12_whole_X12_divisor : GoodIn wsX12_whole wsX12_divisor := goodIn_r _ [47] (by decide +kernel) (by decide +kernel)
set_option maxRecDepth 20000 in
theorem gX12_whole_X12_divisor : GoodIn wsX12_whole (va_wsS RX12 234 yX12_divisor wsX12_divisor) := goodIn_app (goodIn_of _ (by decide +kernel)) ggX12_whole_X12_divisor
theorem dX12_whole_0 : decode cX12_whole 0 = .ok (.aload_n 0, 1) := by decide +kernel
theorem dX12_whole_1 : decode cX12_whole 1 = .ok (.iload_n 1, 1) := by decide +kernel
theorem dX12_whole_2 : decode cX12_whole 2 = .ok (.invokevirtual 86, 3) := by decide +kernel
theorem dX12_whole_5 : decode cX12_whole 5 = .ok (.ifCond .eq 25, 3) := by decide +kernel
theorem dX12_whole_8 : decode cX12_whole 8 = .ok (.iload_n 2, 1) := by decide +kernel
theorem dX12_whole_9 : decode cX12_whole 9 = .ok (.i2l, 1) := by decide +kernel
theorem dX12_whole_10 : decode cX12_whole 10 = .ok (.lconst 0, 1) := by decide +kernel
theorem dX12_whole_11 : decode cX12_whole 11 = .ok (.ldc2_w 225, 3) := by decide +kernel
theorem dX12_whole_14 : decode cX12_whole 14 = .ok (.invokestatic 65, 3) := by decide +kernel
theorem dX12_whole_17 : decode cX12_whole 17 = .ok (.ifCond .eq 13, 3) := by decide +kernel
theorem dX12_whole_20 : decode cX12_whole 20 = .ok (.iload_n 3, 1) := by decide +kernel
theorem dX12_whole_21 : decode cX12_whole 21 = .ok (.i2l, 1) := by decide +kernel
theorem dX12_whole_22 : decode cX12_whole 22 = .ok (.lconst 0, 1) := by decide +kernel
theorem dX12_whole_23 : decode cX12_whole 23 = .ok (.lconst 1, 1) := by decide +kernel
theorem dX12_whole_24 : decode cX12_whole 24 = .ok (.invokestatic 65, 3) := by decide +kernel
theorem dX12_whole_27 : decode cX12_whole 27 = .ok (.ifCond .ne 7, 3) := by decide +kernel
theorem dX12_whole_30 : decode cX12_whole 30 = .ok (.ldc2_w 227, 3) := by decide +kernel
theorem dX12_whole_33 : decode cX12_whole 33 = .ok (.lreturn, 1) := by decide +kernel
theorem dX12_whole_34 : decode cX12_whole 34 = .ok (.lconst 1, 1) := by decide +kernel
theorem dX12_whole_35 : decode cX12_whole 35 = .ok (.lstore 4, 2) := by decide +kernel
theorem dX12_whole_37 : decode cX12_whole 37 = .ok (.iconst 0, 1) := by decide +kernel
theorem dX12_whole_38 : decode cX12_whole 38 = .ok (.istore 6, 2) := by decide +kernel
theorem dX12_whole_40 : decode cX12_whole 40 = .ok (.iload 6, 2) := by decide +kernel
theorem dX12_whole_42 : decode cX12_whole 42 = .ok (.sipush 504, 3) := by decide +kernel
theorem dX12_whole_45 : decode cX12_whole 45 = .ok (.if_icmp .ge 32, 3) := by decide +kernel
theorem dX12_whole_48 : decode cX12_whole 48 = .ok (.aload_n 0, 1) := by decide +kernel
theorem dX12_whole_49 : decode cX12_whole 49 = .ok (.getfield 40, 3) := by decide +kernel
theorem dX12_whole_52 : decode cX12_whole 52 = .ok (.iload 6, 2) := by decide +kernel
theorem dX12_whole_54 : decode cX12_whole 54 = .ok (.aload_n 0, 1) := by decide +kernel
theorem dX12_whole_55 : decode cX12_whole 55 = .ok (.iload 6, 2) := by decide +kernel
theorem dX12_whole_57 : decode cX12_whole 57 = .ok (.invokevirtual 218, 3) := by decide +kernel
theorem dX12_whole_60 : decode cX12_whole 60 = .ok (.ldc 122, 2) := by decide +kernel
theorem dX12_whole_62 : decode cX12_whole 62 = .ok (.if_icmp .ne 7, 3) := by decide +kernel
theorem dX12_whole_65 : decode cX12_whole 65 = .ok (.lconst 1, 1) := by decide +kernel
theorem dX12_whole_66 : decode cX12_whole 66 = .ok (.goto 4, 3) := by decide +kernel
theorem dX12_whole_69 : decode cX12_whole 69 = .ok (.lconst 0, 1) := by decide +kernel
theorem dX12_whole_70 : decode cX12_whole 70 = .ok (.lastore, 1) := by decide +kernel
theorem dX12_whole_71 : decode cX12_whole 71 = .ok (.iinc 6 1, 3) := by decide +kernel
theorem dX12_whole_74 : decode cX12_whole 74 = .ok (.goto (-34), 3) := by decide +kernel
theorem dX12_whole_77 : decode cX12_whole 77 = .ok (.iconst 0, 1) := by decide +kernel
theorem dX12_whole_78 : decode cX12_whole 78 = .ok (.istore 6, 2) := by decide +kernel
theorem dX12_whole_80 : decode cX12_whole 80 = .ok (.iload 6, 2) := by decide +kernel
theorem dX12_whole_82 : decode cX12_whole 82 = .ok (.iload_n 2, 1) := by decide +kernel
theorem dX12_whole_83 : decode cX12_whole 83 = .ok (.if_icmp .ge 78, 3) := by decide +kernel
theorem dX12_whole_86 : decode cX12_whole 86 = .ok (.lload 4, 2) := by decide +kernel
theorem dX12_whole_88 : decode cX12_whole 88 = .ok (.ldc2_w 229, 3) := by decide +kernel
theorem dX12_whole_91 : decode cX12_whole 91 = .ok (.lmul, 1) := by decide +kernel
theorem dX12_whole_92 : decode cX12_whole 92 = .ok (.lstore 4, 2) := by decide +kernel
theorem dX12_whole_94 : decode cX12_whole 94 = .ok (.iconst 0, 1) := by decide +kernel
theorem dX12_whole_95 : decode cX12_whole 95 = .ok (.istore 7, 2) := by decide +kernel
theorem dX12_whole_97 : decode cX12_whole 97 = .ok (.iload 7, 2) := by decide +kernel
theorem dX12_whole_99 : decode cX12_whole 99 = .ok (.sipush 504, 3) := by decide +kernel
theorem dX12_whole_102 : decode cX12_whole 102 = .ok (.if_icmp .ge 23, 3) := by decide +kernel
theorem dX12_whole_105 : decode cX12_whole 105 = .ok (.aload_n 0, 1) := by decide +kernel
theorem dX12_whole_106 : decode cX12_whole 106 = .ok (.getfield 44, 3) := by decide +kernel
theorem dX12_whole_109 : decode cX12_whole 109 = .ok (.iload 7, 2) := by decide +kernel
theorem dX12_whole_111 : decode cX12_whole 111 = .ok (.aload_n 0, 1) := by decide +kernel
theorem dX12_whole_112 : decode cX12_whole 112 = .ok (.getfield 40, 3) := by decide +kernel
theorem dX12_whole_115 : decode cX12_whole 115 = .ok (.iload 7, 2) := by decide +kernel
theorem dX12_whole_117 : decode cX12_whole 117 = .ok (.laload, 1) := by decide +kernel
theorem dX12_whole_118 : decode cX12_whole 118 = .ok (.lastore, 1) := by decide +kernel
theorem dX12_whole_119 : decode cX12_whole 119 = .ok (.iinc 7 1, 3) := by decide +kernel
theorem dX12_whole_122 : decode cX12_whole 122 = .ok (.goto (-25), 3) := by decide +kernel
theorem dX12_whole_125 : decode cX12_whole 125 = .ok (.iconst 0, 1) := by decide +kernel
theorem dX12_whole_126 : decode cX12_whole 126 = .ok (.istore 7, 2) := by decide +kernel
theorem dX12_whole_128 : decode cX12_whole 128 = .ok (.iload 7, 2) := by decide +kernel
theorem dX12_whole_130 : decode cX12_whole 130 = .ok (.sipush 504, 3) := by decide +kernel
theorem dX12_whole_133 : decode cX12_whole 133 = .ok (.if_icmp .ge 22, 3) := by decide +kernel
theorem dX12_whole_136 : decode cX12_whole 136 = .ok (.aload_n 0, 1) := by decide +kernel
theorem dX12_whole_137 : decode cX12_whole 137 = .ok (.getfield 40, 3) := by decide +kernel
theorem dX12_whole_140 : decode cX12_whole 140 = .ok (.iload 7, 2) := by decide +kernel
theorem dX12_whole_142 : decode cX12_whole 142 = .ok (.aload_n 0, 1) := by decide +kernel
theorem dX12_whole_143 : decode cX12_whole 143 = .ok (.iload 7, 2) := by decide +kernel
theorem dX12_whole_145 : decode cX12_whole 145 = .ok (.invokevirtual 231, 3) := by decide +kernel
theorem dX12_whole_148 : decode cX12_whole 148 = .ok (.lastore, 1) := by decide +kernel
theorem dX12_whole_149 : decode cX12_whole 149 = .ok (.iinc 7 1, 3) := by decide +kernel
theorem dX12_whole_152 : decode cX12_whole 152 = .ok (.goto (-24), 3) := by decide +kernel
theorem dX12_whole_155 : decode cX12_whole 155 = .ok (.iinc 6 1, 3) := by decide +kernel
theorem dX12_whole_158 : decode cX12_whole 158 = .ok (.goto (-78), 3) := by decide +kernel
theorem dX12_whole_161 : decode cX12_whole 161 = .ok (.aload_n 0, 1) := by decide +kernel
theorem dX12_whole_162 : decode cX12_whole 162 = .ok (.getfield 40, 3) := by decide +kernel
theorem dX12_whole_165 : decode cX12_whole 165 = .ok (.aload_n 0, 1) := by decide +kernel
theorem dX12_whole_166 : decode cX12_whole 166 = .ok (.iload_n 1, 1) := by decide +kernel
theorem dX12_whole_167 : decode cX12_whole 167 = .ok (.invokevirtual 215, 3) := by decide +kernel
theorem dX12_whole_170 : decode cX12_whole 170 = .ok (.laload, 1) := by decide +kernel
theorem dX12_whole_171 : decode cX12_whole 171 = .ok (.lstore 6, 2) := by decide +kernel
theorem dX12_whole_173 : decode cX12_whole 173 = .ok (.lload 6, 2) := by decide +kernel
theorem dX12_whole_175 : decode cX12_whole 175 = .ok (.lload 4, 2) := by decide +kernel
theorem dX12_whole_177 : decode cX12_whole 177 = .ok (.invokestatic 234, 3) := by decide +kernel
theorem dX12_whole_180 : decode cX12_whole 180 = .ok (.lstore 8, 2) := by decide +kernel
theorem dX12_whole_182 : decode cX12_whole 182 = .ok (.iload_n 3, 1) := by decide +kernel
theorem dX12_whole_183 : decode cX12_whole 183 = .ok (.ifCond .ne 11, 3) := by decide +kernel
theorem dX12_whole_186 : decode cX12_whole 186 = .ok (.lload 6, 2) := by decide +kernel
theorem dX12_whole_188 : decode cX12_whole 188 = .ok (.lload 8, 2) := by decide +kernel
theorem dX12_whole_190 : decode cX12_whole 190 = .ok (.ldiv, 1) := by decide +kernel
theorem dX12_whole_191 : decode cX12_whole 191 = .ok (.goto 8, 3) := by decide +kernel
theorem dX12_whole_194 : decode cX12_whole 194 = .ok (.lload 4, 2) := by decide +kernel
theorem dX12_whole_196 : decode cX12_whole 196 = .ok (.lload 8, 2) := by decide +kernel
theorem dX12_whole_198 : decode cX12_whole 198 = .ok (.ldiv, 1) := by decide +kernel
theorem dX12_whole_199 : decode cX12_whole 199 = .ok (.lreturn, 1) := by decide +kernel
set_option maxRecDepth 20000 in
theorem ggX12_sums_X12_in : GoodIn wsX12_sums wsX12_in := goodIn_r _ [8] (by decide +kernel) (by decide +kernel)
set_option maxRecDepth 20000 in
theorem gX12_sums_X12_in : GoodIn wsX12_sums (va_wsS RX12 65 yX12_in wsX12_in) := goodIn_app (goodIn_of _ (by decide +kernel)) ggX12_sums_X12_in
theorem dX12_sums_0 : decode cX12_sums 0 = .ok (.iload_n 1, 1) := by decide +kernel
theorem dX12_sums_1 : decode cX12_sums 1 = .ok (.i2l, 1) := by decide +kernel
theorem dX12_sums_2 : decode cX12_sums 2 = .ok (.lconst 1, 1) := by decide +kernel
theorem dX12_sums_3 : decode cX12_sums 3 = .ok (.ldc2_w 238, 3) := by decide +kernel
theorem dX12_sums_6 : decode cX12_sums 6 = .ok (.invokestatic 65, 3) := by decide +kernel
theorem dX12_sums_9 : decode cX12_sums 9 = .ok (.ifCond .eq 15, 3) := by decide +kernel
theorem dX12_sums_12 : decode cX12_sums 12 = .ok (.iload_n 2, 1) := by decide +kernel
theorem dX12_sums_13 : decode cX12_sums 13 = .ok (.i2l, 1) := by decide +kernel
theorem dX12_sums_14 : decode cX12_sums 14 = .ok (.lconst 0, 1) := by decide +kernel
theorem dX12_sums_15 : decode cX12_sums 15 = .ok (.ldc2_w 240, 3) := by decide +kernel
theorem dX12_sums_18 : decode cX12_sums 18 = .ok (.invokestatic 65, 3) := by decide +kernel
theorem dX12_sums_21 : decode cX12_sums 21 = .ok (.ifCond .ne 7, 3) := by decide +kernel
theorem dX12_sums_24 : decode cX12_sums 24 = .ok (.ldc2_w 242, 3) := by decide +kernel
theorem dX12_sums_27 : decode cX12_sums 27 = .ok (.lreturn, 1) := by decide +kernel
theorem dX12_sums_28 : decode cX12_sums 28 = .ok (.iconst 0, 1) := by decide +kernel
theorem dX12_sums_29 : decode cX12_sums 29 = .ok (.istore_n 3, 1) := by decide +kernel
theorem dX12_sums_30 : decode cX12_sums 30 = .ok (.iload_n 3, 1) := by decide +kernel
theorem dX12_sums_31 : decode cX12_sums 31 = .ok (.bipush 72, 2) := by decide +kernel
theorem dX12_sums_33 : decode cX12_sums 33 = .ok (.if_icmp .gt 24, 3) := by decide +kernel
theorem dX12_sums_36 : decode cX12_sums 36 = .ok (.aload_n 0, 1) := by decide +kernel
theorem dX12_sums_37 : decode cX12_sums 37 = .ok (.getfield 47, 3) := by decide +kernel
theorem dX12_sums_40 : decode cX12_sums 40 = .ok (.iload_n 3, 1) := by decide +kernel
theorem dX12_sums_41 : decode cX12_sums 41 = .ok (.iload_n 3, 1) := by decide +kernel
theorem dX12_sums_42 : decode cX12_sums 42 = .ok (.ifCond .ne 7, 3) := by decide +kernel
theorem dX12_sums_45 : decode cX12_sums 45 = .ok (.lconst 1, 1) := by decide +kernel
theorem dX12_sums_46 : decode cX12_sums 46 = .ok (.goto 4, 3) := by decide +kernel
theorem dX12_sums_49 : decode cX12_sums 49 = .ok (.lconst 0, 1) := by decide +kernel
theorem dX12_sums_50 : decode cX12_sums 50 = .ok (.lastore, 1) := by decide +kernel
theorem dX12_sums_51 : decode cX12_sums 51 = .ok (.iinc 3 1, 3) := by decide +kernel
theorem dX12_sums_54 : decode cX12_sums 54 = .ok (.goto (-24), 3) := by decide +kernel
theorem dX12_sums_57 : decode cX12_sums 57 = .ok (.iconst 0, 1) := by decide +kernel
theorem dX12_sums_58 : decode cX12_sums 58 = .ok (.istore_n 3, 1) := by decide +kernel
theorem dX12_sums_59 : decode cX12_sums 59 = .ok (.iload_n 3, 1) := by decide +kernel
theorem dX12_sums_60 : decode cX12_sums 60 = .ok (.iload_n 1, 1) := by decide +kernel
theorem dX12_sums_61 : decode cX12_sums 61 = .ok (.if_icmp .ge 74, 3) := by decide +kernel
theorem dX12_sums_64 : decode cX12_sums 64 = .ok (.bipush 72, 2) := by decide +kernel
theorem dX12_sums_66 : decode cX12_sums 66 = .ok (.istore 4, 2) := by decide +kernel
theorem dX12_sums_68 : decode cX12_sums 68 = .ok (.iload 4, 2) := by decide +kernel
theorem dX12_sums_70 : decode cX12_sums 70 = .ok (.ifCond .lt 59, 3) := by decide +kernel
theorem dX12_sums_73 : decode cX12_sums 73 = .ok (.lconst 0, 1) := by decide +kernel
theorem dX12_sums_74 : decode cX12_sums 74 = .ok (.lstore 5, 2) := by decide +kernel
theorem dX12_sums_76 : decode cX12_sums 76 = .ok (.iconst 1, 1) := by decide +kernel
theorem dX12_sums_77 : decode cX12_sums 77 = .ok (.istore 7, 2) := by decide +kernel
theorem dX12_sums_79 : decode cX12_sums 79 = .ok (.iload 7, 2) := by decide +kernel
theorem dX12_sums_81 : decode cX12_sums 81 = .ok (.bipush 6, 2) := by decide +kernel
theorem dX12_sums_83 : decode cX12_sums 83 = .ok (.if_icmp .gt 31, 3) := by decide +kernel
theorem dX12_sums_86 : decode cX12_sums 86 = .ok (.iload 7, 2) := by decide +kernel
theorem dX12_sums_88 : decode cX12_sums 88 = .ok (.iload 4, 2) := by decide +kernel
theorem dX12_sums_90 : decode cX12_sums 90 = .ok (.if_icmp .gt 24, 3) := by decide +kernel
theorem dX12_sums_93 : decode cX12_sums 93 = .ok (.lload 5, 2) := by decide +kernel
theorem dX12_sums_95 : decode cX12_sums 95 = .ok (.aload_n 0, 1) := by decide +kernel
theorem dX12_sums_96 : decode cX12_sums 96 = .ok (.getfield 47, 3) := by decide +kernel
theorem dX12_sums_99 : decode cX12_sums 99 = .ok (.iload 4, 2) := by decide +kernel
theorem dX12_sums_101 : decode cX12_sums 101 = .ok (.iload 7, 2) := by decide +kernel
theorem dX12_sums_103 : decode cX12_sums 103 = .ok (.isub, 1) := by decide +kernel
theorem dX12_sums_104 : decode cX12_sums 104 = .ok (.laload, 1) := by decide +kernel
theorem dX12_sums_105 : decode cX12_sums 105 = .ok (.ladd, 1) := by decide +kernel
theorem dX12_sums_106 : decode cX12_sums 106 = .ok (.lstore 5, 2) := by decide +kernel
theorem dX12_sums_108 : decode cX12_sums 108 = .ok (.iinc 7 1, 3) := by decide +kernel
theorem dX12_sums_111 : decode cX12_sums 111 = .ok (.goto (-32), 3) := by decide +kernel
theorem dX12_sums_114 : decode cX12_sums 114 = .ok (.aload_n 0, 1) := by decide +kernel
theorem dX12_sums_115 : decode cX12_sums 115 = .ok (.getfield 47, 3) := by decide +kernel
theorem dX12_sums_118 : decode cX12_sums 118 = .ok (.iload 4, 2) := by decide +kernel
theorem dX12_sums_120 : decode cX12_sums 120 = .ok (.lload 5, 2) := by decide +kernel
theorem dX12_sums_122 : decode cX12_sums 122 = .ok (.lastore, 1) := by decide +kernel
theorem dX12_sums_123 : decode cX12_sums 123 = .ok (.iinc 4 (-1), 3) := by decide +kernel
theorem dX12_sums_126 : decode cX12_sums 126 = .ok (.goto (-58), 3) := by decide +kernel
theorem dX12_sums_129 : decode cX12_sums 129 = .ok (.iinc 3 1, 3) := by decide +kernel
theorem dX12_sums_132 : decode cX12_sums 132 = .ok (.goto (-73), 3) := by decide +kernel
theorem dX12_sums_135 : decode cX12_sums 135 = .ok (.iload_n 2, 1) := by decide +kernel
theorem dX12_sums_136 : decode cX12_sums 136 = .ok (.bipush 72, 2) := by decide +kernel
theorem dX12_sums_138 : decode cX12_sums 138 = .ok (.if_icmp .le 7, 3) := by decide +kernel
theorem dX12_sums_141 : decode cX12_sums 141 = .ok (.lconst 0, 1) := by decide +kernel
theorem dX12_sums_142 : decode cX12_sums 142 = .ok (.goto 9, 3) := by decide +kernel
theorem dX12_sums_145 : decode cX12_sums 145 = .ok (.aload_n 0, 1) := by decide +kernel
theorem dX12_sums_146 : decode cX12_sums 146 = .ok (.getfield 47, 3) := by decide +kernel
theorem dX12_sums_149 : decode cX12_sums 149 = .ok (.iload_n 2, 1) := by decide +kernel
theorem dX12_sums_150 : decode cX12_sums 150 = .ok (.laload, 1) := by decide +kernel
theorem dX12_sums_151 : decode cX12_sums 151 = .ok (.lreturn, 1) := by decide +kernel
theorem dX12_baseOf_0 : decode cX12_baseOf 0 = .ok (.iload_n 0, 1) := by decide +kernel
theorem dX12_baseOf_1 : decode cX12_baseOf 1 = .ok (.iconst 4, 1) := by decide +kernel
theorem dX12_baseOf_2 : decode cX12_baseOf 2 = .ok (.if_icmp .ge 7, 3) := by decide +kernel
theorem dX12_baseOf_5 : decode cX12_baseOf 5 = .ok (.iload_n 0, 1) := by decide +kernel
theorem dX12_baseOf_6 : decode cX12_baseOf 6 = .ok (.goto 7, 3) := by decide +kernel
theorem dX12_baseOf_9 : decode cX12_baseOf 9 = .ok (.bipush 7, 2) := by decide +kernel
theorem dX12_baseOf_11 : decode cX12_baseOf 11 = .ok (.iload_n 0, 1) := by decide +kernel
theorem dX12_baseOf_12 : decode cX12_baseOf 12 = .ok (.isub, 1) := by decide +kernel
theorem dX12_baseOf_13 : decode cX12_baseOf 13 = .ok (.ireturn, 1) := by decide +kernel
set_option maxRecDepth 20000 in
theorem ggX12_rightOf_X12_baseOf : GoodIn wsX12_rightOf wsX12_baseOf := goodIn_r _ [4] (by decide +kernel) (by decide +kernel)
set_option maxRecDepth 20000 in
theorem gX12_rightOf_X12_baseOf : GoodIn wsX12_rightOf (va_wsS RX12 244 yX12_baseOf wsX12_baseOf) := goodIn_app (goodIn_of _ (by decide +kernel)) ggX12_rightOf_X12_baseOf
theorem dX12_rightOf_0 : decode cX12_rightOf 0 = .ok (.bipush 6, 2) := by decide +kernel
theorem dX12_rightOf_2 : decode cX12_rightOf 2 = .ok (.iload_n 0, 1) := by decide +kernel
theorem dX12_rightOf_3 : decode cX12_rightOf 3 = .ok (.invokestatic 244, 3) := by decide +kernel
theorem dX12_rightOf_6 : decode cX12_rightOf 6 = .ok (.isub, 1) := by decide +kernel
theorem dX12_rightOf_7 : decode cX12_rightOf 7 = .ok (.iload_n 1, 1) := by decide +kernel
theorem dX12_rightOf_8 : decode cX12_rightOf 8 = .ok (.invokestatic 244, 3) := by decide +kernel
theorem dX12_rightOf_11 : decode cX12_rightOf 11 = .ok (.isub, 1) := by decide +kernel
theorem dX12_rightOf_12 : decode cX12_rightOf 12 = .ok (.istore_n 2, 1) := by decide +kernel
theorem dX12_rightOf_13 : decode cX12_rightOf 13 = .ok (.iload_n 0, 1) := by decide +kernel
theorem dX12_rightOf_14 : decode cX12_rightOf 14 = .ok (.iconst 3, 1) := by decide +kernel
theorem dX12_rightOf_15 : decode cX12_rightOf 15 = .ok (.if_icmp .le 7, 3) := by decide +kernel
theorem dX12_rightOf_18 : decode cX12_rightOf 18 = .ok (.iconst 1, 1) := by decide +kernel
theorem dX12_rightOf_19 : decode cX12_rightOf 19 = .ok (.goto 4, 3) := by decide +kernel
theorem dX12_rightOf_22 : decode cX12_rightOf 22 = .ok (.iconst 0, 1) := by decide +kernel
theorem dX12_rightOf_23 : decode cX12_rightOf 23 = .ok (.iload_n 1, 1) := by decide +kernel
theorem dX12_rightOf_24 : decode cX12_rightOf 24 = .ok (.iconst 3, 1) := by decide +kernel
theorem dX12_rightOf_25 : decode cX12_rightOf 25 = .ok (.if_icmp .le 7, 3) := by decide +kernel
theorem dX12_rightOf_28 : decode cX12_rightOf 28 = .ok (.iconst 1, 1) := by decide +kernel
theorem dX12_rightOf_29 : decode cX12_rightOf 29 = .ok (.goto 4, 3) := by decide +kernel
theorem dX12_rightOf_32 : decode cX12_rightOf 32 = .ok (.iconst 0, 1) := by decide +kernel
theorem dX12_rightOf_33 : decode cX12_rightOf 33 = .ok (.iadd, 1) := by decide +kernel
theorem dX12_rightOf_34 : decode cX12_rightOf 34 = .ok (.iload_n 1, 1) := by decide +kernel
theorem dX12_rightOf_35 : decode cX12_rightOf 35 = .ok (.invokestatic 244, 3) := by decide +kernel
theorem dX12_rightOf_38 : decode cX12_rightOf 38 = .ok (.iload_n 0, 1) := by decide +kernel
theorem dX12_rightOf_39 : decode cX12_rightOf 39 = .ok (.invokestatic 244, 3) := by decide +kernel
theorem dX12_rightOf_42 : decode cX12_rightOf 42 = .ok (.isub, 1) := by decide +kernel
theorem dX12_rightOf_43 : decode cX12_rightOf 43 = .ok (.iconst 3, 1) := by decide +kernel
theorem dX12_rightOf_44 : decode cX12_rightOf 44 = .ok (.iadd, 1) := by decide +kernel
theorem dX12_rightOf_45 : decode cX12_rightOf 45 = .ok (.iconst 3, 1) := by decide +kernel
theorem dX12_rightOf_46 : decode cX12_rightOf 46 = .ok (.irem, 1) := by decide +kernel
theorem dX12_rightOf_47 : decode cX12_rightOf 47 = .ok (.iconst 1, 1) := by decide +kernel
theorem dX12_rightOf_48 : decode cX12_rightOf 48 = .ok (.if_icmp .ne 7, 3) := by decide +kernel
theorem dX12_rightOf_51 : decode cX12_rightOf 51 = .ok (.iconst 0, 1) := by decide +kernel
theorem dX12_rightOf_52 : decode cX12_rightOf 52 = .ok (.goto 4, 3) := by decide +kernel
theorem dX12_rightOf_55 : decode cX12_rightOf 55 = .ok (.iconst 1, 1) := by decide +kernel
theorem dX12_rightOf_56 : decode cX12_rightOf 56 = .ok (.iadd, 1) := by decide +kernel
theorem dX12_rightOf_57 : decode cX12_rightOf 57 = .ok (.istore_n 3, 1) := by decide +kernel
theorem dX12_rightOf_58 : decode cX12_rightOf 58 = .ok (.iload_n 3, 1) := by decide +kernel
theorem dX12_rightOf_59 : decode cX12_rightOf 59 = .ok (.iconst 2, 1) := by decide +kernel
theorem dX12_rightOf_60 : decode cX12_rightOf 60 = .ok (.irem, 1) := by decide +kernel
theorem dX12_rightOf_61 : decode cX12_rightOf 61 = .ok (.ifCond .ne 7, 3) := by decide +kernel
theorem dX12_rightOf_64 : decode cX12_rightOf 64 = .ok (.iload_n 2, 1) := by decide +kernel
theorem dX12_rightOf_65 : decode cX12_rightOf 65 = .ok (.goto 7, 3) := by decide +kernel
theorem dX12_rightOf_68 : decode cX12_rightOf 68 = .ok (.bipush 7, 2) := by decide +kernel
theorem dX12_rightOf_70 : decode cX12_rightOf 70 = .ok (.iload_n 2, 1) := by decide +kernel
theorem dX12_rightOf_71 : decode cX12_rightOf 71 = .ok (.isub, 1) := by decide +kernel
theorem dX12_rightOf_72 : decode cX12_rightOf 72 = .ok (.ireturn, 1) := by decide +kernel
set_option maxRecDepth 20000 in
theorem ggX12_isLying_X12_in : GoodIn wsX12_isLying wsX12_in := goodIn_r _ [7] (by decide +kernel) (by decide +kernel)
set_option maxRecDepth 20000 in
theorem gX12_isLying_X12_in : GoodIn wsX12_isLying (va_wsS RX12 65 yX12_in wsX12_in) := goodIn_app (goodIn_of _ (by decide +kernel)) ggX12_isLying_X12_in
theorem dX12_isLying_0 : decode cX12_isLying 0 = .ok (.iload_n 0, 1) := by decide +kernel
theorem dX12_isLying_1 : decode cX12_isLying 1 = .ok (.bipush 10, 2) := by decide +kernel
theorem dX12_isLying_3 : decode cX12_isLying 3 = .ok (.idiv, 1) := by decide +kernel
theorem dX12_isLying_4 : decode cX12_isLying 4 = .ok (.istore_n 1, 1) := by decide +kernel
theorem dX12_isLying_5 : decode cX12_isLying 5 = .ok (.iload_n 0, 1) := by decide +kernel
theorem dX12_isLying_6 : decode cX12_isLying 6 = .ok (.bipush 10, 2) := by decide +kernel
theorem dX12_isLying_8 : decode cX12_isLying 8 = .ok (.irem, 1) := by decide +kernel
theorem dX12_isLying_9 : decode cX12_isLying 9 = .ok (.istore_n 2, 1) := by decide +kernel
theorem dX12_isLying_10 : decode cX12_isLying 10 = .ok (.iload_n 0, 1) := by decide +kernel
theorem dX12_isLying_11 : decode cX12_isLying 11 = .ok (.i2l, 1) := by decide +kernel
theorem dX12_isLying_12 : decode cX12_isLying 12 = .ok (.ldc2_w 247, 3) := by decide +kernel
theorem dX12_isLying_15 : decode cX12_isLying 15 = .ok (.ldc2_w 249, 3) := by decide +kernel
theorem dX12_isLying_18 : decode cX12_isLying 18 = .ok (.invokestatic 65, 3) := by decide +kernel
theorem dX12_isLying_21 : decode cX12_isLying 21 = .ok (.ifCond .eq 44, 3) := by decide +kernel
theorem dX12_isLying_24 : decode cX12_isLying 24 = .ok (.iload_n 1, 1) := by decide +kernel
theorem dX12_isLying_25 : decode cX12_isLying 25 = .ok (.i2l, 1) := by decide +kernel
theorem dX12_isLying_26 : decode cX12_isLying 26 = .ok (.lconst 1, 1) := by decide +kernel
theorem dX12_isLying_27 : decode cX12_isLying 27 = .ok (.ldc2_w 229, 3) := by decide +kernel
theorem dX12_isLying_30 : decode cX12_isLying 30 = .ok (.invokestatic 65, 3) := by decide +kernel
theorem dX12_isLying_33 : decode cX12_isLying 33 = .ok (.ifCond .eq 32, 3) := by decide +kernel
theorem dX12_isLying_36 : decode cX12_isLying 36 = .ok (.iload_n 2, 1) := by decide +kernel
theorem dX12_isLying_37 : decode cX12_isLying 37 = .ok (.i2l, 1) := by decide +kernel
theorem dX12_isLying_38 : decode cX12_isLying 38 = .ok (.lconst 1, 1) := by decide +kernel
theorem dX12_isLying_39 : decode cX12_isLying 39 = .ok (.ldc2_w 229, 3) := by decide +kernel
theorem dX12_isLying_42 : decode cX12_isLying 42 = .ok (.invokestatic 65, 3) := by decide +kernel
theorem dX12_isLying_45 : decode cX12_isLying 45 = .ok (.ifCond .eq 20, 3) := by decide +kernel
theorem dX12_isLying_48 : decode cX12_isLying 48 = .ok (.iload_n 2, 1) := by decide +kernel
theorem dX12_isLying_49 : decode cX12_isLying 49 = .ok (.iload_n 1, 1) := by decide +kernel
theorem dX12_isLying_50 : decode cX12_isLying 50 = .ok (.if_icmp .eq 15, 3) := by decide +kernel
theorem dX12_isLying_53 : decode cX12_isLying 53 = .ok (.iload_n 2, 1) := by decide +kernel
theorem dX12_isLying_54 : decode cX12_isLying 54 = .ok (.iload_n 1, 1) := by decide +kernel
theorem dX12_isLying_55 : decode cX12_isLying 55 = .ok (.iadd, 1) := by decide +kernel
theorem dX12_isLying_56 : decode cX12_isLying 56 = .ok (.bipush 7, 2) := by decide +kernel
theorem dX12_isLying_58 : decode cX12_isLying 58 = .ok (.if_icmp .eq 7, 3) := by decide +kernel
theorem dX12_isLying_61 : decode cX12_isLying 61 = .ok (.iconst 1, 1) := by decide +kernel
theorem dX12_isLying_62 : decode cX12_isLying 62 = .ok (.goto 4, 3) := by decide +kernel
theorem dX12_isLying_65 : decode cX12_isLying 65 = .ok (.iconst 0, 1) := by decide +kernel
theorem dX12_isLying_66 : decode cX12_isLying 66 = .ok (.ireturn, 1) := by decide +kernel
set_option maxRecDepth 20000 in
theorem ggX12_rolled_X12_rightOf : GoodIn wsX12_rolled wsX12_rightOf := goodIn_r _ [4, 5, 6, 3, 7] (by decide +kernel) (by decide +kernel)
set_option maxRecDepth 20000 in
theorem gX12_rolled_X12_rightOf : GoodIn wsX12_rolled (va_wsS RX12 251 yX12_rightOf wsX12_rightOf) := goodIn_app (goodIn_of _ (by decide +kernel)) ggX12_rolled_X12_rightOf
theorem dX12_rolled_0 : decode cX12_rolled 0 = .ok (.iload_n 0, 1) := by decide +kernel
theorem dX12_rolled_1 : decode cX12_rolled 1 = .ok (.bipush 10, 2) := by decide +kernel
theorem dX12_rolled_3 : decode cX12_rolled 3 = .ok (.idiv, 1) := by decide +kernel
theorem dX12_rolled_4 : decode cX12_rolled 4 = .ok (.istore_n 2, 1) := by decide +kernel
theorem dX12_rolled_5 : decode cX12_rolled 5 = .ok (.iload_n 0, 1) := by decide +kernel
theorem dX12_rolled_6 : decode cX12_rolled 6 = .ok (.bipush 10, 2) := by decide +kernel
theorem dX12_rolled_8 : decode cX12_rolled 8 = .ok (.irem, 1) := by decide +kernel
theorem dX12_rolled_9 : decode cX12_rolled 9 = .ok (.istore_n 3, 1) := by decide +kernel
theorem dX12_rolled_10 : decode cX12_rolled 10 = .ok (.iload_n 2, 1) := by decide +kernel
theorem dX12_rolled_11 : decode cX12_rolled 11 = .ok (.iload_n 3, 1) := by decide +kernel
theorem dX12_rolled_12 : decode cX12_rolled 12 = .ok (.invokestatic 251, 3) := by decide +kernel
theorem dX12_rolled_15 : decode cX12_rolled 15 = .ok (.istore 4, 2) := by decide +kernel
theorem dX12_rolled_17 : decode cX12_rolled 17 = .ok (.iload_n 1, 1) := by decide +kernel
theorem dX12_rolled_18 : decode cX12_rolled 18 = .ok (.tableswitch 57 0 2 #[26, 36, 47], 26) := by decide +kernel
theorem dX12_rolled_44 : decode cX12_rolled 44 = .ok (.bipush 10, 2) := by decide +kernel
theorem dX12_rolled_46 : decode cX12_rolled 46 = .ok (.bipush 7, 2) := by decide +kernel
theorem dX12_rolled_48 : decode cX12_rolled 48 = .ok (.iload_n 3, 1) := by decide +kernel
theorem dX12_rolled_49 : decode cX12_rolled 49 = .ok (.isub, 1) := by decide +kernel
theorem dX12_rolled_50 : decode cX12_rolled 50 = .ok (.imul, 1) := by decide +kernel
theorem dX12_rolled_51 : decode cX12_rolled 51 = .ok (.iload_n 2, 1) := by decide +kernel
theorem dX12_rolled_52 : decode cX12_rolled 52 = .ok (.iadd, 1) := by decide +kernel
theorem dX12_rolled_53 : decode cX12_rolled 53 = .ok (.ireturn, 1) := by decide +kernel
theorem dX12_rolled_54 : decode cX12_rolled 54 = .ok (.bipush 10, 2) := by decide +kernel
theorem dX12_rolled_56 : decode cX12_rolled 56 = .ok (.bipush 7, 2) := by decide +kernel
theorem dX12_rolled_58 : decode cX12_rolled 58 = .ok (.iload 4, 2) := by decide +kernel
theorem dX12_rolled_60 : decode cX12_rolled 60 = .ok (.isub, 1) := by decide +kernel
theorem dX12_rolled_61 : decode cX12_rolled 61 = .ok (.imul, 1) := by decide +kernel
theorem dX12_rolled_62 : decode cX12_rolled 62 = .ok (.iload_n 3, 1) := by decide +kernel
theorem dX12_rolled_63 : decode cX12_rolled 63 = .ok (.iadd, 1) := by decide +kernel
theorem dX12_rolled_64 : decode cX12_rolled 64 = .ok (.ireturn, 1) := by decide +kernel
theorem dX12_rolled_65 : decode cX12_rolled 65 = .ok (.bipush 10, 2) := by decide +kernel
theorem dX12_rolled_67 : decode cX12_rolled 67 = .ok (.iload_n 3, 1) := by decide +kernel
theorem dX12_rolled_68 : decode cX12_rolled 68 = .ok (.imul, 1) := by decide +kernel
theorem dX12_rolled_69 : decode cX12_rolled 69 = .ok (.bipush 7, 2) := by decide +kernel
theorem dX12_rolled_71 : decode cX12_rolled 71 = .ok (.iadd, 1) := by decide +kernel
theorem dX12_rolled_72 : decode cX12_rolled 72 = .ok (.iload_n 2, 1) := by decide +kernel
theorem dX12_rolled_73 : decode cX12_rolled 73 = .ok (.isub, 1) := by decide +kernel
theorem dX12_rolled_74 : decode cX12_rolled 74 = .ok (.ireturn, 1) := by decide +kernel
theorem dX12_rolled_75 : decode cX12_rolled 75 = .ok (.bipush 10, 2) := by decide +kernel
theorem dX12_rolled_77 : decode cX12_rolled 77 = .ok (.iload 4, 2) := by decide +kernel
theorem dX12_rolled_79 : decode cX12_rolled 79 = .ok (.imul, 1) := by decide +kernel
theorem dX12_rolled_80 : decode cX12_rolled 80 = .ok (.iload_n 3, 1) := by decide +kernel
theorem dX12_rolled_81 : decode cX12_rolled 81 = .ok (.iadd, 1) := by decide +kernel
theorem dX12_rolled_82 : decode cX12_rolled 82 = .ok (.ireturn, 1) := by decide +kernel
theorem dX12_waysOf_0 : decode cX12_waysOf 0 = .ok (.iconst 0, 1) := by decide +kernel
theorem dX12_waysOf_1 : decode cX12_waysOf 1 = .ok (.istore_n 1, 1) := by decide +kernel
theorem dX12_waysOf_2 : decode cX12_waysOf 2 = .ok (.iload_n 0, 1) := by decide +kernel
theorem dX12_waysOf_3 : decode cX12_waysOf 3 = .ok (.istore_n 2, 1) := by decide +kernel
theorem dX12_waysOf_4 : decode cX12_waysOf 4 = .ok (.iload_n 2, 1) := by decide +kernel
theorem dX12_waysOf_5 : decode cX12_waysOf 5 = .ok (.bipush 9, 2) := by decide +kernel
theorem dX12_waysOf_7 : decode cX12_waysOf 7 = .ok (.if_icmp .le 14, 3) := by decide +kernel
theorem dX12_waysOf_10 : decode cX12_waysOf 10 = .ok (.iinc 1 1, 3) := by decide +kernel
theorem dX12_waysOf_13 : decode cX12_waysOf 13 = .ok (.iload_n 2, 1) := by decide +kernel
theorem dX12_waysOf_14 : decode cX12_waysOf 14 = .ok (.bipush 10, 2) := by decide +kernel
theorem dX12_waysOf_16 : decode cX12_waysOf 16 = .ok (.idiv, 1) := by decide +kernel
theorem dX12_waysOf_17 : decode cX12_waysOf 17 = .ok (.istore_n 2, 1) := by decide +kernel
theorem dX12_waysOf_18 : decode cX12_waysOf 18 = .ok (.goto (-14), 3) := by decide +kernel
theorem dX12_waysOf_21 : decode cX12_waysOf 21 = .ok (.iload_n 1, 1) := by decide +kernel
theorem dX12_waysOf_22 : decode cX12_waysOf 22 = .ok (.ireturn, 1) := by decide +kernel
theorem dX12_isRow_0 : decode cX12_isRow 0 = .ok (.iload_n 0, 1) := by decide +kernel
theorem dX12_isRow_1 : decode cX12_isRow 1 = .ok (.ifCond .le 7, 3) := by decide +kernel
theorem dX12_isRow_4 : decode cX12_isRow 4 = .ok (.iconst 1, 1) := by decide +kernel
theorem dX12_isRow_5 : decode cX12_isRow 5 = .ok (.goto 4, 3) := by decide +kernel
theorem dX12_isRow_8 : decode cX12_isRow 8 = .ok (.iconst 0, 1) := by decide +kernel
theorem dX12_isRow_9 : decode cX12_isRow 9 = .ok (.istore_n 1, 1) := by decide +kernel
theorem dX12_isRow_10 : decode cX12_isRow 10 = .ok (.iload_n 0, 1) := by decide +kernel
theorem dX12_isRow_11 : decode cX12_isRow 11 = .ok (.istore_n 2, 1) := by decide +kernel
theorem dX12_isRow_12 : decode cX12_isRow 12 = .ok (.iconst 0, 1) := by decide +kernel
theorem dX12_isRow_13 : decode cX12_isRow 13 = .ok (.istore_n 3, 1) := by decide +kernel
theorem dX12_isRow_14 : decode cX12_isRow 14 = .ok (.iload_n 2, 1) := by decide +kernel
theorem dX12_isRow_15 : decode cX12_isRow 15 = .ok (.bipush 9, 2) := by decide +kernel
theorem dX12_isRow_17 : decode cX12_isRow 17 = .ok (.if_icmp .le 32, 3) := by decide +kernel
theorem dX12_isRow_20 : decode cX12_isRow 20 = .ok (.iload_n 1, 1) := by decide +kernel
theorem dX12_isRow_21 : decode cX12_isRow 21 = .ok (.ifCond .eq 15, 3) := by decide +kernel
theorem dX12_isRow_24 : decode cX12_isRow 24 = .ok (.iload_n 2, 1) := by decide +kernel
theorem dX12_isRow_25 : decode cX12_isRow 25 = .ok (.bipush 10, 2) := by decide +kernel
theorem dX12_isRow_27 : decode cX12_isRow 27 = .ok (.irem, 1) := by decide +kernel
theorem dX12_isRow_28 : decode cX12_isRow 28 = .ok (.iconst 4, 1) := by decide +kernel
theorem dX12_isRow_29 : decode cX12_isRow 29 = .ok (.if_icmp .ge 7, 3) := by decide +kernel
theorem dX12_isRow_32 : decode cX12_isRow 32 = .ok (.iconst 1, 1) := by decide +kernel
theorem dX12_isRow_33 : decode cX12_isRow 33 = .ok (.goto 4, 3) := by decide +kernel
theorem dX12_isRow_36 : decode cX12_isRow 36 = .ok (.iconst 0, 1) := by decide +kernel
theorem dX12_isRow_37 : decode cX12_isRow 37 = .ok (.istore_n 1, 1) := by decide +kernel
theorem dX12_isRow_38 : decode cX12_isRow 38 = .ok (.iload_n 2, 1) := by decide +kernel
theorem dX12_isRow_39 : decode cX12_isRow 39 = .ok (.bipush 10, 2) := by decide +kernel
theorem dX12_isRow_41 : decode cX12_isRow 41 = .ok (.idiv, 1) := by decide +kernel
theorem dX12_isRow_42 : decode cX12_isRow 42 = .ok (.istore_n 2, 1) := by decide +kernel
theorem dX12_isRow_43 : decode cX12_isRow 43 = .ok (.iinc 3 1, 3) := by decide +kernel
theorem dX12_isRow_46 : decode cX12_isRow 46 = .ok (.goto (-32), 3) := by decide +kernel
theorem dX12_isRow_49 : decode cX12_isRow 49 = .ok (.iload_n 1, 1) := by decide +kernel
theorem dX12_isRow_50 : decode cX12_isRow 50 = .ok (.ifCond .eq 18, 3) := by decide +kernel
theorem dX12_isRow_53 : decode cX12_isRow 53 = .ok (.iload_n 2, 1) := by decide +kernel
theorem dX12_isRow_54 : decode cX12_isRow 54 = .ok (.iconst 1, 1) := by decide +kernel
theorem dX12_isRow_55 : decode cX12_isRow 55 = .ok (.if_icmp .ne 13, 3) := by decide +kernel
theorem dX12_isRow_58 : decode cX12_isRow 58 = .ok (.iload_n 3, 1) := by decide +kernel
theorem dX12_isRow_59 : decode cX12_isRow 59 = .ok (.bipush 6, 2) := by decide +kernel
theorem dX12_isRow_61 : decode cX12_isRow 61 = .ok (.if_icmp .gt 7, 3) := by decide +kernel
theorem dX12_isRow_64 : decode cX12_isRow 64 = .ok (.iconst 1, 1) := by decide +kernel
theorem dX12_isRow_65 : decode cX12_isRow 65 = .ok (.goto 4, 3) := by decide +kernel
theorem dX12_isRow_68 : decode cX12_isRow 68 = .ok (.iconst 0, 1) := by decide +kernel
theorem dX12_isRow_69 : decode cX12_isRow 69 = .ok (.ireturn, 1) := by decide +kernel
set_option maxRecDepth 20000 in
theorem ggX12_topBy_X12_waysOf : GoodIn wsX12_topBy wsX12_waysOf := goodIn_r _ [4] (by decide +kernel) (by decide +kernel)
set_option maxRecDepth 20000 in
theorem gX12_topBy_X12_waysOf : GoodIn wsX12_topBy (va_wsS RX12 254 yX12_waysOf wsX12_waysOf) := goodIn_app (goodIn_of _ (by decide +kernel)) ggX12_topBy_X12_waysOf
set_option maxRecDepth 20000 in
theorem ggX12_topBy_X12_tenTo : GoodIn wsX12_topBy wsX12_tenTo := goodIn_r _ [7] (by decide +kernel) (by decide +kernel)
set_option maxRecDepth 20000 in
theorem gX12_topBy_X12_tenTo : GoodIn wsX12_topBy (va_wsS RX12 69 yX12_tenTo wsX12_tenTo) := goodIn_app (goodIn_of _ (by decide +kernel)) ggX12_topBy_X12_tenTo
set_option maxRecDepth 20000 in
theorem ggX12_topBy_X12_rolled : GoodIn wsX12_topBy wsX12_rolled := goodIn_r _ [10, 11, 12, 3, 13, 14, 15, 16] (by decide +kernel) (by decide +kernel)
set_option maxRecDepth 20000 in
theorem gX12_topBy_X12_rolled : GoodIn wsX12_topBy (va_wsS RX12 257 yX12_rolled wsX12_rolled) := goodIn_app (goodIn_of _ (by decide +kernel)) ggX12_topBy_X12_rolled
theorem dX12_topBy_0 : decode cX12_topBy 0 = .ok (.iload_n 0, 1) := by decide +kernel
theorem dX12_topBy_1 : decode cX12_topBy 1 = .ok (.istore_n 2, 1) := by decide +kernel
theorem dX12_topBy_2 : decode cX12_topBy 2 = .ok (.iload_n 1, 1) := by decide +kernel
theorem dX12_topBy_3 : decode cX12_topBy 3 = .ok (.invokestatic 254, 3) := by decide +kernel
theorem dX12_topBy_6 : decode cX12_topBy 6 = .ok (.iconst 1, 1) := by decide +kernel
theorem dX12_topBy_7 : decode cX12_topBy 7 = .ok (.isub, 1) := by decide +kernel
theorem dX12_topBy_8 : decode cX12_topBy 8 = .ok (.istore_n 3, 1) := by decide +kernel
theorem dX12_topBy_9 : decode cX12_topBy 9 = .ok (.iload_n 3, 1) := by decide +kernel
theorem dX12_topBy_10 : decode cX12_topBy 10 = .ok (.ifCond .lt 23, 3) := by decide +kernel
theorem dX12_topBy_13 : decode cX12_topBy 13 = .ok (.iload_n 2, 1) := by decide +kernel
theorem dX12_topBy_14 : decode cX12_topBy 14 = .ok (.iload_n 1, 1) := by decide +kernel
theorem dX12_topBy_15 : decode cX12_topBy 15 = .ok (.iload_n 3, 1) := by decide +kernel
theorem dX12_topBy_16 : decode cX12_topBy 16 = .ok (.invokestatic 69, 3) := by decide +kernel
theorem dX12_topBy_19 : decode cX12_topBy 19 = .ok (.idiv, 1) := by decide +kernel
theorem dX12_topBy_20 : decode cX12_topBy 20 = .ok (.bipush 10, 2) := by decide +kernel
theorem dX12_topBy_22 : decode cX12_topBy 22 = .ok (.irem, 1) := by decide +kernel
theorem dX12_topBy_23 : decode cX12_topBy 23 = .ok (.invokestatic 257, 3) := by decide +kernel
theorem dX12_topBy_26 : decode cX12_topBy 26 = .ok (.istore_n 2, 1) := by decide +kernel
theorem dX12_topBy_27 : decode cX12_topBy 27 = .ok (.iinc 3 (-1), 3) := by decide +kernel
theorem dX12_topBy_30 : decode cX12_topBy 30 = .ok (.goto (-21), 3) := by decide +kernel
theorem dX12_topBy_33 : decode cX12_topBy 33 = .ok (.iload_n 2, 1) := by decide +kernel
theorem dX12_topBy_34 : decode cX12_topBy 34 = .ok (.bipush 10, 2) := by decide +kernel
theorem dX12_topBy_36 : decode cX12_topBy 36 = .ok (.idiv, 1) := by decide +kernel
theorem dX12_topBy_37 : decode cX12_topBy 37 = .ok (.ireturn, 1) := by decide +kernel
set_option maxRecDepth 20000 in
theorem ggX12_roll_X12_isLying : GoodIn wsX12_roll wsX12_isLying := goodIn_r _ [4, 5, 6, 7, 8, 9, 3, 10] (by decide +kernel) (by decide +kernel)
set_option maxRecDepth 20000 in
theorem gX12_roll_X12_isLying : GoodIn wsX12_roll (va_wsS RX12 260 yX12_isLying wsX12_isLying) := goodIn_app (goodIn_of _ (by decide +kernel)) ggX12_roll_X12_isLying
set_option maxRecDepth 20000 in
theorem ggX12_roll_X12_isRow : GoodIn wsX12_roll wsX12_isRow := goodIn_r _ [13] (by decide +kernel) (by decide +kernel)
set_option maxRecDepth 20000 in
theorem gX12_roll_X12_isRow : GoodIn wsX12_roll (va_wsS RX12 263 yX12_isRow wsX12_isRow) := goodIn_app (goodIn_of _ (by decide +kernel)) ggX12_roll_X12_isRow
set_option maxRecDepth 20000 in
theorem ggX12_roll_X12_topBy : GoodIn wsX12_roll wsX12_topBy := goodIn_r _ [16, 17, 18, 3, 19, 20, 21, 22, 23, 24, 25, 26, 27, 28, 29, 30, 31] (by decide +kernel) (by decide +kernel)
set_option maxRecDepth 20000 in
theorem gX12_roll_X12_topBy : GoodIn wsX12_roll (va_wsS RX12 266 yX12_topBy wsX12_topBy) := goodIn_app (goodIn_of _ (by decide +kernel)) ggX12_roll_X12_topBy
theorem dX12_roll_0 : decode cX12_roll 0 = .ok (.iload_n 1, 1) := by decide +kernel
theorem dX12_roll_1 : decode cX12_roll 1 = .ok (.invokestatic 260, 3) := by decide +kernel
theorem dX12_roll_4 : decode cX12_roll 4 = .ok (.ifCond .eq 18, 3) := by decide +kernel
theorem dX12_roll_7 : decode cX12_roll 7 = .ok (.iload_n 2, 1) := by decide +kernel
theorem dX12_roll_8 : decode cX12_roll 8 = .ok (.invokestatic 263, 3) := by decide +kernel
theorem dX12_roll_11 : decode cX12_roll 11 = .ok (.ifCond .eq 11, 3) := by decide +kernel
theorem dX12_roll_14 : decode cX12_roll 14 = .ok (.iload_n 1, 1) := by decide +kernel
theorem dX12_roll_15 : decode cX12_roll 15 = .ok (.iload_n 2, 1) := by decide +kernel
theorem dX12_roll_16 : decode cX12_roll 16 = .ok (.invokestatic 266, 3) := by decide +kernel
theorem dX12_roll_19 : decode cX12_roll 19 = .ok (.goto 5, 3) := by decide +kernel
theorem dX12_roll_22 : decode cX12_roll 22 = .ok (.bipush (-2), 2) := by decide +kernel
theorem dX12_roll_24 : decode cX12_roll 24 = .ok (.ireturn, 1) := by decide +kernel
set_option maxRecDepth 20000 in
theorem ggX12_shown_X12_isRow : GoodIn wsX12_shown wsX12_isRow := goodIn_r _ [8] (by decide +kernel) (by decide +kernel)
set_option maxRecDepth 20000 in
theorem gX12_shown_X12_isRow : GoodIn wsX12_shown (va_wsS RX12 263 yX12_isRow wsX12_isRow) := goodIn_app (goodIn_of _ (by decide +kernel)) ggX12_shown_X12_isRow
set_option maxRecDepth 20000 in
theorem ggX12_shown_X12_in : GoodIn wsX12_shown wsX12_in := goodIn_r _ [11] (by decide +kernel) (by decide +kernel)
set_option maxRecDepth 20000 in
theorem gX12_shown_X12_in : GoodIn wsX12_shown (va_wsS RX12 65 yX12_in wsX12_in) := goodIn_app (goodIn_of _ (by decide +kernel)) ggX12_shown_X12_in
theorem dX12_shown_0 : decode cX12_shown 0 = .ok (.iload_n 1, 1) := by decide +kernel
theorem dX12_shown_1 : decode cX12_shown 1 = .ok (.invokestatic 263, 3) := by decide +kernel
theorem dX12_shown_4 : decode cX12_shown 4 = .ok (.ifCond .eq 15, 3) := by decide +kernel
theorem dX12_shown_7 : decode cX12_shown 7 = .ok (.iload_n 2, 1) := by decide +kernel
theorem dX12_shown_8 : decode cX12_shown 8 = .ok (.i2l, 1) := by decide +kernel
theorem dX12_shown_9 : decode cX12_shown 9 = .ok (.lconst 1, 1) := by decide +kernel
theorem dX12_shown_10 : decode cX12_shown 10 = .ok (.ldc2_w 229, 3) := by decide +kernel
theorem dX12_shown_13 : decode cX12_shown 13 = .ok (.invokestatic 65, 3) := by decide +kernel
theorem dX12_shown_16 : decode cX12_shown 16 = .ok (.ifCond .ne 6, 3) := by decide +kernel
theorem dX12_shown_19 : decode cX12_shown 19 = .ok (.bipush (-2), 2) := by decide +kernel
theorem dX12_shown_21 : decode cX12_shown 21 = .ok (.ireturn, 1) := by decide +kernel
theorem dX12_shown_22 : decode cX12_shown 22 = .ok (.aload_n 0, 1) := by decide +kernel
theorem dX12_shown_23 : decode cX12_shown 23 = .ok (.getfield 269, 3) := by decide +kernel
theorem dX12_shown_26 : decode cX12_shown 26 = .ok (.bipush 8, 2) := by decide +kernel
theorem dX12_shown_28 : decode cX12_shown 28 = .ok (.if_icmp .ne 6, 3) := by decide +kernel
theorem dX12_shown_31 : decode cX12_shown 31 = .ok (.bipush (-4), 2) := by decide +kernel
theorem dX12_shown_33 : decode cX12_shown 33 = .ok (.ireturn, 1) := by decide +kernel
theorem dX12_shown_34 : decode cX12_shown 34 = .ok (.aload_n 0, 1) := by decide +kernel
theorem dX12_shown_35 : decode cX12_shown 35 = .ok (.getfield 22, 3) := by decide +kernel
theorem dX12_shown_38 : decode cX12_shown 38 = .ok (.aload_n 0, 1) := by decide +kernel
theorem dX12_shown_39 : decode cX12_shown 39 = .ok (.getfield 269, 3) := by decide +kernel
theorem dX12_shown_42 : decode cX12_shown 42 = .ok (.iload_n 1, 1) := by decide +kernel
theorem dX12_shown_43 : decode cX12_shown 43 = .ok (.iastore, 1) := by decide +kernel
theorem dX12_shown_44 : decode cX12_shown 44 = .ok (.aload_n 0, 1) := by decide +kernel
theorem dX12_shown_45 : decode cX12_shown 45 = .ok (.getfield 25, 3) := by decide +kernel
theorem dX12_shown_48 : decode cX12_shown 48 = .ok (.aload_n 0, 1) := by decide +kernel
theorem dX12_shown_49 : decode cX12_shown 49 = .ok (.getfield 269, 3) := by decide +kernel
theorem dX12_shown_52 : decode cX12_shown 52 = .ok (.iload_n 2, 1) := by decide +kernel
theorem dX12_shown_53 : decode cX12_shown 53 = .ok (.iastore, 1) := by decide +kernel
theorem dX12_shown_54 : decode cX12_shown 54 = .ok (.aload_n 0, 1) := by decide +kernel
theorem dX12_shown_55 : decode cX12_shown 55 = .ok (.dup, 1) := by decide +kernel
theorem dX12_shown_56 : decode cX12_shown 56 = .ok (.getfield 269, 3) := by decide +kernel
theorem dX12_shown_59 : decode cX12_shown 59 = .ok (.iconst 1, 1) := by decide +kernel
theorem dX12_shown_60 : decode cX12_shown 60 = .ok (.iadd, 1) := by decide +kernel
theorem dX12_shown_61 : decode cX12_shown 61 = .ok (.putfield 269, 3) := by decide +kernel
theorem dX12_shown_64 : decode cX12_shown 64 = .ok (.aload_n 0, 1) := by decide +kernel
theorem dX12_shown_65 : decode cX12_shown 65 = .ok (.getfield 269, 3) := by decide +kernel
theorem dX12_shown_68 : decode cX12_shown 68 = .ok (.ireturn, 1) := by decide +kernel
theorem dX12_forget_0 : decode cX12_forget 0 = .ok (.aload_n 0, 1) := by decide +kernel
theorem dX12_forget_1 : decode cX12_forget 1 = .ok (.getfield 269, 3) := by decide +kernel
theorem dX12_forget_4 : decode cX12_forget 4 = .ok (.istore_n 1, 1) := by decide +kernel
theorem dX12_forget_5 : decode cX12_forget 5 = .ok (.aload_n 0, 1) := by decide +kernel
theorem dX12_forget_6 : decode cX12_forget 6 = .ok (.iconst 0, 1) := by decide +kernel
theorem dX12_forget_7 : decode cX12_forget 7 = .ok (.putfield 269, 3) := by decide +kernel
theorem dX12_forget_10 : decode cX12_forget 10 = .ok (.iload_n 1, 1) := by decide +kernel
theorem dX12_forget_11 : decode cX12_forget 11 = .ok (.ireturn, 1) := by decide +kernel
set_option maxRecDepth 20000 in
theorem ggX12_isFit_X12_isLying : GoodIn wsX12_isFit wsX12_isLying := goodIn_r _ [7, 8, 9, 10, 11, 12, 6, 13] (by decide +kernel) (by decide +kernel)
set_option maxRecDepth 20000 in
theorem gX12_isFit_X12_isLying : GoodIn wsX12_isFit (va_wsS RX12 260 yX12_isLying wsX12_isLying) := goodIn_app (goodIn_of _ (by decide +kernel)) ggX12_isFit_X12_isLying
set_option maxRecDepth 20000 in
theorem ggX12_isFit_X12_topBy : GoodIn wsX12_isFit wsX12_topBy := goodIn_r _ [16, 17, 18, 6, 19, 20, 21, 22, 23, 24, 25, 26, 27, 28, 29, 30, 31] (by decide +kernel) (by decide +kernel)
set_option maxRecDepth 20000 in
theorem gX12_isFit_X12_topBy : GoodIn wsX12_isFit (va_wsS RX12 266 yX12_topBy wsX12_topBy) := goodIn_app (goodIn_of _ (by decide +kernel)) ggX12_isFit_X12_topBy
theorem dX12_isFit_0 : decode cX12_isFit 0 = .ok (.iload_n 1, 1) := by decide +kernel
theorem dX12_isFit_1 : decode cX12_isFit 1 = .ok (.invokestatic 260, 3) := by decide +kernel
theorem dX12_isFit_4 : decode cX12_isFit 4 = .ok (.istore_n 2, 1) := by decide +kernel
theorem dX12_isFit_5 : decode cX12_isFit 5 = .ok (.iconst 0, 1) := by decide +kernel
theorem dX12_isFit_6 : decode cX12_isFit 6 = .ok (.istore_n 3, 1) := by decide +kernel
theorem dX12_isFit_7 : decode cX12_isFit 7 = .ok (.iload_n 3, 1) := by decide +kernel
theorem dX12_isFit_8 : decode cX12_isFit 8 = .ok (.aload_n 0, 1) := by decide +kernel
theorem dX12_isFit_9 : decode cX12_isFit 9 = .ok (.getfield 269, 3) := by decide +kernel
theorem dX12_isFit_12 : decode cX12_isFit 12 = .ok (.if_icmp .ge 38, 3) := by decide +kernel
theorem dX12_isFit_15 : decode cX12_isFit 15 = .ok (.iload_n 2, 1) := by decide +kernel
theorem dX12_isFit_16 : decode cX12_isFit 16 = .ok (.ifCond .eq 26, 3) := by decide +kernel
theorem dX12_isFit_19 : decode cX12_isFit 19 = .ok (.iload_n 1, 1) := by decide +kernel
theorem dX12_isFit_20 : decode cX12_isFit 20 = .ok (.aload_n 0, 1) := by decide +kernel
theorem dX12_isFit_21 : decode cX12_isFit 21 = .ok (.getfield 22, 3) := by decide +kernel
theorem dX12_isFit_24 : decode cX12_isFit 24 = .ok (.iload_n 3, 1) := by decide +kernel
theorem dX12_isFit_25 : decode cX12_isFit 25 = .ok (.iaload, 1) := by decide +kernel
theorem dX12_isFit_26 : decode cX12_isFit 26 = .ok (.invokestatic 266, 3) := by decide +kernel
theorem dX12_isFit_29 : decode cX12_isFit 29 = .ok (.aload_n 0, 1) := by decide +kernel
theorem dX12_isFit_30 : decode cX12_isFit 30 = .ok (.getfield 25, 3) := by decide +kernel
theorem dX12_isFit_33 : decode cX12_isFit 33 = .ok (.iload_n 3, 1) := by decide +kernel
theorem dX12_isFit_34 : decode cX12_isFit 34 = .ok (.iaload, 1) := by decide +kernel
theorem dX12_isFit_35 : decode cX12_isFit 35 = .ok (.if_icmp .ne 7, 3) := by decide +kernel
theorem dX12_isFit_38 : decode cX12_isFit 38 = .ok (.iconst 1, 1) := by decide +kernel
theorem dX12_isFit_39 : decode cX12_isFit 39 = .ok (.goto 4, 3) := by decide +kernel
theorem dX12_isFit_42 : decode cX12_isFit 42 = .ok (.iconst 0, 1) := by decide +kernel
theorem dX12_isFit_43 : decode cX12_isFit 43 = .ok (.istore_n 2, 1) := by decide +kernel
theorem dX12_isFit_44 : decode cX12_isFit 44 = .ok (.iinc 3 1, 3) := by decide +kernel
theorem dX12_isFit_47 : decode cX12_isFit 47 = .ok (.goto (-40), 3) := by decide +kernel
theorem dX12_isFit_50 : decode cX12_isFit 50 = .ok (.iload_n 2, 1) := by decide +kernel
theorem dX12_isFit_51 : decode cX12_isFit 51 = .ok (.ireturn, 1) := by decide +kernel
set_option maxRecDepth 20000 in
theorem ggX12_lies_X12_isFit : GoodIn wsX12_lies wsX12_isFit := goodIn_r _ [5, 6, 7, 8, 9, 10, 4, 11, 12, 13, 14, 15, 16, 17, 18, 19, 20, 21, 22, 23, 24, 25, 26, 27, 28, 29, 30, 31, 32, 33, 34, 35, 36, 37, 38, 39, 40, 41, 42, 43, 44, 45, 46, 47, 48, 49, 50, 51, 52, 53, 54, 55, 56, 57, 58, 59, 60, 61, 62, 63, 64, 65] (by decide +kernel) (by decide +kernel)
set_option maxRecDepth 20000 in
theorem gX12_lies_X12_isFit : GoodIn wsX12_lies (wsV RX12 272 RX12 yX12_isFit wsX12_isFit) := goodIn_app (goodIn_of _ (by decide +kernel)) ggX12_lies_X12_isFit
theorem dX12_lies_0 : decode cX12_lies 0 = .ok (.iconst 0, 1) := by decide +kernel
theorem dX12_lies_1 : decode cX12_lies 1 = .ok (.istore_n 2, 1) := by decide +kernel
theorem dX12_lies_2 : decode cX12_lies 2 = .ok (.bipush 11, 2) := by decide +kernel
theorem dX12_lies_4 : decode cX12_lies 4 = .ok (.istore_n 3, 1) := by decide +kernel
theorem dX12_lies_5 : decode cX12_lies 5 = .ok (.iload_n 3, 1) := by decide +kernel
theorem dX12_lies_6 : decode cX12_lies 6 = .ok (.bipush 66, 2) := by decide +kernel
theorem dX12_lies_8 : decode cX12_lies 8 = .ok (.if_icmp .gt 27, 3) := by decide +kernel
theorem dX12_lies_11 : decode cX12_lies 11 = .ok (.aload_n 0, 1) := by decide +kernel
theorem dX12_lies_12 : decode cX12_lies 12 = .ok (.iload_n 3, 1) := by decide +kernel
theorem dX12_lies_13 : decode cX12_lies 13 = .ok (.invokevirtual 272, 3) := by decide +kernel
theorem dX12_lies_16 : decode cX12_lies 16 = .ok (.ifCond .eq 13, 3) := by decide +kernel
theorem dX12_lies_19 : decode cX12_lies 19 = .ok (.iload_n 2, 1) := by decide +kernel
theorem dX12_lies_20 : decode cX12_lies 20 = .ok (.iload_n 1, 1) := by decide +kernel
theorem dX12_lies_21 : decode cX12_lies 21 = .ok (.if_icmp .ne 5, 3) := by decide +kernel
theorem dX12_lies_24 : decode cX12_lies 24 = .ok (.iload_n 3, 1) := by decide +kernel
theorem dX12_lies_25 : decode cX12_lies 25 = .ok (.ireturn, 1) := by decide +kernel
theorem dX12_lies_26 : decode cX12_lies 26 = .ok (.iinc 2 1, 3) := by decide +kernel
theorem dX12_lies_29 : decode cX12_lies 29 = .ok (.iinc 3 1, 3) := by decide +kernel
theorem dX12_lies_32 : decode cX12_lies 32 = .ok (.goto (-27), 3) := by decide +kernel
theorem dX12_lies_35 : decode cX12_lies 35 = .ok (.iload_n 1, 1) := by decide +kernel
theorem dX12_lies_36 : decode cX12_lies 36 = .ok (.iconst (-1), 1) := by decide +kernel
theorem dX12_lies_37 : decode cX12_lies 37 = .ok (.if_icmp .ne 7, 3) := by decide +kernel
theorem dX12_lies_40 : decode cX12_lies 40 = .ok (.iload_n 2, 1) := by decide +kernel
theorem dX12_lies_41 : decode cX12_lies 41 = .ok (.goto 5, 3) := by decide +kernel
theorem dX12_lies_44 : decode cX12_lies 44 = .ok (.bipush (-6), 2) := by decide +kernel
theorem dX12_lies_46 : decode cX12_lies 46 = .ok (.ireturn, 1) := by decide +kernel
set_option maxRecDepth 20000 in
theorem ggX12_mostLeft_X12_isFit : GoodIn wsX12_mostLeft wsX12_isFit := goodIn_r _ [6, 7, 8, 9, 10, 11, 5, 12, 13, 14, 15, 16, 17, 18, 19, 20, 21, 22, 23, 24, 25, 26, 27, 28, 29, 30, 31, 32, 33, 34, 35, 36, 37, 38, 39, 40, 41, 42, 43, 44, 45, 46, 47, 48, 49, 50, 51, 52, 53, 54, 55, 56, 57, 58, 59, 60, 61, 62, 63, 64, 65, 66] (by decide +kernel) (by decide +kernel)
set_option maxRecDepth 20000 in
theorem gX12_mostLeft_X12_isFit : GoodIn wsX12_mostLeft (wsV RX12 272 RX12 yX12_isFit wsX12_isFit) := goodIn_app (goodIn_of _ (by decide +kernel)) ggX12_mostLeft_X12_isFit
set_option maxRecDepth 20000 in
theorem ggX12_mostLeft_X12_topBy : GoodIn wsX12_mostLeft wsX12_topBy := goodIn_r _ [21, 22, 23, 5, 24, 25, 26, 27, 28, 29, 30, 31, 32, 33, 34, 35, 36] (by decide +kernel) (by decide +kernel)
set_option maxRecDepth 20000 in
theorem gX12_mostLeft_X12_topBy : GoodIn wsX12_mostLeft (va_wsS RX12 266 yX12_topBy wsX12_topBy) := goodIn_app (goodIn_of _ (by decide +kernel)) ggX12_mostLeft_X12_topBy
theorem dX12_mostLeft_0 : decode cX12_mostLeft 0 = .ok (.iconst 0, 1) := by decide +kernel
theorem dX12_mostLeft_1 : decode cX12_mostLeft 1 = .ok (.istore_n 2, 1) := by decide +kernel
theorem dX12_mostLeft_2 : decode cX12_mostLeft 2 = .ok (.iconst 0, 1) := by decide +kernel
theorem dX12_mostLeft_3 : decode cX12_mostLeft 3 = .ok (.istore_n 3, 1) := by decide +kernel
theorem dX12_mostLeft_4 : decode cX12_mostLeft 4 = .ok (.iload_n 3, 1) := by decide +kernel
theorem dX12_mostLeft_5 : decode cX12_mostLeft 5 = .ok (.bipush 6, 2) := by decide +kernel
theorem dX12_mostLeft_7 : decode cX12_mostLeft 7 = .ok (.if_icmp .gt 16, 3) := by decide +kernel
theorem dX12_mostLeft_10 : decode cX12_mostLeft 10 = .ok (.aload_n 0, 1) := by decide +kernel
theorem dX12_mostLeft_11 : decode cX12_mostLeft 11 = .ok (.getfield 50, 3) := by decide +kernel
theorem dX12_mostLeft_14 : decode cX12_mostLeft 14 = .ok (.iload_n 3, 1) := by decide +kernel
theorem dX12_mostLeft_15 : decode cX12_mostLeft 15 = .ok (.iconst 0, 1) := by decide +kernel
theorem dX12_mostLeft_16 : decode cX12_mostLeft 16 = .ok (.iastore, 1) := by decide +kernel
theorem dX12_mostLeft_17 : decode cX12_mostLeft 17 = .ok (.iinc 3 1, 3) := by decide +kernel
theorem dX12_mostLeft_20 : decode cX12_mostLeft 20 = .ok (.goto (-16), 3) := by decide +kernel
theorem dX12_mostLeft_23 : decode cX12_mostLeft 23 = .ok (.bipush 11, 2) := by decide +kernel
theorem dX12_mostLeft_25 : decode cX12_mostLeft 25 = .ok (.istore_n 3, 1) := by decide +kernel
theorem dX12_mostLeft_26 : decode cX12_mostLeft 26 = .ok (.iload_n 3, 1) := by decide +kernel
theorem dX12_mostLeft_27 : decode cX12_mostLeft 27 = .ok (.bipush 66, 2) := by decide +kernel
theorem dX12_mostLeft_29 : decode cX12_mostLeft 29 = .ok (.if_icmp .gt 58, 3) := by decide +kernel
theorem dX12_mostLeft_32 : decode cX12_mostLeft 32 = .ok (.aload_n 0, 1) := by decide +kernel
theorem dX12_mostLeft_33 : decode cX12_mostLeft 33 = .ok (.iload_n 3, 1) := by decide +kernel
theorem dX12_mostLeft_34 : decode cX12_mostLeft 34 = .ok (.invokevirtual 272, 3) := by decide +kernel
theorem dX12_mostLeft_37 : decode cX12_mostLeft 37 = .ok (.ifCond .eq 44, 3) := by decide +kernel
theorem dX12_mostLeft_40 : decode cX12_mostLeft 40 = .ok (.iload_n 3, 1) := by decide +kernel
theorem dX12_mostLeft_41 : decode cX12_mostLeft 41 = .ok (.iload_n 1, 1) := by decide +kernel
theorem dX12_mostLeft_42 : decode cX12_mostLeft 42 = .ok (.invokestatic 266, 3) := by decide +kernel
theorem dX12_mostLeft_45 : decode cX12_mostLeft 45 = .ok (.istore 4, 2) := by decide +kernel
theorem dX12_mostLeft_47 : decode cX12_mostLeft 47 = .ok (.aload_n 0, 1) := by decide +kernel
theorem dX12_mostLeft_48 : decode cX12_mostLeft 48 = .ok (.getfield 50, 3) := by decide +kernel
theorem dX12_mostLeft_51 : decode cX12_mostLeft 51 = .ok (.iload 4, 2) := by decide +kernel
theorem dX12_mostLeft_53 : decode cX12_mostLeft 53 = .ok (.dup2, 1) := by decide +kernel
theorem dX12_mostLeft_54 : decode cX12_mostLeft 54 = .ok (.iaload, 1) := by decide +kernel
theorem dX12_mostLeft_55 : decode cX12_mostLeft 55 = .ok (.iconst 1, 1) := by decide +kernel
theorem dX12_mostLeft_56 : decode cX12_mostLeft 56 = .ok (.iadd, 1) := by decide +kernel
theorem dX12_mostLeft_57 : decode cX12_mostLeft 57 = .ok (.iastore, 1) := by decide +kernel
theorem dX12_mostLeft_58 : decode cX12_mostLeft 58 = .ok (.aload_n 0, 1) := by decide +kernel
theorem dX12_mostLeft_59 : decode cX12_mostLeft 59 = .ok (.getfield 50, 3) := by decide +kernel
theorem dX12_mostLeft_62 : decode cX12_mostLeft 62 = .ok (.iload 4, 2) := by decide +kernel
theorem dX12_mostLeft_64 : decode cX12_mostLeft 64 = .ok (.iaload, 1) := by decide +kernel
theorem dX12_mostLeft_65 : decode cX12_mostLeft 65 = .ok (.iload_n 2, 1) := by decide +kernel
theorem dX12_mostLeft_66 : decode cX12_mostLeft 66 = .ok (.if_icmp .le 13, 3) := by decide +kernel
theorem dX12_mostLeft_69 : decode cX12_mostLeft 69 = .ok (.aload_n 0, 1) := by decide +kernel
theorem dX12_mostLeft_70 : decode cX12_mostLeft 70 = .ok (.getfield 50, 3) := by decide +kernel
theorem dX12_mostLeft_73 : decode cX12_mostLeft 73 = .ok (.iload 4, 2) := by decide +kernel
theorem dX12_mostLeft_75 : decode cX12_mostLeft 75 = .ok (.iaload, 1) := by decide +kernel
theorem dX12_mostLeft_76 : decode cX12_mostLeft 76 = .ok (.goto 4, 3) := by decide +kernel
theorem dX12_mostLeft_79 : decode cX12_mostLeft 79 = .ok (.iload_n 2, 1) := by decide +kernel
theorem dX12_mostLeft_80 : decode cX12_mostLeft 80 = .ok (.istore_n 2, 1) := by decide +kernel
theorem dX12_mostLeft_81 : decode cX12_mostLeft 81 = .ok (.iinc 3 1, 3) := by decide +kernel
theorem dX12_mostLeft_84 : decode cX12_mostLeft 84 = .ok (.goto (-58), 3) := by decide +kernel
theorem dX12_mostLeft_87 : decode cX12_mostLeft 87 = .ok (.iload_n 2, 1) := by decide +kernel
theorem dX12_mostLeft_88 : decode cX12_mostLeft 88 = .ok (.ireturn, 1) := by decide +kernel
set_option maxRecDepth 20000 in
theorem ggX12_ask_X12_in : GoodIn wsX12_ask wsX12_in := goodIn_r _ [4] (by decide +kernel) (by decide +kernel)
set_option maxRecDepth 20000 in
theorem gX12_ask_X12_in : GoodIn wsX12_ask (va_wsS RX12 65 yX12_in wsX12_in) := goodIn_app (goodIn_of _ (by decide +kernel)) ggX12_ask_X12_in
set_option maxRecDepth 20000 in
theorem ggX12_ask_X12_mostLeft : GoodIn wsX12_ask wsX12_mostLeft := goodIn_r _ [8, 9, 10, 11, 12, 3, 13, 14, 15, 16, 17, 18, 19, 20, 21, 22, 1, 2, 4, 23, 24, 25, 26, 27, 28, 29, 30, 31, 32, 33, 34, 35, 36, 37, 38, 39, 40, 47, 48, 49, 50, 51, 52, 53, 54, 55, 56, 57, 58, 59, 60, 61, 62, 63, 64, 65, 66, 67, 68, 69, 70, 71, 72, 73, 74, 75, 76] (by decide +kernel) (by decide +kernel)
set_option maxRecDepth 20000 in
theorem gX12_ask_X12_mostLeft : GoodIn wsX12_ask (wsV RX12 275 RX12 yX12_mostLeft wsX12_mostLeft) := goodIn_app (goodIn_of _ (by decide +kernel)) ggX12_ask_X12_mostLeft
set_option maxRecDepth 20000 in
theorem ggX12_ask_X12_isRow : GoodIn wsX12_ask wsX12_isRow := goodIn_r _ [43] (by decide +kernel) (by decide +kernel)
set_option maxRecDepth 20000 in
theorem gX12_ask_X12_isRow : GoodIn wsX12_ask (va_wsS RX12 263 yX12_isRow wsX12_isRow) := goodIn_app (goodIn_of _ (by decide +kernel)) ggX12_ask_X12_isRow
set_option maxRecDepth 20000 in
theorem ggX12_ask_X12_less : GoodIn wsX12_ask wsX12_less := goodIn_r _ [46] (by decide +kernel) (by decide +kernel)
set_option maxRecDepth 20000 in
theorem gX12_ask_X12_less : GoodIn wsX12_ask (va_wsS RX12 149 yX12_less wsX12_less) := goodIn_app (goodIn_of _ (by decide +kernel)) ggX12_ask_X12_less
theorem dX12_ask_0 : decode cX12_ask 0 = .ok (.iload_n 1, 1) := by decide +kernel
theorem dX12_ask_1 : decode cX12_ask 1 = .ok (.i2l, 1) := by decide +kernel
theorem dX12_ask_2 : decode cX12_ask 2 = .ok (.lconst 0, 1) := by decide +kernel
theorem dX12_ask_3 : decode cX12_ask 3 = .ok (.lconst 1, 1) := by decide +kernel
theorem dX12_ask_4 : decode cX12_ask 4 = .ok (.invokestatic 65, 3) := by decide +kernel
theorem dX12_ask_7 : decode cX12_ask 7 = .ok (.ifCond .ne 6, 3) := by decide +kernel
theorem dX12_ask_10 : decode cX12_ask 10 = .ok (.bipush (-2), 2) := by decide +kernel
theorem dX12_ask_12 : decode cX12_ask 12 = .ok (.ireturn, 1) := by decide +kernel
theorem dX12_ask_13 : decode cX12_ask 13 = .ok (.iconst 1, 1) := by decide +kernel
theorem dX12_ask_14 : decode cX12_ask 14 = .ok (.istore_n 2, 1) := by decide +kernel
theorem dX12_ask_15 : decode cX12_ask 15 = .ok (.aload_n 0, 1) := by decide +kernel
theorem dX12_ask_16 : decode cX12_ask 16 = .ok (.iconst 1, 1) := by decide +kernel
theorem dX12_ask_17 : decode cX12_ask 17 = .ok (.invokevirtual 275, 3) := by decide +kernel
theorem dX12_ask_20 : decode cX12_ask 20 = .ok (.istore_n 3, 1) := by decide +kernel
theorem dX12_ask_21 : decode cX12_ask 21 = .ok (.bipush 10, 2) := by decide +kernel
theorem dX12_ask_23 : decode cX12_ask 23 = .ok (.istore 4, 2) := by decide +kernel
theorem dX12_ask_25 : decode cX12_ask 25 = .ok (.iload 4, 2) := by decide +kernel
theorem dX12_ask_27 : decode cX12_ask 27 = .ok (.sipush 133, 3) := by decide +kernel
theorem dX12_ask_30 : decode cX12_ask 30 = .ok (.if_icmp .gt 49, 3) := by decide +kernel
theorem dX12_ask_33 : decode cX12_ask 33 = .ok (.iload 4, 2) := by decide +kernel
theorem dX12_ask_35 : decode cX12_ask 35 = .ok (.invokestatic 263, 3) := by decide +kernel
theorem dX12_ask_38 : decode cX12_ask 38 = .ok (.ifCond .eq 12, 3) := by decide +kernel
theorem dX12_ask_41 : decode cX12_ask 41 = .ok (.aload_n 0, 1) := by decide +kernel
theorem dX12_ask_42 : decode cX12_ask 42 = .ok (.iload 4, 2) := by decide +kernel
theorem dX12_ask_44 : decode cX12_ask 44 = .ok (.invokevirtual 275, 3) := by decide +kernel
theorem dX12_ask_47 : decode cX12_ask 47 = .ok (.goto 4, 3) := by decide +kernel
theorem dX12_ask_50 : decode cX12_ask 50 = .ok (.iload_n 3, 1) := by decide +kernel
theorem dX12_ask_51 : decode cX12_ask 51 = .ok (.istore 5, 2) := by decide +kernel
theorem dX12_ask_53 : decode cX12_ask 53 = .ok (.iload 5, 2) := by decide +kernel
theorem dX12_ask_55 : decode cX12_ask 55 = .ok (.iload_n 3, 1) := by decide +kernel
theorem dX12_ask_56 : decode cX12_ask 56 = .ok (.if_icmp .ge 8, 3) := by decide +kernel
theorem dX12_ask_59 : decode cX12_ask 59 = .ok (.iload 4, 2) := by decide +kernel
theorem dX12_ask_61 : decode cX12_ask 61 = .ok (.goto 4, 3) := by decide +kernel
theorem dX12_ask_64 : decode cX12_ask 64 = .ok (.iload_n 2, 1) := by decide +kernel
theorem dX12_ask_65 : decode cX12_ask 65 = .ok (.istore_n 2, 1) := by decide +kernel
theorem dX12_ask_66 : decode cX12_ask 66 = .ok (.iload_n 3, 1) := by decide +kernel
theorem dX12_ask_67 : decode cX12_ask 67 = .ok (.iload 5, 2) := by decide +kernel
theorem dX12_ask_69 : decode cX12_ask 69 = .ok (.invokestatic 149, 3) := by decide +kernel
theorem dX12_ask_72 : decode cX12_ask 72 = .ok (.istore_n 3, 1) := by decide +kernel
theorem dX12_ask_73 : decode cX12_ask 73 = .ok (.iinc 4 1, 3) := by decide +kernel
theorem dX12_ask_76 : decode cX12_ask 76 = .ok (.goto (-51), 3) := by decide +kernel
theorem dX12_ask_79 : decode cX12_ask 79 = .ok (.iload_n 3, 1) := by decide +kernel
theorem dX12_ask_80 : decode cX12_ask 80 = .ok (.ifCond .ne 8, 3) := by decide +kernel
theorem dX12_ask_83 : decode cX12_ask 83 = .ok (.bipush (-6), 2) := by decide +kernel
theorem dX12_ask_85 : decode cX12_ask 85 = .ok (.goto 12, 3) := by decide +kernel
theorem dX12_ask_88 : decode cX12_ask 88 = .ok (.iload_n 1, 1) := by decide +kernel
theorem dX12_ask_89 : decode cX12_ask 89 = .ok (.ifCond .ne 7, 3) := by decide +kernel
theorem dX12_ask_92 : decode cX12_ask 92 = .ok (.iload_n 2, 1) := by decide +kernel
theorem dX12_ask_93 : decode cX12_ask 93 = .ok (.goto 4, 3) := by decide +kernel
theorem dX12_ask_96 : decode cX12_ask 96 = .ok (.iload_n 3, 1) := by decide +kernel
theorem dX12_ask_97 : decode cX12_ask 97 = .ok (.ireturn, 1) := by decide +kernel
theorem dX12_leastTurn_0 : decode cX12_leastTurn 0 = .ok (.bipush (-6), 2) := by decide +kernel
theorem dX12_leastTurn_2 : decode cX12_leastTurn 2 = .ok (.istore_n 3, 1) := by decide +kernel
theorem dX12_leastTurn_3 : decode cX12_leastTurn 3 = .ok (.bipush 6, 2) := by decide +kernel
theorem dX12_leastTurn_5 : decode cX12_leastTurn 5 = .ok (.istore 4, 2) := by decide +kernel
theorem dX12_leastTurn_7 : decode cX12_leastTurn 7 = .ok (.iload 4, 2) := by decide +kernel
theorem dX12_leastTurn_9 : decode cX12_leastTurn 9 = .ok (.ifCond .le 67, 3) := by decide +kernel
theorem dX12_leastTurn_12 : decode cX12_leastTurn 12 = .ok (.iload 4, 2) := by decide +kernel
theorem dX12_leastTurn_14 : decode cX12_leastTurn 14 = .ok (.iload_n 2, 1) := by decide +kernel
theorem dX12_leastTurn_15 : decode cX12_leastTurn 15 = .ok (.if_icmp .eq 22, 3) := by decide +kernel
theorem dX12_leastTurn_18 : decode cX12_leastTurn 18 = .ok (.iload 4, 2) := by decide +kernel
theorem dX12_leastTurn_20 : decode cX12_leastTurn 20 = .ok (.iload_n 2, 1) := by decide +kernel
theorem dX12_leastTurn_21 : decode cX12_leastTurn 21 = .ok (.iadd, 1) := by decide +kernel
theorem dX12_leastTurn_22 : decode cX12_leastTurn 22 = .ok (.bipush 7, 2) := by decide +kernel
theorem dX12_leastTurn_24 : decode cX12_leastTurn 24 = .ok (.if_icmp .eq 13, 3) := by decide +kernel
theorem dX12_leastTurn_27 : decode cX12_leastTurn 27 = .ok (.iload 4, 2) := by decide +kernel
theorem dX12_leastTurn_29 : decode cX12_leastTurn 29 = .ok (.iload_n 1, 1) := by decide +kernel
theorem dX12_leastTurn_30 : decode cX12_leastTurn 30 = .ok (.if_icmp .gt 7, 3) := by decide +kernel
theorem dX12_leastTurn_33 : decode cX12_leastTurn 33 = .ok (.iconst 1, 1) := by decide +kernel
theorem dX12_leastTurn_34 : decode cX12_leastTurn 34 = .ok (.goto 4, 3) := by decide +kernel
theorem dX12_leastTurn_37 : decode cX12_leastTurn 37 = .ok (.iconst 0, 1) := by decide +kernel
theorem dX12_leastTurn_38 : decode cX12_leastTurn 38 = .ok (.istore 5, 2) := by decide +kernel
theorem dX12_leastTurn_40 : decode cX12_leastTurn 40 = .ok (.iload 5, 2) := by decide +kernel
theorem dX12_leastTurn_42 : decode cX12_leastTurn 42 = .ok (.ifCond .eq 26, 3) := by decide +kernel
theorem dX12_leastTurn_45 : decode cX12_leastTurn 45 = .ok (.aload_n 0, 1) := by decide +kernel
theorem dX12_leastTurn_46 : decode cX12_leastTurn 46 = .ok (.getfield 53, 3) := by decide +kernel
theorem dX12_leastTurn_49 : decode cX12_leastTurn 49 = .ok (.bipush 7, 2) := by decide +kernel
theorem dX12_leastTurn_51 : decode cX12_leastTurn 51 = .ok (.iload_n 1, 1) := by decide +kernel
theorem dX12_leastTurn_52 : decode cX12_leastTurn 52 = .ok (.iload 4, 2) := by decide +kernel
theorem dX12_leastTurn_54 : decode cX12_leastTurn 54 = .ok (.isub, 1) := by decide +kernel
theorem dX12_leastTurn_55 : decode cX12_leastTurn 55 = .ok (.imul, 1) := by decide +kernel
theorem dX12_leastTurn_56 : decode cX12_leastTurn 56 = .ok (.iload 4, 2) := by decide +kernel
theorem dX12_leastTurn_58 : decode cX12_leastTurn 58 = .ok (.iadd, 1) := by decide +kernel
theorem dX12_leastTurn_59 : decode cX12_leastTurn 59 = .ok (.baload, 1) := by decide +kernel
theorem dX12_leastTurn_60 : decode cX12_leastTurn 60 = .ok (.ifCond .ne 8, 3) := by decide +kernel
theorem dX12_leastTurn_63 : decode cX12_leastTurn 63 = .ok (.iload 4, 2) := by decide +kernel
theorem dX12_leastTurn_65 : decode cX12_leastTurn 65 = .ok (.goto 4, 3) := by decide +kernel
theorem dX12_leastTurn_68 : decode cX12_leastTurn 68 = .ok (.iload_n 3, 1) := by decide +kernel
theorem dX12_leastTurn_69 : decode cX12_leastTurn 69 = .ok (.istore_n 3, 1) := by decide +kernel
theorem dX12_leastTurn_70 : decode cX12_leastTurn 70 = .ok (.iinc 4 (-1), 3) := by decide +kernel
theorem dX12_leastTurn_73 : decode cX12_leastTurn 73 = .ok (.goto (-66), 3) := by decide +kernel
theorem dX12_leastTurn_76 : decode cX12_leastTurn 76 = .ok (.iload_n 3, 1) := by decide +kernel
theorem dX12_leastTurn_77 : decode cX12_leastTurn 77 = .ok (.ireturn, 1) := by decide +kernel
set_option maxRecDepth 20000 in
theorem ggX12_turn_X12_in : GoodIn wsX12_turn wsX12_in := goodIn_r _ [7] (by decide +kernel) (by decide +kernel)
set_option maxRecDepth 20000 in
theorem gX12_turn_X12_in : GoodIn wsX12_turn (va_wsS RX12 65 yX12_in wsX12_in) := goodIn_app (goodIn_of _ (by decide +kernel)) ggX12_turn_X12_in
set_option maxRecDepth 20000 in
theorem ggX12_turn_X12_leastTurn : GoodIn wsX12_turn wsX12_leastTurn := goodIn_r _ [11, 3, 12, 13, 14, 15, 16, 17, 18, 19, 20, 21, 22, 23, 24, 25, 26, 27, 28, 29, 30, 31, 32, 33, 34, 35, 36, 37, 38, 39, 40, 41] (by decide +kernel) (by decide +kernel)
set_option maxRecDepth 20000 in
theorem gX12_turn_X12_leastTurn : GoodIn wsX12_turn (wsV RX12 278 RX12 yX12_leastTurn wsX12_leastTurn) := goodIn_app (goodIn_of _ (by decide +kernel)) ggX12_turn_X12_leastTurn
theorem dX12_turn_0 : decode cX12_turn 0 = .ok (.iload_n 1, 1) := by decide +kernel
theorem dX12_turn_1 : decode cX12_turn 1 = .ok (.i2l, 1) := by decide +kernel
theorem dX12_turn_2 : decode cX12_turn 2 = .ok (.lconst 0, 1) := by decide +kernel
theorem dX12_turn_3 : decode cX12_turn 3 = .ok (.ldc2_w 240, 3) := by decide +kernel
theorem dX12_turn_6 : decode cX12_turn 6 = .ok (.invokestatic 65, 3) := by decide +kernel
theorem dX12_turn_9 : decode cX12_turn 9 = .ok (.ifCond .eq 25, 3) := by decide +kernel
theorem dX12_turn_12 : decode cX12_turn 12 = .ok (.iload_n 2, 1) := by decide +kernel
theorem dX12_turn_13 : decode cX12_turn 13 = .ok (.i2l, 1) := by decide +kernel
theorem dX12_turn_14 : decode cX12_turn 14 = .ok (.lconst 1, 1) := by decide +kernel
theorem dX12_turn_15 : decode cX12_turn 15 = .ok (.ldc2_w 229, 3) := by decide +kernel
theorem dX12_turn_18 : decode cX12_turn 18 = .ok (.invokestatic 65, 3) := by decide +kernel
theorem dX12_turn_21 : decode cX12_turn 21 = .ok (.ifCond .eq 13, 3) := by decide +kernel
theorem dX12_turn_24 : decode cX12_turn 24 = .ok (.iload_n 3, 1) := by decide +kernel
theorem dX12_turn_25 : decode cX12_turn 25 = .ok (.i2l, 1) := by decide +kernel
theorem dX12_turn_26 : decode cX12_turn 26 = .ok (.lconst 0, 1) := by decide +kernel
theorem dX12_turn_27 : decode cX12_turn 27 = .ok (.lconst 1, 1) := by decide +kernel
theorem dX12_turn_28 : decode cX12_turn 28 = .ok (.invokestatic 65, 3) := by decide +kernel
theorem dX12_turn_31 : decode cX12_turn 31 = .ok (.ifCond .ne 6, 3) := by decide +kernel
theorem dX12_turn_34 : decode cX12_turn 34 = .ok (.bipush (-2), 2) := by decide +kernel
theorem dX12_turn_36 : decode cX12_turn 36 = .ok (.ireturn, 1) := by decide +kernel
theorem dX12_turn_37 : decode cX12_turn 37 = .ok (.iconst 0, 1) := by decide +kernel
theorem dX12_turn_38 : decode cX12_turn 38 = .ok (.istore 4, 2) := by decide +kernel
theorem dX12_turn_40 : decode cX12_turn 40 = .ok (.iload 4, 2) := by decide +kernel
theorem dX12_turn_42 : decode cX12_turn 42 = .ok (.iload_n 1, 1) := by decide +kernel
theorem dX12_turn_43 : decode cX12_turn 43 = .ok (.if_icmp .gt 54, 3) := by decide +kernel
theorem dX12_turn_46 : decode cX12_turn 46 = .ok (.iconst 1, 1) := by decide +kernel
theorem dX12_turn_47 : decode cX12_turn 47 = .ok (.istore 5, 2) := by decide +kernel
theorem dX12_turn_49 : decode cX12_turn 49 = .ok (.iload 5, 2) := by decide +kernel
theorem dX12_turn_51 : decode cX12_turn 51 = .ok (.bipush 6, 2) := by decide +kernel
theorem dX12_turn_53 : decode cX12_turn 53 = .ok (.if_icmp .gt 38, 3) := by decide +kernel
theorem dX12_turn_56 : decode cX12_turn 56 = .ok (.aload_n 0, 1) := by decide +kernel
theorem dX12_turn_57 : decode cX12_turn 57 = .ok (.getfield 53, 3) := by decide +kernel
theorem dX12_turn_60 : decode cX12_turn 60 = .ok (.bipush 7, 2) := by decide +kernel
theorem dX12_turn_62 : decode cX12_turn 62 = .ok (.iload 4, 2) := by decide +kernel
theorem dX12_turn_64 : decode cX12_turn 64 = .ok (.imul, 1) := by decide +kernel
theorem dX12_turn_65 : decode cX12_turn 65 = .ok (.iload 5, 2) := by decide +kernel
theorem dX12_turn_67 : decode cX12_turn 67 = .ok (.iadd, 1) := by decide +kernel
theorem dX12_turn_68 : decode cX12_turn 68 = .ok (.aload_n 0, 1) := by decide +kernel
theorem dX12_turn_69 : decode cX12_turn 69 = .ok (.iload 4, 2) := by decide +kernel
theorem dX12_turn_71 : decode cX12_turn 71 = .ok (.iload 5, 2) := by decide +kernel
theorem dX12_turn_73 : decode cX12_turn 73 = .ok (.invokevirtual 278, 3) := by decide +kernel
theorem dX12_turn_76 : decode cX12_turn 76 = .ok (.ifCond .lt 7, 3) := by decide +kernel
theorem dX12_turn_79 : decode cX12_turn 79 = .ok (.iconst 1, 1) := by decide +kernel
theorem dX12_turn_80 : decode cX12_turn 80 = .ok (.goto 4, 3) := by decide +kernel
theorem dX12_turn_83 : decode cX12_turn 83 = .ok (.iconst 0, 1) := by decide +kernel
theorem dX12_turn_84 : decode cX12_turn 84 = .ok (.bastore, 1) := by decide +kernel
theorem dX12_turn_85 : decode cX12_turn 85 = .ok (.iinc 5 1, 3) := by decide +kernel
theorem dX12_turn_88 : decode cX12_turn 88 = .ok (.goto (-39), 3) := by decide +kernel
theorem dX12_turn_91 : decode cX12_turn 91 = .ok (.iinc 4 1, 3) := by decide +kernel
theorem dX12_turn_94 : decode cX12_turn 94 = .ok (.goto (-54), 3) := by decide +kernel
theorem dX12_turn_97 : decode cX12_turn 97 = .ok (.iload_n 3, 1) := by decide +kernel
theorem dX12_turn_98 : decode cX12_turn 98 = .ok (.iconst 1, 1) := by decide +kernel
theorem dX12_turn_99 : decode cX12_turn 99 = .ok (.if_icmp .ne 12, 3) := by decide +kernel
theorem dX12_turn_102 : decode cX12_turn 102 = .ok (.aload_n 0, 1) := by decide +kernel
theorem dX12_turn_103 : decode cX12_turn 103 = .ok (.iload_n 1, 1) := by decide +kernel
theorem dX12_turn_104 : decode cX12_turn 104 = .ok (.iload_n 2, 1) := by decide +kernel
theorem dX12_turn_105 : decode cX12_turn 105 = .ok (.invokevirtual 278, 3) := by decide +kernel
theorem dX12_turn_108 : decode cX12_turn 108 = .ok (.goto 22, 3) := by decide +kernel
theorem dX12_turn_111 : decode cX12_turn 111 = .ok (.aload_n 0, 1) := by decide +kernel
theorem dX12_turn_112 : decode cX12_turn 112 = .ok (.getfield 53, 3) := by decide +kernel
theorem dX12_turn_115 : decode cX12_turn 115 = .ok (.bipush 7, 2) := by decide +kernel
theorem dX12_turn_117 : decode cX12_turn 117 = .ok (.iload_n 1, 1) := by decide +kernel
theorem dX12_turn_118 : decode cX12_turn 118 = .ok (.imul, 1) := by decide +kernel
theorem dX12_turn_119 : decode cX12_turn 119 = .ok (.iload_n 2, 1) := by decide +kernel
theorem dX12_turn_120 : decode cX12_turn 120 = .ok (.iadd, 1) := by decide +kernel
theorem dX12_turn_121 : decode cX12_turn 121 = .ok (.baload, 1) := by decide +kernel
theorem dX12_turn_122 : decode cX12_turn 122 = .ok (.ifCond .eq 7, 3) := by decide +kernel
theorem dX12_turn_125 : decode cX12_turn 125 = .ok (.iconst 1, 1) := by decide +kernel
theorem dX12_turn_126 : decode cX12_turn 126 = .ok (.goto 4, 3) := by decide +kernel
theorem dX12_turn_129 : decode cX12_turn 129 = .ok (.iconst 0, 1) := by decide +kernel
theorem dX12_turn_130 : decode cX12_turn 130 = .ok (.ireturn, 1) := by decide +kernel
set_option maxRecDepth 20000 in
theorem ggX12_drawn_X12_whyNot : GoodIn wsX12_drawn wsX12_whyNot := goodIn_r _ [5, 6, 7, 8, 9, 10, 11, 12, 13, 4, 14, 61, 62, 63, 64, 65, 66, 67, 68, 69, 70, 71, 72, 73, 74, 75, 76, 77, 78, 79, 80, 81, 82, 83, 84, 85, 86, 87, 88, 89, 90] (by decide +kernel) (by decide +kernel)
set_option maxRecDepth 20000 in
theorem gX12_drawn_X12_whyNot : GoodIn wsX12_drawn (wsV RX12 178 RX12 yX12_whyNot wsX12_whyNot) := goodIn_app (goodIn_of _ (by decide +kernel)) ggX12_drawn_X12_whyNot
set_option maxRecDepth 20000 in
theorem ggX12_drawn_X12_happen : GoodIn wsX12_drawn wsX12_happen := goodIn_r _ [18, 19, 20, 21, 22, 4, 23, 6, 7, 24, 8, 25, 26, 27, 28, 29, 30, 31, 32, 33, 34, 35, 36, 37, 38, 39, 40, 41, 42, 9, 43, 44, 45, 46, 47, 48, 49, 50, 10, 51, 52, 53, 54, 55, 56, 57, 58, 59, 60, 61, 62, 63, 64, 65, 66, 67, 68, 69, 70, 71, 72, 73, 74, 75, 76, 77, 78, 79, 80, 81, 82, 83, 84, 85, 86, 87, 88, 89, 90] (by decide +kernel) (by decide +kernel)
set_option maxRecDepth 20000 in
theorem gX12_drawn_X12_happen : GoodIn wsX12_drawn (wsV RX12 162 RX12 yX12_happen wsX12_happen) := goodIn_app (goodIn_of _ (by decide +kernel)) ggX12_drawn_X12_happen
theorem dX12_drawn_0 : decode cX12_drawn 0 = .ok (.iload_n 1, 1) := by decide +kernel
theorem dX12_drawn_1 : decode cX12_drawn 1 = .ok (.bipush 6, 2) := by decide +kernel
theorem dX12_drawn_3 : decode cX12_drawn 3 = .ok (.if_icmp .ge 7, 3) := by decide +kernel
theorem dX12_drawn_6 : decode cX12_drawn 6 = .ok (.iconst 0, 1) := by decide +kernel
theorem dX12_drawn_7 : decode cX12_drawn 7 = .ok (.goto 27, 3) := by decide +kernel
theorem dX12_drawn_10 : decode cX12_drawn 10 = .ok (.iload_n 1, 1) := by decide +kernel
theorem dX12_drawn_11 : decode cX12_drawn 11 = .ok (.bipush 7, 2) := by decide +kernel
theorem dX12_drawn_13 : decode cX12_drawn 13 = .ok (.if_icmp .ne 7, 3) := by decide +kernel
theorem dX12_drawn_16 : decode cX12_drawn 16 = .ok (.iconst 2, 1) := by decide +kernel
theorem dX12_drawn_17 : decode cX12_drawn 17 = .ok (.goto 17, 3) := by decide +kernel
theorem dX12_drawn_20 : decode cX12_drawn 20 = .ok (.iload_n 2, 1) := by decide +kernel
theorem dX12_drawn_21 : decode cX12_drawn 21 = .ok (.bipush 6, 2) := by decide +kernel
theorem dX12_drawn_23 : decode cX12_drawn 23 = .ok (.idiv, 1) := by decide +kernel
theorem dX12_drawn_24 : decode cX12_drawn 24 = .ok (.iconst 4, 1) := by decide +kernel
theorem dX12_drawn_25 : decode cX12_drawn 25 = .ok (.irem, 1) := by decide +kernel
theorem dX12_drawn_26 : decode cX12_drawn 26 = .ok (.ifCond .ne 7, 3) := by decide +kernel
theorem dX12_drawn_29 : decode cX12_drawn 29 = .ok (.iconst 3, 1) := by decide +kernel
theorem dX12_drawn_30 : decode cX12_drawn 30 = .ok (.goto 4, 3) := by decide +kernel
theorem dX12_drawn_33 : decode cX12_drawn 33 = .ok (.iconst 1, 1) := by decide +kernel
theorem dX12_drawn_34 : decode cX12_drawn 34 = .ok (.istore_n 3, 1) := by decide +kernel
theorem dX12_drawn_35 : decode cX12_drawn 35 = .ok (.iload_n 1, 1) := by decide +kernel
theorem dX12_drawn_36 : decode cX12_drawn 36 = .ok (.bipush 6, 2) := by decide +kernel
theorem dX12_drawn_38 : decode cX12_drawn 38 = .ok (.if_icmp .ge 12, 3) := by decide +kernel
theorem dX12_drawn_41 : decode cX12_drawn 41 = .ok (.iconst 1, 1) := by decide +kernel
theorem dX12_drawn_42 : decode cX12_drawn 42 = .ok (.iload_n 2, 1) := by decide +kernel
theorem dX12_drawn_43 : decode cX12_drawn 43 = .ok (.bipush 6, 2) := by decide +kernel
theorem dX12_drawn_45 : decode cX12_drawn 45 = .ok (.irem, 1) := by decide +kernel
theorem dX12_drawn_46 : decode cX12_drawn 46 = .ok (.iadd, 1) := by decide +kernel
theorem dX12_drawn_47 : decode cX12_drawn 47 = .ok (.goto 7, 3) := by decide +kernel
theorem dX12_drawn_50 : decode cX12_drawn 50 = .ok (.iload_n 2, 1) := by decide +kernel
theorem dX12_drawn_51 : decode cX12_drawn 51 = .ok (.bipush 6, 2) := by decide +kernel
theorem dX12_drawn_53 : decode cX12_drawn 53 = .ok (.irem, 1) := by decide +kernel
theorem dX12_drawn_54 : decode cX12_drawn 54 = .ok (.istore 4, 2) := by decide +kernel
theorem dX12_drawn_56 : decode cX12_drawn 56 = .ok (.aload_n 0, 1) := by decide +kernel
theorem dX12_drawn_57 : decode cX12_drawn 57 = .ok (.iload_n 3, 1) := by decide +kernel
theorem dX12_drawn_58 : decode cX12_drawn 58 = .ok (.iload 4, 2) := by decide +kernel
theorem dX12_drawn_60 : decode cX12_drawn 60 = .ok (.invokevirtual 178, 3) := by decide +kernel
theorem dX12_drawn_63 : decode cX12_drawn 63 = .ok (.ifCond .ne 10, 3) := by decide +kernel
theorem dX12_drawn_66 : decode cX12_drawn 66 = .ok (.aload_n 0, 1) := by decide +kernel
theorem dX12_drawn_67 : decode cX12_drawn 67 = .ok (.iload_n 3, 1) := by decide +kernel
theorem dX12_drawn_68 : decode cX12_drawn 68 = .ok (.iload 4, 2) := by decide +kernel
theorem dX12_drawn_70 : decode cX12_drawn 70 = .ok (.invokevirtual 162, 3) := by decide +kernel
theorem dX12_drawn_73 : decode cX12_drawn 73 = .ok (.return_, 1) := by decide +kernel
set_option maxRecDepth 20000 in
theorem ggX12_allParts_X12_partsOf : GoodIn wsX12_allParts wsX12_partsOf := goodIn_r _ [5, 6, 7, 4, 8, 9, 10, 11] (by decide +kernel) (by decide +kernel)
set_option maxRecDepth 20000 in
theorem gX12_allParts_X12_partsOf : GoodIn wsX12_allParts (va_wsS RX12 146 yX12_partsOf wsX12_partsOf) := goodIn_app (goodIn_of _ (by decide +kernel)) ggX12_allParts_X12_partsOf
theorem dX12_allParts_0 : decode cX12_allParts 0 = .ok (.iconst 0, 1) := by decide +kernel
theorem dX12_allParts_1 : decode cX12_allParts 1 = .ok (.istore_n 1, 1) := by decide +kernel
theorem dX12_allParts_2 : decode cX12_allParts 2 = .ok (.iconst 0, 1) := by decide +kernel
theorem dX12_allParts_3 : decode cX12_allParts 3 = .ok (.istore_n 2, 1) := by decide +kernel
theorem dX12_allParts_4 : decode cX12_allParts 4 = .ok (.iload_n 2, 1) := by decide +kernel
theorem dX12_allParts_5 : decode cX12_allParts 5 = .ok (.bipush 6, 2) := by decide +kernel
theorem dX12_allParts_7 : decode cX12_allParts 7 = .ok (.if_icmp .ge 21, 3) := by decide +kernel
theorem dX12_allParts_10 : decode cX12_allParts 10 = .ok (.iload_n 1, 1) := by decide +kernel
theorem dX12_allParts_11 : decode cX12_allParts 11 = .ok (.aload_n 0, 1) := by decide +kernel
theorem dX12_allParts_12 : decode cX12_allParts 12 = .ok (.getfield 13, 3) := by decide +kernel
theorem dX12_allParts_15 : decode cX12_allParts 15 = .ok (.iload_n 2, 1) := by decide +kernel
theorem dX12_allParts_16 : decode cX12_allParts 16 = .ok (.iaload, 1) := by decide +kernel
theorem dX12_allParts_17 : decode cX12_allParts 17 = .ok (.invokestatic 146, 3) := by decide +kernel
theorem dX12_allParts_20 : decode cX12_allParts 20 = .ok (.iadd, 1) := by decide +kernel
theorem dX12_allParts_21 : decode cX12_allParts 21 = .ok (.istore_n 1, 1) := by decide +kernel
theorem dX12_allParts_22 : decode cX12_allParts 22 = .ok (.iinc 2 1, 3) := by decide +kernel
theorem dX12_allParts_25 : decode cX12_allParts 25 = .ok (.goto (-21), 3) := by decide +kernel
theorem dX12_allParts_28 : decode cX12_allParts 28 = .ok (.iload_n 1, 1) := by decide +kernel
theorem dX12_allParts_29 : decode cX12_allParts 29 = .ok (.ireturn, 1) := by decide +kernel
set_option maxRecDepth 20000 in
theorem ggX12_year_X12_in : GoodIn wsX12_year wsX12_in := goodIn_r _ [12] (by decide +kernel) (by decide +kernel)
set_option maxRecDepth 20000 in
theorem gX12_year_X12_in : GoodIn wsX12_year (va_wsS RX12 65 yX12_in wsX12_in) := goodIn_app (goodIn_of _ (by decide +kernel)) ggX12_year_X12_in
set_option maxRecDepth 20000 in
theorem ggX12_year_X12_keepNow : GoodIn wsX12_year wsX12_keepNow := goodIn_r _ [16, 17, 18, 8, 19, 7, 20, 87, 88, 89, 90, 91, 92, 93, 94, 95, 96, 97, 98, 99, 100, 101, 102, 103, 104, 105, 106, 107, 108, 109, 110, 111, 112, 113, 114, 115, 116] (by decide +kernel) (by decide +kernel)
set_option maxRecDepth 20000 in
theorem gX12_year_X12_keepNow : GoodIn wsX12_year (wsV RX12 184 RX12 yX12_keepNow wsX12_keepNow) := goodIn_app (goodIn_of _ (by decide +kernel)) ggX12_year_X12_keepNow
set_option maxRecDepth 20000 in
theorem ggX12_year_X12_drawn : GoodIn wsX12_year wsX12_drawn := goodIn_r _ [24, 25, 26, 27, 11, 28, 18, 7, 29, 19, 20, 30, 31, 32, 33, 34, 35, 36, 37, 38, 39, 40, 41, 42, 43, 44, 45, 46, 47, 48, 49, 50, 51, 52, 53, 54, 55, 56, 57, 58, 59, 60, 61, 62, 63, 64, 65, 66, 67, 68, 8, 69, 70, 71, 72, 73, 74, 75, 76, 77, 78, 87, 88, 89, 90, 91, 92, 93, 94, 95, 96, 97, 98, 99, 100, 101, 102, 103, 104, 105, 106, 107, 108, 109, 110, 111, 112, 113, 114, 115, 116] (by decide +kernel) (by decide +kernel)
set_option maxRecDepth 20000 in
theorem gX12_year_X12_drawn : GoodIn wsX12_year (wsV RX12 289 RX12 yX12_drawn wsX12_drawn) := goodIn_app (goodIn_of _ (by decide +kernel)) ggX12_year_X12_drawn
set_option maxRecDepth 20000 in
theorem ggX12_year_X12_allParts : GoodIn wsX12_year wsX12_allParts := goodIn_r _ [82, 18, 69, 70, 11, 71, 49, 50, 51, 52, 53, 54, 87, 88, 89, 90, 91, 92, 93, 94, 95, 96, 97, 98, 99, 100, 101, 102, 103, 104, 105, 106, 107, 108, 109, 110, 111, 112, 113, 114, 115, 116] (by decide +kernel) (by decide +kernel)
set_option maxRecDepth 20000 in
theorem gX12_year_X12_allParts : GoodIn wsX12_year (wsV RX12 292 RX12 yX12_allParts wsX12_allParts) := goodIn_app (goodIn_of _ (by decide +kernel)) ggX12_year_X12_allParts
set_option maxRecDepth 20000 in
theorem ggX12_year_X12_back : GoodIn wsX12_year wsX12_back := goodIn_r _ [86, 18, 17, 8, 19, 7, 20, 87, 88, 89, 90, 91, 92, 93, 94, 95, 96, 97, 98, 99, 100, 101, 102, 103, 104, 105, 106, 107, 108, 109, 110, 111, 112, 113, 114, 115, 116] (by decide +kernel) (by decide +kernel)
set_option maxRecDepth 20000 in
theorem gX12_year_X12_back : GoodIn wsX12_year (wsV RX12 198 RX12 yX12_back wsX12_back) := goodIn_app (goodIn_of _ (by decide +kernel)) ggX12_year_X12_back
theorem dX12_year_0 : decode cX12_year 0 = .ok (.iload_n 1, 1) := by decide +kernel
theorem dX12_year_1 : decode cX12_year 1 = .ok (.i2l, 1) := by decide +kernel
theorem dX12_year_2 : decode cX12_year 2 = .ok (.lconst 0, 1) := by decide +kernel
theorem dX12_year_3 : decode cX12_year 3 = .ok (.ldc2_w 281, 3) := by decide +kernel
theorem dX12_year_6 : decode cX12_year 6 = .ok (.invokestatic 65, 3) := by decide +kernel
theorem dX12_year_9 : decode cX12_year 9 = .ok (.ifCond .eq 27, 3) := by decide +kernel
theorem dX12_year_12 : decode cX12_year 12 = .ok (.iload_n 2, 1) := by decide +kernel
theorem dX12_year_13 : decode cX12_year 13 = .ok (.i2l, 1) := by decide +kernel
theorem dX12_year_14 : decode cX12_year 14 = .ok (.lconst 1, 1) := by decide +kernel
theorem dX12_year_15 : decode cX12_year 15 = .ok (.ldc2_w 240, 3) := by decide +kernel
theorem dX12_year_18 : decode cX12_year 18 = .ok (.invokestatic 65, 3) := by decide +kernel
theorem dX12_year_21 : decode cX12_year 21 = .ok (.ifCond .eq 15, 3) := by decide +kernel
theorem dX12_year_24 : decode cX12_year 24 = .ok (.iload_n 3, 1) := by decide +kernel
theorem dX12_year_25 : decode cX12_year 25 = .ok (.i2l, 1) := by decide +kernel
theorem dX12_year_26 : decode cX12_year 26 = .ok (.lconst 0, 1) := by decide +kernel
theorem dX12_year_27 : decode cX12_year 27 = .ok (.ldc2_w 193, 3) := by decide +kernel
theorem dX12_year_30 : decode cX12_year 30 = .ok (.invokestatic 65, 3) := by decide +kernel
theorem dX12_year_33 : decode cX12_year 33 = .ok (.ifCond .ne 6, 3) := by decide +kernel
theorem dX12_year_36 : decode cX12_year 36 = .ok (.bipush (-2), 2) := by decide +kernel
theorem dX12_year_38 : decode cX12_year 38 = .ok (.ireturn, 1) := by decide +kernel
theorem dX12_year_39 : decode cX12_year 39 = .ok (.aload_n 0, 1) := by decide +kernel
theorem dX12_year_40 : decode cX12_year 40 = .ok (.invokevirtual 184, 3) := by decide +kernel
theorem dX12_year_43 : decode cX12_year 43 = .ok (.iload_n 1, 1) := by decide +kernel
theorem dX12_year_44 : decode cX12_year 44 = .ok (.istore 4, 2) := by decide +kernel
theorem dX12_year_46 : decode cX12_year 46 = .ok (.iconst 0, 1) := by decide +kernel
theorem dX12_year_47 : decode cX12_year 47 = .ok (.istore 5, 2) := by decide +kernel
theorem dX12_year_49 : decode cX12_year 49 = .ok (.iload 5, 2) := by decide +kernel
theorem dX12_year_51 : decode cX12_year 51 = .ok (.iload_n 2, 1) := by decide +kernel
theorem dX12_year_52 : decode cX12_year 52 = .ok (.if_icmp .ge 41, 3) := by decide +kernel
theorem dX12_year_55 : decode cX12_year 55 = .ok (.ldc2_w 283, 3) := by decide +kernel
theorem dX12_year_58 : decode cX12_year 58 = .ok (.iload 4, 2) := by decide +kernel
theorem dX12_year_60 : decode cX12_year 60 = .ok (.i2l, 1) := by decide +kernel
theorem dX12_year_61 : decode cX12_year 61 = .ok (.lmul, 1) := by decide +kernel
theorem dX12_year_62 : decode cX12_year 62 = .ok (.ldc2_w 285, 3) := by decide +kernel
theorem dX12_year_65 : decode cX12_year 65 = .ok (.ladd, 1) := by decide +kernel
theorem dX12_year_66 : decode cX12_year 66 = .ok (.ldc2_w 287, 3) := by decide +kernel
theorem dX12_year_69 : decode cX12_year 69 = .ok (.lrem, 1) := by decide +kernel
theorem dX12_year_70 : decode cX12_year 70 = .ok (.l2i, 1) := by decide +kernel
theorem dX12_year_71 : decode cX12_year 71 = .ok (.istore 4, 2) := by decide +kernel
theorem dX12_year_73 : decode cX12_year 73 = .ok (.aload_n 0, 1) := by decide +kernel
theorem dX12_year_74 : decode cX12_year 74 = .ok (.iload 4, 2) := by decide +kernel
theorem dX12_year_76 : decode cX12_year 76 = .ok (.bipush 8, 2) := by decide +kernel
theorem dX12_year_78 : decode cX12_year 78 = .ok (.irem, 1) := by decide +kernel
theorem dX12_year_79 : decode cX12_year 79 = .ok (.iload 4, 2) := by decide +kernel
theorem dX12_year_81 : decode cX12_year 81 = .ok (.bipush 8, 2) := by decide +kernel
theorem dX12_year_83 : decode cX12_year 83 = .ok (.idiv, 1) := by decide +kernel
theorem dX12_year_84 : decode cX12_year 84 = .ok (.invokevirtual 289, 3) := by decide +kernel
theorem dX12_year_87 : decode cX12_year 87 = .ok (.iinc 5 1, 3) := by decide +kernel
theorem dX12_year_90 : decode cX12_year 90 = .ok (.goto (-41), 3) := by decide +kernel
theorem dX12_year_93 : decode cX12_year 93 = .ok (.aload_n 0, 1) := by decide +kernel
theorem dX12_year_94 : decode cX12_year 94 = .ok (.iload_n 3, 1) := by decide +kernel
theorem dX12_year_95 : decode cX12_year 95 = .ok (.ifCond .ne 10, 3) := by decide +kernel
theorem dX12_year_98 : decode cX12_year 98 = .ok (.aload_n 0, 1) := by decide +kernel
theorem dX12_year_99 : decode cX12_year 99 = .ok (.getfield 91, 3) := by decide +kernel
theorem dX12_year_102 : decode cX12_year 102 = .ok (.goto 21, 3) := by decide +kernel
theorem dX12_year_105 : decode cX12_year 105 = .ok (.iload_n 3, 1) := by decide +kernel
theorem dX12_year_106 : decode cX12_year 106 = .ok (.iconst 1, 1) := by decide +kernel
theorem dX12_year_107 : decode cX12_year 107 = .ok (.if_icmp .ne 10, 3) := by decide +kernel
theorem dX12_year_110 : decode cX12_year 110 = .ok (.aload_n 0, 1) := by decide +kernel
theorem dX12_year_111 : decode cX12_year 111 = .ok (.invokevirtual 292, 3) := by decide +kernel
theorem dX12_year_114 : decode cX12_year 114 = .ok (.goto 9, 3) := by decide +kernel
theorem dX12_year_117 : decode cX12_year 117 = .ok (.aload_n 0, 1) := by decide +kernel
theorem dX12_year_118 : decode cX12_year 118 = .ok (.getfield 16, 3) := by decide +kernel
theorem dX12_year_121 : decode cX12_year 121 = .ok (.iconst 0, 1) := by decide +kernel
theorem dX12_year_122 : decode cX12_year 122 = .ok (.iaload, 1) := by decide +kernel
theorem dX12_year_123 : decode cX12_year 123 = .ok (.invokevirtual 198, 3) := by decide +kernel
theorem dX12_year_126 : decode cX12_year 126 = .ok (.ireturn, 1) := by decide +kernel
theorem dX12_pass_0 : decode cX12_pass 0 = .ok (.aload_n 0, 1) := by decide +kernel
theorem dX12_pass_1 : decode cX12_pass 1 = .ok (.getfield 295, 3) := by decide +kernel
theorem dX12_pass_4 : decode cX12_pass 4 = .ok (.ifCond .eq 7, 3) := by decide +kernel
theorem dX12_pass_7 : decode cX12_pass 7 = .ok (.iload_n 1, 1) := by decide +kernel
theorem dX12_pass_8 : decode cX12_pass 8 = .ok (.goto 12, 3) := by decide +kernel
theorem dX12_pass_11 : decode cX12_pass 11 = .ok (.aload_n 0, 1) := by decide +kernel
theorem dX12_pass_12 : decode cX12_pass 12 = .ok (.getfield 57, 3) := by decide +kernel
theorem dX12_pass_15 : decode cX12_pass 15 = .ok (.aload_n 0, 1) := by decide +kernel
theorem dX12_pass_16 : decode cX12_pass 16 = .ok (.getfield 299, 3) := by decide +kernel
theorem dX12_pass_19 : decode cX12_pass 19 = .ok (.iaload, 1) := by decide +kernel
theorem dX12_pass_20 : decode cX12_pass 20 = .ok (.istore_n 2, 1) := by decide +kernel
theorem dX12_pass_21 : decode cX12_pass 21 = .ok (.aload_n 0, 1) := by decide +kernel
theorem dX12_pass_22 : decode cX12_pass 22 = .ok (.getfield 57, 3) := by decide +kernel
theorem dX12_pass_25 : decode cX12_pass 25 = .ok (.aload_n 0, 1) := by decide +kernel
theorem dX12_pass_26 : decode cX12_pass 26 = .ok (.getfield 299, 3) := by decide +kernel
theorem dX12_pass_29 : decode cX12_pass 29 = .ok (.iload_n 2, 1) := by decide +kernel
theorem dX12_pass_30 : decode cX12_pass 30 = .ok (.iastore, 1) := by decide +kernel
theorem dX12_pass_31 : decode cX12_pass 31 = .ok (.aload_n 0, 1) := by decide +kernel
theorem dX12_pass_32 : decode cX12_pass 32 = .ok (.dup, 1) := by decide +kernel
theorem dX12_pass_33 : decode cX12_pass 33 = .ok (.getfield 299, 3) := by decide +kernel
theorem dX12_pass_36 : decode cX12_pass 36 = .ok (.iconst 1, 1) := by decide +kernel
theorem dX12_pass_37 : decode cX12_pass 37 = .ok (.iadd, 1) := by decide +kernel
theorem dX12_pass_38 : decode cX12_pass 38 = .ok (.putfield 299, 3) := by decide +kernel
theorem dX12_pass_41 : decode cX12_pass 41 = .ok (.iload_n 2, 1) := by decide +kernel
theorem dX12_pass_42 : decode cX12_pass 42 = .ok (.ireturn, 1) := by decide +kernel
set_option maxRecDepth 20000 in
theorem ggX12_passRow_X12_pass : GoodIn wsX12_passRow wsX12_pass := goodIn_r _ [5, 6, 7, 8, 9, 10, 11, 12, 13, 14, 15, 16, 17, 18, 19, 20, 21, 22, 23, 24, 25, 26, 27, 28, 29, 30, 31, 32, 33, 34, 35, 36, 37, 38] (by decide +kernel) (by decide +kernel)
set_option maxRecDepth 20000 in
theorem gX12_passRow_X12_pass : GoodIn wsX12_passRow (wsV RX12 302 RX12 yX12_pass wsX12_pass) := goodIn_app (goodIn_of _ (by decide +kernel)) ggX12_passRow_X12_pass
theorem dX12_passRow_0 : decode cX12_passRow 0 = .ok (.iconst 0, 1) := by decide +kernel
theorem dX12_passRow_1 : decode cX12_passRow 1 = .ok (.istore_n 3, 1) := by decide +kernel
theorem dX12_passRow_2 : decode cX12_passRow 2 = .ok (.iload_n 3, 1) := by decide +kernel
theorem dX12_passRow_3 : decode cX12_passRow 3 = .ok (.iload_n 2, 1) := by decide +kernel
theorem dX12_passRow_4 : decode cX12_passRow 4 = .ok (.if_icmp .ge 19, 3) := by decide +kernel
theorem dX12_passRow_7 : decode cX12_passRow 7 = .ok (.aload_n 1, 1) := by decide +kernel
theorem dX12_passRow_8 : decode cX12_passRow 8 = .ok (.iload_n 3, 1) := by decide +kernel
theorem dX12_passRow_9 : decode cX12_passRow 9 = .ok (.aload_n 0, 1) := by decide +kernel
theorem dX12_passRow_10 : decode cX12_passRow 10 = .ok (.aload_n 1, 1) := by decide +kernel
theorem dX12_passRow_11 : decode cX12_passRow 11 = .ok (.iload_n 3, 1) := by decide +kernel
theorem dX12_passRow_12 : decode cX12_passRow 12 = .ok (.iaload, 1) := by decide +kernel
theorem dX12_passRow_13 : decode cX12_passRow 13 = .ok (.invokevirtual 302, 3) := by decide +kernel
theorem dX12_passRow_16 : decode cX12_passRow 16 = .ok (.iastore, 1) := by decide +kernel
theorem dX12_passRow_17 : decode cX12_passRow 17 = .ok (.iinc 3 1, 3) := by decide +kernel
theorem dX12_passRow_20 : decode cX12_passRow 20 = .ok (.goto (-18), 3) := by decide +kernel
theorem dX12_passRow_23 : decode cX12_passRow 23 = .ok (.return_, 1) := by decide +kernel
set_option maxRecDepth 20000 in
theorem ggX12_passAll_X12_pass : GoodIn wsX12_passAll wsX12_pass := goodIn_r _ [13, 14, 15, 16, 21, 22, 23, 24, 25, 26, 27, 28, 29, 30, 31, 32, 33, 34, 35, 36, 37, 38, 39, 40, 41, 42, 43, 44, 45, 46, 47, 48, 49, 50] (by decide +kernel) (by decide +kernel)
set_option maxRecDepth 20000 in
theorem gX12_passAll_X12_pass : GoodIn wsX12_passAll (wsV RX12 302 RX12 yX12_pass wsX12_pass) := goodIn_app (goodIn_of _ (by decide +kernel)) ggX12_passAll_X12_pass
set_option maxRecDepth 20000 in
theorem ggX12_passAll_X12_passRow : GoodIn wsX12_passAll wsX12_passRow := goodIn_r _ [20, 9, 10, 11, 12, 13, 14, 15, 16, 21, 22, 23, 24, 25, 26, 27, 28, 29, 30, 31, 32, 33, 34, 35, 36, 37, 38, 39, 40, 41, 42, 43, 44, 45, 46, 47, 48, 49, 50] (by decide +kernel) (by decide +kernel)
set_option maxRecDepth 20000 in
theorem gX12_passAll_X12_passRow : GoodIn wsX12_passAll (wsV RX12 305 RX12 yX12_passRow wsX12_passRow) := goodIn_app (goodIn_of _ (by decide +kernel)) ggX12_passAll_X12_passRow
theorem dX12_passAll_0 : decode cX12_passAll 0 = .ok (.aload_n 0, 1) := by decide +kernel
theorem dX12_passAll_1 : decode cX12_passAll 1 = .ok (.aload_n 0, 1) := by decide +kernel
theorem dX12_passAll_2 : decode cX12_passAll 2 = .ok (.aload_n 0, 1) := by decide +kernel
theorem dX12_passAll_3 : decode cX12_passAll 3 = .ok (.getfield 91, 3) := by decide +kernel
theorem dX12_passAll_6 : decode cX12_passAll 6 = .ok (.invokevirtual 302, 3) := by decide +kernel
theorem dX12_passAll_9 : decode cX12_passAll 9 = .ok (.putfield 91, 3) := by decide +kernel
theorem dX12_passAll_12 : decode cX12_passAll 12 = .ok (.aload_n 0, 1) := by decide +kernel
theorem dX12_passAll_13 : decode cX12_passAll 13 = .ok (.aload_n 0, 1) := by decide +kernel
theorem dX12_passAll_14 : decode cX12_passAll 14 = .ok (.aload_n 0, 1) := by decide +kernel
theorem dX12_passAll_15 : decode cX12_passAll 15 = .ok (.getfield 123, 3) := by decide +kernel
theorem dX12_passAll_18 : decode cX12_passAll 18 = .ok (.invokevirtual 302, 3) := by decide +kernel
theorem dX12_passAll_21 : decode cX12_passAll 21 = .ok (.putfield 123, 3) := by decide +kernel
theorem dX12_passAll_24 : decode cX12_passAll 24 = .ok (.aload_n 0, 1) := by decide +kernel
theorem dX12_passAll_25 : decode cX12_passAll 25 = .ok (.aload_n 0, 1) := by decide +kernel
theorem dX12_passAll_26 : decode cX12_passAll 26 = .ok (.aload_n 0, 1) := by decide +kernel
theorem dX12_passAll_27 : decode cX12_passAll 27 = .ok (.getfield 269, 3) := by decide +kernel
theorem dX12_passAll_30 : decode cX12_passAll 30 = .ok (.invokevirtual 302, 3) := by decide +kernel
theorem dX12_passAll_33 : decode cX12_passAll 33 = .ok (.putfield 269, 3) := by decide +kernel
theorem dX12_passAll_36 : decode cX12_passAll 36 = .ok (.aload_n 0, 1) := by decide +kernel
theorem dX12_passAll_37 : decode cX12_passAll 37 = .ok (.aload_n 0, 1) := by decide +kernel
theorem dX12_passAll_38 : decode cX12_passAll 38 = .ok (.getfield 13, 3) := by decide +kernel
theorem dX12_passAll_41 : decode cX12_passAll 41 = .ok (.bipush 6, 2) := by decide +kernel
theorem dX12_passAll_43 : decode cX12_passAll 43 = .ok (.invokevirtual 305, 3) := by decide +kernel
theorem dX12_passAll_46 : decode cX12_passAll 46 = .ok (.aload_n 0, 1) := by decide +kernel
theorem dX12_passAll_47 : decode cX12_passAll 47 = .ok (.aload_n 0, 1) := by decide +kernel
theorem dX12_passAll_48 : decode cX12_passAll 48 = .ok (.getfield 16, 3) := by decide +kernel
theorem dX12_passAll_51 : decode cX12_passAll 51 = .ok (.bipush 6, 2) := by decide +kernel
theorem dX12_passAll_53 : decode cX12_passAll 53 = .ok (.invokevirtual 305, 3) := by decide +kernel
theorem dX12_passAll_56 : decode cX12_passAll 56 = .ok (.aload_n 0, 1) := by decide +kernel
theorem dX12_passAll_57 : decode cX12_passAll 57 = .ok (.aload_n 0, 1) := by decide +kernel
theorem dX12_passAll_58 : decode cX12_passAll 58 = .ok (.getfield 19, 3) := by decide +kernel
theorem dX12_passAll_61 : decode cX12_passAll 61 = .ok (.bipush 6, 2) := by decide +kernel
theorem dX12_passAll_63 : decode cX12_passAll 63 = .ok (.invokevirtual 305, 3) := by decide +kernel
theorem dX12_passAll_66 : decode cX12_passAll 66 = .ok (.aload_n 0, 1) := by decide +kernel
theorem dX12_passAll_67 : decode cX12_passAll 67 = .ok (.aload_n 0, 1) := by decide +kernel
theorem dX12_passAll_68 : decode cX12_passAll 68 = .ok (.getfield 22, 3) := by decide +kernel
theorem dX12_passAll_71 : decode cX12_passAll 71 = .ok (.bipush 8, 2) := by decide +kernel
theorem dX12_passAll_73 : decode cX12_passAll 73 = .ok (.invokevirtual 305, 3) := by decide +kernel
theorem dX12_passAll_76 : decode cX12_passAll 76 = .ok (.aload_n 0, 1) := by decide +kernel
theorem dX12_passAll_77 : decode cX12_passAll 77 = .ok (.aload_n 0, 1) := by decide +kernel
theorem dX12_passAll_78 : decode cX12_passAll 78 = .ok (.getfield 25, 3) := by decide +kernel
theorem dX12_passAll_81 : decode cX12_passAll 81 = .ok (.bipush 8, 2) := by decide +kernel
theorem dX12_passAll_83 : decode cX12_passAll 83 = .ok (.invokevirtual 305, 3) := by decide +kernel
theorem dX12_passAll_86 : decode cX12_passAll 86 = .ok (.return_, 1) := by decide +kernel
set_option maxRecDepth 20000 in
theorem ggX12_image_X12_in : GoodIn wsX12_image wsX12_in := goodIn_r _ [7] (by decide +kernel) (by decide +kernel)
set_option maxRecDepth 20000 in
theorem gX12_image_X12_in : GoodIn wsX12_image (va_wsS RX12 65 yX12_in wsX12_in) := goodIn_app (goodIn_of _ (by decide +kernel)) ggX12_image_X12_in
set_option maxRecDepth 20000 in
theorem ggX12_image_X12_passAll : GoodIn wsX12_image wsX12_passAll := goodIn_r _ [11, 12, 13, 14, 15, 16, 17, 18, 19, 20, 21, 22, 6, 23, 2, 24, 1, 25, 26, 27, 28, 29, 30, 31, 32, 33, 34, 35, 36, 37, 38, 39, 40, 41, 42, 43, 44, 45, 46, 47, 48, 49, 50, 51, 52, 53, 54, 55, 56, 57, 58] (by decide +kernel) (by decide +kernel)
set_option maxRecDepth 20000 in
theorem gX12_image_X12_passAll : GoodIn wsX12_image (wsV RX12 309 RX12 yX12_passAll wsX12_passAll) := goodIn_app (goodIn_of _ (by decide +kernel)) ggX12_image_X12_passAll
theorem dX12_image_0 : decode cX12_image 0 = .ok (.iload_n 1, 1) := by decide +kernel
theorem dX12_image_1 : decode cX12_image 1 = .ok (.i2l, 1) := by decide +kernel
theorem dX12_image_2 : decode cX12_image 2 = .ok (.lconst 0, 1) := by decide +kernel
theorem dX12_image_3 : decode cX12_image 3 = .ok (.lconst 1, 1) := by decide +kernel
theorem dX12_image_4 : decode cX12_image 4 = .ok (.invokestatic 65, 3) := by decide +kernel
theorem dX12_image_7 : decode cX12_image 7 = .ok (.ifCond .ne 6, 3) := by decide +kernel
theorem dX12_image_10 : decode cX12_image 10 = .ok (.bipush (-2), 2) := by decide +kernel
theorem dX12_image_12 : decode cX12_image 12 = .ok (.ireturn, 1) := by decide +kernel
theorem dX12_image_13 : decode cX12_image 13 = .ok (.aload_n 0, 1) := by decide +kernel
theorem dX12_image_14 : decode cX12_image 14 = .ok (.bipush 80, 2) := by decide +kernel
theorem dX12_image_16 : decode cX12_image 16 = .ok (.iload_n 1, 1) := by decide +kernel
theorem dX12_image_17 : decode cX12_image 17 = .ok (.imul, 1) := by decide +kernel
theorem dX12_image_18 : decode cX12_image 18 = .ok (.putfield 299, 3) := by decide +kernel
theorem dX12_image_21 : decode cX12_image 21 = .ok (.aload_n 0, 1) := by decide +kernel
theorem dX12_image_22 : decode cX12_image 22 = .ok (.iconst 1, 1) := by decide +kernel
theorem dX12_image_23 : decode cX12_image 23 = .ok (.putfield 295, 3) := by decide +kernel
theorem dX12_image_26 : decode cX12_image 26 = .ok (.aload_n 0, 1) := by decide +kernel
theorem dX12_image_27 : decode cX12_image 27 = .ok (.invokevirtual 309, 3) := by decide +kernel
theorem dX12_image_30 : decode cX12_image 30 = .ok (.aload_n 0, 1) := by decide +kernel
theorem dX12_image_31 : decode cX12_image 31 = .ok (.getfield 60, 3) := by decide +kernel
theorem dX12_image_34 : decode cX12_image 34 = .ok (.iload_n 1, 1) := by decide +kernel
theorem dX12_image_35 : decode cX12_image 35 = .ok (.iconst 1, 1) := by decide +kernel
theorem dX12_image_36 : decode cX12_image 36 = .ok (.bastore, 1) := by decide +kernel
theorem dX12_image_37 : decode cX12_image 37 = .ok (.iconst 1, 1) := by decide +kernel
theorem dX12_image_38 : decode cX12_image 38 = .ok (.ireturn, 1) := by decide +kernel
set_option maxRecDepth 20000 in
theorem ggX12_restore_X12_in : GoodIn wsX12_restore wsX12_in := goodIn_r _ [7] (by decide +kernel) (by decide +kernel)
set_option maxRecDepth 20000 in
theorem gX12_restore_X12_in : GoodIn wsX12_restore (va_wsS RX12 65 yX12_in wsX12_in) := goodIn_app (goodIn_of _ (by decide +kernel)) ggX12_restore_X12_in
set_option maxRecDepth 20000 in
theorem ggX12_restore_X12_passAll : GoodIn wsX12_restore wsX12_passAll := goodIn_r _ [11, 12, 13, 14, 15, 16, 17, 18, 19, 20, 21, 22, 6, 23, 3, 24, 2, 25, 26, 27, 28, 29, 30, 31, 32, 33, 34, 35, 36, 37, 38, 39, 40, 41, 42, 43, 44, 45, 46, 47, 48, 49, 50, 51, 52, 53, 54, 55, 56, 57, 58] (by decide +kernel) (by decide +kernel)
set_option maxRecDepth 20000 in
theorem gX12_restore_X12_passAll : GoodIn wsX12_restore (wsV RX12 309 RX12 yX12_passAll wsX12_passAll) := goodIn_app (goodIn_of _ (by decide +kernel)) ggX12_restore_X12_passAll
theorem dX12_restore_0 : decode cX12_restore 0 = .ok (.iload_n 1, 1) := by decide +kernel
theorem dX12_restore_1 : decode cX12_restore 1 = .ok (.i2l, 1) := by decide +kernel
theorem dX12_restore_2 : decode cX12_restore 2 = .ok (.lconst 0, 1) := by decide +kernel
theorem dX12_restore_3 : decode cX12_restore 3 = .ok (.lconst 1, 1) := by decide +kernel
theorem dX12_restore_4 : decode cX12_restore 4 = .ok (.invokestatic 65, 3) := by decide +kernel
theorem dX12_restore_7 : decode cX12_restore 7 = .ok (.ifCond .ne 6, 3) := by decide +kernel
theorem dX12_restore_10 : decode cX12_restore 10 = .ok (.bipush (-2), 2) := by decide +kernel
theorem dX12_restore_12 : decode cX12_restore 12 = .ok (.ireturn, 1) := by decide +kernel
theorem dX12_restore_13 : decode cX12_restore 13 = .ok (.aload_n 0, 1) := by decide +kernel
theorem dX12_restore_14 : decode cX12_restore 14 = .ok (.getfield 60, 3) := by decide +kernel
theorem dX12_restore_17 : decode cX12_restore 17 = .ok (.iload_n 1, 1) := by decide +kernel
theorem dX12_restore_18 : decode cX12_restore 18 = .ok (.baload, 1) := by decide +kernel
theorem dX12_restore_19 : decode cX12_restore 19 = .ok (.ifCond .ne 6, 3) := by decide +kernel
theorem dX12_restore_22 : decode cX12_restore 22 = .ok (.bipush (-3), 2) := by decide +kernel
theorem dX12_restore_24 : decode cX12_restore 24 = .ok (.ireturn, 1) := by decide +kernel
theorem dX12_restore_25 : decode cX12_restore 25 = .ok (.aload_n 0, 1) := by decide +kernel
theorem dX12_restore_26 : decode cX12_restore 26 = .ok (.bipush 80, 2) := by decide +kernel
theorem dX12_restore_28 : decode cX12_restore 28 = .ok (.iload_n 1, 1) := by decide +kernel
theorem dX12_restore_29 : decode cX12_restore 29 = .ok (.imul, 1) := by decide +kernel
theorem dX12_restore_30 : decode cX12_restore 30 = .ok (.putfield 299, 3) := by decide +kernel
theorem dX12_restore_33 : decode cX12_restore 33 = .ok (.aload_n 0, 1) := by decide +kernel
theorem dX12_restore_34 : decode cX12_restore 34 = .ok (.iconst 0, 1) := by decide +kernel
theorem dX12_restore_35 : decode cX12_restore 35 = .ok (.putfield 295, 3) := by decide +kernel
theorem dX12_restore_38 : decode cX12_restore 38 = .ok (.aload_n 0, 1) := by decide +kernel
theorem dX12_restore_39 : decode cX12_restore 39 = .ok (.invokevirtual 309, 3) := by decide +kernel
theorem dX12_restore_42 : decode cX12_restore 42 = .ok (.iconst 1, 1) := by decide +kernel
theorem dX12_restore_43 : decode cX12_restore 43 = .ok (.ireturn, 1) := by decide +kernel
set_option maxRecDepth 20000 in
theorem ggX12_toldOfPlayer_X12_isPlayer : GoodIn wsX12_toldOfPlayer wsX12_isPlayer := goodIn_r _ [7, 8, 9, 10, 6, 11] (by decide +kernel) (by decide +kernel)
set_option maxRecDepth 20000 in
theorem gX12_toldOfPlayer_X12_isPlayer : GoodIn wsX12_toldOfPlayer (va_wsS RX12 82 yX12_isPlayer wsX12_isPlayer) := goodIn_app (goodIn_of _ (by decide +kernel)) ggX12_toldOfPlayer_X12_isPlayer
theorem dX12_toldOfPlayer_0 : decode cX12_toldOfPlayer 0 = .ok (.iload_n 1, 1) := by decide +kernel
theorem dX12_toldOfPlayer_1 : decode cX12_toldOfPlayer 1 = .ok (.bipush 10, 2) := by decide +kernel
theorem dX12_toldOfPlayer_3 : decode cX12_toldOfPlayer 3 = .ok (.irem, 1) := by decide +kernel
theorem dX12_toldOfPlayer_4 : decode cX12_toldOfPlayer 4 = .ok (.istore_n 2, 1) := by decide +kernel
theorem dX12_toldOfPlayer_5 : decode cX12_toldOfPlayer 5 = .ok (.iload_n 2, 1) := by decide +kernel
theorem dX12_toldOfPlayer_6 : decode cX12_toldOfPlayer 6 = .ok (.invokestatic 82, 3) := by decide +kernel
theorem dX12_toldOfPlayer_9 : decode cX12_toldOfPlayer 9 = .ok (.ifCond .ne 6, 3) := by decide +kernel
theorem dX12_toldOfPlayer_12 : decode cX12_toldOfPlayer 12 = .ok (.bipush (-2), 2) := by decide +kernel
theorem dX12_toldOfPlayer_14 : decode cX12_toldOfPlayer 14 = .ok (.ireturn, 1) := by decide +kernel
theorem dX12_toldOfPlayer_15 : decode cX12_toldOfPlayer 15 = .ok (.iload_n 1, 1) := by decide +kernel
theorem dX12_toldOfPlayer_16 : decode cX12_toldOfPlayer 16 = .ok (.bipush 20, 2) := by decide +kernel
theorem dX12_toldOfPlayer_18 : decode cX12_toldOfPlayer 18 = .ok (.if_icmp .ge 12, 3) := by decide +kernel
theorem dX12_toldOfPlayer_21 : decode cX12_toldOfPlayer 21 = .ok (.aload_n 0, 1) := by decide +kernel
theorem dX12_toldOfPlayer_22 : decode cX12_toldOfPlayer 22 = .ok (.getfield 13, 3) := by decide +kernel
theorem dX12_toldOfPlayer_25 : decode cX12_toldOfPlayer 25 = .ok (.iload_n 2, 1) := by decide +kernel
theorem dX12_toldOfPlayer_26 : decode cX12_toldOfPlayer 26 = .ok (.iaload, 1) := by decide +kernel
theorem dX12_toldOfPlayer_27 : decode cX12_toldOfPlayer 27 = .ok (.goto 24, 3) := by decide +kernel
theorem dX12_toldOfPlayer_30 : decode cX12_toldOfPlayer 30 = .ok (.iload_n 1, 1) := by decide +kernel
theorem dX12_toldOfPlayer_31 : decode cX12_toldOfPlayer 31 = .ok (.bipush 30, 2) := by decide +kernel
theorem dX12_toldOfPlayer_33 : decode cX12_toldOfPlayer 33 = .ok (.if_icmp .ge 12, 3) := by decide +kernel
theorem dX12_toldOfPlayer_36 : decode cX12_toldOfPlayer 36 = .ok (.aload_n 0, 1) := by decide +kernel
theorem dX12_toldOfPlayer_37 : decode cX12_toldOfPlayer 37 = .ok (.getfield 16, 3) := by decide +kernel
theorem dX12_toldOfPlayer_40 : decode cX12_toldOfPlayer 40 = .ok (.iload_n 2, 1) := by decide +kernel
theorem dX12_toldOfPlayer_41 : decode cX12_toldOfPlayer 41 = .ok (.iaload, 1) := by decide +kernel
theorem dX12_toldOfPlayer_42 : decode cX12_toldOfPlayer 42 = .ok (.goto 9, 3) := by decide +kernel
theorem dX12_toldOfPlayer_45 : decode cX12_toldOfPlayer 45 = .ok (.aload_n 0, 1) := by decide +kernel
theorem dX12_toldOfPlayer_46 : decode cX12_toldOfPlayer 46 = .ok (.getfield 19, 3) := by decide +kernel
theorem dX12_toldOfPlayer_49 : decode cX12_toldOfPlayer 49 = .ok (.iload_n 2, 1) := by decide +kernel
theorem dX12_toldOfPlayer_50 : decode cX12_toldOfPlayer 50 = .ok (.iaload, 1) := by decide +kernel
theorem dX12_toldOfPlayer_51 : decode cX12_toldOfPlayer 51 = .ok (.ireturn, 1) := by decide +kernel
set_option maxRecDepth 20000 in
theorem ggX12_told_X12_in : GoodIn wsX12_told wsX12_in := goodIn_r _ [10] (by decide +kernel) (by decide +kernel)
set_option maxRecDepth 20000 in
theorem gX12_told_X12_in : GoodIn wsX12_told (va_wsS RX12 65 yX12_in wsX12_in) := goodIn_app (goodIn_of _ (by decide +kernel)) ggX12_told_X12_in
set_option maxRecDepth 20000 in
theorem ggX12_told_X12_toldOfPlayer : GoodIn wsX12_told wsX12_toldOfPlayer := goodIn_r _ [14, 15, 16, 17, 18, 19, 9, 20, 21, 7, 8, 10, 22, 23, 24, 25, 26, 27, 28, 29, 30, 31, 32, 33, 34, 35, 36, 37, 38, 39, 40, 41, 42, 43, 44, 45, 46, 47, 48, 49, 50, 51] (by decide +kernel) (by decide +kernel)
set_option maxRecDepth 20000 in
theorem gX12_told_X12_toldOfPlayer : GoodIn wsX12_told (wsV RX12 316 RX12 yX12_toldOfPlayer wsX12_toldOfPlayer) := goodIn_app (goodIn_of _ (by decide +kernel)) ggX12_told_X12_toldOfPlayer
theorem dX12_told_0 : decode cX12_told 0 = .ok (.iload_n 1, 1) := by decide +kernel
theorem dX12_told_1 : decode cX12_told 1 = .ok (.i2l, 1) := by decide +kernel
theorem dX12_told_2 : decode cX12_told 2 = .ok (.ldc2_w 312, 3) := by decide +kernel
theorem dX12_told_5 : decode cX12_told 5 = .ok (.ldc2_w 314, 3) := by decide +kernel
theorem dX12_told_8 : decode cX12_told 8 = .ok (.invokestatic 65, 3) := by decide +kernel
theorem dX12_told_11 : decode cX12_told 11 = .ok (.ifCond .eq 9, 3) := by decide +kernel
theorem dX12_told_14 : decode cX12_told 14 = .ok (.aload_n 0, 1) := by decide +kernel
theorem dX12_told_15 : decode cX12_told 15 = .ok (.iload_n 1, 1) := by decide +kernel
theorem dX12_told_16 : decode cX12_told 16 = .ok (.invokevirtual 316, 3) := by decide +kernel
theorem dX12_told_19 : decode cX12_told 19 = .ok (.ireturn, 1) := by decide +kernel
theorem dX12_told_20 : decode cX12_told 20 = .ok (.iload_n 1, 1) := by decide +kernel
theorem dX12_told_21 : decode cX12_told 21 = .ok (.tableswitch 51 0 3 #[31, 36, 41, 46], 31) := by decide +kernel
theorem dX12_told_52 : decode cX12_told 52 = .ok (.aload_n 0, 1) := by decide +kernel
theorem dX12_told_53 : decode cX12_told 53 = .ok (.getfield 99, 3) := by decide +kernel
theorem dX12_told_56 : decode cX12_told 56 = .ok (.ireturn, 1) := by decide +kernel
theorem dX12_told_57 : decode cX12_told 57 = .ok (.aload_n 0, 1) := by decide +kernel
theorem dX12_told_58 : decode cX12_told 58 = .ok (.getfield 91, 3) := by decide +kernel
theorem dX12_told_61 : decode cX12_told 61 = .ok (.ireturn, 1) := by decide +kernel
theorem dX12_told_62 : decode cX12_told 62 = .ok (.aload_n 0, 1) := by decide +kernel
theorem dX12_told_63 : decode cX12_told 63 = .ok (.getfield 123, 3) := by decide +kernel
theorem dX12_told_66 : decode cX12_told 66 = .ok (.ireturn, 1) := by decide +kernel
theorem dX12_told_67 : decode cX12_told 67 = .ok (.aload_n 0, 1) := by decide +kernel
theorem dX12_told_68 : decode cX12_told 68 = .ok (.getfield 269, 3) := by decide +kernel
theorem dX12_told_71 : decode cX12_told 71 = .ok (.ireturn, 1) := by decide +kernel
theorem dX12_told_72 : decode cX12_told 72 = .ok (.bipush (-2), 2) := by decide +kernel
theorem dX12_told_74 : decode cX12_told 74 = .ok (.ireturn, 1) := by decide +kernel
theorem dJ9_max_7cf53_0 : decode cJ9_max_7cf53 0 = .ok (.iload_n 0, 1) := by decide +kernel
theorem dJ9_max_7cf53_1 : decode cJ9_max_7cf53 1 = .ok (.iload_n 1, 1) := by decide +kernel
theorem dJ9_max_7cf53_2 : decode cJ9_max_7cf53 2 = .ok (.if_icmp .lt 7, 3) := by decide +kernel
theorem dJ9_max_7cf53_5 : decode cJ9_max_7cf53 5 = .ok (.iload_n 0, 1) := by decide +kernel
theorem dJ9_max_7cf53_6 : decode cJ9_max_7cf53 6 = .ok (.goto 4, 3) := by decide +kernel
theorem dJ9_max_7cf53_9 : decode cJ9_max_7cf53 9 = .ok (.iload_n 1, 1) := by decide +kernel
theorem dJ9_max_7cf53_10 : decode cJ9_max_7cf53 10 = .ok (.ireturn, 1) := by decide +kernel
theorem dJ9_min_7cf53_0 : decode cJ9_min_7cf53 0 = .ok (.iload_n 0, 1) := by decide +kernel
theorem dJ9_min_7cf53_1 : decode cJ9_min_7cf53 1 = .ok (.iload_n 1, 1) := by decide +kernel
theorem dJ9_min_7cf53_2 : decode cJ9_min_7cf53 2 = .ok (.if_icmp .gt 7, 3) := by decide +kernel
theorem dJ9_min_7cf53_5 : decode cJ9_min_7cf53 5 = .ok (.iload_n 0, 1) := by decide +kernel
theorem dJ9_min_7cf53_6 : decode cJ9_min_7cf53 6 = .ok (.goto 4, 3) := by decide +kernel
theorem dJ9_min_7cf53_9 : decode cJ9_min_7cf53 9 = .ok (.iload_n 1, 1) := by decide +kernel
theorem dJ9_min_7cf53_10 : decode cJ9_min_7cf53 10 = .ok (.ireturn, 1) := by decide +kernel
