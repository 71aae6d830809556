theorem dX8_init_0 : decode cX8_init 0 = .ok (.aload_n 0, 1) := by decide +kernel
theorem dX8_init_1 : decode cX8_init 1 = .ok (.invokespecial 1, 3) := by decide +kernel
theorem dX8_init_4 : decode cX8_init 4 = .ok (.aload_n 0, 1) := by decide +kernel
theorem dX8_init_5 : decode cX8_init 5 = .ok (.bipush 108, 2) := by decide +kernel
theorem dX8_init_7 : decode cX8_init 7 = .ok (.newarray .int, 2) := by decide +kernel
theorem dX8_init_9 : decode cX8_init 9 = .ok (.putfield 7, 3) := by decide +kernel
theorem dX8_init_12 : decode cX8_init 12 = .ok (.aload_n 0, 1) := by decide +kernel
theorem dX8_init_13 : decode cX8_init 13 = .ok (.sipush 540, 3) := by decide +kernel
theorem dX8_init_16 : decode cX8_init 16 = .ok (.newarray .int, 2) := by decide +kernel
theorem dX8_init_18 : decode cX8_init 18 = .ok (.putfield 13, 3) := by decide +kernel
theorem dX8_init_21 : decode cX8_init 21 = .ok (.aload_n 0, 1) := by decide +kernel
theorem dX8_init_22 : decode cX8_init 22 = .ok (.iconst 3, 1) := by decide +kernel
theorem dX8_init_23 : decode cX8_init 23 = .ok (.newarray .int, 2) := by decide +kernel
theorem dX8_init_25 : decode cX8_init 25 = .ok (.putfield 16, 3) := by decide +kernel
theorem dX8_init_28 : decode cX8_init 28 = .ok (.aload_n 0, 1) := by decide +kernel
theorem dX8_init_29 : decode cX8_init 29 = .ok (.iconst (-1), 1) := by decide +kernel
theorem dX8_init_30 : decode cX8_init 30 = .ok (.putfield 19, 3) := by decide +kernel
theorem dX8_init_33 : decode cX8_init 33 = .ok (.aload_n 0, 1) := by decide +kernel
theorem dX8_init_34 : decode cX8_init 34 = .ok (.sipush 144, 3) := by decide +kernel
theorem dX8_init_37 : decode cX8_init 37 = .ok (.newarray .int, 2) := by decide +kernel
theorem dX8_init_39 : decode cX8_init 39 = .ok (.putfield 23, 3) := by decide +kernel
theorem dX8_init_42 : decode cX8_init 42 = .ok (.aload_n 0, 1) := by decide +kernel
theorem dX8_init_43 : decode cX8_init 43 = .ok (.sipush 144, 3) := by decide +kernel
theorem dX8_init_46 : decode cX8_init 46 = .ok (.newarray .int, 2) := by decide +kernel
theorem dX8_init_48 : decode cX8_init 48 = .ok (.putfield 26, 3) := by decide +kernel
theorem dX8_init_51 : decode cX8_init 51 = .ok (.aload_n 0, 1) := by decide +kernel
theorem dX8_init_52 : decode cX8_init 52 = .ok (.iconst 3, 1) := by decide +kernel
theorem dX8_init_53 : decode cX8_init 53 = .ok (.newarray .int, 2) := by decide +kernel
theorem dX8_init_55 : decode cX8_init 55 = .ok (.putfield 29, 3) := by decide +kernel
theorem dX8_init_58 : decode cX8_init 58 = .ok (.aload_n 0, 1) := by decide +kernel
theorem dX8_init_59 : decode cX8_init 59 = .ok (.iconst 3, 1) := by decide +kernel
theorem dX8_init_60 : decode cX8_init 60 = .ok (.newarray .int, 2) := by decide +kernel
theorem dX8_init_62 : decode cX8_init 62 = .ok (.putfield 32, 3) := by decide +kernel
theorem dX8_init_65 : decode cX8_init 65 = .ok (.aload_n 0, 1) := by decide +kernel
theorem dX8_init_66 : decode cX8_init 66 = .ok (.bipush 25, 2) := by decide +kernel
theorem dX8_init_68 : decode cX8_init 68 = .ok (.newarray .int, 2) := by decide +kernel
theorem dX8_init_70 : decode cX8_init 70 = .ok (.putfield 35, 3) := by decide +kernel
theorem dX8_init_73 : decode cX8_init 73 = .ok (.aload_n 0, 1) := by decide +kernel
theorem dX8_init_74 : decode cX8_init 74 = .ok (.bipush 25, 2) := by decide +kernel
theorem dX8_init_76 : decode cX8_init 76 = .ok (.newarray .int, 2) := by decide +kernel
theorem dX8_init_78 : decode cX8_init 78 = .ok (.putfield 38, 3) := by decide +kernel
theorem dX8_init_81 : decode cX8_init 81 = .ok (.aload_n 0, 1) := by decide +kernel
theorem dX8_init_82 : decode cX8_init 82 = .ok (.bipush 25, 2) := by decide +kernel
theorem dX8_init_84 : decode cX8_init 84 = .ok (.newarray .int, 2) := by decide +kernel
theorem dX8_init_86 : decode cX8_init 86 = .ok (.putfield 41, 3) := by decide +kernel
theorem dX8_init_89 : decode cX8_init 89 = .ok (.aload_n 0, 1) := by decide +kernel
theorem dX8_init_90 : decode cX8_init 90 = .ok (.bipush 25, 2) := by decide +kernel
theorem dX8_init_92 : decode cX8_init 92 = .ok (.newarray .int, 2) := by decide +kernel
theorem dX8_init_94 : decode cX8_init 94 = .ok (.putfield 44, 3) := by decide +kernel
theorem dX8_init_97 : decode cX8_init 97 = .ok (.aload_n 0, 1) := by decide +kernel
theorem dX8_init_98 : decode cX8_init 98 = .ok (.bipush 25, 2) := by decide +kernel
theorem dX8_init_100 : decode cX8_init 100 = .ok (.newarray .int, 2) := by decide +kernel
theorem dX8_init_102 : decode cX8_init 102 = .ok (.putfield 47, 3) := by decide +kernel
theorem dX8_init_105 : decode cX8_init 105 = .ok (.aload_n 0, 1) := by decide +kernel
theorem dX8_init_106 : decode cX8_init 106 = .ok (.sipush 150, 3) := by decide +kernel
theorem dX8_init_109 : decode cX8_init 109 = .ok (.newarray .int, 2) := by decide +kernel
theorem dX8_init_111 : decode cX8_init 111 = .ok (.putfield 50, 3) := by decide +kernel
theorem dX8_init_114 : decode cX8_init 114 = .ok (.aload_n 0, 1) := by decide +kernel
theorem dX8_init_115 : decode cX8_init 115 = .ok (.iconst 4, 1) := by decide +kernel
theorem dX8_init_116 : decode cX8_init 116 = .ok (.newarray .int, 2) := by decide +kernel
theorem dX8_init_118 : decode cX8_init 118 = .ok (.putfield 53, 3) := by decide +kernel
theorem dX8_init_121 : decode cX8_init 121 = .ok (.aload_n 0, 1) := by decide +kernel
theorem dX8_init_122 : decode cX8_init 122 = .ok (.bipush 21, 2) := by decide +kernel
theorem dX8_init_124 : decode cX8_init 124 = .ok (.newarray .int, 2) := by decide +kernel
theorem dX8_init_126 : decode cX8_init 126 = .ok (.putfield 56, 3) := by decide +kernel
theorem dX8_init_129 : decode cX8_init 129 = .ok (.aload_n 0, 1) := by decide +kernel
theorem dX8_init_130 : decode cX8_init 130 = .ok (.bipush 108, 2) := by decide +kernel
theorem dX8_init_132 : decode cX8_init 132 = .ok (.newarray .int, 2) := by decide +kernel
theorem dX8_init_134 : decode cX8_init 134 = .ok (.putfield 59, 3) := by decide +kernel
theorem dX8_init_137 : decode cX8_init 137 = .ok (.aload_n 0, 1) := by decide +kernel
theorem dX8_init_138 : decode cX8_init 138 = .ok (.getfield 7, 3) := by decide +kernel
theorem dX8_init_141 : decode cX8_init 141 = .ok (.iconst 0, 1) := by decide +kernel
theorem dX8_init_142 : decode cX8_init 142 = .ok (.bipush 7, 2) := by decide +kernel
theorem dX8_init_144 : decode cX8_init 144 = .ok (.iastore, 1) := by decide +kernel
theorem dX8_init_145 : decode cX8_init 145 = .ok (.aload_n 0, 1) := by decide +kernel
theorem dX8_init_146 : decode cX8_init 146 = .ok (.getfield 7, 3) := by decide +kernel
theorem dX8_init_149 : decode cX8_init 149 = .ok (.iconst 1, 1) := by decide +kernel
theorem dX8_init_150 : decode cX8_init 150 = .ok (.iconst 2, 1) := by decide +kernel
theorem dX8_init_151 : decode cX8_init 151 = .ok (.iastore, 1) := by decide +kernel
theorem dX8_init_152 : decode cX8_init 152 = .ok (.return_, 1) := by decide +kernel
theorem dX8_in_0 : decode cX8_in 0 = .ok (.lload_n 0, 1) := by decide +kernel
theorem dX8_in_1 : decode cX8_in 1 = .ok (.lload_n 2, 1) := by decide +kernel
theorem dX8_in_2 : decode cX8_in 2 = .ok (.lcmp, 1) := by decide +kernel
theorem dX8_in_3 : decode cX8_in 3 = .ok (.ifCond .lt 14, 3) := by decide +kernel
theorem dX8_in_6 : decode cX8_in 6 = .ok (.lload_n 0, 1) := by decide +kernel
theorem dX8_in_7 : decode cX8_in 7 = .ok (.lload 4, 2) := by decide +kernel
theorem dX8_in_9 : decode cX8_in 9 = .ok (.lcmp, 1) := by decide +kernel
theorem dX8_in_10 : decode cX8_in 10 = .ok (.ifCond .gt 7, 3) := by decide +kernel
theorem dX8_in_13 : decode cX8_in 13 = .ok (.iconst 1, 1) := by decide +kernel
theorem dX8_in_14 : decode cX8_in 14 = .ok (.goto 4, 3) := by decide +kernel
theorem dX8_in_17 : decode cX8_in 17 = .ok (.iconst 0, 1) := by decide +kernel
theorem dX8_in_18 : decode cX8_in 18 = .ok (.ireturn, 1) := by decide +kernel
theorem dX8_refuses_0 : decode cX8_refuses 0 = .ok (.aload_n 0, 1) := by decide +kernel
theorem dX8_refuses_1 : decode cX8_refuses 1 = .ok (.getfield 16, 3) := by decide +kernel
theorem dX8_refuses_4 : decode cX8_refuses 4 = .ok (.bipush (-2), 2) := by decide +kernel
theorem dX8_refuses_6 : decode cX8_refuses 6 = .ok (.iload_n 1, 1) := by decide +kernel
theorem dX8_refuses_7 : decode cX8_refuses 7 = .ok (.isub, 1) := by decide +kernel
theorem dX8_refuses_8 : decode cX8_refuses 8 = .ok (.dup2, 1) := by decide +kernel
theorem dX8_refuses_9 : decode cX8_refuses 9 = .ok (.iaload, 1) := by decide +kernel
theorem dX8_refuses_10 : decode cX8_refuses 10 = .ok (.iconst 1, 1) := by decide +kernel
theorem dX8_refuses_11 : decode cX8_refuses 11 = .ok (.iadd, 1) := by decide +kernel
theorem dX8_refuses_12 : decode cX8_refuses 12 = .ok (.iastore, 1) := by decide +kernel
theorem dX8_refuses_13 : decode cX8_refuses 13 = .ok (.iload_n 1, 1) := by decide +kernel
theorem dX8_refuses_14 : decode cX8_refuses 14 = .ok (.ireturn, 1) := by decide +kernel
theorem dX8_keep_0 : decode cX8_keep 0 = .ok (.aload_n 0, 1) := by decide +kernel
theorem dX8_keep_1 : decode cX8_keep 1 = .ok (.getfield 62, 3) := by decide +kernel
theorem dX8_keep_4 : decode cX8_keep 4 = .ok (.iconst 5, 1) := by decide +kernel
theorem dX8_keep_5 : decode cX8_keep 5 = .ok (.if_icmp .ne 43, 3) := by decide +kernel
theorem dX8_keep_8 : decode cX8_keep 8 = .ok (.iconst 0, 1) := by decide +kernel
theorem dX8_keep_9 : decode cX8_keep 9 = .ok (.istore_n 1, 1) := by decide +kernel
theorem dX8_keep_10 : decode cX8_keep 10 = .ok (.iload_n 1, 1) := by decide +kernel
theorem dX8_keep_11 : decode cX8_keep 11 = .ok (.sipush 432, 3) := by decide +kernel
theorem dX8_keep_14 : decode cX8_keep 14 = .ok (.if_icmp .ge 24, 3) := by decide +kernel
theorem dX8_keep_17 : decode cX8_keep 17 = .ok (.aload_n 0, 1) := by decide +kernel
theorem dX8_keep_18 : decode cX8_keep 18 = .ok (.getfield 13, 3) := by decide +kernel
theorem dX8_keep_21 : decode cX8_keep 21 = .ok (.iload_n 1, 1) := by decide +kernel
theorem dX8_keep_22 : decode cX8_keep 22 = .ok (.aload_n 0, 1) := by decide +kernel
theorem dX8_keep_23 : decode cX8_keep 23 = .ok (.getfield 13, 3) := by decide +kernel
theorem dX8_keep_26 : decode cX8_keep 26 = .ok (.iload_n 1, 1) := by decide +kernel
theorem dX8_keep_27 : decode cX8_keep 27 = .ok (.bipush 108, 2) := by decide +kernel
theorem dX8_keep_29 : decode cX8_keep 29 = .ok (.iadd, 1) := by decide +kernel
theorem dX8_keep_30 : decode cX8_keep 30 = .ok (.iaload, 1) := by decide +kernel
theorem dX8_keep_31 : decode cX8_keep 31 = .ok (.iastore, 1) := by decide +kernel
theorem dX8_keep_32 : decode cX8_keep 32 = .ok (.iinc 1 1, 3) := by decide +kernel
theorem dX8_keep_35 : decode cX8_keep 35 = .ok (.goto (-25), 3) := by decide +kernel
theorem dX8_keep_38 : decode cX8_keep 38 = .ok (.aload_n 0, 1) := by decide +kernel
theorem dX8_keep_39 : decode cX8_keep 39 = .ok (.dup, 1) := by decide +kernel
theorem dX8_keep_40 : decode cX8_keep 40 = .ok (.getfield 62, 3) := by decide +kernel
theorem dX8_keep_43 : decode cX8_keep 43 = .ok (.iconst 1, 1) := by decide +kernel
theorem dX8_keep_44 : decode cX8_keep 44 = .ok (.isub, 1) := by decide +kernel
theorem dX8_keep_45 : decode cX8_keep 45 = .ok (.putfield 62, 3) := by decide +kernel
theorem dX8_keep_48 : decode cX8_keep 48 = .ok (.iconst 0, 1) := by decide +kernel
theorem dX8_keep_49 : decode cX8_keep 49 = .ok (.istore_n 1, 1) := by decide +kernel
theorem dX8_keep_50 : decode cX8_keep 50 = .ok (.iload_n 1, 1) := by decide +kernel
theorem dX8_keep_51 : decode cX8_keep 51 = .ok (.bipush 108, 2) := by decide +kernel
theorem dX8_keep_53 : decode cX8_keep 53 = .ok (.if_icmp .ge 29, 3) := by decide +kernel
theorem dX8_keep_56 : decode cX8_keep 56 = .ok (.aload_n 0, 1) := by decide +kernel
theorem dX8_keep_57 : decode cX8_keep 57 = .ok (.getfield 13, 3) := by decide +kernel
theorem dX8_keep_60 : decode cX8_keep 60 = .ok (.bipush 108, 2) := by decide +kernel
theorem dX8_keep_62 : decode cX8_keep 62 = .ok (.aload_n 0, 1) := by decide +kernel
theorem dX8_keep_63 : decode cX8_keep 63 = .ok (.getfield 62, 3) := by decide +kernel
theorem dX8_keep_66 : decode cX8_keep 66 = .ok (.imul, 1) := by decide +kernel
theorem dX8_keep_67 : decode cX8_keep 67 = .ok (.iload_n 1, 1) := by decide +kernel
theorem dX8_keep_68 : decode cX8_keep 68 = .ok (.iadd, 1) := by decide +kernel
theorem dX8_keep_69 : decode cX8_keep 69 = .ok (.aload_n 0, 1) := by decide +kernel
theorem dX8_keep_70 : decode cX8_keep 70 = .ok (.getfield 7, 3) := by decide +kernel
theorem dX8_keep_73 : decode cX8_keep 73 = .ok (.iload_n 1, 1) := by decide +kernel
theorem dX8_keep_74 : decode cX8_keep 74 = .ok (.iaload, 1) := by decide +kernel
theorem dX8_keep_75 : decode cX8_keep 75 = .ok (.iastore, 1) := by decide +kernel
theorem dX8_keep_76 : decode cX8_keep 76 = .ok (.iinc 1 1, 3) := by decide +kernel
theorem dX8_keep_79 : decode cX8_keep 79 = .ok (.goto (-29), 3) := by decide +kernel
theorem dX8_keep_82 : decode cX8_keep 82 = .ok (.aload_n 0, 1) := by decide +kernel
theorem dX8_keep_83 : decode cX8_keep 83 = .ok (.dup, 1) := by decide +kernel
theorem dX8_keep_84 : decode cX8_keep 84 = .ok (.getfield 62, 3) := by decide +kernel
theorem dX8_keep_87 : decode cX8_keep 87 = .ok (.iconst 1, 1) := by decide +kernel
theorem dX8_keep_88 : decode cX8_keep 88 = .ok (.iadd, 1) := by decide +kernel
theorem dX8_keep_89 : decode cX8_keep 89 = .ok (.putfield 62, 3) := by decide +kernel
theorem dX8_keep_92 : decode cX8_keep 92 = .ok (.return_, 1) := by decide +kernel
theorem dX8_modulus_0 : decode cX8_modulus 0 = .ok (.aload_n 0, 1) := by decide +kernel
theorem dX8_modulus_1 : decode cX8_modulus 1 = .ok (.getfield 7, 3) := by decide +kernel
theorem dX8_modulus_4 : decode cX8_modulus 4 = .ok (.iconst 0, 1) := by decide +kernel
theorem dX8_modulus_5 : decode cX8_modulus 5 = .ok (.iaload, 1) := by decide +kernel
theorem dX8_modulus_6 : decode cX8_modulus 6 = .ok (.ireturn, 1) := by decide +kernel
theorem dX8_width_0 : decode cX8_width 0 = .ok (.aload_n 0, 1) := by decide +kernel
theorem dX8_width_1 : decode cX8_width 1 = .ok (.getfield 7, 3) := by decide +kernel
theorem dX8_width_4 : decode cX8_width 4 = .ok (.iconst 1, 1) := by decide +kernel
theorem dX8_width_5 : decode cX8_width 5 = .ok (.iaload, 1) := by decide +kernel
theorem dX8_width_6 : decode cX8_width 6 = .ok (.ireturn, 1) := by decide +kernel
theorem dX8_rows_0 : decode cX8_rows 0 = .ok (.aload_n 0, 1) := by decide +kernel
theorem dX8_rows_1 : decode cX8_rows 1 = .ok (.getfield 7, 3) := by decide +kernel
theorem dX8_rows_4 : decode cX8_rows 4 = .ok (.iconst 2, 1) := by decide +kernel
theorem dX8_rows_5 : decode cX8_rows 5 = .ok (.iaload, 1) := by decide +kernel
theorem dX8_rows_6 : decode cX8_rows 6 = .ok (.ireturn, 1) := by decide +kernel
theorem dX8_place_0 : decode cX8_place 0 = .ok (.iconst 3, 1) := by decide +kernel
theorem dX8_place_1 : decode cX8_place 1 = .ok (.iconst 3, 1) := by decide +kernel
theorem dX8_place_2 : decode cX8_place 2 = .ok (.iload_n 0, 1) := by decide +kernel
theorem dX8_place_3 : decode cX8_place 3 = .ok (.imul, 1) := by decide +kernel
theorem dX8_place_4 : decode cX8_place 4 = .ok (.iload_n 1, 1) := by decide +kernel
theorem dX8_place_5 : decode cX8_place 5 = .ok (.iadd, 1) := by decide +kernel
theorem dX8_place_6 : decode cX8_place 6 = .ok (.bipush 7, 2) := by decide +kernel
theorem dX8_place_8 : decode cX8_place 8 = .ok (.imul, 1) := by decide +kernel
theorem dX8_place_9 : decode cX8_place 9 = .ok (.iadd, 1) := by decide +kernel
theorem dX8_place_10 : decode cX8_place 10 = .ok (.iload_n 2, 1) := by decide +kernel
theorem dX8_place_11 : decode cX8_place 11 = .ok (.iadd, 1) := by decide +kernel
theorem dX8_place_12 : decode cX8_place 12 = .ok (.ireturn, 1) := by decide +kernel
set_option maxRecDepth 20000 in
theorem ggX8_isRow_X8_rows : GoodIn wsX8_isRow wsX8_rows := goodIn_r _ [5, 6, 10, 11, 12, 13, 14, 15, 16, 17, 18, 19, 20, 21, 22, 23, 24, 25, 26, 27, 28, 29, 30, 31, 32, 33] (by decide +kernel) (by decide +kernel)
set_option maxRecDepth 20000 in
theorem gX8_isRow_X8_rows : GoodIn wsX8_isRow (wsV RX8 65 RX8 yX8_rows wsX8_rows) := goodIn_app (goodIn_of _ (by decide +kernel)) ggX8_isRow_X8_rows
set_option maxRecDepth 20000 in
theorem ggX8_isRow_X8_in : GoodIn wsX8_isRow wsX8_in := goodIn_r _ [9] (by decide +kernel) (by decide +kernel)
set_option maxRecDepth 20000 in
theorem gX8_isRow_X8_in : GoodIn wsX8_isRow (va_wsS RX8 69 yX8_in wsX8_in) := goodIn_app (goodIn_of _ (by decide +kernel)) ggX8_isRow_X8_in
theorem dX8_isRow_0 : decode cX8_isRow 0 = .ok (.iload_n 1, 1) := by decide +kernel
theorem dX8_isRow_1 : decode cX8_isRow 1 = .ok (.i2l, 1) := by decide +kernel
theorem dX8_isRow_2 : decode cX8_isRow 2 = .ok (.lconst 0, 1) := by decide +kernel
theorem dX8_isRow_3 : decode cX8_isRow 3 = .ok (.aload_n 0, 1) := by decide +kernel
theorem dX8_isRow_4 : decode cX8_isRow 4 = .ok (.invokevirtual 65, 3) := by decide +kernel
theorem dX8_isRow_7 : decode cX8_isRow 7 = .ok (.iconst 1, 1) := by decide +kernel
theorem dX8_isRow_8 : decode cX8_isRow 8 = .ok (.isub, 1) := by decide +kernel
theorem dX8_isRow_9 : decode cX8_isRow 9 = .ok (.i2l, 1) := by decide +kernel
theorem dX8_isRow_10 : decode cX8_isRow 10 = .ok (.invokestatic 69, 3) := by decide +kernel
theorem dX8_isRow_13 : decode cX8_isRow 13 = .ok (.ireturn, 1) := by decide +kernel
set_option maxRecDepth 20000 in
theorem ggX8_isColumn_X8_width : GoodIn wsX8_isColumn wsX8_width := goodIn_r _ [5, 6, 10, 11, 12, 13, 14, 15, 16, 17, 18, 19, 20, 21, 22, 23, 24, 25, 26, 27, 28, 29, 30, 31, 32, 33] (by decide +kernel) (by decide +kernel)
set_option maxRecDepth 20000 in
theorem gX8_isColumn_X8_width : GoodIn wsX8_isColumn (wsV RX8 73 RX8 yX8_width wsX8_width) := goodIn_app (goodIn_of _ (by decide +kernel)) ggX8_isColumn_X8_width
set_option maxRecDepth 20000 in
theorem ggX8_isColumn_X8_in : GoodIn wsX8_isColumn wsX8_in := goodIn_r _ [9] (by decide +kernel) (by decide +kernel)
set_option maxRecDepth 20000 in
theorem gX8_isColumn_X8_in : GoodIn wsX8_isColumn (va_wsS RX8 69 yX8_in wsX8_in) := goodIn_app (goodIn_of _ (by decide +kernel)) ggX8_isColumn_X8_in
theorem dX8_isColumn_0 : decode cX8_isColumn 0 = .ok (.iload_n 1, 1) := by decide +kernel
theorem dX8_isColumn_1 : decode cX8_isColumn 1 = .ok (.i2l, 1) := by decide +kernel
theorem dX8_isColumn_2 : decode cX8_isColumn 2 = .ok (.lconst 0, 1) := by decide +kernel
theorem dX8_isColumn_3 : decode cX8_isColumn 3 = .ok (.aload_n 0, 1) := by decide +kernel
theorem dX8_isColumn_4 : decode cX8_isColumn 4 = .ok (.invokevirtual 73, 3) := by decide +kernel
theorem dX8_isColumn_7 : decode cX8_isColumn 7 = .ok (.iconst 1, 1) := by decide +kernel
theorem dX8_isColumn_8 : decode cX8_isColumn 8 = .ok (.isub, 1) := by decide +kernel
theorem dX8_isColumn_9 : decode cX8_isColumn 9 = .ok (.i2l, 1) := by decide +kernel
theorem dX8_isColumn_10 : decode cX8_isColumn 10 = .ok (.invokestatic 69, 3) := by decide +kernel
theorem dX8_isColumn_13 : decode cX8_isColumn 13 = .ok (.ireturn, 1) := by decide +kernel
set_option maxRecDepth 20000 in
theorem ggX8_left_X8_modulus : GoodIn wsX8_left wsX8_modulus := goodIn_r _ [5, 6, 7, 8, 9, 10, 11, 12, 13, 14, 15, 16, 17, 18, 19, 20, 21, 22, 23, 24, 25, 26, 27, 28, 29, 30] (by decide +kernel) (by decide +kernel)
set_option maxRecDepth 20000 in
theorem gX8_left_X8_modulus : GoodIn wsX8_left (wsV RX8 76 RX8 yX8_modulus wsX8_modulus) := goodIn_app (goodIn_of _ (by decide +kernel)) ggX8_left_X8_modulus
theorem dX8_left_0 : decode cX8_left 0 = .ok (.iload_n 1, 1) := by decide +kernel
theorem dX8_left_1 : decode cX8_left 1 = .ok (.aload_n 0, 1) := by decide +kernel
theorem dX8_left_2 : decode cX8_left 2 = .ok (.invokevirtual 76, 3) := by decide +kernel
theorem dX8_left_5 : decode cX8_left 5 = .ok (.irem, 1) := by decide +kernel
theorem dX8_left_6 : decode cX8_left 6 = .ok (.istore_n 2, 1) := by decide +kernel
theorem dX8_left_7 : decode cX8_left 7 = .ok (.iload_n 2, 1) := by decide +kernel
theorem dX8_left_8 : decode cX8_left 8 = .ok (.ifCond .ge 12, 3) := by decide +kernel
theorem dX8_left_11 : decode cX8_left 11 = .ok (.iload_n 2, 1) := by decide +kernel
theorem dX8_left_12 : decode cX8_left 12 = .ok (.aload_n 0, 1) := by decide +kernel
theorem dX8_left_13 : decode cX8_left 13 = .ok (.invokevirtual 76, 3) := by decide +kernel
theorem dX8_left_16 : decode cX8_left 16 = .ok (.iadd, 1) := by decide +kernel
theorem dX8_left_17 : decode cX8_left 17 = .ok (.goto 4, 3) := by decide +kernel
theorem dX8_left_20 : decode cX8_left 20 = .ok (.iload_n 2, 1) := by decide +kernel
theorem dX8_left_21 : decode cX8_left 21 = .ok (.ireturn, 1) := by decide +kernel
set_option maxRecDepth 20000 in
theorem ggX8_inverse_X8_modulus : GoodIn wsX8_inverse wsX8_modulus := goodIn_r _ [5, 6, 7, 8, 9, 10, 11, 12, 13, 14, 15, 16, 17, 18, 19, 20, 21, 22, 23, 24, 25, 26, 27, 28, 29, 30] (by decide +kernel) (by decide +kernel)
set_option maxRecDepth 20000 in
theorem gX8_inverse_X8_modulus : GoodIn wsX8_inverse (wsV RX8 76 RX8 yX8_modulus wsX8_modulus) := goodIn_app (goodIn_of _ (by decide +kernel)) ggX8_inverse_X8_modulus
theorem dX8_inverse_0 : decode cX8_inverse 0 = .ok (.iconst 1, 1) := by decide +kernel
theorem dX8_inverse_1 : decode cX8_inverse 1 = .ok (.istore_n 2, 1) := by decide +kernel
theorem dX8_inverse_2 : decode cX8_inverse 2 = .ok (.iload_n 1, 1) := by decide +kernel
theorem dX8_inverse_3 : decode cX8_inverse 3 = .ok (.iload_n 2, 1) := by decide +kernel
theorem dX8_inverse_4 : decode cX8_inverse 4 = .ok (.imul, 1) := by decide +kernel
theorem dX8_inverse_5 : decode cX8_inverse 5 = .ok (.aload_n 0, 1) := by decide +kernel
theorem dX8_inverse_6 : decode cX8_inverse 6 = .ok (.invokevirtual 76, 3) := by decide +kernel
theorem dX8_inverse_9 : decode cX8_inverse 9 = .ok (.irem, 1) := by decide +kernel
theorem dX8_inverse_10 : decode cX8_inverse 10 = .ok (.iconst 1, 1) := by decide +kernel
theorem dX8_inverse_11 : decode cX8_inverse 11 = .ok (.if_icmp .eq 9, 3) := by decide +kernel
theorem dX8_inverse_14 : decode cX8_inverse 14 = .ok (.iinc 2 1, 3) := by decide +kernel
theorem dX8_inverse_17 : decode cX8_inverse 17 = .ok (.goto (-15), 3) := by decide +kernel
theorem dX8_inverse_20 : decode cX8_inverse 20 = .ok (.iload_n 2, 1) := by decide +kernel
theorem dX8_inverse_21 : decode cX8_inverse 21 = .ok (.ireturn, 1) := by decide +kernel
set_option maxRecDepth 20000 in
theorem ggX8_degreeAt_X8_place : GoodIn wsX8_degreeAt wsX8_place := goodIn_r _ [5] (by decide +kernel) (by decide +kernel)
set_option maxRecDepth 20000 in
theorem gX8_degreeAt_X8_place : GoodIn wsX8_degreeAt (va_wsS RX8 79 yX8_place wsX8_place) := goodIn_app (goodIn_of _ (by decide +kernel)) ggX8_degreeAt_X8_place
theorem dX8_degreeAt_0 : decode cX8_degreeAt 0 = .ok (.bipush 6, 2) := by decide +kernel
theorem dX8_degreeAt_2 : decode cX8_degreeAt 2 = .ok (.istore_n 3, 1) := by decide +kernel
theorem dX8_degreeAt_3 : decode cX8_degreeAt 3 = .ok (.iload_n 3, 1) := by decide +kernel
theorem dX8_degreeAt_4 : decode cX8_degreeAt 4 = .ok (.ifCond .lt 23, 3) := by decide +kernel
theorem dX8_degreeAt_7 : decode cX8_degreeAt 7 = .ok (.aload_n 0, 1) := by decide +kernel
theorem dX8_degreeAt_8 : decode cX8_degreeAt 8 = .ok (.getfield 7, 3) := by decide +kernel
theorem dX8_degreeAt_11 : decode cX8_degreeAt 11 = .ok (.iload_n 1, 1) := by decide +kernel
theorem dX8_degreeAt_12 : decode cX8_degreeAt 12 = .ok (.iload_n 2, 1) := by decide +kernel
theorem dX8_degreeAt_13 : decode cX8_degreeAt 13 = .ok (.iload_n 3, 1) := by decide +kernel
theorem dX8_degreeAt_14 : decode cX8_degreeAt 14 = .ok (.invokestatic 79, 3) := by decide +kernel
theorem dX8_degreeAt_17 : decode cX8_degreeAt 17 = .ok (.iaload, 1) := by decide +kernel
theorem dX8_degreeAt_18 : decode cX8_degreeAt 18 = .ok (.ifCond .ne 9, 3) := by decide +kernel
theorem dX8_degreeAt_21 : decode cX8_degreeAt 21 = .ok (.iinc 3 (-1), 3) := by decide +kernel
theorem dX8_degreeAt_24 : decode cX8_degreeAt 24 = .ok (.goto (-21), 3) := by decide +kernel
theorem dX8_degreeAt_27 : decode cX8_degreeAt 27 = .ok (.iload_n 3, 1) := by decide +kernel
theorem dX8_degreeAt_28 : decode cX8_degreeAt 28 = .ok (.ireturn, 1) := by decide +kernel
set_option maxRecDepth 20000 in
theorem ggX8_degree_X8_width : GoodIn wsX8_degree wsX8_width := goodIn_r _ [5, 6, 14, 15, 16, 17, 18, 19, 20, 21, 22, 23, 24, 25, 26, 27, 28, 29, 30, 31, 32, 33, 34, 35, 36, 37] (by decide +kernel) (by decide +kernel)
set_option maxRecDepth 20000 in
theorem gX8_degree_X8_width : GoodIn wsX8_degree (wsV RX8 73 RX8 yX8_width wsX8_width) := goodIn_app (goodIn_of _ (by decide +kernel)) ggX8_degree_X8_width
set_option maxRecDepth 20000 in
theorem ggX8_degree_X8_degreeAt : GoodIn wsX8_degree wsX8_degreeAt := goodIn_r _ [10, 6, 11, 12, 4, 13, 14, 15, 16, 17, 18, 19, 20, 21, 22, 23, 24, 25, 26, 27, 28, 29, 30, 31, 32, 33, 34, 35, 36, 37] (by decide +kernel) (by decide +kernel)
set_option maxRecDepth 20000 in
theorem gX8_degree_X8_degreeAt : GoodIn wsX8_degree (wsV RX8 83 RX8 yX8_degreeAt wsX8_degreeAt) := goodIn_app (goodIn_of _ (by decide +kernel)) ggX8_degree_X8_degreeAt
theorem dX8_degree_0 : decode cX8_degree 0 = .ok (.iconst (-1), 1) := by decide +kernel
theorem dX8_degree_1 : decode cX8_degree 1 = .ok (.istore_n 2, 1) := by decide +kernel
theorem dX8_degree_2 : decode cX8_degree 2 = .ok (.iconst 0, 1) := by decide +kernel
theorem dX8_degree_3 : decode cX8_degree 3 = .ok (.istore_n 3, 1) := by decide +kernel
theorem dX8_degree_4 : decode cX8_degree 4 = .ok (.iload_n 3, 1) := by decide +kernel
theorem dX8_degree_5 : decode cX8_degree 5 = .ok (.aload_n 0, 1) := by decide +kernel
theorem dX8_degree_6 : decode cX8_degree 6 = .ok (.invokevirtual 73, 3) := by decide +kernel
theorem dX8_degree_9 : decode cX8_degree 9 = .ok (.if_icmp .ge 30, 3) := by decide +kernel
theorem dX8_degree_12 : decode cX8_degree 12 = .ok (.aload_n 0, 1) := by decide +kernel
theorem dX8_degree_13 : decode cX8_degree 13 = .ok (.iload_n 1, 1) := by decide +kernel
theorem dX8_degree_14 : decode cX8_degree 14 = .ok (.iload_n 3, 1) := by decide +kernel
theorem dX8_degree_15 : decode cX8_degree 15 = .ok (.invokevirtual 83, 3) := by decide +kernel
theorem dX8_degree_18 : decode cX8_degree 18 = .ok (.iload_n 2, 1) := by decide +kernel
theorem dX8_degree_19 : decode cX8_degree 19 = .ok (.if_icmp .le 12, 3) := by decide +kernel
theorem dX8_degree_22 : decode cX8_degree 22 = .ok (.aload_n 0, 1) := by decide +kernel
theorem dX8_degree_23 : decode cX8_degree 23 = .ok (.iload_n 1, 1) := by decide +kernel
theorem dX8_degree_24 : decode cX8_degree 24 = .ok (.iload_n 3, 1) := by decide +kernel
theorem dX8_degree_25 : decode cX8_degree 25 = .ok (.invokevirtual 83, 3) := by decide +kernel
theorem dX8_degree_28 : decode cX8_degree 28 = .ok (.goto 4, 3) := by decide +kernel
theorem dX8_degree_31 : decode cX8_degree 31 = .ok (.iload_n 2, 1) := by decide +kernel
theorem dX8_degree_32 : decode cX8_degree 32 = .ok (.istore_n 2, 1) := by decide +kernel
theorem dX8_degree_33 : decode cX8_degree 33 = .ok (.iinc 3 1, 3) := by decide +kernel
theorem dX8_degree_36 : decode cX8_degree 36 = .ok (.goto (-32), 3) := by decide +kernel
theorem dX8_degree_39 : decode cX8_degree 39 = .ok (.iload_n 2, 1) := by decide +kernel
theorem dX8_degree_40 : decode cX8_degree 40 = .ok (.ireturn, 1) := by decide +kernel
set_option maxRecDepth 20000 in
theorem ggX8_pivot_X8_width : GoodIn wsX8_pivot wsX8_width := goodIn_r _ [5, 6, 18, 19, 20, 21, 22, 23, 24, 25, 26, 27, 28, 29, 30, 31, 32, 33, 34, 35, 36, 37, 38, 39, 40, 41] (by decide +kernel) (by decide +kernel)
set_option maxRecDepth 20000 in
theorem gX8_pivot_X8_width : GoodIn wsX8_pivot (wsV RX8 73 RX8 yX8_width wsX8_width) := goodIn_app (goodIn_of _ (by decide +kernel)) ggX8_pivot_X8_width
set_option maxRecDepth 20000 in
theorem ggX8_pivot_X8_degreeAt : GoodIn wsX8_pivot wsX8_degreeAt := goodIn_r _ [10, 6, 11, 12, 4, 13, 18, 19, 20, 21, 22, 23, 24, 25, 26, 27, 28, 29, 30, 31, 32, 33, 34, 35, 36, 37, 38, 39, 40, 41] (by decide +kernel) (by decide +kernel)
set_option maxRecDepth 20000 in
theorem gX8_pivot_X8_degreeAt : GoodIn wsX8_pivot (wsV RX8 83 RX8 yX8_degreeAt wsX8_degreeAt) := goodIn_app (goodIn_of _ (by decide +kernel)) ggX8_pivot_X8_degreeAt
set_option maxRecDepth 20000 in
theorem ggX8_pivot_X8_degree : GoodIn wsX8_pivot wsX8_degree := goodIn_r _ [17, 1, 2, 3, 4, 5, 6, 7, 8, 9, 10, 11, 12, 13, 18, 19, 20, 21, 22, 23, 24, 25, 26, 27, 28, 29, 30, 31, 32, 33, 34, 35, 36, 37, 38, 39, 40, 41] (by decide +kernel) (by decide +kernel)
set_option maxRecDepth 20000 in
theorem gX8_pivot_X8_degree : GoodIn wsX8_pivot (wsV RX8 87 RX8 yX8_degree wsX8_degree) := goodIn_app (goodIn_of _ (by decide +kernel)) ggX8_pivot_X8_degree
theorem dX8_pivot_0 : decode cX8_pivot 0 = .ok (.iconst (-1), 1) := by decide +kernel
theorem dX8_pivot_1 : decode cX8_pivot 1 = .ok (.istore_n 2, 1) := by decide +kernel
theorem dX8_pivot_2 : decode cX8_pivot 2 = .ok (.iconst 0, 1) := by decide +kernel
theorem dX8_pivot_3 : decode cX8_pivot 3 = .ok (.istore_n 3, 1) := by decide +kernel
theorem dX8_pivot_4 : decode cX8_pivot 4 = .ok (.iload_n 3, 1) := by decide +kernel
theorem dX8_pivot_5 : decode cX8_pivot 5 = .ok (.aload_n 0, 1) := by decide +kernel
theorem dX8_pivot_6 : decode cX8_pivot 6 = .ok (.invokevirtual 73, 3) := by decide +kernel
theorem dX8_pivot_9 : decode cX8_pivot 9 = .ok (.if_icmp .ge 38, 3) := by decide +kernel
theorem dX8_pivot_12 : decode cX8_pivot 12 = .ok (.aload_n 0, 1) := by decide +kernel
theorem dX8_pivot_13 : decode cX8_pivot 13 = .ok (.iload_n 1, 1) := by decide +kernel
theorem dX8_pivot_14 : decode cX8_pivot 14 = .ok (.iload_n 3, 1) := by decide +kernel
theorem dX8_pivot_15 : decode cX8_pivot 15 = .ok (.invokevirtual 83, 3) := by decide +kernel
theorem dX8_pivot_18 : decode cX8_pivot 18 = .ok (.ifCond .lt 21, 3) := by decide +kernel
theorem dX8_pivot_21 : decode cX8_pivot 21 = .ok (.aload_n 0, 1) := by decide +kernel
theorem dX8_pivot_22 : decode cX8_pivot 22 = .ok (.iload_n 1, 1) := by decide +kernel
theorem dX8_pivot_23 : decode cX8_pivot 23 = .ok (.iload_n 3, 1) := by decide +kernel
theorem dX8_pivot_24 : decode cX8_pivot 24 = .ok (.invokevirtual 83, 3) := by decide +kernel
theorem dX8_pivot_27 : decode cX8_pivot 27 = .ok (.aload_n 0, 1) := by decide +kernel
theorem dX8_pivot_28 : decode cX8_pivot 28 = .ok (.iload_n 1, 1) := by decide +kernel
theorem dX8_pivot_29 : decode cX8_pivot 29 = .ok (.invokevirtual 87, 3) := by decide +kernel
theorem dX8_pivot_32 : decode cX8_pivot 32 = .ok (.if_icmp .ne 7, 3) := by decide +kernel
theorem dX8_pivot_35 : decode cX8_pivot 35 = .ok (.iload_n 3, 1) := by decide +kernel
theorem dX8_pivot_36 : decode cX8_pivot 36 = .ok (.goto 4, 3) := by decide +kernel
theorem dX8_pivot_39 : decode cX8_pivot 39 = .ok (.iload_n 2, 1) := by decide +kernel
theorem dX8_pivot_40 : decode cX8_pivot 40 = .ok (.istore_n 2, 1) := by decide +kernel
theorem dX8_pivot_41 : decode cX8_pivot 41 = .ok (.iinc 3 1, 3) := by decide +kernel
theorem dX8_pivot_44 : decode cX8_pivot 44 = .ok (.goto (-40), 3) := by decide +kernel
theorem dX8_pivot_47 : decode cX8_pivot 47 = .ok (.iload_n 2, 1) := by decide +kernel
theorem dX8_pivot_48 : decode cX8_pivot 48 = .ok (.ireturn, 1) := by decide +kernel
set_option maxRecDepth 20000 in
theorem ggX8_lead_X8_pivot : GoodIn wsX8_lead wsX8_pivot := goodIn_r _ [6, 7, 8, 9, 5, 10, 1, 11, 12, 13, 14, 15, 16, 17, 18, 19, 20, 21, 22, 23, 24, 25, 26, 27, 28, 29, 30, 31, 32, 33, 34, 35, 36, 37, 38, 39, 40, 41, 42, 43, 44, 45] (by decide +kernel) (by decide +kernel)
set_option maxRecDepth 20000 in
theorem gX8_lead_X8_pivot : GoodIn wsX8_lead (wsV RX8 91 RX8 yX8_pivot wsX8_pivot) := goodIn_app (goodIn_of _ (by decide +kernel)) ggX8_lead_X8_pivot
set_option maxRecDepth 20000 in
theorem ggX8_lead_X8_degree : GoodIn wsX8_lead wsX8_degree := goodIn_r _ [21, 7, 8, 9, 5, 10, 1, 11, 12, 13, 14, 15, 16, 17, 22, 23, 24, 25, 26, 27, 28, 29, 30, 31, 32, 33, 34, 35, 36, 37, 38, 39, 40, 41, 42, 43, 44, 45] (by decide +kernel) (by decide +kernel)
set_option maxRecDepth 20000 in
theorem gX8_lead_X8_degree : GoodIn wsX8_lead (wsV RX8 87 RX8 yX8_degree wsX8_degree) := goodIn_app (goodIn_of _ (by decide +kernel)) ggX8_lead_X8_degree
set_option maxRecDepth 20000 in
theorem ggX8_lead_X8_place : GoodIn wsX8_lead wsX8_place := goodIn_r _ [17] (by decide +kernel) (by decide +kernel)
set_option maxRecDepth 20000 in
theorem gX8_lead_X8_place : GoodIn wsX8_lead (va_wsS RX8 79 yX8_place wsX8_place) := goodIn_app (goodIn_of _ (by decide +kernel)) ggX8_lead_X8_place
theorem dX8_lead_0 : decode cX8_lead 0 = .ok (.aload_n 0, 1) := by decide +kernel
theorem dX8_lead_1 : decode cX8_lead 1 = .ok (.iload_n 1, 1) := by decide +kernel
theorem dX8_lead_2 : decode cX8_lead 2 = .ok (.invokevirtual 91, 3) := by decide +kernel
theorem dX8_lead_5 : decode cX8_lead 5 = .ok (.istore_n 2, 1) := by decide +kernel
theorem dX8_lead_6 : decode cX8_lead 6 = .ok (.iload_n 2, 1) := by decide +kernel
theorem dX8_lead_7 : decode cX8_lead 7 = .ok (.ifCond .ge 7, 3) := by decide +kernel
theorem dX8_lead_10 : decode cX8_lead 10 = .ok (.iconst 0, 1) := by decide +kernel
theorem dX8_lead_11 : decode cX8_lead 11 = .ok (.goto 18, 3) := by decide +kernel
theorem dX8_lead_14 : decode cX8_lead 14 = .ok (.aload_n 0, 1) := by decide +kernel
theorem dX8_lead_15 : decode cX8_lead 15 = .ok (.getfield 7, 3) := by decide +kernel
theorem dX8_lead_18 : decode cX8_lead 18 = .ok (.iload_n 1, 1) := by decide +kernel
theorem dX8_lead_19 : decode cX8_lead 19 = .ok (.iload_n 2, 1) := by decide +kernel
theorem dX8_lead_20 : decode cX8_lead 20 = .ok (.aload_n 0, 1) := by decide +kernel
theorem dX8_lead_21 : decode cX8_lead 21 = .ok (.iload_n 1, 1) := by decide +kernel
theorem dX8_lead_22 : decode cX8_lead 22 = .ok (.invokevirtual 87, 3) := by decide +kernel
theorem dX8_lead_25 : decode cX8_lead 25 = .ok (.invokestatic 79, 3) := by decide +kernel
theorem dX8_lead_28 : decode cX8_lead 28 = .ok (.iaload, 1) := by decide +kernel
theorem dX8_lead_29 : decode cX8_lead 29 = .ok (.ireturn, 1) := by decide +kernel
theorem dX8_clears_0 : decode cX8_clears 0 = .ok (.iconst 2, 1) := by decide +kernel
theorem dX8_clears_1 : decode cX8_clears 1 = .ok (.istore_n 1, 1) := by decide +kernel
theorem dX8_clears_2 : decode cX8_clears 2 = .ok (.iload_n 1, 1) := by decide +kernel
theorem dX8_clears_3 : decode cX8_clears 3 = .ok (.bipush 108, 2) := by decide +kernel
theorem dX8_clears_5 : decode cX8_clears 5 = .ok (.if_icmp .ge 16, 3) := by decide +kernel
theorem dX8_clears_8 : decode cX8_clears 8 = .ok (.aload_n 0, 1) := by decide +kernel
theorem dX8_clears_9 : decode cX8_clears 9 = .ok (.getfield 7, 3) := by decide +kernel
theorem dX8_clears_12 : decode cX8_clears 12 = .ok (.iload_n 1, 1) := by decide +kernel
theorem dX8_clears_13 : decode cX8_clears 13 = .ok (.iconst 0, 1) := by decide +kernel
theorem dX8_clears_14 : decode cX8_clears 14 = .ok (.iastore, 1) := by decide +kernel
theorem dX8_clears_15 : decode cX8_clears 15 = .ok (.iinc 1 1, 3) := by decide +kernel
theorem dX8_clears_18 : decode cX8_clears 18 = .ok (.goto (-16), 3) := by decide +kernel
theorem dX8_clears_21 : decode cX8_clears 21 = .ok (.return_, 1) := by decide +kernel
theorem dX8_isPrime_0 : decode cX8_isPrime 0 = .ok (.iload_n 0, 1) := by decide +kernel
theorem dX8_isPrime_1 : decode cX8_isPrime 1 = .ok (.iconst 2, 1) := by decide +kernel
theorem dX8_isPrime_2 : decode cX8_isPrime 2 = .ok (.if_icmp .eq 19, 3) := by decide +kernel
theorem dX8_isPrime_5 : decode cX8_isPrime 5 = .ok (.iload_n 0, 1) := by decide +kernel
theorem dX8_isPrime_6 : decode cX8_isPrime 6 = .ok (.iconst 3, 1) := by decide +kernel
theorem dX8_isPrime_7 : decode cX8_isPrime 7 = .ok (.if_icmp .eq 14, 3) := by decide +kernel
theorem dX8_isPrime_10 : decode cX8_isPrime 10 = .ok (.iload_n 0, 1) := by decide +kernel
theorem dX8_isPrime_11 : decode cX8_isPrime 11 = .ok (.iconst 5, 1) := by decide +kernel
theorem dX8_isPrime_12 : decode cX8_isPrime 12 = .ok (.if_icmp .eq 9, 3) := by decide +kernel
theorem dX8_isPrime_15 : decode cX8_isPrime 15 = .ok (.iload_n 0, 1) := by decide +kernel
theorem dX8_isPrime_16 : decode cX8_isPrime 16 = .ok (.bipush 7, 2) := by decide +kernel
theorem dX8_isPrime_18 : decode cX8_isPrime 18 = .ok (.if_icmp .ne 7, 3) := by decide +kernel
theorem dX8_isPrime_21 : decode cX8_isPrime 21 = .ok (.iconst 1, 1) := by decide +kernel
theorem dX8_isPrime_22 : decode cX8_isPrime 22 = .ok (.goto 4, 3) := by decide +kernel
theorem dX8_isPrime_25 : decode cX8_isPrime 25 = .ok (.iconst 0, 1) := by decide +kernel
theorem dX8_isPrime_26 : decode cX8_isPrime 26 = .ok (.ireturn, 1) := by decide +kernel
set_option maxRecDepth 20000 in
theorem ggX8_primeNow_X8_modulus : GoodIn wsX8_primeNow wsX8_modulus := goodIn_r _ [6, 1, 11, 12, 13, 14, 15, 16, 17, 18, 19, 20, 21, 22, 23, 24, 25, 26, 27, 28, 29, 30, 31, 32, 33, 34] (by decide +kernel) (by decide +kernel)
set_option maxRecDepth 20000 in
theorem gX8_primeNow_X8_modulus : GoodIn wsX8_primeNow (wsV RX8 76 RX8 yX8_modulus wsX8_modulus) := goodIn_app (goodIn_of _ (by decide +kernel)) ggX8_primeNow_X8_modulus
set_option maxRecDepth 20000 in
theorem ggX8_primeNow_X8_clears : GoodIn wsX8_primeNow wsX8_clears := goodIn_r _ [10, 1, 11, 12, 13, 14, 15, 16, 17, 18, 19, 20, 21, 22, 23, 24, 25, 26, 27, 28, 29, 30, 31, 32, 33, 34] (by decide +kernel) (by decide +kernel)
set_option maxRecDepth 20000 in
theorem gX8_primeNow_X8_clears : GoodIn wsX8_primeNow (wsV RX8 94 RX8 yX8_clears wsX8_clears) := goodIn_app (goodIn_of _ (by decide +kernel)) ggX8_primeNow_X8_clears
theorem dX8_primeNow_0 : decode cX8_primeNow 0 = .ok (.aload_n 0, 1) := by decide +kernel
theorem dX8_primeNow_1 : decode cX8_primeNow 1 = .ok (.invokevirtual 76, 3) := by decide +kernel
theorem dX8_primeNow_4 : decode cX8_primeNow 4 = .ok (.istore_n 2, 1) := by decide +kernel
theorem dX8_primeNow_5 : decode cX8_primeNow 5 = .ok (.aload_n 0, 1) := by decide +kernel
theorem dX8_primeNow_6 : decode cX8_primeNow 6 = .ok (.getfield 7, 3) := by decide +kernel
theorem dX8_primeNow_9 : decode cX8_primeNow 9 = .ok (.iconst 0, 1) := by decide +kernel
theorem dX8_primeNow_10 : decode cX8_primeNow 10 = .ok (.iload_n 1, 1) := by decide +kernel
theorem dX8_primeNow_11 : decode cX8_primeNow 11 = .ok (.iastore, 1) := by decide +kernel
theorem dX8_primeNow_12 : decode cX8_primeNow 12 = .ok (.aload_n 0, 1) := by decide +kernel
theorem dX8_primeNow_13 : decode cX8_primeNow 13 = .ok (.invokevirtual 94, 3) := by decide +kernel
theorem dX8_primeNow_16 : decode cX8_primeNow 16 = .ok (.iload_n 2, 1) := by decide +kernel
theorem dX8_primeNow_17 : decode cX8_primeNow 17 = .ok (.ireturn, 1) := by decide +kernel
set_option maxRecDepth 20000 in
theorem ggX8_prime_X8_isPrime : GoodIn wsX8_prime wsX8_isPrime := goodIn_r _ [4] (by decide +kernel) (by decide +kernel)
set_option maxRecDepth 20000 in
theorem gX8_prime_X8_isPrime : GoodIn wsX8_prime (va_wsS RX8 97 yX8_isPrime wsX8_isPrime) := goodIn_app (goodIn_of _ (by decide +kernel)) ggX8_prime_X8_isPrime
set_option maxRecDepth 20000 in
theorem ggX8_prime_X8_refuses : GoodIn wsX8_prime wsX8_refuses := goodIn_r _ [8, 9, 29, 30, 31, 32, 33, 34, 35, 36, 37, 38, 39, 40, 41, 42, 43, 44, 45, 46, 47, 48, 49, 50, 51, 52] (by decide +kernel) (by decide +kernel)
set_option maxRecDepth 20000 in
theorem gX8_prime_X8_refuses : GoodIn wsX8_prime (wsV RX8 101 RX8 yX8_refuses wsX8_refuses) := goodIn_app (goodIn_of _ (by decide +kernel)) ggX8_prime_X8_refuses
set_option maxRecDepth 20000 in
theorem ggX8_prime_X8_keep : GoodIn wsX8_prime wsX8_keep := goodIn_r _ [13, 14, 15, 16, 29, 30, 31, 32, 33, 34, 35, 36, 37, 38, 39, 40, 41, 42, 43, 44, 45, 46, 47, 48, 49, 50, 51, 52] (by decide +kernel) (by decide +kernel)
set_option maxRecDepth 20000 in
theorem gX8_prime_X8_keep : GoodIn wsX8_prime (wsV RX8 104 RX8 yX8_keep wsX8_keep) := goodIn_app (goodIn_of _ (by decide +kernel)) ggX8_prime_X8_keep
set_option maxRecDepth 20000 in
theorem ggX8_prime_X8_primeNow : GoodIn wsX8_prime wsX8_primeNow := goodIn_r _ [20, 16, 21, 22, 23, 3, 24, 25, 26, 27, 28, 29, 30, 31, 32, 33, 34, 35, 36, 37, 38, 39, 40, 41, 42, 43, 44, 45, 46, 47, 48, 49, 50, 51, 52] (by decide +kernel) (by decide +kernel)
set_option maxRecDepth 20000 in
theorem gX8_prime_X8_primeNow : GoodIn wsX8_prime (wsV RX8 107 RX8 yX8_primeNow wsX8_primeNow) := goodIn_app (goodIn_of _ (by decide +kernel)) ggX8_prime_X8_primeNow
theorem dX8_prime_0 : decode cX8_prime 0 = .ok (.iload_n 1, 1) := by decide +kernel
theorem dX8_prime_1 : decode cX8_prime 1 = .ok (.invokestatic 97, 3) := by decide +kernel
theorem dX8_prime_4 : decode cX8_prime 4 = .ok (.ifCond .ne 10, 3) := by decide +kernel
theorem dX8_prime_7 : decode cX8_prime 7 = .ok (.aload_n 0, 1) := by decide +kernel
theorem dX8_prime_8 : decode cX8_prime 8 = .ok (.bipush (-2), 2) := by decide +kernel
theorem dX8_prime_10 : decode cX8_prime 10 = .ok (.invokevirtual 101, 3) := by decide +kernel
theorem dX8_prime_13 : decode cX8_prime 13 = .ok (.ireturn, 1) := by decide +kernel
theorem dX8_prime_14 : decode cX8_prime 14 = .ok (.aload_n 0, 1) := by decide +kernel
theorem dX8_prime_15 : decode cX8_prime 15 = .ok (.invokevirtual 104, 3) := by decide +kernel
theorem dX8_prime_18 : decode cX8_prime 18 = .ok (.aload_n 0, 1) := by decide +kernel
theorem dX8_prime_19 : decode cX8_prime 19 = .ok (.iload_n 1, 1) := by decide +kernel
theorem dX8_prime_20 : decode cX8_prime 20 = .ok (.invokevirtual 107, 3) := by decide +kernel
theorem dX8_prime_23 : decode cX8_prime 23 = .ok (.ireturn, 1) := by decide +kernel
set_option maxRecDepth 20000 in
theorem ggX8_columnsNow_X8_width : GoodIn wsX8_columnsNow wsX8_width := goodIn_r _ [6, 1, 11, 12, 13, 14, 15, 16, 17, 18, 19, 20, 21, 22, 23, 24, 25, 26, 27, 28, 29, 30, 31, 32, 33, 34] (by decide +kernel) (by decide +kernel)
set_option maxRecDepth 20000 in
theorem gX8_columnsNow_X8_width : GoodIn wsX8_columnsNow (wsV RX8 73 RX8 yX8_width wsX8_width) := goodIn_app (goodIn_of _ (by decide +kernel)) ggX8_columnsNow_X8_width
set_option maxRecDepth 20000 in
theorem ggX8_columnsNow_X8_clears : GoodIn wsX8_columnsNow wsX8_clears := goodIn_r _ [10, 1, 11, 12, 13, 14, 15, 16, 17, 18, 19, 20, 21, 22, 23, 24, 25, 26, 27, 28, 29, 30, 31, 32, 33, 34] (by decide +kernel) (by decide +kernel)
set_option maxRecDepth 20000 in
theorem gX8_columnsNow_X8_clears : GoodIn wsX8_columnsNow (wsV RX8 94 RX8 yX8_clears wsX8_clears) := goodIn_app (goodIn_of _ (by decide +kernel)) ggX8_columnsNow_X8_clears
theorem dX8_columnsNow_0 : decode cX8_columnsNow 0 = .ok (.aload_n 0, 1) := by decide +kernel
theorem dX8_columnsNow_1 : decode cX8_columnsNow 1 = .ok (.invokevirtual 73, 3) := by decide +kernel
theorem dX8_columnsNow_4 : decode cX8_columnsNow 4 = .ok (.istore_n 2, 1) := by decide +kernel
theorem dX8_columnsNow_5 : decode cX8_columnsNow 5 = .ok (.aload_n 0, 1) := by decide +kernel
theorem dX8_columnsNow_6 : decode cX8_columnsNow 6 = .ok (.getfield 7, 3) := by decide +kernel
theorem dX8_columnsNow_9 : decode cX8_columnsNow 9 = .ok (.iconst 1, 1) := by decide +kernel
theorem dX8_columnsNow_10 : decode cX8_columnsNow 10 = .ok (.iload_n 1, 1) := by decide +kernel
theorem dX8_columnsNow_11 : decode cX8_columnsNow 11 = .ok (.iastore, 1) := by decide +kernel
theorem dX8_columnsNow_12 : decode cX8_columnsNow 12 = .ok (.aload_n 0, 1) := by decide +kernel
theorem dX8_columnsNow_13 : decode cX8_columnsNow 13 = .ok (.invokevirtual 94, 3) := by decide +kernel
theorem dX8_columnsNow_16 : decode cX8_columnsNow 16 = .ok (.iload_n 2, 1) := by decide +kernel
theorem dX8_columnsNow_17 : decode cX8_columnsNow 17 = .ok (.ireturn, 1) := by decide +kernel
set_option maxRecDepth 20000 in
theorem ggX8_columns_X8_in : GoodIn wsX8_columns wsX8_in := goodIn_r _ [5] (by decide +kernel) (by decide +kernel)
set_option maxRecDepth 20000 in
theorem gX8_columns_X8_in : GoodIn wsX8_columns (va_wsS RX8 69 yX8_in wsX8_in) := goodIn_app (goodIn_of _ (by decide +kernel)) ggX8_columns_X8_in
set_option maxRecDepth 20000 in
theorem ggX8_columns_X8_refuses : GoodIn wsX8_columns wsX8_refuses := goodIn_r _ [9, 10, 30, 31, 32, 33, 34, 35, 36, 37, 38, 39, 40, 41, 42, 43, 44, 45, 46, 47, 48, 49, 50, 51, 52, 53] (by decide +kernel) (by decide +kernel)
set_option maxRecDepth 20000 in
theorem gX8_columns_X8_refuses : GoodIn wsX8_columns (wsV RX8 101 RX8 yX8_refuses wsX8_refuses) := goodIn_app (goodIn_of _ (by decide +kernel)) ggX8_columns_X8_refuses
set_option maxRecDepth 20000 in
theorem ggX8_columns_X8_keep : GoodIn wsX8_columns wsX8_keep := goodIn_r _ [14, 15, 16, 17, 30, 31, 32, 33, 34, 35, 36, 37, 38, 39, 40, 41, 42, 43, 44, 45, 46, 47, 48, 49, 50, 51, 52, 53] (by decide +kernel) (by decide +kernel)
set_option maxRecDepth 20000 in
theorem gX8_columns_X8_keep : GoodIn wsX8_columns (wsV RX8 104 RX8 yX8_keep wsX8_keep) := goodIn_app (goodIn_of _ (by decide +kernel)) ggX8_columns_X8_keep
set_option maxRecDepth 20000 in
theorem ggX8_columns_X8_columnsNow : GoodIn wsX8_columns wsX8_columnsNow := goodIn_r _ [21, 17, 22, 23, 24, 4, 25, 26, 27, 28, 29, 30, 31, 32, 33, 34, 35, 36, 37, 38, 39, 40, 41, 42, 43, 44, 45, 46, 47, 48, 49, 50, 51, 52, 53] (by decide +kernel) (by decide +kernel)
set_option maxRecDepth 20000 in
theorem gX8_columns_X8_columnsNow : GoodIn wsX8_columns (wsV RX8 112 RX8 yX8_columnsNow wsX8_columnsNow) := goodIn_app (goodIn_of _ (by decide +kernel)) ggX8_columns_X8_columnsNow
theorem dX8_columns_0 : decode cX8_columns 0 = .ok (.iload_n 1, 1) := by decide +kernel
theorem dX8_columns_1 : decode cX8_columns 1 = .ok (.i2l, 1) := by decide +kernel
theorem dX8_columns_2 : decode cX8_columns 2 = .ok (.lconst 1, 1) := by decide +kernel
theorem dX8_columns_3 : decode cX8_columns 3 = .ok (.ldc2_w 110, 3) := by decide +kernel
theorem dX8_columns_6 : decode cX8_columns 6 = .ok (.invokestatic 69, 3) := by decide +kernel
theorem dX8_columns_9 : decode cX8_columns 9 = .ok (.ifCond .ne 10, 3) := by decide +kernel
theorem dX8_columns_12 : decode cX8_columns 12 = .ok (.aload_n 0, 1) := by decide +kernel
theorem dX8_columns_13 : decode cX8_columns 13 = .ok (.bipush (-2), 2) := by decide +kernel
theorem dX8_columns_15 : decode cX8_columns 15 = .ok (.invokevirtual 101, 3) := by decide +kernel
theorem dX8_columns_18 : decode cX8_columns 18 = .ok (.ireturn, 1) := by decide +kernel
theorem dX8_columns_19 : decode cX8_columns 19 = .ok (.aload_n 0, 1) := by decide +kernel
theorem dX8_columns_20 : decode cX8_columns 20 = .ok (.invokevirtual 104, 3) := by decide +kernel
theorem dX8_columns_23 : decode cX8_columns 23 = .ok (.aload_n 0, 1) := by decide +kernel
theorem dX8_columns_24 : decode cX8_columns 24 = .ok (.iload_n 1, 1) := by decide +kernel
theorem dX8_columns_25 : decode cX8_columns 25 = .ok (.invokevirtual 112, 3) := by decide +kernel
theorem dX8_columns_28 : decode cX8_columns 28 = .ok (.ireturn, 1) := by decide +kernel
set_option maxRecDepth 20000 in
theorem ggX8_rowNow_X8_rows : GoodIn wsX8_rowNow wsX8_rows := goodIn_r _ [6, 1, 10, 11, 12, 13, 14, 15, 16, 17, 18, 19, 20, 21, 22, 23, 24, 25, 26, 27, 28, 29, 30, 31, 32, 33] (by decide +kernel) (by decide +kernel)
set_option maxRecDepth 20000 in
theorem gX8_rowNow_X8_rows : GoodIn wsX8_rowNow (wsV RX8 65 RX8 yX8_rows wsX8_rows) := goodIn_app (goodIn_of _ (by decide +kernel)) ggX8_rowNow_X8_rows
set_option maxRecDepth 20000 in
theorem ggX8_rowNow_X8_place : GoodIn wsX8_rowNow wsX8_place := goodIn_r _ [9] (by decide +kernel) (by decide +kernel)
set_option maxRecDepth 20000 in
theorem gX8_rowNow_X8_place : GoodIn wsX8_rowNow (va_wsS RX8 79 yX8_place wsX8_place) := goodIn_app (goodIn_of _ (by decide +kernel)) ggX8_rowNow_X8_place
theorem dX8_rowNow_0 : decode cX8_rowNow 0 = .ok (.aload_n 0, 1) := by decide +kernel
theorem dX8_rowNow_1 : decode cX8_rowNow 1 = .ok (.invokevirtual 65, 3) := by decide +kernel
theorem dX8_rowNow_4 : decode cX8_rowNow 4 = .ok (.istore_n 1, 1) := by decide +kernel
theorem dX8_rowNow_5 : decode cX8_rowNow 5 = .ok (.iconst 0, 1) := by decide +kernel
theorem dX8_rowNow_6 : decode cX8_rowNow 6 = .ok (.istore_n 2, 1) := by decide +kernel
theorem dX8_rowNow_7 : decode cX8_rowNow 7 = .ok (.iload_n 2, 1) := by decide +kernel
theorem dX8_rowNow_8 : decode cX8_rowNow 8 = .ok (.bipush 21, 2) := by decide +kernel
theorem dX8_rowNow_10 : decode cX8_rowNow 10 = .ok (.if_icmp .ge 21, 3) := by decide +kernel
theorem dX8_rowNow_13 : decode cX8_rowNow 13 = .ok (.aload_n 0, 1) := by decide +kernel
theorem dX8_rowNow_14 : decode cX8_rowNow 14 = .ok (.getfield 7, 3) := by decide +kernel
theorem dX8_rowNow_17 : decode cX8_rowNow 17 = .ok (.iload_n 1, 1) := by decide +kernel
theorem dX8_rowNow_18 : decode cX8_rowNow 18 = .ok (.iconst 0, 1) := by decide +kernel
theorem dX8_rowNow_19 : decode cX8_rowNow 19 = .ok (.iload_n 2, 1) := by decide +kernel
theorem dX8_rowNow_20 : decode cX8_rowNow 20 = .ok (.invokestatic 79, 3) := by decide +kernel
theorem dX8_rowNow_23 : decode cX8_rowNow 23 = .ok (.iconst 0, 1) := by decide +kernel
theorem dX8_rowNow_24 : decode cX8_rowNow 24 = .ok (.iastore, 1) := by decide +kernel
theorem dX8_rowNow_25 : decode cX8_rowNow 25 = .ok (.iinc 2 1, 3) := by decide +kernel
theorem dX8_rowNow_28 : decode cX8_rowNow 28 = .ok (.goto (-21), 3) := by decide +kernel
theorem dX8_rowNow_31 : decode cX8_rowNow 31 = .ok (.aload_n 0, 1) := by decide +kernel
theorem dX8_rowNow_32 : decode cX8_rowNow 32 = .ok (.getfield 7, 3) := by decide +kernel
theorem dX8_rowNow_35 : decode cX8_rowNow 35 = .ok (.iconst 2, 1) := by decide +kernel
theorem dX8_rowNow_36 : decode cX8_rowNow 36 = .ok (.dup2, 1) := by decide +kernel
theorem dX8_rowNow_37 : decode cX8_rowNow 37 = .ok (.iaload, 1) := by decide +kernel
theorem dX8_rowNow_38 : decode cX8_rowNow 38 = .ok (.iconst 1, 1) := by decide +kernel
theorem dX8_rowNow_39 : decode cX8_rowNow 39 = .ok (.iadd, 1) := by decide +kernel
theorem dX8_rowNow_40 : decode cX8_rowNow 40 = .ok (.iastore, 1) := by decide +kernel
theorem dX8_rowNow_41 : decode cX8_rowNow 41 = .ok (.iload_n 1, 1) := by decide +kernel
theorem dX8_rowNow_42 : decode cX8_rowNow 42 = .ok (.ireturn, 1) := by decide +kernel
set_option maxRecDepth 20000 in
theorem ggX8_row_X8_rows : GoodIn wsX8_row wsX8_rows := goodIn_r _ [5, 6, 25, 26, 27, 28, 29, 30, 31, 32, 33, 34, 35, 36, 37, 38, 39, 40, 41, 42, 43, 44, 45, 46, 47, 48] (by decide +kernel) (by decide +kernel)
set_option maxRecDepth 20000 in
theorem gX8_row_X8_rows : GoodIn wsX8_row (wsV RX8 65 RX8 yX8_rows wsX8_rows) := goodIn_app (goodIn_of _ (by decide +kernel)) ggX8_row_X8_rows
set_option maxRecDepth 20000 in
theorem ggX8_row_X8_refuses : GoodIn wsX8_row wsX8_refuses := goodIn_r _ [10, 11, 25, 26, 27, 28, 29, 30, 31, 32, 33, 34, 35, 36, 37, 38, 39, 40, 41, 42, 43, 44, 45, 46, 47, 48] (by decide +kernel) (by decide +kernel)
set_option maxRecDepth 20000 in
theorem gX8_row_X8_refuses : GoodIn wsX8_row (wsV RX8 101 RX8 yX8_refuses wsX8_refuses) := goodIn_app (goodIn_of _ (by decide +kernel)) ggX8_row_X8_refuses
set_option maxRecDepth 20000 in
theorem ggX8_row_X8_keep : GoodIn wsX8_row wsX8_keep := goodIn_r _ [15, 16, 17, 6, 25, 26, 27, 28, 29, 30, 31, 32, 33, 34, 35, 36, 37, 38, 39, 40, 41, 42, 43, 44, 45, 46, 47, 48] (by decide +kernel) (by decide +kernel)
set_option maxRecDepth 20000 in
theorem gX8_row_X8_keep : GoodIn wsX8_row (wsV RX8 104 RX8 yX8_keep wsX8_keep) := goodIn_app (goodIn_of _ (by decide +kernel)) ggX8_row_X8_keep
set_option maxRecDepth 20000 in
theorem ggX8_row_X8_rowNow : GoodIn wsX8_row wsX8_rowNow := goodIn_r _ [21, 6, 1, 2, 3, 4, 5, 22, 23, 24, 25, 26, 27, 28, 29, 30, 31, 32, 33, 34, 35, 36, 37, 38, 39, 40, 41, 42, 43, 44, 45, 46, 47, 48] (by decide +kernel) (by decide +kernel)
set_option maxRecDepth 20000 in
theorem gX8_row_X8_rowNow : GoodIn wsX8_row (wsV RX8 115 RX8 yX8_rowNow wsX8_rowNow) := goodIn_app (goodIn_of _ (by decide +kernel)) ggX8_row_X8_rowNow
theorem dX8_row_0 : decode cX8_row 0 = .ok (.aload_n 0, 1) := by decide +kernel
theorem dX8_row_1 : decode cX8_row 1 = .ok (.invokevirtual 65, 3) := by decide +kernel
theorem dX8_row_4 : decode cX8_row 4 = .ok (.iconst 5, 1) := by decide +kernel
theorem dX8_row_5 : decode cX8_row 5 = .ok (.if_icmp .ne 10, 3) := by decide +kernel
theorem dX8_row_8 : decode cX8_row 8 = .ok (.aload_n 0, 1) := by decide +kernel
theorem dX8_row_9 : decode cX8_row 9 = .ok (.bipush (-4), 2) := by decide +kernel
theorem dX8_row_11 : decode cX8_row 11 = .ok (.invokevirtual 101, 3) := by decide +kernel
theorem dX8_row_14 : decode cX8_row 14 = .ok (.ireturn, 1) := by decide +kernel
theorem dX8_row_15 : decode cX8_row 15 = .ok (.aload_n 0, 1) := by decide +kernel
theorem dX8_row_16 : decode cX8_row 16 = .ok (.invokevirtual 104, 3) := by decide +kernel
theorem dX8_row_19 : decode cX8_row 19 = .ok (.aload_n 0, 1) := by decide +kernel
theorem dX8_row_20 : decode cX8_row 20 = .ok (.invokevirtual 115, 3) := by decide +kernel
theorem dX8_row_23 : decode cX8_row 23 = .ok (.ireturn, 1) := by decide +kernel
set_option maxRecDepth 20000 in
theorem ggX8_sets_X8_isRow : GoodIn wsX8_sets wsX8_isRow := goodIn_r _ [7, 8, 9, 10, 6, 11, 2, 12, 13, 14, 45, 46, 47, 48, 49, 50, 51, 52, 53, 54, 55, 56, 57, 58, 59, 60, 61, 62, 63, 64, 65, 66, 67, 68] (by decide +kernel) (by decide +kernel)
set_option maxRecDepth 20000 in
theorem gX8_sets_X8_isRow : GoodIn wsX8_sets (wsV RX8 118 RX8 yX8_isRow wsX8_isRow) := goodIn_app (goodIn_of _ (by decide +kernel)) ggX8_sets_X8_isRow
set_option maxRecDepth 20000 in
theorem ggX8_sets_X8_isColumn : GoodIn wsX8_sets wsX8_isColumn := goodIn_r _ [18, 19, 20, 21, 6, 22, 2, 12, 13, 14, 45, 46, 47, 48, 49, 50, 51, 52, 53, 54, 55, 56, 57, 58, 59, 60, 61, 62, 63, 64, 65, 66, 67, 68] (by decide +kernel) (by decide +kernel)
set_option maxRecDepth 20000 in
theorem gX8_sets_X8_isColumn : GoodIn wsX8_sets (wsV RX8 121 RX8 yX8_isColumn wsX8_isColumn) := goodIn_app (goodIn_of _ (by decide +kernel)) ggX8_sets_X8_isColumn
set_option maxRecDepth 20000 in
theorem ggX8_sets_X8_in : GoodIn wsX8_sets wsX8_in := goodIn_r _ [14] (by decide +kernel) (by decide +kernel)
set_option maxRecDepth 20000 in
theorem gX8_sets_X8_in : GoodIn wsX8_sets (va_wsS RX8 69 yX8_in wsX8_in) := goodIn_app (goodIn_of _ (by decide +kernel)) ggX8_sets_X8_in
set_option maxRecDepth 20000 in
theorem ggX8_sets_X8_refuses : GoodIn wsX8_sets wsX8_refuses := goodIn_r _ [26, 27, 45, 46, 47, 48, 49, 50, 51, 52, 53, 54, 55, 56, 57, 58, 59, 60, 61, 62, 63, 64, 65, 66, 67, 68] (by decide +kernel) (by decide +kernel)
set_option maxRecDepth 20000 in
theorem gX8_sets_X8_refuses : GoodIn wsX8_sets (wsV RX8 101 RX8 yX8_refuses wsX8_refuses) := goodIn_app (goodIn_of _ (by decide +kernel)) ggX8_sets_X8_refuses
set_option maxRecDepth 20000 in
theorem ggX8_sets_X8_keep : GoodIn wsX8_sets wsX8_keep := goodIn_r _ [31, 32, 33, 2, 45, 46, 47, 48, 49, 50, 51, 52, 53, 54, 55, 56, 57, 58, 59, 60, 61, 62, 63, 64, 65, 66, 67, 68] (by decide +kernel) (by decide +kernel)
set_option maxRecDepth 20000 in
theorem gX8_sets_X8_keep : GoodIn wsX8_sets (wsV RX8 104 RX8 yX8_keep wsX8_keep) := goodIn_app (goodIn_of _ (by decide +kernel)) ggX8_sets_X8_keep
set_option maxRecDepth 20000 in
theorem ggX8_sets_X8_place : GoodIn wsX8_sets wsX8_place := goodIn_r _ [36] (by decide +kernel) (by decide +kernel)
set_option maxRecDepth 20000 in
theorem gX8_sets_X8_place : GoodIn wsX8_sets (va_wsS RX8 79 yX8_place wsX8_place) := goodIn_app (goodIn_of _ (by decide +kernel)) ggX8_sets_X8_place
set_option maxRecDepth 20000 in
theorem ggX8_sets_X8_left : GoodIn wsX8_sets wsX8_left := goodIn_r _ [40, 41, 42, 43, 6, 44, 2, 45, 46, 47, 48, 49, 50, 51, 52, 53, 54, 55, 56, 57, 58, 59, 60, 61, 62, 63, 64, 65, 66, 67, 68] (by decide +kernel) (by decide +kernel)
set_option maxRecDepth 20000 in
theorem gX8_sets_X8_left : GoodIn wsX8_sets (wsV RX8 126 RX8 yX8_left wsX8_left) := goodIn_app (goodIn_of _ (by decide +kernel)) ggX8_sets_X8_left
theorem dX8_sets_0 : decode cX8_sets 0 = .ok (.aload_n 0, 1) := by decide +kernel
theorem dX8_sets_1 : decode cX8_sets 1 = .ok (.iload_n 1, 1) := by decide +kernel
theorem dX8_sets_2 : decode cX8_sets 2 = .ok (.invokevirtual 118, 3) := by decide +kernel
theorem dX8_sets_5 : decode cX8_sets 5 = .ok (.ifCond .eq 23, 3) := by decide +kernel
theorem dX8_sets_8 : decode cX8_sets 8 = .ok (.aload_n 0, 1) := by decide +kernel
theorem dX8_sets_9 : decode cX8_sets 9 = .ok (.iload_n 2, 1) := by decide +kernel
theorem dX8_sets_10 : decode cX8_sets 10 = .ok (.invokevirtual 121, 3) := by decide +kernel
theorem dX8_sets_13 : decode cX8_sets 13 = .ok (.ifCond .eq 15, 3) := by decide +kernel
theorem dX8_sets_16 : decode cX8_sets 16 = .ok (.iload_n 3, 1) := by decide +kernel
theorem dX8_sets_17 : decode cX8_sets 17 = .ok (.i2l, 1) := by decide +kernel
theorem dX8_sets_18 : decode cX8_sets 18 = .ok (.lconst 0, 1) := by decide +kernel
theorem dX8_sets_19 : decode cX8_sets 19 = .ok (.ldc2_w 124, 3) := by decide +kernel
theorem dX8_sets_22 : decode cX8_sets 22 = .ok (.invokestatic 69, 3) := by decide +kernel
theorem dX8_sets_25 : decode cX8_sets 25 = .ok (.ifCond .ne 10, 3) := by decide +kernel
theorem dX8_sets_28 : decode cX8_sets 28 = .ok (.aload_n 0, 1) := by decide +kernel
theorem dX8_sets_29 : decode cX8_sets 29 = .ok (.bipush (-2), 2) := by decide +kernel
theorem dX8_sets_31 : decode cX8_sets 31 = .ok (.invokevirtual 101, 3) := by decide +kernel
theorem dX8_sets_34 : decode cX8_sets 34 = .ok (.ireturn, 1) := by decide +kernel
theorem dX8_sets_35 : decode cX8_sets 35 = .ok (.aload_n 0, 1) := by decide +kernel
theorem dX8_sets_36 : decode cX8_sets 36 = .ok (.invokevirtual 104, 3) := by decide +kernel
theorem dX8_sets_39 : decode cX8_sets 39 = .ok (.aload_n 0, 1) := by decide +kernel
theorem dX8_sets_40 : decode cX8_sets 40 = .ok (.getfield 7, 3) := by decide +kernel
theorem dX8_sets_43 : decode cX8_sets 43 = .ok (.iload_n 1, 1) := by decide +kernel
theorem dX8_sets_44 : decode cX8_sets 44 = .ok (.iload_n 2, 1) := by decide +kernel
theorem dX8_sets_45 : decode cX8_sets 45 = .ok (.iload_n 3, 1) := by decide +kernel
theorem dX8_sets_46 : decode cX8_sets 46 = .ok (.invokestatic 79, 3) := by decide +kernel
theorem dX8_sets_49 : decode cX8_sets 49 = .ok (.iaload, 1) := by decide +kernel
theorem dX8_sets_50 : decode cX8_sets 50 = .ok (.istore 5, 2) := by decide +kernel
theorem dX8_sets_52 : decode cX8_sets 52 = .ok (.aload_n 0, 1) := by decide +kernel
theorem dX8_sets_53 : decode cX8_sets 53 = .ok (.getfield 7, 3) := by decide +kernel
theorem dX8_sets_56 : decode cX8_sets 56 = .ok (.iload_n 1, 1) := by decide +kernel
theorem dX8_sets_57 : decode cX8_sets 57 = .ok (.iload_n 2, 1) := by decide +kernel
theorem dX8_sets_58 : decode cX8_sets 58 = .ok (.iload_n 3, 1) := by decide +kernel
theorem dX8_sets_59 : decode cX8_sets 59 = .ok (.invokestatic 79, 3) := by decide +kernel
theorem dX8_sets_62 : decode cX8_sets 62 = .ok (.aload_n 0, 1) := by decide +kernel
theorem dX8_sets_63 : decode cX8_sets 63 = .ok (.iload 4, 2) := by decide +kernel
theorem dX8_sets_65 : decode cX8_sets 65 = .ok (.invokevirtual 126, 3) := by decide +kernel
theorem dX8_sets_68 : decode cX8_sets 68 = .ok (.iastore, 1) := by decide +kernel
theorem dX8_sets_69 : decode cX8_sets 69 = .ok (.iload 5, 2) := by decide +kernel
theorem dX8_sets_71 : decode cX8_sets 71 = .ok (.ireturn, 1) := by decide +kernel
set_option maxRecDepth 20000 in
theorem ggX8_dropNow_X8_place : GoodIn wsX8_dropNow wsX8_place := goodIn_r _ [5] (by decide +kernel) (by decide +kernel)
set_option maxRecDepth 20000 in
theorem gX8_dropNow_X8_place : GoodIn wsX8_dropNow (va_wsS RX8 79 yX8_place wsX8_place) := goodIn_app (goodIn_of _ (by decide +kernel)) ggX8_dropNow_X8_place
set_option maxRecDepth 20000 in
theorem ggX8_dropNow_X8_rows : GoodIn wsX8_dropNow wsX8_rows := goodIn_r _ [9, 1, 10, 11, 12, 13, 14, 15, 16, 17, 18, 19, 20, 21, 22, 23, 24, 25, 26, 27, 28, 29, 30, 31, 32, 33] (by decide +kernel) (by decide +kernel)
set_option maxRecDepth 20000 in
theorem gX8_dropNow_X8_rows : GoodIn wsX8_dropNow (wsV RX8 65 RX8 yX8_rows wsX8_rows) := goodIn_app (goodIn_of _ (by decide +kernel)) ggX8_dropNow_X8_rows
theorem dX8_dropNow_0 : decode cX8_dropNow 0 = .ok (.aload_n 0, 1) := by decide +kernel
theorem dX8_dropNow_1 : decode cX8_dropNow 1 = .ok (.getfield 7, 3) := by decide +kernel
theorem dX8_dropNow_4 : decode cX8_dropNow 4 = .ok (.iconst 2, 1) := by decide +kernel
theorem dX8_dropNow_5 : decode cX8_dropNow 5 = .ok (.dup2, 1) := by decide +kernel
theorem dX8_dropNow_6 : decode cX8_dropNow 6 = .ok (.iaload, 1) := by decide +kernel
theorem dX8_dropNow_7 : decode cX8_dropNow 7 = .ok (.iconst 1, 1) := by decide +kernel
theorem dX8_dropNow_8 : decode cX8_dropNow 8 = .ok (.isub, 1) := by decide +kernel
theorem dX8_dropNow_9 : decode cX8_dropNow 9 = .ok (.iastore, 1) := by decide +kernel
theorem dX8_dropNow_10 : decode cX8_dropNow 10 = .ok (.iload_n 1, 1) := by decide +kernel
theorem dX8_dropNow_11 : decode cX8_dropNow 11 = .ok (.iconst 0, 1) := by decide +kernel
theorem dX8_dropNow_12 : decode cX8_dropNow 12 = .ok (.iconst 0, 1) := by decide +kernel
theorem dX8_dropNow_13 : decode cX8_dropNow 13 = .ok (.invokestatic 79, 3) := by decide +kernel
theorem dX8_dropNow_16 : decode cX8_dropNow 16 = .ok (.istore_n 2, 1) := by decide +kernel
theorem dX8_dropNow_17 : decode cX8_dropNow 17 = .ok (.iload_n 2, 1) := by decide +kernel
theorem dX8_dropNow_18 : decode cX8_dropNow 18 = .ok (.aload_n 0, 1) := by decide +kernel
theorem dX8_dropNow_19 : decode cX8_dropNow 19 = .ok (.invokevirtual 65, 3) := by decide +kernel
theorem dX8_dropNow_22 : decode cX8_dropNow 22 = .ok (.iconst 0, 1) := by decide +kernel
theorem dX8_dropNow_23 : decode cX8_dropNow 23 = .ok (.iconst 0, 1) := by decide +kernel
theorem dX8_dropNow_24 : decode cX8_dropNow 24 = .ok (.invokestatic 79, 3) := by decide +kernel
theorem dX8_dropNow_27 : decode cX8_dropNow 27 = .ok (.if_icmp .ge 24, 3) := by decide +kernel
theorem dX8_dropNow_30 : decode cX8_dropNow 30 = .ok (.aload_n 0, 1) := by decide +kernel
theorem dX8_dropNow_31 : decode cX8_dropNow 31 = .ok (.getfield 7, 3) := by decide +kernel
theorem dX8_dropNow_34 : decode cX8_dropNow 34 = .ok (.iload_n 2, 1) := by decide +kernel
theorem dX8_dropNow_35 : decode cX8_dropNow 35 = .ok (.aload_n 0, 1) := by decide +kernel
theorem dX8_dropNow_36 : decode cX8_dropNow 36 = .ok (.getfield 7, 3) := by decide +kernel
theorem dX8_dropNow_39 : decode cX8_dropNow 39 = .ok (.iload_n 2, 1) := by decide +kernel
theorem dX8_dropNow_40 : decode cX8_dropNow 40 = .ok (.bipush 21, 2) := by decide +kernel
theorem dX8_dropNow_42 : decode cX8_dropNow 42 = .ok (.iadd, 1) := by decide +kernel
theorem dX8_dropNow_43 : decode cX8_dropNow 43 = .ok (.iaload, 1) := by decide +kernel
theorem dX8_dropNow_44 : decode cX8_dropNow 44 = .ok (.iastore, 1) := by decide +kernel
theorem dX8_dropNow_45 : decode cX8_dropNow 45 = .ok (.iinc 2 1, 3) := by decide +kernel
theorem dX8_dropNow_48 : decode cX8_dropNow 48 = .ok (.goto (-31), 3) := by decide +kernel
theorem dX8_dropNow_51 : decode cX8_dropNow 51 = .ok (.aload_n 0, 1) := by decide +kernel
theorem dX8_dropNow_52 : decode cX8_dropNow 52 = .ok (.invokevirtual 65, 3) := by decide +kernel
theorem dX8_dropNow_55 : decode cX8_dropNow 55 = .ok (.ireturn, 1) := by decide +kernel
set_option maxRecDepth 20000 in
theorem ggX8_drops_X8_isRow : GoodIn wsX8_drops wsX8_isRow := goodIn_r _ [5, 6, 7, 8, 4, 9, 10, 11, 12, 13, 32, 33, 34, 35, 36, 37, 38, 39, 40, 41, 42, 43, 44, 45, 46, 47, 48, 49, 50, 51, 52, 53, 54, 55] (by decide +kernel) (by decide +kernel)
set_option maxRecDepth 20000 in
theorem gX8_drops_X8_isRow : GoodIn wsX8_drops (wsV RX8 118 RX8 yX8_isRow wsX8_isRow) := goodIn_app (goodIn_of _ (by decide +kernel)) ggX8_drops_X8_isRow
set_option maxRecDepth 20000 in
theorem ggX8_drops_X8_refuses : GoodIn wsX8_drops wsX8_refuses := goodIn_r _ [17, 18, 32, 33, 34, 35, 36, 37, 38, 39, 40, 41, 42, 43, 44, 45, 46, 47, 48, 49, 50, 51, 52, 53, 54, 55] (by decide +kernel) (by decide +kernel)
set_option maxRecDepth 20000 in
theorem gX8_drops_X8_refuses : GoodIn wsX8_drops (wsV RX8 101 RX8 yX8_refuses wsX8_refuses) := goodIn_app (goodIn_of _ (by decide +kernel)) ggX8_drops_X8_refuses
set_option maxRecDepth 20000 in
theorem ggX8_drops_X8_keep : GoodIn wsX8_drops wsX8_keep := goodIn_r _ [22, 23, 24, 10, 32, 33, 34, 35, 36, 37, 38, 39, 40, 41, 42, 43, 44, 45, 46, 47, 48, 49, 50, 51, 52, 53, 54, 55] (by decide +kernel) (by decide +kernel)
set_option maxRecDepth 20000 in
theorem gX8_drops_X8_keep : GoodIn wsX8_drops (wsV RX8 104 RX8 yX8_keep wsX8_keep) := goodIn_app (goodIn_of _ (by decide +kernel)) ggX8_drops_X8_keep
set_option maxRecDepth 20000 in
theorem ggX8_drops_X8_dropNow : GoodIn wsX8_drops wsX8_dropNow := goodIn_r _ [28, 10, 29, 30, 4, 31, 6, 7, 8, 9, 32, 33, 34, 35, 36, 37, 38, 39, 40, 41, 42, 43, 44, 45, 46, 47, 48, 49, 50, 51, 52, 53, 54, 55] (by decide +kernel) (by decide +kernel)
set_option maxRecDepth 20000 in
theorem gX8_drops_X8_dropNow : GoodIn wsX8_drops (wsV RX8 129 RX8 yX8_dropNow wsX8_dropNow) := goodIn_app (goodIn_of _ (by decide +kernel)) ggX8_drops_X8_dropNow
theorem dX8_drops_0 : decode cX8_drops 0 = .ok (.aload_n 0, 1) := by decide +kernel
theorem dX8_drops_1 : decode cX8_drops 1 = .ok (.iload_n 1, 1) := by decide +kernel
theorem dX8_drops_2 : decode cX8_drops 2 = .ok (.invokevirtual 118, 3) := by decide +kernel
theorem dX8_drops_5 : decode cX8_drops 5 = .ok (.ifCond .ne 10, 3) := by decide +kernel
theorem dX8_drops_8 : decode cX8_drops 8 = .ok (.aload_n 0, 1) := by decide +kernel
theorem dX8_drops_9 : decode cX8_drops 9 = .ok (.bipush (-2), 2) := by decide +kernel
theorem dX8_drops_11 : decode cX8_drops 11 = .ok (.invokevirtual 101, 3) := by decide +kernel
theorem dX8_drops_14 : decode cX8_drops 14 = .ok (.ireturn, 1) := by decide +kernel
theorem dX8_drops_15 : decode cX8_drops 15 = .ok (.aload_n 0, 1) := by decide +kernel
theorem dX8_drops_16 : decode cX8_drops 16 = .ok (.invokevirtual 104, 3) := by decide +kernel
theorem dX8_drops_19 : decode cX8_drops 19 = .ok (.aload_n 0, 1) := by decide +kernel
theorem dX8_drops_20 : decode cX8_drops 20 = .ok (.iload_n 1, 1) := by decide +kernel
theorem dX8_drops_21 : decode cX8_drops 21 = .ok (.invokevirtual 129, 3) := by decide +kernel
theorem dX8_drops_24 : decode cX8_drops 24 = .ok (.ireturn, 1) := by decide +kernel
set_option maxRecDepth 20000 in
theorem ggX8_canStep_X8_isRow : GoodIn wsX8_canStep wsX8_isRow := goodIn_r _ [6, 7, 8, 9, 5, 10, 11, 12, 13, 14, 34, 35, 36, 37, 38, 39, 40, 41, 42, 43, 44, 45, 46, 47, 48, 49, 50, 51, 52, 53, 54, 55, 56, 57] (by decide +kernel) (by decide +kernel)
set_option maxRecDepth 20000 in
theorem gX8_canStep_X8_isRow : GoodIn wsX8_canStep (wsV RX8 118 RX8 yX8_isRow wsX8_isRow) := goodIn_app (goodIn_of _ (by decide +kernel)) ggX8_canStep_X8_isRow
set_option maxRecDepth 20000 in
theorem ggX8_canStep_X8_in : GoodIn wsX8_canStep wsX8_in := goodIn_r _ [14] (by decide +kernel) (by decide +kernel)
set_option maxRecDepth 20000 in
theorem gX8_canStep_X8_in : GoodIn wsX8_canStep (va_wsS RX8 69 yX8_in wsX8_in) := goodIn_app (goodIn_of _ (by decide +kernel)) ggX8_canStep_X8_in
set_option maxRecDepth 20000 in
theorem ggX8_canStep_X8_modulus : GoodIn wsX8_canStep wsX8_modulus := goodIn_r _ [18, 11, 34, 35, 36, 37, 38, 39, 40, 41, 42, 43, 44, 45, 46, 47, 48, 49, 50, 51, 52, 53, 54, 55, 56, 57] (by decide +kernel) (by decide +kernel)
set_option maxRecDepth 20000 in
theorem gX8_canStep_X8_modulus : GoodIn wsX8_canStep (wsV RX8 76 RX8 yX8_modulus wsX8_modulus) := goodIn_app (goodIn_of _ (by decide +kernel)) ggX8_canStep_X8_modulus
set_option maxRecDepth 20000 in
theorem ggX8_canStep_X8_degree : GoodIn wsX8_canStep wsX8_degree := goodIn_r _ [22, 23, 24, 25, 5, 26, 11, 27, 28, 29, 30, 31, 32, 33, 34, 35, 36, 37, 38, 39, 40, 41, 42, 43, 44, 45, 46, 47, 48, 49, 50, 51, 52, 53, 54, 55, 56, 57] (by decide +kernel) (by decide +kernel)
set_option maxRecDepth 20000 in
theorem gX8_canStep_X8_degree : GoodIn wsX8_canStep (wsV RX8 87 RX8 yX8_degree wsX8_degree) := goodIn_app (goodIn_of _ (by decide +kernel)) ggX8_canStep_X8_degree
theorem dX8_canStep_0 : decode cX8_canStep 0 = .ok (.aload_n 0, 1) := by decide +kernel
theorem dX8_canStep_1 : decode cX8_canStep 1 = .ok (.iload_n 1, 1) := by decide +kernel
theorem dX8_canStep_2 : decode cX8_canStep 2 = .ok (.invokevirtual 118, 3) := by decide +kernel
theorem dX8_canStep_5 : decode cX8_canStep 5 = .ok (.ifCond .eq 41, 3) := by decide +kernel
theorem dX8_canStep_8 : decode cX8_canStep 8 = .ok (.aload_n 0, 1) := by decide +kernel
theorem dX8_canStep_9 : decode cX8_canStep 9 = .ok (.iload_n 2, 1) := by decide +kernel
theorem dX8_canStep_10 : decode cX8_canStep 10 = .ok (.invokevirtual 118, 3) := by decide +kernel
theorem dX8_canStep_13 : decode cX8_canStep 13 = .ok (.ifCond .eq 33, 3) := by decide +kernel
theorem dX8_canStep_16 : decode cX8_canStep 16 = .ok (.iload_n 1, 1) := by decide +kernel
theorem dX8_canStep_17 : decode cX8_canStep 17 = .ok (.iload_n 2, 1) := by decide +kernel
theorem dX8_canStep_18 : decode cX8_canStep 18 = .ok (.if_icmp .eq 28, 3) := by decide +kernel
theorem dX8_canStep_21 : decode cX8_canStep 21 = .ok (.iload_n 3, 1) := by decide +kernel
theorem dX8_canStep_22 : decode cX8_canStep 22 = .ok (.i2l, 1) := by decide +kernel
theorem dX8_canStep_23 : decode cX8_canStep 23 = .ok (.lconst 0, 1) := by decide +kernel
theorem dX8_canStep_24 : decode cX8_canStep 24 = .ok (.ldc2_w 124, 3) := by decide +kernel
theorem dX8_canStep_27 : decode cX8_canStep 27 = .ok (.invokestatic 69, 3) := by decide +kernel
theorem dX8_canStep_30 : decode cX8_canStep 30 = .ok (.ifCond .eq 16, 3) := by decide +kernel
theorem dX8_canStep_33 : decode cX8_canStep 33 = .ok (.iload 4, 2) := by decide +kernel
theorem dX8_canStep_35 : decode cX8_canStep 35 = .ok (.i2l, 1) := by decide +kernel
theorem dX8_canStep_36 : decode cX8_canStep 36 = .ok (.lconst 0, 1) := by decide +kernel
theorem dX8_canStep_37 : decode cX8_canStep 37 = .ok (.ldc2_w 124, 3) := by decide +kernel
theorem dX8_canStep_40 : decode cX8_canStep 40 = .ok (.invokestatic 69, 3) := by decide +kernel
theorem dX8_canStep_43 : decode cX8_canStep 43 = .ok (.ifCond .ne 6, 3) := by decide +kernel
theorem dX8_canStep_46 : decode cX8_canStep 46 = .ok (.bipush (-2), 2) := by decide +kernel
theorem dX8_canStep_48 : decode cX8_canStep 48 = .ok (.ireturn, 1) := by decide +kernel
theorem dX8_canStep_49 : decode cX8_canStep 49 = .ok (.iload_n 3, 1) := by decide +kernel
theorem dX8_canStep_50 : decode cX8_canStep 50 = .ok (.aload_n 0, 1) := by decide +kernel
theorem dX8_canStep_51 : decode cX8_canStep 51 = .ok (.invokevirtual 76, 3) := by decide +kernel
theorem dX8_canStep_54 : decode cX8_canStep 54 = .ok (.irem, 1) := by decide +kernel
theorem dX8_canStep_55 : decode cX8_canStep 55 = .ok (.ifCond .eq 29, 3) := by decide +kernel
theorem dX8_canStep_58 : decode cX8_canStep 58 = .ok (.aload_n 0, 1) := by decide +kernel
theorem dX8_canStep_59 : decode cX8_canStep 59 = .ok (.iload_n 2, 1) := by decide +kernel
theorem dX8_canStep_60 : decode cX8_canStep 60 = .ok (.invokevirtual 87, 3) := by decide +kernel
theorem dX8_canStep_63 : decode cX8_canStep 63 = .ok (.ifCond .lt 21, 3) := by decide +kernel
theorem dX8_canStep_66 : decode cX8_canStep 66 = .ok (.aload_n 0, 1) := by decide +kernel
theorem dX8_canStep_67 : decode cX8_canStep 67 = .ok (.iload_n 2, 1) := by decide +kernel
theorem dX8_canStep_68 : decode cX8_canStep 68 = .ok (.invokevirtual 87, 3) := by decide +kernel
theorem dX8_canStep_71 : decode cX8_canStep 71 = .ok (.iload 4, 2) := by decide +kernel
theorem dX8_canStep_73 : decode cX8_canStep 73 = .ok (.iadd, 1) := by decide +kernel
theorem dX8_canStep_74 : decode cX8_canStep 74 = .ok (.bipush 6, 2) := by decide +kernel
theorem dX8_canStep_76 : decode cX8_canStep 76 = .ok (.if_icmp .le 8, 3) := by decide +kernel
theorem dX8_canStep_79 : decode cX8_canStep 79 = .ok (.bipush (-4), 2) := by decide +kernel
theorem dX8_canStep_81 : decode cX8_canStep 81 = .ok (.goto 4, 3) := by decide +kernel
theorem dX8_canStep_84 : decode cX8_canStep 84 = .ok (.iconst 0, 1) := by decide +kernel
theorem dX8_canStep_85 : decode cX8_canStep 85 = .ok (.ireturn, 1) := by decide +kernel
set_option maxRecDepth 20000 in
theorem ggX8_stepNow_X8_width : GoodIn wsX8_stepNow wsX8_width := goodIn_r _ [6, 1, 26, 27, 28, 29, 30, 31, 32, 33, 34, 35, 36, 37, 38, 39, 40, 41, 42, 43, 44, 45, 46, 47, 48, 49] (by decide +kernel) (by decide +kernel)
set_option maxRecDepth 20000 in
theorem gX8_stepNow_X8_width : GoodIn wsX8_stepNow (wsV RX8 73 RX8 yX8_width wsX8_width) := goodIn_app (goodIn_of _ (by decide +kernel)) ggX8_stepNow_X8_width
set_option maxRecDepth 20000 in
theorem ggX8_stepNow_X8_place : GoodIn wsX8_stepNow wsX8_place := goodIn_r _ [9] (by decide +kernel) (by decide +kernel)
set_option maxRecDepth 20000 in
theorem gX8_stepNow_X8_place : GoodIn wsX8_stepNow (va_wsS RX8 79 yX8_place wsX8_place) := goodIn_app (goodIn_of _ (by decide +kernel)) ggX8_stepNow_X8_place
set_option maxRecDepth 20000 in
theorem ggX8_stepNow_X8_left : GoodIn wsX8_stepNow wsX8_left := goodIn_r _ [13, 14, 15, 16, 5, 17, 1, 26, 27, 28, 29, 30, 31, 32, 33, 34, 35, 36, 37, 38, 39, 40, 41, 42, 43, 44, 45, 46, 47, 48, 49] (by decide +kernel) (by decide +kernel)
set_option maxRecDepth 20000 in
theorem gX8_stepNow_X8_left : GoodIn wsX8_stepNow (wsV RX8 126 RX8 yX8_left wsX8_left) := goodIn_app (goodIn_of _ (by decide +kernel)) ggX8_stepNow_X8_left
set_option maxRecDepth 20000 in
theorem ggX8_stepNow_X8_degree : GoodIn wsX8_stepNow wsX8_degree := goodIn_r _ [21, 2, 3, 4, 5, 6, 1, 22, 23, 24, 25, 7, 8, 9, 26, 27, 28, 29, 30, 31, 32, 33, 34, 35, 36, 37, 38, 39, 40, 41, 42, 43, 44, 45, 46, 47, 48, 49] (by decide +kernel) (by decide +kernel)
set_option maxRecDepth 20000 in
theorem gX8_stepNow_X8_degree : GoodIn wsX8_stepNow (wsV RX8 87 RX8 yX8_degree wsX8_degree) := goodIn_app (goodIn_of _ (by decide +kernel)) ggX8_stepNow_X8_degree
theorem dX8_stepNow_0 : decode cX8_stepNow 0 = .ok (.iconst 0, 1) := by decide +kernel
theorem dX8_stepNow_1 : decode cX8_stepNow 1 = .ok (.istore 5, 2) := by decide +kernel
theorem dX8_stepNow_3 : decode cX8_stepNow 3 = .ok (.iload 5, 2) := by decide +kernel
theorem dX8_stepNow_5 : decode cX8_stepNow 5 = .ok (.aload_n 0, 1) := by decide +kernel
theorem dX8_stepNow_6 : decode cX8_stepNow 6 = .ok (.invokevirtual 73, 3) := by decide +kernel
theorem dX8_stepNow_9 : decode cX8_stepNow 9 = .ok (.if_icmp .ge 75, 3) := by decide +kernel
theorem dX8_stepNow_12 : decode cX8_stepNow 12 = .ok (.iload 4, 2) := by decide +kernel
theorem dX8_stepNow_14 : decode cX8_stepNow 14 = .ok (.istore 6, 2) := by decide +kernel
theorem dX8_stepNow_16 : decode cX8_stepNow 16 = .ok (.iload 6, 2) := by decide +kernel
theorem dX8_stepNow_18 : decode cX8_stepNow 18 = .ok (.bipush 6, 2) := by decide +kernel
theorem dX8_stepNow_20 : decode cX8_stepNow 20 = .ok (.if_icmp .gt 58, 3) := by decide +kernel
theorem dX8_stepNow_23 : decode cX8_stepNow 23 = .ok (.aload_n 0, 1) := by decide +kernel
theorem dX8_stepNow_24 : decode cX8_stepNow 24 = .ok (.getfield 7, 3) := by decide +kernel
theorem dX8_stepNow_27 : decode cX8_stepNow 27 = .ok (.iload_n 1, 1) := by decide +kernel
theorem dX8_stepNow_28 : decode cX8_stepNow 28 = .ok (.iload 5, 2) := by decide +kernel
theorem dX8_stepNow_30 : decode cX8_stepNow 30 = .ok (.iload 6, 2) := by decide +kernel
theorem dX8_stepNow_32 : decode cX8_stepNow 32 = .ok (.invokestatic 79, 3) := by decide +kernel
theorem dX8_stepNow_35 : decode cX8_stepNow 35 = .ok (.aload_n 0, 1) := by decide +kernel
theorem dX8_stepNow_36 : decode cX8_stepNow 36 = .ok (.aload_n 0, 1) := by decide +kernel
theorem dX8_stepNow_37 : decode cX8_stepNow 37 = .ok (.getfield 7, 3) := by decide +kernel
theorem dX8_stepNow_40 : decode cX8_stepNow 40 = .ok (.iload_n 1, 1) := by decide +kernel
theorem dX8_stepNow_41 : decode cX8_stepNow 41 = .ok (.iload 5, 2) := by decide +kernel
theorem dX8_stepNow_43 : decode cX8_stepNow 43 = .ok (.iload 6, 2) := by decide +kernel
theorem dX8_stepNow_45 : decode cX8_stepNow 45 = .ok (.invokestatic 79, 3) := by decide +kernel
theorem dX8_stepNow_48 : decode cX8_stepNow 48 = .ok (.iaload, 1) := by decide +kernel
theorem dX8_stepNow_49 : decode cX8_stepNow 49 = .ok (.iload_n 3, 1) := by decide +kernel
theorem dX8_stepNow_50 : decode cX8_stepNow 50 = .ok (.aload_n 0, 1) := by decide +kernel
theorem dX8_stepNow_51 : decode cX8_stepNow 51 = .ok (.getfield 7, 3) := by decide +kernel
theorem dX8_stepNow_54 : decode cX8_stepNow 54 = .ok (.iload_n 2, 1) := by decide +kernel
theorem dX8_stepNow_55 : decode cX8_stepNow 55 = .ok (.iload 5, 2) := by decide +kernel
theorem dX8_stepNow_57 : decode cX8_stepNow 57 = .ok (.iload 6, 2) := by decide +kernel
theorem dX8_stepNow_59 : decode cX8_stepNow 59 = .ok (.iload 4, 2) := by decide +kernel
theorem dX8_stepNow_61 : decode cX8_stepNow 61 = .ok (.isub, 1) := by decide +kernel
theorem dX8_stepNow_62 : decode cX8_stepNow 62 = .ok (.invokestatic 79, 3) := by decide +kernel
theorem dX8_stepNow_65 : decode cX8_stepNow 65 = .ok (.iaload, 1) := by decide +kernel
theorem dX8_stepNow_66 : decode cX8_stepNow 66 = .ok (.imul, 1) := by decide +kernel
theorem dX8_stepNow_67 : decode cX8_stepNow 67 = .ok (.iadd, 1) := by decide +kernel
theorem dX8_stepNow_68 : decode cX8_stepNow 68 = .ok (.invokevirtual 126, 3) := by decide +kernel
theorem dX8_stepNow_71 : decode cX8_stepNow 71 = .ok (.iastore, 1) := by decide +kernel
theorem dX8_stepNow_72 : decode cX8_stepNow 72 = .ok (.iinc 6 1, 3) := by decide +kernel
theorem dX8_stepNow_75 : decode cX8_stepNow 75 = .ok (.goto (-59), 3) := by decide +kernel
theorem dX8_stepNow_78 : decode cX8_stepNow 78 = .ok (.iinc 5 1, 3) := by decide +kernel
theorem dX8_stepNow_81 : decode cX8_stepNow 81 = .ok (.goto (-78), 3) := by decide +kernel
theorem dX8_stepNow_84 : decode cX8_stepNow 84 = .ok (.aload_n 0, 1) := by decide +kernel
theorem dX8_stepNow_85 : decode cX8_stepNow 85 = .ok (.iload_n 1, 1) := by decide +kernel
theorem dX8_stepNow_86 : decode cX8_stepNow 86 = .ok (.invokevirtual 87, 3) := by decide +kernel
theorem dX8_stepNow_89 : decode cX8_stepNow 89 = .ok (.ireturn, 1) := by decide +kernel
set_option maxRecDepth 20000 in
theorem ggX8_steps_X8_canStep : GoodIn wsX8_steps wsX8_canStep := goodIn_r _ [5, 6, 7, 8, 9, 4, 10, 11, 12, 13, 14, 15, 16, 17, 18, 19, 20, 21, 22, 23, 24, 25, 26, 27, 28, 29, 30, 31, 32, 33, 34, 35, 36, 37, 57, 58, 59, 60, 61, 62, 63, 64, 65, 66, 67, 68, 69, 70, 71, 72, 73, 74, 75, 76, 77, 78, 79, 80] (by decide +kernel) (by decide +kernel)
set_option maxRecDepth 20000 in
theorem gX8_steps_X8_canStep : GoodIn wsX8_steps (wsV RX8 132 RX8 yX8_canStep wsX8_canStep) := goodIn_app (goodIn_of _ (by decide +kernel)) ggX8_steps_X8_canStep
set_option maxRecDepth 20000 in
theorem ggX8_steps_X8_refuses : GoodIn wsX8_steps wsX8_refuses := goodIn_r _ [41, 42, 57, 58, 59, 60, 61, 62, 63, 64, 65, 66, 67, 68, 69, 70, 71, 72, 73, 74, 75, 76, 77, 78, 79, 80] (by decide +kernel) (by decide +kernel)
set_option maxRecDepth 20000 in
theorem gX8_steps_X8_refuses : GoodIn wsX8_steps (wsV RX8 101 RX8 yX8_refuses wsX8_refuses) := goodIn_app (goodIn_of _ (by decide +kernel)) ggX8_steps_X8_refuses
set_option maxRecDepth 20000 in
theorem ggX8_steps_X8_keep : GoodIn wsX8_steps wsX8_keep := goodIn_r _ [46, 47, 48, 15, 57, 58, 59, 60, 61, 62, 63, 64, 65, 66, 67, 68, 69, 70, 71, 72, 73, 74, 75, 76, 77, 78, 79, 80] (by decide +kernel) (by decide +kernel)
set_option maxRecDepth 20000 in
theorem gX8_steps_X8_keep : GoodIn wsX8_steps (wsV RX8 104 RX8 yX8_keep wsX8_keep) := goodIn_app (goodIn_of _ (by decide +kernel)) ggX8_steps_X8_keep
set_option maxRecDepth 20000 in
theorem ggX8_steps_X8_stepNow : GoodIn wsX8_steps wsX8_stepNow := goodIn_r _ [52, 15, 27, 28, 29, 4, 30, 35, 36, 37, 53, 54, 55, 56, 19, 20, 21, 22, 23, 24, 25, 26, 31, 32, 33, 34, 57, 58, 59, 60, 61, 62, 63, 64, 65, 66, 67, 68, 69, 70, 71, 72, 73, 74, 75, 76, 77, 78, 79, 80] (by decide +kernel) (by decide +kernel)
set_option maxRecDepth 20000 in
theorem gX8_steps_X8_stepNow : GoodIn wsX8_steps (wsV RX8 136 RX8 yX8_stepNow wsX8_stepNow) := goodIn_app (goodIn_of _ (by decide +kernel)) ggX8_steps_X8_stepNow
theorem dX8_steps_0 : decode cX8_steps 0 = .ok (.aload_n 0, 1) := by decide +kernel
theorem dX8_steps_1 : decode cX8_steps 1 = .ok (.iload_n 1, 1) := by decide +kernel
theorem dX8_steps_2 : decode cX8_steps 2 = .ok (.iload_n 2, 1) := by decide +kernel
theorem dX8_steps_3 : decode cX8_steps 3 = .ok (.iload_n 3, 1) := by decide +kernel
theorem dX8_steps_4 : decode cX8_steps 4 = .ok (.iload 4, 2) := by decide +kernel
theorem dX8_steps_6 : decode cX8_steps 6 = .ok (.invokevirtual 132, 3) := by decide +kernel
theorem dX8_steps_9 : decode cX8_steps 9 = .ok (.istore 5, 2) := by decide +kernel
theorem dX8_steps_11 : decode cX8_steps 11 = .ok (.iload 5, 2) := by decide +kernel
theorem dX8_steps_13 : decode cX8_steps 13 = .ok (.ifCond .ge 10, 3) := by decide +kernel
theorem dX8_steps_16 : decode cX8_steps 16 = .ok (.aload_n 0, 1) := by decide +kernel
theorem dX8_steps_17 : decode cX8_steps 17 = .ok (.iload 5, 2) := by decide +kernel
theorem dX8_steps_19 : decode cX8_steps 19 = .ok (.invokevirtual 101, 3) := by decide +kernel
theorem dX8_steps_22 : decode cX8_steps 22 = .ok (.ireturn, 1) := by decide +kernel
theorem dX8_steps_23 : decode cX8_steps 23 = .ok (.aload_n 0, 1) := by decide +kernel
theorem dX8_steps_24 : decode cX8_steps 24 = .ok (.invokevirtual 104, 3) := by decide +kernel
theorem dX8_steps_27 : decode cX8_steps 27 = .ok (.aload_n 0, 1) := by decide +kernel
theorem dX8_steps_28 : decode cX8_steps 28 = .ok (.iload_n 1, 1) := by decide +kernel
theorem dX8_steps_29 : decode cX8_steps 29 = .ok (.iload_n 2, 1) := by decide +kernel
theorem dX8_steps_30 : decode cX8_steps 30 = .ok (.iload_n 3, 1) := by decide +kernel
theorem dX8_steps_31 : decode cX8_steps 31 = .ok (.iload 4, 2) := by decide +kernel
theorem dX8_steps_33 : decode cX8_steps 33 = .ok (.invokevirtual 136, 3) := by decide +kernel
theorem dX8_steps_36 : decode cX8_steps 36 = .ok (.ireturn, 1) := by decide +kernel
set_option maxRecDepth 20000 in
theorem ggX8_canMonic_X8_isRow : GoodIn wsX8_canMonic wsX8_isRow := goodIn_r _ [5, 6, 7, 8, 4, 9, 10, 11, 12, 13, 37, 38, 39, 40, 41, 42, 43, 44, 45, 46, 47, 48, 49, 50, 51, 52, 53, 54, 55, 56, 57, 58, 59, 60] (by decide +kernel) (by decide +kernel)
set_option maxRecDepth 20000 in
theorem gX8_canMonic_X8_isRow : GoodIn wsX8_canMonic (wsV RX8 118 RX8 yX8_isRow wsX8_isRow) := goodIn_app (goodIn_of _ (by decide +kernel)) ggX8_canMonic_X8_isRow
set_option maxRecDepth 20000 in
theorem ggX8_canMonic_X8_lead : GoodIn wsX8_canMonic wsX8_lead := goodIn_r _ [17, 10, 18, 19, 20, 4, 21, 22, 23, 24, 25, 26, 27, 28, 29, 30, 31, 32, 33, 34, 35, 36, 37, 38, 39, 40, 41, 42, 43, 44, 45, 46, 47, 48, 49, 50, 51, 52, 53, 54, 55, 56, 57, 58, 59, 60] (by decide +kernel) (by decide +kernel)
set_option maxRecDepth 20000 in
theorem gX8_canMonic_X8_lead : GoodIn wsX8_canMonic (wsV RX8 139 RX8 yX8_lead wsX8_lead) := goodIn_app (goodIn_of _ (by decide +kernel)) ggX8_canMonic_X8_lead
theorem dX8_canMonic_0 : decode cX8_canMonic 0 = .ok (.aload_n 0, 1) := by decide +kernel
theorem dX8_canMonic_1 : decode cX8_canMonic 1 = .ok (.iload_n 1, 1) := by decide +kernel
theorem dX8_canMonic_2 : decode cX8_canMonic 2 = .ok (.invokevirtual 118, 3) := by decide +kernel
theorem dX8_canMonic_5 : decode cX8_canMonic 5 = .ok (.ifCond .ne 8, 3) := by decide +kernel
theorem dX8_canMonic_8 : decode cX8_canMonic 8 = .ok (.bipush (-2), 2) := by decide +kernel
theorem dX8_canMonic_10 : decode cX8_canMonic 10 = .ok (.goto 17, 3) := by decide +kernel
theorem dX8_canMonic_13 : decode cX8_canMonic 13 = .ok (.aload_n 0, 1) := by decide +kernel
theorem dX8_canMonic_14 : decode cX8_canMonic 14 = .ok (.iload_n 1, 1) := by decide +kernel
theorem dX8_canMonic_15 : decode cX8_canMonic 15 = .ok (.invokevirtual 139, 3) := by decide +kernel
theorem dX8_canMonic_18 : decode cX8_canMonic 18 = .ok (.ifCond .ne 8, 3) := by decide +kernel
theorem dX8_canMonic_21 : decode cX8_canMonic 21 = .ok (.bipush (-3), 2) := by decide +kernel
theorem dX8_canMonic_23 : decode cX8_canMonic 23 = .ok (.goto 4, 3) := by decide +kernel
theorem dX8_canMonic_26 : decode cX8_canMonic 26 = .ok (.iconst 0, 1) := by decide +kernel
theorem dX8_canMonic_27 : decode cX8_canMonic 27 = .ok (.ireturn, 1) := by decide +kernel
set_option maxRecDepth 20000 in
theorem ggX8_monicNow_X8_lead : GoodIn wsX8_monicNow wsX8_lead := goodIn_r _ [6, 1, 7, 8, 9, 5, 10, 11, 12, 13, 14, 15, 16, 17, 18, 19, 20, 21, 22, 23, 24, 25, 38, 39, 40, 41, 42, 43, 44, 45, 46, 47, 48, 49, 50, 51, 52, 53, 54, 55, 56, 57, 58, 59, 60, 61] (by decide +kernel) (by decide +kernel)
set_option maxRecDepth 20000 in
theorem gX8_monicNow_X8_lead : GoodIn wsX8_monicNow (wsV RX8 139 RX8 yX8_lead wsX8_lead) := goodIn_app (goodIn_of _ (by decide +kernel)) ggX8_monicNow_X8_lead
set_option maxRecDepth 20000 in
theorem ggX8_monicNow_X8_inverse : GoodIn wsX8_monicNow wsX8_inverse := goodIn_r _ [29, 30, 31, 32, 5, 33, 1, 38, 39, 40, 41, 42, 43, 44, 45, 46, 47, 48, 49, 50, 51, 52, 53, 54, 55, 56, 57, 58, 59, 60, 61] (by decide +kernel) (by decide +kernel)
set_option maxRecDepth 20000 in
theorem gX8_monicNow_X8_inverse : GoodIn wsX8_monicNow (wsV RX8 142 RX8 yX8_inverse wsX8_inverse) := goodIn_app (goodIn_of _ (by decide +kernel)) ggX8_monicNow_X8_inverse
set_option maxRecDepth 20000 in
theorem ggX8_monicNow_X8_place : GoodIn wsX8_monicNow wsX8_place := goodIn_r _ [21] (by decide +kernel) (by decide +kernel)
set_option maxRecDepth 20000 in
theorem gX8_monicNow_X8_place : GoodIn wsX8_monicNow (va_wsS RX8 79 yX8_place wsX8_place) := goodIn_app (goodIn_of _ (by decide +kernel)) ggX8_monicNow_X8_place
set_option maxRecDepth 20000 in
theorem ggX8_monicNow_X8_left : GoodIn wsX8_monicNow wsX8_left := goodIn_r _ [37, 30, 31, 32, 5, 33, 1, 38, 39, 40, 41, 42, 43, 44, 45, 46, 47, 48, 49, 50, 51, 52, 53, 54, 55, 56, 57, 58, 59, 60, 61] (by decide +kernel) (by decide +kernel)
set_option maxRecDepth 20000 in
theorem gX8_monicNow_X8_left : GoodIn wsX8_monicNow (wsV RX8 126 RX8 yX8_left wsX8_left) := goodIn_app (goodIn_of _ (by decide +kernel)) ggX8_monicNow_X8_left
theorem dX8_monicNow_0 : decode cX8_monicNow 0 = .ok (.aload_n 0, 1) := by decide +kernel
theorem dX8_monicNow_1 : decode cX8_monicNow 1 = .ok (.iload_n 1, 1) := by decide +kernel
theorem dX8_monicNow_2 : decode cX8_monicNow 2 = .ok (.invokevirtual 139, 3) := by decide +kernel
theorem dX8_monicNow_5 : decode cX8_monicNow 5 = .ok (.istore_n 2, 1) := by decide +kernel
theorem dX8_monicNow_6 : decode cX8_monicNow 6 = .ok (.aload_n 0, 1) := by decide +kernel
theorem dX8_monicNow_7 : decode cX8_monicNow 7 = .ok (.iload_n 2, 1) := by decide +kernel
theorem dX8_monicNow_8 : decode cX8_monicNow 8 = .ok (.invokevirtual 142, 3) := by decide +kernel
theorem dX8_monicNow_11 : decode cX8_monicNow 11 = .ok (.istore_n 3, 1) := by decide +kernel
theorem dX8_monicNow_12 : decode cX8_monicNow 12 = .ok (.iconst 0, 1) := by decide +kernel
theorem dX8_monicNow_13 : decode cX8_monicNow 13 = .ok (.istore 4, 2) := by decide +kernel
theorem dX8_monicNow_15 : decode cX8_monicNow 15 = .ok (.iload 4, 2) := by decide +kernel
theorem dX8_monicNow_17 : decode cX8_monicNow 17 = .ok (.bipush 21, 2) := by decide +kernel
theorem dX8_monicNow_19 : decode cX8_monicNow 19 = .ok (.if_icmp .ge 39, 3) := by decide +kernel
theorem dX8_monicNow_22 : decode cX8_monicNow 22 = .ok (.aload_n 0, 1) := by decide +kernel
theorem dX8_monicNow_23 : decode cX8_monicNow 23 = .ok (.getfield 7, 3) := by decide +kernel
theorem dX8_monicNow_26 : decode cX8_monicNow 26 = .ok (.iload_n 1, 1) := by decide +kernel
theorem dX8_monicNow_27 : decode cX8_monicNow 27 = .ok (.iconst 0, 1) := by decide +kernel
theorem dX8_monicNow_28 : decode cX8_monicNow 28 = .ok (.iload 4, 2) := by decide +kernel
theorem dX8_monicNow_30 : decode cX8_monicNow 30 = .ok (.invokestatic 79, 3) := by decide +kernel
theorem dX8_monicNow_33 : decode cX8_monicNow 33 = .ok (.aload_n 0, 1) := by decide +kernel
theorem dX8_monicNow_34 : decode cX8_monicNow 34 = .ok (.aload_n 0, 1) := by decide +kernel
theorem dX8_monicNow_35 : decode cX8_monicNow 35 = .ok (.getfield 7, 3) := by decide +kernel
theorem dX8_monicNow_38 : decode cX8_monicNow 38 = .ok (.iload_n 1, 1) := by decide +kernel
theorem dX8_monicNow_39 : decode cX8_monicNow 39 = .ok (.iconst 0, 1) := by decide +kernel
theorem dX8_monicNow_40 : decode cX8_monicNow 40 = .ok (.iload 4, 2) := by decide +kernel
theorem dX8_monicNow_42 : decode cX8_monicNow 42 = .ok (.invokestatic 79, 3) := by decide +kernel
theorem dX8_monicNow_45 : decode cX8_monicNow 45 = .ok (.iaload, 1) := by decide +kernel
theorem dX8_monicNow_46 : decode cX8_monicNow 46 = .ok (.iload_n 3, 1) := by decide +kernel
theorem dX8_monicNow_47 : decode cX8_monicNow 47 = .ok (.imul, 1) := by decide +kernel
theorem dX8_monicNow_48 : decode cX8_monicNow 48 = .ok (.invokevirtual 126, 3) := by decide +kernel
theorem dX8_monicNow_51 : decode cX8_monicNow 51 = .ok (.iastore, 1) := by decide +kernel
theorem dX8_monicNow_52 : decode cX8_monicNow 52 = .ok (.iinc 4 1, 3) := by decide +kernel
theorem dX8_monicNow_55 : decode cX8_monicNow 55 = .ok (.goto (-40), 3) := by decide +kernel
theorem dX8_monicNow_58 : decode cX8_monicNow 58 = .ok (.iload_n 2, 1) := by decide +kernel
theorem dX8_monicNow_59 : decode cX8_monicNow 59 = .ok (.ireturn, 1) := by decide +kernel
set_option maxRecDepth 20000 in
theorem ggX8_monic_X8_canMonic : GoodIn wsX8_monic wsX8_canMonic := goodIn_r _ [5, 6, 7, 8, 4, 9, 10, 11, 12, 13, 14, 15, 16, 17, 18, 19, 20, 21, 22, 23, 24, 25, 26, 27, 28, 29, 30, 31, 32, 33, 34, 35, 36, 37, 38, 39, 40, 68, 69, 70, 71, 72, 73, 74, 75, 76, 77, 78, 79, 80, 81, 82, 83, 84, 85, 86, 87, 88, 89, 90, 91] (by decide +kernel) (by decide +kernel)
set_option maxRecDepth 20000 in
theorem gX8_monic_X8_canMonic : GoodIn wsX8_monic (wsV RX8 145 RX8 yX8_canMonic wsX8_canMonic) := goodIn_app (goodIn_of _ (by decide +kernel)) ggX8_monic_X8_canMonic
set_option maxRecDepth 20000 in
theorem ggX8_monic_X8_refuses : GoodIn wsX8_monic wsX8_refuses := goodIn_r _ [44, 45, 68, 69, 70, 71, 72, 73, 74, 75, 76, 77, 78, 79, 80, 81, 82, 83, 84, 85, 86, 87, 88, 89, 90, 91] (by decide +kernel) (by decide +kernel)
set_option maxRecDepth 20000 in
theorem gX8_monic_X8_refuses : GoodIn wsX8_monic (wsV RX8 101 RX8 yX8_refuses wsX8_refuses) := goodIn_app (goodIn_of _ (by decide +kernel)) ggX8_monic_X8_refuses
set_option maxRecDepth 20000 in
theorem ggX8_monic_X8_keep : GoodIn wsX8_monic wsX8_keep := goodIn_r _ [49, 50, 51, 14, 68, 69, 70, 71, 72, 73, 74, 75, 76, 77, 78, 79, 80, 81, 82, 83, 84, 85, 86, 87, 88, 89, 90, 91] (by decide +kernel) (by decide +kernel)
set_option maxRecDepth 20000 in
theorem gX8_monic_X8_keep : GoodIn wsX8_monic (wsV RX8 104 RX8 yX8_keep wsX8_keep) := goodIn_app (goodIn_of _ (by decide +kernel)) ggX8_monic_X8_keep
set_option maxRecDepth 20000 in
theorem ggX8_monic_X8_monicNow : GoodIn wsX8_monic wsX8_monicNow := goodIn_r _ [55, 14, 18, 19, 20, 4, 21, 22, 23, 24, 25, 26, 27, 28, 29, 30, 31, 32, 33, 34, 35, 36, 37, 38, 39, 40, 56, 57, 58, 59, 60, 61, 62, 63, 64, 65, 66, 67, 68, 69, 70, 71, 72, 73, 74, 75, 76, 77, 78, 79, 80, 81, 82, 83, 84, 85, 86, 87, 88, 89, 90, 91] (by decide +kernel) (by decide +kernel)
set_option maxRecDepth 20000 in
theorem gX8_monic_X8_monicNow : GoodIn wsX8_monic (wsV RX8 148 RX8 yX8_monicNow wsX8_monicNow) := goodIn_app (goodIn_of _ (by decide +kernel)) ggX8_monic_X8_monicNow
theorem dX8_monic_0 : decode cX8_monic 0 = .ok (.aload_n 0, 1) := by decide +kernel
theorem dX8_monic_1 : decode cX8_monic 1 = .ok (.iload_n 1, 1) := by decide +kernel
theorem dX8_monic_2 : decode cX8_monic 2 = .ok (.invokevirtual 145, 3) := by decide +kernel
theorem dX8_monic_5 : decode cX8_monic 5 = .ok (.istore_n 2, 1) := by decide +kernel
theorem dX8_monic_6 : decode cX8_monic 6 = .ok (.iload_n 2, 1) := by decide +kernel
theorem dX8_monic_7 : decode cX8_monic 7 = .ok (.ifCond .ge 9, 3) := by decide +kernel
theorem dX8_monic_10 : decode cX8_monic 10 = .ok (.aload_n 0, 1) := by decide +kernel
theorem dX8_monic_11 : decode cX8_monic 11 = .ok (.iload_n 2, 1) := by decide +kernel
theorem dX8_monic_12 : decode cX8_monic 12 = .ok (.invokevirtual 101, 3) := by decide +kernel
theorem dX8_monic_15 : decode cX8_monic 15 = .ok (.ireturn, 1) := by decide +kernel
theorem dX8_monic_16 : decode cX8_monic 16 = .ok (.aload_n 0, 1) := by decide +kernel
theorem dX8_monic_17 : decode cX8_monic 17 = .ok (.invokevirtual 104, 3) := by decide +kernel
theorem dX8_monic_20 : decode cX8_monic 20 = .ok (.aload_n 0, 1) := by decide +kernel
theorem dX8_monic_21 : decode cX8_monic 21 = .ok (.iload_n 1, 1) := by decide +kernel
theorem dX8_monic_22 : decode cX8_monic 22 = .ok (.invokevirtual 148, 3) := by decide +kernel
theorem dX8_monic_25 : decode cX8_monic 25 = .ok (.ireturn, 1) := by decide +kernel
set_option maxRecDepth 20000 in
theorem ggX8_of_X8_isRow : GoodIn wsX8_of wsX8_isRow := goodIn_r _ [7, 8, 9, 10, 6, 11, 2, 12, 13, 14, 31, 32, 33, 34, 35, 36, 37, 38, 39, 40, 41, 42, 43, 44, 45, 46, 47, 48, 49, 50, 51, 52, 53, 54] (by decide +kernel) (by decide +kernel)
set_option maxRecDepth 20000 in
theorem gX8_of_X8_isRow : GoodIn wsX8_of (wsV RX8 118 RX8 yX8_isRow wsX8_isRow) := goodIn_app (goodIn_of _ (by decide +kernel)) ggX8_of_X8_isRow
set_option maxRecDepth 20000 in
theorem ggX8_of_X8_isColumn : GoodIn wsX8_of wsX8_isColumn := goodIn_r _ [18, 19, 20, 21, 6, 22, 2, 12, 13, 14, 31, 32, 33, 34, 35, 36, 37, 38, 39, 40, 41, 42, 43, 44, 45, 46, 47, 48, 49, 50, 51, 52, 53, 54] (by decide +kernel) (by decide +kernel)
set_option maxRecDepth 20000 in
theorem gX8_of_X8_isColumn : GoodIn wsX8_of (wsV RX8 121 RX8 yX8_isColumn wsX8_isColumn) := goodIn_app (goodIn_of _ (by decide +kernel)) ggX8_of_X8_isColumn
set_option maxRecDepth 20000 in
theorem ggX8_of_X8_in : GoodIn wsX8_of wsX8_in := goodIn_r _ [14] (by decide +kernel) (by decide +kernel)
set_option maxRecDepth 20000 in
theorem gX8_of_X8_in : GoodIn wsX8_of (va_wsS RX8 69 yX8_in wsX8_in) := goodIn_app (goodIn_of _ (by decide +kernel)) ggX8_of_X8_in
set_option maxRecDepth 20000 in
theorem ggX8_of_X8_place : GoodIn wsX8_of wsX8_place := goodIn_r _ [25] (by decide +kernel) (by decide +kernel)
set_option maxRecDepth 20000 in
theorem gX8_of_X8_place : GoodIn wsX8_of (va_wsS RX8 79 yX8_place wsX8_place) := goodIn_app (goodIn_of _ (by decide +kernel)) ggX8_of_X8_place
set_option maxRecDepth 20000 in
theorem ggX8_of_X8_refuses : GoodIn wsX8_of wsX8_refuses := goodIn_r _ [29, 30, 31, 32, 33, 34, 35, 36, 37, 38, 39, 40, 41, 42, 43, 44, 45, 46, 47, 48, 49, 50, 51, 52, 53, 54] (by decide +kernel) (by decide +kernel)
set_option maxRecDepth 20000 in
theorem gX8_of_X8_refuses : GoodIn wsX8_of (wsV RX8 101 RX8 yX8_refuses wsX8_refuses) := goodIn_app (goodIn_of _ (by decide +kernel)) ggX8_of_X8_refuses
theorem dX8_of_0 : decode cX8_of 0 = .ok (.aload_n 0, 1) := by decide +kernel
theorem dX8_of_1 : decode cX8_of 1 = .ok (.iload_n 1, 1) := by decide +kernel
theorem dX8_of_2 : decode cX8_of 2 = .ok (.invokevirtual 118, 3) := by decide +kernel
theorem dX8_of_5 : decode cX8_of 5 = .ok (.ifCond .eq 37, 3) := by decide +kernel
theorem dX8_of_8 : decode cX8_of 8 = .ok (.aload_n 0, 1) := by decide +kernel
theorem dX8_of_9 : decode cX8_of 9 = .ok (.iload_n 2, 1) := by decide +kernel
theorem dX8_of_10 : decode cX8_of 10 = .ok (.invokevirtual 121, 3) := by decide +kernel
theorem dX8_of_13 : decode cX8_of 13 = .ok (.ifCond .eq 29, 3) := by decide +kernel
theorem dX8_of_16 : decode cX8_of 16 = .ok (.iload_n 3, 1) := by decide +kernel
theorem dX8_of_17 : decode cX8_of 17 = .ok (.i2l, 1) := by decide +kernel
theorem dX8_of_18 : decode cX8_of 18 = .ok (.lconst 0, 1) := by decide +kernel
theorem dX8_of_19 : decode cX8_of 19 = .ok (.ldc2_w 124, 3) := by decide +kernel
theorem dX8_of_22 : decode cX8_of 22 = .ok (.invokestatic 69, 3) := by decide +kernel
theorem dX8_of_25 : decode cX8_of 25 = .ok (.ifCond .eq 17, 3) := by decide +kernel
theorem dX8_of_28 : decode cX8_of 28 = .ok (.aload_n 0, 1) := by decide +kernel
theorem dX8_of_29 : decode cX8_of 29 = .ok (.getfield 7, 3) := by decide +kernel
theorem dX8_of_32 : decode cX8_of 32 = .ok (.iload_n 1, 1) := by decide +kernel
theorem dX8_of_33 : decode cX8_of 33 = .ok (.iload_n 2, 1) := by decide +kernel
theorem dX8_of_34 : decode cX8_of 34 = .ok (.iload_n 3, 1) := by decide +kernel
theorem dX8_of_35 : decode cX8_of 35 = .ok (.invokestatic 79, 3) := by decide +kernel
theorem dX8_of_38 : decode cX8_of 38 = .ok (.iaload, 1) := by decide +kernel
theorem dX8_of_39 : decode cX8_of 39 = .ok (.goto 9, 3) := by decide +kernel
theorem dX8_of_42 : decode cX8_of 42 = .ok (.aload_n 0, 1) := by decide +kernel
theorem dX8_of_43 : decode cX8_of 43 = .ok (.bipush (-2), 2) := by decide +kernel
theorem dX8_of_45 : decode cX8_of 45 = .ok (.invokevirtual 101, 3) := by decide +kernel
theorem dX8_of_48 : decode cX8_of 48 = .ok (.ireturn, 1) := by decide +kernel
set_option maxRecDepth 20000 in
theorem ggX8_aboutRow_X8_degree : GoodIn wsX8_aboutRow wsX8_degree := goodIn_r _ [5, 6, 7, 8, 4, 9, 10, 11, 12, 13, 14, 15, 16, 17, 26, 27, 28, 29, 30, 31, 32, 33, 34, 35, 36, 37, 38, 39, 40, 41, 42, 43, 44, 45, 46, 47, 48, 49] (by decide +kernel) (by decide +kernel)
set_option maxRecDepth 20000 in
theorem gX8_aboutRow_X8_degree : GoodIn wsX8_aboutRow (wsV RX8 87 RX8 yX8_degree wsX8_degree) := goodIn_app (goodIn_of _ (by decide +kernel)) ggX8_aboutRow_X8_degree
set_option maxRecDepth 20000 in
theorem ggX8_aboutRow_X8_pivot : GoodIn wsX8_aboutRow wsX8_pivot := goodIn_r _ [21, 6, 7, 8, 4, 9, 10, 11, 12, 13, 14, 15, 16, 17, 1, 2, 3, 5, 26, 27, 28, 29, 30, 31, 32, 33, 34, 35, 36, 37, 38, 39, 40, 41, 42, 43, 44, 45, 46, 47, 48, 49] (by decide +kernel) (by decide +kernel)
set_option maxRecDepth 20000 in
theorem gX8_aboutRow_X8_pivot : GoodIn wsX8_aboutRow (wsV RX8 91 RX8 yX8_pivot wsX8_pivot) := goodIn_app (goodIn_of _ (by decide +kernel)) ggX8_aboutRow_X8_pivot
set_option maxRecDepth 20000 in
theorem ggX8_aboutRow_X8_lead : GoodIn wsX8_aboutRow wsX8_lead := goodIn_r _ [25, 10, 18, 19, 20, 4, 21, 6, 7, 8, 9, 11, 12, 13, 14, 15, 16, 17, 1, 2, 3, 5, 26, 27, 28, 29, 30, 31, 32, 33, 34, 35, 36, 37, 38, 39, 40, 41, 42, 43, 44, 45, 46, 47, 48, 49] (by decide +kernel) (by decide +kernel)
set_option maxRecDepth 20000 in
theorem gX8_aboutRow_X8_lead : GoodIn wsX8_aboutRow (wsV RX8 139 RX8 yX8_lead wsX8_lead) := goodIn_app (goodIn_of _ (by decide +kernel)) ggX8_aboutRow_X8_lead
theorem dX8_aboutRow_0 : decode cX8_aboutRow 0 = .ok (.iload_n 2, 1) := by decide +kernel
theorem dX8_aboutRow_1 : decode cX8_aboutRow 1 = .ok (.ifCond .ne 11, 3) := by decide +kernel
theorem dX8_aboutRow_4 : decode cX8_aboutRow 4 = .ok (.aload_n 0, 1) := by decide +kernel
theorem dX8_aboutRow_5 : decode cX8_aboutRow 5 = .ok (.iload_n 1, 1) := by decide +kernel
theorem dX8_aboutRow_6 : decode cX8_aboutRow 6 = .ok (.invokevirtual 87, 3) := by decide +kernel
theorem dX8_aboutRow_9 : decode cX8_aboutRow 9 = .ok (.goto 21, 3) := by decide +kernel
theorem dX8_aboutRow_12 : decode cX8_aboutRow 12 = .ok (.iload_n 2, 1) := by decide +kernel
theorem dX8_aboutRow_13 : decode cX8_aboutRow 13 = .ok (.iconst 1, 1) := by decide +kernel
theorem dX8_aboutRow_14 : decode cX8_aboutRow 14 = .ok (.if_icmp .ne 11, 3) := by decide +kernel
theorem dX8_aboutRow_17 : decode cX8_aboutRow 17 = .ok (.aload_n 0, 1) := by decide +kernel
theorem dX8_aboutRow_18 : decode cX8_aboutRow 18 = .ok (.iload_n 1, 1) := by decide +kernel
theorem dX8_aboutRow_19 : decode cX8_aboutRow 19 = .ok (.invokevirtual 91, 3) := by decide +kernel
theorem dX8_aboutRow_22 : decode cX8_aboutRow 22 = .ok (.goto 8, 3) := by decide +kernel
theorem dX8_aboutRow_25 : decode cX8_aboutRow 25 = .ok (.aload_n 0, 1) := by decide +kernel
theorem dX8_aboutRow_26 : decode cX8_aboutRow 26 = .ok (.iload_n 1, 1) := by decide +kernel
theorem dX8_aboutRow_27 : decode cX8_aboutRow 27 = .ok (.invokevirtual 139, 3) := by decide +kernel
theorem dX8_aboutRow_30 : decode cX8_aboutRow 30 = .ok (.ireturn, 1) := by decide +kernel
set_option maxRecDepth 20000 in
theorem ggX8_about_X8_isRow : GoodIn wsX8_about wsX8_isRow := goodIn_r _ [6, 7, 8, 9, 5, 10, 11, 12, 13, 14, 47, 48, 49, 50, 51, 52, 53, 54, 55, 56, 57, 58, 59, 60, 61, 62, 63, 64, 65, 66, 67, 68, 69, 70] (by decide +kernel) (by decide +kernel)
set_option maxRecDepth 20000 in
theorem gX8_about_X8_isRow : GoodIn wsX8_about (wsV RX8 118 RX8 yX8_isRow wsX8_isRow) := goodIn_app (goodIn_of _ (by decide +kernel)) ggX8_about_X8_isRow
set_option maxRecDepth 20000 in
theorem ggX8_about_X8_in : GoodIn wsX8_about wsX8_in := goodIn_r _ [14] (by decide +kernel) (by decide +kernel)
set_option maxRecDepth 20000 in
theorem gX8_about_X8_in : GoodIn wsX8_about (va_wsS RX8 69 yX8_in wsX8_in) := goodIn_app (goodIn_of _ (by decide +kernel)) ggX8_about_X8_in
set_option maxRecDepth 20000 in
theorem ggX8_about_X8_aboutRow : GoodIn wsX8_about wsX8_aboutRow := goodIn_r _ [18, 19, 20, 21, 5, 22, 23, 24, 25, 26, 11, 27, 28, 29, 30, 31, 32, 33, 34, 35, 36, 37, 38, 39, 40, 41, 47, 48, 49, 50, 51, 52, 53, 54, 55, 56, 57, 58, 59, 60, 61, 62, 63, 64, 65, 66, 67, 68, 69, 70] (by decide +kernel) (by decide +kernel)
set_option maxRecDepth 20000 in
theorem gX8_about_X8_aboutRow : GoodIn wsX8_about (wsV RX8 153 RX8 yX8_aboutRow wsX8_aboutRow) := goodIn_app (goodIn_of _ (by decide +kernel)) ggX8_about_X8_aboutRow
set_option maxRecDepth 20000 in
theorem ggX8_about_X8_refuses : GoodIn wsX8_about wsX8_refuses := goodIn_r _ [45, 46, 47, 48, 49, 50, 51, 52, 53, 54, 55, 56, 57, 58, 59, 60, 61, 62, 63, 64, 65, 66, 67, 68, 69, 70] (by decide +kernel) (by decide +kernel)
set_option maxRecDepth 20000 in
theorem gX8_about_X8_refuses : GoodIn wsX8_about (wsV RX8 101 RX8 yX8_refuses wsX8_refuses) := goodIn_app (goodIn_of _ (by decide +kernel)) ggX8_about_X8_refuses
theorem dX8_about_0 : decode cX8_about 0 = .ok (.aload_n 0, 1) := by decide +kernel
theorem dX8_about_1 : decode cX8_about 1 = .ok (.iload_n 1, 1) := by decide +kernel
theorem dX8_about_2 : decode cX8_about 2 = .ok (.invokevirtual 118, 3) := by decide +kernel
theorem dX8_about_5 : decode cX8_about 5 = .ok (.ifCond .eq 24, 3) := by decide +kernel
theorem dX8_about_8 : decode cX8_about 8 = .ok (.iload_n 2, 1) := by decide +kernel
theorem dX8_about_9 : decode cX8_about 9 = .ok (.i2l, 1) := by decide +kernel
theorem dX8_about_10 : decode cX8_about 10 = .ok (.lconst 0, 1) := by decide +kernel
theorem dX8_about_11 : decode cX8_about 11 = .ok (.ldc2_w 151, 3) := by decide +kernel
theorem dX8_about_14 : decode cX8_about 14 = .ok (.invokestatic 69, 3) := by decide +kernel
theorem dX8_about_17 : decode cX8_about 17 = .ok (.ifCond .eq 12, 3) := by decide +kernel
theorem dX8_about_20 : decode cX8_about 20 = .ok (.aload_n 0, 1) := by decide +kernel
theorem dX8_about_21 : decode cX8_about 21 = .ok (.iload_n 1, 1) := by decide +kernel
theorem dX8_about_22 : decode cX8_about 22 = .ok (.iload_n 2, 1) := by decide +kernel
theorem dX8_about_23 : decode cX8_about 23 = .ok (.invokevirtual 153, 3) := by decide +kernel
theorem dX8_about_26 : decode cX8_about 26 = .ok (.goto 9, 3) := by decide +kernel
theorem dX8_about_29 : decode cX8_about 29 = .ok (.aload_n 0, 1) := by decide +kernel
theorem dX8_about_30 : decode cX8_about 30 = .ok (.bipush (-2), 2) := by decide +kernel
theorem dX8_about_32 : decode cX8_about 32 = .ok (.invokevirtual 101, 3) := by decide +kernel
theorem dX8_about_35 : decode cX8_about 35 = .ok (.ireturn, 1) := by decide +kernel
set_option maxRecDepth 20000 in
theorem ggX8_nextOf_X8_rows : GoodIn wsX8_nextOf wsX8_rows := goodIn_r _ [5, 6, 42, 43, 44, 45, 46, 47, 48, 49, 50, 51, 52, 53, 54, 55, 56, 57, 58, 59, 60, 61, 62, 63, 64, 65] (by decide +kernel) (by decide +kernel)
set_option maxRecDepth 20000 in
theorem gX8_nextOf_X8_rows : GoodIn wsX8_nextOf (wsV RX8 65 RX8 yX8_rows wsX8_rows) := goodIn_app (goodIn_of _ (by decide +kernel)) ggX8_nextOf_X8_rows
set_option maxRecDepth 20000 in
theorem ggX8_nextOf_X8_degree : GoodIn wsX8_nextOf wsX8_degree := goodIn_r _ [10, 11, 12, 13, 4, 14, 6, 15, 16, 17, 18, 19, 20, 21, 42, 43, 44, 45, 46, 47, 48, 49, 50, 51, 52, 53, 54, 55, 56, 57, 58, 59, 60, 61, 62, 63, 64, 65] (by decide +kernel) (by decide +kernel)
set_option maxRecDepth 20000 in
theorem gX8_nextOf_X8_degree : GoodIn wsX8_nextOf (wsV RX8 87 RX8 yX8_degree wsX8_degree) := goodIn_app (goodIn_of _ (by decide +kernel)) ggX8_nextOf_X8_degree
set_option maxRecDepth 20000 in
theorem ggX8_nextOf_X8_pivot : GoodIn wsX8_nextOf wsX8_pivot := goodIn_r _ [25, 11, 12, 13, 4, 14, 6, 15, 16, 17, 18, 19, 20, 21, 7, 8, 9, 10, 42, 43, 44, 45, 46, 47, 48, 49, 50, 51, 52, 53, 54, 55, 56, 57, 58, 59, 60, 61, 62, 63, 64, 65] (by decide +kernel) (by decide +kernel)
set_option maxRecDepth 20000 in
theorem gX8_nextOf_X8_pivot : GoodIn wsX8_nextOf (wsV RX8 91 RX8 yX8_pivot wsX8_pivot) := goodIn_app (goodIn_of _ (by decide +kernel)) ggX8_nextOf_X8_pivot
set_option maxRecDepth 20000 in
theorem ggX8_nextOf_X8_lead : GoodIn wsX8_nextOf wsX8_lead := goodIn_r _ [29, 6, 22, 23, 24, 4, 25, 11, 12, 13, 14, 15, 16, 17, 18, 19, 20, 21, 7, 8, 9, 10, 42, 43, 44, 45, 46, 47, 48, 49, 50, 51, 52, 53, 54, 55, 56, 57, 58, 59, 60, 61, 62, 63, 64, 65] (by decide +kernel) (by decide +kernel)
set_option maxRecDepth 20000 in
theorem gX8_nextOf_X8_lead : GoodIn wsX8_nextOf (wsV RX8 139 RX8 yX8_lead wsX8_lead) := goodIn_app (goodIn_of _ (by decide +kernel)) ggX8_nextOf_X8_lead
set_option maxRecDepth 20000 in
theorem ggX8_nextOf_X8_inverse : GoodIn wsX8_nextOf wsX8_inverse := goodIn_r _ [33, 34, 35, 36, 4, 37, 6, 42, 43, 44, 45, 46, 47, 48, 49, 50, 51, 52, 53, 54, 55, 56, 57, 58, 59, 60, 61, 62, 63, 64, 65] (by decide +kernel) (by decide +kernel)
set_option maxRecDepth 20000 in
theorem gX8_nextOf_X8_inverse : GoodIn wsX8_nextOf (wsV RX8 142 RX8 yX8_inverse wsX8_inverse) := goodIn_app (goodIn_of _ (by decide +kernel)) ggX8_nextOf_X8_inverse
set_option maxRecDepth 20000 in
theorem ggX8_nextOf_X8_left : GoodIn wsX8_nextOf wsX8_left := goodIn_r _ [41, 34, 35, 36, 4, 37, 6, 42, 43, 44, 45, 46, 47, 48, 49, 50, 51, 52, 53, 54, 55, 56, 57, 58, 59, 60, 61, 62, 63, 64, 65] (by decide +kernel) (by decide +kernel)
set_option maxRecDepth 20000 in
theorem gX8_nextOf_X8_left : GoodIn wsX8_nextOf (wsV RX8 126 RX8 yX8_left wsX8_left) := goodIn_app (goodIn_of _ (by decide +kernel)) ggX8_nextOf_X8_left
theorem dX8_nextOf_0 : decode cX8_nextOf 0 = .ok (.iconst 0, 1) := by decide +kernel
theorem dX8_nextOf_1 : decode cX8_nextOf 1 = .ok (.istore_n 2, 1) := by decide +kernel
theorem dX8_nextOf_2 : decode cX8_nextOf 2 = .ok (.iload_n 2, 1) := by decide +kernel
theorem dX8_nextOf_3 : decode cX8_nextOf 3 = .ok (.aload_n 0, 1) := by decide +kernel
theorem dX8_nextOf_4 : decode cX8_nextOf 4 = .ok (.invokevirtual 65, 3) := by decide +kernel
theorem dX8_nextOf_7 : decode cX8_nextOf 7 = .ok (.if_icmp .ge 145, 3) := by decide +kernel
theorem dX8_nextOf_10 : decode cX8_nextOf 10 = .ok (.iconst 0, 1) := by decide +kernel
theorem dX8_nextOf_11 : decode cX8_nextOf 11 = .ok (.istore_n 3, 1) := by decide +kernel
theorem dX8_nextOf_12 : decode cX8_nextOf 12 = .ok (.iload_n 3, 1) := by decide +kernel
theorem dX8_nextOf_13 : decode cX8_nextOf 13 = .ok (.aload_n 0, 1) := by decide +kernel
theorem dX8_nextOf_14 : decode cX8_nextOf 14 = .ok (.invokevirtual 65, 3) := by decide +kernel
theorem dX8_nextOf_17 : decode cX8_nextOf 17 = .ok (.if_icmp .ge 129, 3) := by decide +kernel
theorem dX8_nextOf_20 : decode cX8_nextOf 20 = .ok (.iload_n 2, 1) := by decide +kernel
theorem dX8_nextOf_21 : decode cX8_nextOf 21 = .ok (.iload_n 3, 1) := by decide +kernel
theorem dX8_nextOf_22 : decode cX8_nextOf 22 = .ok (.if_icmp .eq 23, 3) := by decide +kernel
theorem dX8_nextOf_25 : decode cX8_nextOf 25 = .ok (.aload_n 0, 1) := by decide +kernel
theorem dX8_nextOf_26 : decode cX8_nextOf 26 = .ok (.iload_n 2, 1) := by decide +kernel
theorem dX8_nextOf_27 : decode cX8_nextOf 27 = .ok (.invokevirtual 87, 3) := by decide +kernel
theorem dX8_nextOf_30 : decode cX8_nextOf 30 = .ok (.ifCond .lt 15, 3) := by decide +kernel
theorem dX8_nextOf_33 : decode cX8_nextOf 33 = .ok (.aload_n 0, 1) := by decide +kernel
theorem dX8_nextOf_34 : decode cX8_nextOf 34 = .ok (.iload_n 3, 1) := by decide +kernel
theorem dX8_nextOf_35 : decode cX8_nextOf 35 = .ok (.invokevirtual 87, 3) := by decide +kernel
theorem dX8_nextOf_38 : decode cX8_nextOf 38 = .ok (.ifCond .lt 7, 3) := by decide +kernel
theorem dX8_nextOf_41 : decode cX8_nextOf 41 = .ok (.iconst 1, 1) := by decide +kernel
theorem dX8_nextOf_42 : decode cX8_nextOf 42 = .ok (.goto 4, 3) := by decide +kernel
theorem dX8_nextOf_45 : decode cX8_nextOf 45 = .ok (.iconst 0, 1) := by decide +kernel
theorem dX8_nextOf_46 : decode cX8_nextOf 46 = .ok (.istore 4, 2) := by decide +kernel
theorem dX8_nextOf_48 : decode cX8_nextOf 48 = .ok (.iload 4, 2) := by decide +kernel
theorem dX8_nextOf_50 : decode cX8_nextOf 50 = .ok (.ifCond .eq 90, 3) := by decide +kernel
theorem dX8_nextOf_53 : decode cX8_nextOf 53 = .ok (.aload_n 0, 1) := by decide +kernel
theorem dX8_nextOf_54 : decode cX8_nextOf 54 = .ok (.iload_n 2, 1) := by decide +kernel
theorem dX8_nextOf_55 : decode cX8_nextOf 55 = .ok (.invokevirtual 91, 3) := by decide +kernel
theorem dX8_nextOf_58 : decode cX8_nextOf 58 = .ok (.aload_n 0, 1) := by decide +kernel
theorem dX8_nextOf_59 : decode cX8_nextOf 59 = .ok (.iload_n 3, 1) := by decide +kernel
theorem dX8_nextOf_60 : decode cX8_nextOf 60 = .ok (.invokevirtual 91, 3) := by decide +kernel
theorem dX8_nextOf_63 : decode cX8_nextOf 63 = .ok (.if_icmp .ne 77, 3) := by decide +kernel
theorem dX8_nextOf_66 : decode cX8_nextOf 66 = .ok (.aload_n 0, 1) := by decide +kernel
theorem dX8_nextOf_67 : decode cX8_nextOf 67 = .ok (.iload_n 3, 1) := by decide +kernel
theorem dX8_nextOf_68 : decode cX8_nextOf 68 = .ok (.invokevirtual 87, 3) := by decide +kernel
theorem dX8_nextOf_71 : decode cX8_nextOf 71 = .ok (.aload_n 0, 1) := by decide +kernel
theorem dX8_nextOf_72 : decode cX8_nextOf 72 = .ok (.iload_n 2, 1) := by decide +kernel
theorem dX8_nextOf_73 : decode cX8_nextOf 73 = .ok (.invokevirtual 87, 3) := by decide +kernel
theorem dX8_nextOf_76 : decode cX8_nextOf 76 = .ok (.if_icmp .gt 64, 3) := by decide +kernel
theorem dX8_nextOf_79 : decode cX8_nextOf 79 = .ok (.aload_n 0, 1) := by decide +kernel
theorem dX8_nextOf_80 : decode cX8_nextOf 80 = .ok (.aload_n 0, 1) := by decide +kernel
theorem dX8_nextOf_81 : decode cX8_nextOf 81 = .ok (.iload_n 2, 1) := by decide +kernel
theorem dX8_nextOf_82 : decode cX8_nextOf 82 = .ok (.invokevirtual 139, 3) := by decide +kernel
theorem dX8_nextOf_85 : decode cX8_nextOf 85 = .ok (.ineg, 1) := by decide +kernel
theorem dX8_nextOf_86 : decode cX8_nextOf 86 = .ok (.aload_n 0, 1) := by decide +kernel
theorem dX8_nextOf_87 : decode cX8_nextOf 87 = .ok (.aload_n 0, 1) := by decide +kernel
theorem dX8_nextOf_88 : decode cX8_nextOf 88 = .ok (.iload_n 3, 1) := by decide +kernel
theorem dX8_nextOf_89 : decode cX8_nextOf 89 = .ok (.invokevirtual 139, 3) := by decide +kernel
theorem dX8_nextOf_92 : decode cX8_nextOf 92 = .ok (.invokevirtual 142, 3) := by decide +kernel
theorem dX8_nextOf_95 : decode cX8_nextOf 95 = .ok (.imul, 1) := by decide +kernel
theorem dX8_nextOf_96 : decode cX8_nextOf 96 = .ok (.invokevirtual 126, 3) := by decide +kernel
theorem dX8_nextOf_99 : decode cX8_nextOf 99 = .ok (.istore 5, 2) := by decide +kernel
theorem dX8_nextOf_101 : decode cX8_nextOf 101 = .ok (.iload_n 1, 1) := by decide +kernel
theorem dX8_nextOf_102 : decode cX8_nextOf 102 = .ok (.ifCond .ne 7, 3) := by decide +kernel
theorem dX8_nextOf_105 : decode cX8_nextOf 105 = .ok (.iload_n 2, 1) := by decide +kernel
theorem dX8_nextOf_106 : decode cX8_nextOf 106 = .ok (.goto 33, 3) := by decide +kernel
theorem dX8_nextOf_109 : decode cX8_nextOf 109 = .ok (.iload_n 1, 1) := by decide +kernel
theorem dX8_nextOf_110 : decode cX8_nextOf 110 = .ok (.iconst 1, 1) := by decide +kernel
theorem dX8_nextOf_111 : decode cX8_nextOf 111 = .ok (.if_icmp .ne 7, 3) := by decide +kernel
theorem dX8_nextOf_114 : decode cX8_nextOf 114 = .ok (.iload_n 3, 1) := by decide +kernel
theorem dX8_nextOf_115 : decode cX8_nextOf 115 = .ok (.goto 24, 3) := by decide +kernel
theorem dX8_nextOf_118 : decode cX8_nextOf 118 = .ok (.iload_n 1, 1) := by decide +kernel
theorem dX8_nextOf_119 : decode cX8_nextOf 119 = .ok (.iconst 2, 1) := by decide +kernel
theorem dX8_nextOf_120 : decode cX8_nextOf 120 = .ok (.if_icmp .ne 8, 3) := by decide +kernel
theorem dX8_nextOf_123 : decode cX8_nextOf 123 = .ok (.iload 5, 2) := by decide +kernel
theorem dX8_nextOf_125 : decode cX8_nextOf 125 = .ok (.goto 14, 3) := by decide +kernel
theorem dX8_nextOf_128 : decode cX8_nextOf 128 = .ok (.aload_n 0, 1) := by decide +kernel
theorem dX8_nextOf_129 : decode cX8_nextOf 129 = .ok (.iload_n 2, 1) := by decide +kernel
theorem dX8_nextOf_130 : decode cX8_nextOf 130 = .ok (.invokevirtual 87, 3) := by decide +kernel
theorem dX8_nextOf_133 : decode cX8_nextOf 133 = .ok (.aload_n 0, 1) := by decide +kernel
theorem dX8_nextOf_134 : decode cX8_nextOf 134 = .ok (.iload_n 3, 1) := by decide +kernel
theorem dX8_nextOf_135 : decode cX8_nextOf 135 = .ok (.invokevirtual 87, 3) := by decide +kernel
theorem dX8_nextOf_138 : decode cX8_nextOf 138 = .ok (.isub, 1) := by decide +kernel
theorem dX8_nextOf_139 : decode cX8_nextOf 139 = .ok (.ireturn, 1) := by decide +kernel
theorem dX8_nextOf_140 : decode cX8_nextOf 140 = .ok (.iinc 3 1, 3) := by decide +kernel
theorem dX8_nextOf_143 : decode cX8_nextOf 143 = .ok (.goto (-131), 3) := by decide +kernel
theorem dX8_nextOf_146 : decode cX8_nextOf 146 = .ok (.iinc 2 1, 3) := by decide +kernel
theorem dX8_nextOf_149 : decode cX8_nextOf 149 = .ok (.goto (-147), 3) := by decide +kernel
theorem dX8_nextOf_152 : decode cX8_nextOf 152 = .ok (.iconst (-1), 1) := by decide +kernel
theorem dX8_nextOf_153 : decode cX8_nextOf 153 = .ok (.ireturn, 1) := by decide +kernel
set_option maxRecDepth 20000 in
theorem ggX8_next_X8_in : GoodIn wsX8_next wsX8_in := goodIn_r _ [5] (by decide +kernel) (by decide +kernel)
set_option maxRecDepth 20000 in
theorem gX8_next_X8_in : GoodIn wsX8_next (va_wsS RX8 69 yX8_in wsX8_in) := goodIn_app (goodIn_of _ (by decide +kernel)) ggX8_next_X8_in
set_option maxRecDepth 20000 in
theorem ggX8_next_X8_nextOf : GoodIn wsX8_next wsX8_nextOf := goodIn_r _ [9, 10, 11, 12, 4, 13, 14, 15, 16, 17, 18, 19, 20, 21, 22, 23, 24, 25, 26, 27, 28, 29, 30, 31, 32, 33, 34, 35, 36, 37, 38, 39, 40, 41, 42, 43, 44, 45, 46, 47, 48, 49, 55, 56, 57, 58, 59, 60, 61, 62, 63, 64, 65, 66, 67, 68, 69, 70, 71, 72, 73, 74, 75, 76, 77, 78] (by decide +kernel) (by decide +kernel)
set_option maxRecDepth 20000 in
theorem gX8_next_X8_nextOf : GoodIn wsX8_next (wsV RX8 156 RX8 yX8_nextOf wsX8_nextOf) := goodIn_app (goodIn_of _ (by decide +kernel)) ggX8_next_X8_nextOf
set_option maxRecDepth 20000 in
theorem ggX8_next_X8_refuses : GoodIn wsX8_next wsX8_refuses := goodIn_r _ [53, 54, 55, 56, 57, 58, 59, 60, 61, 62, 63, 64, 65, 66, 67, 68, 69, 70, 71, 72, 73, 74, 75, 76, 77, 78] (by decide +kernel) (by decide +kernel)
set_option maxRecDepth 20000 in
theorem gX8_next_X8_refuses : GoodIn wsX8_next (wsV RX8 101 RX8 yX8_refuses wsX8_refuses) := goodIn_app (goodIn_of _ (by decide +kernel)) ggX8_next_X8_refuses
theorem dX8_next_0 : decode cX8_next 0 = .ok (.iload_n 1, 1) := by decide +kernel
theorem dX8_next_1 : decode cX8_next 1 = .ok (.i2l, 1) := by decide +kernel
theorem dX8_next_2 : decode cX8_next 2 = .ok (.lconst 0, 1) := by decide +kernel
theorem dX8_next_3 : decode cX8_next 3 = .ok (.ldc2_w 110, 3) := by decide +kernel
theorem dX8_next_6 : decode cX8_next 6 = .ok (.invokestatic 69, 3) := by decide +kernel
theorem dX8_next_9 : decode cX8_next 9 = .ok (.ifCond .eq 11, 3) := by decide +kernel
theorem dX8_next_12 : decode cX8_next 12 = .ok (.aload_n 0, 1) := by decide +kernel
theorem dX8_next_13 : decode cX8_next 13 = .ok (.iload_n 1, 1) := by decide +kernel
theorem dX8_next_14 : decode cX8_next 14 = .ok (.invokevirtual 156, 3) := by decide +kernel
theorem dX8_next_17 : decode cX8_next 17 = .ok (.goto 9, 3) := by decide +kernel
theorem dX8_next_20 : decode cX8_next 20 = .ok (.aload_n 0, 1) := by decide +kernel
theorem dX8_next_21 : decode cX8_next 21 = .ok (.bipush (-2), 2) := by decide +kernel
theorem dX8_next_23 : decode cX8_next 23 = .ok (.invokevirtual 101, 3) := by decide +kernel
theorem dX8_next_26 : decode cX8_next 26 = .ok (.ireturn, 1) := by decide +kernel
theorem dX8_cell_0 : decode cX8_cell 0 = .ok (.bipush 24, 2) := by decide +kernel
theorem dX8_cell_2 : decode cX8_cell 2 = .ok (.iload_n 0, 1) := by decide +kernel
theorem dX8_cell_3 : decode cX8_cell 3 = .ok (.imul, 1) := by decide +kernel
theorem dX8_cell_4 : decode cX8_cell 4 = .ok (.bipush 8, 2) := by decide +kernel
theorem dX8_cell_6 : decode cX8_cell 6 = .ok (.iload_n 1, 1) := by decide +kernel
theorem dX8_cell_7 : decode cX8_cell 7 = .ok (.imul, 1) := by decide +kernel
theorem dX8_cell_8 : decode cX8_cell 8 = .ok (.iadd, 1) := by decide +kernel
theorem dX8_cell_9 : decode cX8_cell 9 = .ok (.iload_n 2, 1) := by decide +kernel
theorem dX8_cell_10 : decode cX8_cell 10 = .ok (.iadd, 1) := by decide +kernel
theorem dX8_cell_11 : decode cX8_cell 11 = .ok (.ireturn, 1) := by decide +kernel
set_option maxRecDepth 20000 in
theorem ggX8_workDegreeAt_X8_cell : GoodIn wsX8_workDegreeAt wsX8_cell := goodIn_r _ [5] (by decide +kernel) (by decide +kernel)
set_option maxRecDepth 20000 in
theorem gX8_workDegreeAt_X8_cell : GoodIn wsX8_workDegreeAt (va_wsS RX8 159 yX8_cell wsX8_cell) := goodIn_app (goodIn_of _ (by decide +kernel)) ggX8_workDegreeAt_X8_cell
theorem dX8_workDegreeAt_0 : decode cX8_workDegreeAt 0 = .ok (.bipush 7, 2) := by decide +kernel
theorem dX8_workDegreeAt_2 : decode cX8_workDegreeAt 2 = .ok (.istore_n 3, 1) := by decide +kernel
theorem dX8_workDegreeAt_3 : decode cX8_workDegreeAt 3 = .ok (.iload_n 3, 1) := by decide +kernel
theorem dX8_workDegreeAt_4 : decode cX8_workDegreeAt 4 = .ok (.ifCond .lt 23, 3) := by decide +kernel
theorem dX8_workDegreeAt_7 : decode cX8_workDegreeAt 7 = .ok (.aload_n 0, 1) := by decide +kernel
theorem dX8_workDegreeAt_8 : decode cX8_workDegreeAt 8 = .ok (.getfield 23, 3) := by decide +kernel
theorem dX8_workDegreeAt_11 : decode cX8_workDegreeAt 11 = .ok (.iload_n 1, 1) := by decide +kernel
theorem dX8_workDegreeAt_12 : decode cX8_workDegreeAt 12 = .ok (.iload_n 2, 1) := by decide +kernel
theorem dX8_workDegreeAt_13 : decode cX8_workDegreeAt 13 = .ok (.iload_n 3, 1) := by decide +kernel
theorem dX8_workDegreeAt_14 : decode cX8_workDegreeAt 14 = .ok (.invokestatic 159, 3) := by decide +kernel
theorem dX8_workDegreeAt_17 : decode cX8_workDegreeAt 17 = .ok (.iaload, 1) := by decide +kernel
theorem dX8_workDegreeAt_18 : decode cX8_workDegreeAt 18 = .ok (.ifCond .ne 9, 3) := by decide +kernel
theorem dX8_workDegreeAt_21 : decode cX8_workDegreeAt 21 = .ok (.iinc 3 (-1), 3) := by decide +kernel
theorem dX8_workDegreeAt_24 : decode cX8_workDegreeAt 24 = .ok (.goto (-21), 3) := by decide +kernel
theorem dX8_workDegreeAt_27 : decode cX8_workDegreeAt 27 = .ok (.iload_n 3, 1) := by decide +kernel
theorem dX8_workDegreeAt_28 : decode cX8_workDegreeAt 28 = .ok (.ireturn, 1) := by decide +kernel
set_option maxRecDepth 20000 in
theorem ggX8_workDegree_X8_workDegreeAt : GoodIn wsX8_workDegree wsX8_workDegreeAt := goodIn_r _ [6, 7, 8, 9, 5, 10, 11, 12, 13, 14, 15, 16, 17, 18, 19, 20, 21, 22, 23, 24, 25, 26, 27, 28, 29, 30, 31, 32, 33, 34] (by decide +kernel) (by decide +kernel)
set_option maxRecDepth 20000 in
theorem gX8_workDegree_X8_workDegreeAt : GoodIn wsX8_workDegree (wsV RX8 165 RX8 yX8_workDegreeAt wsX8_workDegreeAt) := goodIn_app (goodIn_of _ (by decide +kernel)) ggX8_workDegree_X8_workDegreeAt
theorem dX8_workDegree_0 : decode cX8_workDegree 0 = .ok (.iconst (-1), 1) := by decide +kernel
theorem dX8_workDegree_1 : decode cX8_workDegree 1 = .ok (.istore_n 2, 1) := by decide +kernel
theorem dX8_workDegree_2 : decode cX8_workDegree 2 = .ok (.iconst 0, 1) := by decide +kernel
theorem dX8_workDegree_3 : decode cX8_workDegree 3 = .ok (.istore_n 3, 1) := by decide +kernel
theorem dX8_workDegree_4 : decode cX8_workDegree 4 = .ok (.iload_n 3, 1) := by decide +kernel
theorem dX8_workDegree_5 : decode cX8_workDegree 5 = .ok (.aload_n 0, 1) := by decide +kernel
theorem dX8_workDegree_6 : decode cX8_workDegree 6 = .ok (.getfield 162, 3) := by decide +kernel
theorem dX8_workDegree_9 : decode cX8_workDegree 9 = .ok (.if_icmp .ge 30, 3) := by decide +kernel
theorem dX8_workDegree_12 : decode cX8_workDegree 12 = .ok (.aload_n 0, 1) := by decide +kernel
theorem dX8_workDegree_13 : decode cX8_workDegree 13 = .ok (.iload_n 1, 1) := by decide +kernel
theorem dX8_workDegree_14 : decode cX8_workDegree 14 = .ok (.iload_n 3, 1) := by decide +kernel
theorem dX8_workDegree_15 : decode cX8_workDegree 15 = .ok (.invokevirtual 165, 3) := by decide +kernel
theorem dX8_workDegree_18 : decode cX8_workDegree 18 = .ok (.istore 4, 2) := by decide +kernel
theorem dX8_workDegree_20 : decode cX8_workDegree 20 = .ok (.iload 4, 2) := by decide +kernel
theorem dX8_workDegree_22 : decode cX8_workDegree 22 = .ok (.iload_n 2, 1) := by decide +kernel
theorem dX8_workDegree_23 : decode cX8_workDegree 23 = .ok (.if_icmp .le 8, 3) := by decide +kernel
theorem dX8_workDegree_26 : decode cX8_workDegree 26 = .ok (.iload 4, 2) := by decide +kernel
theorem dX8_workDegree_28 : decode cX8_workDegree 28 = .ok (.goto 4, 3) := by decide +kernel
theorem dX8_workDegree_31 : decode cX8_workDegree 31 = .ok (.iload_n 2, 1) := by decide +kernel
theorem dX8_workDegree_32 : decode cX8_workDegree 32 = .ok (.istore_n 2, 1) := by decide +kernel
theorem dX8_workDegree_33 : decode cX8_workDegree 33 = .ok (.iinc 3 1, 3) := by decide +kernel
theorem dX8_workDegree_36 : decode cX8_workDegree 36 = .ok (.goto (-32), 3) := by decide +kernel
theorem dX8_workDegree_39 : decode cX8_workDegree 39 = .ok (.iload_n 2, 1) := by decide +kernel
theorem dX8_workDegree_40 : decode cX8_workDegree 40 = .ok (.ireturn, 1) := by decide +kernel
set_option maxRecDepth 20000 in
theorem ggX8_workPivot_X8_workDegree : GoodIn wsX8_workPivot wsX8_workDegree := goodIn_r _ [6, 1, 7, 8, 9, 5, 10, 11, 12, 13, 14, 15, 16, 17, 18, 19, 20, 21, 22, 23, 24, 25, 26, 27, 28, 29, 30, 31, 32, 33, 34, 35, 36, 37, 38] (by decide +kernel) (by decide +kernel)
set_option maxRecDepth 20000 in
theorem gX8_workPivot_X8_workDegree : GoodIn wsX8_workPivot (wsV RX8 168 RX8 yX8_workDegree wsX8_workDegree) := goodIn_app (goodIn_of _ (by decide +kernel)) ggX8_workPivot_X8_workDegree
set_option maxRecDepth 20000 in
theorem ggX8_workPivot_X8_workDegreeAt : GoodIn wsX8_workPivot wsX8_workDegreeAt := goodIn_r _ [10, 11, 12, 13, 5, 14, 15, 16, 17, 18, 19, 20, 21, 22, 23, 24, 25, 26, 27, 28, 29, 30, 31, 32, 33, 34, 35, 36, 37, 38] (by decide +kernel) (by decide +kernel)
set_option maxRecDepth 20000 in
theorem gX8_workPivot_X8_workDegreeAt : GoodIn wsX8_workPivot (wsV RX8 165 RX8 yX8_workDegreeAt wsX8_workDegreeAt) := goodIn_app (goodIn_of _ (by decide +kernel)) ggX8_workPivot_X8_workDegreeAt
theorem dX8_workPivot_0 : decode cX8_workPivot 0 = .ok (.aload_n 0, 1) := by decide +kernel
theorem dX8_workPivot_1 : decode cX8_workPivot 1 = .ok (.iload_n 1, 1) := by decide +kernel
theorem dX8_workPivot_2 : decode cX8_workPivot 2 = .ok (.invokevirtual 168, 3) := by decide +kernel
theorem dX8_workPivot_5 : decode cX8_workPivot 5 = .ok (.istore_n 2, 1) := by decide +kernel
theorem dX8_workPivot_6 : decode cX8_workPivot 6 = .ok (.iconst (-1), 1) := by decide +kernel
theorem dX8_workPivot_7 : decode cX8_workPivot 7 = .ok (.istore_n 3, 1) := by decide +kernel
theorem dX8_workPivot_8 : decode cX8_workPivot 8 = .ok (.iconst 0, 1) := by decide +kernel
theorem dX8_workPivot_9 : decode cX8_workPivot 9 = .ok (.istore 4, 2) := by decide +kernel
theorem dX8_workPivot_11 : decode cX8_workPivot 11 = .ok (.iload 4, 2) := by decide +kernel
theorem dX8_workPivot_13 : decode cX8_workPivot 13 = .ok (.aload_n 0, 1) := by decide +kernel
theorem dX8_workPivot_14 : decode cX8_workPivot 14 = .ok (.getfield 162, 3) := by decide +kernel
theorem dX8_workPivot_17 : decode cX8_workPivot 17 = .ok (.if_icmp .ge 31, 3) := by decide +kernel
theorem dX8_workPivot_20 : decode cX8_workPivot 20 = .ok (.iload_n 2, 1) := by decide +kernel
theorem dX8_workPivot_21 : decode cX8_workPivot 21 = .ok (.ifCond .lt 19, 3) := by decide +kernel
theorem dX8_workPivot_24 : decode cX8_workPivot 24 = .ok (.aload_n 0, 1) := by decide +kernel
theorem dX8_workPivot_25 : decode cX8_workPivot 25 = .ok (.iload_n 1, 1) := by decide +kernel
theorem dX8_workPivot_26 : decode cX8_workPivot 26 = .ok (.iload 4, 2) := by decide +kernel
theorem dX8_workPivot_28 : decode cX8_workPivot 28 = .ok (.invokevirtual 165, 3) := by decide +kernel
theorem dX8_workPivot_31 : decode cX8_workPivot 31 = .ok (.iload_n 2, 1) := by decide +kernel
theorem dX8_workPivot_32 : decode cX8_workPivot 32 = .ok (.if_icmp .ne 8, 3) := by decide +kernel
theorem dX8_workPivot_35 : decode cX8_workPivot 35 = .ok (.iload 4, 2) := by decide +kernel
theorem dX8_workPivot_37 : decode cX8_workPivot 37 = .ok (.goto 4, 3) := by decide +kernel
theorem dX8_workPivot_40 : decode cX8_workPivot 40 = .ok (.iload_n 3, 1) := by decide +kernel
theorem dX8_workPivot_41 : decode cX8_workPivot 41 = .ok (.istore_n 3, 1) := by decide +kernel
theorem dX8_workPivot_42 : decode cX8_workPivot 42 = .ok (.iinc 4 1, 3) := by decide +kernel
theorem dX8_workPivot_45 : decode cX8_workPivot 45 = .ok (.goto (-34), 3) := by decide +kernel
theorem dX8_workPivot_48 : decode cX8_workPivot 48 = .ok (.iload_n 3, 1) := by decide +kernel
theorem dX8_workPivot_49 : decode cX8_workPivot 49 = .ok (.ireturn, 1) := by decide +kernel
set_option maxRecDepth 20000 in
theorem ggX8_takes_X8_workDegreeAt : GoodIn wsX8_takes wsX8_workDegreeAt := goodIn_r _ [7, 1, 8, 9, 6, 10, 24, 25, 26, 27, 28, 29, 30, 31, 32, 33, 34, 35, 36, 37, 38, 39, 40, 41, 42, 43, 44, 45, 46, 47] (by decide +kernel) (by decide +kernel)
set_option maxRecDepth 20000 in
theorem gX8_takes_X8_workDegreeAt : GoodIn wsX8_takes (wsV RX8 165 RX8 yX8_workDegreeAt wsX8_workDegreeAt) := goodIn_app (goodIn_of _ (by decide +kernel)) ggX8_takes_X8_workDegreeAt
set_option maxRecDepth 20000 in
theorem ggX8_takes_X8_cell : GoodIn wsX8_takes wsX8_cell := goodIn_r _ [10] (by decide +kernel) (by decide +kernel)
set_option maxRecDepth 20000 in
theorem gX8_takes_X8_cell : GoodIn wsX8_takes (va_wsS RX8 159 yX8_cell wsX8_cell) := goodIn_app (goodIn_of _ (by decide +kernel)) ggX8_takes_X8_cell
set_option maxRecDepth 20000 in
theorem ggX8_takes_X8_inverse : GoodIn wsX8_takes wsX8_inverse := goodIn_r _ [14, 15, 16, 17, 6, 18, 19, 24, 25, 26, 27, 28, 29, 30, 31, 32, 33, 34, 35, 36, 37, 38, 39, 40, 41, 42, 43, 44, 45, 46, 47] (by decide +kernel) (by decide +kernel)
set_option maxRecDepth 20000 in
theorem gX8_takes_X8_inverse : GoodIn wsX8_takes (wsV RX8 142 RX8 yX8_inverse wsX8_inverse) := goodIn_app (goodIn_of _ (by decide +kernel)) ggX8_takes_X8_inverse
set_option maxRecDepth 20000 in
theorem ggX8_takes_X8_modulus : GoodIn wsX8_takes wsX8_modulus := goodIn_r _ [18, 19, 24, 25, 26, 27, 28, 29, 30, 31, 32, 33, 34, 35, 36, 37, 38, 39, 40, 41, 42, 43, 44, 45, 46, 47] (by decide +kernel) (by decide +kernel)
set_option maxRecDepth 20000 in
theorem gX8_takes_X8_modulus : GoodIn wsX8_takes (wsV RX8 76 RX8 yX8_modulus wsX8_modulus) := goodIn_app (goodIn_of _ (by decide +kernel)) ggX8_takes_X8_modulus
set_option maxRecDepth 20000 in
theorem ggX8_takes_X8_left : GoodIn wsX8_takes wsX8_left := goodIn_r _ [23, 15, 16, 17, 6, 18, 19, 24, 25, 26, 27, 28, 29, 30, 31, 32, 33, 34, 35, 36, 37, 38, 39, 40, 41, 42, 43, 44, 45, 46, 47] (by decide +kernel) (by decide +kernel)
set_option maxRecDepth 20000 in
theorem gX8_takes_X8_left : GoodIn wsX8_takes (wsV RX8 126 RX8 yX8_left wsX8_left) := goodIn_app (goodIn_of _ (by decide +kernel)) ggX8_takes_X8_left
theorem dX8_takes_0 : decode cX8_takes 0 = .ok (.aload_n 0, 1) := by decide +kernel
theorem dX8_takes_1 : decode cX8_takes 1 = .ok (.iload_n 1, 1) := by decide +kernel
theorem dX8_takes_2 : decode cX8_takes 2 = .ok (.iload_n 3, 1) := by decide +kernel
theorem dX8_takes_3 : decode cX8_takes 3 = .ok (.invokevirtual 165, 3) := by decide +kernel
theorem dX8_takes_6 : decode cX8_takes 6 = .ok (.istore 4, 2) := by decide +kernel
theorem dX8_takes_8 : decode cX8_takes 8 = .ok (.aload_n 0, 1) := by decide +kernel
theorem dX8_takes_9 : decode cX8_takes 9 = .ok (.iload_n 2, 1) := by decide +kernel
theorem dX8_takes_10 : decode cX8_takes 10 = .ok (.iload_n 3, 1) := by decide +kernel
theorem dX8_takes_11 : decode cX8_takes 11 = .ok (.invokevirtual 165, 3) := by decide +kernel
theorem dX8_takes_14 : decode cX8_takes 14 = .ok (.istore 5, 2) := by decide +kernel
theorem dX8_takes_16 : decode cX8_takes 16 = .ok (.aload_n 0, 1) := by decide +kernel
theorem dX8_takes_17 : decode cX8_takes 17 = .ok (.getfield 23, 3) := by decide +kernel
theorem dX8_takes_20 : decode cX8_takes 20 = .ok (.iload_n 1, 1) := by decide +kernel
theorem dX8_takes_21 : decode cX8_takes 21 = .ok (.iload_n 3, 1) := by decide +kernel
theorem dX8_takes_22 : decode cX8_takes 22 = .ok (.iload 4, 2) := by decide +kernel
theorem dX8_takes_24 : decode cX8_takes 24 = .ok (.invokestatic 159, 3) := by decide +kernel
theorem dX8_takes_27 : decode cX8_takes 27 = .ok (.iaload, 1) := by decide +kernel
theorem dX8_takes_28 : decode cX8_takes 28 = .ok (.aload_n 0, 1) := by decide +kernel
theorem dX8_takes_29 : decode cX8_takes 29 = .ok (.aload_n 0, 1) := by decide +kernel
theorem dX8_takes_30 : decode cX8_takes 30 = .ok (.getfield 23, 3) := by decide +kernel
theorem dX8_takes_33 : decode cX8_takes 33 = .ok (.iload_n 2, 1) := by decide +kernel
theorem dX8_takes_34 : decode cX8_takes 34 = .ok (.iload_n 3, 1) := by decide +kernel
theorem dX8_takes_35 : decode cX8_takes 35 = .ok (.iload 5, 2) := by decide +kernel
theorem dX8_takes_37 : decode cX8_takes 37 = .ok (.invokestatic 159, 3) := by decide +kernel
theorem dX8_takes_40 : decode cX8_takes 40 = .ok (.iaload, 1) := by decide +kernel
theorem dX8_takes_41 : decode cX8_takes 41 = .ok (.invokevirtual 142, 3) := by decide +kernel
theorem dX8_takes_44 : decode cX8_takes 44 = .ok (.imul, 1) := by decide +kernel
theorem dX8_takes_45 : decode cX8_takes 45 = .ok (.aload_n 0, 1) := by decide +kernel
theorem dX8_takes_46 : decode cX8_takes 46 = .ok (.invokevirtual 76, 3) := by decide +kernel
theorem dX8_takes_49 : decode cX8_takes 49 = .ok (.irem, 1) := by decide +kernel
theorem dX8_takes_50 : decode cX8_takes 50 = .ok (.istore 6, 2) := by decide +kernel
theorem dX8_takes_52 : decode cX8_takes 52 = .ok (.iload 4, 2) := by decide +kernel
theorem dX8_takes_54 : decode cX8_takes 54 = .ok (.iload 5, 2) := by decide +kernel
theorem dX8_takes_56 : decode cX8_takes 56 = .ok (.isub, 1) := by decide +kernel
theorem dX8_takes_57 : decode cX8_takes 57 = .ok (.istore 7, 2) := by decide +kernel
theorem dX8_takes_59 : decode cX8_takes 59 = .ok (.iconst 0, 1) := by decide +kernel
theorem dX8_takes_60 : decode cX8_takes 60 = .ok (.istore 8, 2) := by decide +kernel
theorem dX8_takes_62 : decode cX8_takes 62 = .ok (.iload 8, 2) := by decide +kernel
theorem dX8_takes_64 : decode cX8_takes 64 = .ok (.aload_n 0, 1) := by decide +kernel
theorem dX8_takes_65 : decode cX8_takes 65 = .ok (.getfield 162, 3) := by decide +kernel
theorem dX8_takes_68 : decode cX8_takes 68 = .ok (.if_icmp .ge 76, 3) := by decide +kernel
theorem dX8_takes_71 : decode cX8_takes 71 = .ok (.iload 7, 2) := by decide +kernel
theorem dX8_takes_73 : decode cX8_takes 73 = .ok (.istore 9, 2) := by decide +kernel
theorem dX8_takes_75 : decode cX8_takes 75 = .ok (.iload 9, 2) := by decide +kernel
theorem dX8_takes_77 : decode cX8_takes 77 = .ok (.bipush 8, 2) := by decide +kernel
theorem dX8_takes_79 : decode cX8_takes 79 = .ok (.if_icmp .ge 59, 3) := by decide +kernel
theorem dX8_takes_82 : decode cX8_takes 82 = .ok (.aload_n 0, 1) := by decide +kernel
theorem dX8_takes_83 : decode cX8_takes 83 = .ok (.getfield 23, 3) := by decide +kernel
theorem dX8_takes_86 : decode cX8_takes 86 = .ok (.iload_n 1, 1) := by decide +kernel
theorem dX8_takes_87 : decode cX8_takes 87 = .ok (.iload 8, 2) := by decide +kernel
theorem dX8_takes_89 : decode cX8_takes 89 = .ok (.iload 9, 2) := by decide +kernel
theorem dX8_takes_91 : decode cX8_takes 91 = .ok (.invokestatic 159, 3) := by decide +kernel
theorem dX8_takes_94 : decode cX8_takes 94 = .ok (.aload_n 0, 1) := by decide +kernel
theorem dX8_takes_95 : decode cX8_takes 95 = .ok (.aload_n 0, 1) := by decide +kernel
theorem dX8_takes_96 : decode cX8_takes 96 = .ok (.getfield 23, 3) := by decide +kernel
theorem dX8_takes_99 : decode cX8_takes 99 = .ok (.iload_n 1, 1) := by decide +kernel
theorem dX8_takes_100 : decode cX8_takes 100 = .ok (.iload 8, 2) := by decide +kernel
theorem dX8_takes_102 : decode cX8_takes 102 = .ok (.iload 9, 2) := by decide +kernel
theorem dX8_takes_104 : decode cX8_takes 104 = .ok (.invokestatic 159, 3) := by decide +kernel
theorem dX8_takes_107 : decode cX8_takes 107 = .ok (.iaload, 1) := by decide +kernel
theorem dX8_takes_108 : decode cX8_takes 108 = .ok (.iload 6, 2) := by decide +kernel
theorem dX8_takes_110 : decode cX8_takes 110 = .ok (.aload_n 0, 1) := by decide +kernel
theorem dX8_takes_111 : decode cX8_takes 111 = .ok (.getfield 23, 3) := by decide +kernel
theorem dX8_takes_114 : decode cX8_takes 114 = .ok (.iload_n 2, 1) := by decide +kernel
theorem dX8_takes_115 : decode cX8_takes 115 = .ok (.iload 8, 2) := by decide +kernel
theorem dX8_takes_117 : decode cX8_takes 117 = .ok (.iload 9, 2) := by decide +kernel
theorem dX8_takes_119 : decode cX8_takes 119 = .ok (.iload 7, 2) := by decide +kernel
theorem dX8_takes_121 : decode cX8_takes 121 = .ok (.isub, 1) := by decide +kernel
theorem dX8_takes_122 : decode cX8_takes 122 = .ok (.invokestatic 159, 3) := by decide +kernel
theorem dX8_takes_125 : decode cX8_takes 125 = .ok (.iaload, 1) := by decide +kernel
theorem dX8_takes_126 : decode cX8_takes 126 = .ok (.imul, 1) := by decide +kernel
theorem dX8_takes_127 : decode cX8_takes 127 = .ok (.isub, 1) := by decide +kernel
theorem dX8_takes_128 : decode cX8_takes 128 = .ok (.invokevirtual 126, 3) := by decide +kernel
theorem dX8_takes_131 : decode cX8_takes 131 = .ok (.iastore, 1) := by decide +kernel
theorem dX8_takes_132 : decode cX8_takes 132 = .ok (.iinc 9 1, 3) := by decide +kernel
theorem dX8_takes_135 : decode cX8_takes 135 = .ok (.goto (-60), 3) := by decide +kernel
theorem dX8_takes_138 : decode cX8_takes 138 = .ok (.iinc 8 1, 3) := by decide +kernel
theorem dX8_takes_141 : decode cX8_takes 141 = .ok (.goto (-79), 3) := by decide +kernel
theorem dX8_takes_144 : decode cX8_takes 144 = .ok (.return_, 1) := by decide +kernel
set_option maxRecDepth 20000 in
theorem ggX8_lowers_X8_workPivot : GoodIn wsX8_lowers wsX8_workPivot := goodIn_r _ [5, 6, 7, 8, 9, 4, 10, 11, 12, 13, 14, 15, 16, 17, 18, 36, 37, 38, 39, 40, 41, 42, 43, 44, 45, 46, 47, 48, 49, 50, 51, 52, 53, 54, 55, 56, 57, 58, 59] (by decide +kernel) (by decide +kernel)
set_option maxRecDepth 20000 in
theorem gX8_lowers_X8_workPivot : GoodIn wsX8_lowers (wsV RX8 171 RX8 yX8_workPivot wsX8_workPivot) := goodIn_app (goodIn_of _ (by decide +kernel)) ggX8_lowers_X8_workPivot
set_option maxRecDepth 20000 in
theorem ggX8_lowers_X8_workDegreeAt : GoodIn wsX8_lowers wsX8_workDegreeAt := goodIn_r _ [14, 15, 16, 17, 4, 18, 36, 37, 38, 39, 40, 41, 42, 43, 44, 45, 46, 47, 48, 49, 50, 51, 52, 53, 54, 55, 56, 57, 58, 59] (by decide +kernel) (by decide +kernel)
set_option maxRecDepth 20000 in
theorem gX8_lowers_X8_workDegreeAt : GoodIn wsX8_lowers (wsV RX8 165 RX8 yX8_workDegreeAt wsX8_workDegreeAt) := goodIn_app (goodIn_of _ (by decide +kernel)) ggX8_lowers_X8_workDegreeAt
set_option maxRecDepth 20000 in
theorem ggX8_lowers_X8_workDegree : GoodIn wsX8_lowers wsX8_workDegree := goodIn_r _ [10, 6, 11, 12, 13, 4, 14, 15, 16, 17, 18, 36, 37, 38, 39, 40, 41, 42, 43, 44, 45, 46, 47, 48, 49, 50, 51, 52, 53, 54, 55, 56, 57, 58, 59] (by decide +kernel) (by decide +kernel)
set_option maxRecDepth 20000 in
theorem gX8_lowers_X8_workDegree : GoodIn wsX8_lowers (wsV RX8 168 RX8 yX8_workDegree wsX8_workDegree) := goodIn_app (goodIn_of _ (by decide +kernel)) ggX8_lowers_X8_workDegree
set_option maxRecDepth 20000 in
theorem ggX8_lowers_X8_takes : GoodIn wsX8_lowers wsX8_takes := goodIn_r _ [22, 15, 6, 11, 12, 13, 4, 14, 16, 17, 18, 23, 24, 25, 26, 27, 28, 29, 30, 31, 32, 33, 34, 35, 36, 37, 38, 39, 40, 41, 42, 43, 44, 45, 46, 47, 48, 49, 50, 51, 52, 53, 54, 55, 56, 57, 58, 59] (by decide +kernel) (by decide +kernel)
set_option maxRecDepth 20000 in
theorem gX8_lowers_X8_takes : GoodIn wsX8_lowers (wsV RX8 174 RX8 yX8_takes wsX8_takes) := goodIn_app (goodIn_of _ (by decide +kernel)) ggX8_lowers_X8_takes
theorem dX8_lowers_0 : decode cX8_lowers 0 = .ok (.iconst 1, 1) := by decide +kernel
theorem dX8_lowers_1 : decode cX8_lowers 1 = .ok (.istore 4, 2) := by decide +kernel
theorem dX8_lowers_3 : decode cX8_lowers 3 = .ok (.iload 4, 2) := by decide +kernel
theorem dX8_lowers_5 : decode cX8_lowers 5 = .ok (.ifCond .eq 154, 3) := by decide +kernel
theorem dX8_lowers_8 : decode cX8_lowers 8 = .ok (.iconst (-1), 1) := by decide +kernel
theorem dX8_lowers_9 : decode cX8_lowers 9 = .ok (.istore 5, 2) := by decide +kernel
theorem dX8_lowers_11 : decode cX8_lowers 11 = .ok (.iconst (-1), 1) := by decide +kernel
theorem dX8_lowers_12 : decode cX8_lowers 12 = .ok (.istore 6, 2) := by decide +kernel
theorem dX8_lowers_14 : decode cX8_lowers 14 = .ok (.iconst (-1), 1) := by decide +kernel
theorem dX8_lowers_15 : decode cX8_lowers 15 = .ok (.istore 7, 2) := by decide +kernel
theorem dX8_lowers_17 : decode cX8_lowers 17 = .ok (.iload_n 2, 1) := by decide +kernel
theorem dX8_lowers_18 : decode cX8_lowers 18 = .ok (.istore 8, 2) := by decide +kernel
theorem dX8_lowers_20 : decode cX8_lowers 20 = .ok (.iload 8, 2) := by decide +kernel
theorem dX8_lowers_22 : decode cX8_lowers 22 = .ok (.iload_n 3, 1) := by decide +kernel
theorem dX8_lowers_23 : decode cX8_lowers 23 = .ok (.if_icmp .ge 106, 3) := by decide +kernel
theorem dX8_lowers_26 : decode cX8_lowers 26 = .ok (.iload 8, 2) := by decide +kernel
theorem dX8_lowers_28 : decode cX8_lowers 28 = .ok (.iload_n 1, 1) := by decide +kernel
theorem dX8_lowers_29 : decode cX8_lowers 29 = .ok (.if_icmp .ne 7, 3) := by decide +kernel
theorem dX8_lowers_32 : decode cX8_lowers 32 = .ok (.iconst (-1), 1) := by decide +kernel
theorem dX8_lowers_33 : decode cX8_lowers 33 = .ok (.goto 9, 3) := by decide +kernel
theorem dX8_lowers_36 : decode cX8_lowers 36 = .ok (.aload_n 0, 1) := by decide +kernel
theorem dX8_lowers_37 : decode cX8_lowers 37 = .ok (.iload 8, 2) := by decide +kernel
theorem dX8_lowers_39 : decode cX8_lowers 39 = .ok (.invokevirtual 171, 3) := by decide +kernel
theorem dX8_lowers_42 : decode cX8_lowers 42 = .ok (.istore 9, 2) := by decide +kernel
theorem dX8_lowers_44 : decode cX8_lowers 44 = .ok (.iload 9, 2) := by decide +kernel
theorem dX8_lowers_46 : decode cX8_lowers 46 = .ok (.ifCond .ge 7, 3) := by decide +kernel
theorem dX8_lowers_49 : decode cX8_lowers 49 = .ok (.iconst (-1), 1) := by decide +kernel
theorem dX8_lowers_50 : decode cX8_lowers 50 = .ok (.goto 10, 3) := by decide +kernel
theorem dX8_lowers_53 : decode cX8_lowers 53 = .ok (.aload_n 0, 1) := by decide +kernel
theorem dX8_lowers_54 : decode cX8_lowers 54 = .ok (.iload_n 1, 1) := by decide +kernel
theorem dX8_lowers_55 : decode cX8_lowers 55 = .ok (.iload 9, 2) := by decide +kernel
theorem dX8_lowers_57 : decode cX8_lowers 57 = .ok (.invokevirtual 165, 3) := by decide +kernel
theorem dX8_lowers_60 : decode cX8_lowers 60 = .ok (.istore 10, 2) := by decide +kernel
theorem dX8_lowers_62 : decode cX8_lowers 62 = .ok (.iload 9, 2) := by decide +kernel
theorem dX8_lowers_64 : decode cX8_lowers 64 = .ok (.ifCond .lt 18, 3) := by decide +kernel
theorem dX8_lowers_67 : decode cX8_lowers 67 = .ok (.iload 10, 2) := by decide +kernel
theorem dX8_lowers_69 : decode cX8_lowers 69 = .ok (.aload_n 0, 1) := by decide +kernel
theorem dX8_lowers_70 : decode cX8_lowers 70 = .ok (.iload 8, 2) := by decide +kernel
theorem dX8_lowers_72 : decode cX8_lowers 72 = .ok (.invokevirtual 168, 3) := by decide +kernel
theorem dX8_lowers_75 : decode cX8_lowers 75 = .ok (.if_icmp .lt 7, 3) := by decide +kernel
theorem dX8_lowers_78 : decode cX8_lowers 78 = .ok (.iconst 1, 1) := by decide +kernel
theorem dX8_lowers_79 : decode cX8_lowers 79 = .ok (.goto 4, 3) := by decide +kernel
theorem dX8_lowers_82 : decode cX8_lowers 82 = .ok (.iconst 0, 1) := by decide +kernel
theorem dX8_lowers_83 : decode cX8_lowers 83 = .ok (.istore 11, 2) := by decide +kernel
theorem dX8_lowers_85 : decode cX8_lowers 85 = .ok (.iload 11, 2) := by decide +kernel
theorem dX8_lowers_87 : decode cX8_lowers 87 = .ok (.ifCond .eq 36, 3) := by decide +kernel
theorem dX8_lowers_90 : decode cX8_lowers 90 = .ok (.iload 10, 2) := by decide +kernel
theorem dX8_lowers_92 : decode cX8_lowers 92 = .ok (.iload 6, 2) := by decide +kernel
theorem dX8_lowers_94 : decode cX8_lowers 94 = .ok (.if_icmp .gt 17, 3) := by decide +kernel
theorem dX8_lowers_97 : decode cX8_lowers 97 = .ok (.iload 10, 2) := by decide +kernel
theorem dX8_lowers_99 : decode cX8_lowers 99 = .ok (.iload 6, 2) := by decide +kernel
theorem dX8_lowers_101 : decode cX8_lowers 101 = .ok (.if_icmp .ne 22, 3) := by decide +kernel
theorem dX8_lowers_104 : decode cX8_lowers 104 = .ok (.iload 9, 2) := by decide +kernel
theorem dX8_lowers_106 : decode cX8_lowers 106 = .ok (.iload 7, 2) := by decide +kernel
theorem dX8_lowers_108 : decode cX8_lowers 108 = .ok (.if_icmp .le 15, 3) := by decide +kernel
theorem dX8_lowers_111 : decode cX8_lowers 111 = .ok (.iload 8, 2) := by decide +kernel
theorem dX8_lowers_113 : decode cX8_lowers 113 = .ok (.istore 5, 2) := by decide +kernel
theorem dX8_lowers_115 : decode cX8_lowers 115 = .ok (.iload 10, 2) := by decide +kernel
theorem dX8_lowers_117 : decode cX8_lowers 117 = .ok (.istore 6, 2) := by decide +kernel
theorem dX8_lowers_119 : decode cX8_lowers 119 = .ok (.iload 9, 2) := by decide +kernel
theorem dX8_lowers_121 : decode cX8_lowers 121 = .ok (.istore 7, 2) := by decide +kernel
theorem dX8_lowers_123 : decode cX8_lowers 123 = .ok (.iinc 8 1, 3) := by decide +kernel
theorem dX8_lowers_126 : decode cX8_lowers 126 = .ok (.goto (-106), 3) := by decide +kernel
theorem dX8_lowers_129 : decode cX8_lowers 129 = .ok (.iload 5, 2) := by decide +kernel
theorem dX8_lowers_131 : decode cX8_lowers 131 = .ok (.iconst (-1), 1) := by decide +kernel
theorem dX8_lowers_132 : decode cX8_lowers 132 = .ok (.if_icmp .eq 7, 3) := by decide +kernel
theorem dX8_lowers_135 : decode cX8_lowers 135 = .ok (.iconst 1, 1) := by decide +kernel
theorem dX8_lowers_136 : decode cX8_lowers 136 = .ok (.goto 4, 3) := by decide +kernel
theorem dX8_lowers_139 : decode cX8_lowers 139 = .ok (.iconst 0, 1) := by decide +kernel
theorem dX8_lowers_140 : decode cX8_lowers 140 = .ok (.istore 4, 2) := by decide +kernel
theorem dX8_lowers_142 : decode cX8_lowers 142 = .ok (.iload 4, 2) := by decide +kernel
theorem dX8_lowers_144 : decode cX8_lowers 144 = .ok (.ifCond .eq 12, 3) := by decide +kernel
theorem dX8_lowers_147 : decode cX8_lowers 147 = .ok (.aload_n 0, 1) := by decide +kernel
theorem dX8_lowers_148 : decode cX8_lowers 148 = .ok (.iload_n 1, 1) := by decide +kernel
theorem dX8_lowers_149 : decode cX8_lowers 149 = .ok (.iload 5, 2) := by decide +kernel
theorem dX8_lowers_151 : decode cX8_lowers 151 = .ok (.iload 7, 2) := by decide +kernel
theorem dX8_lowers_153 : decode cX8_lowers 153 = .ok (.invokevirtual 174, 3) := by decide +kernel
theorem dX8_lowers_156 : decode cX8_lowers 156 = .ok (.goto (-153), 3) := by decide +kernel
theorem dX8_lowers_159 : decode cX8_lowers 159 = .ok (.return_, 1) := by decide +kernel
theorem dX8_exchanges_0 : decode cX8_exchanges 0 = .ok (.iconst 0, 1) := by decide +kernel
theorem dX8_exchanges_1 : decode cX8_exchanges 1 = .ok (.istore_n 3, 1) := by decide +kernel
theorem dX8_exchanges_2 : decode cX8_exchanges 2 = .ok (.iload_n 3, 1) := by decide +kernel
theorem dX8_exchanges_3 : decode cX8_exchanges 3 = .ok (.bipush 24, 2) := by decide +kernel
theorem dX8_exchanges_5 : decode cX8_exchanges 5 = .ok (.if_icmp .ge 57, 3) := by decide +kernel
theorem dX8_exchanges_8 : decode cX8_exchanges 8 = .ok (.aload_n 0, 1) := by decide +kernel
theorem dX8_exchanges_9 : decode cX8_exchanges 9 = .ok (.getfield 23, 3) := by decide +kernel
theorem dX8_exchanges_12 : decode cX8_exchanges 12 = .ok (.bipush 24, 2) := by decide +kernel
theorem dX8_exchanges_14 : decode cX8_exchanges 14 = .ok (.iload_n 1, 1) := by decide +kernel
theorem dX8_exchanges_15 : decode cX8_exchanges 15 = .ok (.imul, 1) := by decide +kernel
theorem dX8_exchanges_16 : decode cX8_exchanges 16 = .ok (.iload_n 3, 1) := by decide +kernel
theorem dX8_exchanges_17 : decode cX8_exchanges 17 = .ok (.iadd, 1) := by decide +kernel
theorem dX8_exchanges_18 : decode cX8_exchanges 18 = .ok (.iaload, 1) := by decide +kernel
theorem dX8_exchanges_19 : decode cX8_exchanges 19 = .ok (.istore 4, 2) := by decide +kernel
theorem dX8_exchanges_21 : decode cX8_exchanges 21 = .ok (.aload_n 0, 1) := by decide +kernel
theorem dX8_exchanges_22 : decode cX8_exchanges 22 = .ok (.getfield 23, 3) := by decide +kernel
theorem dX8_exchanges_25 : decode cX8_exchanges 25 = .ok (.bipush 24, 2) := by decide +kernel
theorem dX8_exchanges_27 : decode cX8_exchanges 27 = .ok (.iload_n 1, 1) := by decide +kernel
theorem dX8_exchanges_28 : decode cX8_exchanges 28 = .ok (.imul, 1) := by decide +kernel
theorem dX8_exchanges_29 : decode cX8_exchanges 29 = .ok (.iload_n 3, 1) := by decide +kernel
theorem dX8_exchanges_30 : decode cX8_exchanges 30 = .ok (.iadd, 1) := by decide +kernel
theorem dX8_exchanges_31 : decode cX8_exchanges 31 = .ok (.aload_n 0, 1) := by decide +kernel
theorem dX8_exchanges_32 : decode cX8_exchanges 32 = .ok (.getfield 23, 3) := by decide +kernel
theorem dX8_exchanges_35 : decode cX8_exchanges 35 = .ok (.bipush 24, 2) := by decide +kernel
theorem dX8_exchanges_37 : decode cX8_exchanges 37 = .ok (.iload_n 2, 1) := by decide +kernel
theorem dX8_exchanges_38 : decode cX8_exchanges 38 = .ok (.imul, 1) := by decide +kernel
theorem dX8_exchanges_39 : decode cX8_exchanges 39 = .ok (.iload_n 3, 1) := by decide +kernel
theorem dX8_exchanges_40 : decode cX8_exchanges 40 = .ok (.iadd, 1) := by decide +kernel
theorem dX8_exchanges_41 : decode cX8_exchanges 41 = .ok (.iaload, 1) := by decide +kernel
theorem dX8_exchanges_42 : decode cX8_exchanges 42 = .ok (.iastore, 1) := by decide +kernel
theorem dX8_exchanges_43 : decode cX8_exchanges 43 = .ok (.aload_n 0, 1) := by decide +kernel
theorem dX8_exchanges_44 : decode cX8_exchanges 44 = .ok (.getfield 23, 3) := by decide +kernel
theorem dX8_exchanges_47 : decode cX8_exchanges 47 = .ok (.bipush 24, 2) := by decide +kernel
theorem dX8_exchanges_49 : decode cX8_exchanges 49 = .ok (.iload_n 2, 1) := by decide +kernel
theorem dX8_exchanges_50 : decode cX8_exchanges 50 = .ok (.imul, 1) := by decide +kernel
theorem dX8_exchanges_51 : decode cX8_exchanges 51 = .ok (.iload_n 3, 1) := by decide +kernel
theorem dX8_exchanges_52 : decode cX8_exchanges 52 = .ok (.iadd, 1) := by decide +kernel
theorem dX8_exchanges_53 : decode cX8_exchanges 53 = .ok (.iload 4, 2) := by decide +kernel
theorem dX8_exchanges_55 : decode cX8_exchanges 55 = .ok (.iastore, 1) := by decide +kernel
theorem dX8_exchanges_56 : decode cX8_exchanges 56 = .ok (.iinc 3 1, 3) := by decide +kernel
theorem dX8_exchanges_59 : decode cX8_exchanges 59 = .ok (.goto (-57), 3) := by decide +kernel
theorem dX8_exchanges_62 : decode cX8_exchanges 62 = .ok (.return_, 1) := by decide +kernel
set_option maxRecDepth 20000 in
theorem ggX8_meets_X8_workDegree : GoodIn wsX8_meets wsX8_workDegree := goodIn_r _ [6, 7, 8, 9, 10, 5, 11, 12, 13, 14, 15, 37, 38, 39, 40, 41, 42, 43, 44, 45, 46, 47, 48, 49, 50, 51, 52, 53, 54, 55, 56, 57, 58, 59, 60] (by decide +kernel) (by decide +kernel)
set_option maxRecDepth 20000 in
theorem gX8_meets_X8_workDegree : GoodIn wsX8_meets (wsV RX8 168 RX8 yX8_workDegree wsX8_workDegree) := goodIn_app (goodIn_of _ (by decide +kernel)) ggX8_meets_X8_workDegree
set_option maxRecDepth 20000 in
theorem ggX8_meets_X8_workPivot : GoodIn wsX8_meets wsX8_workPivot := goodIn_r _ [19, 7, 2, 3, 4, 5, 6, 8, 9, 10, 11, 12, 13, 14, 15, 37, 38, 39, 40, 41, 42, 43, 44, 45, 46, 47, 48, 49, 50, 51, 52, 53, 54, 55, 56, 57, 58, 59, 60] (by decide +kernel) (by decide +kernel)
set_option maxRecDepth 20000 in
theorem gX8_meets_X8_workPivot : GoodIn wsX8_meets (wsV RX8 171 RX8 yX8_workPivot wsX8_workPivot) := goodIn_app (goodIn_of _ (by decide +kernel)) ggX8_meets_X8_workPivot
set_option maxRecDepth 20000 in
theorem ggX8_meets_X8_takes : GoodIn wsX8_meets wsX8_takes := goodIn_r _ [23, 12, 7, 8, 9, 10, 5, 11, 13, 14, 15, 24, 25, 26, 27, 28, 29, 30, 31, 32, 33, 34, 35, 36, 37, 38, 39, 40, 41, 42, 43, 44, 45, 46, 47, 48, 49, 50, 51, 52, 53, 54, 55, 56, 57, 58, 59, 60] (by decide +kernel) (by decide +kernel)
set_option maxRecDepth 20000 in
theorem gX8_meets_X8_takes : GoodIn wsX8_meets (wsV RX8 174 RX8 yX8_takes wsX8_takes) := goodIn_app (goodIn_of _ (by decide +kernel)) ggX8_meets_X8_takes
theorem dX8_meets_0 : decode cX8_meets 0 = .ok (.iconst 0, 1) := by decide +kernel
theorem dX8_meets_1 : decode cX8_meets 1 = .ok (.istore_n 1, 1) := by decide +kernel
theorem dX8_meets_2 : decode cX8_meets 2 = .ok (.iload_n 1, 1) := by decide +kernel
theorem dX8_meets_3 : decode cX8_meets 3 = .ok (.aload_n 0, 1) := by decide +kernel
theorem dX8_meets_4 : decode cX8_meets 4 = .ok (.getfield 178, 3) := by decide +kernel
theorem dX8_meets_7 : decode cX8_meets 7 = .ok (.if_icmp .ge 95, 3) := by decide +kernel
theorem dX8_meets_10 : decode cX8_meets 10 = .ok (.iconst 0, 1) := by decide +kernel
theorem dX8_meets_11 : decode cX8_meets 11 = .ok (.istore_n 2, 1) := by decide +kernel
theorem dX8_meets_12 : decode cX8_meets 12 = .ok (.iload_n 2, 1) := by decide +kernel
theorem dX8_meets_13 : decode cX8_meets 13 = .ok (.aload_n 0, 1) := by decide +kernel
theorem dX8_meets_14 : decode cX8_meets 14 = .ok (.getfield 178, 3) := by decide +kernel
theorem dX8_meets_17 : decode cX8_meets 17 = .ok (.if_icmp .ge 79, 3) := by decide +kernel
theorem dX8_meets_20 : decode cX8_meets 20 = .ok (.iload_n 1, 1) := by decide +kernel
theorem dX8_meets_21 : decode cX8_meets 21 = .ok (.iload_n 2, 1) := by decide +kernel
theorem dX8_meets_22 : decode cX8_meets 22 = .ok (.if_icmp .eq 23, 3) := by decide +kernel
theorem dX8_meets_25 : decode cX8_meets 25 = .ok (.aload_n 0, 1) := by decide +kernel
theorem dX8_meets_26 : decode cX8_meets 26 = .ok (.iload_n 1, 1) := by decide +kernel
theorem dX8_meets_27 : decode cX8_meets 27 = .ok (.invokevirtual 168, 3) := by decide +kernel
theorem dX8_meets_30 : decode cX8_meets 30 = .ok (.ifCond .lt 15, 3) := by decide +kernel
theorem dX8_meets_33 : decode cX8_meets 33 = .ok (.aload_n 0, 1) := by decide +kernel
theorem dX8_meets_34 : decode cX8_meets 34 = .ok (.iload_n 2, 1) := by decide +kernel
theorem dX8_meets_35 : decode cX8_meets 35 = .ok (.invokevirtual 168, 3) := by decide +kernel
theorem dX8_meets_38 : decode cX8_meets 38 = .ok (.ifCond .lt 7, 3) := by decide +kernel
theorem dX8_meets_41 : decode cX8_meets 41 = .ok (.iconst 1, 1) := by decide +kernel
theorem dX8_meets_42 : decode cX8_meets 42 = .ok (.goto 4, 3) := by decide +kernel
theorem dX8_meets_45 : decode cX8_meets 45 = .ok (.iconst 0, 1) := by decide +kernel
theorem dX8_meets_46 : decode cX8_meets 46 = .ok (.istore_n 3, 1) := by decide +kernel
theorem dX8_meets_47 : decode cX8_meets 47 = .ok (.iload_n 3, 1) := by decide +kernel
theorem dX8_meets_48 : decode cX8_meets 48 = .ok (.ifCond .eq 42, 3) := by decide +kernel
theorem dX8_meets_51 : decode cX8_meets 51 = .ok (.aload_n 0, 1) := by decide +kernel
theorem dX8_meets_52 : decode cX8_meets 52 = .ok (.iload_n 1, 1) := by decide +kernel
theorem dX8_meets_53 : decode cX8_meets 53 = .ok (.invokevirtual 171, 3) := by decide +kernel
theorem dX8_meets_56 : decode cX8_meets 56 = .ok (.aload_n 0, 1) := by decide +kernel
theorem dX8_meets_57 : decode cX8_meets 57 = .ok (.iload_n 2, 1) := by decide +kernel
theorem dX8_meets_58 : decode cX8_meets 58 = .ok (.invokevirtual 171, 3) := by decide +kernel
theorem dX8_meets_61 : decode cX8_meets 61 = .ok (.if_icmp .ne 29, 3) := by decide +kernel
theorem dX8_meets_64 : decode cX8_meets 64 = .ok (.aload_n 0, 1) := by decide +kernel
theorem dX8_meets_65 : decode cX8_meets 65 = .ok (.iload_n 2, 1) := by decide +kernel
theorem dX8_meets_66 : decode cX8_meets 66 = .ok (.invokevirtual 168, 3) := by decide +kernel
theorem dX8_meets_69 : decode cX8_meets 69 = .ok (.aload_n 0, 1) := by decide +kernel
theorem dX8_meets_70 : decode cX8_meets 70 = .ok (.iload_n 1, 1) := by decide +kernel
theorem dX8_meets_71 : decode cX8_meets 71 = .ok (.invokevirtual 168, 3) := by decide +kernel
theorem dX8_meets_74 : decode cX8_meets 74 = .ok (.if_icmp .gt 16, 3) := by decide +kernel
theorem dX8_meets_77 : decode cX8_meets 77 = .ok (.aload_n 0, 1) := by decide +kernel
theorem dX8_meets_78 : decode cX8_meets 78 = .ok (.iload_n 1, 1) := by decide +kernel
theorem dX8_meets_79 : decode cX8_meets 79 = .ok (.iload_n 2, 1) := by decide +kernel
theorem dX8_meets_80 : decode cX8_meets 80 = .ok (.aload_n 0, 1) := by decide +kernel
theorem dX8_meets_81 : decode cX8_meets 81 = .ok (.iload_n 1, 1) := by decide +kernel
theorem dX8_meets_82 : decode cX8_meets 82 = .ok (.invokevirtual 171, 3) := by decide +kernel
theorem dX8_meets_85 : decode cX8_meets 85 = .ok (.invokevirtual 174, 3) := by decide +kernel
theorem dX8_meets_88 : decode cX8_meets 88 = .ok (.iconst 1, 1) := by decide +kernel
theorem dX8_meets_89 : decode cX8_meets 89 = .ok (.ireturn, 1) := by decide +kernel
theorem dX8_meets_90 : decode cX8_meets 90 = .ok (.iinc 2 1, 3) := by decide +kernel
theorem dX8_meets_93 : decode cX8_meets 93 = .ok (.goto (-81), 3) := by decide +kernel
theorem dX8_meets_96 : decode cX8_meets 96 = .ok (.iinc 1 1, 3) := by decide +kernel
theorem dX8_meets_99 : decode cX8_meets 99 = .ok (.goto (-97), 3) := by decide +kernel
theorem dX8_meets_102 : decode cX8_meets 102 = .ok (.iconst 0, 1) := by decide +kernel
theorem dX8_meets_103 : decode cX8_meets 103 = .ok (.ireturn, 1) := by decide +kernel
set_option maxRecDepth 20000 in
theorem ggX8_forms_X8_meets : GoodIn wsX8_forms wsX8_meets := goodIn_r _ [7, 1, 8, 9, 10, 6, 11, 12, 13, 14, 15, 16, 2, 17, 18, 19, 20, 21, 22, 23, 24, 25, 26, 27, 28, 29, 30, 31, 32, 33, 34, 35, 36, 37, 38, 39, 40, 49, 50, 51, 52, 53, 54, 55, 56, 57, 58, 59, 60, 61, 62, 63, 64, 65, 66, 67, 68, 69, 70, 71, 72] (by decide +kernel) (by decide +kernel)
set_option maxRecDepth 20000 in
theorem gX8_forms_X8_meets : GoodIn wsX8_forms (wsV RX8 181 RX8 yX8_meets wsX8_meets) := goodIn_app (goodIn_of _ (by decide +kernel)) ggX8_forms_X8_meets
set_option maxRecDepth 20000 in
theorem ggX8_forms_X8_workDegree : GoodIn wsX8_forms wsX8_workDegree := goodIn_r _ [11, 12, 13, 14, 15, 6, 16, 2, 17, 18, 19, 49, 50, 51, 52, 53, 54, 55, 56, 57, 58, 59, 60, 61, 62, 63, 64, 65, 66, 67, 68, 69, 70, 71, 72] (by decide +kernel) (by decide +kernel)
set_option maxRecDepth 20000 in
theorem gX8_forms_X8_workDegree : GoodIn wsX8_forms (wsV RX8 168 RX8 yX8_workDegree wsX8_workDegree) := goodIn_app (goodIn_of _ (by decide +kernel)) ggX8_forms_X8_workDegree
set_option maxRecDepth 20000 in
theorem ggX8_forms_X8_exchanges : GoodIn wsX8_forms wsX8_exchanges := goodIn_r _ [44, 2, 49, 50, 51, 52, 53, 54, 55, 56, 57, 58, 59, 60, 61, 62, 63, 64, 65, 66, 67, 68, 69, 70, 71, 72] (by decide +kernel) (by decide +kernel)
set_option maxRecDepth 20000 in
theorem gX8_forms_X8_exchanges : GoodIn wsX8_forms (wsV RX8 185 RX8 yX8_exchanges wsX8_exchanges) := goodIn_app (goodIn_of _ (by decide +kernel)) ggX8_forms_X8_exchanges
set_option maxRecDepth 20000 in
theorem ggX8_forms_X8_workPivot : GoodIn wsX8_forms wsX8_workPivot := goodIn_r _ [23, 12, 8, 9, 10, 6, 11, 13, 14, 15, 16, 2, 17, 18, 19, 49, 50, 51, 52, 53, 54, 55, 56, 57, 58, 59, 60, 61, 62, 63, 64, 65, 66, 67, 68, 69, 70, 71, 72] (by decide +kernel) (by decide +kernel)
set_option maxRecDepth 20000 in
theorem gX8_forms_X8_workPivot : GoodIn wsX8_forms (wsV RX8 171 RX8 yX8_workPivot wsX8_workPivot) := goodIn_app (goodIn_of _ (by decide +kernel)) ggX8_forms_X8_workPivot
set_option maxRecDepth 20000 in
theorem ggX8_forms_X8_cell : GoodIn wsX8_forms wsX8_cell := goodIn_r _ [19] (by decide +kernel) (by decide +kernel)
set_option maxRecDepth 20000 in
theorem gX8_forms_X8_cell : GoodIn wsX8_forms (va_wsS RX8 159 yX8_cell wsX8_cell) := goodIn_app (goodIn_of _ (by decide +kernel)) ggX8_forms_X8_cell
set_option maxRecDepth 20000 in
theorem ggX8_forms_X8_inverse : GoodIn wsX8_forms wsX8_inverse := goodIn_r _ [31, 32, 33, 34, 6, 35, 36, 49, 50, 51, 52, 53, 54, 55, 56, 57, 58, 59, 60, 61, 62, 63, 64, 65, 66, 67, 68, 69, 70, 71, 72] (by decide +kernel) (by decide +kernel)
set_option maxRecDepth 20000 in
theorem gX8_forms_X8_inverse : GoodIn wsX8_forms (wsV RX8 142 RX8 yX8_inverse wsX8_inverse) := goodIn_app (goodIn_of _ (by decide +kernel)) ggX8_forms_X8_inverse
set_option maxRecDepth 20000 in
theorem ggX8_forms_X8_modulus : GoodIn wsX8_forms wsX8_modulus := goodIn_r _ [35, 36, 49, 50, 51, 52, 53, 54, 55, 56, 57, 58, 59, 60, 61, 62, 63, 64, 65, 66, 67, 68, 69, 70, 71, 72] (by decide +kernel) (by decide +kernel)
set_option maxRecDepth 20000 in
theorem gX8_forms_X8_modulus : GoodIn wsX8_forms (wsV RX8 76 RX8 yX8_modulus wsX8_modulus) := goodIn_app (goodIn_of _ (by decide +kernel)) ggX8_forms_X8_modulus
set_option maxRecDepth 20000 in
theorem ggX8_forms_X8_lowers : GoodIn wsX8_forms wsX8_lowers := goodIn_r _ [48, 20, 21, 22, 6, 23, 12, 8, 9, 10, 11, 13, 14, 15, 16, 2, 17, 18, 19, 24, 25, 26, 27, 28, 29, 30, 31, 32, 33, 34, 35, 36, 37, 38, 39, 40, 49, 50, 51, 52, 53, 54, 55, 56, 57, 58, 59, 60, 61, 62, 63, 64, 65, 66, 67, 68, 69, 70, 71, 72] (by decide +kernel) (by decide +kernel)
set_option maxRecDepth 20000 in
theorem gX8_forms_X8_lowers : GoodIn wsX8_forms (wsV RX8 189 RX8 yX8_lowers wsX8_lowers) := goodIn_app (goodIn_of _ (by decide +kernel)) ggX8_forms_X8_lowers
theorem dX8_forms_0 : decode cX8_forms 0 = .ok (.iconst 1, 1) := by decide +kernel
theorem dX8_forms_1 : decode cX8_forms 1 = .ok (.istore_n 1, 1) := by decide +kernel
theorem dX8_forms_2 : decode cX8_forms 2 = .ok (.iload_n 1, 1) := by decide +kernel
theorem dX8_forms_3 : decode cX8_forms 3 = .ok (.ifCond .eq 11, 3) := by decide +kernel
theorem dX8_forms_6 : decode cX8_forms 6 = .ok (.aload_n 0, 1) := by decide +kernel
theorem dX8_forms_7 : decode cX8_forms 7 = .ok (.invokevirtual 181, 3) := by decide +kernel
theorem dX8_forms_10 : decode cX8_forms 10 = .ok (.istore_n 1, 1) := by decide +kernel
theorem dX8_forms_11 : decode cX8_forms 11 = .ok (.goto (-9), 3) := by decide +kernel
theorem dX8_forms_14 : decode cX8_forms 14 = .ok (.aload_n 0, 1) := by decide +kernel
theorem dX8_forms_15 : decode cX8_forms 15 = .ok (.getfield 178, 3) := by decide +kernel
theorem dX8_forms_18 : decode cX8_forms 18 = .ok (.iconst 1, 1) := by decide +kernel
theorem dX8_forms_19 : decode cX8_forms 19 = .ok (.isub, 1) := by decide +kernel
theorem dX8_forms_20 : decode cX8_forms 20 = .ok (.istore_n 2, 1) := by decide +kernel
theorem dX8_forms_21 : decode cX8_forms 21 = .ok (.iload_n 2, 1) := by decide +kernel
theorem dX8_forms_22 : decode cX8_forms 22 = .ok (.ifCond .lt 36, 3) := by decide +kernel
theorem dX8_forms_25 : decode cX8_forms 25 = .ok (.aload_n 0, 1) := by decide +kernel
theorem dX8_forms_26 : decode cX8_forms 26 = .ok (.iload_n 2, 1) := by decide +kernel
theorem dX8_forms_27 : decode cX8_forms 27 = .ok (.invokevirtual 168, 3) := by decide +kernel
theorem dX8_forms_30 : decode cX8_forms 30 = .ok (.ifCond .ge 22, 3) := by decide +kernel
theorem dX8_forms_33 : decode cX8_forms 33 = .ok (.aload_n 0, 1) := by decide +kernel
theorem dX8_forms_34 : decode cX8_forms 34 = .ok (.dup, 1) := by decide +kernel
theorem dX8_forms_35 : decode cX8_forms 35 = .ok (.getfield 178, 3) := by decide +kernel
theorem dX8_forms_38 : decode cX8_forms 38 = .ok (.iconst 1, 1) := by decide +kernel
theorem dX8_forms_39 : decode cX8_forms 39 = .ok (.isub, 1) := by decide +kernel
theorem dX8_forms_40 : decode cX8_forms 40 = .ok (.putfield 178, 3) := by decide +kernel
theorem dX8_forms_43 : decode cX8_forms 43 = .ok (.aload_n 0, 1) := by decide +kernel
theorem dX8_forms_44 : decode cX8_forms 44 = .ok (.iload_n 2, 1) := by decide +kernel
theorem dX8_forms_45 : decode cX8_forms 45 = .ok (.aload_n 0, 1) := by decide +kernel
theorem dX8_forms_46 : decode cX8_forms 46 = .ok (.getfield 178, 3) := by decide +kernel
theorem dX8_forms_49 : decode cX8_forms 49 = .ok (.invokevirtual 185, 3) := by decide +kernel
theorem dX8_forms_52 : decode cX8_forms 52 = .ok (.iinc 2 (-1), 3) := by decide +kernel
theorem dX8_forms_55 : decode cX8_forms 55 = .ok (.goto (-34), 3) := by decide +kernel
theorem dX8_forms_58 : decode cX8_forms 58 = .ok (.iconst 0, 1) := by decide +kernel
theorem dX8_forms_59 : decode cX8_forms 59 = .ok (.istore_n 2, 1) := by decide +kernel
theorem dX8_forms_60 : decode cX8_forms 60 = .ok (.iload_n 2, 1) := by decide +kernel
theorem dX8_forms_61 : decode cX8_forms 61 = .ok (.aload_n 0, 1) := by decide +kernel
theorem dX8_forms_62 : decode cX8_forms 62 = .ok (.getfield 178, 3) := by decide +kernel
theorem dX8_forms_65 : decode cX8_forms 65 = .ok (.if_icmp .ge 80, 3) := by decide +kernel
theorem dX8_forms_68 : decode cX8_forms 68 = .ok (.aload_n 0, 1) := by decide +kernel
theorem dX8_forms_69 : decode cX8_forms 69 = .ok (.aload_n 0, 1) := by decide +kernel
theorem dX8_forms_70 : decode cX8_forms 70 = .ok (.getfield 23, 3) := by decide +kernel
theorem dX8_forms_73 : decode cX8_forms 73 = .ok (.iload_n 2, 1) := by decide +kernel
theorem dX8_forms_74 : decode cX8_forms 74 = .ok (.aload_n 0, 1) := by decide +kernel
theorem dX8_forms_75 : decode cX8_forms 75 = .ok (.iload_n 2, 1) := by decide +kernel
theorem dX8_forms_76 : decode cX8_forms 76 = .ok (.invokevirtual 171, 3) := by decide +kernel
theorem dX8_forms_79 : decode cX8_forms 79 = .ok (.aload_n 0, 1) := by decide +kernel
theorem dX8_forms_80 : decode cX8_forms 80 = .ok (.iload_n 2, 1) := by decide +kernel
theorem dX8_forms_81 : decode cX8_forms 81 = .ok (.invokevirtual 168, 3) := by decide +kernel
theorem dX8_forms_84 : decode cX8_forms 84 = .ok (.invokestatic 159, 3) := by decide +kernel
theorem dX8_forms_87 : decode cX8_forms 87 = .ok (.iaload, 1) := by decide +kernel
theorem dX8_forms_88 : decode cX8_forms 88 = .ok (.invokevirtual 142, 3) := by decide +kernel
theorem dX8_forms_91 : decode cX8_forms 91 = .ok (.istore_n 3, 1) := by decide +kernel
theorem dX8_forms_92 : decode cX8_forms 92 = .ok (.iconst 0, 1) := by decide +kernel
theorem dX8_forms_93 : decode cX8_forms 93 = .ok (.istore 4, 2) := by decide +kernel
theorem dX8_forms_95 : decode cX8_forms 95 = .ok (.iload 4, 2) := by decide +kernel
theorem dX8_forms_97 : decode cX8_forms 97 = .ok (.bipush 24, 2) := by decide +kernel
theorem dX8_forms_99 : decode cX8_forms 99 = .ok (.if_icmp .ge 40, 3) := by decide +kernel
theorem dX8_forms_102 : decode cX8_forms 102 = .ok (.aload_n 0, 1) := by decide +kernel
theorem dX8_forms_103 : decode cX8_forms 103 = .ok (.getfield 23, 3) := by decide +kernel
theorem dX8_forms_106 : decode cX8_forms 106 = .ok (.bipush 24, 2) := by decide +kernel
theorem dX8_forms_108 : decode cX8_forms 108 = .ok (.iload_n 2, 1) := by decide +kernel
theorem dX8_forms_109 : decode cX8_forms 109 = .ok (.imul, 1) := by decide +kernel
theorem dX8_forms_110 : decode cX8_forms 110 = .ok (.iload 4, 2) := by decide +kernel
theorem dX8_forms_112 : decode cX8_forms 112 = .ok (.iadd, 1) := by decide +kernel
theorem dX8_forms_113 : decode cX8_forms 113 = .ok (.aload_n 0, 1) := by decide +kernel
theorem dX8_forms_114 : decode cX8_forms 114 = .ok (.getfield 23, 3) := by decide +kernel
theorem dX8_forms_117 : decode cX8_forms 117 = .ok (.bipush 24, 2) := by decide +kernel
theorem dX8_forms_119 : decode cX8_forms 119 = .ok (.iload_n 2, 1) := by decide +kernel
theorem dX8_forms_120 : decode cX8_forms 120 = .ok (.imul, 1) := by decide +kernel
theorem dX8_forms_121 : decode cX8_forms 121 = .ok (.iload 4, 2) := by decide +kernel
theorem dX8_forms_123 : decode cX8_forms 123 = .ok (.iadd, 1) := by decide +kernel
theorem dX8_forms_124 : decode cX8_forms 124 = .ok (.iaload, 1) := by decide +kernel
theorem dX8_forms_125 : decode cX8_forms 125 = .ok (.iload_n 3, 1) := by decide +kernel
theorem dX8_forms_126 : decode cX8_forms 126 = .ok (.imul, 1) := by decide +kernel
theorem dX8_forms_127 : decode cX8_forms 127 = .ok (.aload_n 0, 1) := by decide +kernel
theorem dX8_forms_128 : decode cX8_forms 128 = .ok (.invokevirtual 76, 3) := by decide +kernel
theorem dX8_forms_131 : decode cX8_forms 131 = .ok (.irem, 1) := by decide +kernel
theorem dX8_forms_132 : decode cX8_forms 132 = .ok (.iastore, 1) := by decide +kernel
theorem dX8_forms_133 : decode cX8_forms 133 = .ok (.iinc 4 1, 3) := by decide +kernel
theorem dX8_forms_136 : decode cX8_forms 136 = .ok (.goto (-41), 3) := by decide +kernel
theorem dX8_forms_139 : decode cX8_forms 139 = .ok (.iinc 2 1, 3) := by decide +kernel
theorem dX8_forms_142 : decode cX8_forms 142 = .ok (.goto (-82), 3) := by decide +kernel
theorem dX8_forms_145 : decode cX8_forms 145 = .ok (.iconst 0, 1) := by decide +kernel
theorem dX8_forms_146 : decode cX8_forms 146 = .ok (.istore_n 2, 1) := by decide +kernel
theorem dX8_forms_147 : decode cX8_forms 147 = .ok (.iload_n 2, 1) := by decide +kernel
theorem dX8_forms_148 : decode cX8_forms 148 = .ok (.aload_n 0, 1) := by decide +kernel
theorem dX8_forms_149 : decode cX8_forms 149 = .ok (.getfield 178, 3) := by decide +kernel
theorem dX8_forms_152 : decode cX8_forms 152 = .ok (.if_icmp .ge 19, 3) := by decide +kernel
theorem dX8_forms_155 : decode cX8_forms 155 = .ok (.aload_n 0, 1) := by decide +kernel
theorem dX8_forms_156 : decode cX8_forms 156 = .ok (.iload_n 2, 1) := by decide +kernel
theorem dX8_forms_157 : decode cX8_forms 157 = .ok (.iconst 0, 1) := by decide +kernel
theorem dX8_forms_158 : decode cX8_forms 158 = .ok (.aload_n 0, 1) := by decide +kernel
theorem dX8_forms_159 : decode cX8_forms 159 = .ok (.getfield 178, 3) := by decide +kernel
theorem dX8_forms_162 : decode cX8_forms 162 = .ok (.invokevirtual 189, 3) := by decide +kernel
theorem dX8_forms_165 : decode cX8_forms 165 = .ok (.iinc 2 1, 3) := by decide +kernel
theorem dX8_forms_168 : decode cX8_forms 168 = .ok (.goto (-21), 3) := by decide +kernel
theorem dX8_forms_171 : decode cX8_forms 171 = .ok (.iconst 0, 1) := by decide +kernel
theorem dX8_forms_172 : decode cX8_forms 172 = .ok (.istore_n 2, 1) := by decide +kernel
theorem dX8_forms_173 : decode cX8_forms 173 = .ok (.iload_n 2, 1) := by decide +kernel
theorem dX8_forms_174 : decode cX8_forms 174 = .ok (.aload_n 0, 1) := by decide +kernel
theorem dX8_forms_175 : decode cX8_forms 175 = .ok (.getfield 178, 3) := by decide +kernel
theorem dX8_forms_178 : decode cX8_forms 178 = .ok (.if_icmp .ge 69, 3) := by decide +kernel
theorem dX8_forms_181 : decode cX8_forms 181 = .ok (.iload_n 2, 1) := by decide +kernel
theorem dX8_forms_182 : decode cX8_forms 182 = .ok (.iconst 1, 1) := by decide +kernel
theorem dX8_forms_183 : decode cX8_forms 183 = .ok (.iadd, 1) := by decide +kernel
theorem dX8_forms_184 : decode cX8_forms 184 = .ok (.istore_n 3, 1) := by decide +kernel
theorem dX8_forms_185 : decode cX8_forms 185 = .ok (.iload_n 3, 1) := by decide +kernel
theorem dX8_forms_186 : decode cX8_forms 186 = .ok (.aload_n 0, 1) := by decide +kernel
theorem dX8_forms_187 : decode cX8_forms 187 = .ok (.getfield 178, 3) := by decide +kernel
theorem dX8_forms_190 : decode cX8_forms 190 = .ok (.if_icmp .ge 51, 3) := by decide +kernel
theorem dX8_forms_193 : decode cX8_forms 193 = .ok (.bipush 8, 2) := by decide +kernel
theorem dX8_forms_195 : decode cX8_forms 195 = .ok (.aload_n 0, 1) := by decide +kernel
theorem dX8_forms_196 : decode cX8_forms 196 = .ok (.iload_n 3, 1) := by decide +kernel
theorem dX8_forms_197 : decode cX8_forms 197 = .ok (.invokevirtual 168, 3) := by decide +kernel
theorem dX8_forms_200 : decode cX8_forms 200 = .ok (.imul, 1) := by decide +kernel
theorem dX8_forms_201 : decode cX8_forms 201 = .ok (.aload_n 0, 1) := by decide +kernel
theorem dX8_forms_202 : decode cX8_forms 202 = .ok (.iload_n 3, 1) := by decide +kernel
theorem dX8_forms_203 : decode cX8_forms 203 = .ok (.invokevirtual 171, 3) := by decide +kernel
theorem dX8_forms_206 : decode cX8_forms 206 = .ok (.iadd, 1) := by decide +kernel
theorem dX8_forms_207 : decode cX8_forms 207 = .ok (.bipush 8, 2) := by decide +kernel
theorem dX8_forms_209 : decode cX8_forms 209 = .ok (.aload_n 0, 1) := by decide +kernel
theorem dX8_forms_210 : decode cX8_forms 210 = .ok (.iload_n 2, 1) := by decide +kernel
theorem dX8_forms_211 : decode cX8_forms 211 = .ok (.invokevirtual 168, 3) := by decide +kernel
theorem dX8_forms_214 : decode cX8_forms 214 = .ok (.imul, 1) := by decide +kernel
theorem dX8_forms_215 : decode cX8_forms 215 = .ok (.isub, 1) := by decide +kernel
theorem dX8_forms_216 : decode cX8_forms 216 = .ok (.aload_n 0, 1) := by decide +kernel
theorem dX8_forms_217 : decode cX8_forms 217 = .ok (.iload_n 2, 1) := by decide +kernel
theorem dX8_forms_218 : decode cX8_forms 218 = .ok (.invokevirtual 171, 3) := by decide +kernel
theorem dX8_forms_221 : decode cX8_forms 221 = .ok (.isub, 1) := by decide +kernel
theorem dX8_forms_222 : decode cX8_forms 222 = .ok (.istore 4, 2) := by decide +kernel
theorem dX8_forms_224 : decode cX8_forms 224 = .ok (.iload 4, 2) := by decide +kernel
theorem dX8_forms_226 : decode cX8_forms 226 = .ok (.ifCond .ge 9, 3) := by decide +kernel
theorem dX8_forms_229 : decode cX8_forms 229 = .ok (.aload_n 0, 1) := by decide +kernel
theorem dX8_forms_230 : decode cX8_forms 230 = .ok (.iload_n 2, 1) := by decide +kernel
theorem dX8_forms_231 : decode cX8_forms 231 = .ok (.iload_n 3, 1) := by decide +kernel
theorem dX8_forms_232 : decode cX8_forms 232 = .ok (.invokevirtual 185, 3) := by decide +kernel
theorem dX8_forms_235 : decode cX8_forms 235 = .ok (.iinc 3 1, 3) := by decide +kernel
theorem dX8_forms_238 : decode cX8_forms 238 = .ok (.goto (-53), 3) := by decide +kernel
theorem dX8_forms_241 : decode cX8_forms 241 = .ok (.iinc 2 1, 3) := by decide +kernel
theorem dX8_forms_244 : decode cX8_forms 244 = .ok (.goto (-71), 3) := by decide +kernel
theorem dX8_forms_247 : decode cX8_forms 247 = .ok (.return_, 1) := by decide +kernel
set_option maxRecDepth 20000 in
theorem ggX8_lays_X8_cell : GoodIn wsX8_lays wsX8_cell := goodIn_r _ [6] (by decide +kernel) (by decide +kernel)
set_option maxRecDepth 20000 in
theorem gX8_lays_X8_cell : GoodIn wsX8_lays (va_wsS RX8 159 yX8_cell wsX8_cell) := goodIn_app (goodIn_of _ (by decide +kernel)) ggX8_lays_X8_cell
set_option maxRecDepth 20000 in
theorem ggX8_lays_X8_width : GoodIn wsX8_lays wsX8_width := goodIn_r _ [10, 2, 14, 15, 16, 17, 18, 19, 20, 21, 22, 23, 24, 25, 26, 27, 28, 29, 30, 31, 32, 33, 34, 35, 36, 37] (by decide +kernel) (by decide +kernel)
set_option maxRecDepth 20000 in
theorem gX8_lays_X8_width : GoodIn wsX8_lays (wsV RX8 73 RX8 yX8_width wsX8_width) := goodIn_app (goodIn_of _ (by decide +kernel)) ggX8_lays_X8_width
set_option maxRecDepth 20000 in
theorem ggX8_lays_X8_place : GoodIn wsX8_lays wsX8_place := goodIn_r _ [13] (by decide +kernel) (by decide +kernel)
set_option maxRecDepth 20000 in
theorem gX8_lays_X8_place : GoodIn wsX8_lays (va_wsS RX8 79 yX8_place wsX8_place) := goodIn_app (goodIn_of _ (by decide +kernel)) ggX8_lays_X8_place
theorem dX8_lays_0 : decode cX8_lays 0 = .ok (.iconst 0, 1) := by decide +kernel
theorem dX8_lays_1 : decode cX8_lays 1 = .ok (.istore_n 3, 1) := by decide +kernel
theorem dX8_lays_2 : decode cX8_lays 2 = .ok (.iload_n 3, 1) := by decide +kernel
theorem dX8_lays_3 : decode cX8_lays 3 = .ok (.iconst 3, 1) := by decide +kernel
theorem dX8_lays_4 : decode cX8_lays 4 = .ok (.if_icmp .ge 68, 3) := by decide +kernel
theorem dX8_lays_7 : decode cX8_lays 7 = .ok (.iconst 0, 1) := by decide +kernel
theorem dX8_lays_8 : decode cX8_lays 8 = .ok (.istore 4, 2) := by decide +kernel
theorem dX8_lays_10 : decode cX8_lays 10 = .ok (.iload 4, 2) := by decide +kernel
theorem dX8_lays_12 : decode cX8_lays 12 = .ok (.bipush 8, 2) := by decide +kernel
theorem dX8_lays_14 : decode cX8_lays 14 = .ok (.if_icmp .ge 52, 3) := by decide +kernel
theorem dX8_lays_17 : decode cX8_lays 17 = .ok (.aload_n 0, 1) := by decide +kernel
theorem dX8_lays_18 : decode cX8_lays 18 = .ok (.getfield 23, 3) := by decide +kernel
theorem dX8_lays_21 : decode cX8_lays 21 = .ok (.iload_n 1, 1) := by decide +kernel
theorem dX8_lays_22 : decode cX8_lays 22 = .ok (.iload_n 3, 1) := by decide +kernel
theorem dX8_lays_23 : decode cX8_lays 23 = .ok (.iload 4, 2) := by decide +kernel
theorem dX8_lays_25 : decode cX8_lays 25 = .ok (.invokestatic 159, 3) := by decide +kernel
theorem dX8_lays_28 : decode cX8_lays 28 = .ok (.iload_n 3, 1) := by decide +kernel
theorem dX8_lays_29 : decode cX8_lays 29 = .ok (.aload_n 0, 1) := by decide +kernel
theorem dX8_lays_30 : decode cX8_lays 30 = .ok (.invokevirtual 73, 3) := by decide +kernel
theorem dX8_lays_33 : decode cX8_lays 33 = .ok (.if_icmp .ge 25, 3) := by decide +kernel
theorem dX8_lays_36 : decode cX8_lays 36 = .ok (.iload 4, 2) := by decide +kernel
theorem dX8_lays_38 : decode cX8_lays 38 = .ok (.bipush 7, 2) := by decide +kernel
theorem dX8_lays_40 : decode cX8_lays 40 = .ok (.if_icmp .ge 18, 3) := by decide +kernel
theorem dX8_lays_43 : decode cX8_lays 43 = .ok (.aload_n 0, 1) := by decide +kernel
theorem dX8_lays_44 : decode cX8_lays 44 = .ok (.getfield 7, 3) := by decide +kernel
theorem dX8_lays_47 : decode cX8_lays 47 = .ok (.iload_n 2, 1) := by decide +kernel
theorem dX8_lays_48 : decode cX8_lays 48 = .ok (.iload_n 3, 1) := by decide +kernel
theorem dX8_lays_49 : decode cX8_lays 49 = .ok (.iload 4, 2) := by decide +kernel
theorem dX8_lays_51 : decode cX8_lays 51 = .ok (.invokestatic 79, 3) := by decide +kernel
theorem dX8_lays_54 : decode cX8_lays 54 = .ok (.iaload, 1) := by decide +kernel
theorem dX8_lays_55 : decode cX8_lays 55 = .ok (.goto 4, 3) := by decide +kernel
theorem dX8_lays_58 : decode cX8_lays 58 = .ok (.iconst 0, 1) := by decide +kernel
theorem dX8_lays_59 : decode cX8_lays 59 = .ok (.iastore, 1) := by decide +kernel
theorem dX8_lays_60 : decode cX8_lays 60 = .ok (.iinc 4 1, 3) := by decide +kernel
theorem dX8_lays_63 : decode cX8_lays 63 = .ok (.goto (-53), 3) := by decide +kernel
theorem dX8_lays_66 : decode cX8_lays 66 = .ok (.iinc 3 1, 3) := by decide +kernel
theorem dX8_lays_69 : decode cX8_lays 69 = .ok (.goto (-67), 3) := by decide +kernel
theorem dX8_lays_72 : decode cX8_lays 72 = .ok (.return_, 1) := by decide +kernel
set_option maxRecDepth 20000 in
theorem ggX8_formsOf_X8_width : GoodIn wsX8_formsOf wsX8_width := goodIn_r _ [7, 8, 68, 69, 70, 71, 72, 73, 74, 75, 76, 77, 78, 79, 80, 81, 82, 83, 84, 85, 86, 87, 88, 89, 90, 91] (by decide +kernel) (by decide +kernel)
set_option maxRecDepth 20000 in
theorem gX8_formsOf_X8_width : GoodIn wsX8_formsOf (wsV RX8 73 RX8 yX8_width wsX8_width) := goodIn_app (goodIn_of _ (by decide +kernel)) ggX8_formsOf_X8_width
set_option maxRecDepth 20000 in
theorem ggX8_formsOf_X8_rows : GoodIn wsX8_formsOf wsX8_rows := goodIn_r _ [12, 8, 68, 69, 70, 71, 72, 73, 74, 75, 76, 77, 78, 79, 80, 81, 82, 83, 84, 85, 86, 87, 88, 89, 90, 91] (by decide +kernel) (by decide +kernel)
set_option maxRecDepth 20000 in
theorem gX8_formsOf_X8_rows : GoodIn wsX8_formsOf (wsV RX8 65 RX8 yX8_rows wsX8_rows) := goodIn_app (goodIn_of _ (by decide +kernel)) ggX8_formsOf_X8_rows
set_option maxRecDepth 20000 in
theorem ggX8_formsOf_X8_lays : GoodIn wsX8_formsOf wsX8_lays := goodIn_r _ [16, 17, 8, 18, 19, 6, 20, 3, 4, 5, 7, 21, 22, 23, 68, 69, 70, 71, 72, 73, 74, 75, 76, 77, 78, 79, 80, 81, 82, 83, 84, 85, 86, 87, 88, 89, 90, 91] (by decide +kernel) (by decide +kernel)
set_option maxRecDepth 20000 in
theorem gX8_formsOf_X8_lays : GoodIn wsX8_formsOf (wsV RX8 192 RX8 yX8_lays wsX8_lays) := goodIn_app (goodIn_of _ (by decide +kernel)) ggX8_formsOf_X8_lays
set_option maxRecDepth 20000 in
theorem ggX8_formsOf_X8_forms : GoodIn wsX8_formsOf wsX8_forms := goodIn_r _ [27, 1, 17, 28, 29, 30, 6, 31, 32, 33, 34, 35, 2, 36, 37, 38, 39, 18, 19, 20, 40, 41, 42, 43, 44, 45, 46, 47, 48, 49, 50, 51, 52, 53, 54, 55, 8, 56, 57, 58, 59, 60, 61, 62, 63, 64, 65, 66, 67, 68, 69, 70, 71, 72, 73, 74, 75, 76, 77, 78, 79, 80, 81, 82, 83, 84, 85, 86, 87, 88, 89, 90, 91] (by decide +kernel) (by decide +kernel)
set_option maxRecDepth 20000 in
theorem gX8_formsOf_X8_forms : GoodIn wsX8_formsOf (wsV RX8 195 RX8 yX8_forms wsX8_forms) := goodIn_app (goodIn_of _ (by decide +kernel)) ggX8_formsOf_X8_forms
theorem dX8_formsOf_0 : decode cX8_formsOf 0 = .ok (.aload_n 0, 1) := by decide +kernel
theorem dX8_formsOf_1 : decode cX8_formsOf 1 = .ok (.iconst 0, 1) := by decide +kernel
theorem dX8_formsOf_2 : decode cX8_formsOf 2 = .ok (.putfield 178, 3) := by decide +kernel
theorem dX8_formsOf_5 : decode cX8_formsOf 5 = .ok (.aload_n 0, 1) := by decide +kernel
theorem dX8_formsOf_6 : decode cX8_formsOf 6 = .ok (.aload_n 0, 1) := by decide +kernel
theorem dX8_formsOf_7 : decode cX8_formsOf 7 = .ok (.invokevirtual 73, 3) := by decide +kernel
theorem dX8_formsOf_10 : decode cX8_formsOf 10 = .ok (.putfield 162, 3) := by decide +kernel
theorem dX8_formsOf_13 : decode cX8_formsOf 13 = .ok (.iconst 0, 1) := by decide +kernel
theorem dX8_formsOf_14 : decode cX8_formsOf 14 = .ok (.istore_n 2, 1) := by decide +kernel
theorem dX8_formsOf_15 : decode cX8_formsOf 15 = .ok (.iload_n 2, 1) := by decide +kernel
theorem dX8_formsOf_16 : decode cX8_formsOf 16 = .ok (.aload_n 0, 1) := by decide +kernel
theorem dX8_formsOf_17 : decode cX8_formsOf 17 = .ok (.invokevirtual 65, 3) := by decide +kernel
theorem dX8_formsOf_20 : decode cX8_formsOf 20 = .ok (.if_icmp .ge 37, 3) := by decide +kernel
theorem dX8_formsOf_23 : decode cX8_formsOf 23 = .ok (.iload_n 1, 1) := by decide +kernel
theorem dX8_formsOf_24 : decode cX8_formsOf 24 = .ok (.iload_n 2, 1) := by decide +kernel
theorem dX8_formsOf_25 : decode cX8_formsOf 25 = .ok (.ishr, 1) := by decide +kernel
theorem dX8_formsOf_26 : decode cX8_formsOf 26 = .ok (.iconst 1, 1) := by decide +kernel
theorem dX8_formsOf_27 : decode cX8_formsOf 27 = .ok (.iand, 1) := by decide +kernel
theorem dX8_formsOf_28 : decode cX8_formsOf 28 = .ok (.iconst 1, 1) := by decide +kernel
theorem dX8_formsOf_29 : decode cX8_formsOf 29 = .ok (.if_icmp .ne 22, 3) := by decide +kernel
theorem dX8_formsOf_32 : decode cX8_formsOf 32 = .ok (.aload_n 0, 1) := by decide +kernel
theorem dX8_formsOf_33 : decode cX8_formsOf 33 = .ok (.aload_n 0, 1) := by decide +kernel
theorem dX8_formsOf_34 : decode cX8_formsOf 34 = .ok (.getfield 178, 3) := by decide +kernel
theorem dX8_formsOf_37 : decode cX8_formsOf 37 = .ok (.iload_n 2, 1) := by decide +kernel
theorem dX8_formsOf_38 : decode cX8_formsOf 38 = .ok (.invokevirtual 192, 3) := by decide +kernel
theorem dX8_formsOf_41 : decode cX8_formsOf 41 = .ok (.aload_n 0, 1) := by decide +kernel
theorem dX8_formsOf_42 : decode cX8_formsOf 42 = .ok (.dup, 1) := by decide +kernel
theorem dX8_formsOf_43 : decode cX8_formsOf 43 = .ok (.getfield 178, 3) := by decide +kernel
theorem dX8_formsOf_46 : decode cX8_formsOf 46 = .ok (.iconst 1, 1) := by decide +kernel
theorem dX8_formsOf_47 : decode cX8_formsOf 47 = .ok (.iadd, 1) := by decide +kernel
theorem dX8_formsOf_48 : decode cX8_formsOf 48 = .ok (.putfield 178, 3) := by decide +kernel
theorem dX8_formsOf_51 : decode cX8_formsOf 51 = .ok (.iinc 2 1, 3) := by decide +kernel
theorem dX8_formsOf_54 : decode cX8_formsOf 54 = .ok (.goto (-39), 3) := by decide +kernel
theorem dX8_formsOf_57 : decode cX8_formsOf 57 = .ok (.aload_n 0, 1) := by decide +kernel
theorem dX8_formsOf_58 : decode cX8_formsOf 58 = .ok (.invokevirtual 195, 3) := by decide +kernel
theorem dX8_formsOf_61 : decode cX8_formsOf 61 = .ok (.return_, 1) := by decide +kernel
set_option maxRecDepth 20000 in
theorem ggX8_isSet_X8_rows : GoodIn wsX8_isSet wsX8_rows := goodIn_r _ [5, 6, 10, 11, 12, 13, 14, 15, 16, 17, 18, 19, 20, 21, 22, 23, 24, 25, 26, 27, 28, 29, 30, 31, 32, 33] (by decide +kernel) (by decide +kernel)
set_option maxRecDepth 20000 in
theorem gX8_isSet_X8_rows : GoodIn wsX8_isSet (wsV RX8 65 RX8 yX8_rows wsX8_rows) := goodIn_app (goodIn_of _ (by decide +kernel)) ggX8_isSet_X8_rows
set_option maxRecDepth 20000 in
theorem ggX8_isSet_X8_in : GoodIn wsX8_isSet wsX8_in := goodIn_r _ [9] (by decide +kernel) (by decide +kernel)
set_option maxRecDepth 20000 in
theorem gX8_isSet_X8_in : GoodIn wsX8_isSet (va_wsS RX8 69 yX8_in wsX8_in) := goodIn_app (goodIn_of _ (by decide +kernel)) ggX8_isSet_X8_in
theorem dX8_isSet_0 : decode cX8_isSet 0 = .ok (.iload_n 1, 1) := by decide +kernel
theorem dX8_isSet_1 : decode cX8_isSet 1 = .ok (.i2l, 1) := by decide +kernel
theorem dX8_isSet_2 : decode cX8_isSet 2 = .ok (.lconst 0, 1) := by decide +kernel
theorem dX8_isSet_3 : decode cX8_isSet 3 = .ok (.iconst 1, 1) := by decide +kernel
theorem dX8_isSet_4 : decode cX8_isSet 4 = .ok (.aload_n 0, 1) := by decide +kernel
theorem dX8_isSet_5 : decode cX8_isSet 5 = .ok (.invokevirtual 65, 3) := by decide +kernel
theorem dX8_isSet_8 : decode cX8_isSet 8 = .ok (.ishl, 1) := by decide +kernel
theorem dX8_isSet_9 : decode cX8_isSet 9 = .ok (.iconst 1, 1) := by decide +kernel
theorem dX8_isSet_10 : decode cX8_isSet 10 = .ok (.isub, 1) := by decide +kernel
theorem dX8_isSet_11 : decode cX8_isSet 11 = .ok (.i2l, 1) := by decide +kernel
theorem dX8_isSet_12 : decode cX8_isSet 12 = .ok (.invokestatic 69, 3) := by decide +kernel
theorem dX8_isSet_15 : decode cX8_isSet 15 = .ok (.ireturn, 1) := by decide +kernel
set_option maxRecDepth 20000 in
theorem ggX8_rankOf_X8_formsOf : GoodIn wsX8_rankOf wsX8_formsOf := goodIn_r _ [6, 1, 7, 8, 9, 10, 5, 11, 12, 13, 14, 15, 16, 17, 18, 19, 20, 21, 22, 23, 24, 25, 26, 27, 28, 29, 30, 31, 32, 33, 34, 35, 36, 37, 38, 39, 40, 41, 42, 43, 44, 45, 46, 47, 48, 49, 50, 51, 52, 53, 54, 55, 56, 57, 58, 59, 60, 61, 62, 63, 64, 65, 66, 67, 68, 69, 70, 71, 72, 73, 74, 75, 76, 77, 78, 79, 80, 81, 82, 83, 84, 85, 86, 87, 88, 89, 90, 91, 92, 93, 94, 95] (by decide +kernel) (by decide +kernel)
set_option maxRecDepth 20000 in
theorem gX8_rankOf_X8_formsOf : GoodIn wsX8_rankOf (wsV RX8 198 RX8 yX8_formsOf wsX8_formsOf) := goodIn_app (goodIn_of _ (by decide +kernel)) ggX8_rankOf_X8_formsOf
theorem dX8_rankOf_0 : decode cX8_rankOf 0 = .ok (.aload_n 0, 1) := by decide +kernel
theorem dX8_rankOf_1 : decode cX8_rankOf 1 = .ok (.iload_n 1, 1) := by decide +kernel
theorem dX8_rankOf_2 : decode cX8_rankOf 2 = .ok (.invokevirtual 198, 3) := by decide +kernel
theorem dX8_rankOf_5 : decode cX8_rankOf 5 = .ok (.aload_n 0, 1) := by decide +kernel
theorem dX8_rankOf_6 : decode cX8_rankOf 6 = .ok (.getfield 178, 3) := by decide +kernel
theorem dX8_rankOf_9 : decode cX8_rankOf 9 = .ok (.ireturn, 1) := by decide +kernel
set_option maxRecDepth 20000 in
theorem ggX8_rank_X8_isSet : GoodIn wsX8_rank wsX8_isSet := goodIn_r _ [5, 6, 7, 8, 4, 9, 10, 11, 12, 13, 88, 89, 90, 91, 92, 93, 94, 95, 96, 97, 98, 99, 100, 101, 102, 103, 104, 105, 106, 107, 108, 109, 110, 111] (by decide +kernel) (by decide +kernel)
set_option maxRecDepth 20000 in
theorem gX8_rank_X8_isSet : GoodIn wsX8_rank (wsV RX8 202 RX8 yX8_isSet wsX8_isSet) := goodIn_app (goodIn_of _ (by decide +kernel)) ggX8_rank_X8_isSet
set_option maxRecDepth 20000 in
theorem ggX8_rank_X8_rankOf : GoodIn wsX8_rank wsX8_rankOf := goodIn_r _ [17, 18, 19, 20, 21, 4, 22, 23, 24, 25, 26, 27, 10, 6, 7, 8, 9, 28, 29, 30, 31, 32, 33, 34, 35, 36, 37, 38, 39, 40, 41, 42, 43, 44, 45, 46, 47, 48, 49, 50, 51, 52, 53, 54, 55, 56, 57, 58, 59, 60, 61, 62, 63, 64, 65, 66, 67, 68, 69, 70, 71, 72, 73, 74, 75, 76, 77, 78, 79, 80, 81, 82, 88, 89, 90, 91, 92, 93, 94, 95, 96, 97, 98, 99, 100, 101, 102, 103, 104, 105, 106, 107, 108, 109, 110, 111] (by decide +kernel) (by decide +kernel)
set_option maxRecDepth 20000 in
theorem gX8_rank_X8_rankOf : GoodIn wsX8_rank (wsV RX8 205 RX8 yX8_rankOf wsX8_rankOf) := goodIn_app (goodIn_of _ (by decide +kernel)) ggX8_rank_X8_rankOf
set_option maxRecDepth 20000 in
theorem ggX8_rank_X8_refuses : GoodIn wsX8_rank wsX8_refuses := goodIn_r _ [86, 87, 88, 89, 90, 91, 92, 93, 94, 95, 96, 97, 98, 99, 100, 101, 102, 103, 104, 105, 106, 107, 108, 109, 110, 111] (by decide +kernel) (by decide +kernel)
set_option maxRecDepth 20000 in
theorem gX8_rank_X8_refuses : GoodIn wsX8_rank (wsV RX8 101 RX8 yX8_refuses wsX8_refuses) := goodIn_app (goodIn_of _ (by decide +kernel)) ggX8_rank_X8_refuses
theorem dX8_rank_0 : decode cX8_rank 0 = .ok (.aload_n 0, 1) := by decide +kernel
theorem dX8_rank_1 : decode cX8_rank 1 = .ok (.iload_n 1, 1) := by decide +kernel
theorem dX8_rank_2 : decode cX8_rank 2 = .ok (.invokevirtual 202, 3) := by decide +kernel
theorem dX8_rank_5 : decode cX8_rank 5 = .ok (.ifCond .eq 11, 3) := by decide +kernel
theorem dX8_rank_8 : decode cX8_rank 8 = .ok (.aload_n 0, 1) := by decide +kernel
theorem dX8_rank_9 : decode cX8_rank 9 = .ok (.iload_n 1, 1) := by decide +kernel
theorem dX8_rank_10 : decode cX8_rank 10 = .ok (.invokevirtual 205, 3) := by decide +kernel
theorem dX8_rank_13 : decode cX8_rank 13 = .ok (.goto 9, 3) := by decide +kernel
theorem dX8_rank_16 : decode cX8_rank 16 = .ok (.aload_n 0, 1) := by decide +kernel
theorem dX8_rank_17 : decode cX8_rank 17 = .ok (.bipush (-2), 2) := by decide +kernel
theorem dX8_rank_19 : decode cX8_rank 19 = .ok (.invokevirtual 101, 3) := by decide +kernel
theorem dX8_rank_22 : decode cX8_rank 22 = .ok (.ireturn, 1) := by decide +kernel
set_option maxRecDepth 20000 in
theorem ggX8_formOf_X8_formsOf : GoodIn wsX8_formOf wsX8_formsOf := goodIn_r _ [7, 1, 8, 9, 10, 11, 6, 12, 13, 14, 15, 16, 17, 18, 19, 20, 21, 2, 22, 23, 24, 25, 26, 27, 28, 29, 30, 31, 32, 33, 34, 35, 36, 37, 38, 39, 40, 41, 42, 43, 44, 45, 46, 47, 48, 49, 50, 51, 52, 53, 54, 55, 56, 57, 58, 59, 60, 61, 62, 63, 64, 65, 66, 67, 68, 69, 70, 71, 72, 73, 74, 75, 76, 77, 78, 79, 80, 81, 82, 83, 84, 85, 86, 87, 88, 89, 90, 91, 92, 93, 94, 95] (by decide +kernel) (by decide +kernel)
set_option maxRecDepth 20000 in
theorem gX8_formOf_X8_formsOf : GoodIn wsX8_formOf (wsV RX8 198 RX8 yX8_formsOf wsX8_formsOf) := goodIn_app (goodIn_of _ (by decide +kernel)) ggX8_formOf_X8_formsOf
set_option maxRecDepth 20000 in
theorem ggX8_formOf_X8_workDegree : GoodIn wsX8_formOf wsX8_workDegree := goodIn_r _ [39, 8, 40, 41, 42, 6, 43, 2, 22, 23, 24, 72, 73, 74, 75, 76, 77, 78, 79, 80, 81, 82, 83, 84, 85, 86, 87, 88, 89, 90, 91, 92, 93, 94, 95] (by decide +kernel) (by decide +kernel)
set_option maxRecDepth 20000 in
theorem gX8_formOf_X8_workDegree : GoodIn wsX8_formOf (wsV RX8 168 RX8 yX8_workDegree wsX8_workDegree) := goodIn_app (goodIn_of _ (by decide +kernel)) ggX8_formOf_X8_workDegree
set_option maxRecDepth 20000 in
theorem ggX8_formOf_X8_workPivot : GoodIn wsX8_formOf wsX8_workPivot := goodIn_r _ [47, 8, 36, 37, 38, 6, 39, 40, 41, 42, 43, 2, 22, 23, 24, 72, 73, 74, 75, 76, 77, 78, 79, 80, 81, 82, 83, 84, 85, 86, 87, 88, 89, 90, 91, 92, 93, 94, 95] (by decide +kernel) (by decide +kernel)
set_option maxRecDepth 20000 in
theorem gX8_formOf_X8_workPivot : GoodIn wsX8_formOf (wsV RX8 171 RX8 yX8_workPivot wsX8_workPivot) := goodIn_app (goodIn_of _ (by decide +kernel)) ggX8_formOf_X8_workPivot
set_option maxRecDepth 20000 in
theorem ggX8_formOf_X8_cell : GoodIn wsX8_formOf wsX8_cell := goodIn_r _ [24] (by decide +kernel) (by decide +kernel)
set_option maxRecDepth 20000 in
theorem gX8_formOf_X8_cell : GoodIn wsX8_formOf (va_wsS RX8 159 yX8_cell wsX8_cell) := goodIn_app (goodIn_of _ (by decide +kernel)) ggX8_formOf_X8_cell
theorem dX8_formOf_0 : decode cX8_formOf 0 = .ok (.aload_n 0, 1) := by decide +kernel
theorem dX8_formOf_1 : decode cX8_formOf 1 = .ok (.iload_n 1, 1) := by decide +kernel
theorem dX8_formOf_2 : decode cX8_formOf 2 = .ok (.invokevirtual 198, 3) := by decide +kernel
theorem dX8_formOf_5 : decode cX8_formOf 5 = .ok (.iload_n 2, 1) := by decide +kernel
theorem dX8_formOf_6 : decode cX8_formOf 6 = .ok (.aload_n 0, 1) := by decide +kernel
theorem dX8_formOf_7 : decode cX8_formOf 7 = .ok (.getfield 178, 3) := by decide +kernel
theorem dX8_formOf_10 : decode cX8_formOf 10 = .ok (.if_icmp .lt 8, 3) := by decide +kernel
theorem dX8_formOf_13 : decode cX8_formOf 13 = .ok (.bipush (-5), 2) := by decide +kernel
theorem dX8_formOf_15 : decode cX8_formOf 15 = .ok (.goto 41, 3) := by decide +kernel
theorem dX8_formOf_18 : decode cX8_formOf 18 = .ok (.iload_n 3, 1) := by decide +kernel
theorem dX8_formOf_19 : decode cX8_formOf 19 = .ok (.iconst (-1), 1) := by decide +kernel
theorem dX8_formOf_20 : decode cX8_formOf 20 = .ok (.if_icmp .ne 24, 3) := by decide +kernel
theorem dX8_formOf_23 : decode cX8_formOf 23 = .ok (.iload 4, 2) := by decide +kernel
theorem dX8_formOf_25 : decode cX8_formOf 25 = .ok (.ifCond .ne 11, 3) := by decide +kernel
theorem dX8_formOf_28 : decode cX8_formOf 28 = .ok (.aload_n 0, 1) := by decide +kernel
theorem dX8_formOf_29 : decode cX8_formOf 29 = .ok (.iload_n 2, 1) := by decide +kernel
theorem dX8_formOf_30 : decode cX8_formOf 30 = .ok (.invokevirtual 168, 3) := by decide +kernel
theorem dX8_formOf_33 : decode cX8_formOf 33 = .ok (.goto 23, 3) := by decide +kernel
theorem dX8_formOf_36 : decode cX8_formOf 36 = .ok (.aload_n 0, 1) := by decide +kernel
theorem dX8_formOf_37 : decode cX8_formOf 37 = .ok (.iload_n 2, 1) := by decide +kernel
theorem dX8_formOf_38 : decode cX8_formOf 38 = .ok (.invokevirtual 171, 3) := by decide +kernel
theorem dX8_formOf_41 : decode cX8_formOf 41 = .ok (.goto 15, 3) := by decide +kernel
theorem dX8_formOf_44 : decode cX8_formOf 44 = .ok (.aload_n 0, 1) := by decide +kernel
theorem dX8_formOf_45 : decode cX8_formOf 45 = .ok (.getfield 23, 3) := by decide +kernel
theorem dX8_formOf_48 : decode cX8_formOf 48 = .ok (.iload_n 2, 1) := by decide +kernel
theorem dX8_formOf_49 : decode cX8_formOf 49 = .ok (.iload_n 3, 1) := by decide +kernel
theorem dX8_formOf_50 : decode cX8_formOf 50 = .ok (.iload 4, 2) := by decide +kernel
theorem dX8_formOf_52 : decode cX8_formOf 52 = .ok (.invokestatic 159, 3) := by decide +kernel
theorem dX8_formOf_55 : decode cX8_formOf 55 = .ok (.iaload, 1) := by decide +kernel
theorem dX8_formOf_56 : decode cX8_formOf 56 = .ok (.ireturn, 1) := by decide +kernel
set_option maxRecDepth 20000 in
theorem ggX8_form_X8_in : GoodIn wsX8_form wsX8_in := goodIn_r _ [5] (by decide +kernel) (by decide +kernel)
set_option maxRecDepth 20000 in
theorem gX8_form_X8_in : GoodIn wsX8_form (va_wsS RX8 69 yX8_in wsX8_in) := goodIn_app (goodIn_of _ (by decide +kernel)) ggX8_form_X8_in
set_option maxRecDepth 20000 in
theorem ggX8_form_X8_isColumn : GoodIn wsX8_form wsX8_isColumn := goodIn_r _ [9, 10, 11, 12, 4, 13, 14, 2, 3, 5, 93, 94, 95, 96, 97, 98, 99, 100, 101, 102, 103, 104, 105, 106, 107, 108, 109, 110, 111, 112, 113, 114, 115, 116] (by decide +kernel) (by decide +kernel)
set_option maxRecDepth 20000 in
theorem gX8_form_X8_isColumn : GoodIn wsX8_form (wsV RX8 121 RX8 yX8_isColumn wsX8_isColumn) := goodIn_app (goodIn_of _ (by decide +kernel)) ggX8_form_X8_isColumn
set_option maxRecDepth 20000 in
theorem ggX8_form_X8_isSet : GoodIn wsX8_form wsX8_isSet := goodIn_r _ [18, 19, 20, 21, 4, 22, 14, 2, 3, 5, 93, 94, 95, 96, 97, 98, 99, 100, 101, 102, 103, 104, 105, 106, 107, 108, 109, 110, 111, 112, 113, 114, 115, 116] (by decide +kernel) (by decide +kernel)
set_option maxRecDepth 20000 in
theorem gX8_form_X8_isSet : GoodIn wsX8_form (wsV RX8 202 RX8 yX8_isSet wsX8_isSet) := goodIn_app (goodIn_of _ (by decide +kernel)) ggX8_form_X8_isSet
set_option maxRecDepth 20000 in
theorem ggX8_form_X8_formOf : GoodIn wsX8_form wsX8_formOf := goodIn_r _ [26, 27, 28, 29, 30, 31, 4, 32, 33, 10, 11, 12, 13, 14, 19, 20, 21, 22, 34, 35, 36, 37, 38, 39, 40, 41, 42, 43, 44, 45, 46, 47, 48, 49, 50, 51, 52, 53, 54, 55, 56, 57, 58, 59, 60, 61, 62, 63, 64, 65, 66, 67, 68, 69, 70, 71, 72, 73, 74, 75, 76, 77, 78, 79, 80, 81, 82, 83, 84, 85, 86, 87, 93, 94, 95, 96, 97, 98, 99, 100, 101, 102, 103, 104, 105, 106, 107, 108, 109, 110, 111, 112, 113, 114, 115, 116] (by decide +kernel) (by decide +kernel)
set_option maxRecDepth 20000 in
theorem gX8_form_X8_formOf : GoodIn wsX8_form (wsV RX8 208 RX8 yX8_formOf wsX8_formOf) := goodIn_app (goodIn_of _ (by decide +kernel)) ggX8_form_X8_formOf
set_option maxRecDepth 20000 in
theorem ggX8_form_X8_refuses : GoodIn wsX8_form wsX8_refuses := goodIn_r _ [91, 92, 93, 94, 95, 96, 97, 98, 99, 100, 101, 102, 103, 104, 105, 106, 107, 108, 109, 110, 111, 112, 113, 114, 115, 116] (by decide +kernel) (by decide +kernel)
set_option maxRecDepth 20000 in
theorem gX8_form_X8_refuses : GoodIn wsX8_form (wsV RX8 101 RX8 yX8_refuses wsX8_refuses) := goodIn_app (goodIn_of _ (by decide +kernel)) ggX8_form_X8_refuses
theorem dX8_form_0 : decode cX8_form 0 = .ok (.iload_n 3, 1) := by decide +kernel
theorem dX8_form_1 : decode cX8_form 1 = .ok (.iconst (-1), 1) := by decide +kernel
theorem dX8_form_2 : decode cX8_form 2 = .ok (.if_icmp .ne 14, 3) := by decide +kernel
theorem dX8_form_5 : decode cX8_form 5 = .ok (.iload 4, 2) := by decide +kernel
theorem dX8_form_7 : decode cX8_form 7 = .ok (.i2l, 1) := by decide +kernel
theorem dX8_form_8 : decode cX8_form 8 = .ok (.lconst 0, 1) := by decide +kernel
theorem dX8_form_9 : decode cX8_form 9 = .ok (.lconst 1, 1) := by decide +kernel
theorem dX8_form_10 : decode cX8_form 10 = .ok (.invokestatic 69, 3) := by decide +kernel
theorem dX8_form_13 : decode cX8_form 13 = .ok (.goto 29, 3) := by decide +kernel
theorem dX8_form_16 : decode cX8_form 16 = .ok (.aload_n 0, 1) := by decide +kernel
theorem dX8_form_17 : decode cX8_form 17 = .ok (.iload_n 3, 1) := by decide +kernel
theorem dX8_form_18 : decode cX8_form 18 = .ok (.invokevirtual 121, 3) := by decide +kernel
theorem dX8_form_21 : decode cX8_form 21 = .ok (.ifCond .eq 20, 3) := by decide +kernel
theorem dX8_form_24 : decode cX8_form 24 = .ok (.iload 4, 2) := by decide +kernel
theorem dX8_form_26 : decode cX8_form 26 = .ok (.i2l, 1) := by decide +kernel
theorem dX8_form_27 : decode cX8_form 27 = .ok (.lconst 0, 1) := by decide +kernel
theorem dX8_form_28 : decode cX8_form 28 = .ok (.ldc2_w 124, 3) := by decide +kernel
theorem dX8_form_31 : decode cX8_form 31 = .ok (.invokestatic 69, 3) := by decide +kernel
theorem dX8_form_34 : decode cX8_form 34 = .ok (.ifCond .eq 7, 3) := by decide +kernel
theorem dX8_form_37 : decode cX8_form 37 = .ok (.iconst 1, 1) := by decide +kernel
theorem dX8_form_38 : decode cX8_form 38 = .ok (.goto 4, 3) := by decide +kernel
theorem dX8_form_41 : decode cX8_form 41 = .ok (.iconst 0, 1) := by decide +kernel
theorem dX8_form_42 : decode cX8_form 42 = .ok (.istore 5, 2) := by decide +kernel
theorem dX8_form_44 : decode cX8_form 44 = .ok (.aload_n 0, 1) := by decide +kernel
theorem dX8_form_45 : decode cX8_form 45 = .ok (.iload_n 1, 1) := by decide +kernel
theorem dX8_form_46 : decode cX8_form 46 = .ok (.invokevirtual 202, 3) := by decide +kernel
theorem dX8_form_49 : decode cX8_form 49 = .ok (.ifCond .eq 24, 3) := by decide +kernel
theorem dX8_form_52 : decode cX8_form 52 = .ok (.iload_n 2, 1) := by decide +kernel
theorem dX8_form_53 : decode cX8_form 53 = .ok (.ifCond .lt 20, 3) := by decide +kernel
theorem dX8_form_56 : decode cX8_form 56 = .ok (.iload 5, 2) := by decide +kernel
theorem dX8_form_58 : decode cX8_form 58 = .ok (.ifCond .eq 15, 3) := by decide +kernel
theorem dX8_form_61 : decode cX8_form 61 = .ok (.aload_n 0, 1) := by decide +kernel
theorem dX8_form_62 : decode cX8_form 62 = .ok (.iload_n 1, 1) := by decide +kernel
theorem dX8_form_63 : decode cX8_form 63 = .ok (.iload_n 2, 1) := by decide +kernel
theorem dX8_form_64 : decode cX8_form 64 = .ok (.iload_n 3, 1) := by decide +kernel
theorem dX8_form_65 : decode cX8_form 65 = .ok (.iload 4, 2) := by decide +kernel
theorem dX8_form_67 : decode cX8_form 67 = .ok (.invokevirtual 208, 3) := by decide +kernel
theorem dX8_form_70 : decode cX8_form 70 = .ok (.goto 9, 3) := by decide +kernel
theorem dX8_form_73 : decode cX8_form 73 = .ok (.aload_n 0, 1) := by decide +kernel
theorem dX8_form_74 : decode cX8_form 74 = .ok (.bipush (-2), 2) := by decide +kernel
theorem dX8_form_76 : decode cX8_form 76 = .ok (.invokevirtual 101, 3) := by decide +kernel
theorem dX8_form_79 : decode cX8_form 79 = .ok (.ireturn, 1) := by decide +kernel
set_option maxRecDepth 20000 in
theorem ggX8_leastOf_X8_formsOf : GoodIn wsX8_leastOf wsX8_formsOf := goodIn_r _ [6, 1, 7, 8, 9, 10, 5, 11, 12, 13, 14, 15, 16, 17, 18, 19, 20, 21, 22, 23, 24, 25, 26, 27, 28, 29, 30, 31, 32, 33, 34, 35, 36, 37, 38, 39, 40, 41, 42, 43, 44, 45, 46, 47, 48, 49, 50, 51, 52, 53, 54, 55, 56, 57, 58, 59, 60, 61, 62, 63, 64, 65, 66, 67, 68, 69, 70, 71, 72, 73, 74, 75, 76, 77, 78, 79, 80, 81, 82, 83, 84, 85, 86, 87, 88, 89, 90, 91, 92, 93, 94, 95] (by decide +kernel) (by decide +kernel)
set_option maxRecDepth 20000 in
theorem gX8_leastOf_X8_formsOf : GoodIn wsX8_leastOf (wsV RX8 198 RX8 yX8_formsOf wsX8_formsOf) := goodIn_app (goodIn_of _ (by decide +kernel)) ggX8_leastOf_X8_formsOf
set_option maxRecDepth 20000 in
theorem ggX8_leastOf_X8_workDegree : GoodIn wsX8_leastOf wsX8_workDegree := goodIn_r _ [39, 7, 40, 41, 42, 5, 43, 21, 22, 23, 24, 72, 73, 74, 75, 76, 77, 78, 79, 80, 81, 82, 83, 84, 85, 86, 87, 88, 89, 90, 91, 92, 93, 94, 95] (by decide +kernel) (by decide +kernel)
set_option maxRecDepth 20000 in
theorem gX8_leastOf_X8_workDegree : GoodIn wsX8_leastOf (wsV RX8 168 RX8 yX8_workDegree wsX8_workDegree) := goodIn_app (goodIn_of _ (by decide +kernel)) ggX8_leastOf_X8_workDegree
theorem dX8_leastOf_0 : decode cX8_leastOf 0 = .ok (.aload_n 0, 1) := by decide +kernel
theorem dX8_leastOf_1 : decode cX8_leastOf 1 = .ok (.iload_n 1, 1) := by decide +kernel
theorem dX8_leastOf_2 : decode cX8_leastOf 2 = .ok (.invokevirtual 198, 3) := by decide +kernel
theorem dX8_leastOf_5 : decode cX8_leastOf 5 = .ok (.iconst 0, 1) := by decide +kernel
theorem dX8_leastOf_6 : decode cX8_leastOf 6 = .ok (.istore_n 2, 1) := by decide +kernel
theorem dX8_leastOf_7 : decode cX8_leastOf 7 = .ok (.iconst 0, 1) := by decide +kernel
theorem dX8_leastOf_8 : decode cX8_leastOf 8 = .ok (.istore_n 3, 1) := by decide +kernel
theorem dX8_leastOf_9 : decode cX8_leastOf 9 = .ok (.iload_n 3, 1) := by decide +kernel
theorem dX8_leastOf_10 : decode cX8_leastOf 10 = .ok (.aload_n 0, 1) := by decide +kernel
theorem dX8_leastOf_11 : decode cX8_leastOf 11 = .ok (.getfield 178, 3) := by decide +kernel
theorem dX8_leastOf_14 : decode cX8_leastOf 14 = .ok (.if_icmp .ge 17, 3) := by decide +kernel
theorem dX8_leastOf_17 : decode cX8_leastOf 17 = .ok (.iload_n 2, 1) := by decide +kernel
theorem dX8_leastOf_18 : decode cX8_leastOf 18 = .ok (.aload_n 0, 1) := by decide +kernel
theorem dX8_leastOf_19 : decode cX8_leastOf 19 = .ok (.iload_n 3, 1) := by decide +kernel
theorem dX8_leastOf_20 : decode cX8_leastOf 20 = .ok (.invokevirtual 168, 3) := by decide +kernel
theorem dX8_leastOf_23 : decode cX8_leastOf 23 = .ok (.iadd, 1) := by decide +kernel
theorem dX8_leastOf_24 : decode cX8_leastOf 24 = .ok (.istore_n 2, 1) := by decide +kernel
theorem dX8_leastOf_25 : decode cX8_leastOf 25 = .ok (.iinc 3 1, 3) := by decide +kernel
theorem dX8_leastOf_28 : decode cX8_leastOf 28 = .ok (.goto (-19), 3) := by decide +kernel
theorem dX8_leastOf_31 : decode cX8_leastOf 31 = .ok (.iload_n 2, 1) := by decide +kernel
theorem dX8_leastOf_32 : decode cX8_leastOf 32 = .ok (.ireturn, 1) := by decide +kernel
set_option maxRecDepth 20000 in
theorem ggX8_least_X8_isSet : GoodIn wsX8_least wsX8_isSet := goodIn_r _ [5, 6, 7, 8, 4, 9, 10, 11, 12, 13, 88, 89, 90, 91, 92, 93, 94, 95, 96, 97, 98, 99, 100, 101, 102, 103, 104, 105, 106, 107, 108, 109, 110, 111] (by decide +kernel) (by decide +kernel)
set_option maxRecDepth 20000 in
theorem gX8_least_X8_isSet : GoodIn wsX8_least (wsV RX8 202 RX8 yX8_isSet wsX8_isSet) := goodIn_app (goodIn_of _ (by decide +kernel)) ggX8_least_X8_isSet
set_option maxRecDepth 20000 in
theorem ggX8_least_X8_leastOf : GoodIn wsX8_least wsX8_leastOf := goodIn_r _ [17, 18, 19, 20, 21, 4, 22, 23, 24, 25, 26, 27, 10, 6, 7, 8, 9, 28, 29, 30, 31, 32, 33, 34, 35, 36, 37, 38, 39, 40, 41, 42, 43, 44, 45, 46, 47, 48, 49, 50, 51, 52, 53, 54, 55, 56, 57, 58, 59, 60, 61, 62, 63, 64, 65, 66, 67, 68, 69, 70, 71, 72, 73, 74, 75, 76, 77, 78, 79, 80, 81, 82, 88, 89, 90, 91, 92, 93, 94, 95, 96, 97, 98, 99, 100, 101, 102, 103, 104, 105, 106, 107, 108, 109, 110, 111] (by decide +kernel) (by decide +kernel)
set_option maxRecDepth 20000 in
theorem gX8_least_X8_leastOf : GoodIn wsX8_least (wsV RX8 211 RX8 yX8_leastOf wsX8_leastOf) := goodIn_app (goodIn_of _ (by decide +kernel)) ggX8_least_X8_leastOf
set_option maxRecDepth 20000 in
theorem ggX8_least_X8_refuses : GoodIn wsX8_least wsX8_refuses := goodIn_r _ [86, 87, 88, 89, 90, 91, 92, 93, 94, 95, 96, 97, 98, 99, 100, 101, 102, 103, 104, 105, 106, 107, 108, 109, 110, 111] (by decide +kernel) (by decide +kernel)
set_option maxRecDepth 20000 in
theorem gX8_least_X8_refuses : GoodIn wsX8_least (wsV RX8 101 RX8 yX8_refuses wsX8_refuses) := goodIn_app (goodIn_of _ (by decide +kernel)) ggX8_least_X8_refuses
theorem dX8_least_0 : decode cX8_least 0 = .ok (.aload_n 0, 1) := by decide +kernel
theorem dX8_least_1 : decode cX8_least 1 = .ok (.iload_n 1, 1) := by decide +kernel
theorem dX8_least_2 : decode cX8_least 2 = .ok (.invokevirtual 202, 3) := by decide +kernel
theorem dX8_least_5 : decode cX8_least 5 = .ok (.ifCond .eq 11, 3) := by decide +kernel
theorem dX8_least_8 : decode cX8_least 8 = .ok (.aload_n 0, 1) := by decide +kernel
theorem dX8_least_9 : decode cX8_least 9 = .ok (.iload_n 1, 1) := by decide +kernel
theorem dX8_least_10 : decode cX8_least 10 = .ok (.invokevirtual 211, 3) := by decide +kernel
theorem dX8_least_13 : decode cX8_least 13 = .ok (.goto 9, 3) := by decide +kernel
theorem dX8_least_16 : decode cX8_least 16 = .ok (.aload_n 0, 1) := by decide +kernel
theorem dX8_least_17 : decode cX8_least 17 = .ok (.bipush (-2), 2) := by decide +kernel
theorem dX8_least_19 : decode cX8_least 19 = .ok (.invokevirtual 101, 3) := by decide +kernel
theorem dX8_least_22 : decode cX8_least 22 = .ok (.ireturn, 1) := by decide +kernel
set_option maxRecDepth 20000 in
theorem ggX8_areSame_X8_formsOf : GoodIn wsX8_areSame wsX8_formsOf := goodIn_r _ [8, 1, 9, 10, 11, 12, 7, 13, 14, 15, 16, 17, 18, 19, 20, 21, 22, 3, 23, 24, 25, 26, 27, 28, 29, 30, 31, 32, 33, 34, 35, 36, 37, 38, 39, 40, 41, 42, 43, 44, 45, 46, 47, 48, 49, 50, 51, 52, 53, 54, 55, 56, 57, 58, 59, 60, 61, 62, 63, 64, 65, 66, 67, 68, 69, 70, 71, 72, 73, 74, 75, 76, 77, 78, 79, 80, 81, 82, 83, 84, 85, 86, 87, 88, 89, 90, 91, 92, 93, 94, 95, 96] (by decide +kernel) (by decide +kernel)
set_option maxRecDepth 20000 in
theorem gX8_areSame_X8_formsOf : GoodIn wsX8_areSame (wsV RX8 198 RX8 yX8_formsOf wsX8_formsOf) := goodIn_app (goodIn_of _ (by decide +kernel)) ggX8_areSame_X8_formsOf
theorem dX8_areSame_0 : decode cX8_areSame 0 = .ok (.aload_n 0, 1) := by decide +kernel
theorem dX8_areSame_1 : decode cX8_areSame 1 = .ok (.iload_n 1, 1) := by decide +kernel
theorem dX8_areSame_2 : decode cX8_areSame 2 = .ok (.invokevirtual 198, 3) := by decide +kernel
theorem dX8_areSame_5 : decode cX8_areSame 5 = .ok (.aload_n 0, 1) := by decide +kernel
theorem dX8_areSame_6 : decode cX8_areSame 6 = .ok (.getfield 178, 3) := by decide +kernel
theorem dX8_areSame_9 : decode cX8_areSame 9 = .ok (.istore_n 3, 1) := by decide +kernel
theorem dX8_areSame_10 : decode cX8_areSame 10 = .ok (.iconst 0, 1) := by decide +kernel
theorem dX8_areSame_11 : decode cX8_areSame 11 = .ok (.istore 4, 2) := by decide +kernel
theorem dX8_areSame_13 : decode cX8_areSame 13 = .ok (.iload 4, 2) := by decide +kernel
theorem dX8_areSame_15 : decode cX8_areSame 15 = .ok (.bipush 24, 2) := by decide +kernel
theorem dX8_areSame_17 : decode cX8_areSame 17 = .ok (.iload_n 3, 1) := by decide +kernel
theorem dX8_areSame_18 : decode cX8_areSame 18 = .ok (.imul, 1) := by decide +kernel
theorem dX8_areSame_19 : decode cX8_areSame 19 = .ok (.if_icmp .ge 23, 3) := by decide +kernel
theorem dX8_areSame_22 : decode cX8_areSame 22 = .ok (.aload_n 0, 1) := by decide +kernel
theorem dX8_areSame_23 : decode cX8_areSame 23 = .ok (.getfield 26, 3) := by decide +kernel
theorem dX8_areSame_26 : decode cX8_areSame 26 = .ok (.iload 4, 2) := by decide +kernel
theorem dX8_areSame_28 : decode cX8_areSame 28 = .ok (.aload_n 0, 1) := by decide +kernel
theorem dX8_areSame_29 : decode cX8_areSame 29 = .ok (.getfield 23, 3) := by decide +kernel
theorem dX8_areSame_32 : decode cX8_areSame 32 = .ok (.iload 4, 2) := by decide +kernel
theorem dX8_areSame_34 : decode cX8_areSame 34 = .ok (.iaload, 1) := by decide +kernel
theorem dX8_areSame_35 : decode cX8_areSame 35 = .ok (.iastore, 1) := by decide +kernel
theorem dX8_areSame_36 : decode cX8_areSame 36 = .ok (.iinc 4 1, 3) := by decide +kernel
theorem dX8_areSame_39 : decode cX8_areSame 39 = .ok (.goto (-26), 3) := by decide +kernel
theorem dX8_areSame_42 : decode cX8_areSame 42 = .ok (.aload_n 0, 1) := by decide +kernel
theorem dX8_areSame_43 : decode cX8_areSame 43 = .ok (.iload_n 2, 1) := by decide +kernel
theorem dX8_areSame_44 : decode cX8_areSame 44 = .ok (.invokevirtual 198, 3) := by decide +kernel
theorem dX8_areSame_47 : decode cX8_areSame 47 = .ok (.iload_n 3, 1) := by decide +kernel
theorem dX8_areSame_48 : decode cX8_areSame 48 = .ok (.aload_n 0, 1) := by decide +kernel
theorem dX8_areSame_49 : decode cX8_areSame 49 = .ok (.getfield 178, 3) := by decide +kernel
theorem dX8_areSame_52 : decode cX8_areSame 52 = .ok (.if_icmp .ne 7, 3) := by decide +kernel
theorem dX8_areSame_55 : decode cX8_areSame 55 = .ok (.iconst 1, 1) := by decide +kernel
theorem dX8_areSame_56 : decode cX8_areSame 56 = .ok (.goto 4, 3) := by decide +kernel
theorem dX8_areSame_59 : decode cX8_areSame 59 = .ok (.iconst 0, 1) := by decide +kernel
theorem dX8_areSame_60 : decode cX8_areSame 60 = .ok (.istore 4, 2) := by decide +kernel
theorem dX8_areSame_62 : decode cX8_areSame 62 = .ok (.iconst 0, 1) := by decide +kernel
theorem dX8_areSame_63 : decode cX8_areSame 63 = .ok (.istore 5, 2) := by decide +kernel
theorem dX8_areSame_65 : decode cX8_areSame 65 = .ok (.iload 5, 2) := by decide +kernel
theorem dX8_areSame_67 : decode cX8_areSame 67 = .ok (.bipush 24, 2) := by decide +kernel
theorem dX8_areSame_69 : decode cX8_areSame 69 = .ok (.iload_n 3, 1) := by decide +kernel
theorem dX8_areSame_70 : decode cX8_areSame 70 = .ok (.imul, 1) := by decide +kernel
theorem dX8_areSame_71 : decode cX8_areSame 71 = .ok (.if_icmp .ge 38, 3) := by decide +kernel
theorem dX8_areSame_74 : decode cX8_areSame 74 = .ok (.iload 4, 2) := by decide +kernel
theorem dX8_areSame_76 : decode cX8_areSame 76 = .ok (.ifCond .eq 33, 3) := by decide +kernel
theorem dX8_areSame_79 : decode cX8_areSame 79 = .ok (.aload_n 0, 1) := by decide +kernel
theorem dX8_areSame_80 : decode cX8_areSame 80 = .ok (.getfield 26, 3) := by decide +kernel
theorem dX8_areSame_83 : decode cX8_areSame 83 = .ok (.iload 5, 2) := by decide +kernel
theorem dX8_areSame_85 : decode cX8_areSame 85 = .ok (.iaload, 1) := by decide +kernel
theorem dX8_areSame_86 : decode cX8_areSame 86 = .ok (.aload_n 0, 1) := by decide +kernel
theorem dX8_areSame_87 : decode cX8_areSame 87 = .ok (.getfield 23, 3) := by decide +kernel
theorem dX8_areSame_90 : decode cX8_areSame 90 = .ok (.iload 5, 2) := by decide +kernel
theorem dX8_areSame_92 : decode cX8_areSame 92 = .ok (.iaload, 1) := by decide +kernel
theorem dX8_areSame_93 : decode cX8_areSame 93 = .ok (.if_icmp .ne 7, 3) := by decide +kernel
theorem dX8_areSame_96 : decode cX8_areSame 96 = .ok (.iconst 1, 1) := by decide +kernel
theorem dX8_areSame_97 : decode cX8_areSame 97 = .ok (.goto 4, 3) := by decide +kernel
theorem dX8_areSame_100 : decode cX8_areSame 100 = .ok (.iconst 0, 1) := by decide +kernel
theorem dX8_areSame_101 : decode cX8_areSame 101 = .ok (.istore 4, 2) := by decide +kernel
theorem dX8_areSame_103 : decode cX8_areSame 103 = .ok (.iinc 5 1, 3) := by decide +kernel
theorem dX8_areSame_106 : decode cX8_areSame 106 = .ok (.goto (-41), 3) := by decide +kernel
theorem dX8_areSame_109 : decode cX8_areSame 109 = .ok (.iload 4, 2) := by decide +kernel
theorem dX8_areSame_111 : decode cX8_areSame 111 = .ok (.ifCond .eq 7, 3) := by decide +kernel
theorem dX8_areSame_114 : decode cX8_areSame 114 = .ok (.iconst 1, 1) := by decide +kernel
theorem dX8_areSame_115 : decode cX8_areSame 115 = .ok (.goto 4, 3) := by decide +kernel
theorem dX8_areSame_118 : decode cX8_areSame 118 = .ok (.iconst 0, 1) := by decide +kernel
theorem dX8_areSame_119 : decode cX8_areSame 119 = .ok (.ireturn, 1) := by decide +kernel
set_option maxRecDepth 20000 in
theorem ggX8_same_X8_isSet : GoodIn wsX8_same wsX8_isSet := goodIn_r _ [5, 6, 7, 8, 4, 9, 10, 11, 12, 13, 89, 90, 91, 92, 93, 94, 95, 96, 97, 98, 99, 100, 101, 102, 103, 104, 105, 106, 107, 108, 109, 110, 111, 112] (by decide +kernel) (by decide +kernel)
set_option maxRecDepth 20000 in
theorem gX8_same_X8_isSet : GoodIn wsX8_same (wsV RX8 202 RX8 yX8_isSet wsX8_isSet) := goodIn_app (goodIn_of _ (by decide +kernel)) ggX8_same_X8_isSet
set_option maxRecDepth 20000 in
theorem ggX8_same_X8_areSame : GoodIn wsX8_same wsX8_areSame := goodIn_r _ [17, 18, 19, 20, 21, 22, 23, 4, 24, 25, 26, 27, 28, 29, 10, 6, 7, 8, 9, 30, 31, 32, 33, 34, 35, 36, 37, 38, 39, 40, 41, 42, 43, 44, 45, 46, 47, 48, 49, 50, 51, 52, 53, 54, 55, 56, 57, 58, 59, 60, 61, 62, 63, 64, 65, 66, 67, 68, 69, 70, 71, 72, 73, 74, 75, 76, 77, 78, 79, 80, 81, 82, 83, 89, 90, 91, 92, 93, 94, 95, 96, 97, 98, 99, 100, 101, 102, 103, 104, 105, 106, 107, 108, 109, 110, 111, 112] (by decide +kernel) (by decide +kernel)
set_option maxRecDepth 20000 in
theorem gX8_same_X8_areSame : GoodIn wsX8_same (wsV RX8 214 RX8 yX8_areSame wsX8_areSame) := goodIn_app (goodIn_of _ (by decide +kernel)) ggX8_same_X8_areSame
set_option maxRecDepth 20000 in
theorem ggX8_same_X8_refuses : GoodIn wsX8_same wsX8_refuses := goodIn_r _ [87, 88, 89, 90, 91, 92, 93, 94, 95, 96, 97, 98, 99, 100, 101, 102, 103, 104, 105, 106, 107, 108, 109, 110, 111, 112] (by decide +kernel) (by decide +kernel)
set_option maxRecDepth 20000 in
theorem gX8_same_X8_refuses : GoodIn wsX8_same (wsV RX8 101 RX8 yX8_refuses wsX8_refuses) := goodIn_app (goodIn_of _ (by decide +kernel)) ggX8_same_X8_refuses
theorem dX8_same_0 : decode cX8_same 0 = .ok (.aload_n 0, 1) := by decide +kernel
theorem dX8_same_1 : decode cX8_same 1 = .ok (.iload_n 1, 1) := by decide +kernel
theorem dX8_same_2 : decode cX8_same 2 = .ok (.invokevirtual 202, 3) := by decide +kernel
theorem dX8_same_5 : decode cX8_same 5 = .ok (.ifCond .eq 20, 3) := by decide +kernel
theorem dX8_same_8 : decode cX8_same 8 = .ok (.aload_n 0, 1) := by decide +kernel
theorem dX8_same_9 : decode cX8_same 9 = .ok (.iload_n 2, 1) := by decide +kernel
theorem dX8_same_10 : decode cX8_same 10 = .ok (.invokevirtual 202, 3) := by decide +kernel
theorem dX8_same_13 : decode cX8_same 13 = .ok (.ifCond .eq 12, 3) := by decide +kernel
theorem dX8_same_16 : decode cX8_same 16 = .ok (.aload_n 0, 1) := by decide +kernel
theorem dX8_same_17 : decode cX8_same 17 = .ok (.iload_n 1, 1) := by decide +kernel
theorem dX8_same_18 : decode cX8_same 18 = .ok (.iload_n 2, 1) := by decide +kernel
theorem dX8_same_19 : decode cX8_same 19 = .ok (.invokevirtual 214, 3) := by decide +kernel
theorem dX8_same_22 : decode cX8_same 22 = .ok (.goto 9, 3) := by decide +kernel
theorem dX8_same_25 : decode cX8_same 25 = .ok (.aload_n 0, 1) := by decide +kernel
theorem dX8_same_26 : decode cX8_same 26 = .ok (.bipush (-2), 2) := by decide +kernel
theorem dX8_same_28 : decode cX8_same 28 = .ok (.invokevirtual 101, 3) := by decide +kernel
theorem dX8_same_31 : decode cX8_same 31 = .ok (.ireturn, 1) := by decide +kernel
set_option maxRecDepth 20000 in
theorem ggX8_isWith_X8_isRow : GoodIn wsX8_isWith wsX8_isRow := goodIn_r _ [5, 6, 7, 8, 4, 9, 10, 11, 12, 13, 18, 19, 20, 21, 22, 23, 24, 25, 26, 27, 28, 29, 30, 31, 32, 33, 34, 35, 36, 37, 38, 39, 40, 41] (by decide +kernel) (by decide +kernel)
set_option maxRecDepth 20000 in
theorem gX8_isWith_X8_isRow : GoodIn wsX8_isWith (wsV RX8 118 RX8 yX8_isRow wsX8_isRow) := goodIn_app (goodIn_of _ (by decide +kernel)) ggX8_isWith_X8_isRow
set_option maxRecDepth 20000 in
theorem ggX8_isWith_X8_isSet : GoodIn wsX8_isWith wsX8_isSet := goodIn_r _ [17, 6, 7, 8, 4, 9, 10, 11, 12, 13, 18, 19, 20, 21, 22, 23, 24, 25, 26, 27, 28, 29, 30, 31, 32, 33, 34, 35, 36, 37, 38, 39, 40, 41] (by decide +kernel) (by decide +kernel)
set_option maxRecDepth 20000 in
theorem gX8_isWith_X8_isSet : GoodIn wsX8_isWith (wsV RX8 202 RX8 yX8_isSet wsX8_isSet) := goodIn_app (goodIn_of _ (by decide +kernel)) ggX8_isWith_X8_isSet
theorem dX8_isWith_0 : decode cX8_isWith 0 = .ok (.aload_n 0, 1) := by decide +kernel
theorem dX8_isWith_1 : decode cX8_isWith 1 = .ok (.iload_n 1, 1) := by decide +kernel
theorem dX8_isWith_2 : decode cX8_isWith 2 = .ok (.invokevirtual 118, 3) := by decide +kernel
theorem dX8_isWith_5 : decode cX8_isWith 5 = .ok (.ifCond .eq 23, 3) := by decide +kernel
theorem dX8_isWith_8 : decode cX8_isWith 8 = .ok (.aload_n 0, 1) := by decide +kernel
theorem dX8_isWith_9 : decode cX8_isWith 9 = .ok (.iload_n 2, 1) := by decide +kernel
theorem dX8_isWith_10 : decode cX8_isWith 10 = .ok (.invokevirtual 202, 3) := by decide +kernel
theorem dX8_isWith_13 : decode cX8_isWith 13 = .ok (.ifCond .eq 15, 3) := by decide +kernel
theorem dX8_isWith_16 : decode cX8_isWith 16 = .ok (.iload_n 2, 1) := by decide +kernel
theorem dX8_isWith_17 : decode cX8_isWith 17 = .ok (.iload_n 1, 1) := by decide +kernel
theorem dX8_isWith_18 : decode cX8_isWith 18 = .ok (.ishr, 1) := by decide +kernel
theorem dX8_isWith_19 : decode cX8_isWith 19 = .ok (.iconst 1, 1) := by decide +kernel
theorem dX8_isWith_20 : decode cX8_isWith 20 = .ok (.iand, 1) := by decide +kernel
theorem dX8_isWith_21 : decode cX8_isWith 21 = .ok (.ifCond .ne 7, 3) := by decide +kernel
theorem dX8_isWith_24 : decode cX8_isWith 24 = .ok (.iconst 1, 1) := by decide +kernel
theorem dX8_isWith_25 : decode cX8_isWith 25 = .ok (.goto 4, 3) := by decide +kernel
theorem dX8_isWith_28 : decode cX8_isWith 28 = .ok (.iconst 0, 1) := by decide +kernel
theorem dX8_isWith_29 : decode cX8_isWith 29 = .ok (.ireturn, 1) := by decide +kernel
set_option maxRecDepth 20000 in
theorem ggX8_rests_X8_formsOf : GoodIn wsX8_rests wsX8_formsOf := goodIn_r _ [6, 1, 7, 8, 9, 10, 5, 11, 12, 13, 14, 15, 16, 17, 18, 19, 20, 21, 22, 23, 24, 25, 26, 27, 28, 29, 30, 31, 32, 33, 34, 35, 36, 37, 38, 39, 40, 41, 42, 43, 44, 45, 46, 47, 48, 49, 50, 51, 52, 53, 54, 55, 56, 57, 58, 59, 60, 61, 62, 63, 64, 65, 66, 67, 68, 69, 70, 71, 72, 73, 74, 75, 76, 77, 78, 79, 80, 81, 82, 83, 84, 85, 86, 87, 88, 89, 90, 91, 92, 93, 94, 95] (by decide +kernel) (by decide +kernel)
set_option maxRecDepth 20000 in
theorem gX8_rests_X8_formsOf : GoodIn wsX8_rests (wsV RX8 198 RX8 yX8_formsOf wsX8_formsOf) := goodIn_app (goodIn_of _ (by decide +kernel)) ggX8_rests_X8_formsOf
set_option maxRecDepth 20000 in
theorem ggX8_rests_X8_lays : GoodIn wsX8_rests wsX8_lays := goodIn_r _ [20, 21, 12, 22, 23, 5, 24, 8, 9, 10, 11, 25, 26, 27, 72, 73, 74, 75, 76, 77, 78, 79, 80, 81, 82, 83, 84, 85, 86, 87, 88, 89, 90, 91, 92, 93, 94, 95] (by decide +kernel) (by decide +kernel)
set_option maxRecDepth 20000 in
theorem gX8_rests_X8_lays : GoodIn wsX8_rests (wsV RX8 192 RX8 yX8_lays wsX8_lays) := goodIn_app (goodIn_of _ (by decide +kernel)) ggX8_rests_X8_lays
set_option maxRecDepth 20000 in
theorem ggX8_rests_X8_lowers : GoodIn wsX8_rests wsX8_lowers := goodIn_r _ [71, 44, 45, 46, 5, 47, 7, 36, 37, 38, 39, 40, 41, 42, 43, 21, 22, 23, 24, 48, 49, 50, 51, 52, 53, 54, 55, 56, 57, 58, 59, 12, 60, 61, 62, 63, 72, 73, 74, 75, 76, 77, 78, 79, 80, 81, 82, 83, 84, 85, 86, 87, 88, 89, 90, 91, 92, 93, 94, 95] (by decide +kernel) (by decide +kernel)
set_option maxRecDepth 20000 in
theorem gX8_rests_X8_lowers : GoodIn wsX8_rests (wsV RX8 189 RX8 yX8_lowers wsX8_lowers) := goodIn_app (goodIn_of _ (by decide +kernel)) ggX8_rests_X8_lowers
theorem dX8_rests_0 : decode cX8_rests 0 = .ok (.aload_n 0, 1) := by decide +kernel
theorem dX8_rests_1 : decode cX8_rests 1 = .ok (.iload_n 2, 1) := by decide +kernel
theorem dX8_rests_2 : decode cX8_rests 2 = .ok (.invokevirtual 198, 3) := by decide +kernel
theorem dX8_rests_5 : decode cX8_rests 5 = .ok (.aload_n 0, 1) := by decide +kernel
theorem dX8_rests_6 : decode cX8_rests 6 = .ok (.aload_n 0, 1) := by decide +kernel
theorem dX8_rests_7 : decode cX8_rests 7 = .ok (.getfield 178, 3) := by decide +kernel
theorem dX8_rests_10 : decode cX8_rests 10 = .ok (.iload_n 1, 1) := by decide +kernel
theorem dX8_rests_11 : decode cX8_rests 11 = .ok (.invokevirtual 192, 3) := by decide +kernel
theorem dX8_rests_14 : decode cX8_rests 14 = .ok (.aload_n 0, 1) := by decide +kernel
theorem dX8_rests_15 : decode cX8_rests 15 = .ok (.aload_n 0, 1) := by decide +kernel
theorem dX8_rests_16 : decode cX8_rests 16 = .ok (.getfield 178, 3) := by decide +kernel
theorem dX8_rests_19 : decode cX8_rests 19 = .ok (.iconst 0, 1) := by decide +kernel
theorem dX8_rests_20 : decode cX8_rests 20 = .ok (.aload_n 0, 1) := by decide +kernel
theorem dX8_rests_21 : decode cX8_rests 21 = .ok (.getfield 178, 3) := by decide +kernel
theorem dX8_rests_24 : decode cX8_rests 24 = .ok (.invokevirtual 189, 3) := by decide +kernel
theorem dX8_rests_27 : decode cX8_rests 27 = .ok (.return_, 1) := by decide +kernel
set_option maxRecDepth 20000 in
theorem ggX8_restOf_X8_rests : GoodIn wsX8_restOf wsX8_rests := goodIn_r _ [7, 2, 8, 9, 10, 6, 11, 12, 13, 14, 15, 16, 17, 18, 19, 20, 21, 22, 23, 24, 25, 1, 26, 27, 28, 29, 30, 31, 32, 33, 34, 35, 36, 37, 38, 39, 40, 41, 42, 43, 44, 45, 46, 47, 48, 49, 50, 51, 52, 53, 54, 55, 56, 57, 58, 59, 60, 61, 62, 63, 64, 65, 66, 67, 68, 69, 70, 71, 72, 73, 74, 75, 76, 77, 78, 79, 80, 81, 82, 83, 84, 85, 86, 87, 88, 89, 90, 91, 92, 93, 94, 95, 96, 97, 98, 99] (by decide +kernel) (by decide +kernel)
set_option maxRecDepth 20000 in
theorem gX8_restOf_X8_rests : GoodIn wsX8_restOf (wsV RX8 217 RX8 yX8_rests wsX8_rests) := goodIn_app (goodIn_of _ (by decide +kernel)) ggX8_restOf_X8_rests
set_option maxRecDepth 20000 in
theorem ggX8_restOf_X8_cell : GoodIn wsX8_restOf wsX8_cell := goodIn_r _ [28] (by decide +kernel) (by decide +kernel)
set_option maxRecDepth 20000 in
theorem gX8_restOf_X8_cell : GoodIn wsX8_restOf (va_wsS RX8 159 yX8_cell wsX8_cell) := goodIn_app (goodIn_of _ (by decide +kernel)) ggX8_restOf_X8_cell
theorem dX8_restOf_0 : decode cX8_restOf 0 = .ok (.aload_n 0, 1) := by decide +kernel
theorem dX8_restOf_1 : decode cX8_restOf 1 = .ok (.iload_n 1, 1) := by decide +kernel
theorem dX8_restOf_2 : decode cX8_restOf 2 = .ok (.iload_n 2, 1) := by decide +kernel
theorem dX8_restOf_3 : decode cX8_restOf 3 = .ok (.invokevirtual 217, 3) := by decide +kernel
theorem dX8_restOf_6 : decode cX8_restOf 6 = .ok (.aload_n 0, 1) := by decide +kernel
theorem dX8_restOf_7 : decode cX8_restOf 7 = .ok (.getfield 23, 3) := by decide +kernel
theorem dX8_restOf_10 : decode cX8_restOf 10 = .ok (.aload_n 0, 1) := by decide +kernel
theorem dX8_restOf_11 : decode cX8_restOf 11 = .ok (.getfield 178, 3) := by decide +kernel
theorem dX8_restOf_14 : decode cX8_restOf 14 = .ok (.iload_n 3, 1) := by decide +kernel
theorem dX8_restOf_15 : decode cX8_restOf 15 = .ok (.iload 4, 2) := by decide +kernel
theorem dX8_restOf_17 : decode cX8_restOf 17 = .ok (.invokestatic 159, 3) := by decide +kernel
theorem dX8_restOf_20 : decode cX8_restOf 20 = .ok (.iaload, 1) := by decide +kernel
theorem dX8_restOf_21 : decode cX8_restOf 21 = .ok (.ireturn, 1) := by decide +kernel
set_option maxRecDepth 20000 in
theorem ggX8_rest_X8_isWith : GoodIn wsX8_rest wsX8_isWith := goodIn_r _ [6, 7, 8, 9, 5, 10, 11, 12, 13, 14, 15, 16, 17, 18, 19, 20, 21, 22, 105, 106, 107, 108, 109, 110, 111, 112, 113, 114, 115, 116, 117, 118, 119, 120, 121, 122, 123, 124, 125, 126, 127, 128] (by decide +kernel) (by decide +kernel)
set_option maxRecDepth 20000 in
theorem gX8_rest_X8_isWith : GoodIn wsX8_rest (wsV RX8 220 RX8 yX8_isWith wsX8_isWith) := goodIn_app (goodIn_of _ (by decide +kernel)) ggX8_rest_X8_isWith
set_option maxRecDepth 20000 in
theorem ggX8_rest_X8_isColumn : GoodIn wsX8_rest wsX8_isColumn := goodIn_r _ [26, 27, 28, 29, 5, 30, 15, 16, 17, 18, 105, 106, 107, 108, 109, 110, 111, 112, 113, 114, 115, 116, 117, 118, 119, 120, 121, 122, 123, 124, 125, 126, 127, 128] (by decide +kernel) (by decide +kernel)
set_option maxRecDepth 20000 in
theorem gX8_rest_X8_isColumn : GoodIn wsX8_rest (wsV RX8 121 RX8 yX8_isColumn wsX8_isColumn) := goodIn_app (goodIn_of _ (by decide +kernel)) ggX8_rest_X8_isColumn
set_option maxRecDepth 20000 in
theorem ggX8_rest_X8_in : GoodIn wsX8_rest wsX8_in := goodIn_r _ [18] (by decide +kernel) (by decide +kernel)
set_option maxRecDepth 20000 in
theorem gX8_rest_X8_in : GoodIn wsX8_rest (va_wsS RX8 69 yX8_in wsX8_in) := goodIn_app (goodIn_of _ (by decide +kernel)) ggX8_rest_X8_in
set_option maxRecDepth 20000 in
theorem ggX8_rest_X8_restOf : GoodIn wsX8_rest wsX8_restOf := goodIn_r _ [34, 35, 36, 37, 38, 39, 5, 40, 41, 42, 43, 44, 45, 27, 28, 29, 30, 15, 11, 12, 13, 14, 46, 47, 48, 49, 50, 51, 52, 53, 54, 55, 56, 57, 58, 59, 60, 61, 62, 63, 64, 65, 66, 67, 68, 69, 70, 71, 72, 73, 74, 75, 76, 77, 78, 79, 80, 81, 82, 83, 84, 85, 86, 87, 88, 89, 90, 91, 92, 93, 94, 95, 96, 97, 98, 99, 105, 106, 107, 108, 109, 110, 111, 112, 113, 114, 115, 116, 117, 118, 119, 120, 121, 122, 123, 124, 125, 126, 127, 128] (by decide +kernel) (by decide +kernel)
set_option maxRecDepth 20000 in
theorem gX8_rest_X8_restOf : GoodIn wsX8_rest (wsV RX8 224 RX8 yX8_restOf wsX8_restOf) := goodIn_app (goodIn_of _ (by decide +kernel)) ggX8_rest_X8_restOf
set_option maxRecDepth 20000 in
theorem ggX8_rest_X8_refuses : GoodIn wsX8_rest wsX8_refuses := goodIn_r _ [103, 104, 105, 106, 107, 108, 109, 110, 111, 112, 113, 114, 115, 116, 117, 118, 119, 120, 121, 122, 123, 124, 125, 126, 127, 128] (by decide +kernel) (by decide +kernel)
set_option maxRecDepth 20000 in
theorem gX8_rest_X8_refuses : GoodIn wsX8_rest (wsV RX8 101 RX8 yX8_refuses wsX8_refuses) := goodIn_app (goodIn_of _ (by decide +kernel)) ggX8_rest_X8_refuses
theorem dX8_rest_0 : decode cX8_rest 0 = .ok (.aload_n 0, 1) := by decide +kernel
theorem dX8_rest_1 : decode cX8_rest 1 = .ok (.iload_n 1, 1) := by decide +kernel
theorem dX8_rest_2 : decode cX8_rest 2 = .ok (.iload_n 2, 1) := by decide +kernel
theorem dX8_rest_3 : decode cX8_rest 3 = .ok (.invokevirtual 220, 3) := by decide +kernel
theorem dX8_rest_6 : decode cX8_rest 6 = .ok (.ifCond .eq 36, 3) := by decide +kernel
theorem dX8_rest_9 : decode cX8_rest 9 = .ok (.aload_n 0, 1) := by decide +kernel
theorem dX8_rest_10 : decode cX8_rest 10 = .ok (.iload_n 3, 1) := by decide +kernel
theorem dX8_rest_11 : decode cX8_rest 11 = .ok (.invokevirtual 121, 3) := by decide +kernel
theorem dX8_rest_14 : decode cX8_rest 14 = .ok (.ifCond .eq 28, 3) := by decide +kernel
theorem dX8_rest_17 : decode cX8_rest 17 = .ok (.iload 4, 2) := by decide +kernel
theorem dX8_rest_19 : decode cX8_rest 19 = .ok (.i2l, 1) := by decide +kernel
theorem dX8_rest_20 : decode cX8_rest 20 = .ok (.lconst 0, 1) := by decide +kernel
theorem dX8_rest_21 : decode cX8_rest 21 = .ok (.ldc2_w 124, 3) := by decide +kernel
theorem dX8_rest_24 : decode cX8_rest 24 = .ok (.invokestatic 69, 3) := by decide +kernel
theorem dX8_rest_27 : decode cX8_rest 27 = .ok (.ifCond .eq 15, 3) := by decide +kernel
theorem dX8_rest_30 : decode cX8_rest 30 = .ok (.aload_n 0, 1) := by decide +kernel
theorem dX8_rest_31 : decode cX8_rest 31 = .ok (.iload_n 1, 1) := by decide +kernel
theorem dX8_rest_32 : decode cX8_rest 32 = .ok (.iload_n 2, 1) := by decide +kernel
theorem dX8_rest_33 : decode cX8_rest 33 = .ok (.iload_n 3, 1) := by decide +kernel
theorem dX8_rest_34 : decode cX8_rest 34 = .ok (.iload 4, 2) := by decide +kernel
theorem dX8_rest_36 : decode cX8_rest 36 = .ok (.invokevirtual 224, 3) := by decide +kernel
theorem dX8_rest_39 : decode cX8_rest 39 = .ok (.goto 9, 3) := by decide +kernel
theorem dX8_rest_42 : decode cX8_rest 42 = .ok (.aload_n 0, 1) := by decide +kernel
theorem dX8_rest_43 : decode cX8_rest 43 = .ok (.bipush (-2), 2) := by decide +kernel
theorem dX8_rest_45 : decode cX8_rest 45 = .ok (.invokevirtual 101, 3) := by decide +kernel
theorem dX8_rest_48 : decode cX8_rest 48 = .ok (.ireturn, 1) := by decide +kernel
set_option maxRecDepth 20000 in
theorem ggX8_isMade_X8_rests : GoodIn wsX8_isMade wsX8_rests := goodIn_r _ [6, 1, 7, 8, 9, 5, 10, 11, 12, 13, 14, 15, 16, 17, 18, 19, 20, 21, 22, 23, 24, 25, 26, 27, 28, 29, 30, 31, 32, 33, 34, 35, 36, 37, 38, 39, 40, 41, 42, 43, 44, 45, 46, 47, 48, 49, 50, 51, 52, 53, 54, 55, 56, 57, 58, 59, 60, 61, 62, 63, 64, 65, 66, 67, 68, 69, 70, 71, 72, 73, 74, 75, 76, 77, 78, 79, 80, 81, 82, 83, 84, 85, 86, 87, 88, 89, 90, 91, 92, 93, 94, 95, 96, 97, 98, 99] (by decide +kernel) (by decide +kernel)
set_option maxRecDepth 20000 in
theorem gX8_isMade_X8_rests : GoodIn wsX8_isMade (wsV RX8 217 RX8 yX8_rests wsX8_rests) := goodIn_app (goodIn_of _ (by decide +kernel)) ggX8_isMade_X8_rests
set_option maxRecDepth 20000 in
theorem ggX8_isMade_X8_workDegree : GoodIn wsX8_isMade wsX8_workDegree := goodIn_r _ [43, 11, 44, 45, 46, 5, 47, 25, 26, 27, 28, 76, 77, 78, 79, 80, 81, 82, 83, 84, 85, 86, 87, 88, 89, 90, 91, 92, 93, 94, 95, 96, 97, 98, 99] (by decide +kernel) (by decide +kernel)
set_option maxRecDepth 20000 in
theorem gX8_isMade_X8_workDegree : GoodIn wsX8_isMade (wsV RX8 168 RX8 yX8_workDegree wsX8_workDegree) := goodIn_app (goodIn_of _ (by decide +kernel)) ggX8_isMade_X8_workDegree
theorem dX8_isMade_0 : decode cX8_isMade 0 = .ok (.aload_n 0, 1) := by decide +kernel
theorem dX8_isMade_1 : decode cX8_isMade 1 = .ok (.iload_n 1, 1) := by decide +kernel
theorem dX8_isMade_2 : decode cX8_isMade 2 = .ok (.iload_n 2, 1) := by decide +kernel
theorem dX8_isMade_3 : decode cX8_isMade 3 = .ok (.invokevirtual 217, 3) := by decide +kernel
theorem dX8_isMade_6 : decode cX8_isMade 6 = .ok (.aload_n 0, 1) := by decide +kernel
theorem dX8_isMade_7 : decode cX8_isMade 7 = .ok (.aload_n 0, 1) := by decide +kernel
theorem dX8_isMade_8 : decode cX8_isMade 8 = .ok (.getfield 178, 3) := by decide +kernel
theorem dX8_isMade_11 : decode cX8_isMade 11 = .ok (.invokevirtual 168, 3) := by decide +kernel
theorem dX8_isMade_14 : decode cX8_isMade 14 = .ok (.ifCond .ge 7, 3) := by decide +kernel
theorem dX8_isMade_17 : decode cX8_isMade 17 = .ok (.iconst 1, 1) := by decide +kernel
theorem dX8_isMade_18 : decode cX8_isMade 18 = .ok (.goto 4, 3) := by decide +kernel
theorem dX8_isMade_21 : decode cX8_isMade 21 = .ok (.iconst 0, 1) := by decide +kernel
theorem dX8_isMade_22 : decode cX8_isMade 22 = .ok (.ireturn, 1) := by decide +kernel
set_option maxRecDepth 20000 in
theorem ggX8_made_X8_isWith : GoodIn wsX8_made wsX8_isWith := goodIn_r _ [5, 6, 7, 8, 4, 9, 10, 11, 12, 13, 14, 15, 16, 17, 18, 19, 20, 21, 100, 101, 102, 103, 104, 105, 106, 107, 108, 109, 110, 111, 112, 113, 114, 115, 116, 117, 118, 119, 120, 121, 122, 123] (by decide +kernel) (by decide +kernel)
set_option maxRecDepth 20000 in
theorem gX8_made_X8_isWith : GoodIn wsX8_made (wsV RX8 220 RX8 yX8_isWith wsX8_isWith) := goodIn_app (goodIn_of _ (by decide +kernel)) ggX8_made_X8_isWith
set_option maxRecDepth 20000 in
theorem ggX8_made_X8_isMade : GoodIn wsX8_made wsX8_isMade := goodIn_r _ [25, 26, 27, 28, 29, 4, 30, 31, 32, 33, 34, 35, 36, 37, 38, 39, 14, 10, 11, 12, 13, 40, 41, 42, 43, 44, 45, 46, 47, 48, 49, 50, 51, 52, 53, 54, 55, 56, 57, 58, 59, 60, 61, 62, 63, 64, 65, 66, 67, 68, 69, 70, 71, 72, 73, 74, 75, 76, 77, 78, 79, 80, 81, 82, 83, 84, 85, 86, 87, 88, 89, 90, 91, 92, 93, 94, 100, 101, 102, 103, 104, 105, 106, 107, 108, 109, 110, 111, 112, 113, 114, 115, 116, 117, 118, 119, 120, 121, 122, 123] (by decide +kernel) (by decide +kernel)
set_option maxRecDepth 20000 in
theorem gX8_made_X8_isMade : GoodIn wsX8_made (wsV RX8 227 RX8 yX8_isMade wsX8_isMade) := goodIn_app (goodIn_of _ (by decide +kernel)) ggX8_made_X8_isMade
set_option maxRecDepth 20000 in
theorem ggX8_made_X8_refuses : GoodIn wsX8_made wsX8_refuses := goodIn_r _ [98, 99, 100, 101, 102, 103, 104, 105, 106, 107, 108, 109, 110, 111, 112, 113, 114, 115, 116, 117, 118, 119, 120, 121, 122, 123] (by decide +kernel) (by decide +kernel)
set_option maxRecDepth 20000 in
theorem gX8_made_X8_refuses : GoodIn wsX8_made (wsV RX8 101 RX8 yX8_refuses wsX8_refuses) := goodIn_app (goodIn_of _ (by decide +kernel)) ggX8_made_X8_refuses
theorem dX8_made_0 : decode cX8_made 0 = .ok (.aload_n 0, 1) := by decide +kernel
theorem dX8_made_1 : decode cX8_made 1 = .ok (.iload_n 1, 1) := by decide +kernel
theorem dX8_made_2 : decode cX8_made 2 = .ok (.iload_n 2, 1) := by decide +kernel
theorem dX8_made_3 : decode cX8_made 3 = .ok (.invokevirtual 220, 3) := by decide +kernel
theorem dX8_made_6 : decode cX8_made 6 = .ok (.ifCond .eq 20, 3) := by decide +kernel
theorem dX8_made_9 : decode cX8_made 9 = .ok (.aload_n 0, 1) := by decide +kernel
theorem dX8_made_10 : decode cX8_made 10 = .ok (.iload_n 1, 1) := by decide +kernel
theorem dX8_made_11 : decode cX8_made 11 = .ok (.iload_n 2, 1) := by decide +kernel
theorem dX8_made_12 : decode cX8_made 12 = .ok (.invokevirtual 227, 3) := by decide +kernel
theorem dX8_made_15 : decode cX8_made 15 = .ok (.ifCond .eq 7, 3) := by decide +kernel
theorem dX8_made_18 : decode cX8_made 18 = .ok (.iconst 1, 1) := by decide +kernel
theorem dX8_made_19 : decode cX8_made 19 = .ok (.goto 13, 3) := by decide +kernel
theorem dX8_made_22 : decode cX8_made 22 = .ok (.iconst 0, 1) := by decide +kernel
theorem dX8_made_23 : decode cX8_made 23 = .ok (.goto 9, 3) := by decide +kernel
theorem dX8_made_26 : decode cX8_made 26 = .ok (.aload_n 0, 1) := by decide +kernel
theorem dX8_made_27 : decode cX8_made 27 = .ok (.bipush (-2), 2) := by decide +kernel
theorem dX8_made_29 : decode cX8_made 29 = .ok (.invokevirtual 101, 3) := by decide +kernel
theorem dX8_made_32 : decode cX8_made 32 = .ok (.ireturn, 1) := by decide +kernel
theorem dX8_begins_0 : decode cX8_begins 0 = .ok (.iconst 0, 1) := by decide +kernel
theorem dX8_begins_1 : decode cX8_begins 1 = .ok (.istore_n 2, 1) := by decide +kernel
theorem dX8_begins_2 : decode cX8_begins 2 = .ok (.iload_n 2, 1) := by decide +kernel
theorem dX8_begins_3 : decode cX8_begins 3 = .ok (.bipush 25, 2) := by decide +kernel
theorem dX8_begins_5 : decode cX8_begins 5 = .ok (.if_icmp .ge 13, 3) := by decide +kernel
theorem dX8_begins_8 : decode cX8_begins 8 = .ok (.aload_n 1, 1) := by decide +kernel
theorem dX8_begins_9 : decode cX8_begins 9 = .ok (.iload_n 2, 1) := by decide +kernel
theorem dX8_begins_10 : decode cX8_begins 10 = .ok (.iconst 0, 1) := by decide +kernel
theorem dX8_begins_11 : decode cX8_begins 11 = .ok (.iastore, 1) := by decide +kernel
theorem dX8_begins_12 : decode cX8_begins 12 = .ok (.iinc 2 1, 3) := by decide +kernel
theorem dX8_begins_15 : decode cX8_begins 15 = .ok (.goto (-13), 3) := by decide +kernel
theorem dX8_begins_18 : decode cX8_begins 18 = .ok (.return_, 1) := by decide +kernel
set_option maxRecDepth 20000 in
theorem ggX8_multiplies_X8_begins : GoodIn wsX8_multiplies wsX8_begins := goodIn_r _ [8] (by decide +kernel) (by decide +kernel)
set_option maxRecDepth 20000 in
theorem gX8_multiplies_X8_begins : GoodIn wsX8_multiplies (wsV RX8 230 RX8 yX8_begins wsX8_begins) := goodIn_app (goodIn_of _ (by decide +kernel)) ggX8_multiplies_X8_begins
set_option maxRecDepth 20000 in
theorem ggX8_multiplies_X8_place : GoodIn wsX8_multiplies wsX8_place := goodIn_r _ [11] (by decide +kernel) (by decide +kernel)
set_option maxRecDepth 20000 in
theorem gX8_multiplies_X8_place : GoodIn wsX8_multiplies (va_wsS RX8 79 yX8_place wsX8_place) := goodIn_app (goodIn_of _ (by decide +kernel)) ggX8_multiplies_X8_place
set_option maxRecDepth 20000 in
theorem ggX8_multiplies_X8_modulus : GoodIn wsX8_multiplies wsX8_modulus := goodIn_r _ [15, 3, 16, 17, 18, 19, 20, 21, 22, 23, 24, 25, 26, 27, 28, 29, 30, 31, 32, 33, 34, 35, 36, 37, 38, 39] (by decide +kernel) (by decide +kernel)
set_option maxRecDepth 20000 in
theorem gX8_multiplies_X8_modulus : GoodIn wsX8_multiplies (wsV RX8 76 RX8 yX8_modulus wsX8_modulus) := goodIn_app (goodIn_of _ (by decide +kernel)) ggX8_multiplies_X8_modulus
theorem dX8_multiplies_0 : decode cX8_multiplies 0 = .ok (.aload_n 0, 1) := by decide +kernel
theorem dX8_multiplies_1 : decode cX8_multiplies 1 = .ok (.aload_n 0, 1) := by decide +kernel
theorem dX8_multiplies_2 : decode cX8_multiplies 2 = .ok (.getfield 41, 3) := by decide +kernel
theorem dX8_multiplies_5 : decode cX8_multiplies 5 = .ok (.invokevirtual 230, 3) := by decide +kernel
theorem dX8_multiplies_8 : decode cX8_multiplies 8 = .ok (.iconst 0, 1) := by decide +kernel
theorem dX8_multiplies_9 : decode cX8_multiplies 9 = .ok (.istore_n 3, 1) := by decide +kernel
theorem dX8_multiplies_10 : decode cX8_multiplies 10 = .ok (.iload_n 3, 1) := by decide +kernel
theorem dX8_multiplies_11 : decode cX8_multiplies 11 = .ok (.bipush 25, 2) := by decide +kernel
theorem dX8_multiplies_13 : decode cX8_multiplies 13 = .ok (.if_icmp .ge 86, 3) := by decide +kernel
theorem dX8_multiplies_16 : decode cX8_multiplies 16 = .ok (.iconst 0, 1) := by decide +kernel
theorem dX8_multiplies_17 : decode cX8_multiplies 17 = .ok (.istore 4, 2) := by decide +kernel
theorem dX8_multiplies_19 : decode cX8_multiplies 19 = .ok (.iload 4, 2) := by decide +kernel
theorem dX8_multiplies_21 : decode cX8_multiplies 21 = .ok (.bipush 7, 2) := by decide +kernel
theorem dX8_multiplies_23 : decode cX8_multiplies 23 = .ok (.if_icmp .ge 70, 3) := by decide +kernel
theorem dX8_multiplies_26 : decode cX8_multiplies 26 = .ok (.aload_n 0, 1) := by decide +kernel
theorem dX8_multiplies_27 : decode cX8_multiplies 27 = .ok (.getfield 38, 3) := by decide +kernel
theorem dX8_multiplies_30 : decode cX8_multiplies 30 = .ok (.iload_n 3, 1) := by decide +kernel
theorem dX8_multiplies_31 : decode cX8_multiplies 31 = .ok (.iaload, 1) := by decide +kernel
theorem dX8_multiplies_32 : decode cX8_multiplies 32 = .ok (.ifCond .eq 61, 3) := by decide +kernel
theorem dX8_multiplies_35 : decode cX8_multiplies 35 = .ok (.aload_n 0, 1) := by decide +kernel
theorem dX8_multiplies_36 : decode cX8_multiplies 36 = .ok (.getfield 7, 3) := by decide +kernel
theorem dX8_multiplies_39 : decode cX8_multiplies 39 = .ok (.iload_n 1, 1) := by decide +kernel
theorem dX8_multiplies_40 : decode cX8_multiplies 40 = .ok (.iload_n 2, 1) := by decide +kernel
theorem dX8_multiplies_41 : decode cX8_multiplies 41 = .ok (.iload 4, 2) := by decide +kernel
theorem dX8_multiplies_43 : decode cX8_multiplies 43 = .ok (.invokestatic 79, 3) := by decide +kernel
theorem dX8_multiplies_46 : decode cX8_multiplies 46 = .ok (.iaload, 1) := by decide +kernel
theorem dX8_multiplies_47 : decode cX8_multiplies 47 = .ok (.istore 5, 2) := by decide +kernel
theorem dX8_multiplies_49 : decode cX8_multiplies 49 = .ok (.iload 5, 2) := by decide +kernel
theorem dX8_multiplies_51 : decode cX8_multiplies 51 = .ok (.ifCond .eq 36, 3) := by decide +kernel
theorem dX8_multiplies_54 : decode cX8_multiplies 54 = .ok (.aload_n 0, 1) := by decide +kernel
theorem dX8_multiplies_55 : decode cX8_multiplies 55 = .ok (.getfield 41, 3) := by decide +kernel
theorem dX8_multiplies_58 : decode cX8_multiplies 58 = .ok (.iload_n 3, 1) := by decide +kernel
theorem dX8_multiplies_59 : decode cX8_multiplies 59 = .ok (.iload 4, 2) := by decide +kernel
theorem dX8_multiplies_61 : decode cX8_multiplies 61 = .ok (.iadd, 1) := by decide +kernel
theorem dX8_multiplies_62 : decode cX8_multiplies 62 = .ok (.aload_n 0, 1) := by decide +kernel
theorem dX8_multiplies_63 : decode cX8_multiplies 63 = .ok (.getfield 41, 3) := by decide +kernel
theorem dX8_multiplies_66 : decode cX8_multiplies 66 = .ok (.iload_n 3, 1) := by decide +kernel
theorem dX8_multiplies_67 : decode cX8_multiplies 67 = .ok (.iload 4, 2) := by decide +kernel
theorem dX8_multiplies_69 : decode cX8_multiplies 69 = .ok (.iadd, 1) := by decide +kernel
theorem dX8_multiplies_70 : decode cX8_multiplies 70 = .ok (.iaload, 1) := by decide +kernel
theorem dX8_multiplies_71 : decode cX8_multiplies 71 = .ok (.aload_n 0, 1) := by decide +kernel
theorem dX8_multiplies_72 : decode cX8_multiplies 72 = .ok (.getfield 38, 3) := by decide +kernel
theorem dX8_multiplies_75 : decode cX8_multiplies 75 = .ok (.iload_n 3, 1) := by decide +kernel
theorem dX8_multiplies_76 : decode cX8_multiplies 76 = .ok (.iaload, 1) := by decide +kernel
theorem dX8_multiplies_77 : decode cX8_multiplies 77 = .ok (.iload 5, 2) := by decide +kernel
theorem dX8_multiplies_79 : decode cX8_multiplies 79 = .ok (.imul, 1) := by decide +kernel
theorem dX8_multiplies_80 : decode cX8_multiplies 80 = .ok (.iadd, 1) := by decide +kernel
theorem dX8_multiplies_81 : decode cX8_multiplies 81 = .ok (.aload_n 0, 1) := by decide +kernel
theorem dX8_multiplies_82 : decode cX8_multiplies 82 = .ok (.invokevirtual 76, 3) := by decide +kernel
theorem dX8_multiplies_85 : decode cX8_multiplies 85 = .ok (.irem, 1) := by decide +kernel
theorem dX8_multiplies_86 : decode cX8_multiplies 86 = .ok (.iastore, 1) := by decide +kernel
theorem dX8_multiplies_87 : decode cX8_multiplies 87 = .ok (.iinc 4 1, 3) := by decide +kernel
theorem dX8_multiplies_90 : decode cX8_multiplies 90 = .ok (.goto (-71), 3) := by decide +kernel
theorem dX8_multiplies_93 : decode cX8_multiplies 93 = .ok (.iinc 3 1, 3) := by decide +kernel
theorem dX8_multiplies_96 : decode cX8_multiplies 96 = .ok (.goto (-86), 3) := by decide +kernel
theorem dX8_multiplies_99 : decode cX8_multiplies 99 = .ok (.iconst 0, 1) := by decide +kernel
theorem dX8_multiplies_100 : decode cX8_multiplies 100 = .ok (.istore_n 3, 1) := by decide +kernel
theorem dX8_multiplies_101 : decode cX8_multiplies 101 = .ok (.iload_n 3, 1) := by decide +kernel
theorem dX8_multiplies_102 : decode cX8_multiplies 102 = .ok (.bipush 25, 2) := by decide +kernel
theorem dX8_multiplies_104 : decode cX8_multiplies 104 = .ok (.if_icmp .ge 21, 3) := by decide +kernel
theorem dX8_multiplies_107 : decode cX8_multiplies 107 = .ok (.aload_n 0, 1) := by decide +kernel
theorem dX8_multiplies_108 : decode cX8_multiplies 108 = .ok (.getfield 38, 3) := by decide +kernel
theorem dX8_multiplies_111 : decode cX8_multiplies 111 = .ok (.iload_n 3, 1) := by decide +kernel
theorem dX8_multiplies_112 : decode cX8_multiplies 112 = .ok (.aload_n 0, 1) := by decide +kernel
theorem dX8_multiplies_113 : decode cX8_multiplies 113 = .ok (.getfield 41, 3) := by decide +kernel
theorem dX8_multiplies_116 : decode cX8_multiplies 116 = .ok (.iload_n 3, 1) := by decide +kernel
theorem dX8_multiplies_117 : decode cX8_multiplies 117 = .ok (.iaload, 1) := by decide +kernel
theorem dX8_multiplies_118 : decode cX8_multiplies 118 = .ok (.iastore, 1) := by decide +kernel
theorem dX8_multiplies_119 : decode cX8_multiplies 119 = .ok (.iinc 3 1, 3) := by decide +kernel
theorem dX8_multiplies_122 : decode cX8_multiplies 122 = .ok (.goto (-21), 3) := by decide +kernel
theorem dX8_multiplies_125 : decode cX8_multiplies 125 = .ok (.return_, 1) := by decide +kernel
set_option maxRecDepth 20000 in
theorem ggX8_comes_X8_begins : GoodIn wsX8_comes wsX8_begins := goodIn_r _ [9] (by decide +kernel) (by decide +kernel)
set_option maxRecDepth 20000 in
theorem gX8_comes_X8_begins : GoodIn wsX8_comes (wsV RX8 230 RX8 yX8_begins wsX8_begins) := goodIn_app (goodIn_of _ (by decide +kernel)) ggX8_comes_X8_begins
set_option maxRecDepth 20000 in
theorem ggX8_comes_X8_multiplies : GoodIn wsX8_comes wsX8_multiplies := goodIn_r _ [13, 14, 1, 15, 5, 6, 7, 8, 9, 16, 17, 18, 19, 20, 21, 22, 27, 28, 29, 30, 31, 32, 33, 34, 35, 36, 37, 38, 39, 40, 41, 42, 43, 44, 45, 46, 47, 48, 49, 50] (by decide +kernel) (by decide +kernel)
set_option maxRecDepth 20000 in
theorem gX8_comes_X8_multiplies : GoodIn wsX8_comes (wsV RX8 234 RX8 yX8_multiplies wsX8_multiplies) := goodIn_app (goodIn_of _ (by decide +kernel)) ggX8_comes_X8_multiplies
set_option maxRecDepth 20000 in
theorem ggX8_comes_X8_left : GoodIn wsX8_comes wsX8_left := goodIn_r _ [26, 19, 20, 21, 8, 22, 15, 27, 28, 29, 30, 31, 32, 33, 34, 35, 36, 37, 38, 39, 40, 41, 42, 43, 44, 45, 46, 47, 48, 49, 50] (by decide +kernel) (by decide +kernel)
set_option maxRecDepth 20000 in
theorem gX8_comes_X8_left : GoodIn wsX8_comes (wsV RX8 126 RX8 yX8_left wsX8_left) := goodIn_app (goodIn_of _ (by decide +kernel)) ggX8_comes_X8_left
theorem dX8_comes_0 : decode cX8_comes 0 = .ok (.aload_n 0, 1) := by decide +kernel
theorem dX8_comes_1 : decode cX8_comes 1 = .ok (.aload_n 0, 1) := by decide +kernel
theorem dX8_comes_2 : decode cX8_comes 2 = .ok (.getfield 38, 3) := by decide +kernel
theorem dX8_comes_5 : decode cX8_comes 5 = .ok (.invokevirtual 230, 3) := by decide +kernel
theorem dX8_comes_8 : decode cX8_comes 8 = .ok (.aload_n 0, 1) := by decide +kernel
theorem dX8_comes_9 : decode cX8_comes 9 = .ok (.getfield 38, 3) := by decide +kernel
theorem dX8_comes_12 : decode cX8_comes 12 = .ok (.iconst 0, 1) := by decide +kernel
theorem dX8_comes_13 : decode cX8_comes 13 = .ok (.iconst 1, 1) := by decide +kernel
theorem dX8_comes_14 : decode cX8_comes 14 = .ok (.iastore, 1) := by decide +kernel
theorem dX8_comes_15 : decode cX8_comes 15 = .ok (.aload_n 0, 1) := by decide +kernel
theorem dX8_comes_16 : decode cX8_comes 16 = .ok (.aload_n 0, 1) := by decide +kernel
theorem dX8_comes_17 : decode cX8_comes 17 = .ok (.getfield 29, 3) := by decide +kernel
theorem dX8_comes_20 : decode cX8_comes 20 = .ok (.iconst 0, 1) := by decide +kernel
theorem dX8_comes_21 : decode cX8_comes 21 = .ok (.iaload, 1) := by decide +kernel
theorem dX8_comes_22 : decode cX8_comes 22 = .ok (.aload_n 0, 1) := by decide +kernel
theorem dX8_comes_23 : decode cX8_comes 23 = .ok (.getfield 32, 3) := by decide +kernel
theorem dX8_comes_26 : decode cX8_comes 26 = .ok (.iload_n 2, 1) := by decide +kernel
theorem dX8_comes_27 : decode cX8_comes 27 = .ok (.iaload, 1) := by decide +kernel
theorem dX8_comes_28 : decode cX8_comes 28 = .ok (.invokevirtual 234, 3) := by decide +kernel
theorem dX8_comes_31 : decode cX8_comes 31 = .ok (.iload_n 1, 1) := by decide +kernel
theorem dX8_comes_32 : decode cX8_comes 32 = .ok (.iconst 1, 1) := by decide +kernel
theorem dX8_comes_33 : decode cX8_comes 33 = .ok (.if_icmp .le 19, 3) := by decide +kernel
theorem dX8_comes_36 : decode cX8_comes 36 = .ok (.aload_n 0, 1) := by decide +kernel
theorem dX8_comes_37 : decode cX8_comes 37 = .ok (.aload_n 0, 1) := by decide +kernel
theorem dX8_comes_38 : decode cX8_comes 38 = .ok (.getfield 29, 3) := by decide +kernel
theorem dX8_comes_41 : decode cX8_comes 41 = .ok (.iconst 1, 1) := by decide +kernel
theorem dX8_comes_42 : decode cX8_comes 42 = .ok (.iaload, 1) := by decide +kernel
theorem dX8_comes_43 : decode cX8_comes 43 = .ok (.aload_n 0, 1) := by decide +kernel
theorem dX8_comes_44 : decode cX8_comes 44 = .ok (.getfield 32, 3) := by decide +kernel
theorem dX8_comes_47 : decode cX8_comes 47 = .ok (.iload_n 3, 1) := by decide +kernel
theorem dX8_comes_48 : decode cX8_comes 48 = .ok (.iaload, 1) := by decide +kernel
theorem dX8_comes_49 : decode cX8_comes 49 = .ok (.invokevirtual 234, 3) := by decide +kernel
theorem dX8_comes_52 : decode cX8_comes 52 = .ok (.iload_n 1, 1) := by decide +kernel
theorem dX8_comes_53 : decode cX8_comes 53 = .ok (.iconst 2, 1) := by decide +kernel
theorem dX8_comes_54 : decode cX8_comes 54 = .ok (.if_icmp .le 20, 3) := by decide +kernel
theorem dX8_comes_57 : decode cX8_comes 57 = .ok (.aload_n 0, 1) := by decide +kernel
theorem dX8_comes_58 : decode cX8_comes 58 = .ok (.aload_n 0, 1) := by decide +kernel
theorem dX8_comes_59 : decode cX8_comes 59 = .ok (.getfield 29, 3) := by decide +kernel
theorem dX8_comes_62 : decode cX8_comes 62 = .ok (.iconst 2, 1) := by decide +kernel
theorem dX8_comes_63 : decode cX8_comes 63 = .ok (.iaload, 1) := by decide +kernel
theorem dX8_comes_64 : decode cX8_comes 64 = .ok (.aload_n 0, 1) := by decide +kernel
theorem dX8_comes_65 : decode cX8_comes 65 = .ok (.getfield 32, 3) := by decide +kernel
theorem dX8_comes_68 : decode cX8_comes 68 = .ok (.iload 4, 2) := by decide +kernel
theorem dX8_comes_70 : decode cX8_comes 70 = .ok (.iaload, 1) := by decide +kernel
theorem dX8_comes_71 : decode cX8_comes 71 = .ok (.invokevirtual 234, 3) := by decide +kernel
theorem dX8_comes_74 : decode cX8_comes 74 = .ok (.iconst 0, 1) := by decide +kernel
theorem dX8_comes_75 : decode cX8_comes 75 = .ok (.istore 6, 2) := by decide +kernel
theorem dX8_comes_77 : decode cX8_comes 77 = .ok (.iload 6, 2) := by decide +kernel
theorem dX8_comes_79 : decode cX8_comes 79 = .ok (.bipush 25, 2) := by decide +kernel
theorem dX8_comes_81 : decode cX8_comes 81 = .ok (.if_icmp .ge 38, 3) := by decide +kernel
theorem dX8_comes_84 : decode cX8_comes 84 = .ok (.aload_n 0, 1) := by decide +kernel
theorem dX8_comes_85 : decode cX8_comes 85 = .ok (.getfield 35, 3) := by decide +kernel
theorem dX8_comes_88 : decode cX8_comes 88 = .ok (.iload 6, 2) := by decide +kernel
theorem dX8_comes_90 : decode cX8_comes 90 = .ok (.aload_n 0, 1) := by decide +kernel
theorem dX8_comes_91 : decode cX8_comes 91 = .ok (.aload_n 0, 1) := by decide +kernel
theorem dX8_comes_92 : decode cX8_comes 92 = .ok (.getfield 35, 3) := by decide +kernel
theorem dX8_comes_95 : decode cX8_comes 95 = .ok (.iload 6, 2) := by decide +kernel
theorem dX8_comes_97 : decode cX8_comes 97 = .ok (.iaload, 1) := by decide +kernel
theorem dX8_comes_98 : decode cX8_comes 98 = .ok (.iload 5, 2) := by decide +kernel
theorem dX8_comes_100 : decode cX8_comes 100 = .ok (.aload_n 0, 1) := by decide +kernel
theorem dX8_comes_101 : decode cX8_comes 101 = .ok (.getfield 38, 3) := by decide +kernel
theorem dX8_comes_104 : decode cX8_comes 104 = .ok (.iload 6, 2) := by decide +kernel
theorem dX8_comes_106 : decode cX8_comes 106 = .ok (.iaload, 1) := by decide +kernel
theorem dX8_comes_107 : decode cX8_comes 107 = .ok (.imul, 1) := by decide +kernel
theorem dX8_comes_108 : decode cX8_comes 108 = .ok (.iadd, 1) := by decide +kernel
theorem dX8_comes_109 : decode cX8_comes 109 = .ok (.invokevirtual 126, 3) := by decide +kernel
theorem dX8_comes_112 : decode cX8_comes 112 = .ok (.iastore, 1) := by decide +kernel
theorem dX8_comes_113 : decode cX8_comes 113 = .ok (.iinc 6 1, 3) := by decide +kernel
theorem dX8_comes_116 : decode cX8_comes 116 = .ok (.goto (-39), 3) := by decide +kernel
theorem dX8_comes_119 : decode cX8_comes 119 = .ok (.return_, 1) := by decide +kernel
set_option maxRecDepth 20000 in
theorem ggX8_determines_X8_begins : GoodIn wsX8_determines wsX8_begins := goodIn_r _ [6] (by decide +kernel) (by decide +kernel)
set_option maxRecDepth 20000 in
theorem gX8_determines_X8_begins : GoodIn wsX8_determines (wsV RX8 230 RX8 yX8_begins wsX8_begins) := goodIn_app (goodIn_of _ (by decide +kernel)) ggX8_determines_X8_begins
set_option maxRecDepth 20000 in
theorem ggX8_determines_X8_comes : GoodIn wsX8_determines wsX8_comes := goodIn_r _ [10, 11, 12, 13, 1, 2, 3, 4, 5, 6, 14, 15, 16, 17, 18, 19, 20, 21, 22, 23, 24, 25, 26, 27, 28, 29, 30, 31, 32, 33, 34, 35, 36, 37, 38, 39, 40, 41, 42, 43, 44, 45, 46, 47, 48, 49, 50, 51, 52, 53, 54] (by decide +kernel) (by decide +kernel)
set_option maxRecDepth 20000 in
theorem gX8_determines_X8_comes : GoodIn wsX8_determines (wsV RX8 237 RX8 yX8_comes wsX8_comes) := goodIn_app (goodIn_of _ (by decide +kernel)) ggX8_determines_X8_comes
theorem dX8_determines_0 : decode cX8_determines 0 = .ok (.aload_n 0, 1) := by decide +kernel
theorem dX8_determines_1 : decode cX8_determines 1 = .ok (.aload_n 0, 1) := by decide +kernel
theorem dX8_determines_2 : decode cX8_determines 2 = .ok (.getfield 35, 3) := by decide +kernel
theorem dX8_determines_5 : decode cX8_determines 5 = .ok (.invokevirtual 230, 3) := by decide +kernel
theorem dX8_determines_8 : decode cX8_determines 8 = .ok (.aload_n 0, 1) := by decide +kernel
theorem dX8_determines_9 : decode cX8_determines 9 = .ok (.iload_n 1, 1) := by decide +kernel
theorem dX8_determines_10 : decode cX8_determines 10 = .ok (.iconst 0, 1) := by decide +kernel
theorem dX8_determines_11 : decode cX8_determines 11 = .ok (.iconst 1, 1) := by decide +kernel
theorem dX8_determines_12 : decode cX8_determines 12 = .ok (.iconst 2, 1) := by decide +kernel
theorem dX8_determines_13 : decode cX8_determines 13 = .ok (.iconst 1, 1) := by decide +kernel
theorem dX8_determines_14 : decode cX8_determines 14 = .ok (.invokevirtual 237, 3) := by decide +kernel
theorem dX8_determines_17 : decode cX8_determines 17 = .ok (.iload_n 1, 1) := by decide +kernel
theorem dX8_determines_18 : decode cX8_determines 18 = .ok (.iconst 1, 1) := by decide +kernel
theorem dX8_determines_19 : decode cX8_determines 19 = .ok (.if_icmp .le 12, 3) := by decide +kernel
theorem dX8_determines_22 : decode cX8_determines 22 = .ok (.aload_n 0, 1) := by decide +kernel
theorem dX8_determines_23 : decode cX8_determines 23 = .ok (.iload_n 1, 1) := by decide +kernel
theorem dX8_determines_24 : decode cX8_determines 24 = .ok (.iconst 1, 1) := by decide +kernel
theorem dX8_determines_25 : decode cX8_determines 25 = .ok (.iconst 0, 1) := by decide +kernel
theorem dX8_determines_26 : decode cX8_determines 26 = .ok (.iconst 2, 1) := by decide +kernel
theorem dX8_determines_27 : decode cX8_determines 27 = .ok (.iconst (-1), 1) := by decide +kernel
theorem dX8_determines_28 : decode cX8_determines 28 = .ok (.invokevirtual 237, 3) := by decide +kernel
theorem dX8_determines_31 : decode cX8_determines 31 = .ok (.iload_n 1, 1) := by decide +kernel
theorem dX8_determines_32 : decode cX8_determines 32 = .ok (.iconst 2, 1) := by decide +kernel
theorem dX8_determines_33 : decode cX8_determines 33 = .ok (.if_icmp .le 39, 3) := by decide +kernel
theorem dX8_determines_36 : decode cX8_determines 36 = .ok (.aload_n 0, 1) := by decide +kernel
theorem dX8_determines_37 : decode cX8_determines 37 = .ok (.iload_n 1, 1) := by decide +kernel
theorem dX8_determines_38 : decode cX8_determines 38 = .ok (.iconst 1, 1) := by decide +kernel
theorem dX8_determines_39 : decode cX8_determines 39 = .ok (.iconst 2, 1) := by decide +kernel
theorem dX8_determines_40 : decode cX8_determines 40 = .ok (.iconst 0, 1) := by decide +kernel
theorem dX8_determines_41 : decode cX8_determines 41 = .ok (.iconst 1, 1) := by decide +kernel
theorem dX8_determines_42 : decode cX8_determines 42 = .ok (.invokevirtual 237, 3) := by decide +kernel
theorem dX8_determines_45 : decode cX8_determines 45 = .ok (.aload_n 0, 1) := by decide +kernel
theorem dX8_determines_46 : decode cX8_determines 46 = .ok (.iload_n 1, 1) := by decide +kernel
theorem dX8_determines_47 : decode cX8_determines 47 = .ok (.iconst 2, 1) := by decide +kernel
theorem dX8_determines_48 : decode cX8_determines 48 = .ok (.iconst 0, 1) := by decide +kernel
theorem dX8_determines_49 : decode cX8_determines 49 = .ok (.iconst 1, 1) := by decide +kernel
theorem dX8_determines_50 : decode cX8_determines 50 = .ok (.iconst 1, 1) := by decide +kernel
theorem dX8_determines_51 : decode cX8_determines 51 = .ok (.invokevirtual 237, 3) := by decide +kernel
theorem dX8_determines_54 : decode cX8_determines 54 = .ok (.aload_n 0, 1) := by decide +kernel
theorem dX8_determines_55 : decode cX8_determines 55 = .ok (.iload_n 1, 1) := by decide +kernel
theorem dX8_determines_56 : decode cX8_determines 56 = .ok (.iconst 2, 1) := by decide +kernel
theorem dX8_determines_57 : decode cX8_determines 57 = .ok (.iconst 1, 1) := by decide +kernel
theorem dX8_determines_58 : decode cX8_determines 58 = .ok (.iconst 0, 1) := by decide +kernel
theorem dX8_determines_59 : decode cX8_determines 59 = .ok (.iconst (-1), 1) := by decide +kernel
theorem dX8_determines_60 : decode cX8_determines 60 = .ok (.invokevirtual 237, 3) := by decide +kernel
theorem dX8_determines_63 : decode cX8_determines 63 = .ok (.aload_n 0, 1) := by decide +kernel
theorem dX8_determines_64 : decode cX8_determines 64 = .ok (.iload_n 1, 1) := by decide +kernel
theorem dX8_determines_65 : decode cX8_determines 65 = .ok (.iconst 0, 1) := by decide +kernel
theorem dX8_determines_66 : decode cX8_determines 66 = .ok (.iconst 2, 1) := by decide +kernel
theorem dX8_determines_67 : decode cX8_determines 67 = .ok (.iconst 1, 1) := by decide +kernel
theorem dX8_determines_68 : decode cX8_determines 68 = .ok (.iconst (-1), 1) := by decide +kernel
theorem dX8_determines_69 : decode cX8_determines 69 = .ok (.invokevirtual 237, 3) := by decide +kernel
theorem dX8_determines_72 : decode cX8_determines 72 = .ok (.return_, 1) := by decide +kernel
theorem dX8_degreeOf_0 : decode cX8_degreeOf 0 = .ok (.bipush 24, 2) := by decide +kernel
theorem dX8_degreeOf_2 : decode cX8_degreeOf 2 = .ok (.istore_n 1, 1) := by decide +kernel
theorem dX8_degreeOf_3 : decode cX8_degreeOf 3 = .ok (.iload_n 1, 1) := by decide +kernel
theorem dX8_degreeOf_4 : decode cX8_degreeOf 4 = .ok (.ifCond .lt 15, 3) := by decide +kernel
theorem dX8_degreeOf_7 : decode cX8_degreeOf 7 = .ok (.aload_n 0, 1) := by decide +kernel
theorem dX8_degreeOf_8 : decode cX8_degreeOf 8 = .ok (.iload_n 1, 1) := by decide +kernel
theorem dX8_degreeOf_9 : decode cX8_degreeOf 9 = .ok (.iaload, 1) := by decide +kernel
theorem dX8_degreeOf_10 : decode cX8_degreeOf 10 = .ok (.ifCond .ne 9, 3) := by decide +kernel
theorem dX8_degreeOf_13 : decode cX8_degreeOf 13 = .ok (.iinc 1 (-1), 3) := by decide +kernel
theorem dX8_degreeOf_16 : decode cX8_degreeOf 16 = .ok (.goto (-13), 3) := by decide +kernel
theorem dX8_degreeOf_19 : decode cX8_degreeOf 19 = .ok (.iload_n 1, 1) := by decide +kernel
theorem dX8_degreeOf_20 : decode cX8_degreeOf 20 = .ok (.ireturn, 1) := by decide +kernel
set_option maxRecDepth 20000 in
theorem ggX8_chooses_X8_rows : GoodIn wsX8_chooses wsX8_rows := goodIn_r _ [6, 7, 8, 9, 10, 11, 12, 13, 14, 15, 16, 17, 18, 19, 20, 21, 22, 23, 24, 25, 26, 27, 28, 29, 30, 31] (by decide +kernel) (by decide +kernel)
set_option maxRecDepth 20000 in
theorem gX8_chooses_X8_rows : GoodIn wsX8_chooses (wsV RX8 65 RX8 yX8_rows wsX8_rows) := goodIn_app (goodIn_of _ (by decide +kernel)) ggX8_chooses_X8_rows
theorem dX8_chooses_0 : decode cX8_chooses 0 = .ok (.iconst 0, 1) := by decide +kernel
theorem dX8_chooses_1 : decode cX8_chooses 1 = .ok (.istore_n 2, 1) := by decide +kernel
theorem dX8_chooses_2 : decode cX8_chooses 2 = .ok (.iconst 0, 1) := by decide +kernel
theorem dX8_chooses_3 : decode cX8_chooses 3 = .ok (.istore_n 3, 1) := by decide +kernel
theorem dX8_chooses_4 : decode cX8_chooses 4 = .ok (.iload_n 3, 1) := by decide +kernel
theorem dX8_chooses_5 : decode cX8_chooses 5 = .ok (.aload_n 0, 1) := by decide +kernel
theorem dX8_chooses_6 : decode cX8_chooses 6 = .ok (.invokevirtual 65, 3) := by decide +kernel
theorem dX8_chooses_9 : decode cX8_chooses 9 = .ok (.if_icmp .ge 33, 3) := by decide +kernel
theorem dX8_chooses_12 : decode cX8_chooses 12 = .ok (.iload_n 1, 1) := by decide +kernel
theorem dX8_chooses_13 : decode cX8_chooses 13 = .ok (.iload_n 3, 1) := by decide +kernel
theorem dX8_chooses_14 : decode cX8_chooses 14 = .ok (.ishr, 1) := by decide +kernel
theorem dX8_chooses_15 : decode cX8_chooses 15 = .ok (.iconst 1, 1) := by decide +kernel
theorem dX8_chooses_16 : decode cX8_chooses 16 = .ok (.iand, 1) := by decide +kernel
theorem dX8_chooses_17 : decode cX8_chooses 17 = .ok (.iconst 1, 1) := by decide +kernel
theorem dX8_chooses_18 : decode cX8_chooses 18 = .ok (.if_icmp .ne 18, 3) := by decide +kernel
theorem dX8_chooses_21 : decode cX8_chooses 21 = .ok (.iload_n 2, 1) := by decide +kernel
theorem dX8_chooses_22 : decode cX8_chooses 22 = .ok (.iconst 3, 1) := by decide +kernel
theorem dX8_chooses_23 : decode cX8_chooses 23 = .ok (.if_icmp .ge 10, 3) := by decide +kernel
theorem dX8_chooses_26 : decode cX8_chooses 26 = .ok (.aload_n 0, 1) := by decide +kernel
theorem dX8_chooses_27 : decode cX8_chooses 27 = .ok (.getfield 29, 3) := by decide +kernel
theorem dX8_chooses_30 : decode cX8_chooses 30 = .ok (.iload_n 2, 1) := by decide +kernel
theorem dX8_chooses_31 : decode cX8_chooses 31 = .ok (.iload_n 3, 1) := by decide +kernel
theorem dX8_chooses_32 : decode cX8_chooses 32 = .ok (.iastore, 1) := by decide +kernel
theorem dX8_chooses_33 : decode cX8_chooses 33 = .ok (.iinc 2 1, 3) := by decide +kernel
theorem dX8_chooses_36 : decode cX8_chooses 36 = .ok (.iinc 3 1, 3) := by decide +kernel
theorem dX8_chooses_39 : decode cX8_chooses 39 = .ok (.goto (-35), 3) := by decide +kernel
theorem dX8_chooses_42 : decode cX8_chooses 42 = .ok (.iload_n 2, 1) := by decide +kernel
theorem dX8_chooses_43 : decode cX8_chooses 43 = .ok (.ireturn, 1) := by decide +kernel
set_option maxRecDepth 20000 in
theorem ggX8_detOf_X8_chooses : GoodIn wsX8_detOf wsX8_chooses := goodIn_r _ [7, 8, 9, 10, 11, 6, 12, 13, 55, 56, 57, 58, 59, 60, 61, 62, 63, 64, 65, 66, 67, 68, 69, 70, 71, 72, 73, 74, 75, 76, 77, 78] (by decide +kernel) (by decide +kernel)
set_option maxRecDepth 20000 in
theorem gX8_detOf_X8_chooses : GoodIn wsX8_detOf (wsV RX8 241 RX8 yX8_chooses wsX8_chooses) := goodIn_app (goodIn_of _ (by decide +kernel)) ggX8_detOf_X8_chooses
set_option maxRecDepth 20000 in
theorem ggX8_detOf_X8_width : GoodIn wsX8_detOf wsX8_width := goodIn_r _ [17, 13, 55, 56, 57, 58, 59, 60, 61, 62, 63, 64, 65, 66, 67, 68, 69, 70, 71, 72, 73, 74, 75, 76, 77, 78] (by decide +kernel) (by decide +kernel)
set_option maxRecDepth 20000 in
theorem gX8_detOf_X8_width : GoodIn wsX8_detOf (wsV RX8 73 RX8 yX8_width wsX8_width) := goodIn_app (goodIn_of _ (by decide +kernel)) ggX8_detOf_X8_width
set_option maxRecDepth 20000 in
theorem ggX8_detOf_X8_refuses : GoodIn wsX8_detOf wsX8_refuses := goodIn_r _ [21, 22, 55, 56, 57, 58, 59, 60, 61, 62, 63, 64, 65, 66, 67, 68, 69, 70, 71, 72, 73, 74, 75, 76, 77, 78] (by decide +kernel) (by decide +kernel)
set_option maxRecDepth 20000 in
theorem gX8_detOf_X8_refuses : GoodIn wsX8_detOf (wsV RX8 101 RX8 yX8_refuses wsX8_refuses) := goodIn_app (goodIn_of _ (by decide +kernel)) ggX8_detOf_X8_refuses
set_option maxRecDepth 20000 in
theorem ggX8_detOf_X8_determines : GoodIn wsX8_detOf wsX8_determines := goodIn_r _ [26, 2, 27, 28, 29, 6, 30, 31, 32, 33, 34, 35, 8, 1, 36, 37, 38, 39, 40, 13, 41, 42, 43, 44, 45, 46, 47, 48, 49, 50, 51, 55, 56, 57, 58, 59, 60, 61, 62, 63, 64, 65, 66, 67, 68, 69, 70, 71, 72, 73, 74, 75, 76, 77, 78] (by decide +kernel) (by decide +kernel)
set_option maxRecDepth 20000 in
theorem gX8_detOf_X8_determines : GoodIn wsX8_detOf (wsV RX8 244 RX8 yX8_determines wsX8_determines) := goodIn_app (goodIn_of _ (by decide +kernel)) ggX8_detOf_X8_determines
set_option maxRecDepth 20000 in
theorem ggX8_detOf_X8_degreeOf : GoodIn wsX8_detOf wsX8_degreeOf := goodIn_r _ [54] (by decide +kernel) (by decide +kernel)
set_option maxRecDepth 20000 in
theorem gX8_detOf_X8_degreeOf : GoodIn wsX8_detOf (va_wsS RX8 247 yX8_degreeOf wsX8_degreeOf) := goodIn_app (goodIn_of _ (by decide +kernel)) ggX8_detOf_X8_degreeOf
theorem dX8_detOf_0 : decode cX8_detOf 0 = .ok (.aload_n 0, 1) := by decide +kernel
theorem dX8_detOf_1 : decode cX8_detOf 1 = .ok (.iload_n 1, 1) := by decide +kernel
theorem dX8_detOf_2 : decode cX8_detOf 2 = .ok (.invokevirtual 241, 3) := by decide +kernel
theorem dX8_detOf_5 : decode cX8_detOf 5 = .ok (.istore_n 3, 1) := by decide +kernel
theorem dX8_detOf_6 : decode cX8_detOf 6 = .ok (.iload_n 3, 1) := by decide +kernel
theorem dX8_detOf_7 : decode cX8_detOf 7 = .ok (.aload_n 0, 1) := by decide +kernel
theorem dX8_detOf_8 : decode cX8_detOf 8 = .ok (.invokevirtual 73, 3) := by decide +kernel
theorem dX8_detOf_11 : decode cX8_detOf 11 = .ok (.if_icmp .eq 10, 3) := by decide +kernel
theorem dX8_detOf_14 : decode cX8_detOf 14 = .ok (.aload_n 0, 1) := by decide +kernel
theorem dX8_detOf_15 : decode cX8_detOf 15 = .ok (.bipush (-3), 2) := by decide +kernel
theorem dX8_detOf_17 : decode cX8_detOf 17 = .ok (.invokevirtual 101, 3) := by decide +kernel
theorem dX8_detOf_20 : decode cX8_detOf 20 = .ok (.ireturn, 1) := by decide +kernel
theorem dX8_detOf_21 : decode cX8_detOf 21 = .ok (.iconst 0, 1) := by decide +kernel
theorem dX8_detOf_22 : decode cX8_detOf 22 = .ok (.istore 4, 2) := by decide +kernel
theorem dX8_detOf_24 : decode cX8_detOf 24 = .ok (.iload 4, 2) := by decide +kernel
theorem dX8_detOf_26 : decode cX8_detOf 26 = .ok (.iconst 3, 1) := by decide +kernel
theorem dX8_detOf_27 : decode cX8_detOf 27 = .ok (.if_icmp .ge 18, 3) := by decide +kernel
theorem dX8_detOf_30 : decode cX8_detOf 30 = .ok (.aload_n 0, 1) := by decide +kernel
theorem dX8_detOf_31 : decode cX8_detOf 31 = .ok (.getfield 32, 3) := by decide +kernel
theorem dX8_detOf_34 : decode cX8_detOf 34 = .ok (.iload 4, 2) := by decide +kernel
theorem dX8_detOf_36 : decode cX8_detOf 36 = .ok (.iload 4, 2) := by decide +kernel
theorem dX8_detOf_38 : decode cX8_detOf 38 = .ok (.iastore, 1) := by decide +kernel
theorem dX8_detOf_39 : decode cX8_detOf 39 = .ok (.iinc 4 1, 3) := by decide +kernel
theorem dX8_detOf_42 : decode cX8_detOf 42 = .ok (.goto (-18), 3) := by decide +kernel
theorem dX8_detOf_45 : decode cX8_detOf 45 = .ok (.aload_n 0, 1) := by decide +kernel
theorem dX8_detOf_46 : decode cX8_detOf 46 = .ok (.iload_n 3, 1) := by decide +kernel
theorem dX8_detOf_47 : decode cX8_detOf 47 = .ok (.invokevirtual 244, 3) := by decide +kernel
theorem dX8_detOf_50 : decode cX8_detOf 50 = .ok (.iload_n 2, 1) := by decide +kernel
theorem dX8_detOf_51 : decode cX8_detOf 51 = .ok (.iconst (-1), 1) := by decide +kernel
theorem dX8_detOf_52 : decode cX8_detOf 52 = .ok (.if_icmp .ne 13, 3) := by decide +kernel
theorem dX8_detOf_55 : decode cX8_detOf 55 = .ok (.aload_n 0, 1) := by decide +kernel
theorem dX8_detOf_56 : decode cX8_detOf 56 = .ok (.getfield 35, 3) := by decide +kernel
theorem dX8_detOf_59 : decode cX8_detOf 59 = .ok (.invokestatic 247, 3) := by decide +kernel
theorem dX8_detOf_62 : decode cX8_detOf 62 = .ok (.goto 9, 3) := by decide +kernel
theorem dX8_detOf_65 : decode cX8_detOf 65 = .ok (.aload_n 0, 1) := by decide +kernel
theorem dX8_detOf_66 : decode cX8_detOf 66 = .ok (.getfield 35, 3) := by decide +kernel
theorem dX8_detOf_69 : decode cX8_detOf 69 = .ok (.iload_n 2, 1) := by decide +kernel
theorem dX8_detOf_70 : decode cX8_detOf 70 = .ok (.iaload, 1) := by decide +kernel
theorem dX8_detOf_71 : decode cX8_detOf 71 = .ok (.ireturn, 1) := by decide +kernel
set_option maxRecDepth 20000 in
theorem ggX8_det_X8_isSet : GoodIn wsX8_det wsX8_isSet := goodIn_r _ [7, 8, 9, 10, 6, 11, 12, 13, 14, 15, 68, 69, 70, 71, 72, 73, 74, 75, 76, 77, 78, 79, 80, 81, 82, 83, 84, 85, 86, 87, 88, 89, 90, 91] (by decide +kernel) (by decide +kernel)
set_option maxRecDepth 20000 in
theorem gX8_det_X8_isSet : GoodIn wsX8_det (wsV RX8 202 RX8 yX8_isSet wsX8_isSet) := goodIn_app (goodIn_of _ (by decide +kernel)) ggX8_det_X8_isSet
set_option maxRecDepth 20000 in
theorem ggX8_det_X8_in : GoodIn wsX8_det wsX8_in := goodIn_r _ [15] (by decide +kernel) (by decide +kernel)
set_option maxRecDepth 20000 in
theorem gX8_det_X8_in : GoodIn wsX8_det (va_wsS RX8 69 yX8_in wsX8_in) := goodIn_app (goodIn_of _ (by decide +kernel)) ggX8_det_X8_in
set_option maxRecDepth 20000 in
theorem ggX8_det_X8_detOf : GoodIn wsX8_det wsX8_detOf := goodIn_r _ [19, 20, 21, 22, 23, 24, 6, 25, 26, 8, 9, 10, 11, 12, 27, 28, 29, 30, 31, 32, 33, 34, 35, 36, 37, 38, 39, 40, 41, 42, 43, 44, 45, 46, 47, 48, 49, 50, 51, 52, 53, 54, 55, 56, 57, 58, 59, 60, 61, 62, 63, 64, 65, 66, 67, 68, 69, 70, 71, 72, 73, 74, 75, 76, 77, 78, 79, 80, 81, 82, 83, 84, 85, 86, 87, 88, 89, 90, 91] (by decide +kernel) (by decide +kernel)
set_option maxRecDepth 20000 in
theorem gX8_det_X8_detOf : GoodIn wsX8_det (wsV RX8 255 RX8 yX8_detOf wsX8_detOf) := goodIn_app (goodIn_of _ (by decide +kernel)) ggX8_det_X8_detOf
set_option maxRecDepth 20000 in
theorem ggX8_det_X8_refuses : GoodIn wsX8_det wsX8_refuses := goodIn_r _ [34, 35, 68, 69, 70, 71, 72, 73, 74, 75, 76, 77, 78, 79, 80, 81, 82, 83, 84, 85, 86, 87, 88, 89, 90, 91] (by decide +kernel) (by decide +kernel)
set_option maxRecDepth 20000 in
theorem gX8_det_X8_refuses : GoodIn wsX8_det (wsV RX8 101 RX8 yX8_refuses wsX8_refuses) := goodIn_app (goodIn_of _ (by decide +kernel)) ggX8_det_X8_refuses
theorem dX8_det_0 : decode cX8_det 0 = .ok (.aload_n 0, 1) := by decide +kernel
theorem dX8_det_1 : decode cX8_det 1 = .ok (.iload_n 1, 1) := by decide +kernel
theorem dX8_det_2 : decode cX8_det 2 = .ok (.invokevirtual 202, 3) := by decide +kernel
theorem dX8_det_5 : decode cX8_det 5 = .ok (.ifCond .eq 26, 3) := by decide +kernel
theorem dX8_det_8 : decode cX8_det 8 = .ok (.iload_n 2, 1) := by decide +kernel
theorem dX8_det_9 : decode cX8_det 9 = .ok (.i2l, 1) := by decide +kernel
theorem dX8_det_10 : decode cX8_det 10 = .ok (.ldc2_w 251, 3) := by decide +kernel
theorem dX8_det_13 : decode cX8_det 13 = .ok (.ldc2_w 253, 3) := by decide +kernel
theorem dX8_det_16 : decode cX8_det 16 = .ok (.invokestatic 69, 3) := by decide +kernel
theorem dX8_det_19 : decode cX8_det 19 = .ok (.ifCond .eq 12, 3) := by decide +kernel
theorem dX8_det_22 : decode cX8_det 22 = .ok (.aload_n 0, 1) := by decide +kernel
theorem dX8_det_23 : decode cX8_det 23 = .ok (.iload_n 1, 1) := by decide +kernel
theorem dX8_det_24 : decode cX8_det 24 = .ok (.iload_n 2, 1) := by decide +kernel
theorem dX8_det_25 : decode cX8_det 25 = .ok (.invokevirtual 255, 3) := by decide +kernel
theorem dX8_det_28 : decode cX8_det 28 = .ok (.goto 9, 3) := by decide +kernel
theorem dX8_det_31 : decode cX8_det 31 = .ok (.aload_n 0, 1) := by decide +kernel
theorem dX8_det_32 : decode cX8_det 32 = .ok (.bipush (-2), 2) := by decide +kernel
theorem dX8_det_34 : decode cX8_det 34 = .ok (.invokevirtual 101, 3) := by decide +kernel
theorem dX8_det_37 : decode cX8_det 37 = .ok (.ireturn, 1) := by decide +kernel
set_option maxRecDepth 20000 in
theorem ggX8_choosesColumns_X8_width : GoodIn wsX8_choosesColumns wsX8_width := goodIn_r _ [8, 9, 43, 44, 45, 46, 47, 48, 49, 50, 51, 52, 53, 54, 55, 56, 57, 58, 59, 60, 61, 62, 63, 64, 65, 66] (by decide +kernel) (by decide +kernel)
set_option maxRecDepth 20000 in
theorem gX8_choosesColumns_X8_width : GoodIn wsX8_choosesColumns (wsV RX8 73 RX8 yX8_width wsX8_width) := goodIn_app (goodIn_of _ (by decide +kernel)) ggX8_choosesColumns_X8_width
set_option maxRecDepth 20000 in
theorem ggX8_choosesColumns_X8_determines : GoodIn wsX8_choosesColumns wsX8_determines := goodIn_r _ [13, 2, 14, 15, 16, 7, 17, 18, 19, 20, 21, 22, 23, 1, 24, 25, 26, 27, 28, 9, 29, 30, 31, 32, 33, 34, 35, 36, 37, 38, 39, 43, 44, 45, 46, 47, 48, 49, 50, 51, 52, 53, 54, 55, 56, 57, 58, 59, 60, 61, 62, 63, 64, 65, 66] (by decide +kernel) (by decide +kernel)
set_option maxRecDepth 20000 in
theorem gX8_choosesColumns_X8_determines : GoodIn wsX8_choosesColumns (wsV RX8 244 RX8 yX8_determines wsX8_determines) := goodIn_app (goodIn_of _ (by decide +kernel)) ggX8_choosesColumns_X8_determines
set_option maxRecDepth 20000 in
theorem ggX8_choosesColumns_X8_degreeOf : GoodIn wsX8_choosesColumns wsX8_degreeOf := goodIn_r _ [42] (by decide +kernel) (by decide +kernel)
set_option maxRecDepth 20000 in
theorem gX8_choosesColumns_X8_degreeOf : GoodIn wsX8_choosesColumns (va_wsS RX8 247 yX8_degreeOf wsX8_degreeOf) := goodIn_app (goodIn_of _ (by decide +kernel)) ggX8_choosesColumns_X8_degreeOf
theorem dX8_choosesColumns_0 : decode cX8_choosesColumns 0 = .ok (.iconst 1, 1) := by decide +kernel
theorem dX8_choosesColumns_1 : decode cX8_choosesColumns 1 = .ok (.istore_n 2, 1) := by decide +kernel
theorem dX8_choosesColumns_2 : decode cX8_choosesColumns 2 = .ok (.iload_n 2, 1) := by decide +kernel
theorem dX8_choosesColumns_3 : decode cX8_choosesColumns 3 = .ok (.bipush 8, 2) := by decide +kernel
theorem dX8_choosesColumns_5 : decode cX8_choosesColumns 5 = .ok (.if_icmp .ge 111, 3) := by decide +kernel
theorem dX8_choosesColumns_8 : decode cX8_choosesColumns 8 = .ok (.iconst 0, 1) := by decide +kernel
theorem dX8_choosesColumns_9 : decode cX8_choosesColumns 9 = .ok (.istore_n 3, 1) := by decide +kernel
theorem dX8_choosesColumns_10 : decode cX8_choosesColumns 10 = .ok (.iconst 0, 1) := by decide +kernel
theorem dX8_choosesColumns_11 : decode cX8_choosesColumns 11 = .ok (.istore 4, 2) := by decide +kernel
theorem dX8_choosesColumns_13 : decode cX8_choosesColumns 13 = .ok (.iload 4, 2) := by decide +kernel
theorem dX8_choosesColumns_15 : decode cX8_choosesColumns 15 = .ok (.aload_n 0, 1) := by decide +kernel
theorem dX8_choosesColumns_16 : decode cX8_choosesColumns 16 = .ok (.invokevirtual 73, 3) := by decide +kernel
theorem dX8_choosesColumns_19 : decode cX8_choosesColumns 19 = .ok (.if_icmp .ge 30, 3) := by decide +kernel
theorem dX8_choosesColumns_22 : decode cX8_choosesColumns 22 = .ok (.iload_n 2, 1) := by decide +kernel
theorem dX8_choosesColumns_23 : decode cX8_choosesColumns 23 = .ok (.iload 4, 2) := by decide +kernel
theorem dX8_choosesColumns_25 : decode cX8_choosesColumns 25 = .ok (.ishr, 1) := by decide +kernel
theorem dX8_choosesColumns_26 : decode cX8_choosesColumns 26 = .ok (.iconst 1, 1) := by decide +kernel
theorem dX8_choosesColumns_27 : decode cX8_choosesColumns 27 = .ok (.iand, 1) := by decide +kernel
theorem dX8_choosesColumns_28 : decode cX8_choosesColumns 28 = .ok (.iconst 1, 1) := by decide +kernel
theorem dX8_choosesColumns_29 : decode cX8_choosesColumns 29 = .ok (.if_icmp .ne 14, 3) := by decide +kernel
theorem dX8_choosesColumns_32 : decode cX8_choosesColumns 32 = .ok (.aload_n 0, 1) := by decide +kernel
theorem dX8_choosesColumns_33 : decode cX8_choosesColumns 33 = .ok (.getfield 32, 3) := by decide +kernel
theorem dX8_choosesColumns_36 : decode cX8_choosesColumns 36 = .ok (.iload_n 3, 1) := by decide +kernel
theorem dX8_choosesColumns_37 : decode cX8_choosesColumns 37 = .ok (.iload 4, 2) := by decide +kernel
theorem dX8_choosesColumns_39 : decode cX8_choosesColumns 39 = .ok (.iastore, 1) := by decide +kernel
theorem dX8_choosesColumns_40 : decode cX8_choosesColumns 40 = .ok (.iinc 3 1, 3) := by decide +kernel
theorem dX8_choosesColumns_43 : decode cX8_choosesColumns 43 = .ok (.iinc 4 1, 3) := by decide +kernel
theorem dX8_choosesColumns_46 : decode cX8_choosesColumns 46 = .ok (.goto (-33), 3) := by decide +kernel
theorem dX8_choosesColumns_49 : decode cX8_choosesColumns 49 = .ok (.iload_n 3, 1) := by decide +kernel
theorem dX8_choosesColumns_50 : decode cX8_choosesColumns 50 = .ok (.iload_n 1, 1) := by decide +kernel
theorem dX8_choosesColumns_51 : decode cX8_choosesColumns 51 = .ok (.if_icmp .ne 59, 3) := by decide +kernel
theorem dX8_choosesColumns_54 : decode cX8_choosesColumns 54 = .ok (.iload_n 2, 1) := by decide +kernel
theorem dX8_choosesColumns_55 : decode cX8_choosesColumns 55 = .ok (.iconst 1, 1) := by decide +kernel
theorem dX8_choosesColumns_56 : decode cX8_choosesColumns 56 = .ok (.aload_n 0, 1) := by decide +kernel
theorem dX8_choosesColumns_57 : decode cX8_choosesColumns 57 = .ok (.invokevirtual 73, 3) := by decide +kernel
theorem dX8_choosesColumns_60 : decode cX8_choosesColumns 60 = .ok (.ishl, 1) := by decide +kernel
theorem dX8_choosesColumns_61 : decode cX8_choosesColumns 61 = .ok (.if_icmp .ge 49, 3) := by decide +kernel
theorem dX8_choosesColumns_64 : decode cX8_choosesColumns 64 = .ok (.aload_n 0, 1) := by decide +kernel
theorem dX8_choosesColumns_65 : decode cX8_choosesColumns 65 = .ok (.iload_n 1, 1) := by decide +kernel
theorem dX8_choosesColumns_66 : decode cX8_choosesColumns 66 = .ok (.invokevirtual 244, 3) := by decide +kernel
theorem dX8_choosesColumns_69 : decode cX8_choosesColumns 69 = .ok (.aload_n 0, 1) := by decide +kernel
theorem dX8_choosesColumns_70 : decode cX8_choosesColumns 70 = .ok (.getfield 35, 3) := by decide +kernel
theorem dX8_choosesColumns_73 : decode cX8_choosesColumns 73 = .ok (.invokestatic 247, 3) := by decide +kernel
theorem dX8_choosesColumns_76 : decode cX8_choosesColumns 76 = .ok (.ifCond .lt 34, 3) := by decide +kernel
theorem dX8_choosesColumns_79 : decode cX8_choosesColumns 79 = .ok (.iconst 0, 1) := by decide +kernel
theorem dX8_choosesColumns_80 : decode cX8_choosesColumns 80 = .ok (.istore 4, 2) := by decide +kernel
theorem dX8_choosesColumns_82 : decode cX8_choosesColumns 82 = .ok (.iload 4, 2) := by decide +kernel
theorem dX8_choosesColumns_84 : decode cX8_choosesColumns 84 = .ok (.bipush 25, 2) := by decide +kernel
theorem dX8_choosesColumns_86 : decode cX8_choosesColumns 86 = .ok (.if_icmp .ge 23, 3) := by decide +kernel
theorem dX8_choosesColumns_89 : decode cX8_choosesColumns 89 = .ok (.aload_n 0, 1) := by decide +kernel
theorem dX8_choosesColumns_90 : decode cX8_choosesColumns 90 = .ok (.getfield 44, 3) := by decide +kernel
theorem dX8_choosesColumns_93 : decode cX8_choosesColumns 93 = .ok (.iload 4, 2) := by decide +kernel
theorem dX8_choosesColumns_95 : decode cX8_choosesColumns 95 = .ok (.aload_n 0, 1) := by decide +kernel
theorem dX8_choosesColumns_96 : decode cX8_choosesColumns 96 = .ok (.getfield 35, 3) := by decide +kernel
theorem dX8_choosesColumns_99 : decode cX8_choosesColumns 99 = .ok (.iload 4, 2) := by decide +kernel
theorem dX8_choosesColumns_101 : decode cX8_choosesColumns 101 = .ok (.iaload, 1) := by decide +kernel
theorem dX8_choosesColumns_102 : decode cX8_choosesColumns 102 = .ok (.iastore, 1) := by decide +kernel
theorem dX8_choosesColumns_103 : decode cX8_choosesColumns 103 = .ok (.iinc 4 1, 3) := by decide +kernel
theorem dX8_choosesColumns_106 : decode cX8_choosesColumns 106 = .ok (.goto (-24), 3) := by decide +kernel
theorem dX8_choosesColumns_109 : decode cX8_choosesColumns 109 = .ok (.return_, 1) := by decide +kernel
theorem dX8_choosesColumns_110 : decode cX8_choosesColumns 110 = .ok (.iinc 2 1, 3) := by decide +kernel
theorem dX8_choosesColumns_113 : decode cX8_choosesColumns 113 = .ok (.goto (-111), 3) := by decide +kernel
theorem dX8_choosesColumns_116 : decode cX8_choosesColumns 116 = .ok (.return_, 1) := by decide +kernel
set_option maxRecDepth 20000 in
theorem ggX8_divides_X8_begins : GoodIn wsX8_divides wsX8_begins := goodIn_r _ [8] (by decide +kernel) (by decide +kernel)
set_option maxRecDepth 20000 in
theorem gX8_divides_X8_begins : GoodIn wsX8_divides (wsV RX8 230 RX8 yX8_begins wsX8_begins) := goodIn_app (goodIn_of _ (by decide +kernel)) ggX8_divides_X8_begins
set_option maxRecDepth 20000 in
theorem ggX8_divides_X8_degreeOf : GoodIn wsX8_divides wsX8_degreeOf := goodIn_r _ [11] (by decide +kernel) (by decide +kernel)
set_option maxRecDepth 20000 in
theorem gX8_divides_X8_degreeOf : GoodIn wsX8_divides (va_wsS RX8 247 yX8_degreeOf wsX8_degreeOf) := goodIn_app (goodIn_of _ (by decide +kernel)) ggX8_divides_X8_degreeOf
set_option maxRecDepth 20000 in
theorem ggX8_divides_X8_inverse : GoodIn wsX8_divides wsX8_inverse := goodIn_r _ [15, 16, 17, 18, 7, 19, 20, 25, 26, 27, 28, 29, 30, 31, 32, 33, 34, 35, 36, 37, 38, 39, 40, 41, 42, 43, 44, 45, 46, 47, 48] (by decide +kernel) (by decide +kernel)
set_option maxRecDepth 20000 in
theorem gX8_divides_X8_inverse : GoodIn wsX8_divides (wsV RX8 142 RX8 yX8_inverse wsX8_inverse) := goodIn_app (goodIn_of _ (by decide +kernel)) ggX8_divides_X8_inverse
set_option maxRecDepth 20000 in
theorem ggX8_divides_X8_modulus : GoodIn wsX8_divides wsX8_modulus := goodIn_r _ [19, 20, 25, 26, 27, 28, 29, 30, 31, 32, 33, 34, 35, 36, 37, 38, 39, 40, 41, 42, 43, 44, 45, 46, 47, 48] (by decide +kernel) (by decide +kernel)
set_option maxRecDepth 20000 in
theorem gX8_divides_X8_modulus : GoodIn wsX8_divides (wsV RX8 76 RX8 yX8_modulus wsX8_modulus) := goodIn_app (goodIn_of _ (by decide +kernel)) ggX8_divides_X8_modulus
set_option maxRecDepth 20000 in
theorem ggX8_divides_X8_left : GoodIn wsX8_divides wsX8_left := goodIn_r _ [24, 16, 17, 18, 7, 19, 20, 25, 26, 27, 28, 29, 30, 31, 32, 33, 34, 35, 36, 37, 38, 39, 40, 41, 42, 43, 44, 45, 46, 47, 48] (by decide +kernel) (by decide +kernel)
set_option maxRecDepth 20000 in
theorem gX8_divides_X8_left : GoodIn wsX8_divides (wsV RX8 126 RX8 yX8_left wsX8_left) := goodIn_app (goodIn_of _ (by decide +kernel)) ggX8_divides_X8_left
theorem dX8_divides_0 : decode cX8_divides 0 = .ok (.aload_n 0, 1) := by decide +kernel
theorem dX8_divides_1 : decode cX8_divides 1 = .ok (.aload_n 0, 1) := by decide +kernel
theorem dX8_divides_2 : decode cX8_divides 2 = .ok (.getfield 47, 3) := by decide +kernel
theorem dX8_divides_5 : decode cX8_divides 5 = .ok (.invokevirtual 230, 3) := by decide +kernel
theorem dX8_divides_8 : decode cX8_divides 8 = .ok (.aload_n 0, 1) := by decide +kernel
theorem dX8_divides_9 : decode cX8_divides 9 = .ok (.getfield 44, 3) := by decide +kernel
theorem dX8_divides_12 : decode cX8_divides 12 = .ok (.invokestatic 247, 3) := by decide +kernel
theorem dX8_divides_15 : decode cX8_divides 15 = .ok (.istore_n 1, 1) := by decide +kernel
theorem dX8_divides_16 : decode cX8_divides 16 = .ok (.aload_n 0, 1) := by decide +kernel
theorem dX8_divides_17 : decode cX8_divides 17 = .ok (.aload_n 0, 1) := by decide +kernel
theorem dX8_divides_18 : decode cX8_divides 18 = .ok (.getfield 44, 3) := by decide +kernel
theorem dX8_divides_21 : decode cX8_divides 21 = .ok (.iload_n 1, 1) := by decide +kernel
theorem dX8_divides_22 : decode cX8_divides 22 = .ok (.iaload, 1) := by decide +kernel
theorem dX8_divides_23 : decode cX8_divides 23 = .ok (.invokevirtual 142, 3) := by decide +kernel
theorem dX8_divides_26 : decode cX8_divides 26 = .ok (.istore_n 2, 1) := by decide +kernel
theorem dX8_divides_27 : decode cX8_divides 27 = .ok (.aload_n 0, 1) := by decide +kernel
theorem dX8_divides_28 : decode cX8_divides 28 = .ok (.getfield 35, 3) := by decide +kernel
theorem dX8_divides_31 : decode cX8_divides 31 = .ok (.invokestatic 247, 3) := by decide +kernel
theorem dX8_divides_34 : decode cX8_divides 34 = .ok (.istore_n 3, 1) := by decide +kernel
theorem dX8_divides_35 : decode cX8_divides 35 = .ok (.iload_n 3, 1) := by decide +kernel
theorem dX8_divides_36 : decode cX8_divides 36 = .ok (.iload_n 1, 1) := by decide +kernel
theorem dX8_divides_37 : decode cX8_divides 37 = .ok (.if_icmp .lt 91, 3) := by decide +kernel
theorem dX8_divides_40 : decode cX8_divides 40 = .ok (.aload_n 0, 1) := by decide +kernel
theorem dX8_divides_41 : decode cX8_divides 41 = .ok (.getfield 35, 3) := by decide +kernel
theorem dX8_divides_44 : decode cX8_divides 44 = .ok (.iload_n 3, 1) := by decide +kernel
theorem dX8_divides_45 : decode cX8_divides 45 = .ok (.iaload, 1) := by decide +kernel
theorem dX8_divides_46 : decode cX8_divides 46 = .ok (.iload_n 2, 1) := by decide +kernel
theorem dX8_divides_47 : decode cX8_divides 47 = .ok (.imul, 1) := by decide +kernel
theorem dX8_divides_48 : decode cX8_divides 48 = .ok (.aload_n 0, 1) := by decide +kernel
theorem dX8_divides_49 : decode cX8_divides 49 = .ok (.invokevirtual 76, 3) := by decide +kernel
theorem dX8_divides_52 : decode cX8_divides 52 = .ok (.irem, 1) := by decide +kernel
theorem dX8_divides_53 : decode cX8_divides 53 = .ok (.istore 4, 2) := by decide +kernel
theorem dX8_divides_55 : decode cX8_divides 55 = .ok (.aload_n 0, 1) := by decide +kernel
theorem dX8_divides_56 : decode cX8_divides 56 = .ok (.getfield 47, 3) := by decide +kernel
theorem dX8_divides_59 : decode cX8_divides 59 = .ok (.iload_n 3, 1) := by decide +kernel
theorem dX8_divides_60 : decode cX8_divides 60 = .ok (.iload_n 1, 1) := by decide +kernel
theorem dX8_divides_61 : decode cX8_divides 61 = .ok (.isub, 1) := by decide +kernel
theorem dX8_divides_62 : decode cX8_divides 62 = .ok (.iload 4, 2) := by decide +kernel
theorem dX8_divides_64 : decode cX8_divides 64 = .ok (.iastore, 1) := by decide +kernel
theorem dX8_divides_65 : decode cX8_divides 65 = .ok (.iconst 0, 1) := by decide +kernel
theorem dX8_divides_66 : decode cX8_divides 66 = .ok (.istore 5, 2) := by decide +kernel
theorem dX8_divides_68 : decode cX8_divides 68 = .ok (.iload 5, 2) := by decide +kernel
theorem dX8_divides_70 : decode cX8_divides 70 = .ok (.iload_n 1, 1) := by decide +kernel
theorem dX8_divides_71 : decode cX8_divides 71 = .ok (.if_icmp .gt 46, 3) := by decide +kernel
theorem dX8_divides_74 : decode cX8_divides 74 = .ok (.aload_n 0, 1) := by decide +kernel
theorem dX8_divides_75 : decode cX8_divides 75 = .ok (.getfield 35, 3) := by decide +kernel
theorem dX8_divides_78 : decode cX8_divides 78 = .ok (.iload_n 3, 1) := by decide +kernel
theorem dX8_divides_79 : decode cX8_divides 79 = .ok (.iload_n 1, 1) := by decide +kernel
theorem dX8_divides_80 : decode cX8_divides 80 = .ok (.isub, 1) := by decide +kernel
theorem dX8_divides_81 : decode cX8_divides 81 = .ok (.iload 5, 2) := by decide +kernel
theorem dX8_divides_83 : decode cX8_divides 83 = .ok (.iadd, 1) := by decide +kernel
theorem dX8_divides_84 : decode cX8_divides 84 = .ok (.aload_n 0, 1) := by decide +kernel
theorem dX8_divides_85 : decode cX8_divides 85 = .ok (.aload_n 0, 1) := by decide +kernel
theorem dX8_divides_86 : decode cX8_divides 86 = .ok (.getfield 35, 3) := by decide +kernel
theorem dX8_divides_89 : decode cX8_divides 89 = .ok (.iload_n 3, 1) := by decide +kernel
theorem dX8_divides_90 : decode cX8_divides 90 = .ok (.iload_n 1, 1) := by decide +kernel
theorem dX8_divides_91 : decode cX8_divides 91 = .ok (.isub, 1) := by decide +kernel
theorem dX8_divides_92 : decode cX8_divides 92 = .ok (.iload 5, 2) := by decide +kernel
theorem dX8_divides_94 : decode cX8_divides 94 = .ok (.iadd, 1) := by decide +kernel
theorem dX8_divides_95 : decode cX8_divides 95 = .ok (.iaload, 1) := by decide +kernel
theorem dX8_divides_96 : decode cX8_divides 96 = .ok (.iload 4, 2) := by decide +kernel
theorem dX8_divides_98 : decode cX8_divides 98 = .ok (.aload_n 0, 1) := by decide +kernel
theorem dX8_divides_99 : decode cX8_divides 99 = .ok (.getfield 44, 3) := by decide +kernel
theorem dX8_divides_102 : decode cX8_divides 102 = .ok (.iload 5, 2) := by decide +kernel
theorem dX8_divides_104 : decode cX8_divides 104 = .ok (.iaload, 1) := by decide +kernel
theorem dX8_divides_105 : decode cX8_divides 105 = .ok (.imul, 1) := by decide +kernel
theorem dX8_divides_106 : decode cX8_divides 106 = .ok (.isub, 1) := by decide +kernel
theorem dX8_divides_107 : decode cX8_divides 107 = .ok (.invokevirtual 126, 3) := by decide +kernel
theorem dX8_divides_110 : decode cX8_divides 110 = .ok (.iastore, 1) := by decide +kernel
theorem dX8_divides_111 : decode cX8_divides 111 = .ok (.iinc 5 1, 3) := by decide +kernel
theorem dX8_divides_114 : decode cX8_divides 114 = .ok (.goto (-46), 3) := by decide +kernel
theorem dX8_divides_117 : decode cX8_divides 117 = .ok (.aload_n 0, 1) := by decide +kernel
theorem dX8_divides_118 : decode cX8_divides 118 = .ok (.getfield 35, 3) := by decide +kernel
theorem dX8_divides_121 : decode cX8_divides 121 = .ok (.invokestatic 247, 3) := by decide +kernel
theorem dX8_divides_124 : decode cX8_divides 124 = .ok (.istore_n 3, 1) := by decide +kernel
theorem dX8_divides_125 : decode cX8_divides 125 = .ok (.goto (-90), 3) := by decide +kernel
theorem dX8_divides_128 : decode cX8_divides 128 = .ok (.return_, 1) := by decide +kernel
set_option maxRecDepth 20000 in
theorem ggX8_factorOf_X8_chooses : GoodIn wsX8_factorOf wsX8_chooses := goodIn_r _ [8, 2, 9, 10, 11, 7, 12, 13, 123, 124, 125, 126, 127, 128, 129, 130, 131, 132, 133, 134, 135, 136, 137, 138, 139, 140, 141, 142, 143, 144, 145, 146] (by decide +kernel) (by decide +kernel)
set_option maxRecDepth 20000 in
theorem gX8_factorOf_X8_chooses : GoodIn wsX8_factorOf (wsV RX8 241 RX8 yX8_chooses wsX8_chooses) := goodIn_app (goodIn_of _ (by decide +kernel)) ggX8_factorOf_X8_chooses
set_option maxRecDepth 20000 in
theorem ggX8_factorOf_X8_isMade : GoodIn wsX8_factorOf wsX8_isMade := goodIn_r _ [17, 1, 18, 19, 20, 7, 21, 22, 23, 24, 25, 26, 27, 28, 29, 30, 13, 9, 10, 11, 12, 31, 32, 33, 34, 35, 36, 37, 38, 39, 40, 41, 42, 43, 44, 45, 46, 47, 48, 49, 50, 51, 52, 53, 54, 55, 56, 57, 58, 59, 60, 61, 62, 63, 64, 65, 66, 67, 68, 69, 70, 71, 72, 73, 74, 75, 76, 77, 78, 79, 80, 81, 82, 83, 84, 85, 123, 124, 125, 126, 127, 128, 129, 130, 131, 132, 133, 134, 135, 136, 137, 138, 139, 140, 141, 142, 143, 144, 145, 146] (by decide +kernel) (by decide +kernel)
set_option maxRecDepth 20000 in
theorem gX8_factorOf_X8_isMade : GoodIn wsX8_factorOf (wsV RX8 227 RX8 yX8_isMade wsX8_isMade) := goodIn_app (goodIn_of _ (by decide +kernel)) ggX8_factorOf_X8_isMade
set_option maxRecDepth 20000 in
theorem ggX8_factorOf_X8_refuses : GoodIn wsX8_factorOf wsX8_refuses := goodIn_r _ [89, 90, 123, 124, 125, 126, 127, 128, 129, 130, 131, 132, 133, 134, 135, 136, 137, 138, 139, 140, 141, 142, 143, 144, 145, 146] (by decide +kernel) (by decide +kernel)
set_option maxRecDepth 20000 in
theorem gX8_factorOf_X8_refuses : GoodIn wsX8_factorOf (wsV RX8 101 RX8 yX8_refuses wsX8_refuses) := goodIn_app (goodIn_of _ (by decide +kernel)) ggX8_factorOf_X8_refuses
set_option maxRecDepth 20000 in
theorem ggX8_factorOf_X8_choosesColumns : GoodIn wsX8_factorOf wsX8_choosesColumns := goodIn_r _ [94, 95, 96, 97, 27, 28, 29, 7, 30, 13, 98, 99, 100, 101, 102, 103, 104, 105, 106, 107, 108, 109, 110, 2, 111, 112, 113, 114, 115, 39, 40, 41, 70, 71, 72, 73, 74, 75, 76, 77, 116, 117, 118, 123, 124, 125, 126, 127, 128, 129, 130, 131, 132, 133, 134, 135, 136, 137, 138, 139, 140, 141, 142, 143, 144, 145, 146] (by decide +kernel) (by decide +kernel)
set_option maxRecDepth 20000 in
theorem gX8_factorOf_X8_choosesColumns : GoodIn wsX8_factorOf (wsV RX8 258 RX8 yX8_choosesColumns wsX8_choosesColumns) := goodIn_app (goodIn_of _ (by decide +kernel)) ggX8_factorOf_X8_choosesColumns
set_option maxRecDepth 20000 in
theorem ggX8_factorOf_X8_determines : GoodIn wsX8_factorOf wsX8_determines := goodIn_r _ [101, 96, 102, 103, 104, 7, 105, 106, 107, 108, 109, 110, 2, 95, 111, 112, 113, 114, 115, 13, 39, 40, 41, 70, 71, 72, 73, 74, 75, 76, 77, 123, 124, 125, 126, 127, 128, 129, 130, 131, 132, 133, 134, 135, 136, 137, 138, 139, 140, 141, 142, 143, 144, 145, 146] (by decide +kernel) (by decide +kernel)
set_option maxRecDepth 20000 in
theorem gX8_factorOf_X8_determines : GoodIn wsX8_factorOf (wsV RX8 244 RX8 yX8_determines wsX8_determines) := goodIn_app (goodIn_of _ (by decide +kernel)) ggX8_factorOf_X8_determines
set_option maxRecDepth 20000 in
theorem ggX8_factorOf_X8_divides : GoodIn wsX8_factorOf wsX8_divides := goodIn_r _ [122, 3, 97, 96, 102, 103, 104, 7, 105, 116, 117, 118, 66, 67, 68, 69, 70, 71, 72, 73, 13, 74, 75, 76, 77, 123, 124, 125, 126, 127, 128, 129, 130, 131, 132, 133, 134, 135, 136, 137, 138, 139, 140, 141, 142, 143, 144, 145, 146] (by decide +kernel) (by decide +kernel)
set_option maxRecDepth 20000 in
theorem gX8_factorOf_X8_divides : GoodIn wsX8_factorOf (wsV RX8 261 RX8 yX8_divides wsX8_divides) := goodIn_app (goodIn_of _ (by decide +kernel)) ggX8_factorOf_X8_divides
theorem dX8_factorOf_0 : decode cX8_factorOf 0 = .ok (.aload_n 0, 1) := by decide +kernel
theorem dX8_factorOf_1 : decode cX8_factorOf 1 = .ok (.iload_n 2, 1) := by decide +kernel
theorem dX8_factorOf_2 : decode cX8_factorOf 2 = .ok (.invokevirtual 241, 3) := by decide +kernel
theorem dX8_factorOf_5 : decode cX8_factorOf 5 = .ok (.istore 5, 2) := by decide +kernel
theorem dX8_factorOf_7 : decode cX8_factorOf 7 = .ok (.aload_n 0, 1) := by decide +kernel
theorem dX8_factorOf_8 : decode cX8_factorOf 8 = .ok (.iload_n 1, 1) := by decide +kernel
theorem dX8_factorOf_9 : decode cX8_factorOf 9 = .ok (.iload_n 2, 1) := by decide +kernel
theorem dX8_factorOf_10 : decode cX8_factorOf 10 = .ok (.invokevirtual 227, 3) := by decide +kernel
theorem dX8_factorOf_13 : decode cX8_factorOf 13 = .ok (.ifCond .eq 12, 3) := by decide +kernel
theorem dX8_factorOf_16 : decode cX8_factorOf 16 = .ok (.aload_n 0, 1) := by decide +kernel
theorem dX8_factorOf_17 : decode cX8_factorOf 17 = .ok (.getfield 178, 3) := by decide +kernel
theorem dX8_factorOf_20 : decode cX8_factorOf 20 = .ok (.iload 5, 2) := by decide +kernel
theorem dX8_factorOf_22 : decode cX8_factorOf 22 = .ok (.if_icmp .eq 10, 3) := by decide +kernel
theorem dX8_factorOf_25 : decode cX8_factorOf 25 = .ok (.aload_n 0, 1) := by decide +kernel
theorem dX8_factorOf_26 : decode cX8_factorOf 26 = .ok (.bipush (-3), 2) := by decide +kernel
theorem dX8_factorOf_28 : decode cX8_factorOf 28 = .ok (.invokevirtual 101, 3) := by decide +kernel
theorem dX8_factorOf_31 : decode cX8_factorOf 31 = .ok (.ireturn, 1) := by decide +kernel
theorem dX8_factorOf_32 : decode cX8_factorOf 32 = .ok (.aload_n 0, 1) := by decide +kernel
theorem dX8_factorOf_33 : decode cX8_factorOf 33 = .ok (.iload 5, 2) := by decide +kernel
theorem dX8_factorOf_35 : decode cX8_factorOf 35 = .ok (.invokevirtual 258, 3) := by decide +kernel
theorem dX8_factorOf_38 : decode cX8_factorOf 38 = .ok (.iconst 0, 1) := by decide +kernel
theorem dX8_factorOf_39 : decode cX8_factorOf 39 = .ok (.istore 6, 2) := by decide +kernel
theorem dX8_factorOf_41 : decode cX8_factorOf 41 = .ok (.iload 6, 2) := by decide +kernel
theorem dX8_factorOf_43 : decode cX8_factorOf 43 = .ok (.iload 5, 2) := by decide +kernel
theorem dX8_factorOf_45 : decode cX8_factorOf 45 = .ok (.if_icmp .ge 38, 3) := by decide +kernel
theorem dX8_factorOf_48 : decode cX8_factorOf 48 = .ok (.aload_n 0, 1) := by decide +kernel
theorem dX8_factorOf_49 : decode cX8_factorOf 49 = .ok (.getfield 29, 3) := by decide +kernel
theorem dX8_factorOf_52 : decode cX8_factorOf 52 = .ok (.iload 6, 2) := by decide +kernel
theorem dX8_factorOf_54 : decode cX8_factorOf 54 = .ok (.aload_n 0, 1) := by decide +kernel
theorem dX8_factorOf_55 : decode cX8_factorOf 55 = .ok (.getfield 29, 3) := by decide +kernel
theorem dX8_factorOf_58 : decode cX8_factorOf 58 = .ok (.iload 6, 2) := by decide +kernel
theorem dX8_factorOf_60 : decode cX8_factorOf 60 = .ok (.iaload, 1) := by decide +kernel
theorem dX8_factorOf_61 : decode cX8_factorOf 61 = .ok (.iload_n 3, 1) := by decide +kernel
theorem dX8_factorOf_62 : decode cX8_factorOf 62 = .ok (.if_icmp .ne 7, 3) := by decide +kernel
theorem dX8_factorOf_65 : decode cX8_factorOf 65 = .ok (.iload_n 1, 1) := by decide +kernel
theorem dX8_factorOf_66 : decode cX8_factorOf 66 = .ok (.goto 10, 3) := by decide +kernel
theorem dX8_factorOf_69 : decode cX8_factorOf 69 = .ok (.aload_n 0, 1) := by decide +kernel
theorem dX8_factorOf_70 : decode cX8_factorOf 70 = .ok (.getfield 29, 3) := by decide +kernel
theorem dX8_factorOf_73 : decode cX8_factorOf 73 = .ok (.iload 6, 2) := by decide +kernel
theorem dX8_factorOf_75 : decode cX8_factorOf 75 = .ok (.iaload, 1) := by decide +kernel
theorem dX8_factorOf_76 : decode cX8_factorOf 76 = .ok (.iastore, 1) := by decide +kernel
theorem dX8_factorOf_77 : decode cX8_factorOf 77 = .ok (.iinc 6 1, 3) := by decide +kernel
theorem dX8_factorOf_80 : decode cX8_factorOf 80 = .ok (.goto (-39), 3) := by decide +kernel
theorem dX8_factorOf_83 : decode cX8_factorOf 83 = .ok (.aload_n 0, 1) := by decide +kernel
theorem dX8_factorOf_84 : decode cX8_factorOf 84 = .ok (.iload 5, 2) := by decide +kernel
theorem dX8_factorOf_86 : decode cX8_factorOf 86 = .ok (.invokevirtual 244, 3) := by decide +kernel
theorem dX8_factorOf_89 : decode cX8_factorOf 89 = .ok (.aload_n 0, 1) := by decide +kernel
theorem dX8_factorOf_90 : decode cX8_factorOf 90 = .ok (.invokevirtual 261, 3) := by decide +kernel
theorem dX8_factorOf_93 : decode cX8_factorOf 93 = .ok (.aload_n 0, 1) := by decide +kernel
theorem dX8_factorOf_94 : decode cX8_factorOf 94 = .ok (.getfield 47, 3) := by decide +kernel
theorem dX8_factorOf_97 : decode cX8_factorOf 97 = .ok (.iload 4, 2) := by decide +kernel
theorem dX8_factorOf_99 : decode cX8_factorOf 99 = .ok (.iaload, 1) := by decide +kernel
theorem dX8_factorOf_100 : decode cX8_factorOf 100 = .ok (.ireturn, 1) := by decide +kernel
set_option maxRecDepth 20000 in
theorem ggX8_factor_X8_isWith : GoodIn wsX8_factor wsX8_isWith := goodIn_r _ [6, 7, 8, 9, 5, 10, 11, 12, 13, 14, 15, 16, 17, 18, 19, 20, 21, 22, 143, 144, 145, 146, 147, 148, 149, 150, 151, 152, 153, 154, 155, 156, 157, 158, 159, 160, 161, 162, 163, 164, 165, 166] (by decide +kernel) (by decide +kernel)
set_option maxRecDepth 20000 in
theorem gX8_factor_X8_isWith : GoodIn wsX8_factor (wsV RX8 220 RX8 yX8_isWith wsX8_isWith) := goodIn_app (goodIn_of _ (by decide +kernel)) ggX8_factor_X8_isWith
set_option maxRecDepth 20000 in
theorem ggX8_factor_X8_isRow : GoodIn wsX8_factor wsX8_isRow := goodIn_r _ [10, 11, 12, 13, 5, 14, 15, 16, 17, 18, 143, 144, 145, 146, 147, 148, 149, 150, 151, 152, 153, 154, 155, 156, 157, 158, 159, 160, 161, 162, 163, 164, 165, 166] (by decide +kernel) (by decide +kernel)
set_option maxRecDepth 20000 in
theorem gX8_factor_X8_isRow : GoodIn wsX8_factor (wsV RX8 118 RX8 yX8_isRow wsX8_isRow) := goodIn_app (goodIn_of _ (by decide +kernel)) ggX8_factor_X8_isRow
set_option maxRecDepth 20000 in
theorem ggX8_factor_X8_in : GoodIn wsX8_factor wsX8_in := goodIn_r _ [18] (by decide +kernel) (by decide +kernel)
set_option maxRecDepth 20000 in
theorem gX8_factor_X8_in : GoodIn wsX8_factor (va_wsS RX8 69 yX8_in wsX8_in) := goodIn_app (goodIn_of _ (by decide +kernel)) ggX8_factor_X8_in
set_option maxRecDepth 20000 in
theorem ggX8_factor_X8_factorOf : GoodIn wsX8_factor wsX8_factorOf := goodIn_r _ [26, 27, 28, 29, 30, 31, 32, 5, 33, 11, 12, 13, 14, 15, 34, 35, 36, 37, 38, 39, 40, 41, 42, 43, 44, 45, 46, 47, 48, 49, 50, 51, 52, 53, 54, 55, 56, 57, 58, 59, 60, 61, 62, 63, 64, 65, 66, 67, 68, 69, 70, 71, 72, 73, 74, 75, 76, 77, 78, 79, 80, 81, 82, 83, 84, 85, 86, 87, 88, 89, 90, 91, 92, 93, 94, 95, 96, 97, 98, 99, 100, 101, 102, 103, 104, 105, 106, 107, 108, 109, 110, 111, 112, 113, 114, 115, 116, 117, 118, 119, 120, 121, 122, 123, 124, 125, 126, 127, 128, 129, 130, 131, 132, 133, 134, 135, 136, 137, 138, 139, 140, 141, 142, 143, 144, 145, 146, 147, 148, 149, 150, 151, 152, 153, 154, 155, 156, 157, 158, 159, 160, 161, 162, 163, 164, 165, 166] (by decide +kernel) (by decide +kernel)
set_option maxRecDepth 20000 in
theorem gX8_factor_X8_factorOf : GoodIn wsX8_factor (wsV RX8 266 RX8 yX8_factorOf wsX8_factorOf) := goodIn_app (goodIn_of _ (by decide +kernel)) ggX8_factor_X8_factorOf
set_option maxRecDepth 20000 in
theorem ggX8_factor_X8_refuses : GoodIn wsX8_factor wsX8_refuses := goodIn_r _ [109, 110, 143, 144, 145, 146, 147, 148, 149, 150, 151, 152, 153, 154, 155, 156, 157, 158, 159, 160, 161, 162, 163, 164, 165, 166] (by decide +kernel) (by decide +kernel)
set_option maxRecDepth 20000 in
theorem gX8_factor_X8_refuses : GoodIn wsX8_factor (wsV RX8 101 RX8 yX8_refuses wsX8_refuses) := goodIn_app (goodIn_of _ (by decide +kernel)) ggX8_factor_X8_refuses
theorem dX8_factor_0 : decode cX8_factor 0 = .ok (.aload_n 0, 1) := by decide +kernel
theorem dX8_factor_1 : decode cX8_factor 1 = .ok (.iload_n 1, 1) := by decide +kernel
theorem dX8_factor_2 : decode cX8_factor 2 = .ok (.iload_n 2, 1) := by decide +kernel
theorem dX8_factor_3 : decode cX8_factor 3 = .ok (.invokevirtual 220, 3) := by decide +kernel
theorem dX8_factor_6 : decode cX8_factor 6 = .ok (.ifCond .eq 24, 3) := by decide +kernel
theorem dX8_factor_9 : decode cX8_factor 9 = .ok (.aload_n 0, 1) := by decide +kernel
theorem dX8_factor_10 : decode cX8_factor 10 = .ok (.iload_n 3, 1) := by decide +kernel
theorem dX8_factor_11 : decode cX8_factor 11 = .ok (.invokevirtual 118, 3) := by decide +kernel
theorem dX8_factor_14 : decode cX8_factor 14 = .ok (.ifCond .eq 16, 3) := by decide +kernel
theorem dX8_factor_17 : decode cX8_factor 17 = .ok (.iload_n 2, 1) := by decide +kernel
theorem dX8_factor_18 : decode cX8_factor 18 = .ok (.iload_n 3, 1) := by decide +kernel
theorem dX8_factor_19 : decode cX8_factor 19 = .ok (.ishr, 1) := by decide +kernel
theorem dX8_factor_20 : decode cX8_factor 20 = .ok (.iconst 1, 1) := by decide +kernel
theorem dX8_factor_21 : decode cX8_factor 21 = .ok (.iand, 1) := by decide +kernel
theorem dX8_factor_22 : decode cX8_factor 22 = .ok (.iconst 1, 1) := by decide +kernel
theorem dX8_factor_23 : decode cX8_factor 23 = .ok (.if_icmp .ne 7, 3) := by decide +kernel
theorem dX8_factor_26 : decode cX8_factor 26 = .ok (.iconst 1, 1) := by decide +kernel
theorem dX8_factor_27 : decode cX8_factor 27 = .ok (.goto 4, 3) := by decide +kernel
theorem dX8_factor_30 : decode cX8_factor 30 = .ok (.iconst 0, 1) := by decide +kernel
theorem dX8_factor_31 : decode cX8_factor 31 = .ok (.istore 5, 2) := by decide +kernel
theorem dX8_factor_33 : decode cX8_factor 33 = .ok (.iload 5, 2) := by decide +kernel
theorem dX8_factor_35 : decode cX8_factor 35 = .ok (.ifCond .eq 28, 3) := by decide +kernel
theorem dX8_factor_38 : decode cX8_factor 38 = .ok (.iload 4, 2) := by decide +kernel
theorem dX8_factor_40 : decode cX8_factor 40 = .ok (.i2l, 1) := by decide +kernel
theorem dX8_factor_41 : decode cX8_factor 41 = .ok (.lconst 0, 1) := by decide +kernel
theorem dX8_factor_42 : decode cX8_factor 42 = .ok (.ldc2_w 264, 3) := by decide +kernel
theorem dX8_factor_45 : decode cX8_factor 45 = .ok (.invokestatic 69, 3) := by decide +kernel
theorem dX8_factor_48 : decode cX8_factor 48 = .ok (.ifCond .eq 15, 3) := by decide +kernel
theorem dX8_factor_51 : decode cX8_factor 51 = .ok (.aload_n 0, 1) := by decide +kernel
theorem dX8_factor_52 : decode cX8_factor 52 = .ok (.iload_n 1, 1) := by decide +kernel
theorem dX8_factor_53 : decode cX8_factor 53 = .ok (.iload_n 2, 1) := by decide +kernel
theorem dX8_factor_54 : decode cX8_factor 54 = .ok (.iload_n 3, 1) := by decide +kernel
theorem dX8_factor_55 : decode cX8_factor 55 = .ok (.iload 4, 2) := by decide +kernel
theorem dX8_factor_57 : decode cX8_factor 57 = .ok (.invokevirtual 266, 3) := by decide +kernel
theorem dX8_factor_60 : decode cX8_factor 60 = .ok (.goto 9, 3) := by decide +kernel
theorem dX8_factor_63 : decode cX8_factor 63 = .ok (.aload_n 0, 1) := by decide +kernel
theorem dX8_factor_64 : decode cX8_factor 64 = .ok (.bipush (-2), 2) := by decide +kernel
theorem dX8_factor_66 : decode cX8_factor 66 = .ok (.invokevirtual 101, 3) := by decide +kernel
theorem dX8_factor_69 : decode cX8_factor 69 = .ok (.ireturn, 1) := by decide +kernel
set_option maxRecDepth 20000 in
theorem ggX8_quotientOf_X8_cell : GoodIn wsX8_quotientOf wsX8_cell := goodIn_r _ [8] (by decide +kernel) (by decide +kernel)
set_option maxRecDepth 20000 in
theorem gX8_quotientOf_X8_cell : GoodIn wsX8_quotientOf (va_wsS RX8 159 yX8_cell wsX8_cell) := goodIn_app (goodIn_of _ (by decide +kernel)) ggX8_quotientOf_X8_cell
set_option maxRecDepth 20000 in
theorem ggX8_quotientOf_X8_place : GoodIn wsX8_quotientOf wsX8_place := goodIn_r _ [11] (by decide +kernel) (by decide +kernel)
set_option maxRecDepth 20000 in
theorem gX8_quotientOf_X8_place : GoodIn wsX8_quotientOf (va_wsS RX8 79 yX8_place wsX8_place) := goodIn_app (goodIn_of _ (by decide +kernel)) ggX8_quotientOf_X8_place
set_option maxRecDepth 20000 in
theorem ggX8_quotientOf_X8_forms : GoodIn wsX8_quotientOf wsX8_forms := goodIn_r _ [15, 2, 3, 16, 17, 18, 7, 19, 20, 21, 22, 23, 1, 24, 25, 26, 27, 5, 6, 8, 28, 29, 30, 31, 32, 33, 34, 35, 36, 37, 38, 39, 40, 41, 42, 43, 4, 44, 45, 46, 47, 48, 49, 50, 51, 52, 53, 54, 55, 56, 57, 58, 59, 60, 61, 62, 63, 64, 65, 66, 67, 68, 69, 70, 71, 72, 73, 74, 75, 76, 77, 78, 79] (by decide +kernel) (by decide +kernel)
set_option maxRecDepth 20000 in
theorem gX8_quotientOf_X8_forms : GoodIn wsX8_quotientOf (wsV RX8 195 RX8 yX8_forms wsX8_forms) := goodIn_app (goodIn_of _ (by decide +kernel)) ggX8_quotientOf_X8_forms
theorem dX8_quotientOf_0 : decode cX8_quotientOf 0 = .ok (.aload_n 0, 1) := by decide +kernel
theorem dX8_quotientOf_1 : decode cX8_quotientOf 1 = .ok (.iconst 2, 1) := by decide +kernel
theorem dX8_quotientOf_2 : decode cX8_quotientOf 2 = .ok (.putfield 162, 3) := by decide +kernel
theorem dX8_quotientOf_5 : decode cX8_quotientOf 5 = .ok (.aload_n 0, 1) := by decide +kernel
theorem dX8_quotientOf_6 : decode cX8_quotientOf 6 = .ok (.iconst 2, 1) := by decide +kernel
theorem dX8_quotientOf_7 : decode cX8_quotientOf 7 = .ok (.putfield 178, 3) := by decide +kernel
theorem dX8_quotientOf_10 : decode cX8_quotientOf 10 = .ok (.iconst 0, 1) := by decide +kernel
theorem dX8_quotientOf_11 : decode cX8_quotientOf 11 = .ok (.istore 6, 2) := by decide +kernel
theorem dX8_quotientOf_13 : decode cX8_quotientOf 13 = .ok (.iload 6, 2) := by decide +kernel
theorem dX8_quotientOf_15 : decode cX8_quotientOf 15 = .ok (.bipush 48, 2) := by decide +kernel
theorem dX8_quotientOf_17 : decode cX8_quotientOf 17 = .ok (.if_icmp .ge 17, 3) := by decide +kernel
theorem dX8_quotientOf_20 : decode cX8_quotientOf 20 = .ok (.aload_n 0, 1) := by decide +kernel
theorem dX8_quotientOf_21 : decode cX8_quotientOf 21 = .ok (.getfield 23, 3) := by decide +kernel
theorem dX8_quotientOf_24 : decode cX8_quotientOf 24 = .ok (.iload 6, 2) := by decide +kernel
theorem dX8_quotientOf_26 : decode cX8_quotientOf 26 = .ok (.iconst 0, 1) := by decide +kernel
theorem dX8_quotientOf_27 : decode cX8_quotientOf 27 = .ok (.iastore, 1) := by decide +kernel
theorem dX8_quotientOf_28 : decode cX8_quotientOf 28 = .ok (.iinc 6 1, 3) := by decide +kernel
theorem dX8_quotientOf_31 : decode cX8_quotientOf 31 = .ok (.goto (-18), 3) := by decide +kernel
theorem dX8_quotientOf_34 : decode cX8_quotientOf 34 = .ok (.aload_n 0, 1) := by decide +kernel
theorem dX8_quotientOf_35 : decode cX8_quotientOf 35 = .ok (.getfield 23, 3) := by decide +kernel
theorem dX8_quotientOf_38 : decode cX8_quotientOf 38 = .ok (.iconst 0, 1) := by decide +kernel
theorem dX8_quotientOf_39 : decode cX8_quotientOf 39 = .ok (.iconst 0, 1) := by decide +kernel
theorem dX8_quotientOf_40 : decode cX8_quotientOf 40 = .ok (.iload_n 3, 1) := by decide +kernel
theorem dX8_quotientOf_41 : decode cX8_quotientOf 41 = .ok (.invokestatic 159, 3) := by decide +kernel
theorem dX8_quotientOf_44 : decode cX8_quotientOf 44 = .ok (.iconst 1, 1) := by decide +kernel
theorem dX8_quotientOf_45 : decode cX8_quotientOf 45 = .ok (.iastore, 1) := by decide +kernel
theorem dX8_quotientOf_46 : decode cX8_quotientOf 46 = .ok (.iconst 0, 1) := by decide +kernel
theorem dX8_quotientOf_47 : decode cX8_quotientOf 47 = .ok (.istore 6, 2) := by decide +kernel
theorem dX8_quotientOf_49 : decode cX8_quotientOf 49 = .ok (.iload 6, 2) := by decide +kernel
theorem dX8_quotientOf_51 : decode cX8_quotientOf 51 = .ok (.bipush 7, 2) := by decide +kernel
theorem dX8_quotientOf_53 : decode cX8_quotientOf 53 = .ok (.if_icmp .ge 33, 3) := by decide +kernel
theorem dX8_quotientOf_56 : decode cX8_quotientOf 56 = .ok (.aload_n 0, 1) := by decide +kernel
theorem dX8_quotientOf_57 : decode cX8_quotientOf 57 = .ok (.getfield 23, 3) := by decide +kernel
theorem dX8_quotientOf_60 : decode cX8_quotientOf 60 = .ok (.iconst 1, 1) := by decide +kernel
theorem dX8_quotientOf_61 : decode cX8_quotientOf 61 = .ok (.iconst 0, 1) := by decide +kernel
theorem dX8_quotientOf_62 : decode cX8_quotientOf 62 = .ok (.iload 6, 2) := by decide +kernel
theorem dX8_quotientOf_64 : decode cX8_quotientOf 64 = .ok (.invokestatic 159, 3) := by decide +kernel
theorem dX8_quotientOf_67 : decode cX8_quotientOf 67 = .ok (.aload_n 0, 1) := by decide +kernel
theorem dX8_quotientOf_68 : decode cX8_quotientOf 68 = .ok (.getfield 7, 3) := by decide +kernel
theorem dX8_quotientOf_71 : decode cX8_quotientOf 71 = .ok (.iload_n 1, 1) := by decide +kernel
theorem dX8_quotientOf_72 : decode cX8_quotientOf 72 = .ok (.iload_n 2, 1) := by decide +kernel
theorem dX8_quotientOf_73 : decode cX8_quotientOf 73 = .ok (.iload 6, 2) := by decide +kernel
theorem dX8_quotientOf_75 : decode cX8_quotientOf 75 = .ok (.invokestatic 79, 3) := by decide +kernel
theorem dX8_quotientOf_78 : decode cX8_quotientOf 78 = .ok (.iaload, 1) := by decide +kernel
theorem dX8_quotientOf_79 : decode cX8_quotientOf 79 = .ok (.iastore, 1) := by decide +kernel
theorem dX8_quotientOf_80 : decode cX8_quotientOf 80 = .ok (.iinc 6 1, 3) := by decide +kernel
theorem dX8_quotientOf_83 : decode cX8_quotientOf 83 = .ok (.goto (-34), 3) := by decide +kernel
theorem dX8_quotientOf_86 : decode cX8_quotientOf 86 = .ok (.aload_n 0, 1) := by decide +kernel
theorem dX8_quotientOf_87 : decode cX8_quotientOf 87 = .ok (.getfield 23, 3) := by decide +kernel
theorem dX8_quotientOf_90 : decode cX8_quotientOf 90 = .ok (.iconst 1, 1) := by decide +kernel
theorem dX8_quotientOf_91 : decode cX8_quotientOf 91 = .ok (.iconst 1, 1) := by decide +kernel
theorem dX8_quotientOf_92 : decode cX8_quotientOf 92 = .ok (.iconst 0, 1) := by decide +kernel
theorem dX8_quotientOf_93 : decode cX8_quotientOf 93 = .ok (.invokestatic 159, 3) := by decide +kernel
theorem dX8_quotientOf_96 : decode cX8_quotientOf 96 = .ok (.iconst 1, 1) := by decide +kernel
theorem dX8_quotientOf_97 : decode cX8_quotientOf 97 = .ok (.iastore, 1) := by decide +kernel
theorem dX8_quotientOf_98 : decode cX8_quotientOf 98 = .ok (.aload_n 0, 1) := by decide +kernel
theorem dX8_quotientOf_99 : decode cX8_quotientOf 99 = .ok (.invokevirtual 195, 3) := by decide +kernel
theorem dX8_quotientOf_102 : decode cX8_quotientOf 102 = .ok (.aload_n 0, 1) := by decide +kernel
theorem dX8_quotientOf_103 : decode cX8_quotientOf 103 = .ok (.getfield 23, 3) := by decide +kernel
theorem dX8_quotientOf_106 : decode cX8_quotientOf 106 = .ok (.iconst 0, 1) := by decide +kernel
theorem dX8_quotientOf_107 : decode cX8_quotientOf 107 = .ok (.iload 4, 2) := by decide +kernel
theorem dX8_quotientOf_109 : decode cX8_quotientOf 109 = .ok (.iload 5, 2) := by decide +kernel
theorem dX8_quotientOf_111 : decode cX8_quotientOf 111 = .ok (.invokestatic 159, 3) := by decide +kernel
theorem dX8_quotientOf_114 : decode cX8_quotientOf 114 = .ok (.iaload, 1) := by decide +kernel
theorem dX8_quotientOf_115 : decode cX8_quotientOf 115 = .ok (.ireturn, 1) := by decide +kernel
set_option maxRecDepth 20000 in
theorem ggX8_quotient_X8_isRow : GoodIn wsX8_quotient wsX8_isRow := goodIn_r _ [6, 7, 8, 9, 5, 10, 11, 12, 13, 14, 85, 86, 87, 88, 89, 90, 91, 92, 93, 94, 95, 96, 97, 98, 99, 100, 101, 102, 103, 104, 105, 106, 107, 108] (by decide +kernel) (by decide +kernel)
set_option maxRecDepth 20000 in
theorem gX8_quotient_X8_isRow : GoodIn wsX8_quotient (wsV RX8 118 RX8 yX8_isRow wsX8_isRow) := goodIn_app (goodIn_of _ (by decide +kernel)) ggX8_quotient_X8_isRow
set_option maxRecDepth 20000 in
theorem ggX8_quotient_X8_isColumn : GoodIn wsX8_quotient wsX8_isColumn := goodIn_r _ [18, 19, 20, 21, 5, 22, 11, 12, 13, 14, 85, 86, 87, 88, 89, 90, 91, 92, 93, 94, 95, 96, 97, 98, 99, 100, 101, 102, 103, 104, 105, 106, 107, 108] (by decide +kernel) (by decide +kernel)
set_option maxRecDepth 20000 in
theorem gX8_quotient_X8_isColumn : GoodIn wsX8_quotient (wsV RX8 121 RX8 yX8_isColumn wsX8_isColumn) := goodIn_app (goodIn_of _ (by decide +kernel)) ggX8_quotient_X8_isColumn
set_option maxRecDepth 20000 in
theorem ggX8_quotient_X8_in : GoodIn wsX8_quotient wsX8_in := goodIn_r _ [14] (by decide +kernel) (by decide +kernel)
set_option maxRecDepth 20000 in
theorem gX8_quotient_X8_in : GoodIn wsX8_quotient (va_wsS RX8 69 yX8_in wsX8_in) := goodIn_app (goodIn_of _ (by decide +kernel)) ggX8_quotient_X8_in
set_option maxRecDepth 20000 in
theorem ggX8_quotient_X8_quotientOf : GoodIn wsX8_quotient wsX8_quotientOf := goodIn_r _ [26, 27, 28, 29, 11, 30, 31, 5, 32, 33, 34, 35, 36, 37, 38, 39, 40, 41, 42, 43, 44, 45, 46, 47, 48, 49, 50, 51, 52, 53, 54, 55, 56, 57, 58, 59, 60, 61, 62, 63, 64, 65, 66, 67, 68, 69, 70, 71, 72, 73, 74, 75, 76, 77, 78, 79, 85, 86, 87, 88, 89, 90, 91, 92, 93, 94, 95, 96, 97, 98, 99, 100, 101, 102, 103, 104, 105, 106, 107, 108] (by decide +kernel) (by decide +kernel)
set_option maxRecDepth 20000 in
theorem gX8_quotient_X8_quotientOf : GoodIn wsX8_quotient (wsV RX8 271 RX8 yX8_quotientOf wsX8_quotientOf) := goodIn_app (goodIn_of _ (by decide +kernel)) ggX8_quotient_X8_quotientOf
set_option maxRecDepth 20000 in
theorem ggX8_quotient_X8_refuses : GoodIn wsX8_quotient wsX8_refuses := goodIn_r _ [83, 84, 85, 86, 87, 88, 89, 90, 91, 92, 93, 94, 95, 96, 97, 98, 99, 100, 101, 102, 103, 104, 105, 106, 107, 108] (by decide +kernel) (by decide +kernel)
set_option maxRecDepth 20000 in
theorem gX8_quotient_X8_refuses : GoodIn wsX8_quotient (wsV RX8 101 RX8 yX8_refuses wsX8_refuses) := goodIn_app (goodIn_of _ (by decide +kernel)) ggX8_quotient_X8_refuses
theorem dX8_quotient_0 : decode cX8_quotient 0 = .ok (.aload_n 0, 1) := by decide +kernel
theorem dX8_quotient_1 : decode cX8_quotient 1 = .ok (.iload_n 1, 1) := by decide +kernel
theorem dX8_quotient_2 : decode cX8_quotient 2 = .ok (.invokevirtual 118, 3) := by decide +kernel
theorem dX8_quotient_5 : decode cX8_quotient 5 = .ok (.ifCond .eq 38, 3) := by decide +kernel
theorem dX8_quotient_8 : decode cX8_quotient 8 = .ok (.aload_n 0, 1) := by decide +kernel
theorem dX8_quotient_9 : decode cX8_quotient 9 = .ok (.iload_n 2, 1) := by decide +kernel
theorem dX8_quotient_10 : decode cX8_quotient 10 = .ok (.invokevirtual 121, 3) := by decide +kernel
theorem dX8_quotient_13 : decode cX8_quotient 13 = .ok (.ifCond .eq 30, 3) := by decide +kernel
theorem dX8_quotient_16 : decode cX8_quotient 16 = .ok (.iload_n 3, 1) := by decide +kernel
theorem dX8_quotient_17 : decode cX8_quotient 17 = .ok (.i2l, 1) := by decide +kernel
theorem dX8_quotient_18 : decode cX8_quotient 18 = .ok (.lconst 1, 1) := by decide +kernel
theorem dX8_quotient_19 : decode cX8_quotient 19 = .ok (.ldc2_w 269, 3) := by decide +kernel
theorem dX8_quotient_22 : decode cX8_quotient 22 = .ok (.invokestatic 69, 3) := by decide +kernel
theorem dX8_quotient_25 : decode cX8_quotient 25 = .ok (.ifCond .eq 18, 3) := by decide +kernel
theorem dX8_quotient_28 : decode cX8_quotient 28 = .ok (.iload 4, 2) := by decide +kernel
theorem dX8_quotient_30 : decode cX8_quotient 30 = .ok (.i2l, 1) := by decide +kernel
theorem dX8_quotient_31 : decode cX8_quotient 31 = .ok (.lconst 0, 1) := by decide +kernel
theorem dX8_quotient_32 : decode cX8_quotient 32 = .ok (.lconst 1, 1) := by decide +kernel
theorem dX8_quotient_33 : decode cX8_quotient 33 = .ok (.invokestatic 69, 3) := by decide +kernel
theorem dX8_quotient_36 : decode cX8_quotient 36 = .ok (.ifCond .eq 7, 3) := by decide +kernel
theorem dX8_quotient_39 : decode cX8_quotient 39 = .ok (.iconst 1, 1) := by decide +kernel
theorem dX8_quotient_40 : decode cX8_quotient 40 = .ok (.goto 4, 3) := by decide +kernel
theorem dX8_quotient_43 : decode cX8_quotient 43 = .ok (.iconst 0, 1) := by decide +kernel
theorem dX8_quotient_44 : decode cX8_quotient 44 = .ok (.istore 6, 2) := by decide +kernel
theorem dX8_quotient_46 : decode cX8_quotient 46 = .ok (.iload 6, 2) := by decide +kernel
theorem dX8_quotient_48 : decode cX8_quotient 48 = .ok (.ifCond .eq 30, 3) := by decide +kernel
theorem dX8_quotient_51 : decode cX8_quotient 51 = .ok (.iload 5, 2) := by decide +kernel
theorem dX8_quotient_53 : decode cX8_quotient 53 = .ok (.i2l, 1) := by decide +kernel
theorem dX8_quotient_54 : decode cX8_quotient 54 = .ok (.lconst 0, 1) := by decide +kernel
theorem dX8_quotient_55 : decode cX8_quotient 55 = .ok (.ldc2_w 269, 3) := by decide +kernel
theorem dX8_quotient_58 : decode cX8_quotient 58 = .ok (.invokestatic 69, 3) := by decide +kernel
theorem dX8_quotient_61 : decode cX8_quotient 61 = .ok (.ifCond .eq 17, 3) := by decide +kernel
theorem dX8_quotient_64 : decode cX8_quotient 64 = .ok (.aload_n 0, 1) := by decide +kernel
theorem dX8_quotient_65 : decode cX8_quotient 65 = .ok (.iload_n 1, 1) := by decide +kernel
theorem dX8_quotient_66 : decode cX8_quotient 66 = .ok (.iload_n 2, 1) := by decide +kernel
theorem dX8_quotient_67 : decode cX8_quotient 67 = .ok (.iload_n 3, 1) := by decide +kernel
theorem dX8_quotient_68 : decode cX8_quotient 68 = .ok (.iload 4, 2) := by decide +kernel
theorem dX8_quotient_70 : decode cX8_quotient 70 = .ok (.iload 5, 2) := by decide +kernel
theorem dX8_quotient_72 : decode cX8_quotient 72 = .ok (.invokevirtual 271, 3) := by decide +kernel
theorem dX8_quotient_75 : decode cX8_quotient 75 = .ok (.goto 9, 3) := by decide +kernel
theorem dX8_quotient_78 : decode cX8_quotient 78 = .ok (.aload_n 0, 1) := by decide +kernel
theorem dX8_quotient_79 : decode cX8_quotient 79 = .ok (.bipush (-2), 2) := by decide +kernel
theorem dX8_quotient_81 : decode cX8_quotient 81 = .ok (.invokevirtual 101, 3) := by decide +kernel
theorem dX8_quotient_84 : decode cX8_quotient 84 = .ok (.ireturn, 1) := by decide +kernel
set_option maxRecDepth 20000 in
theorem ggX8_type_X8_in : GoodIn wsX8_type wsX8_in := goodIn_r _ [7] (by decide +kernel) (by decide +kernel)
set_option maxRecDepth 20000 in
theorem gX8_type_X8_in : GoodIn wsX8_type (va_wsS RX8 69 yX8_in wsX8_in) := goodIn_app (goodIn_of _ (by decide +kernel)) ggX8_type_X8_in
set_option maxRecDepth 20000 in
theorem ggX8_type_X8_refuses : GoodIn wsX8_type wsX8_refuses := goodIn_r _ [11, 12, 13, 14, 15, 16, 17, 18, 19, 20, 21, 22, 23, 24, 25, 26, 27, 28, 29, 30, 31, 32, 33, 34, 35, 36] (by decide +kernel) (by decide +kernel)
set_option maxRecDepth 20000 in
theorem gX8_type_X8_refuses : GoodIn wsX8_type (wsV RX8 101 RX8 yX8_refuses wsX8_refuses) := goodIn_app (goodIn_of _ (by decide +kernel)) ggX8_type_X8_refuses
theorem dX8_type_0 : decode cX8_type 0 = .ok (.iload_n 1, 1) := by decide +kernel
theorem dX8_type_1 : decode cX8_type 1 = .ok (.i2l, 1) := by decide +kernel
theorem dX8_type_2 : decode cX8_type 2 = .ok (.lconst 0, 1) := by decide +kernel
theorem dX8_type_3 : decode cX8_type 3 = .ok (.ldc2_w 275, 3) := by decide +kernel
theorem dX8_type_6 : decode cX8_type 6 = .ok (.invokestatic 69, 3) := by decide +kernel
theorem dX8_type_9 : decode cX8_type 9 = .ok (.ifCond .ne 10, 3) := by decide +kernel
theorem dX8_type_12 : decode cX8_type 12 = .ok (.aload_n 0, 1) := by decide +kernel
theorem dX8_type_13 : decode cX8_type 13 = .ok (.bipush (-2), 2) := by decide +kernel
theorem dX8_type_15 : decode cX8_type 15 = .ok (.invokevirtual 101, 3) := by decide +kernel
theorem dX8_type_18 : decode cX8_type 18 = .ok (.ireturn, 1) := by decide +kernel
theorem dX8_type_19 : decode cX8_type 19 = .ok (.aload_n 0, 1) := by decide +kernel
theorem dX8_type_20 : decode cX8_type 20 = .ok (.getfield 277, 3) := by decide +kernel
theorem dX8_type_23 : decode cX8_type 23 = .ok (.sipush 150, 3) := by decide +kernel
theorem dX8_type_26 : decode cX8_type 26 = .ok (.if_icmp .ne 10, 3) := by decide +kernel
theorem dX8_type_29 : decode cX8_type 29 = .ok (.aload_n 0, 1) := by decide +kernel
theorem dX8_type_30 : decode cX8_type 30 = .ok (.bipush (-4), 2) := by decide +kernel
theorem dX8_type_32 : decode cX8_type 32 = .ok (.invokevirtual 101, 3) := by decide +kernel
theorem dX8_type_35 : decode cX8_type 35 = .ok (.ireturn, 1) := by decide +kernel
theorem dX8_type_36 : decode cX8_type 36 = .ok (.aload_n 0, 1) := by decide +kernel
theorem dX8_type_37 : decode cX8_type 37 = .ok (.getfield 50, 3) := by decide +kernel
theorem dX8_type_40 : decode cX8_type 40 = .ok (.aload_n 0, 1) := by decide +kernel
theorem dX8_type_41 : decode cX8_type 41 = .ok (.getfield 277, 3) := by decide +kernel
theorem dX8_type_44 : decode cX8_type 44 = .ok (.iload_n 1, 1) := by decide +kernel
theorem dX8_type_45 : decode cX8_type 45 = .ok (.iastore, 1) := by decide +kernel
theorem dX8_type_46 : decode cX8_type 46 = .ok (.aload_n 0, 1) := by decide +kernel
theorem dX8_type_47 : decode cX8_type 47 = .ok (.dup, 1) := by decide +kernel
theorem dX8_type_48 : decode cX8_type 48 = .ok (.getfield 277, 3) := by decide +kernel
theorem dX8_type_51 : decode cX8_type 51 = .ok (.iconst 1, 1) := by decide +kernel
theorem dX8_type_52 : decode cX8_type 52 = .ok (.iadd, 1) := by decide +kernel
theorem dX8_type_53 : decode cX8_type 53 = .ok (.putfield 277, 3) := by decide +kernel
theorem dX8_type_56 : decode cX8_type 56 = .ok (.aload_n 0, 1) := by decide +kernel
theorem dX8_type_57 : decode cX8_type 57 = .ok (.getfield 277, 3) := by decide +kernel
theorem dX8_type_60 : decode cX8_type 60 = .ok (.ireturn, 1) := by decide +kernel
theorem dX8_clear_0 : decode cX8_clear 0 = .ok (.aload_n 0, 1) := by decide +kernel
theorem dX8_clear_1 : decode cX8_clear 1 = .ok (.getfield 277, 3) := by decide +kernel
theorem dX8_clear_4 : decode cX8_clear 4 = .ok (.istore_n 1, 1) := by decide +kernel
theorem dX8_clear_5 : decode cX8_clear 5 = .ok (.aload_n 0, 1) := by decide +kernel
theorem dX8_clear_6 : decode cX8_clear 6 = .ok (.iconst 0, 1) := by decide +kernel
theorem dX8_clear_7 : decode cX8_clear 7 = .ok (.putfield 277, 3) := by decide +kernel
theorem dX8_clear_10 : decode cX8_clear 10 = .ok (.iload_n 1, 1) := by decide +kernel
theorem dX8_clear_11 : decode cX8_clear 11 = .ok (.ireturn, 1) := by decide +kernel
theorem dX8_here_0 : decode cX8_here 0 = .ok (.aload_n 0, 1) := by decide +kernel
theorem dX8_here_1 : decode cX8_here 1 = .ok (.getfield 280, 3) := by decide +kernel
theorem dX8_here_4 : decode cX8_here 4 = .ok (.aload_n 0, 1) := by decide +kernel
theorem dX8_here_5 : decode cX8_here 5 = .ok (.getfield 277, 3) := by decide +kernel
theorem dX8_here_8 : decode cX8_here 8 = .ok (.if_icmp .ge 30, 3) := by decide +kernel
theorem dX8_here_11 : decode cX8_here 11 = .ok (.aload_n 0, 1) := by decide +kernel
theorem dX8_here_12 : decode cX8_here 12 = .ok (.getfield 50, 3) := by decide +kernel
theorem dX8_here_15 : decode cX8_here 15 = .ok (.aload_n 0, 1) := by decide +kernel
theorem dX8_here_16 : decode cX8_here 16 = .ok (.getfield 280, 3) := by decide +kernel
theorem dX8_here_19 : decode cX8_here 19 = .ok (.iaload, 1) := by decide +kernel
theorem dX8_here_20 : decode cX8_here 20 = .ok (.bipush 32, 2) := by decide +kernel
theorem dX8_here_22 : decode cX8_here 22 = .ok (.if_icmp .ne 16, 3) := by decide +kernel
theorem dX8_here_25 : decode cX8_here 25 = .ok (.aload_n 0, 1) := by decide +kernel
theorem dX8_here_26 : decode cX8_here 26 = .ok (.dup, 1) := by decide +kernel
theorem dX8_here_27 : decode cX8_here 27 = .ok (.getfield 280, 3) := by decide +kernel
theorem dX8_here_30 : decode cX8_here 30 = .ok (.iconst 1, 1) := by decide +kernel
theorem dX8_here_31 : decode cX8_here 31 = .ok (.iadd, 1) := by decide +kernel
theorem dX8_here_32 : decode cX8_here 32 = .ok (.putfield 280, 3) := by decide +kernel
theorem dX8_here_35 : decode cX8_here 35 = .ok (.goto (-35), 3) := by decide +kernel
theorem dX8_here_38 : decode cX8_here 38 = .ok (.aload_n 0, 1) := by decide +kernel
theorem dX8_here_39 : decode cX8_here 39 = .ok (.getfield 280, 3) := by decide +kernel
theorem dX8_here_42 : decode cX8_here 42 = .ok (.aload_n 0, 1) := by decide +kernel
theorem dX8_here_43 : decode cX8_here 43 = .ok (.getfield 277, 3) := by decide +kernel
theorem dX8_here_46 : decode cX8_here 46 = .ok (.if_icmp .ge 15, 3) := by decide +kernel
theorem dX8_here_49 : decode cX8_here 49 = .ok (.aload_n 0, 1) := by decide +kernel
theorem dX8_here_50 : decode cX8_here 50 = .ok (.getfield 50, 3) := by decide +kernel
theorem dX8_here_53 : decode cX8_here 53 = .ok (.aload_n 0, 1) := by decide +kernel
theorem dX8_here_54 : decode cX8_here 54 = .ok (.getfield 280, 3) := by decide +kernel
theorem dX8_here_57 : decode cX8_here 57 = .ok (.iaload, 1) := by decide +kernel
theorem dX8_here_58 : decode cX8_here 58 = .ok (.goto 4, 3) := by decide +kernel
theorem dX8_here_61 : decode cX8_here 61 = .ok (.iconst (-1), 1) := by decide +kernel
theorem dX8_here_62 : decode cX8_here 62 = .ok (.ireturn, 1) := by decide +kernel
set_option maxRecDepth 20000 in
theorem ggX8_isFigure_X8_in : GoodIn wsX8_isFigure wsX8_in := goodIn_r _ [6] (by decide +kernel) (by decide +kernel)
set_option maxRecDepth 20000 in
theorem gX8_isFigure_X8_in : GoodIn wsX8_isFigure (va_wsS RX8 69 yX8_in wsX8_in) := goodIn_app (goodIn_of _ (by decide +kernel)) ggX8_isFigure_X8_in
theorem dX8_isFigure_0 : decode cX8_isFigure 0 = .ok (.iload_n 1, 1) := by decide +kernel
theorem dX8_isFigure_1 : decode cX8_isFigure 1 = .ok (.i2l, 1) := by decide +kernel
theorem dX8_isFigure_2 : decode cX8_isFigure 2 = .ok (.ldc2_w 283, 3) := by decide +kernel
theorem dX8_isFigure_5 : decode cX8_isFigure 5 = .ok (.ldc2_w 285, 3) := by decide +kernel
theorem dX8_isFigure_8 : decode cX8_isFigure 8 = .ok (.invokestatic 69, 3) := by decide +kernel
theorem dX8_isFigure_11 : decode cX8_isFigure 11 = .ok (.ireturn, 1) := by decide +kernel
set_option maxRecDepth 20000 in
theorem ggX8_takesFigure_X8_here : GoodIn wsX8_takesFigure wsX8_here := goodIn_r _ [7, 2, 8, 9, 19, 20, 21, 22, 23, 24, 25, 26, 27, 28, 29, 30, 31, 32, 33, 34, 35, 36, 37, 38, 39, 40, 41, 42] (by decide +kernel) (by decide +kernel)
set_option maxRecDepth 20000 in
theorem gX8_takesFigure_X8_here : GoodIn wsX8_takesFigure (wsV RX8 287 RX8 yX8_here wsX8_here) := goodIn_app (goodIn_of _ (by decide +kernel)) ggX8_takesFigure_X8_here
set_option maxRecDepth 20000 in
theorem ggX8_takesFigure_X8_isFigure : GoodIn wsX8_takesFigure wsX8_isFigure := goodIn_r _ [13, 14, 15, 16, 17, 6, 18] (by decide +kernel) (by decide +kernel)
set_option maxRecDepth 20000 in
theorem gX8_takesFigure_X8_isFigure : GoodIn wsX8_takesFigure (wsV RX8 290 RX8 yX8_isFigure wsX8_isFigure) := goodIn_app (goodIn_of _ (by decide +kernel)) ggX8_takesFigure_X8_isFigure
theorem dX8_takesFigure_0 : decode cX8_takesFigure 0 = .ok (.aload_n 0, 1) := by decide +kernel
theorem dX8_takesFigure_1 : decode cX8_takesFigure 1 = .ok (.invokevirtual 287, 3) := by decide +kernel
theorem dX8_takesFigure_4 : decode cX8_takesFigure 4 = .ok (.istore_n 2, 1) := by decide +kernel
theorem dX8_takesFigure_5 : decode cX8_takesFigure 5 = .ok (.aload_n 0, 1) := by decide +kernel
theorem dX8_takesFigure_6 : decode cX8_takesFigure 6 = .ok (.iload_n 2, 1) := by decide +kernel
theorem dX8_takesFigure_7 : decode cX8_takesFigure 7 = .ok (.invokevirtual 290, 3) := by decide +kernel
theorem dX8_takesFigure_10 : decode cX8_takesFigure 10 = .ok (.ifCond .ne 5, 3) := by decide +kernel
theorem dX8_takesFigure_13 : decode cX8_takesFigure 13 = .ok (.iconst 0, 1) := by decide +kernel
theorem dX8_takesFigure_14 : decode cX8_takesFigure 14 = .ok (.ireturn, 1) := by decide +kernel
theorem dX8_takesFigure_15 : decode cX8_takesFigure 15 = .ok (.aload_n 0, 1) := by decide +kernel
theorem dX8_takesFigure_16 : decode cX8_takesFigure 16 = .ok (.getfield 53, 3) := by decide +kernel
theorem dX8_takesFigure_19 : decode cX8_takesFigure 19 = .ok (.iload_n 1, 1) := by decide +kernel
theorem dX8_takesFigure_20 : decode cX8_takesFigure 20 = .ok (.iload_n 2, 1) := by decide +kernel
theorem dX8_takesFigure_21 : decode cX8_takesFigure 21 = .ok (.bipush 48, 2) := by decide +kernel
theorem dX8_takesFigure_23 : decode cX8_takesFigure 23 = .ok (.isub, 1) := by decide +kernel
theorem dX8_takesFigure_24 : decode cX8_takesFigure 24 = .ok (.iastore, 1) := by decide +kernel
theorem dX8_takesFigure_25 : decode cX8_takesFigure 25 = .ok (.aload_n 0, 1) := by decide +kernel
theorem dX8_takesFigure_26 : decode cX8_takesFigure 26 = .ok (.dup, 1) := by decide +kernel
theorem dX8_takesFigure_27 : decode cX8_takesFigure 27 = .ok (.getfield 280, 3) := by decide +kernel
theorem dX8_takesFigure_30 : decode cX8_takesFigure 30 = .ok (.iconst 1, 1) := by decide +kernel
theorem dX8_takesFigure_31 : decode cX8_takesFigure 31 = .ok (.iadd, 1) := by decide +kernel
theorem dX8_takesFigure_32 : decode cX8_takesFigure 32 = .ok (.putfield 280, 3) := by decide +kernel
theorem dX8_takesFigure_35 : decode cX8_takesFigure 35 = .ok (.iconst 1, 1) := by decide +kernel
theorem dX8_takesFigure_36 : decode cX8_takesFigure 36 = .ok (.ireturn, 1) := by decide +kernel
set_option maxRecDepth 20000 in
theorem ggX8_takesTerm_X8_here : GoodIn wsX8_takesTerm wsX8_here := goodIn_r _ [10, 1, 3, 4, 20, 21, 22, 23, 24, 25, 26, 27, 28, 29, 30, 31, 32, 33, 34, 35, 36, 37, 38, 39, 40, 41, 42, 43] (by decide +kernel) (by decide +kernel)
set_option maxRecDepth 20000 in
theorem gX8_takesTerm_X8_here : GoodIn wsX8_takesTerm (wsV RX8 287 RX8 yX8_here wsX8_here) := goodIn_app (goodIn_of _ (by decide +kernel)) ggX8_takesTerm_X8_here
set_option maxRecDepth 20000 in
theorem ggX8_takesTerm_X8_isFigure : GoodIn wsX8_takesTerm wsX8_isFigure := goodIn_r _ [14, 15, 16, 17, 18, 9, 19] (by decide +kernel) (by decide +kernel)
set_option maxRecDepth 20000 in
theorem gX8_takesTerm_X8_isFigure : GoodIn wsX8_takesTerm (wsV RX8 290 RX8 yX8_isFigure wsX8_isFigure) := goodIn_app (goodIn_of _ (by decide +kernel)) ggX8_takesTerm_X8_isFigure
set_option maxRecDepth 20000 in
theorem ggX8_takesTerm_X8_in : GoodIn wsX8_takesTerm wsX8_in := goodIn_r _ [19] (by decide +kernel) (by decide +kernel)
set_option maxRecDepth 20000 in
theorem gX8_takesTerm_X8_in : GoodIn wsX8_takesTerm (va_wsS RX8 69 yX8_in wsX8_in) := goodIn_app (goodIn_of _ (by decide +kernel)) ggX8_takesTerm_X8_in
theorem dX8_takesTerm_0 : decode cX8_takesTerm 0 = .ok (.aload_n 0, 1) := by decide +kernel
theorem dX8_takesTerm_1 : decode cX8_takesTerm 1 = .ok (.invokevirtual 287, 3) := by decide +kernel
theorem dX8_takesTerm_4 : decode cX8_takesTerm 4 = .ok (.istore_n 2, 1) := by decide +kernel
theorem dX8_takesTerm_5 : decode cX8_takesTerm 5 = .ok (.iconst 1, 1) := by decide +kernel
theorem dX8_takesTerm_6 : decode cX8_takesTerm 6 = .ok (.istore_n 3, 1) := by decide +kernel
theorem dX8_takesTerm_7 : decode cX8_takesTerm 7 = .ok (.aload_n 0, 1) := by decide +kernel
theorem dX8_takesTerm_8 : decode cX8_takesTerm 8 = .ok (.iload_n 2, 1) := by decide +kernel
theorem dX8_takesTerm_9 : decode cX8_takesTerm 9 = .ok (.invokevirtual 290, 3) := by decide +kernel
theorem dX8_takesTerm_12 : decode cX8_takesTerm 12 = .ok (.ifCond .eq 44, 3) := by decide +kernel
theorem dX8_takesTerm_15 : decode cX8_takesTerm 15 = .ok (.iload_n 2, 1) := by decide +kernel
theorem dX8_takesTerm_16 : decode cX8_takesTerm 16 = .ok (.bipush 48, 2) := by decide +kernel
theorem dX8_takesTerm_18 : decode cX8_takesTerm 18 = .ok (.isub, 1) := by decide +kernel
theorem dX8_takesTerm_19 : decode cX8_takesTerm 19 = .ok (.istore_n 3, 1) := by decide +kernel
theorem dX8_takesTerm_20 : decode cX8_takesTerm 20 = .ok (.aload_n 0, 1) := by decide +kernel
theorem dX8_takesTerm_21 : decode cX8_takesTerm 21 = .ok (.dup, 1) := by decide +kernel
theorem dX8_takesTerm_22 : decode cX8_takesTerm 22 = .ok (.getfield 280, 3) := by decide +kernel
theorem dX8_takesTerm_25 : decode cX8_takesTerm 25 = .ok (.iconst 1, 1) := by decide +kernel
theorem dX8_takesTerm_26 : decode cX8_takesTerm 26 = .ok (.iadd, 1) := by decide +kernel
theorem dX8_takesTerm_27 : decode cX8_takesTerm 27 = .ok (.putfield 280, 3) := by decide +kernel
theorem dX8_takesTerm_30 : decode cX8_takesTerm 30 = .ok (.aload_n 0, 1) := by decide +kernel
theorem dX8_takesTerm_31 : decode cX8_takesTerm 31 = .ok (.invokevirtual 287, 3) := by decide +kernel
theorem dX8_takesTerm_34 : decode cX8_takesTerm 34 = .ok (.istore_n 2, 1) := by decide +kernel
theorem dX8_takesTerm_35 : decode cX8_takesTerm 35 = .ok (.iload_n 2, 1) := by decide +kernel
theorem dX8_takesTerm_36 : decode cX8_takesTerm 36 = .ok (.bipush 120, 2) := by decide +kernel
theorem dX8_takesTerm_38 : decode cX8_takesTerm 38 = .ok (.if_icmp .eq 18, 3) := by decide +kernel
theorem dX8_takesTerm_41 : decode cX8_takesTerm 41 = .ok (.aload_n 0, 1) := by decide +kernel
theorem dX8_takesTerm_42 : decode cX8_takesTerm 42 = .ok (.getfield 56, 3) := by decide +kernel
theorem dX8_takesTerm_45 : decode cX8_takesTerm 45 = .ok (.bipush 7, 2) := by decide +kernel
theorem dX8_takesTerm_47 : decode cX8_takesTerm 47 = .ok (.iload_n 1, 1) := by decide +kernel
theorem dX8_takesTerm_48 : decode cX8_takesTerm 48 = .ok (.imul, 1) := by decide +kernel
theorem dX8_takesTerm_49 : decode cX8_takesTerm 49 = .ok (.dup2, 1) := by decide +kernel
theorem dX8_takesTerm_50 : decode cX8_takesTerm 50 = .ok (.iaload, 1) := by decide +kernel
theorem dX8_takesTerm_51 : decode cX8_takesTerm 51 = .ok (.iload_n 3, 1) := by decide +kernel
theorem dX8_takesTerm_52 : decode cX8_takesTerm 52 = .ok (.iadd, 1) := by decide +kernel
theorem dX8_takesTerm_53 : decode cX8_takesTerm 53 = .ok (.iastore, 1) := by decide +kernel
theorem dX8_takesTerm_54 : decode cX8_takesTerm 54 = .ok (.iconst 1, 1) := by decide +kernel
theorem dX8_takesTerm_55 : decode cX8_takesTerm 55 = .ok (.ireturn, 1) := by decide +kernel
theorem dX8_takesTerm_56 : decode cX8_takesTerm 56 = .ok (.iload_n 2, 1) := by decide +kernel
theorem dX8_takesTerm_57 : decode cX8_takesTerm 57 = .ok (.bipush 120, 2) := by decide +kernel
theorem dX8_takesTerm_59 : decode cX8_takesTerm 59 = .ok (.if_icmp .eq 5, 3) := by decide +kernel
theorem dX8_takesTerm_62 : decode cX8_takesTerm 62 = .ok (.iconst 0, 1) := by decide +kernel
theorem dX8_takesTerm_63 : decode cX8_takesTerm 63 = .ok (.ireturn, 1) := by decide +kernel
theorem dX8_takesTerm_64 : decode cX8_takesTerm 64 = .ok (.aload_n 0, 1) := by decide +kernel
theorem dX8_takesTerm_65 : decode cX8_takesTerm 65 = .ok (.dup, 1) := by decide +kernel
theorem dX8_takesTerm_66 : decode cX8_takesTerm 66 = .ok (.getfield 280, 3) := by decide +kernel
theorem dX8_takesTerm_69 : decode cX8_takesTerm 69 = .ok (.iconst 1, 1) := by decide +kernel
theorem dX8_takesTerm_70 : decode cX8_takesTerm 70 = .ok (.iadd, 1) := by decide +kernel
theorem dX8_takesTerm_71 : decode cX8_takesTerm 71 = .ok (.putfield 280, 3) := by decide +kernel
theorem dX8_takesTerm_74 : decode cX8_takesTerm 74 = .ok (.iconst 1, 1) := by decide +kernel
theorem dX8_takesTerm_75 : decode cX8_takesTerm 75 = .ok (.istore 4, 2) := by decide +kernel
theorem dX8_takesTerm_77 : decode cX8_takesTerm 77 = .ok (.aload_n 0, 1) := by decide +kernel
theorem dX8_takesTerm_78 : decode cX8_takesTerm 78 = .ok (.getfield 280, 3) := by decide +kernel
theorem dX8_takesTerm_81 : decode cX8_takesTerm 81 = .ok (.aload_n 0, 1) := by decide +kernel
theorem dX8_takesTerm_82 : decode cX8_takesTerm 82 = .ok (.getfield 277, 3) := by decide +kernel
theorem dX8_takesTerm_85 : decode cX8_takesTerm 85 = .ok (.if_icmp .ge 58, 3) := by decide +kernel
theorem dX8_takesTerm_88 : decode cX8_takesTerm 88 = .ok (.aload_n 0, 1) := by decide +kernel
theorem dX8_takesTerm_89 : decode cX8_takesTerm 89 = .ok (.aload_n 0, 1) := by decide +kernel
theorem dX8_takesTerm_90 : decode cX8_takesTerm 90 = .ok (.getfield 50, 3) := by decide +kernel
theorem dX8_takesTerm_93 : decode cX8_takesTerm 93 = .ok (.aload_n 0, 1) := by decide +kernel
theorem dX8_takesTerm_94 : decode cX8_takesTerm 94 = .ok (.getfield 280, 3) := by decide +kernel
theorem dX8_takesTerm_97 : decode cX8_takesTerm 97 = .ok (.iaload, 1) := by decide +kernel
theorem dX8_takesTerm_98 : decode cX8_takesTerm 98 = .ok (.invokevirtual 290, 3) := by decide +kernel
theorem dX8_takesTerm_101 : decode cX8_takesTerm 101 = .ok (.ifCond .eq 42, 3) := by decide +kernel
theorem dX8_takesTerm_104 : decode cX8_takesTerm 104 = .ok (.aload_n 0, 1) := by decide +kernel
theorem dX8_takesTerm_105 : decode cX8_takesTerm 105 = .ok (.getfield 50, 3) := by decide +kernel
theorem dX8_takesTerm_108 : decode cX8_takesTerm 108 = .ok (.aload_n 0, 1) := by decide +kernel
theorem dX8_takesTerm_109 : decode cX8_takesTerm 109 = .ok (.getfield 280, 3) := by decide +kernel
theorem dX8_takesTerm_112 : decode cX8_takesTerm 112 = .ok (.iaload, 1) := by decide +kernel
theorem dX8_takesTerm_113 : decode cX8_takesTerm 113 = .ok (.bipush 48, 2) := by decide +kernel
theorem dX8_takesTerm_115 : decode cX8_takesTerm 115 = .ok (.isub, 1) := by decide +kernel
theorem dX8_takesTerm_116 : decode cX8_takesTerm 116 = .ok (.istore 4, 2) := by decide +kernel
theorem dX8_takesTerm_118 : decode cX8_takesTerm 118 = .ok (.iload 4, 2) := by decide +kernel
theorem dX8_takesTerm_120 : decode cX8_takesTerm 120 = .ok (.i2l, 1) := by decide +kernel
theorem dX8_takesTerm_121 : decode cX8_takesTerm 121 = .ok (.lconst 1, 1) := by decide +kernel
theorem dX8_takesTerm_122 : decode cX8_takesTerm 122 = .ok (.ldc2_w 124, 3) := by decide +kernel
theorem dX8_takesTerm_125 : decode cX8_takesTerm 125 = .ok (.invokestatic 69, 3) := by decide +kernel
theorem dX8_takesTerm_128 : decode cX8_takesTerm 128 = .ok (.ifCond .ne 5, 3) := by decide +kernel
theorem dX8_takesTerm_131 : decode cX8_takesTerm 131 = .ok (.iconst 0, 1) := by decide +kernel
theorem dX8_takesTerm_132 : decode cX8_takesTerm 132 = .ok (.ireturn, 1) := by decide +kernel
theorem dX8_takesTerm_133 : decode cX8_takesTerm 133 = .ok (.aload_n 0, 1) := by decide +kernel
theorem dX8_takesTerm_134 : decode cX8_takesTerm 134 = .ok (.dup, 1) := by decide +kernel
theorem dX8_takesTerm_135 : decode cX8_takesTerm 135 = .ok (.getfield 280, 3) := by decide +kernel
theorem dX8_takesTerm_138 : decode cX8_takesTerm 138 = .ok (.iconst 1, 1) := by decide +kernel
theorem dX8_takesTerm_139 : decode cX8_takesTerm 139 = .ok (.iadd, 1) := by decide +kernel
theorem dX8_takesTerm_140 : decode cX8_takesTerm 140 = .ok (.putfield 280, 3) := by decide +kernel
theorem dX8_takesTerm_143 : decode cX8_takesTerm 143 = .ok (.aload_n 0, 1) := by decide +kernel
theorem dX8_takesTerm_144 : decode cX8_takesTerm 144 = .ok (.getfield 56, 3) := by decide +kernel
theorem dX8_takesTerm_147 : decode cX8_takesTerm 147 = .ok (.bipush 7, 2) := by decide +kernel
theorem dX8_takesTerm_149 : decode cX8_takesTerm 149 = .ok (.iload_n 1, 1) := by decide +kernel
theorem dX8_takesTerm_150 : decode cX8_takesTerm 150 = .ok (.imul, 1) := by decide +kernel
theorem dX8_takesTerm_151 : decode cX8_takesTerm 151 = .ok (.iload 4, 2) := by decide +kernel
theorem dX8_takesTerm_153 : decode cX8_takesTerm 153 = .ok (.iadd, 1) := by decide +kernel
theorem dX8_takesTerm_154 : decode cX8_takesTerm 154 = .ok (.dup2, 1) := by decide +kernel
theorem dX8_takesTerm_155 : decode cX8_takesTerm 155 = .ok (.iaload, 1) := by decide +kernel
theorem dX8_takesTerm_156 : decode cX8_takesTerm 156 = .ok (.iload_n 3, 1) := by decide +kernel
theorem dX8_takesTerm_157 : decode cX8_takesTerm 157 = .ok (.iadd, 1) := by decide +kernel
theorem dX8_takesTerm_158 : decode cX8_takesTerm 158 = .ok (.iastore, 1) := by decide +kernel
theorem dX8_takesTerm_159 : decode cX8_takesTerm 159 = .ok (.iconst 1, 1) := by decide +kernel
theorem dX8_takesTerm_160 : decode cX8_takesTerm 160 = .ok (.ireturn, 1) := by decide +kernel
set_option maxRecDepth 20000 in
theorem ggX8_takesRow_X8_here : GoodIn wsX8_takesRow wsX8_here := goodIn_r _ [8, 3, 9, 10, 25, 26, 27, 28, 29, 30, 31, 32, 33, 34, 35, 36, 37, 38, 39, 40, 41, 42, 43, 44, 45, 46, 47, 48] (by decide +kernel) (by decide +kernel)
set_option maxRecDepth 20000 in
theorem gX8_takesRow_X8_here : GoodIn wsX8_takesRow (wsV RX8 287 RX8 yX8_here wsX8_here) := goodIn_app (goodIn_of _ (by decide +kernel)) ggX8_takesRow_X8_here
set_option maxRecDepth 20000 in
theorem ggX8_takesRow_X8_takesTerm : GoodIn wsX8_takesRow wsX8_takesTerm := goodIn_r _ [14, 3, 1, 9, 10, 15, 4, 5, 6, 7, 8, 16, 17, 18, 19, 20, 21, 22, 23, 24, 25, 26, 27, 28, 29, 30, 31, 32, 33, 34, 35, 36, 37, 38, 39, 40, 41, 42, 43, 44, 45, 46, 47, 48] (by decide +kernel) (by decide +kernel)
set_option maxRecDepth 20000 in
theorem gX8_takesRow_X8_takesTerm : GoodIn wsX8_takesRow (wsV RX8 296 RX8 yX8_takesTerm wsX8_takesTerm) := goodIn_app (goodIn_of _ (by decide +kernel)) ggX8_takesRow_X8_takesTerm
theorem dX8_takesRow_0 : decode cX8_takesRow 0 = .ok (.iconst 0, 1) := by decide +kernel
theorem dX8_takesRow_1 : decode cX8_takesRow 1 = .ok (.istore_n 1, 1) := by decide +kernel
theorem dX8_takesRow_2 : decode cX8_takesRow 2 = .ok (.iload_n 1, 1) := by decide +kernel
theorem dX8_takesRow_3 : decode cX8_takesRow 3 = .ok (.bipush 21, 2) := by decide +kernel
theorem dX8_takesRow_5 : decode cX8_takesRow 5 = .ok (.if_icmp .ge 16, 3) := by decide +kernel
theorem dX8_takesRow_8 : decode cX8_takesRow 8 = .ok (.aload_n 0, 1) := by decide +kernel
theorem dX8_takesRow_9 : decode cX8_takesRow 9 = .ok (.getfield 56, 3) := by decide +kernel
theorem dX8_takesRow_12 : decode cX8_takesRow 12 = .ok (.iload_n 1, 1) := by decide +kernel
theorem dX8_takesRow_13 : decode cX8_takesRow 13 = .ok (.iconst 0, 1) := by decide +kernel
theorem dX8_takesRow_14 : decode cX8_takesRow 14 = .ok (.iastore, 1) := by decide +kernel
theorem dX8_takesRow_15 : decode cX8_takesRow 15 = .ok (.iinc 1 1, 3) := by decide +kernel
theorem dX8_takesRow_18 : decode cX8_takesRow 18 = .ok (.goto (-16), 3) := by decide +kernel
theorem dX8_takesRow_21 : decode cX8_takesRow 21 = .ok (.iconst 0, 1) := by decide +kernel
theorem dX8_takesRow_22 : decode cX8_takesRow 22 = .ok (.istore_n 1, 1) := by decide +kernel
theorem dX8_takesRow_23 : decode cX8_takesRow 23 = .ok (.iload_n 1, 1) := by decide +kernel
theorem dX8_takesRow_24 : decode cX8_takesRow 24 = .ok (.aload_n 0, 1) := by decide +kernel
theorem dX8_takesRow_25 : decode cX8_takesRow 25 = .ok (.getfield 293, 3) := by decide +kernel
theorem dX8_takesRow_28 : decode cX8_takesRow 28 = .ok (.if_icmp .ge 86, 3) := by decide +kernel
theorem dX8_takesRow_31 : decode cX8_takesRow 31 = .ok (.iload_n 1, 1) := by decide +kernel
theorem dX8_takesRow_32 : decode cX8_takesRow 32 = .ok (.ifCond .le 24, 3) := by decide +kernel
theorem dX8_takesRow_35 : decode cX8_takesRow 35 = .ok (.aload_n 0, 1) := by decide +kernel
theorem dX8_takesRow_36 : decode cX8_takesRow 36 = .ok (.invokevirtual 287, 3) := by decide +kernel
theorem dX8_takesRow_39 : decode cX8_takesRow 39 = .ok (.bipush 44, 2) := by decide +kernel
theorem dX8_takesRow_41 : decode cX8_takesRow 41 = .ok (.if_icmp .eq 5, 3) := by decide +kernel
theorem dX8_takesRow_44 : decode cX8_takesRow 44 = .ok (.iconst 0, 1) := by decide +kernel
theorem dX8_takesRow_45 : decode cX8_takesRow 45 = .ok (.ireturn, 1) := by decide +kernel
theorem dX8_takesRow_46 : decode cX8_takesRow 46 = .ok (.aload_n 0, 1) := by decide +kernel
theorem dX8_takesRow_47 : decode cX8_takesRow 47 = .ok (.dup, 1) := by decide +kernel
theorem dX8_takesRow_48 : decode cX8_takesRow 48 = .ok (.getfield 280, 3) := by decide +kernel
theorem dX8_takesRow_51 : decode cX8_takesRow 51 = .ok (.iconst 1, 1) := by decide +kernel
theorem dX8_takesRow_52 : decode cX8_takesRow 52 = .ok (.iadd, 1) := by decide +kernel
theorem dX8_takesRow_53 : decode cX8_takesRow 53 = .ok (.putfield 280, 3) := by decide +kernel
theorem dX8_takesRow_56 : decode cX8_takesRow 56 = .ok (.iconst 1, 1) := by decide +kernel
theorem dX8_takesRow_57 : decode cX8_takesRow 57 = .ok (.istore_n 2, 1) := by decide +kernel
theorem dX8_takesRow_58 : decode cX8_takesRow 58 = .ok (.iload_n 2, 1) := by decide +kernel
theorem dX8_takesRow_59 : decode cX8_takesRow 59 = .ok (.ifCond .eq 49, 3) := by decide +kernel
theorem dX8_takesRow_62 : decode cX8_takesRow 62 = .ok (.aload_n 0, 1) := by decide +kernel
theorem dX8_takesRow_63 : decode cX8_takesRow 63 = .ok (.iload_n 1, 1) := by decide +kernel
theorem dX8_takesRow_64 : decode cX8_takesRow 64 = .ok (.invokevirtual 296, 3) := by decide +kernel
theorem dX8_takesRow_67 : decode cX8_takesRow 67 = .ok (.ifCond .ne 5, 3) := by decide +kernel
theorem dX8_takesRow_70 : decode cX8_takesRow 70 = .ok (.iconst 0, 1) := by decide +kernel
theorem dX8_takesRow_71 : decode cX8_takesRow 71 = .ok (.ireturn, 1) := by decide +kernel
theorem dX8_takesRow_72 : decode cX8_takesRow 72 = .ok (.aload_n 0, 1) := by decide +kernel
theorem dX8_takesRow_73 : decode cX8_takesRow 73 = .ok (.invokevirtual 287, 3) := by decide +kernel
theorem dX8_takesRow_76 : decode cX8_takesRow 76 = .ok (.bipush 43, 2) := by decide +kernel
theorem dX8_takesRow_78 : decode cX8_takesRow 78 = .ok (.if_icmp .ne 7, 3) := by decide +kernel
theorem dX8_takesRow_81 : decode cX8_takesRow 81 = .ok (.iconst 1, 1) := by decide +kernel
theorem dX8_takesRow_82 : decode cX8_takesRow 82 = .ok (.goto 4, 3) := by decide +kernel
theorem dX8_takesRow_85 : decode cX8_takesRow 85 = .ok (.iconst 0, 1) := by decide +kernel
theorem dX8_takesRow_86 : decode cX8_takesRow 86 = .ok (.istore_n 2, 1) := by decide +kernel
theorem dX8_takesRow_87 : decode cX8_takesRow 87 = .ok (.aload_n 0, 1) := by decide +kernel
theorem dX8_takesRow_88 : decode cX8_takesRow 88 = .ok (.dup, 1) := by decide +kernel
theorem dX8_takesRow_89 : decode cX8_takesRow 89 = .ok (.getfield 280, 3) := by decide +kernel
theorem dX8_takesRow_92 : decode cX8_takesRow 92 = .ok (.iload_n 2, 1) := by decide +kernel
theorem dX8_takesRow_93 : decode cX8_takesRow 93 = .ok (.ifCond .eq 7, 3) := by decide +kernel
theorem dX8_takesRow_96 : decode cX8_takesRow 96 = .ok (.iconst 1, 1) := by decide +kernel
theorem dX8_takesRow_97 : decode cX8_takesRow 97 = .ok (.goto 4, 3) := by decide +kernel
theorem dX8_takesRow_100 : decode cX8_takesRow 100 = .ok (.iconst 0, 1) := by decide +kernel
theorem dX8_takesRow_101 : decode cX8_takesRow 101 = .ok (.iadd, 1) := by decide +kernel
theorem dX8_takesRow_102 : decode cX8_takesRow 102 = .ok (.putfield 280, 3) := by decide +kernel
theorem dX8_takesRow_105 : decode cX8_takesRow 105 = .ok (.goto (-47), 3) := by decide +kernel
theorem dX8_takesRow_108 : decode cX8_takesRow 108 = .ok (.iinc 1 1, 3) := by decide +kernel
theorem dX8_takesRow_111 : decode cX8_takesRow 111 = .ok (.goto (-88), 3) := by decide +kernel
theorem dX8_takesRow_114 : decode cX8_takesRow 114 = .ok (.iconst 1, 1) := by decide +kernel
theorem dX8_takesRow_115 : decode cX8_takesRow 115 = .ok (.ireturn, 1) := by decide +kernel
set_option maxRecDepth 20000 in
theorem ggX8_takesRest_X8_takesRow : GoodIn wsX8_takesRest wsX8_takesRow := goodIn_r _ [9, 10, 4, 3, 11, 12, 13, 8, 14, 15, 16, 17, 18, 19, 20, 21, 22, 23, 24, 25, 26, 27, 28, 29, 30, 38, 39, 40, 41, 42, 43, 44, 45, 46, 47, 48, 49, 50, 51, 52, 53, 54, 55, 56, 57, 58, 59, 60, 61] (by decide +kernel) (by decide +kernel)
set_option maxRecDepth 20000 in
theorem gX8_takesRest_X8_takesRow : GoodIn wsX8_takesRest (wsV RX8 299 RX8 yX8_takesRow wsX8_takesRow) := goodIn_app (goodIn_of _ (by decide +kernel)) ggX8_takesRest_X8_takesRow
set_option maxRecDepth 20000 in
theorem ggX8_takesRest_X8_takesFigure : GoodIn wsX8_takesRest wsX8_takesFigure := goodIn_r _ [34, 1, 3, 11, 12, 13, 8, 14, 15, 16, 22, 23, 24, 25, 26, 27, 28, 29, 30, 38, 39, 40, 41, 42, 43, 44, 45, 46, 47, 48, 49, 50, 51, 52, 53, 54, 55, 56, 57, 58, 59, 60, 61] (by decide +kernel) (by decide +kernel)
set_option maxRecDepth 20000 in
theorem gX8_takesRest_X8_takesFigure : GoodIn wsX8_takesRest (wsV RX8 302 RX8 yX8_takesFigure wsX8_takesFigure) := goodIn_app (goodIn_of _ (by decide +kernel)) ggX8_takesRest_X8_takesFigure
set_option maxRecDepth 20000 in
theorem ggX8_takesRest_X8_isPrime : GoodIn wsX8_takesRest wsX8_isPrime := goodIn_r _ [37] (by decide +kernel) (by decide +kernel)
set_option maxRecDepth 20000 in
theorem gX8_takesRest_X8_isPrime : GoodIn wsX8_takesRest (va_wsS RX8 97 yX8_isPrime wsX8_isPrime) := goodIn_app (goodIn_of _ (by decide +kernel)) ggX8_takesRest_X8_isPrime
set_option maxRecDepth 20000 in
theorem ggX8_takesRest_X8_in : GoodIn wsX8_takesRest wsX8_in := goodIn_r _ [30] (by decide +kernel) (by decide +kernel)
set_option maxRecDepth 20000 in
theorem gX8_takesRest_X8_in : GoodIn wsX8_takesRest (va_wsS RX8 69 yX8_in wsX8_in) := goodIn_app (goodIn_of _ (by decide +kernel)) ggX8_takesRest_X8_in
theorem dX8_takesRest_0 : decode cX8_takesRest 0 = .ok (.iload_n 1, 1) := by decide +kernel
theorem dX8_takesRest_1 : decode cX8_takesRest 1 = .ok (.bipush 114, 2) := by decide +kernel
theorem dX8_takesRest_3 : decode cX8_takesRest 3 = .ok (.if_icmp .ne 8, 3) := by decide +kernel
theorem dX8_takesRest_6 : decode cX8_takesRest 6 = .ok (.aload_n 0, 1) := by decide +kernel
theorem dX8_takesRest_7 : decode cX8_takesRest 7 = .ok (.invokevirtual 299, 3) := by decide +kernel
theorem dX8_takesRest_10 : decode cX8_takesRest 10 = .ok (.ireturn, 1) := by decide +kernel
theorem dX8_takesRest_11 : decode cX8_takesRest 11 = .ok (.iload_n 1, 1) := by decide +kernel
theorem dX8_takesRest_12 : decode cX8_takesRest 12 = .ok (.bipush 115, 2) := by decide +kernel
theorem dX8_takesRest_14 : decode cX8_takesRest 14 = .ok (.if_icmp .ne 7, 3) := by decide +kernel
theorem dX8_takesRest_17 : decode cX8_takesRest 17 = .ok (.iconst 4, 1) := by decide +kernel
theorem dX8_takesRest_18 : decode cX8_takesRest 18 = .ok (.goto 4, 3) := by decide +kernel
theorem dX8_takesRest_21 : decode cX8_takesRest 21 = .ok (.iconst 1, 1) := by decide +kernel
theorem dX8_takesRest_22 : decode cX8_takesRest 22 = .ok (.istore_n 2, 1) := by decide +kernel
theorem dX8_takesRest_23 : decode cX8_takesRest 23 = .ok (.iconst 0, 1) := by decide +kernel
theorem dX8_takesRest_24 : decode cX8_takesRest 24 = .ok (.istore_n 3, 1) := by decide +kernel
theorem dX8_takesRest_25 : decode cX8_takesRest 25 = .ok (.iload_n 3, 1) := by decide +kernel
theorem dX8_takesRest_26 : decode cX8_takesRest 26 = .ok (.iload_n 2, 1) := by decide +kernel
theorem dX8_takesRest_27 : decode cX8_takesRest 27 = .ok (.if_icmp .ge 19, 3) := by decide +kernel
theorem dX8_takesRest_30 : decode cX8_takesRest 30 = .ok (.aload_n 0, 1) := by decide +kernel
theorem dX8_takesRest_31 : decode cX8_takesRest 31 = .ok (.iload_n 3, 1) := by decide +kernel
theorem dX8_takesRest_32 : decode cX8_takesRest 32 = .ok (.invokevirtual 302, 3) := by decide +kernel
theorem dX8_takesRest_35 : decode cX8_takesRest 35 = .ok (.ifCond .ne 5, 3) := by decide +kernel
theorem dX8_takesRest_38 : decode cX8_takesRest 38 = .ok (.iconst 0, 1) := by decide +kernel
theorem dX8_takesRest_39 : decode cX8_takesRest 39 = .ok (.ireturn, 1) := by decide +kernel
theorem dX8_takesRest_40 : decode cX8_takesRest 40 = .ok (.iinc 3 1, 3) := by decide +kernel
theorem dX8_takesRest_43 : decode cX8_takesRest 43 = .ok (.goto (-18), 3) := by decide +kernel
theorem dX8_takesRest_46 : decode cX8_takesRest 46 = .ok (.iload_n 1, 1) := by decide +kernel
theorem dX8_takesRest_47 : decode cX8_takesRest 47 = .ok (.bipush 112, 2) := by decide +kernel
theorem dX8_takesRest_49 : decode cX8_takesRest 49 = .ok (.if_icmp .ne 15, 3) := by decide +kernel
theorem dX8_takesRest_52 : decode cX8_takesRest 52 = .ok (.aload_n 0, 1) := by decide +kernel
theorem dX8_takesRest_53 : decode cX8_takesRest 53 = .ok (.getfield 53, 3) := by decide +kernel
theorem dX8_takesRest_56 : decode cX8_takesRest 56 = .ok (.iconst 0, 1) := by decide +kernel
theorem dX8_takesRest_57 : decode cX8_takesRest 57 = .ok (.iaload, 1) := by decide +kernel
theorem dX8_takesRest_58 : decode cX8_takesRest 58 = .ok (.invokestatic 97, 3) := by decide +kernel
theorem dX8_takesRest_61 : decode cX8_takesRest 61 = .ok (.goto 31, 3) := by decide +kernel
theorem dX8_takesRest_64 : decode cX8_takesRest 64 = .ok (.iload_n 1, 1) := by decide +kernel
theorem dX8_takesRest_65 : decode cX8_takesRest 65 = .ok (.bipush 99, 2) := by decide +kernel
theorem dX8_takesRest_67 : decode cX8_takesRest 67 = .ok (.if_icmp .ne 20, 3) := by decide +kernel
theorem dX8_takesRest_70 : decode cX8_takesRest 70 = .ok (.aload_n 0, 1) := by decide +kernel
theorem dX8_takesRest_71 : decode cX8_takesRest 71 = .ok (.getfield 53, 3) := by decide +kernel
theorem dX8_takesRest_74 : decode cX8_takesRest 74 = .ok (.iconst 0, 1) := by decide +kernel
theorem dX8_takesRest_75 : decode cX8_takesRest 75 = .ok (.iaload, 1) := by decide +kernel
theorem dX8_takesRest_76 : decode cX8_takesRest 76 = .ok (.i2l, 1) := by decide +kernel
theorem dX8_takesRest_77 : decode cX8_takesRest 77 = .ok (.lconst 1, 1) := by decide +kernel
theorem dX8_takesRest_78 : decode cX8_takesRest 78 = .ok (.ldc2_w 110, 3) := by decide +kernel
theorem dX8_takesRest_81 : decode cX8_takesRest 81 = .ok (.invokestatic 69, 3) := by decide +kernel
theorem dX8_takesRest_84 : decode cX8_takesRest 84 = .ok (.ifCond .eq 7, 3) := by decide +kernel
theorem dX8_takesRest_87 : decode cX8_takesRest 87 = .ok (.iconst 1, 1) := by decide +kernel
theorem dX8_takesRest_88 : decode cX8_takesRest 88 = .ok (.goto 4, 3) := by decide +kernel
theorem dX8_takesRest_91 : decode cX8_takesRest 91 = .ok (.iconst 0, 1) := by decide +kernel
theorem dX8_takesRest_92 : decode cX8_takesRest 92 = .ok (.istore_n 3, 1) := by decide +kernel
theorem dX8_takesRest_93 : decode cX8_takesRest 93 = .ok (.aload_n 0, 1) := by decide +kernel
theorem dX8_takesRest_94 : decode cX8_takesRest 94 = .ok (.dup, 1) := by decide +kernel
theorem dX8_takesRest_95 : decode cX8_takesRest 95 = .ok (.getfield 280, 3) := by decide +kernel
theorem dX8_takesRest_98 : decode cX8_takesRest 98 = .ok (.iload_n 3, 1) := by decide +kernel
theorem dX8_takesRest_99 : decode cX8_takesRest 99 = .ok (.ifCond .eq 7, 3) := by decide +kernel
theorem dX8_takesRest_102 : decode cX8_takesRest 102 = .ok (.iconst 0, 1) := by decide +kernel
theorem dX8_takesRest_103 : decode cX8_takesRest 103 = .ok (.goto 4, 3) := by decide +kernel
theorem dX8_takesRest_106 : decode cX8_takesRest 106 = .ok (.iconst 1, 1) := by decide +kernel
theorem dX8_takesRest_107 : decode cX8_takesRest 107 = .ok (.isub, 1) := by decide +kernel
theorem dX8_takesRest_108 : decode cX8_takesRest 108 = .ok (.putfield 280, 3) := by decide +kernel
theorem dX8_takesRest_111 : decode cX8_takesRest 111 = .ok (.aload_n 0, 1) := by decide +kernel
theorem dX8_takesRest_112 : decode cX8_takesRest 112 = .ok (.iload_n 1, 1) := by decide +kernel
theorem dX8_takesRest_113 : decode cX8_takesRest 113 = .ok (.bipush 99, 2) := by decide +kernel
theorem dX8_takesRest_115 : decode cX8_takesRest 115 = .ok (.if_icmp .ne 16, 3) := by decide +kernel
theorem dX8_takesRest_118 : decode cX8_takesRest 118 = .ok (.iload_n 3, 1) := by decide +kernel
theorem dX8_takesRest_119 : decode cX8_takesRest 119 = .ok (.ifCond .eq 12, 3) := by decide +kernel
theorem dX8_takesRest_122 : decode cX8_takesRest 122 = .ok (.aload_n 0, 1) := by decide +kernel
theorem dX8_takesRest_123 : decode cX8_takesRest 123 = .ok (.getfield 53, 3) := by decide +kernel
theorem dX8_takesRest_126 : decode cX8_takesRest 126 = .ok (.iconst 0, 1) := by decide +kernel
theorem dX8_takesRest_127 : decode cX8_takesRest 127 = .ok (.iaload, 1) := by decide +kernel
theorem dX8_takesRest_128 : decode cX8_takesRest 128 = .ok (.goto 7, 3) := by decide +kernel
theorem dX8_takesRest_131 : decode cX8_takesRest 131 = .ok (.aload_n 0, 1) := by decide +kernel
theorem dX8_takesRest_132 : decode cX8_takesRest 132 = .ok (.getfield 293, 3) := by decide +kernel
theorem dX8_takesRest_135 : decode cX8_takesRest 135 = .ok (.putfield 293, 3) := by decide +kernel
theorem dX8_takesRest_138 : decode cX8_takesRest 138 = .ok (.iload_n 3, 1) := by decide +kernel
theorem dX8_takesRest_139 : decode cX8_takesRest 139 = .ok (.ireturn, 1) := by decide +kernel
set_option maxRecDepth 20000 in
theorem ggX8_can_X8_rows : GoodIn wsX8_can wsX8_rows := goodIn_r _ [6, 7, 51, 52, 53, 54, 55, 56, 57, 58, 59, 60, 61, 62, 63, 64, 65, 66, 67, 68, 69, 70, 71, 72, 73, 74] (by decide +kernel) (by decide +kernel)
set_option maxRecDepth 20000 in
theorem gX8_can_X8_rows : GoodIn wsX8_can (wsV RX8 65 RX8 yX8_rows wsX8_rows) := goodIn_app (goodIn_of _ (by decide +kernel)) ggX8_can_X8_rows
set_option maxRecDepth 20000 in
theorem ggX8_can_X8_isRow : GoodIn wsX8_can wsX8_isRow := goodIn_r _ [11, 2, 3, 4, 5, 6, 7, 12, 13, 14, 51, 52, 53, 54, 55, 56, 57, 58, 59, 60, 61, 62, 63, 64, 65, 66, 67, 68, 69, 70, 71, 72, 73, 74] (by decide +kernel) (by decide +kernel)
set_option maxRecDepth 20000 in
theorem gX8_can_X8_isRow : GoodIn wsX8_can (wsV RX8 118 RX8 yX8_isRow wsX8_isRow) := goodIn_app (goodIn_of _ (by decide +kernel)) ggX8_can_X8_isRow
set_option maxRecDepth 20000 in
theorem ggX8_can_X8_canStep : GoodIn wsX8_can wsX8_canStep := goodIn_r _ [18, 19, 8, 9, 10, 5, 11, 2, 3, 4, 6, 7, 12, 13, 14, 20, 21, 22, 23, 24, 25, 26, 27, 28, 29, 30, 31, 32, 33, 34, 35, 36, 37, 38, 51, 52, 53, 54, 55, 56, 57, 58, 59, 60, 61, 62, 63, 64, 65, 66, 67, 68, 69, 70, 71, 72, 73, 74] (by decide +kernel) (by decide +kernel)
set_option maxRecDepth 20000 in
theorem gX8_can_X8_canStep : GoodIn wsX8_can (wsV RX8 132 RX8 yX8_canStep wsX8_canStep) := goodIn_app (goodIn_of _ (by decide +kernel)) ggX8_can_X8_canStep
set_option maxRecDepth 20000 in
theorem ggX8_can_X8_canMonic : GoodIn wsX8_can wsX8_canMonic := goodIn_r _ [42, 8, 9, 10, 5, 11, 2, 3, 4, 6, 7, 12, 13, 14, 43, 44, 45, 46, 47, 48, 49, 50, 28, 29, 30, 31, 32, 33, 34, 35, 36, 37, 38, 24, 25, 26, 27, 51, 52, 53, 54, 55, 56, 57, 58, 59, 60, 61, 62, 63, 64, 65, 66, 67, 68, 69, 70, 71, 72, 73, 74] (by decide +kernel) (by decide +kernel)
set_option maxRecDepth 20000 in
theorem gX8_can_X8_canMonic : GoodIn wsX8_can (wsV RX8 145 RX8 yX8_canMonic wsX8_canMonic) := goodIn_app (goodIn_of _ (by decide +kernel)) ggX8_can_X8_canMonic
theorem dX8_can_0 : decode cX8_can 0 = .ok (.iload_n 1, 1) := by decide +kernel
theorem dX8_can_1 : decode cX8_can 1 = .ok (.lookupswitch 118 #[(109, 107), (114, 43), (115, 78), (120, 58)], 43) := by decide +kernel
theorem dX8_can_44 : decode cX8_can 44 = .ok (.aload_n 0, 1) := by decide +kernel
theorem dX8_can_45 : decode cX8_can 45 = .ok (.invokevirtual 65, 3) := by decide +kernel
theorem dX8_can_48 : decode cX8_can 48 = .ok (.iconst 5, 1) := by decide +kernel
theorem dX8_can_49 : decode cX8_can 49 = .ok (.if_icmp .ne 8, 3) := by decide +kernel
theorem dX8_can_52 : decode cX8_can 52 = .ok (.bipush (-4), 2) := by decide +kernel
theorem dX8_can_54 : decode cX8_can 54 = .ok (.goto 4, 3) := by decide +kernel
theorem dX8_can_57 : decode cX8_can 57 = .ok (.iconst 0, 1) := by decide +kernel
theorem dX8_can_58 : decode cX8_can 58 = .ok (.ireturn, 1) := by decide +kernel
theorem dX8_can_59 : decode cX8_can 59 = .ok (.aload_n 0, 1) := by decide +kernel
theorem dX8_can_60 : decode cX8_can 60 = .ok (.aload_n 0, 1) := by decide +kernel
theorem dX8_can_61 : decode cX8_can 61 = .ok (.getfield 53, 3) := by decide +kernel
theorem dX8_can_64 : decode cX8_can 64 = .ok (.iconst 0, 1) := by decide +kernel
theorem dX8_can_65 : decode cX8_can 65 = .ok (.iaload, 1) := by decide +kernel
theorem dX8_can_66 : decode cX8_can 66 = .ok (.invokevirtual 118, 3) := by decide +kernel
theorem dX8_can_69 : decode cX8_can 69 = .ok (.ifCond .eq 7, 3) := by decide +kernel
theorem dX8_can_72 : decode cX8_can 72 = .ok (.iconst 0, 1) := by decide +kernel
theorem dX8_can_73 : decode cX8_can 73 = .ok (.goto 5, 3) := by decide +kernel
theorem dX8_can_76 : decode cX8_can 76 = .ok (.bipush (-2), 2) := by decide +kernel
theorem dX8_can_78 : decode cX8_can 78 = .ok (.ireturn, 1) := by decide +kernel
theorem dX8_can_79 : decode cX8_can 79 = .ok (.aload_n 0, 1) := by decide +kernel
theorem dX8_can_80 : decode cX8_can 80 = .ok (.aload_n 0, 1) := by decide +kernel
theorem dX8_can_81 : decode cX8_can 81 = .ok (.getfield 53, 3) := by decide +kernel
theorem dX8_can_84 : decode cX8_can 84 = .ok (.iconst 0, 1) := by decide +kernel
theorem dX8_can_85 : decode cX8_can 85 = .ok (.iaload, 1) := by decide +kernel
theorem dX8_can_86 : decode cX8_can 86 = .ok (.aload_n 0, 1) := by decide +kernel
theorem dX8_can_87 : decode cX8_can 87 = .ok (.getfield 53, 3) := by decide +kernel
theorem dX8_can_90 : decode cX8_can 90 = .ok (.iconst 1, 1) := by decide +kernel
theorem dX8_can_91 : decode cX8_can 91 = .ok (.iaload, 1) := by decide +kernel
theorem dX8_can_92 : decode cX8_can 92 = .ok (.aload_n 0, 1) := by decide +kernel
theorem dX8_can_93 : decode cX8_can 93 = .ok (.getfield 53, 3) := by decide +kernel
theorem dX8_can_96 : decode cX8_can 96 = .ok (.iconst 2, 1) := by decide +kernel
theorem dX8_can_97 : decode cX8_can 97 = .ok (.iaload, 1) := by decide +kernel
theorem dX8_can_98 : decode cX8_can 98 = .ok (.aload_n 0, 1) := by decide +kernel
theorem dX8_can_99 : decode cX8_can 99 = .ok (.getfield 53, 3) := by decide +kernel
theorem dX8_can_102 : decode cX8_can 102 = .ok (.iconst 3, 1) := by decide +kernel
theorem dX8_can_103 : decode cX8_can 103 = .ok (.iaload, 1) := by decide +kernel
theorem dX8_can_104 : decode cX8_can 104 = .ok (.invokevirtual 132, 3) := by decide +kernel
theorem dX8_can_107 : decode cX8_can 107 = .ok (.ireturn, 1) := by decide +kernel
theorem dX8_can_108 : decode cX8_can 108 = .ok (.aload_n 0, 1) := by decide +kernel
theorem dX8_can_109 : decode cX8_can 109 = .ok (.aload_n 0, 1) := by decide +kernel
theorem dX8_can_110 : decode cX8_can 110 = .ok (.getfield 53, 3) := by decide +kernel
theorem dX8_can_113 : decode cX8_can 113 = .ok (.iconst 0, 1) := by decide +kernel
theorem dX8_can_114 : decode cX8_can 114 = .ok (.iaload, 1) := by decide +kernel
theorem dX8_can_115 : decode cX8_can 115 = .ok (.invokevirtual 145, 3) := by decide +kernel
theorem dX8_can_118 : decode cX8_can 118 = .ok (.ireturn, 1) := by decide +kernel
theorem dX8_can_119 : decode cX8_can 119 = .ok (.iconst 0, 1) := by decide +kernel
theorem dX8_can_120 : decode cX8_can 120 = .ok (.ireturn, 1) := by decide +kernel
set_option maxRecDepth 20000 in
theorem ggX8_laysRow_X8_rowNow : GoodIn wsX8_laysRow wsX8_rowNow := goodIn_r _ [7, 1, 8, 9, 10, 6, 11, 12, 13, 14, 27, 28, 29, 30, 31, 32, 33, 34, 35, 36, 37, 38, 39, 40, 41, 42, 43, 44, 45, 46, 47, 48, 49, 50] (by decide +kernel) (by decide +kernel)
set_option maxRecDepth 20000 in
theorem gX8_laysRow_X8_rowNow : GoodIn wsX8_laysRow (wsV RX8 115 RX8 yX8_rowNow wsX8_rowNow) := goodIn_app (goodIn_of _ (by decide +kernel)) ggX8_laysRow_X8_rowNow
set_option maxRecDepth 20000 in
theorem ggX8_laysRow_X8_width : GoodIn wsX8_laysRow wsX8_width := goodIn_r _ [18, 1, 27, 28, 29, 30, 31, 32, 33, 34, 35, 36, 37, 38, 39, 40, 41, 42, 43, 44, 45, 46, 47, 48, 49, 50] (by decide +kernel) (by decide +kernel)
set_option maxRecDepth 20000 in
theorem gX8_laysRow_X8_width : GoodIn wsX8_laysRow (wsV RX8 73 RX8 yX8_width wsX8_width) := goodIn_app (goodIn_of _ (by decide +kernel)) ggX8_laysRow_X8_width
set_option maxRecDepth 20000 in
theorem ggX8_laysRow_X8_place : GoodIn wsX8_laysRow wsX8_place := goodIn_r _ [14] (by decide +kernel) (by decide +kernel)
set_option maxRecDepth 20000 in
theorem gX8_laysRow_X8_place : GoodIn wsX8_laysRow (va_wsS RX8 79 yX8_place wsX8_place) := goodIn_app (goodIn_of _ (by decide +kernel)) ggX8_laysRow_X8_place
set_option maxRecDepth 20000 in
theorem ggX8_laysRow_X8_left : GoodIn wsX8_laysRow wsX8_left := goodIn_r _ [22, 23, 24, 25, 6, 26, 1, 27, 28, 29, 30, 31, 32, 33, 34, 35, 36, 37, 38, 39, 40, 41, 42, 43, 44, 45, 46, 47, 48, 49, 50] (by decide +kernel) (by decide +kernel)
set_option maxRecDepth 20000 in
theorem gX8_laysRow_X8_left : GoodIn wsX8_laysRow (wsV RX8 126 RX8 yX8_left wsX8_left) := goodIn_app (goodIn_of _ (by decide +kernel)) ggX8_laysRow_X8_left
theorem dX8_laysRow_0 : decode cX8_laysRow 0 = .ok (.aload_n 0, 1) := by decide +kernel
theorem dX8_laysRow_1 : decode cX8_laysRow 1 = .ok (.invokevirtual 115, 3) := by decide +kernel
theorem dX8_laysRow_4 : decode cX8_laysRow 4 = .ok (.istore_n 1, 1) := by decide +kernel
theorem dX8_laysRow_5 : decode cX8_laysRow 5 = .ok (.iconst 0, 1) := by decide +kernel
theorem dX8_laysRow_6 : decode cX8_laysRow 6 = .ok (.istore_n 2, 1) := by decide +kernel
theorem dX8_laysRow_7 : decode cX8_laysRow 7 = .ok (.iload_n 2, 1) := by decide +kernel
theorem dX8_laysRow_8 : decode cX8_laysRow 8 = .ok (.aload_n 0, 1) := by decide +kernel
theorem dX8_laysRow_9 : decode cX8_laysRow 9 = .ok (.invokevirtual 73, 3) := by decide +kernel
theorem dX8_laysRow_12 : decode cX8_laysRow 12 = .ok (.bipush 7, 2) := by decide +kernel
theorem dX8_laysRow_14 : decode cX8_laysRow 14 = .ok (.imul, 1) := by decide +kernel
theorem dX8_laysRow_15 : decode cX8_laysRow 15 = .ok (.if_icmp .ge 30, 3) := by decide +kernel
theorem dX8_laysRow_18 : decode cX8_laysRow 18 = .ok (.aload_n 0, 1) := by decide +kernel
theorem dX8_laysRow_19 : decode cX8_laysRow 19 = .ok (.getfield 7, 3) := by decide +kernel
theorem dX8_laysRow_22 : decode cX8_laysRow 22 = .ok (.iload_n 1, 1) := by decide +kernel
theorem dX8_laysRow_23 : decode cX8_laysRow 23 = .ok (.iconst 0, 1) := by decide +kernel
theorem dX8_laysRow_24 : decode cX8_laysRow 24 = .ok (.iload_n 2, 1) := by decide +kernel
theorem dX8_laysRow_25 : decode cX8_laysRow 25 = .ok (.invokestatic 79, 3) := by decide +kernel
theorem dX8_laysRow_28 : decode cX8_laysRow 28 = .ok (.aload_n 0, 1) := by decide +kernel
theorem dX8_laysRow_29 : decode cX8_laysRow 29 = .ok (.aload_n 0, 1) := by decide +kernel
theorem dX8_laysRow_30 : decode cX8_laysRow 30 = .ok (.getfield 56, 3) := by decide +kernel
theorem dX8_laysRow_33 : decode cX8_laysRow 33 = .ok (.iload_n 2, 1) := by decide +kernel
theorem dX8_laysRow_34 : decode cX8_laysRow 34 = .ok (.iaload, 1) := by decide +kernel
theorem dX8_laysRow_35 : decode cX8_laysRow 35 = .ok (.invokevirtual 126, 3) := by decide +kernel
theorem dX8_laysRow_38 : decode cX8_laysRow 38 = .ok (.iastore, 1) := by decide +kernel
theorem dX8_laysRow_39 : decode cX8_laysRow 39 = .ok (.iinc 2 1, 3) := by decide +kernel
theorem dX8_laysRow_42 : decode cX8_laysRow 42 = .ok (.goto (-35), 3) := by decide +kernel
theorem dX8_laysRow_45 : decode cX8_laysRow 45 = .ok (.iload_n 1, 1) := by decide +kernel
theorem dX8_laysRow_46 : decode cX8_laysRow 46 = .ok (.ireturn, 1) := by decide +kernel
set_option maxRecDepth 20000 in
theorem ggX8_does_X8_primeNow : GoodIn wsX8_does wsX8_primeNow := goodIn_r _ [6, 7, 8, 9, 10, 5, 11, 12, 13, 14, 15, 76, 77, 78, 79, 80, 81, 82, 83, 84, 85, 86, 87, 88, 89, 90, 91, 92, 93, 94, 95, 96, 97, 98, 99] (by decide +kernel) (by decide +kernel)
set_option maxRecDepth 20000 in
theorem gX8_does_X8_primeNow : GoodIn wsX8_does (wsV RX8 107 RX8 yX8_primeNow wsX8_primeNow) := goodIn_app (goodIn_of _ (by decide +kernel)) ggX8_does_X8_primeNow
set_option maxRecDepth 20000 in
theorem ggX8_does_X8_columnsNow : GoodIn wsX8_does wsX8_columnsNow := goodIn_r _ [19, 7, 20, 21, 22, 5, 23, 12, 13, 14, 15, 76, 77, 78, 79, 80, 81, 82, 83, 84, 85, 86, 87, 88, 89, 90, 91, 92, 93, 94, 95, 96, 97, 98, 99] (by decide +kernel) (by decide +kernel)
set_option maxRecDepth 20000 in
theorem gX8_does_X8_columnsNow : GoodIn wsX8_does (wsV RX8 112 RX8 yX8_columnsNow wsX8_columnsNow) := goodIn_app (goodIn_of _ (by decide +kernel)) ggX8_does_X8_columnsNow
set_option maxRecDepth 20000 in
theorem ggX8_does_X8_laysRow : GoodIn wsX8_does wsX8_laysRow := goodIn_r _ [27, 7, 28, 29, 30, 31, 5, 32, 33, 34, 35, 36, 37, 38, 39, 20, 21, 22, 23, 40, 41, 42, 43, 8, 9, 10, 11, 76, 77, 78, 79, 80, 81, 82, 83, 84, 85, 86, 87, 88, 89, 90, 91, 92, 93, 94, 95, 96, 97, 98, 99] (by decide +kernel) (by decide +kernel)
set_option maxRecDepth 20000 in
theorem gX8_does_X8_laysRow : GoodIn wsX8_does (wsV RX8 305 RX8 yX8_laysRow wsX8_laysRow) := goodIn_app (goodIn_of _ (by decide +kernel)) ggX8_does_X8_laysRow
set_option maxRecDepth 20000 in
theorem ggX8_does_X8_dropNow : GoodIn wsX8_does wsX8_dropNow := goodIn_r _ [47, 7, 37, 38, 5, 39, 33, 34, 35, 36, 76, 77, 78, 79, 80, 81, 82, 83, 84, 85, 86, 87, 88, 89, 90, 91, 92, 93, 94, 95, 96, 97, 98, 99] (by decide +kernel) (by decide +kernel)
set_option maxRecDepth 20000 in
theorem gX8_does_X8_dropNow : GoodIn wsX8_does (wsV RX8 129 RX8 yX8_dropNow wsX8_dropNow) := goodIn_app (goodIn_of _ (by decide +kernel)) ggX8_does_X8_dropNow
set_option maxRecDepth 20000 in
theorem ggX8_does_X8_stepNow : GoodIn wsX8_does wsX8_stepNow := goodIn_r _ [51, 7, 20, 21, 22, 5, 23, 37, 38, 39, 40, 41, 42, 43, 8, 9, 10, 11, 52, 53, 54, 55, 56, 57, 58, 59, 76, 77, 78, 79, 80, 81, 82, 83, 84, 85, 86, 87, 88, 89, 90, 91, 92, 93, 94, 95, 96, 97, 98, 99] (by decide +kernel) (by decide +kernel)
set_option maxRecDepth 20000 in
theorem gX8_does_X8_stepNow : GoodIn wsX8_does (wsV RX8 136 RX8 yX8_stepNow wsX8_stepNow) := goodIn_app (goodIn_of _ (by decide +kernel)) ggX8_does_X8_stepNow
set_option maxRecDepth 20000 in
theorem ggX8_does_X8_monicNow : GoodIn wsX8_does wsX8_monicNow := goodIn_r _ [63, 7, 64, 65, 66, 5, 67, 68, 69, 70, 71, 20, 21, 22, 23, 56, 57, 58, 59, 37, 38, 39, 52, 53, 54, 55, 72, 73, 74, 75, 8, 9, 10, 11, 40, 41, 42, 43, 76, 77, 78, 79, 80, 81, 82, 83, 84, 85, 86, 87, 88, 89, 90, 91, 92, 93, 94, 95, 96, 97, 98, 99] (by decide +kernel) (by decide +kernel)
set_option maxRecDepth 20000 in
theorem gX8_does_X8_monicNow : GoodIn wsX8_does (wsV RX8 148 RX8 yX8_monicNow wsX8_monicNow) := goodIn_app (goodIn_of _ (by decide +kernel)) ggX8_does_X8_monicNow
theorem dX8_does_0 : decode cX8_does 0 = .ok (.aload_n 0, 1) := by decide +kernel
theorem dX8_does_1 : decode cX8_does 1 = .ok (.getfield 53, 3) := by decide +kernel
theorem dX8_does_4 : decode cX8_does 4 = .ok (.iconst 0, 1) := by decide +kernel
theorem dX8_does_5 : decode cX8_does 5 = .ok (.iaload, 1) := by decide +kernel
theorem dX8_does_6 : decode cX8_does 6 = .ok (.istore_n 2, 1) := by decide +kernel
theorem dX8_does_7 : decode cX8_does 7 = .ok (.iload_n 1, 1) := by decide +kernel
theorem dX8_does_8 : decode cX8_does 8 = .ok (.bipush 112, 2) := by decide +kernel
theorem dX8_does_10 : decode cX8_does 10 = .ok (.if_icmp .ne 11, 3) := by decide +kernel
theorem dX8_does_13 : decode cX8_does 13 = .ok (.aload_n 0, 1) := by decide +kernel
theorem dX8_does_14 : decode cX8_does 14 = .ok (.iload_n 2, 1) := by decide +kernel
theorem dX8_does_15 : decode cX8_does 15 = .ok (.invokevirtual 107, 3) := by decide +kernel
theorem dX8_does_18 : decode cX8_does 18 = .ok (.goto 81, 3) := by decide +kernel
theorem dX8_does_21 : decode cX8_does 21 = .ok (.iload_n 1, 1) := by decide +kernel
theorem dX8_does_22 : decode cX8_does 22 = .ok (.bipush 99, 2) := by decide +kernel
theorem dX8_does_24 : decode cX8_does 24 = .ok (.if_icmp .ne 11, 3) := by decide +kernel
theorem dX8_does_27 : decode cX8_does 27 = .ok (.aload_n 0, 1) := by decide +kernel
theorem dX8_does_28 : decode cX8_does 28 = .ok (.iload_n 2, 1) := by decide +kernel
theorem dX8_does_29 : decode cX8_does 29 = .ok (.invokevirtual 112, 3) := by decide +kernel
theorem dX8_does_32 : decode cX8_does 32 = .ok (.goto 67, 3) := by decide +kernel
theorem dX8_does_35 : decode cX8_does 35 = .ok (.iload_n 1, 1) := by decide +kernel
theorem dX8_does_36 : decode cX8_does 36 = .ok (.bipush 114, 2) := by decide +kernel
theorem dX8_does_38 : decode cX8_does 38 = .ok (.if_icmp .ne 10, 3) := by decide +kernel
theorem dX8_does_41 : decode cX8_does 41 = .ok (.aload_n 0, 1) := by decide +kernel
theorem dX8_does_42 : decode cX8_does 42 = .ok (.invokevirtual 305, 3) := by decide +kernel
theorem dX8_does_45 : decode cX8_does 45 = .ok (.goto 54, 3) := by decide +kernel
theorem dX8_does_48 : decode cX8_does 48 = .ok (.iload_n 1, 1) := by decide +kernel
theorem dX8_does_49 : decode cX8_does 49 = .ok (.bipush 120, 2) := by decide +kernel
theorem dX8_does_51 : decode cX8_does 51 = .ok (.if_icmp .ne 11, 3) := by decide +kernel
theorem dX8_does_54 : decode cX8_does 54 = .ok (.aload_n 0, 1) := by decide +kernel
theorem dX8_does_55 : decode cX8_does 55 = .ok (.iload_n 2, 1) := by decide +kernel
theorem dX8_does_56 : decode cX8_does 56 = .ok (.invokevirtual 129, 3) := by decide +kernel
theorem dX8_does_59 : decode cX8_does 59 = .ok (.goto 40, 3) := by decide +kernel
theorem dX8_does_62 : decode cX8_does 62 = .ok (.iload_n 1, 1) := by decide +kernel
theorem dX8_does_63 : decode cX8_does 63 = .ok (.bipush 115, 2) := by decide +kernel
theorem dX8_does_65 : decode cX8_does 65 = .ok (.if_icmp .ne 29, 3) := by decide +kernel
theorem dX8_does_68 : decode cX8_does 68 = .ok (.aload_n 0, 1) := by decide +kernel
theorem dX8_does_69 : decode cX8_does 69 = .ok (.iload_n 2, 1) := by decide +kernel
theorem dX8_does_70 : decode cX8_does 70 = .ok (.aload_n 0, 1) := by decide +kernel
theorem dX8_does_71 : decode cX8_does 71 = .ok (.getfield 53, 3) := by decide +kernel
theorem dX8_does_74 : decode cX8_does 74 = .ok (.iconst 1, 1) := by decide +kernel
theorem dX8_does_75 : decode cX8_does 75 = .ok (.iaload, 1) := by decide +kernel
theorem dX8_does_76 : decode cX8_does 76 = .ok (.aload_n 0, 1) := by decide +kernel
theorem dX8_does_77 : decode cX8_does 77 = .ok (.getfield 53, 3) := by decide +kernel
theorem dX8_does_80 : decode cX8_does 80 = .ok (.iconst 2, 1) := by decide +kernel
theorem dX8_does_81 : decode cX8_does 81 = .ok (.iaload, 1) := by decide +kernel
theorem dX8_does_82 : decode cX8_does 82 = .ok (.aload_n 0, 1) := by decide +kernel
theorem dX8_does_83 : decode cX8_does 83 = .ok (.getfield 53, 3) := by decide +kernel
theorem dX8_does_86 : decode cX8_does 86 = .ok (.iconst 3, 1) := by decide +kernel
theorem dX8_does_87 : decode cX8_does 87 = .ok (.iaload, 1) := by decide +kernel
theorem dX8_does_88 : decode cX8_does 88 = .ok (.invokevirtual 136, 3) := by decide +kernel
theorem dX8_does_91 : decode cX8_does 91 = .ok (.goto 8, 3) := by decide +kernel
theorem dX8_does_94 : decode cX8_does 94 = .ok (.aload_n 0, 1) := by decide +kernel
theorem dX8_does_95 : decode cX8_does 95 = .ok (.iload_n 2, 1) := by decide +kernel
theorem dX8_does_96 : decode cX8_does 96 = .ok (.invokevirtual 148, 3) := by decide +kernel
theorem dX8_does_99 : decode cX8_does 99 = .ok (.istore_n 3, 1) := by decide +kernel
theorem dX8_does_100 : decode cX8_does 100 = .ok (.return_, 1) := by decide +kernel
theorem dX8_isLetter_0 : decode cX8_isLetter 0 = .ok (.iload_n 0, 1) := by decide +kernel
theorem dX8_isLetter_1 : decode cX8_isLetter 1 = .ok (.bipush 112, 2) := by decide +kernel
theorem dX8_isLetter_3 : decode cX8_isLetter 3 = .ok (.if_icmp .eq 33, 3) := by decide +kernel
theorem dX8_isLetter_6 : decode cX8_isLetter 6 = .ok (.iload_n 0, 1) := by decide +kernel
theorem dX8_isLetter_7 : decode cX8_isLetter 7 = .ok (.bipush 99, 2) := by decide +kernel
theorem dX8_isLetter_9 : decode cX8_isLetter 9 = .ok (.if_icmp .eq 27, 3) := by decide +kernel
theorem dX8_isLetter_12 : decode cX8_isLetter 12 = .ok (.iload_n 0, 1) := by decide +kernel
theorem dX8_isLetter_13 : decode cX8_isLetter 13 = .ok (.bipush 114, 2) := by decide +kernel
theorem dX8_isLetter_15 : decode cX8_isLetter 15 = .ok (.if_icmp .eq 21, 3) := by decide +kernel
theorem dX8_isLetter_18 : decode cX8_isLetter 18 = .ok (.iload_n 0, 1) := by decide +kernel
theorem dX8_isLetter_19 : decode cX8_isLetter 19 = .ok (.bipush 120, 2) := by decide +kernel
theorem dX8_isLetter_21 : decode cX8_isLetter 21 = .ok (.if_icmp .eq 15, 3) := by decide +kernel
theorem dX8_isLetter_24 : decode cX8_isLetter 24 = .ok (.iload_n 0, 1) := by decide +kernel
theorem dX8_isLetter_25 : decode cX8_isLetter 25 = .ok (.bipush 115, 2) := by decide +kernel
theorem dX8_isLetter_27 : decode cX8_isLetter 27 = .ok (.if_icmp .eq 9, 3) := by decide +kernel
theorem dX8_isLetter_30 : decode cX8_isLetter 30 = .ok (.iload_n 0, 1) := by decide +kernel
theorem dX8_isLetter_31 : decode cX8_isLetter 31 = .ok (.bipush 109, 2) := by decide +kernel
theorem dX8_isLetter_33 : decode cX8_isLetter 33 = .ok (.if_icmp .ne 7, 3) := by decide +kernel
theorem dX8_isLetter_36 : decode cX8_isLetter 36 = .ok (.iconst 1, 1) := by decide +kernel
theorem dX8_isLetter_37 : decode cX8_isLetter 37 = .ok (.goto 4, 3) := by decide +kernel
theorem dX8_isLetter_40 : decode cX8_isLetter 40 = .ok (.iconst 0, 1) := by decide +kernel
theorem dX8_isLetter_41 : decode cX8_isLetter 41 = .ok (.ireturn, 1) := by decide +kernel
set_option maxRecDepth 20000 in
theorem ggX8_readsOrder_X8_here : GoodIn wsX8_readsOrder wsX8_here := goodIn_r _ [8, 1, 9, 10, 139, 140, 141, 142, 143, 144, 145, 146, 147, 148, 149, 150, 151, 152, 153, 154, 155, 156, 157, 158, 159, 160, 161, 162] (by decide +kernel) (by decide +kernel)
set_option maxRecDepth 20000 in
theorem gX8_readsOrder_X8_here : GoodIn wsX8_readsOrder (wsV RX8 287 RX8 yX8_here wsX8_here) := goodIn_app (goodIn_of _ (by decide +kernel)) ggX8_readsOrder_X8_here
set_option maxRecDepth 20000 in
theorem ggX8_readsOrder_X8_isLetter : GoodIn wsX8_readsOrder wsX8_isLetter := goodIn_r _ [13] (by decide +kernel) (by decide +kernel)
set_option maxRecDepth 20000 in
theorem gX8_readsOrder_X8_isLetter : GoodIn wsX8_readsOrder (va_wsS RX8 308 yX8_isLetter wsX8_isLetter) := goodIn_app (goodIn_of _ (by decide +kernel)) ggX8_readsOrder_X8_isLetter
set_option maxRecDepth 20000 in
theorem ggX8_readsOrder_X8_takesRest : GoodIn wsX8_readsOrder wsX8_takesRest := goodIn_r _ [17, 18, 19, 1, 20, 21, 22, 23, 7, 24, 25, 4, 5, 6, 8, 9, 10, 26, 27, 28, 29, 30, 31, 32, 33, 34, 35, 36, 37, 38, 39, 40, 41, 42, 43, 44, 45, 46, 139, 140, 141, 142, 143, 144, 145, 146, 147, 148, 149, 150, 151, 152, 153, 154, 155, 156, 157, 158, 159, 160, 161, 162] (by decide +kernel) (by decide +kernel)
set_option maxRecDepth 20000 in
theorem gX8_readsOrder_X8_takesRest : GoodIn wsX8_readsOrder (wsV RX8 311 RX8 yX8_takesRest wsX8_takesRest) := goodIn_app (goodIn_of _ (by decide +kernel)) ggX8_readsOrder_X8_takesRest
set_option maxRecDepth 20000 in
theorem ggX8_readsOrder_X8_can : GoodIn wsX8_readsOrder wsX8_can := goodIn_r _ [50, 18, 51, 52, 53, 7, 54, 55, 56, 57, 58, 59, 37, 38, 39, 60, 61, 62, 63, 30, 64, 65, 66, 67, 68, 69, 70, 71, 72, 73, 74, 75, 76, 77, 78, 79, 80, 81, 82, 83, 84, 85, 86, 87, 88, 89, 90, 91, 92, 93, 94, 139, 140, 141, 142, 143, 144, 145, 146, 147, 148, 149, 150, 151, 152, 153, 154, 155, 156, 157, 158, 159, 160, 161, 162] (by decide +kernel) (by decide +kernel)
set_option maxRecDepth 20000 in
theorem gX8_readsOrder_X8_can : GoodIn wsX8_readsOrder (wsV RX8 314 RX8 yX8_can wsX8_can) := goodIn_app (goodIn_of _ (by decide +kernel)) ggX8_readsOrder_X8_can
set_option maxRecDepth 20000 in
theorem ggX8_readsOrder_X8_does : GoodIn wsX8_readsOrder wsX8_does := goodIn_r _ [98, 18, 99, 100, 101, 7, 102, 55, 64, 65, 66, 67, 103, 104, 105, 106, 107, 108, 109, 110, 72, 73, 74, 75, 111, 112, 113, 114, 25, 115, 116, 117, 118, 51, 52, 53, 54, 80, 81, 82, 119, 120, 121, 122, 123, 124, 125, 126, 127, 128, 129, 130, 68, 69, 70, 71, 76, 77, 78, 79, 131, 132, 133, 134, 87, 88, 89, 90, 91, 92, 93, 94, 135, 136, 137, 138, 139, 140, 141, 142, 143, 144, 145, 146, 147, 148, 149, 150, 151, 152, 153, 154, 155, 156, 157, 158, 159, 160, 161, 162] (by decide +kernel) (by decide +kernel)
set_option maxRecDepth 20000 in
theorem gX8_readsOrder_X8_does : GoodIn wsX8_readsOrder (wsV RX8 320 RX8 yX8_does wsX8_does) := goodIn_app (goodIn_of _ (by decide +kernel)) ggX8_readsOrder_X8_does
theorem dX8_readsOrder_0 : decode cX8_readsOrder 0 = .ok (.aload_n 0, 1) := by decide +kernel
theorem dX8_readsOrder_1 : decode cX8_readsOrder 1 = .ok (.invokevirtual 287, 3) := by decide +kernel
theorem dX8_readsOrder_4 : decode cX8_readsOrder 4 = .ok (.istore_n 3, 1) := by decide +kernel
theorem dX8_readsOrder_5 : decode cX8_readsOrder 5 = .ok (.iload_n 3, 1) := by decide +kernel
theorem dX8_readsOrder_6 : decode cX8_readsOrder 6 = .ok (.invokestatic 308, 3) := by decide +kernel
theorem dX8_readsOrder_9 : decode cX8_readsOrder 9 = .ok (.ifCond .ne 5, 3) := by decide +kernel
theorem dX8_readsOrder_12 : decode cX8_readsOrder 12 = .ok (.iconst 0, 1) := by decide +kernel
theorem dX8_readsOrder_13 : decode cX8_readsOrder 13 = .ok (.ireturn, 1) := by decide +kernel
theorem dX8_readsOrder_14 : decode cX8_readsOrder 14 = .ok (.aload_n 0, 1) := by decide +kernel
theorem dX8_readsOrder_15 : decode cX8_readsOrder 15 = .ok (.dup, 1) := by decide +kernel
theorem dX8_readsOrder_16 : decode cX8_readsOrder 16 = .ok (.getfield 280, 3) := by decide +kernel
theorem dX8_readsOrder_19 : decode cX8_readsOrder 19 = .ok (.iconst 1, 1) := by decide +kernel
theorem dX8_readsOrder_20 : decode cX8_readsOrder 20 = .ok (.iadd, 1) := by decide +kernel
theorem dX8_readsOrder_21 : decode cX8_readsOrder 21 = .ok (.putfield 280, 3) := by decide +kernel
theorem dX8_readsOrder_24 : decode cX8_readsOrder 24 = .ok (.aload_n 0, 1) := by decide +kernel
theorem dX8_readsOrder_25 : decode cX8_readsOrder 25 = .ok (.iload_n 3, 1) := by decide +kernel
theorem dX8_readsOrder_26 : decode cX8_readsOrder 26 = .ok (.invokevirtual 311, 3) := by decide +kernel
theorem dX8_readsOrder_29 : decode cX8_readsOrder 29 = .ok (.ifCond .eq 12, 3) := by decide +kernel
theorem dX8_readsOrder_32 : decode cX8_readsOrder 32 = .ok (.aload_n 0, 1) := by decide +kernel
theorem dX8_readsOrder_33 : decode cX8_readsOrder 33 = .ok (.invokevirtual 287, 3) := by decide +kernel
theorem dX8_readsOrder_36 : decode cX8_readsOrder 36 = .ok (.bipush 59, 2) := by decide +kernel
theorem dX8_readsOrder_38 : decode cX8_readsOrder 38 = .ok (.if_icmp .eq 5, 3) := by decide +kernel
theorem dX8_readsOrder_41 : decode cX8_readsOrder 41 = .ok (.iconst 0, 1) := by decide +kernel
theorem dX8_readsOrder_42 : decode cX8_readsOrder 42 = .ok (.ireturn, 1) := by decide +kernel
theorem dX8_readsOrder_43 : decode cX8_readsOrder 43 = .ok (.aload_n 0, 1) := by decide +kernel
theorem dX8_readsOrder_44 : decode cX8_readsOrder 44 = .ok (.dup, 1) := by decide +kernel
theorem dX8_readsOrder_45 : decode cX8_readsOrder 45 = .ok (.getfield 280, 3) := by decide +kernel
theorem dX8_readsOrder_48 : decode cX8_readsOrder 48 = .ok (.iconst 1, 1) := by decide +kernel
theorem dX8_readsOrder_49 : decode cX8_readsOrder 49 = .ok (.iadd, 1) := by decide +kernel
theorem dX8_readsOrder_50 : decode cX8_readsOrder 50 = .ok (.putfield 280, 3) := by decide +kernel
theorem dX8_readsOrder_53 : decode cX8_readsOrder 53 = .ok (.iload_n 2, 1) := by decide +kernel
theorem dX8_readsOrder_54 : decode cX8_readsOrder 54 = .ok (.ifCond .ne 5, 3) := by decide +kernel
theorem dX8_readsOrder_57 : decode cX8_readsOrder 57 = .ok (.iconst 1, 1) := by decide +kernel
theorem dX8_readsOrder_58 : decode cX8_readsOrder 58 = .ok (.ireturn, 1) := by decide +kernel
theorem dX8_readsOrder_59 : decode cX8_readsOrder 59 = .ok (.aload_n 0, 1) := by decide +kernel
theorem dX8_readsOrder_60 : decode cX8_readsOrder 60 = .ok (.iload_n 3, 1) := by decide +kernel
theorem dX8_readsOrder_61 : decode cX8_readsOrder 61 = .ok (.invokevirtual 314, 3) := by decide +kernel
theorem dX8_readsOrder_64 : decode cX8_readsOrder 64 = .ok (.istore 4, 2) := by decide +kernel
theorem dX8_readsOrder_66 : decode cX8_readsOrder 66 = .ok (.iload 4, 2) := by decide +kernel
theorem dX8_readsOrder_68 : decode cX8_readsOrder 68 = .ok (.ifCond .ge 17, 3) := by decide +kernel
theorem dX8_readsOrder_71 : decode cX8_readsOrder 71 = .ok (.aload_n 0, 1) := by decide +kernel
theorem dX8_readsOrder_72 : decode cX8_readsOrder 72 = .ok (.iload 4, 2) := by decide +kernel
theorem dX8_readsOrder_74 : decode cX8_readsOrder 74 = .ok (.ineg, 1) := by decide +kernel
theorem dX8_readsOrder_75 : decode cX8_readsOrder 75 = .ok (.putfield 317, 3) := by decide +kernel
theorem dX8_readsOrder_78 : decode cX8_readsOrder 78 = .ok (.aload_n 0, 1) := by decide +kernel
theorem dX8_readsOrder_79 : decode cX8_readsOrder 79 = .ok (.iload_n 1, 1) := by decide +kernel
theorem dX8_readsOrder_80 : decode cX8_readsOrder 80 = .ok (.putfield 19, 3) := by decide +kernel
theorem dX8_readsOrder_83 : decode cX8_readsOrder 83 = .ok (.iconst 0, 1) := by decide +kernel
theorem dX8_readsOrder_84 : decode cX8_readsOrder 84 = .ok (.ireturn, 1) := by decide +kernel
theorem dX8_readsOrder_85 : decode cX8_readsOrder 85 = .ok (.aload_n 0, 1) := by decide +kernel
theorem dX8_readsOrder_86 : decode cX8_readsOrder 86 = .ok (.iload_n 3, 1) := by decide +kernel
theorem dX8_readsOrder_87 : decode cX8_readsOrder 87 = .ok (.invokevirtual 320, 3) := by decide +kernel
theorem dX8_readsOrder_90 : decode cX8_readsOrder 90 = .ok (.iconst 1, 1) := by decide +kernel
theorem dX8_readsOrder_91 : decode cX8_readsOrder 91 = .ok (.ireturn, 1) := by decide +kernel
theorem dX8_swaps_0 : decode cX8_swaps 0 = .ok (.iconst 0, 1) := by decide +kernel
theorem dX8_swaps_1 : decode cX8_swaps 1 = .ok (.istore_n 1, 1) := by decide +kernel
theorem dX8_swaps_2 : decode cX8_swaps 2 = .ok (.iload_n 1, 1) := by decide +kernel
theorem dX8_swaps_3 : decode cX8_swaps 3 = .ok (.bipush 108, 2) := by decide +kernel
theorem dX8_swaps_5 : decode cX8_swaps 5 = .ok (.if_icmp .ge 35, 3) := by decide +kernel
theorem dX8_swaps_8 : decode cX8_swaps 8 = .ok (.aload_n 0, 1) := by decide +kernel
theorem dX8_swaps_9 : decode cX8_swaps 9 = .ok (.getfield 7, 3) := by decide +kernel
theorem dX8_swaps_12 : decode cX8_swaps 12 = .ok (.iload_n 1, 1) := by decide +kernel
theorem dX8_swaps_13 : decode cX8_swaps 13 = .ok (.iaload, 1) := by decide +kernel
theorem dX8_swaps_14 : decode cX8_swaps 14 = .ok (.istore_n 2, 1) := by decide +kernel
theorem dX8_swaps_15 : decode cX8_swaps 15 = .ok (.aload_n 0, 1) := by decide +kernel
theorem dX8_swaps_16 : decode cX8_swaps 16 = .ok (.getfield 7, 3) := by decide +kernel
theorem dX8_swaps_19 : decode cX8_swaps 19 = .ok (.iload_n 1, 1) := by decide +kernel
theorem dX8_swaps_20 : decode cX8_swaps 20 = .ok (.aload_n 0, 1) := by decide +kernel
theorem dX8_swaps_21 : decode cX8_swaps 21 = .ok (.getfield 59, 3) := by decide +kernel
theorem dX8_swaps_24 : decode cX8_swaps 24 = .ok (.iload_n 1, 1) := by decide +kernel
theorem dX8_swaps_25 : decode cX8_swaps 25 = .ok (.iaload, 1) := by decide +kernel
theorem dX8_swaps_26 : decode cX8_swaps 26 = .ok (.iastore, 1) := by decide +kernel
theorem dX8_swaps_27 : decode cX8_swaps 27 = .ok (.aload_n 0, 1) := by decide +kernel
theorem dX8_swaps_28 : decode cX8_swaps 28 = .ok (.getfield 59, 3) := by decide +kernel
theorem dX8_swaps_31 : decode cX8_swaps 31 = .ok (.iload_n 1, 1) := by decide +kernel
theorem dX8_swaps_32 : decode cX8_swaps 32 = .ok (.iload_n 2, 1) := by decide +kernel
theorem dX8_swaps_33 : decode cX8_swaps 33 = .ok (.iastore, 1) := by decide +kernel
theorem dX8_swaps_34 : decode cX8_swaps 34 = .ok (.iinc 1 1, 3) := by decide +kernel
theorem dX8_swaps_37 : decode cX8_swaps 37 = .ok (.goto (-35), 3) := by decide +kernel
theorem dX8_swaps_40 : decode cX8_swaps 40 = .ok (.return_, 1) := by decide +kernel
set_option maxRecDepth 20000 in
theorem ggX8_reads_X8_width : GoodIn wsX8_reads wsX8_width := goodIn_r _ [9, 4, 154, 155, 156, 157, 158, 159, 160, 161, 162, 163, 164, 165, 166, 167, 168, 169, 170, 171, 172, 173, 174, 175, 176, 177] (by decide +kernel) (by decide +kernel)
set_option maxRecDepth 20000 in
theorem gX8_reads_X8_width : GoodIn wsX8_reads (wsV RX8 73 RX8 yX8_width wsX8_width) := goodIn_app (goodIn_of _ (by decide +kernel)) ggX8_reads_X8_width
set_option maxRecDepth 20000 in
theorem ggX8_reads_X8_readsOrder : GoodIn wsX8_reads wsX8_readsOrder := goodIn_r _ [13, 1, 14, 15, 16, 17, 18, 8, 19, 20, 21, 22, 23, 24, 25, 26, 27, 28, 29, 30, 2, 31, 32, 33, 34, 35, 36, 37, 38, 39, 40, 41, 42, 43, 44, 45, 46, 47, 48, 49, 50, 51, 52, 53, 54, 55, 56, 57, 58, 59, 60, 61, 62, 63, 64, 4, 65, 66, 67, 68, 69, 70, 71, 72, 73, 74, 75, 76, 77, 78, 79, 80, 5, 6, 7, 9, 81, 82, 83, 84, 85, 86, 87, 88, 89, 90, 91, 92, 93, 94, 95, 96, 97, 98, 99, 100, 101, 102, 103, 104, 105, 106, 107, 108, 109, 110, 111, 112, 113, 114, 115, 116, 117, 118, 119, 120, 121, 122, 123, 124, 125, 126, 127, 128, 129, 130, 131, 132, 133, 134, 135, 136, 137, 138, 139, 140, 141, 142, 143, 154, 155, 156, 157, 158, 159, 160, 161, 162, 163, 164, 165, 166, 167, 168, 169, 170, 171, 172, 173, 174, 175, 176, 177] (by decide +kernel) (by decide +kernel)
set_option maxRecDepth 20000 in
theorem gX8_reads_X8_readsOrder : GoodIn wsX8_reads (wsV RX8 323 RX8 yX8_readsOrder wsX8_readsOrder) := goodIn_app (goodIn_of _ (by decide +kernel)) ggX8_reads_X8_readsOrder
set_option maxRecDepth 20000 in
theorem ggX8_reads_X8_here : GoodIn wsX8_reads wsX8_here := goodIn_r _ [19, 1, 20, 21, 154, 155, 156, 157, 158, 159, 160, 161, 162, 163, 164, 165, 166, 167, 168, 169, 170, 171, 172, 173, 174, 175, 176, 177] (by decide +kernel) (by decide +kernel)
set_option maxRecDepth 20000 in
theorem gX8_reads_X8_here : GoodIn wsX8_reads (wsV RX8 287 RX8 yX8_here wsX8_here) := goodIn_app (goodIn_of _ (by decide +kernel)) ggX8_reads_X8_here
set_option maxRecDepth 20000 in
theorem ggX8_reads_X8_swaps : GoodIn wsX8_reads wsX8_swaps := goodIn_r _ [147, 4, 3, 154, 155, 156, 157, 158, 159, 160, 161, 162, 163, 164, 165, 166, 167, 168, 169, 170, 171, 172, 173, 174, 175, 176, 177] (by decide +kernel) (by decide +kernel)
set_option maxRecDepth 20000 in
theorem gX8_reads_X8_swaps : GoodIn wsX8_reads (wsV RX8 327 RX8 yX8_swaps wsX8_swaps) := goodIn_app (goodIn_of _ (by decide +kernel)) ggX8_reads_X8_swaps
set_option maxRecDepth 20000 in
theorem ggX8_reads_X8_keep : GoodIn wsX8_reads wsX8_keep := goodIn_r _ [151, 152, 153, 4, 154, 155, 156, 157, 158, 159, 160, 161, 162, 163, 164, 165, 166, 167, 168, 169, 170, 171, 172, 173, 174, 175, 176, 177] (by decide +kernel) (by decide +kernel)
set_option maxRecDepth 20000 in
theorem gX8_reads_X8_keep : GoodIn wsX8_reads (wsV RX8 104 RX8 yX8_keep wsX8_keep) := goodIn_app (goodIn_of _ (by decide +kernel)) ggX8_reads_X8_keep
theorem dX8_reads_0 : decode cX8_reads 0 = .ok (.aload_n 0, 1) := by decide +kernel
theorem dX8_reads_1 : decode cX8_reads 1 = .ok (.iconst 0, 1) := by decide +kernel
theorem dX8_reads_2 : decode cX8_reads 2 = .ok (.putfield 280, 3) := by decide +kernel
theorem dX8_reads_5 : decode cX8_reads 5 = .ok (.aload_n 0, 1) := by decide +kernel
theorem dX8_reads_6 : decode cX8_reads 6 = .ok (.aload_n 0, 1) := by decide +kernel
theorem dX8_reads_7 : decode cX8_reads 7 = .ok (.invokevirtual 73, 3) := by decide +kernel
theorem dX8_reads_10 : decode cX8_reads 10 = .ok (.putfield 293, 3) := by decide +kernel
theorem dX8_reads_13 : decode cX8_reads 13 = .ok (.aload_n 0, 1) := by decide +kernel
theorem dX8_reads_14 : decode cX8_reads 14 = .ok (.iconst 0, 1) := by decide +kernel
theorem dX8_reads_15 : decode cX8_reads 15 = .ok (.iconst 0, 1) := by decide +kernel
theorem dX8_reads_16 : decode cX8_reads 16 = .ok (.invokevirtual 323, 3) := by decide +kernel
theorem dX8_reads_19 : decode cX8_reads 19 = .ok (.istore_n 1, 1) := by decide +kernel
theorem dX8_reads_20 : decode cX8_reads 20 = .ok (.iload_n 1, 1) := by decide +kernel
theorem dX8_reads_21 : decode cX8_reads 21 = .ok (.ifCond .eq 21, 3) := by decide +kernel
theorem dX8_reads_24 : decode cX8_reads 24 = .ok (.aload_n 0, 1) := by decide +kernel
theorem dX8_reads_25 : decode cX8_reads 25 = .ok (.invokevirtual 287, 3) := by decide +kernel
theorem dX8_reads_28 : decode cX8_reads 28 = .ok (.iconst (-1), 1) := by decide +kernel
theorem dX8_reads_29 : decode cX8_reads 29 = .ok (.if_icmp .eq 13, 3) := by decide +kernel
theorem dX8_reads_32 : decode cX8_reads 32 = .ok (.aload_n 0, 1) := by decide +kernel
theorem dX8_reads_33 : decode cX8_reads 33 = .ok (.iconst 0, 1) := by decide +kernel
theorem dX8_reads_34 : decode cX8_reads 34 = .ok (.iconst 0, 1) := by decide +kernel
theorem dX8_reads_35 : decode cX8_reads 35 = .ok (.invokevirtual 323, 3) := by decide +kernel
theorem dX8_reads_38 : decode cX8_reads 38 = .ok (.istore_n 1, 1) := by decide +kernel
theorem dX8_reads_39 : decode cX8_reads 39 = .ok (.goto (-19), 3) := by decide +kernel
theorem dX8_reads_42 : decode cX8_reads 42 = .ok (.iload_n 1, 1) := by decide +kernel
theorem dX8_reads_43 : decode cX8_reads 43 = .ok (.ifCond .ne 11, 3) := by decide +kernel
theorem dX8_reads_46 : decode cX8_reads 46 = .ok (.bipush (-10), 2) := by decide +kernel
theorem dX8_reads_48 : decode cX8_reads 48 = .ok (.aload_n 0, 1) := by decide +kernel
theorem dX8_reads_49 : decode cX8_reads 49 = .ok (.getfield 280, 3) := by decide +kernel
theorem dX8_reads_52 : decode cX8_reads 52 = .ok (.isub, 1) := by decide +kernel
theorem dX8_reads_53 : decode cX8_reads 53 = .ok (.ireturn, 1) := by decide +kernel
theorem dX8_reads_54 : decode cX8_reads 54 = .ok (.iconst 0, 1) := by decide +kernel
theorem dX8_reads_55 : decode cX8_reads 55 = .ok (.istore_n 2, 1) := by decide +kernel
theorem dX8_reads_56 : decode cX8_reads 56 = .ok (.iload_n 2, 1) := by decide +kernel
theorem dX8_reads_57 : decode cX8_reads 57 = .ok (.bipush 108, 2) := by decide +kernel
theorem dX8_reads_59 : decode cX8_reads 59 = .ok (.if_icmp .ge 21, 3) := by decide +kernel
theorem dX8_reads_62 : decode cX8_reads 62 = .ok (.aload_n 0, 1) := by decide +kernel
theorem dX8_reads_63 : decode cX8_reads 63 = .ok (.getfield 59, 3) := by decide +kernel
theorem dX8_reads_66 : decode cX8_reads 66 = .ok (.iload_n 2, 1) := by decide +kernel
theorem dX8_reads_67 : decode cX8_reads 67 = .ok (.aload_n 0, 1) := by decide +kernel
theorem dX8_reads_68 : decode cX8_reads 68 = .ok (.getfield 7, 3) := by decide +kernel
theorem dX8_reads_71 : decode cX8_reads 71 = .ok (.iload_n 2, 1) := by decide +kernel
theorem dX8_reads_72 : decode cX8_reads 72 = .ok (.iaload, 1) := by decide +kernel
theorem dX8_reads_73 : decode cX8_reads 73 = .ok (.iastore, 1) := by decide +kernel
theorem dX8_reads_74 : decode cX8_reads 74 = .ok (.iinc 2 1, 3) := by decide +kernel
theorem dX8_reads_77 : decode cX8_reads 77 = .ok (.goto (-21), 3) := by decide +kernel
theorem dX8_reads_80 : decode cX8_reads 80 = .ok (.iconst 0, 1) := by decide +kernel
theorem dX8_reads_81 : decode cX8_reads 81 = .ok (.istore_n 2, 1) := by decide +kernel
theorem dX8_reads_82 : decode cX8_reads 82 = .ok (.aload_n 0, 1) := by decide +kernel
theorem dX8_reads_83 : decode cX8_reads 83 = .ok (.iconst 0, 1) := by decide +kernel
theorem dX8_reads_84 : decode cX8_reads 84 = .ok (.putfield 280, 3) := by decide +kernel
theorem dX8_reads_87 : decode cX8_reads 87 = .ok (.aload_n 0, 1) := by decide +kernel
theorem dX8_reads_88 : decode cX8_reads 88 = .ok (.aload_n 0, 1) := by decide +kernel
theorem dX8_reads_89 : decode cX8_reads 89 = .ok (.invokevirtual 73, 3) := by decide +kernel
theorem dX8_reads_92 : decode cX8_reads 92 = .ok (.putfield 293, 3) := by decide +kernel
theorem dX8_reads_95 : decode cX8_reads 95 = .ok (.aload_n 0, 1) := by decide +kernel
theorem dX8_reads_96 : decode cX8_reads 96 = .ok (.invokevirtual 287, 3) := by decide +kernel
theorem dX8_reads_99 : decode cX8_reads 99 = .ok (.iconst (-1), 1) := by decide +kernel
theorem dX8_reads_100 : decode cX8_reads 100 = .ok (.if_icmp .eq 28, 3) := by decide +kernel
theorem dX8_reads_103 : decode cX8_reads 103 = .ok (.aload_n 0, 1) := by decide +kernel
theorem dX8_reads_104 : decode cX8_reads 104 = .ok (.iload_n 2, 1) := by decide +kernel
theorem dX8_reads_105 : decode cX8_reads 105 = .ok (.iconst 1, 1) := by decide +kernel
theorem dX8_reads_106 : decode cX8_reads 106 = .ok (.invokevirtual 323, 3) := by decide +kernel
theorem dX8_reads_109 : decode cX8_reads 109 = .ok (.ifCond .ne 13, 3) := by decide +kernel
theorem dX8_reads_112 : decode cX8_reads 112 = .ok (.aload_n 0, 1) := by decide +kernel
theorem dX8_reads_113 : decode cX8_reads 113 = .ok (.invokevirtual 327, 3) := by decide +kernel
theorem dX8_reads_116 : decode cX8_reads 116 = .ok (.sipush (-1000), 3) := by decide +kernel
theorem dX8_reads_119 : decode cX8_reads 119 = .ok (.iload_n 2, 1) := by decide +kernel
theorem dX8_reads_120 : decode cX8_reads 120 = .ok (.isub, 1) := by decide +kernel
theorem dX8_reads_121 : decode cX8_reads 121 = .ok (.ireturn, 1) := by decide +kernel
theorem dX8_reads_122 : decode cX8_reads 122 = .ok (.iinc 2 1, 3) := by decide +kernel
theorem dX8_reads_125 : decode cX8_reads 125 = .ok (.goto (-30), 3) := by decide +kernel
theorem dX8_reads_128 : decode cX8_reads 128 = .ok (.aload_n 0, 1) := by decide +kernel
theorem dX8_reads_129 : decode cX8_reads 129 = .ok (.invokevirtual 327, 3) := by decide +kernel
theorem dX8_reads_132 : decode cX8_reads 132 = .ok (.aload_n 0, 1) := by decide +kernel
theorem dX8_reads_133 : decode cX8_reads 133 = .ok (.invokevirtual 104, 3) := by decide +kernel
theorem dX8_reads_136 : decode cX8_reads 136 = .ok (.aload_n 0, 1) := by decide +kernel
theorem dX8_reads_137 : decode cX8_reads 137 = .ok (.invokevirtual 327, 3) := by decide +kernel
theorem dX8_reads_140 : decode cX8_reads 140 = .ok (.iload_n 2, 1) := by decide +kernel
theorem dX8_reads_141 : decode cX8_reads 141 = .ok (.ireturn, 1) := by decide +kernel
theorem dX8_whyOf_0 : decode cX8_whyOf 0 = .ok (.iload_n 1, 1) := by decide +kernel
theorem dX8_whyOf_1 : decode cX8_whyOf 1 = .ok (.ifCond .ne 10, 3) := by decide +kernel
theorem dX8_whyOf_4 : decode cX8_whyOf 4 = .ok (.aload_n 0, 1) := by decide +kernel
theorem dX8_whyOf_5 : decode cX8_whyOf 5 = .ok (.getfield 317, 3) := by decide +kernel
theorem dX8_whyOf_8 : decode cX8_whyOf 8 = .ok (.goto 7, 3) := by decide +kernel
theorem dX8_whyOf_11 : decode cX8_whyOf 11 = .ok (.aload_n 0, 1) := by decide +kernel
theorem dX8_whyOf_12 : decode cX8_whyOf 12 = .ok (.getfield 19, 3) := by decide +kernel
theorem dX8_whyOf_15 : decode cX8_whyOf 15 = .ok (.ireturn, 1) := by decide +kernel
set_option maxRecDepth 20000 in
theorem ggX8_why_X8_in : GoodIn wsX8_why wsX8_in := goodIn_r _ [4] (by decide +kernel) (by decide +kernel)
set_option maxRecDepth 20000 in
theorem gX8_why_X8_in : GoodIn wsX8_why (va_wsS RX8 69 yX8_in wsX8_in) := goodIn_app (goodIn_of _ (by decide +kernel)) ggX8_why_X8_in
set_option maxRecDepth 20000 in
theorem ggX8_why_X8_whyOf : GoodIn wsX8_why wsX8_whyOf := goodIn_r _ [8, 9, 10, 16, 17, 18, 19, 20, 21, 22, 23, 24, 25, 26, 27, 28, 29, 30, 31, 32, 33, 34, 35, 36, 37, 38, 39] (by decide +kernel) (by decide +kernel)
set_option maxRecDepth 20000 in
theorem gX8_why_X8_whyOf : GoodIn wsX8_why (wsV RX8 330 RX8 yX8_whyOf wsX8_whyOf) := goodIn_app (goodIn_of _ (by decide +kernel)) ggX8_why_X8_whyOf
set_option maxRecDepth 20000 in
theorem ggX8_why_X8_refuses : GoodIn wsX8_why wsX8_refuses := goodIn_r _ [14, 15, 16, 17, 18, 19, 20, 21, 22, 23, 24, 25, 26, 27, 28, 29, 30, 31, 32, 33, 34, 35, 36, 37, 38, 39] (by decide +kernel) (by decide +kernel)
set_option maxRecDepth 20000 in
theorem gX8_why_X8_refuses : GoodIn wsX8_why (wsV RX8 101 RX8 yX8_refuses wsX8_refuses) := goodIn_app (goodIn_of _ (by decide +kernel)) ggX8_why_X8_refuses
theorem dX8_why_0 : decode cX8_why 0 = .ok (.iload_n 1, 1) := by decide +kernel
theorem dX8_why_1 : decode cX8_why 1 = .ok (.i2l, 1) := by decide +kernel
theorem dX8_why_2 : decode cX8_why 2 = .ok (.lconst 0, 1) := by decide +kernel
theorem dX8_why_3 : decode cX8_why 3 = .ok (.lconst 1, 1) := by decide +kernel
theorem dX8_why_4 : decode cX8_why 4 = .ok (.invokestatic 69, 3) := by decide +kernel
theorem dX8_why_7 : decode cX8_why 7 = .ok (.ifCond .eq 11, 3) := by decide +kernel
theorem dX8_why_10 : decode cX8_why 10 = .ok (.aload_n 0, 1) := by decide +kernel
theorem dX8_why_11 : decode cX8_why 11 = .ok (.iload_n 1, 1) := by decide +kernel
theorem dX8_why_12 : decode cX8_why 12 = .ok (.invokevirtual 330, 3) := by decide +kernel
theorem dX8_why_15 : decode cX8_why 15 = .ok (.goto 9, 3) := by decide +kernel
theorem dX8_why_18 : decode cX8_why 18 = .ok (.aload_n 0, 1) := by decide +kernel
theorem dX8_why_19 : decode cX8_why 19 = .ok (.bipush (-2), 2) := by decide +kernel
theorem dX8_why_21 : decode cX8_why 21 = .ok (.invokevirtual 101, 3) := by decide +kernel
theorem dX8_why_24 : decode cX8_why 24 = .ok (.ireturn, 1) := by decide +kernel
set_option maxRecDepth 20000 in
theorem ggX8_back_X8_refuses : GoodIn wsX8_back wsX8_refuses := goodIn_r _ [8, 9, 10, 11, 12, 13, 14, 15, 16, 17, 18, 19, 20, 21, 22, 23, 24, 25, 26, 27, 28, 29, 30, 31, 32, 33] (by decide +kernel) (by decide +kernel)
set_option maxRecDepth 20000 in
theorem gX8_back_X8_refuses : GoodIn wsX8_back (wsV RX8 101 RX8 yX8_refuses wsX8_refuses) := goodIn_app (goodIn_of _ (by decide +kernel)) ggX8_back_X8_refuses
theorem dX8_back_0 : decode cX8_back 0 = .ok (.aload_n 0, 1) := by decide +kernel
theorem dX8_back_1 : decode cX8_back 1 = .ok (.getfield 62, 3) := by decide +kernel
theorem dX8_back_4 : decode cX8_back 4 = .ok (.ifCond .ne 10, 3) := by decide +kernel
theorem dX8_back_7 : decode cX8_back 7 = .ok (.aload_n 0, 1) := by decide +kernel
theorem dX8_back_8 : decode cX8_back 8 = .ok (.bipush (-3), 2) := by decide +kernel
theorem dX8_back_10 : decode cX8_back 10 = .ok (.invokevirtual 101, 3) := by decide +kernel
theorem dX8_back_13 : decode cX8_back 13 = .ok (.ireturn, 1) := by decide +kernel
theorem dX8_back_14 : decode cX8_back 14 = .ok (.aload_n 0, 1) := by decide +kernel
theorem dX8_back_15 : decode cX8_back 15 = .ok (.dup, 1) := by decide +kernel
theorem dX8_back_16 : decode cX8_back 16 = .ok (.getfield 62, 3) := by decide +kernel
theorem dX8_back_19 : decode cX8_back 19 = .ok (.iconst 1, 1) := by decide +kernel
theorem dX8_back_20 : decode cX8_back 20 = .ok (.isub, 1) := by decide +kernel
theorem dX8_back_21 : decode cX8_back 21 = .ok (.putfield 62, 3) := by decide +kernel
theorem dX8_back_24 : decode cX8_back 24 = .ok (.iconst 0, 1) := by decide +kernel
theorem dX8_back_25 : decode cX8_back 25 = .ok (.istore_n 1, 1) := by decide +kernel
theorem dX8_back_26 : decode cX8_back 26 = .ok (.iload_n 1, 1) := by decide +kernel
theorem dX8_back_27 : decode cX8_back 27 = .ok (.bipush 108, 2) := by decide +kernel
theorem dX8_back_29 : decode cX8_back 29 = .ok (.if_icmp .ge 29, 3) := by decide +kernel
theorem dX8_back_32 : decode cX8_back 32 = .ok (.aload_n 0, 1) := by decide +kernel
theorem dX8_back_33 : decode cX8_back 33 = .ok (.getfield 7, 3) := by decide +kernel
theorem dX8_back_36 : decode cX8_back 36 = .ok (.iload_n 1, 1) := by decide +kernel
theorem dX8_back_37 : decode cX8_back 37 = .ok (.aload_n 0, 1) := by decide +kernel
theorem dX8_back_38 : decode cX8_back 38 = .ok (.getfield 13, 3) := by decide +kernel
theorem dX8_back_41 : decode cX8_back 41 = .ok (.bipush 108, 2) := by decide +kernel
theorem dX8_back_43 : decode cX8_back 43 = .ok (.aload_n 0, 1) := by decide +kernel
theorem dX8_back_44 : decode cX8_back 44 = .ok (.getfield 62, 3) := by decide +kernel
theorem dX8_back_47 : decode cX8_back 47 = .ok (.imul, 1) := by decide +kernel
theorem dX8_back_48 : decode cX8_back 48 = .ok (.iload_n 1, 1) := by decide +kernel
theorem dX8_back_49 : decode cX8_back 49 = .ok (.iadd, 1) := by decide +kernel
theorem dX8_back_50 : decode cX8_back 50 = .ok (.iaload, 1) := by decide +kernel
theorem dX8_back_51 : decode cX8_back 51 = .ok (.iastore, 1) := by decide +kernel
theorem dX8_back_52 : decode cX8_back 52 = .ok (.iinc 1 1, 3) := by decide +kernel
theorem dX8_back_55 : decode cX8_back 55 = .ok (.goto (-29), 3) := by decide +kernel
theorem dX8_back_58 : decode cX8_back 58 = .ok (.aload_n 0, 1) := by decide +kernel
theorem dX8_back_59 : decode cX8_back 59 = .ok (.getfield 62, 3) := by decide +kernel
theorem dX8_back_62 : decode cX8_back 62 = .ok (.ireturn, 1) := by decide +kernel
theorem dX8_toldOf_0 : decode cX8_toldOf 0 = .ok (.iload_n 1, 1) := by decide +kernel
theorem dX8_toldOf_1 : decode cX8_toldOf 1 = .ok (.iconst 3, 1) := by decide +kernel
theorem dX8_toldOf_2 : decode cX8_toldOf 2 = .ok (.if_icmp .ge 12, 3) := by decide +kernel
theorem dX8_toldOf_5 : decode cX8_toldOf 5 = .ok (.aload_n 0, 1) := by decide +kernel
theorem dX8_toldOf_6 : decode cX8_toldOf 6 = .ok (.getfield 16, 3) := by decide +kernel
theorem dX8_toldOf_9 : decode cX8_toldOf 9 = .ok (.iload_n 1, 1) := by decide +kernel
theorem dX8_toldOf_10 : decode cX8_toldOf 10 = .ok (.iaload, 1) := by decide +kernel
theorem dX8_toldOf_11 : decode cX8_toldOf 11 = .ok (.goto 36, 3) := by decide +kernel
theorem dX8_toldOf_14 : decode cX8_toldOf 14 = .ok (.iload_n 1, 1) := by decide +kernel
theorem dX8_toldOf_15 : decode cX8_toldOf 15 = .ok (.iconst 3, 1) := by decide +kernel
theorem dX8_toldOf_16 : decode cX8_toldOf 16 = .ok (.if_icmp .ne 10, 3) := by decide +kernel
theorem dX8_toldOf_19 : decode cX8_toldOf 19 = .ok (.aload_n 0, 1) := by decide +kernel
theorem dX8_toldOf_20 : decode cX8_toldOf 20 = .ok (.getfield 277, 3) := by decide +kernel
theorem dX8_toldOf_23 : decode cX8_toldOf 23 = .ok (.goto 24, 3) := by decide +kernel
theorem dX8_toldOf_26 : decode cX8_toldOf 26 = .ok (.iload_n 1, 1) := by decide +kernel
theorem dX8_toldOf_27 : decode cX8_toldOf 27 = .ok (.bipush 7, 2) := by decide +kernel
theorem dX8_toldOf_29 : decode cX8_toldOf 29 = .ok (.if_icmp .ne 10, 3) := by decide +kernel
theorem dX8_toldOf_32 : decode cX8_toldOf 32 = .ok (.aload_n 0, 1) := by decide +kernel
theorem dX8_toldOf_33 : decode cX8_toldOf 33 = .ok (.getfield 62, 3) := by decide +kernel
theorem dX8_toldOf_36 : decode cX8_toldOf 36 = .ok (.goto 11, 3) := by decide +kernel
theorem dX8_toldOf_39 : decode cX8_toldOf 39 = .ok (.aload_n 0, 1) := by decide +kernel
theorem dX8_toldOf_40 : decode cX8_toldOf 40 = .ok (.getfield 7, 3) := by decide +kernel
theorem dX8_toldOf_43 : decode cX8_toldOf 43 = .ok (.iload_n 1, 1) := by decide +kernel
theorem dX8_toldOf_44 : decode cX8_toldOf 44 = .ok (.iconst 4, 1) := by decide +kernel
theorem dX8_toldOf_45 : decode cX8_toldOf 45 = .ok (.isub, 1) := by decide +kernel
theorem dX8_toldOf_46 : decode cX8_toldOf 46 = .ok (.iaload, 1) := by decide +kernel
theorem dX8_toldOf_47 : decode cX8_toldOf 47 = .ok (.ireturn, 1) := by decide +kernel
set_option maxRecDepth 20000 in
theorem ggX8_told_X8_in : GoodIn wsX8_told wsX8_in := goodIn_r _ [5] (by decide +kernel) (by decide +kernel)
set_option maxRecDepth 20000 in
theorem gX8_told_X8_in : GoodIn wsX8_told (va_wsS RX8 69 yX8_in wsX8_in) := goodIn_app (goodIn_of _ (by decide +kernel)) ggX8_told_X8_in
set_option maxRecDepth 20000 in
theorem ggX8_told_X8_toldOf : GoodIn wsX8_told wsX8_toldOf := goodIn_r _ [9, 10, 11, 12, 13, 18, 19, 20, 21, 22, 23, 24, 25, 26, 27, 28, 29, 30, 31, 32, 33, 34, 35, 36, 37, 38, 39, 40, 41] (by decide +kernel) (by decide +kernel)
set_option maxRecDepth 20000 in
theorem gX8_told_X8_toldOf : GoodIn wsX8_told (wsV RX8 333 RX8 yX8_toldOf wsX8_toldOf) := goodIn_app (goodIn_of _ (by decide +kernel)) ggX8_told_X8_toldOf
set_option maxRecDepth 20000 in
theorem ggX8_told_X8_refuses : GoodIn wsX8_told wsX8_refuses := goodIn_r _ [17, 10, 18, 19, 20, 21, 22, 23, 24, 25, 26, 27, 28, 29, 30, 31, 32, 33, 34, 35, 36, 37, 38, 39, 40, 41] (by decide +kernel) (by decide +kernel)
set_option maxRecDepth 20000 in
theorem gX8_told_X8_refuses : GoodIn wsX8_told (wsV RX8 101 RX8 yX8_refuses wsX8_refuses) := goodIn_app (goodIn_of _ (by decide +kernel)) ggX8_told_X8_refuses
theorem dX8_told_0 : decode cX8_told 0 = .ok (.iload_n 1, 1) := by decide +kernel
theorem dX8_told_1 : decode cX8_told 1 = .ok (.i2l, 1) := by decide +kernel
theorem dX8_told_2 : decode cX8_told 2 = .ok (.lconst 0, 1) := by decide +kernel
theorem dX8_told_3 : decode cX8_told 3 = .ok (.ldc2_w 269, 3) := by decide +kernel
theorem dX8_told_6 : decode cX8_told 6 = .ok (.invokestatic 69, 3) := by decide +kernel
theorem dX8_told_9 : decode cX8_told 9 = .ok (.ifCond .eq 11, 3) := by decide +kernel
theorem dX8_told_12 : decode cX8_told 12 = .ok (.aload_n 0, 1) := by decide +kernel
theorem dX8_told_13 : decode cX8_told 13 = .ok (.iload_n 1, 1) := by decide +kernel
theorem dX8_told_14 : decode cX8_told 14 = .ok (.invokevirtual 333, 3) := by decide +kernel
theorem dX8_told_17 : decode cX8_told 17 = .ok (.goto 9, 3) := by decide +kernel
theorem dX8_told_20 : decode cX8_told 20 = .ok (.aload_n 0, 1) := by decide +kernel
theorem dX8_told_21 : decode cX8_told 21 = .ok (.bipush (-2), 2) := by decide +kernel
theorem dX8_told_23 : decode cX8_told 23 = .ok (.invokevirtual 101, 3) := by decide +kernel
theorem dX8_told_26 : decode cX8_told 26 = .ok (.ireturn, 1) := by decide +kernel
set_option maxRecDepth 20000 in
theorem ggX8_digest_X8_toldOf : GoodIn wsX8_digest wsX8_toldOf := goodIn_r _ [10, 11, 12, 13, 5, 115, 116, 117, 118, 119, 120, 121, 122, 123, 124, 125, 126, 127, 128, 129, 130, 131, 132, 133, 134, 135, 136, 137, 138] (by decide +kernel) (by decide +kernel)
set_option maxRecDepth 20000 in
theorem gX8_digest_X8_toldOf : GoodIn wsX8_digest (wsV RX8 333 RX8 yX8_toldOf wsX8_toldOf) := goodIn_app (goodIn_of _ (by decide +kernel)) ggX8_digest_X8_toldOf
set_option maxRecDepth 20000 in
theorem ggX8_digest_X8_rows : GoodIn wsX8_digest wsX8_rows := goodIn_r _ [17, 5, 115, 116, 117, 118, 119, 120, 121, 122, 123, 124, 125, 126, 127, 128, 129, 130, 131, 132, 133, 134, 135, 136, 137, 138] (by decide +kernel) (by decide +kernel)
set_option maxRecDepth 20000 in
theorem gX8_digest_X8_rows : GoodIn wsX8_digest (wsV RX8 65 RX8 yX8_rows wsX8_rows) := goodIn_app (goodIn_of _ (by decide +kernel)) ggX8_digest_X8_rows
set_option maxRecDepth 20000 in
theorem ggX8_digest_X8_aboutRow : GoodIn wsX8_digest wsX8_aboutRow := goodIn_r _ [21, 22, 23, 24, 9, 25, 26, 27, 28, 29, 5, 30, 31, 32, 33, 34, 35, 36, 37, 38, 39, 40, 41, 42, 43, 44, 115, 116, 117, 118, 119, 120, 121, 122, 123, 124, 125, 126, 127, 128, 129, 130, 131, 132, 133, 134, 135, 136, 137, 138] (by decide +kernel) (by decide +kernel)
set_option maxRecDepth 20000 in
theorem gX8_digest_X8_aboutRow : GoodIn wsX8_digest (wsV RX8 153 RX8 yX8_aboutRow wsX8_aboutRow) := goodIn_app (goodIn_of _ (by decide +kernel)) ggX8_digest_X8_aboutRow
set_option maxRecDepth 20000 in
theorem ggX8_digest_X8_width : GoodIn wsX8_digest wsX8_width := goodIn_r _ [29, 5, 115, 116, 117, 118, 119, 120, 121, 122, 123, 124, 125, 126, 127, 128, 129, 130, 131, 132, 133, 134, 135, 136, 137, 138] (by decide +kernel) (by decide +kernel)
set_option maxRecDepth 20000 in
theorem gX8_digest_X8_width : GoodIn wsX8_digest (wsV RX8 73 RX8 yX8_width wsX8_width) := goodIn_app (goodIn_of _ (by decide +kernel)) ggX8_digest_X8_width
set_option maxRecDepth 20000 in
theorem ggX8_digest_X8_place : GoodIn wsX8_digest wsX8_place := goodIn_r _ [36] (by decide +kernel) (by decide +kernel)
set_option maxRecDepth 20000 in
theorem gX8_digest_X8_place : GoodIn wsX8_digest (va_wsS RX8 79 yX8_place wsX8_place) := goodIn_app (goodIn_of _ (by decide +kernel)) ggX8_digest_X8_place
set_option maxRecDepth 20000 in
theorem ggX8_digest_X8_rankOf : GoodIn wsX8_digest wsX8_rankOf := goodIn_r _ [48, 49, 50, 51, 52, 9, 53, 54, 26, 27, 28, 29, 5, 14, 15, 16, 17, 55, 56, 57, 58, 59, 60, 61, 62, 34, 35, 36, 63, 64, 65, 66, 67, 68, 69, 70, 71, 72, 73, 74, 75, 76, 77, 78, 79, 80, 81, 82, 83, 84, 85, 86, 87, 88, 89, 90, 91, 92, 93, 94, 95, 96, 97, 98, 99, 100, 101, 102, 103, 104, 105, 106, 115, 116, 117, 118, 119, 120, 121, 122, 123, 124, 125, 126, 127, 128, 129, 130, 131, 132, 133, 134, 135, 136, 137, 138] (by decide +kernel) (by decide +kernel)
set_option maxRecDepth 20000 in
theorem gX8_digest_X8_rankOf : GoodIn wsX8_digest (wsV RX8 205 RX8 yX8_rankOf wsX8_rankOf) := goodIn_app (goodIn_of _ (by decide +kernel)) ggX8_digest_X8_rankOf
set_option maxRecDepth 20000 in
theorem ggX8_digest_X8_leastOf : GoodIn wsX8_digest wsX8_leastOf := goodIn_r _ [110, 49, 50, 51, 52, 9, 53, 54, 26, 27, 28, 29, 5, 14, 15, 16, 17, 55, 56, 57, 58, 59, 60, 61, 62, 34, 35, 36, 63, 64, 65, 66, 67, 68, 69, 70, 71, 72, 73, 74, 75, 76, 77, 78, 79, 80, 81, 82, 83, 84, 85, 86, 87, 88, 89, 90, 91, 92, 93, 94, 95, 96, 97, 98, 99, 100, 101, 102, 103, 104, 105, 106, 115, 116, 117, 118, 119, 120, 121, 122, 123, 124, 125, 126, 127, 128, 129, 130, 131, 132, 133, 134, 135, 136, 137, 138] (by decide +kernel) (by decide +kernel)
set_option maxRecDepth 20000 in
theorem gX8_digest_X8_leastOf : GoodIn wsX8_digest (wsV RX8 211 RX8 yX8_leastOf wsX8_leastOf) := goodIn_app (goodIn_of _ (by decide +kernel)) ggX8_digest_X8_leastOf
set_option maxRecDepth 20000 in
theorem ggX8_digest_X8_nextOf : GoodIn wsX8_digest wsX8_nextOf := goodIn_r _ [114, 14, 15, 16, 9, 17, 5, 22, 23, 24, 25, 26, 27, 28, 29, 30, 31, 32, 33, 34, 35, 36, 37, 38, 39, 40, 41, 42, 43, 44, 87, 88, 89, 90, 91, 92, 93, 94, 95, 96, 97, 98, 115, 116, 117, 118, 119, 120, 121, 122, 123, 124, 125, 126, 127, 128, 129, 130, 131, 132, 133, 134, 135, 136, 137, 138] (by decide +kernel) (by decide +kernel)
set_option maxRecDepth 20000 in
theorem gX8_digest_X8_nextOf : GoodIn wsX8_digest (wsV RX8 156 RX8 yX8_nextOf wsX8_nextOf) := goodIn_app (goodIn_of _ (by decide +kernel)) ggX8_digest_X8_nextOf
theorem dX8_digest_0 : decode cX8_digest 0 = .ok (.ldc2_w 336, 3) := by decide +kernel
theorem dX8_digest_3 : decode cX8_digest 3 = .ok (.lstore_n 1, 1) := by decide +kernel
theorem dX8_digest_4 : decode cX8_digest 4 = .ok (.iconst 0, 1) := by decide +kernel
theorem dX8_digest_5 : decode cX8_digest 5 = .ok (.istore_n 3, 1) := by decide +kernel
theorem dX8_digest_6 : decode cX8_digest 6 = .ok (.iload_n 3, 1) := by decide +kernel
theorem dX8_digest_7 : decode cX8_digest 7 = .ok (.bipush 8, 2) := by decide +kernel
theorem dX8_digest_9 : decode cX8_digest 9 = .ok (.if_icmp .ge 22, 3) := by decide +kernel
theorem dX8_digest_12 : decode cX8_digest 12 = .ok (.ldc2_w 338, 3) := by decide +kernel
theorem dX8_digest_15 : decode cX8_digest 15 = .ok (.lload_n 1, 1) := by decide +kernel
theorem dX8_digest_16 : decode cX8_digest 16 = .ok (.lmul, 1) := by decide +kernel
theorem dX8_digest_17 : decode cX8_digest 17 = .ok (.aload_n 0, 1) := by decide +kernel
theorem dX8_digest_18 : decode cX8_digest 18 = .ok (.iload_n 3, 1) := by decide +kernel
theorem dX8_digest_19 : decode cX8_digest 19 = .ok (.invokevirtual 333, 3) := by decide +kernel
theorem dX8_digest_22 : decode cX8_digest 22 = .ok (.i2l, 1) := by decide +kernel
theorem dX8_digest_23 : decode cX8_digest 23 = .ok (.ladd, 1) := by decide +kernel
theorem dX8_digest_24 : decode cX8_digest 24 = .ok (.lstore_n 1, 1) := by decide +kernel
theorem dX8_digest_25 : decode cX8_digest 25 = .ok (.iinc 3 1, 3) := by decide +kernel
theorem dX8_digest_28 : decode cX8_digest 28 = .ok (.goto (-22), 3) := by decide +kernel
theorem dX8_digest_31 : decode cX8_digest 31 = .ok (.ldc2_w 338, 3) := by decide +kernel
theorem dX8_digest_34 : decode cX8_digest 34 = .ok (.ldc2_w 338, 3) := by decide +kernel
theorem dX8_digest_37 : decode cX8_digest 37 = .ok (.lload_n 1, 1) := by decide +kernel
theorem dX8_digest_38 : decode cX8_digest 38 = .ok (.lmul, 1) := by decide +kernel
theorem dX8_digest_39 : decode cX8_digest 39 = .ok (.aload_n 0, 1) := by decide +kernel
theorem dX8_digest_40 : decode cX8_digest 40 = .ok (.getfield 317, 3) := by decide +kernel
theorem dX8_digest_43 : decode cX8_digest 43 = .ok (.i2l, 1) := by decide +kernel
theorem dX8_digest_44 : decode cX8_digest 44 = .ok (.ladd, 1) := by decide +kernel
theorem dX8_digest_45 : decode cX8_digest 45 = .ok (.lmul, 1) := by decide +kernel
theorem dX8_digest_46 : decode cX8_digest 46 = .ok (.aload_n 0, 1) := by decide +kernel
theorem dX8_digest_47 : decode cX8_digest 47 = .ok (.getfield 19, 3) := by decide +kernel
theorem dX8_digest_50 : decode cX8_digest 50 = .ok (.i2l, 1) := by decide +kernel
theorem dX8_digest_51 : decode cX8_digest 51 = .ok (.ladd, 1) := by decide +kernel
theorem dX8_digest_52 : decode cX8_digest 52 = .ok (.lstore_n 1, 1) := by decide +kernel
theorem dX8_digest_53 : decode cX8_digest 53 = .ok (.iconst 0, 1) := by decide +kernel
theorem dX8_digest_54 : decode cX8_digest 54 = .ok (.istore_n 3, 1) := by decide +kernel
theorem dX8_digest_55 : decode cX8_digest 55 = .ok (.iload_n 3, 1) := by decide +kernel
theorem dX8_digest_56 : decode cX8_digest 56 = .ok (.aload_n 0, 1) := by decide +kernel
theorem dX8_digest_57 : decode cX8_digest 57 = .ok (.invokevirtual 65, 3) := by decide +kernel
theorem dX8_digest_60 : decode cX8_digest 60 = .ok (.if_icmp .ge 80, 3) := by decide +kernel
theorem dX8_digest_63 : decode cX8_digest 63 = .ok (.iconst 0, 1) := by decide +kernel
theorem dX8_digest_64 : decode cX8_digest 64 = .ok (.istore 4, 2) := by decide +kernel
theorem dX8_digest_66 : decode cX8_digest 66 = .ok (.iload 4, 2) := by decide +kernel
theorem dX8_digest_68 : decode cX8_digest 68 = .ok (.iconst 3, 1) := by decide +kernel
theorem dX8_digest_69 : decode cX8_digest 69 = .ok (.if_icmp .ge 24, 3) := by decide +kernel
theorem dX8_digest_72 : decode cX8_digest 72 = .ok (.ldc2_w 338, 3) := by decide +kernel
theorem dX8_digest_75 : decode cX8_digest 75 = .ok (.lload_n 1, 1) := by decide +kernel
theorem dX8_digest_76 : decode cX8_digest 76 = .ok (.lmul, 1) := by decide +kernel
theorem dX8_digest_77 : decode cX8_digest 77 = .ok (.aload_n 0, 1) := by decide +kernel
theorem dX8_digest_78 : decode cX8_digest 78 = .ok (.iload_n 3, 1) := by decide +kernel
theorem dX8_digest_79 : decode cX8_digest 79 = .ok (.iload 4, 2) := by decide +kernel
theorem dX8_digest_81 : decode cX8_digest 81 = .ok (.invokevirtual 153, 3) := by decide +kernel
theorem dX8_digest_84 : decode cX8_digest 84 = .ok (.i2l, 1) := by decide +kernel
theorem dX8_digest_85 : decode cX8_digest 85 = .ok (.ladd, 1) := by decide +kernel
theorem dX8_digest_86 : decode cX8_digest 86 = .ok (.lstore_n 1, 1) := by decide +kernel
theorem dX8_digest_87 : decode cX8_digest 87 = .ok (.iinc 4 1, 3) := by decide +kernel
theorem dX8_digest_90 : decode cX8_digest 90 = .ok (.goto (-24), 3) := by decide +kernel
theorem dX8_digest_93 : decode cX8_digest 93 = .ok (.iconst 0, 1) := by decide +kernel
theorem dX8_digest_94 : decode cX8_digest 94 = .ok (.istore 4, 2) := by decide +kernel
theorem dX8_digest_96 : decode cX8_digest 96 = .ok (.iload 4, 2) := by decide +kernel
theorem dX8_digest_98 : decode cX8_digest 98 = .ok (.aload_n 0, 1) := by decide +kernel
theorem dX8_digest_99 : decode cX8_digest 99 = .ok (.invokevirtual 73, 3) := by decide +kernel
theorem dX8_digest_102 : decode cX8_digest 102 = .ok (.bipush 7, 2) := by decide +kernel
theorem dX8_digest_104 : decode cX8_digest 104 = .ok (.imul, 1) := by decide +kernel
theorem dX8_digest_105 : decode cX8_digest 105 = .ok (.if_icmp .ge 29, 3) := by decide +kernel
theorem dX8_digest_108 : decode cX8_digest 108 = .ok (.ldc2_w 338, 3) := by decide +kernel
theorem dX8_digest_111 : decode cX8_digest 111 = .ok (.lload_n 1, 1) := by decide +kernel
theorem dX8_digest_112 : decode cX8_digest 112 = .ok (.lmul, 1) := by decide +kernel
theorem dX8_digest_113 : decode cX8_digest 113 = .ok (.aload_n 0, 1) := by decide +kernel
theorem dX8_digest_114 : decode cX8_digest 114 = .ok (.getfield 7, 3) := by decide +kernel
theorem dX8_digest_117 : decode cX8_digest 117 = .ok (.iload_n 3, 1) := by decide +kernel
theorem dX8_digest_118 : decode cX8_digest 118 = .ok (.iconst 0, 1) := by decide +kernel
theorem dX8_digest_119 : decode cX8_digest 119 = .ok (.iload 4, 2) := by decide +kernel
theorem dX8_digest_121 : decode cX8_digest 121 = .ok (.invokestatic 79, 3) := by decide +kernel
theorem dX8_digest_124 : decode cX8_digest 124 = .ok (.iaload, 1) := by decide +kernel
theorem dX8_digest_125 : decode cX8_digest 125 = .ok (.i2l, 1) := by decide +kernel
theorem dX8_digest_126 : decode cX8_digest 126 = .ok (.ladd, 1) := by decide +kernel
theorem dX8_digest_127 : decode cX8_digest 127 = .ok (.lstore_n 1, 1) := by decide +kernel
theorem dX8_digest_128 : decode cX8_digest 128 = .ok (.iinc 4 1, 3) := by decide +kernel
theorem dX8_digest_131 : decode cX8_digest 131 = .ok (.goto (-35), 3) := by decide +kernel
theorem dX8_digest_134 : decode cX8_digest 134 = .ok (.iinc 3 1, 3) := by decide +kernel
theorem dX8_digest_137 : decode cX8_digest 137 = .ok (.goto (-82), 3) := by decide +kernel
theorem dX8_digest_140 : decode cX8_digest 140 = .ok (.iconst 1, 1) := by decide +kernel
theorem dX8_digest_141 : decode cX8_digest 141 = .ok (.aload_n 0, 1) := by decide +kernel
theorem dX8_digest_142 : decode cX8_digest 142 = .ok (.invokevirtual 65, 3) := by decide +kernel
theorem dX8_digest_145 : decode cX8_digest 145 = .ok (.ishl, 1) := by decide +kernel
theorem dX8_digest_146 : decode cX8_digest 146 = .ok (.iconst 1, 1) := by decide +kernel
theorem dX8_digest_147 : decode cX8_digest 147 = .ok (.isub, 1) := by decide +kernel
theorem dX8_digest_148 : decode cX8_digest 148 = .ok (.istore_n 3, 1) := by decide +kernel
theorem dX8_digest_149 : decode cX8_digest 149 = .ok (.ldc2_w 338, 3) := by decide +kernel
theorem dX8_digest_152 : decode cX8_digest 152 = .ok (.ldc2_w 338, 3) := by decide +kernel
theorem dX8_digest_155 : decode cX8_digest 155 = .ok (.lload_n 1, 1) := by decide +kernel
theorem dX8_digest_156 : decode cX8_digest 156 = .ok (.lmul, 1) := by decide +kernel
theorem dX8_digest_157 : decode cX8_digest 157 = .ok (.aload_n 0, 1) := by decide +kernel
theorem dX8_digest_158 : decode cX8_digest 158 = .ok (.iload_n 3, 1) := by decide +kernel
theorem dX8_digest_159 : decode cX8_digest 159 = .ok (.invokevirtual 205, 3) := by decide +kernel
theorem dX8_digest_162 : decode cX8_digest 162 = .ok (.i2l, 1) := by decide +kernel
theorem dX8_digest_163 : decode cX8_digest 163 = .ok (.ladd, 1) := by decide +kernel
theorem dX8_digest_164 : decode cX8_digest 164 = .ok (.lmul, 1) := by decide +kernel
theorem dX8_digest_165 : decode cX8_digest 165 = .ok (.aload_n 0, 1) := by decide +kernel
theorem dX8_digest_166 : decode cX8_digest 166 = .ok (.iload_n 3, 1) := by decide +kernel
theorem dX8_digest_167 : decode cX8_digest 167 = .ok (.invokevirtual 211, 3) := by decide +kernel
theorem dX8_digest_170 : decode cX8_digest 170 = .ok (.i2l, 1) := by decide +kernel
theorem dX8_digest_171 : decode cX8_digest 171 = .ok (.ladd, 1) := by decide +kernel
theorem dX8_digest_172 : decode cX8_digest 172 = .ok (.lstore_n 1, 1) := by decide +kernel
theorem dX8_digest_173 : decode cX8_digest 173 = .ok (.ldc2_w 338, 3) := by decide +kernel
theorem dX8_digest_176 : decode cX8_digest 176 = .ok (.ldc2_w 338, 3) := by decide +kernel
theorem dX8_digest_179 : decode cX8_digest 179 = .ok (.lload_n 1, 1) := by decide +kernel
theorem dX8_digest_180 : decode cX8_digest 180 = .ok (.lmul, 1) := by decide +kernel
theorem dX8_digest_181 : decode cX8_digest 181 = .ok (.aload_n 0, 1) := by decide +kernel
theorem dX8_digest_182 : decode cX8_digest 182 = .ok (.iconst 0, 1) := by decide +kernel
theorem dX8_digest_183 : decode cX8_digest 183 = .ok (.invokevirtual 156, 3) := by decide +kernel
theorem dX8_digest_186 : decode cX8_digest 186 = .ok (.i2l, 1) := by decide +kernel
theorem dX8_digest_187 : decode cX8_digest 187 = .ok (.ladd, 1) := by decide +kernel
theorem dX8_digest_188 : decode cX8_digest 188 = .ok (.lmul, 1) := by decide +kernel
theorem dX8_digest_189 : decode cX8_digest 189 = .ok (.aload_n 0, 1) := by decide +kernel
theorem dX8_digest_190 : decode cX8_digest 190 = .ok (.iconst 1, 1) := by decide +kernel
theorem dX8_digest_191 : decode cX8_digest 191 = .ok (.invokevirtual 156, 3) := by decide +kernel
theorem dX8_digest_194 : decode cX8_digest 194 = .ok (.i2l, 1) := by decide +kernel
theorem dX8_digest_195 : decode cX8_digest 195 = .ok (.ladd, 1) := by decide +kernel
theorem dX8_digest_196 : decode cX8_digest 196 = .ok (.lreturn, 1) := by decide +kernel
