theorem dX0_init_0 : decode cX0_init 0 = .ok (.aload_n 0, 1) := by decide +kernel
theorem dX0_init_1 : decode cX0_init 1 = .ok (.invokespecial 3, 3) := by decide +kernel
theorem dX0_init_4 : decode cX0_init 4 = .ok (.aload_n 0, 1) := by decide +kernel
theorem dX0_init_5 : decode cX0_init 5 = .ok (.bipush 19, 2) := by decide +kernel
theorem dX0_init_7 : decode cX0_init 7 = .ok (.newarray .int, 2) := by decide +kernel
theorem dX0_init_9 : decode cX0_init 9 = .ok (.putfield 9, 3) := by decide +kernel
theorem dX0_init_12 : decode cX0_init 12 = .ok (.aload_n 0, 1) := by decide +kernel
theorem dX0_init_13 : decode cX0_init 13 = .ok (.iconst 3, 1) := by decide +kernel
theorem dX0_init_14 : decode cX0_init 14 = .ok (.newarray .int, 2) := by decide +kernel
theorem dX0_init_16 : decode cX0_init 16 = .ok (.putfield 15, 3) := by decide +kernel
theorem dX0_init_19 : decode cX0_init 19 = .ok (.return_, 1) := by decide +kernel
set_option maxRecDepth 20000 in
theorem ggX0_buildFrom_X0_choose : GoodIn wsX0_buildFrom wsX0_choose := goodIn_r _ [8, 9, 10, 11, 12, 13, 14, 15, 16, 17, 46, 47, 48, 49, 50, 51, 52, 53, 54, 55] (by decide +kernel) (by decide +kernel)
set_option maxRecDepth 20000 in
theorem gX0_buildFrom_X0_choose : GoodIn wsX0_buildFrom (wsV RX0 18 RX0 yX0_choose wsX0_choose) := goodIn_app (goodIn_of _ (by decide +kernel)) ggX0_buildFrom_X0_choose
set_option maxRecDepth 20000 in
theorem ggX0_buildFrom_X0_addProduct : GoodIn wsX0_buildFrom wsX0_addProduct := goodIn_r _ [21, 22, 23, 24, 7, 25, 9, 11, 26, 27, 28, 29, 30, 31, 32, 33, 34, 35, 36, 37, 38, 39, 1, 46, 47, 48, 49, 50, 51, 52, 53, 54, 55] (by decide +kernel) (by decide +kernel)
set_option maxRecDepth 20000 in
theorem gX0_buildFrom_X0_addProduct : GoodIn wsX0_buildFrom (wsV RX0 25 RX0 yX0_addProduct wsX0_addProduct) := goodIn_app (goodIn_of _ (by decide +kernel)) ggX0_buildFrom_X0_addProduct
set_option maxRecDepth 20000 in
theorem ggX0_buildFrom_X7_modulo : GoodIn wsX0_buildFrom wsX7_modulo := goodIn_r _ [41, 42, 43, 44, 45] (by decide +kernel) (by decide +kernel)
set_option maxRecDepth 20000 in
theorem gX0_buildFrom_X7_modulo_n35 : GoodIn wsX0_buildFrom (wsX7_modulo) := ggX0_buildFrom_X7_modulo
theorem dX0_buildFrom_0 : decode cX0_buildFrom 0 = .ok (.aload_n 0, 1) := by decide +kernel
theorem dX0_buildFrom_1 : decode cX0_buildFrom 1 = .ok (.aload_n 1, 1) := by decide +kernel
theorem dX0_buildFrom_2 : decode cX0_buildFrom 2 = .ok (.iload_n 2, 1) := by decide +kernel
theorem dX0_buildFrom_3 : decode cX0_buildFrom 3 = .ok (.invokevirtual 18, 3) := by decide +kernel
theorem dX0_buildFrom_6 : decode cX0_buildFrom 6 = .ok (.iconst 0, 1) := by decide +kernel
theorem dX0_buildFrom_7 : decode cX0_buildFrom 7 = .ok (.istore_n 3, 1) := by decide +kernel
theorem dX0_buildFrom_8 : decode cX0_buildFrom 8 = .ok (.iload_n 3, 1) := by decide +kernel
theorem dX0_buildFrom_9 : decode cX0_buildFrom 9 = .ok (.aload_n 0, 1) := by decide +kernel
theorem dX0_buildFrom_10 : decode cX0_buildFrom 10 = .ok (.getfield 9, 3) := by decide +kernel
theorem dX0_buildFrom_13 : decode cX0_buildFrom 13 = .ok (.arraylength, 1) := by decide +kernel
theorem dX0_buildFrom_14 : decode cX0_buildFrom 14 = .ok (.if_icmp .ge 16, 3) := by decide +kernel
theorem dX0_buildFrom_17 : decode cX0_buildFrom 17 = .ok (.aload_n 0, 1) := by decide +kernel
theorem dX0_buildFrom_18 : decode cX0_buildFrom 18 = .ok (.getfield 9, 3) := by decide +kernel
theorem dX0_buildFrom_21 : decode cX0_buildFrom 21 = .ok (.iload_n 3, 1) := by decide +kernel
theorem dX0_buildFrom_22 : decode cX0_buildFrom 22 = .ok (.iconst 0, 1) := by decide +kernel
theorem dX0_buildFrom_23 : decode cX0_buildFrom 23 = .ok (.iastore, 1) := by decide +kernel
theorem dX0_buildFrom_24 : decode cX0_buildFrom 24 = .ok (.iinc 3 1, 3) := by decide +kernel
theorem dX0_buildFrom_27 : decode cX0_buildFrom 27 = .ok (.goto (-19), 3) := by decide +kernel
theorem dX0_buildFrom_30 : decode cX0_buildFrom 30 = .ok (.iconst 0, 1) := by decide +kernel
theorem dX0_buildFrom_31 : decode cX0_buildFrom 31 = .ok (.istore_n 3, 1) := by decide +kernel
theorem dX0_buildFrom_32 : decode cX0_buildFrom 32 = .ok (.iload_n 3, 1) := by decide +kernel
theorem dX0_buildFrom_33 : decode cX0_buildFrom 33 = .ok (.iconst 2, 1) := by decide +kernel
theorem dX0_buildFrom_34 : decode cX0_buildFrom 34 = .ok (.iadd, 1) := by decide +kernel
theorem dX0_buildFrom_35 : decode cX0_buildFrom 35 = .ok (.getstatic 22, 3) := by decide +kernel
theorem dX0_buildFrom_38 : decode cX0_buildFrom 38 = .ok (.arraylength, 1) := by decide +kernel
theorem dX0_buildFrom_39 : decode cX0_buildFrom 39 = .ok (.if_icmp .ge 48, 3) := by decide +kernel
theorem dX0_buildFrom_42 : decode cX0_buildFrom 42 = .ok (.iload_n 3, 1) := by decide +kernel
theorem dX0_buildFrom_43 : decode cX0_buildFrom 43 = .ok (.bipush 9, 2) := by decide +kernel
theorem dX0_buildFrom_45 : decode cX0_buildFrom 45 = .ok (.if_icmp .ge 7, 3) := by decide +kernel
theorem dX0_buildFrom_48 : decode cX0_buildFrom 48 = .ok (.iconst 1, 1) := by decide +kernel
theorem dX0_buildFrom_49 : decode cX0_buildFrom 49 = .ok (.goto 4, 3) := by decide +kernel
theorem dX0_buildFrom_52 : decode cX0_buildFrom 52 = .ok (.iconst (-1), 1) := by decide +kernel
theorem dX0_buildFrom_53 : decode cX0_buildFrom 53 = .ok (.istore 4, 2) := by decide +kernel
theorem dX0_buildFrom_55 : decode cX0_buildFrom 55 = .ok (.aload_n 0, 1) := by decide +kernel
theorem dX0_buildFrom_56 : decode cX0_buildFrom 56 = .ok (.aload_n 1, 1) := by decide +kernel
theorem dX0_buildFrom_57 : decode cX0_buildFrom 57 = .ok (.iload 4, 2) := by decide +kernel
theorem dX0_buildFrom_59 : decode cX0_buildFrom 59 = .ok (.getstatic 22, 3) := by decide +kernel
theorem dX0_buildFrom_62 : decode cX0_buildFrom 62 = .ok (.iload_n 3, 1) := by decide +kernel
theorem dX0_buildFrom_63 : decode cX0_buildFrom 63 = .ok (.iaload, 1) := by decide +kernel
theorem dX0_buildFrom_64 : decode cX0_buildFrom 64 = .ok (.getstatic 22, 3) := by decide +kernel
theorem dX0_buildFrom_67 : decode cX0_buildFrom 67 = .ok (.iload_n 3, 1) := by decide +kernel
theorem dX0_buildFrom_68 : decode cX0_buildFrom 68 = .ok (.iconst 1, 1) := by decide +kernel
theorem dX0_buildFrom_69 : decode cX0_buildFrom 69 = .ok (.iadd, 1) := by decide +kernel
theorem dX0_buildFrom_70 : decode cX0_buildFrom 70 = .ok (.iaload, 1) := by decide +kernel
theorem dX0_buildFrom_71 : decode cX0_buildFrom 71 = .ok (.getstatic 22, 3) := by decide +kernel
theorem dX0_buildFrom_74 : decode cX0_buildFrom 74 = .ok (.iload_n 3, 1) := by decide +kernel
theorem dX0_buildFrom_75 : decode cX0_buildFrom 75 = .ok (.iconst 2, 1) := by decide +kernel
theorem dX0_buildFrom_76 : decode cX0_buildFrom 76 = .ok (.iadd, 1) := by decide +kernel
theorem dX0_buildFrom_77 : decode cX0_buildFrom 77 = .ok (.iaload, 1) := by decide +kernel
theorem dX0_buildFrom_78 : decode cX0_buildFrom 78 = .ok (.invokevirtual 25, 3) := by decide +kernel
theorem dX0_buildFrom_81 : decode cX0_buildFrom 81 = .ok (.iinc 3 3, 3) := by decide +kernel
theorem dX0_buildFrom_84 : decode cX0_buildFrom 84 = .ok (.goto (-52), 3) := by decide +kernel
theorem dX0_buildFrom_87 : decode cX0_buildFrom 87 = .ok (.iconst 0, 1) := by decide +kernel
theorem dX0_buildFrom_88 : decode cX0_buildFrom 88 = .ok (.istore_n 3, 1) := by decide +kernel
theorem dX0_buildFrom_89 : decode cX0_buildFrom 89 = .ok (.iload_n 3, 1) := by decide +kernel
theorem dX0_buildFrom_90 : decode cX0_buildFrom 90 = .ok (.aload_n 0, 1) := by decide +kernel
theorem dX0_buildFrom_91 : decode cX0_buildFrom 91 = .ok (.getfield 9, 3) := by decide +kernel
theorem dX0_buildFrom_94 : decode cX0_buildFrom 94 = .ok (.arraylength, 1) := by decide +kernel
theorem dX0_buildFrom_95 : decode cX0_buildFrom 95 = .ok (.if_icmp .ge 28, 3) := by decide +kernel
theorem dX0_buildFrom_98 : decode cX0_buildFrom 98 = .ok (.aload_n 0, 1) := by decide +kernel
theorem dX0_buildFrom_99 : decode cX0_buildFrom 99 = .ok (.getfield 9, 3) := by decide +kernel
theorem dX0_buildFrom_102 : decode cX0_buildFrom 102 = .ok (.iload_n 3, 1) := by decide +kernel
theorem dX0_buildFrom_103 : decode cX0_buildFrom 103 = .ok (.aload_n 0, 1) := by decide +kernel
theorem dX0_buildFrom_104 : decode cX0_buildFrom 104 = .ok (.getfield 9, 3) := by decide +kernel
theorem dX0_buildFrom_107 : decode cX0_buildFrom 107 = .ok (.iload_n 3, 1) := by decide +kernel
theorem dX0_buildFrom_108 : decode cX0_buildFrom 108 = .ok (.iaload, 1) := by decide +kernel
theorem dX0_buildFrom_109 : decode cX0_buildFrom 109 = .ok (.aload_n 1, 1) := by decide +kernel
theorem dX0_buildFrom_110 : decode cX0_buildFrom 110 = .ok (.getfield 29, 3) := by decide +kernel
theorem dX0_buildFrom_113 : decode cX0_buildFrom 113 = .ok (.invokestatic 35, 3) := by decide +kernel
theorem dX0_buildFrom_116 : decode cX0_buildFrom 116 = .ok (.iastore, 1) := by decide +kernel
theorem dX0_buildFrom_117 : decode cX0_buildFrom 117 = .ok (.iinc 3 1, 3) := by decide +kernel
theorem dX0_buildFrom_120 : decode cX0_buildFrom 120 = .ok (.goto (-31), 3) := by decide +kernel
theorem dX0_buildFrom_123 : decode cX0_buildFrom 123 = .ok (.return_, 1) := by decide +kernel
theorem dX0_at_0 : decode cX0_at 0 = .ok (.iload_n 1, 1) := by decide +kernel
theorem dX0_at_1 : decode cX0_at 1 = .ok (.ifCond .lt 21, 3) := by decide +kernel
theorem dX0_at_4 : decode cX0_at 4 = .ok (.iload_n 1, 1) := by decide +kernel
theorem dX0_at_5 : decode cX0_at 5 = .ok (.aload_n 0, 1) := by decide +kernel
theorem dX0_at_6 : decode cX0_at 6 = .ok (.getfield 9, 3) := by decide +kernel
theorem dX0_at_9 : decode cX0_at 9 = .ok (.arraylength, 1) := by decide +kernel
theorem dX0_at_10 : decode cX0_at 10 = .ok (.if_icmp .ge 12, 3) := by decide +kernel
theorem dX0_at_13 : decode cX0_at 13 = .ok (.aload_n 0, 1) := by decide +kernel
theorem dX0_at_14 : decode cX0_at 14 = .ok (.getfield 9, 3) := by decide +kernel
theorem dX0_at_17 : decode cX0_at 17 = .ok (.iload_n 1, 1) := by decide +kernel
theorem dX0_at_18 : decode cX0_at 18 = .ok (.iaload, 1) := by decide +kernel
theorem dX0_at_19 : decode cX0_at 19 = .ok (.goto 4, 3) := by decide +kernel
theorem dX0_at_22 : decode cX0_at 22 = .ok (.iconst 0, 1) := by decide +kernel
theorem dX0_at_23 : decode cX0_at 23 = .ok (.ireturn, 1) := by decide +kernel
theorem dX0_degree_0 : decode cX0_degree 0 = .ok (.aload_n 0, 1) := by decide +kernel
theorem dX0_degree_1 : decode cX0_degree 1 = .ok (.getfield 9, 3) := by decide +kernel
theorem dX0_degree_4 : decode cX0_degree 4 = .ok (.arraylength, 1) := by decide +kernel
theorem dX0_degree_5 : decode cX0_degree 5 = .ok (.iconst 1, 1) := by decide +kernel
theorem dX0_degree_6 : decode cX0_degree 6 = .ok (.isub, 1) := by decide +kernel
theorem dX0_degree_7 : decode cX0_degree 7 = .ok (.istore_n 1, 1) := by decide +kernel
theorem dX0_degree_8 : decode cX0_degree 8 = .ok (.iload_n 1, 1) := by decide +kernel
theorem dX0_degree_9 : decode cX0_degree 9 = .ok (.ifCond .lt 20, 3) := by decide +kernel
theorem dX0_degree_12 : decode cX0_degree 12 = .ok (.aload_n 0, 1) := by decide +kernel
theorem dX0_degree_13 : decode cX0_degree 13 = .ok (.getfield 9, 3) := by decide +kernel
theorem dX0_degree_16 : decode cX0_degree 16 = .ok (.iload_n 1, 1) := by decide +kernel
theorem dX0_degree_17 : decode cX0_degree 17 = .ok (.iaload, 1) := by decide +kernel
theorem dX0_degree_18 : decode cX0_degree 18 = .ok (.ifCond .eq 5, 3) := by decide +kernel
theorem dX0_degree_21 : decode cX0_degree 21 = .ok (.iload_n 1, 1) := by decide +kernel
theorem dX0_degree_22 : decode cX0_degree 22 = .ok (.ireturn, 1) := by decide +kernel
theorem dX0_degree_23 : decode cX0_degree 23 = .ok (.iinc 1 (-1), 3) := by decide +kernel
theorem dX0_degree_26 : decode cX0_degree 26 = .ok (.goto (-18), 3) := by decide +kernel
theorem dX0_degree_29 : decode cX0_degree 29 = .ok (.iconst (-1), 1) := by decide +kernel
theorem dX0_degree_30 : decode cX0_degree 30 = .ok (.ireturn, 1) := by decide +kernel
set_option maxRecDepth 20000 in
theorem ggX0_choose_X7_isInSet : GoodIn wsX0_choose wsX7_isInSet := goodIn_r _ [6, 7, 8, 5, 9] (by decide +kernel) (by decide +kernel)
set_option maxRecDepth 20000 in
theorem gX0_choose_X7_isInSet_n45 : GoodIn wsX0_choose (wsX7_isInSet) := ggX0_choose_X7_isInSet
theorem dX0_choose_0 : decode cX0_choose 0 = .ok (.aload_n 0, 1) := by decide +kernel
theorem dX0_choose_1 : decode cX0_choose 1 = .ok (.iconst 0, 1) := by decide +kernel
theorem dX0_choose_2 : decode cX0_choose 2 = .ok (.putfield 39, 3) := by decide +kernel
theorem dX0_choose_5 : decode cX0_choose 5 = .ok (.iconst 0, 1) := by decide +kernel
theorem dX0_choose_6 : decode cX0_choose 6 = .ok (.istore_n 3, 1) := by decide +kernel
theorem dX0_choose_7 : decode cX0_choose 7 = .ok (.iload_n 3, 1) := by decide +kernel
theorem dX0_choose_8 : decode cX0_choose 8 = .ok (.aload_n 1, 1) := by decide +kernel
theorem dX0_choose_9 : decode cX0_choose 9 = .ok (.getfield 42, 3) := by decide +kernel
theorem dX0_choose_12 : decode cX0_choose 12 = .ok (.if_icmp .ge 49, 3) := by decide +kernel
theorem dX0_choose_15 : decode cX0_choose 15 = .ok (.iload_n 3, 1) := by decide +kernel
theorem dX0_choose_16 : decode cX0_choose 16 = .ok (.iload_n 2, 1) := by decide +kernel
theorem dX0_choose_17 : decode cX0_choose 17 = .ok (.invokestatic 45, 3) := by decide +kernel
theorem dX0_choose_20 : decode cX0_choose 20 = .ok (.ifCond .eq 35, 3) := by decide +kernel
theorem dX0_choose_23 : decode cX0_choose 23 = .ok (.aload_n 0, 1) := by decide +kernel
theorem dX0_choose_24 : decode cX0_choose 24 = .ok (.getfield 39, 3) := by decide +kernel
theorem dX0_choose_27 : decode cX0_choose 27 = .ok (.aload_n 0, 1) := by decide +kernel
theorem dX0_choose_28 : decode cX0_choose 28 = .ok (.getfield 15, 3) := by decide +kernel
theorem dX0_choose_31 : decode cX0_choose 31 = .ok (.arraylength, 1) := by decide +kernel
theorem dX0_choose_32 : decode cX0_choose 32 = .ok (.if_icmp .ge 23, 3) := by decide +kernel
theorem dX0_choose_35 : decode cX0_choose 35 = .ok (.aload_n 0, 1) := by decide +kernel
theorem dX0_choose_36 : decode cX0_choose 36 = .ok (.getfield 15, 3) := by decide +kernel
theorem dX0_choose_39 : decode cX0_choose 39 = .ok (.aload_n 0, 1) := by decide +kernel
theorem dX0_choose_40 : decode cX0_choose 40 = .ok (.getfield 39, 3) := by decide +kernel
theorem dX0_choose_43 : decode cX0_choose 43 = .ok (.iload_n 3, 1) := by decide +kernel
theorem dX0_choose_44 : decode cX0_choose 44 = .ok (.iastore, 1) := by decide +kernel
theorem dX0_choose_45 : decode cX0_choose 45 = .ok (.aload_n 0, 1) := by decide +kernel
theorem dX0_choose_46 : decode cX0_choose 46 = .ok (.dup, 1) := by decide +kernel
theorem dX0_choose_47 : decode cX0_choose 47 = .ok (.getfield 39, 3) := by decide +kernel
theorem dX0_choose_50 : decode cX0_choose 50 = .ok (.iconst 1, 1) := by decide +kernel
theorem dX0_choose_51 : decode cX0_choose 51 = .ok (.iadd, 1) := by decide +kernel
theorem dX0_choose_52 : decode cX0_choose 52 = .ok (.putfield 39, 3) := by decide +kernel
theorem dX0_choose_55 : decode cX0_choose 55 = .ok (.iinc 3 1, 3) := by decide +kernel
theorem dX0_choose_58 : decode cX0_choose 58 = .ok (.goto (-51), 3) := by decide +kernel
theorem dX0_choose_61 : decode cX0_choose 61 = .ok (.return_, 1) := by decide +kernel
set_option maxRecDepth 20000 in
theorem ggX0_entryAt_X3_at : GoodIn wsX0_entryAt wsX3_at := goodIn_r _ [8, 9, 10, 11, 12, 16, 17, 18, 19, 20, 21, 22] (by decide +kernel) (by decide +kernel)
set_option maxRecDepth 20000 in
theorem gX0_entryAt_X3_at : GoodIn wsX0_entryAt (wsV RX0 52 RX3 yX3_at wsX3_at) := goodIn_app (goodIn_of _ (by decide +kernel)) ggX0_entryAt_X3_at
theorem dX0_entryAt_0 : decode cX0_entryAt 0 = .ok (.iload_n 2, 1) := by decide +kernel
theorem dX0_entryAt_1 : decode cX0_entryAt 1 = .ok (.ifCond .lt 46, 3) := by decide +kernel
theorem dX0_entryAt_4 : decode cX0_entryAt 4 = .ok (.iload_n 2, 1) := by decide +kernel
theorem dX0_entryAt_5 : decode cX0_entryAt 5 = .ok (.aload_n 0, 1) := by decide +kernel
theorem dX0_entryAt_6 : decode cX0_entryAt 6 = .ok (.getfield 39, 3) := by decide +kernel
theorem dX0_entryAt_9 : decode cX0_entryAt 9 = .ok (.if_icmp .ge 38, 3) := by decide +kernel
theorem dX0_entryAt_12 : decode cX0_entryAt 12 = .ok (.iload_n 2, 1) := by decide +kernel
theorem dX0_entryAt_13 : decode cX0_entryAt 13 = .ok (.aload_n 0, 1) := by decide +kernel
theorem dX0_entryAt_14 : decode cX0_entryAt 14 = .ok (.getfield 15, 3) := by decide +kernel
theorem dX0_entryAt_17 : decode cX0_entryAt 17 = .ok (.arraylength, 1) := by decide +kernel
theorem dX0_entryAt_18 : decode cX0_entryAt 18 = .ok (.if_icmp .ge 29, 3) := by decide +kernel
theorem dX0_entryAt_21 : decode cX0_entryAt 21 = .ok (.iload_n 3, 1) := by decide +kernel
theorem dX0_entryAt_22 : decode cX0_entryAt 22 = .ok (.aload_n 1, 1) := by decide +kernel
theorem dX0_entryAt_23 : decode cX0_entryAt 23 = .ok (.getfield 49, 3) := by decide +kernel
theorem dX0_entryAt_26 : decode cX0_entryAt 26 = .ok (.if_icmp .ge 19, 3) := by decide +kernel
theorem dX0_entryAt_29 : decode cX0_entryAt 29 = .ok (.aload_n 1, 1) := by decide +kernel
theorem dX0_entryAt_30 : decode cX0_entryAt 30 = .ok (.aload_n 0, 1) := by decide +kernel
theorem dX0_entryAt_31 : decode cX0_entryAt 31 = .ok (.getfield 15, 3) := by decide +kernel
theorem dX0_entryAt_34 : decode cX0_entryAt 34 = .ok (.iload_n 2, 1) := by decide +kernel
theorem dX0_entryAt_35 : decode cX0_entryAt 35 = .ok (.iaload, 1) := by decide +kernel
theorem dX0_entryAt_36 : decode cX0_entryAt 36 = .ok (.iload_n 3, 1) := by decide +kernel
theorem dX0_entryAt_37 : decode cX0_entryAt 37 = .ok (.iload 4, 2) := by decide +kernel
theorem dX0_entryAt_39 : decode cX0_entryAt 39 = .ok (.invokevirtual 52, 3) := by decide +kernel
theorem dX0_entryAt_42 : decode cX0_entryAt 42 = .ok (.goto 4, 3) := by decide +kernel
theorem dX0_entryAt_45 : decode cX0_entryAt 45 = .ok (.iconst 0, 1) := by decide +kernel
theorem dX0_entryAt_46 : decode cX0_entryAt 46 = .ok (.ireturn, 1) := by decide +kernel
theorem dX0_entryAt_47 : decode cX0_entryAt 47 = .ok (.iload_n 2, 1) := by decide +kernel
theorem dX0_entryAt_48 : decode cX0_entryAt 48 = .ok (.iload_n 3, 1) := by decide +kernel
theorem dX0_entryAt_49 : decode cX0_entryAt 49 = .ok (.if_icmp .ne 12, 3) := by decide +kernel
theorem dX0_entryAt_52 : decode cX0_entryAt 52 = .ok (.iload 4, 2) := by decide +kernel
theorem dX0_entryAt_54 : decode cX0_entryAt 54 = .ok (.ifCond .ne 7, 3) := by decide +kernel
theorem dX0_entryAt_57 : decode cX0_entryAt 57 = .ok (.iconst 1, 1) := by decide +kernel
theorem dX0_entryAt_58 : decode cX0_entryAt 58 = .ok (.goto 4, 3) := by decide +kernel
theorem dX0_entryAt_61 : decode cX0_entryAt 61 = .ok (.iconst 0, 1) := by decide +kernel
theorem dX0_entryAt_62 : decode cX0_entryAt 62 = .ok (.ireturn, 1) := by decide +kernel
set_option maxRecDepth 20000 in
theorem ggX0_addProduct_X0_entryAt : GoodIn wsX0_addProduct wsX0_entryAt := goodIn_r _ [5, 6, 7, 8, 9, 10, 11, 12, 13, 14, 15, 16, 17, 23, 24, 25, 26, 27, 28, 29, 30, 31, 32] (by decide +kernel) (by decide +kernel)
set_option maxRecDepth 20000 in
theorem gX0_addProduct_X0_entryAt : GoodIn wsX0_addProduct (wsV RX0 56 RX0 yX0_entryAt wsX0_entryAt) := goodIn_app (goodIn_of _ (by decide +kernel)) ggX0_addProduct_X0_entryAt
set_option maxRecDepth 20000 in
theorem ggX0_addProduct_X0_addAt : GoodIn wsX0_addProduct wsX0_addAt := goodIn_r _ [21, 22, 23, 24, 25] (by decide +kernel) (by decide +kernel)
set_option maxRecDepth 20000 in
theorem gX0_addProduct_X0_addAt : GoodIn wsX0_addProduct (wsV RX0 60 RX0 yX0_addAt wsX0_addAt) := goodIn_app (goodIn_of _ (by decide +kernel)) ggX0_addProduct_X0_addAt
theorem dX0_addProduct_0 : decode cX0_addProduct 0 = .ok (.iconst 0, 1) := by decide +kernel
theorem dX0_addProduct_1 : decode cX0_addProduct 1 = .ok (.istore 6, 2) := by decide +kernel
theorem dX0_addProduct_3 : decode cX0_addProduct 3 = .ok (.iload 6, 2) := by decide +kernel
theorem dX0_addProduct_5 : decode cX0_addProduct 5 = .ok (.bipush 6, 2) := by decide +kernel
theorem dX0_addProduct_7 : decode cX0_addProduct 7 = .ok (.if_icmp .gt 104, 3) := by decide +kernel
theorem dX0_addProduct_10 : decode cX0_addProduct 10 = .ok (.iload_n 2, 1) := by decide +kernel
theorem dX0_addProduct_11 : decode cX0_addProduct 11 = .ok (.aload_n 0, 1) := by decide +kernel
theorem dX0_addProduct_12 : decode cX0_addProduct 12 = .ok (.aload_n 1, 1) := by decide +kernel
theorem dX0_addProduct_13 : decode cX0_addProduct 13 = .ok (.iconst 0, 1) := by decide +kernel
theorem dX0_addProduct_14 : decode cX0_addProduct 14 = .ok (.iload_n 3, 1) := by decide +kernel
theorem dX0_addProduct_15 : decode cX0_addProduct 15 = .ok (.iload 6, 2) := by decide +kernel
theorem dX0_addProduct_17 : decode cX0_addProduct 17 = .ok (.invokevirtual 56, 3) := by decide +kernel
theorem dX0_addProduct_20 : decode cX0_addProduct 20 = .ok (.imul, 1) := by decide +kernel
theorem dX0_addProduct_21 : decode cX0_addProduct 21 = .ok (.istore 7, 2) := by decide +kernel
theorem dX0_addProduct_23 : decode cX0_addProduct 23 = .ok (.iconst 0, 1) := by decide +kernel
theorem dX0_addProduct_24 : decode cX0_addProduct 24 = .ok (.istore 8, 2) := by decide +kernel
theorem dX0_addProduct_26 : decode cX0_addProduct 26 = .ok (.iload 8, 2) := by decide +kernel
theorem dX0_addProduct_28 : decode cX0_addProduct 28 = .ok (.bipush 6, 2) := by decide +kernel
theorem dX0_addProduct_30 : decode cX0_addProduct 30 = .ok (.if_icmp .gt 75, 3) := by decide +kernel
theorem dX0_addProduct_33 : decode cX0_addProduct 33 = .ok (.iload 7, 2) := by decide +kernel
theorem dX0_addProduct_35 : decode cX0_addProduct 35 = .ok (.ifCond .eq 70, 3) := by decide +kernel
theorem dX0_addProduct_38 : decode cX0_addProduct 38 = .ok (.iload 7, 2) := by decide +kernel
theorem dX0_addProduct_40 : decode cX0_addProduct 40 = .ok (.aload_n 0, 1) := by decide +kernel
theorem dX0_addProduct_41 : decode cX0_addProduct 41 = .ok (.aload_n 1, 1) := by decide +kernel
theorem dX0_addProduct_42 : decode cX0_addProduct 42 = .ok (.iconst 1, 1) := by decide +kernel
theorem dX0_addProduct_43 : decode cX0_addProduct 43 = .ok (.iload 4, 2) := by decide +kernel
theorem dX0_addProduct_45 : decode cX0_addProduct 45 = .ok (.iload 8, 2) := by decide +kernel
theorem dX0_addProduct_47 : decode cX0_addProduct 47 = .ok (.invokevirtual 56, 3) := by decide +kernel
theorem dX0_addProduct_50 : decode cX0_addProduct 50 = .ok (.imul, 1) := by decide +kernel
theorem dX0_addProduct_51 : decode cX0_addProduct 51 = .ok (.istore 9, 2) := by decide +kernel
theorem dX0_addProduct_53 : decode cX0_addProduct 53 = .ok (.iconst 0, 1) := by decide +kernel
theorem dX0_addProduct_54 : decode cX0_addProduct 54 = .ok (.istore 10, 2) := by decide +kernel
theorem dX0_addProduct_56 : decode cX0_addProduct 56 = .ok (.iload 10, 2) := by decide +kernel
theorem dX0_addProduct_58 : decode cX0_addProduct 58 = .ok (.bipush 6, 2) := by decide +kernel
theorem dX0_addProduct_60 : decode cX0_addProduct 60 = .ok (.if_icmp .gt 39, 3) := by decide +kernel
theorem dX0_addProduct_63 : decode cX0_addProduct 63 = .ok (.iload 9, 2) := by decide +kernel
theorem dX0_addProduct_65 : decode cX0_addProduct 65 = .ok (.ifCond .eq 34, 3) := by decide +kernel
theorem dX0_addProduct_68 : decode cX0_addProduct 68 = .ok (.aload_n 0, 1) := by decide +kernel
theorem dX0_addProduct_69 : decode cX0_addProduct 69 = .ok (.iload 6, 2) := by decide +kernel
theorem dX0_addProduct_71 : decode cX0_addProduct 71 = .ok (.iload 8, 2) := by decide +kernel
theorem dX0_addProduct_73 : decode cX0_addProduct 73 = .ok (.iadd, 1) := by decide +kernel
theorem dX0_addProduct_74 : decode cX0_addProduct 74 = .ok (.iload 10, 2) := by decide +kernel
theorem dX0_addProduct_76 : decode cX0_addProduct 76 = .ok (.iadd, 1) := by decide +kernel
theorem dX0_addProduct_77 : decode cX0_addProduct 77 = .ok (.iload 9, 2) := by decide +kernel
theorem dX0_addProduct_79 : decode cX0_addProduct 79 = .ok (.aload_n 0, 1) := by decide +kernel
theorem dX0_addProduct_80 : decode cX0_addProduct 80 = .ok (.aload_n 1, 1) := by decide +kernel
theorem dX0_addProduct_81 : decode cX0_addProduct 81 = .ok (.iconst 2, 1) := by decide +kernel
theorem dX0_addProduct_82 : decode cX0_addProduct 82 = .ok (.iload 5, 2) := by decide +kernel
theorem dX0_addProduct_84 : decode cX0_addProduct 84 = .ok (.iload 10, 2) := by decide +kernel
theorem dX0_addProduct_86 : decode cX0_addProduct 86 = .ok (.invokevirtual 56, 3) := by decide +kernel
theorem dX0_addProduct_89 : decode cX0_addProduct 89 = .ok (.imul, 1) := by decide +kernel
theorem dX0_addProduct_90 : decode cX0_addProduct 90 = .ok (.invokevirtual 60, 3) := by decide +kernel
theorem dX0_addProduct_93 : decode cX0_addProduct 93 = .ok (.iinc 10 1, 3) := by decide +kernel
theorem dX0_addProduct_96 : decode cX0_addProduct 96 = .ok (.goto (-40), 3) := by decide +kernel
theorem dX0_addProduct_99 : decode cX0_addProduct 99 = .ok (.iinc 8 1, 3) := by decide +kernel
theorem dX0_addProduct_102 : decode cX0_addProduct 102 = .ok (.goto (-76), 3) := by decide +kernel
theorem dX0_addProduct_105 : decode cX0_addProduct 105 = .ok (.iinc 6 1, 3) := by decide +kernel
theorem dX0_addProduct_108 : decode cX0_addProduct 108 = .ok (.goto (-105), 3) := by decide +kernel
theorem dX0_addProduct_111 : decode cX0_addProduct 111 = .ok (.return_, 1) := by decide +kernel
theorem dX0_addAt_0 : decode cX0_addAt 0 = .ok (.iload_n 1, 1) := by decide +kernel
theorem dX0_addAt_1 : decode cX0_addAt 1 = .ok (.ifCond .lt 22, 3) := by decide +kernel
theorem dX0_addAt_4 : decode cX0_addAt 4 = .ok (.iload_n 1, 1) := by decide +kernel
theorem dX0_addAt_5 : decode cX0_addAt 5 = .ok (.aload_n 0, 1) := by decide +kernel
theorem dX0_addAt_6 : decode cX0_addAt 6 = .ok (.getfield 9, 3) := by decide +kernel
theorem dX0_addAt_9 : decode cX0_addAt 9 = .ok (.arraylength, 1) := by decide +kernel
theorem dX0_addAt_10 : decode cX0_addAt 10 = .ok (.if_icmp .ge 13, 3) := by decide +kernel
theorem dX0_addAt_13 : decode cX0_addAt 13 = .ok (.aload_n 0, 1) := by decide +kernel
theorem dX0_addAt_14 : decode cX0_addAt 14 = .ok (.getfield 9, 3) := by decide +kernel
theorem dX0_addAt_17 : decode cX0_addAt 17 = .ok (.iload_n 1, 1) := by decide +kernel
theorem dX0_addAt_18 : decode cX0_addAt 18 = .ok (.dup2, 1) := by decide +kernel
theorem dX0_addAt_19 : decode cX0_addAt 19 = .ok (.iaload, 1) := by decide +kernel
theorem dX0_addAt_20 : decode cX0_addAt 20 = .ok (.iload_n 2, 1) := by decide +kernel
theorem dX0_addAt_21 : decode cX0_addAt 21 = .ok (.iadd, 1) := by decide +kernel
theorem dX0_addAt_22 : decode cX0_addAt 22 = .ok (.iastore, 1) := by decide +kernel
theorem dX0_addAt_23 : decode cX0_addAt 23 = .ok (.return_, 1) := by decide +kernel
set_option maxRecDepth 20000 in
theorem ggX1_init_X7_newState : GoodIn wsX1_init wsX7_newState := goodIn_r _ [8, 9, 10, 11, 12, 13, 14, 15, 2, 3, 16, 17, 18, 19, 20, 21, 22, 23, 24, 25, 26, 29, 30, 31, 32, 33, 34, 35] (by decide +kernel) (by decide +kernel)
set_option maxRecDepth 20000 in
theorem gX1_init_X7_newState_n17 : GoodIn wsX1_init (wsX7_newState) := ggX1_init_X7_newState
theorem dX1_init_0 : decode cX1_init 0 = .ok (.aload_n 0, 1) := by decide +kernel
theorem dX1_init_1 : decode cX1_init 1 = .ok (.invokespecial 3, 3) := by decide +kernel
theorem dX1_init_4 : decode cX1_init 4 = .ok (.aload_n 0, 1) := by decide +kernel
theorem dX1_init_5 : decode cX1_init 5 = .ok (.iconst 5, 1) := by decide +kernel
theorem dX1_init_6 : decode cX1_init 6 = .ok (.anewarray 9, 3) := by decide +kernel
theorem dX1_init_9 : decode cX1_init 9 = .ok (.putfield 11, 3) := by decide +kernel
theorem dX1_init_12 : decode cX1_init 12 = .ok (.iconst 0, 1) := by decide +kernel
theorem dX1_init_13 : decode cX1_init 13 = .ok (.istore_n 1, 1) := by decide +kernel
theorem dX1_init_14 : decode cX1_init 14 = .ok (.iload_n 1, 1) := by decide +kernel
theorem dX1_init_15 : decode cX1_init 15 = .ok (.aload_n 0, 1) := by decide +kernel
theorem dX1_init_16 : decode cX1_init 16 = .ok (.getfield 11, 3) := by decide +kernel
theorem dX1_init_19 : decode cX1_init 19 = .ok (.arraylength, 1) := by decide +kernel
theorem dX1_init_20 : decode cX1_init 20 = .ok (.if_icmp .ge 18, 3) := by decide +kernel
theorem dX1_init_23 : decode cX1_init 23 = .ok (.aload_n 0, 1) := by decide +kernel
theorem dX1_init_24 : decode cX1_init 24 = .ok (.getfield 11, 3) := by decide +kernel
theorem dX1_init_27 : decode cX1_init 27 = .ok (.iload_n 1, 1) := by decide +kernel
theorem dX1_init_28 : decode cX1_init 28 = .ok (.invokestatic 17, 3) := by decide +kernel
theorem dX1_init_31 : decode cX1_init 31 = .ok (.aastore, 1) := by decide +kernel
theorem dX1_init_32 : decode cX1_init 32 = .ok (.iinc 1 1, 3) := by decide +kernel
theorem dX1_init_35 : decode cX1_init 35 = .ok (.goto (-21), 3) := by decide +kernel
theorem dX1_init_38 : decode cX1_init 38 = .ok (.return_, 1) := by decide +kernel
set_option maxRecDepth 20000 in
theorem ggX1_keep_X1_forgetOldest : GoodIn wsX1_keep wsX1_forgetOldest := goodIn_r _ [7, 2, 1, 25, 26] (by decide +kernel) (by decide +kernel)
set_option maxRecDepth 20000 in
theorem gX1_keep_X1_forgetOldest : GoodIn wsX1_keep (wsV RX1 25 RX1 yX1_forgetOldest wsX1_forgetOldest) := goodIn_app (goodIn_of _ (by decide +kernel)) ggX1_keep_X1_forgetOldest
set_option maxRecDepth 20000 in
theorem ggX1_keep_X3_copyFrom : GoodIn wsX1_keep wsX3_copyFrom := goodIn_r _ [12, 13, 14, 15, 16, 17, 18, 19, 20, 21, 22, 23, 24, 27, 28, 29, 30, 31, 32, 33] (by decide +kernel) (by decide +kernel)
set_option maxRecDepth 20000 in
theorem gX1_keep_X3_copyFrom : GoodIn wsX1_keep (wsV RX1 28 RX3 yX3_copyFrom wsX3_copyFrom) := goodIn_app (goodIn_of _ (by decide +kernel)) ggX1_keep_X3_copyFrom
theorem dX1_keep_0 : decode cX1_keep 0 = .ok (.aload_n 0, 1) := by decide +kernel
theorem dX1_keep_1 : decode cX1_keep 1 = .ok (.getfield 21, 3) := by decide +kernel
theorem dX1_keep_4 : decode cX1_keep 4 = .ok (.aload_n 0, 1) := by decide +kernel
theorem dX1_keep_5 : decode cX1_keep 5 = .ok (.getfield 11, 3) := by decide +kernel
theorem dX1_keep_8 : decode cX1_keep 8 = .ok (.arraylength, 1) := by decide +kernel
theorem dX1_keep_9 : decode cX1_keep 9 = .ok (.if_icmp .lt 7, 3) := by decide +kernel
theorem dX1_keep_12 : decode cX1_keep 12 = .ok (.aload_n 0, 1) := by decide +kernel
theorem dX1_keep_13 : decode cX1_keep 13 = .ok (.invokevirtual 25, 3) := by decide +kernel
theorem dX1_keep_16 : decode cX1_keep 16 = .ok (.aload_n 0, 1) := by decide +kernel
theorem dX1_keep_17 : decode cX1_keep 17 = .ok (.getfield 21, 3) := by decide +kernel
theorem dX1_keep_20 : decode cX1_keep 20 = .ok (.ifCond .lt 38, 3) := by decide +kernel
theorem dX1_keep_23 : decode cX1_keep 23 = .ok (.aload_n 0, 1) := by decide +kernel
theorem dX1_keep_24 : decode cX1_keep 24 = .ok (.getfield 21, 3) := by decide +kernel
theorem dX1_keep_27 : decode cX1_keep 27 = .ok (.aload_n 0, 1) := by decide +kernel
theorem dX1_keep_28 : decode cX1_keep 28 = .ok (.getfield 11, 3) := by decide +kernel
theorem dX1_keep_31 : decode cX1_keep 31 = .ok (.arraylength, 1) := by decide +kernel
theorem dX1_keep_32 : decode cX1_keep 32 = .ok (.if_icmp .ge 26, 3) := by decide +kernel
theorem dX1_keep_35 : decode cX1_keep 35 = .ok (.aload_n 0, 1) := by decide +kernel
theorem dX1_keep_36 : decode cX1_keep 36 = .ok (.getfield 11, 3) := by decide +kernel
theorem dX1_keep_39 : decode cX1_keep 39 = .ok (.aload_n 0, 1) := by decide +kernel
theorem dX1_keep_40 : decode cX1_keep 40 = .ok (.getfield 21, 3) := by decide +kernel
theorem dX1_keep_43 : decode cX1_keep 43 = .ok (.aaload, 1) := by decide +kernel
theorem dX1_keep_44 : decode cX1_keep 44 = .ok (.aload_n 1, 1) := by decide +kernel
theorem dX1_keep_45 : decode cX1_keep 45 = .ok (.invokevirtual 28, 3) := by decide +kernel
theorem dX1_keep_48 : decode cX1_keep 48 = .ok (.aload_n 0, 1) := by decide +kernel
theorem dX1_keep_49 : decode cX1_keep 49 = .ok (.dup, 1) := by decide +kernel
theorem dX1_keep_50 : decode cX1_keep 50 = .ok (.getfield 21, 3) := by decide +kernel
theorem dX1_keep_53 : decode cX1_keep 53 = .ok (.iconst 1, 1) := by decide +kernel
theorem dX1_keep_54 : decode cX1_keep 54 = .ok (.iadd, 1) := by decide +kernel
theorem dX1_keep_55 : decode cX1_keep 55 = .ok (.putfield 21, 3) := by decide +kernel
theorem dX1_keep_58 : decode cX1_keep 58 = .ok (.return_, 1) := by decide +kernel
set_option maxRecDepth 20000 in
theorem ggX1_restore_X3_copyFrom : GoodIn wsX1_restore wsX3_copyFrom := goodIn_r _ [7, 8, 9, 10, 11, 12, 13, 14, 15, 16, 17, 18, 19, 22, 23, 24, 25, 26, 27, 28] (by decide +kernel) (by decide +kernel)
set_option maxRecDepth 20000 in
theorem gX1_restore_X3_copyFrom : GoodIn wsX1_restore (wsV RX1 28 RX3 yX3_copyFrom wsX3_copyFrom) := goodIn_app (goodIn_of _ (by decide +kernel)) ggX1_restore_X3_copyFrom
theorem dX1_restore_0 : decode cX1_restore 0 = .ok (.aload_n 0, 1) := by decide +kernel
theorem dX1_restore_1 : decode cX1_restore 1 = .ok (.getfield 21, 3) := by decide +kernel
theorem dX1_restore_4 : decode cX1_restore 4 = .ok (.ifCond .le 15, 3) := by decide +kernel
theorem dX1_restore_7 : decode cX1_restore 7 = .ok (.aload_n 0, 1) := by decide +kernel
theorem dX1_restore_8 : decode cX1_restore 8 = .ok (.getfield 21, 3) := by decide +kernel
theorem dX1_restore_11 : decode cX1_restore 11 = .ok (.aload_n 0, 1) := by decide +kernel
theorem dX1_restore_12 : decode cX1_restore 12 = .ok (.getfield 11, 3) := by decide +kernel
theorem dX1_restore_15 : decode cX1_restore 15 = .ok (.arraylength, 1) := by decide +kernel
theorem dX1_restore_16 : decode cX1_restore 16 = .ok (.if_icmp .le 5, 3) := by decide +kernel
theorem dX1_restore_19 : decode cX1_restore 19 = .ok (.iconst 0, 1) := by decide +kernel
theorem dX1_restore_20 : decode cX1_restore 20 = .ok (.ireturn, 1) := by decide +kernel
theorem dX1_restore_21 : decode cX1_restore 21 = .ok (.aload_n 0, 1) := by decide +kernel
theorem dX1_restore_22 : decode cX1_restore 22 = .ok (.dup, 1) := by decide +kernel
theorem dX1_restore_23 : decode cX1_restore 23 = .ok (.getfield 21, 3) := by decide +kernel
theorem dX1_restore_26 : decode cX1_restore 26 = .ok (.iconst 1, 1) := by decide +kernel
theorem dX1_restore_27 : decode cX1_restore 27 = .ok (.isub, 1) := by decide +kernel
theorem dX1_restore_28 : decode cX1_restore 28 = .ok (.putfield 21, 3) := by decide +kernel
theorem dX1_restore_31 : decode cX1_restore 31 = .ok (.aload_n 1, 1) := by decide +kernel
theorem dX1_restore_32 : decode cX1_restore 32 = .ok (.aload_n 0, 1) := by decide +kernel
theorem dX1_restore_33 : decode cX1_restore 33 = .ok (.getfield 11, 3) := by decide +kernel
theorem dX1_restore_36 : decode cX1_restore 36 = .ok (.aload_n 0, 1) := by decide +kernel
theorem dX1_restore_37 : decode cX1_restore 37 = .ok (.getfield 21, 3) := by decide +kernel
theorem dX1_restore_40 : decode cX1_restore 40 = .ok (.aaload, 1) := by decide +kernel
theorem dX1_restore_41 : decode cX1_restore 41 = .ok (.invokevirtual 28, 3) := by decide +kernel
theorem dX1_restore_44 : decode cX1_restore 44 = .ok (.iconst 1, 1) := by decide +kernel
theorem dX1_restore_45 : decode cX1_restore 45 = .ok (.ireturn, 1) := by decide +kernel
theorem dX1_forgetOldest_0 : decode cX1_forgetOldest 0 = .ok (.aload_n 0, 1) := by decide +kernel
theorem dX1_forgetOldest_1 : decode cX1_forgetOldest 1 = .ok (.getfield 11, 3) := by decide +kernel
theorem dX1_forgetOldest_4 : decode cX1_forgetOldest 4 = .ok (.iconst 0, 1) := by decide +kernel
theorem dX1_forgetOldest_5 : decode cX1_forgetOldest 5 = .ok (.aaload, 1) := by decide +kernel
theorem dX1_forgetOldest_6 : decode cX1_forgetOldest 6 = .ok (.astore_n 1, 1) := by decide +kernel
theorem dX1_forgetOldest_7 : decode cX1_forgetOldest 7 = .ok (.iconst 0, 1) := by decide +kernel
theorem dX1_forgetOldest_8 : decode cX1_forgetOldest 8 = .ok (.istore_n 2, 1) := by decide +kernel
theorem dX1_forgetOldest_9 : decode cX1_forgetOldest 9 = .ok (.iload_n 2, 1) := by decide +kernel
theorem dX1_forgetOldest_10 : decode cX1_forgetOldest 10 = .ok (.iconst 1, 1) := by decide +kernel
theorem dX1_forgetOldest_11 : decode cX1_forgetOldest 11 = .ok (.iadd, 1) := by decide +kernel
theorem dX1_forgetOldest_12 : decode cX1_forgetOldest 12 = .ok (.aload_n 0, 1) := by decide +kernel
theorem dX1_forgetOldest_13 : decode cX1_forgetOldest 13 = .ok (.getfield 11, 3) := by decide +kernel
theorem dX1_forgetOldest_16 : decode cX1_forgetOldest 16 = .ok (.arraylength, 1) := by decide +kernel
theorem dX1_forgetOldest_17 : decode cX1_forgetOldest 17 = .ok (.if_icmp .ge 23, 3) := by decide +kernel
theorem dX1_forgetOldest_20 : decode cX1_forgetOldest 20 = .ok (.aload_n 0, 1) := by decide +kernel
theorem dX1_forgetOldest_21 : decode cX1_forgetOldest 21 = .ok (.getfield 11, 3) := by decide +kernel
theorem dX1_forgetOldest_24 : decode cX1_forgetOldest 24 = .ok (.iload_n 2, 1) := by decide +kernel
theorem dX1_forgetOldest_25 : decode cX1_forgetOldest 25 = .ok (.aload_n 0, 1) := by decide +kernel
theorem dX1_forgetOldest_26 : decode cX1_forgetOldest 26 = .ok (.getfield 11, 3) := by decide +kernel
theorem dX1_forgetOldest_29 : decode cX1_forgetOldest 29 = .ok (.iload_n 2, 1) := by decide +kernel
theorem dX1_forgetOldest_30 : decode cX1_forgetOldest 30 = .ok (.iconst 1, 1) := by decide +kernel
theorem dX1_forgetOldest_31 : decode cX1_forgetOldest 31 = .ok (.iadd, 1) := by decide +kernel
theorem dX1_forgetOldest_32 : decode cX1_forgetOldest 32 = .ok (.aaload, 1) := by decide +kernel
theorem dX1_forgetOldest_33 : decode cX1_forgetOldest 33 = .ok (.aastore, 1) := by decide +kernel
theorem dX1_forgetOldest_34 : decode cX1_forgetOldest 34 = .ok (.iinc 2 1, 3) := by decide +kernel
theorem dX1_forgetOldest_37 : decode cX1_forgetOldest 37 = .ok (.goto (-28), 3) := by decide +kernel
theorem dX1_forgetOldest_40 : decode cX1_forgetOldest 40 = .ok (.aload_n 0, 1) := by decide +kernel
theorem dX1_forgetOldest_41 : decode cX1_forgetOldest 41 = .ok (.getfield 11, 3) := by decide +kernel
theorem dX1_forgetOldest_44 : decode cX1_forgetOldest 44 = .ok (.aload_n 0, 1) := by decide +kernel
theorem dX1_forgetOldest_45 : decode cX1_forgetOldest 45 = .ok (.getfield 11, 3) := by decide +kernel
theorem dX1_forgetOldest_48 : decode cX1_forgetOldest 48 = .ok (.arraylength, 1) := by decide +kernel
theorem dX1_forgetOldest_49 : decode cX1_forgetOldest 49 = .ok (.iconst 1, 1) := by decide +kernel
theorem dX1_forgetOldest_50 : decode cX1_forgetOldest 50 = .ok (.isub, 1) := by decide +kernel
theorem dX1_forgetOldest_51 : decode cX1_forgetOldest 51 = .ok (.aload_n 1, 1) := by decide +kernel
theorem dX1_forgetOldest_52 : decode cX1_forgetOldest 52 = .ok (.aastore, 1) := by decide +kernel
theorem dX1_forgetOldest_53 : decode cX1_forgetOldest 53 = .ok (.aload_n 0, 1) := by decide +kernel
theorem dX1_forgetOldest_54 : decode cX1_forgetOldest 54 = .ok (.dup, 1) := by decide +kernel
theorem dX1_forgetOldest_55 : decode cX1_forgetOldest 55 = .ok (.getfield 21, 3) := by decide +kernel
theorem dX1_forgetOldest_58 : decode cX1_forgetOldest 58 = .ok (.iconst 1, 1) := by decide +kernel
theorem dX1_forgetOldest_59 : decode cX1_forgetOldest 59 = .ok (.isub, 1) := by decide +kernel
theorem dX1_forgetOldest_60 : decode cX1_forgetOldest 60 = .ok (.putfield 21, 3) := by decide +kernel
theorem dX1_forgetOldest_63 : decode cX1_forgetOldest 63 = .ok (.return_, 1) := by decide +kernel
set_option maxRecDepth 20000 in
theorem ggX2_init_X3_init : GoodIn wsX2_init wsX3_init := goodIn_r _ [19, 20, 2, 3, 21, 22, 23, 24, 25, 26, 27, 28, 29, 30, 31, 41, 42, 43, 44, 45, 46, 47] (by decide +kernel) (by decide +kernel)
set_option maxRecDepth 20000 in
theorem gX2_init_X3_init : GoodIn wsX2_init (wsX3_init) := ggX2_init_X3_init
set_option maxRecDepth 20000 in
theorem ggX2_init_X6_init : GoodIn wsX2_init wsX6_init := goodIn_r _ [33, 34, 2, 3, 35, 14, 15, 36, 37, 38, 39, 30, 40, 57, 58, 52, 53, 54, 55, 56] (by decide +kernel) (by decide +kernel)
set_option maxRecDepth 20000 in
theorem gX2_init_X6_init_n25 : GoodIn wsX2_init (wsX6_init) := ggX2_init_X6_init
set_option maxRecDepth 20000 in
theorem ggX2_init_X5_init : GoodIn wsX2_init wsX5_init := goodIn_r _ [38, 39, 2, 3, 30, 40, 57, 58] (by decide +kernel) (by decide +kernel)
set_option maxRecDepth 20000 in
theorem gX2_init_X5_init_n32 : GoodIn wsX2_init (wsX5_init) := ggX2_init_X5_init
theorem dX2_init_0 : decode cX2_init 0 = .ok (.aload_n 0, 1) := by decide +kernel
theorem dX2_init_1 : decode cX2_init 1 = .ok (.invokespecial 3, 3) := by decide +kernel
theorem dX2_init_4 : decode cX2_init 4 = .ok (.aload_n 0, 1) := by decide +kernel
theorem dX2_init_5 : decode cX2_init 5 = .ok (.new 9, 3) := by decide +kernel
theorem dX2_init_8 : decode cX2_init 8 = .ok (.dup, 1) := by decide +kernel
theorem dX2_init_9 : decode cX2_init 9 = .ok (.iconst 5, 1) := by decide +kernel
theorem dX2_init_10 : decode cX2_init 10 = .ok (.bipush 8, 2) := by decide +kernel
theorem dX2_init_12 : decode cX2_init 12 = .ok (.bipush 25, 2) := by decide +kernel
theorem dX2_init_14 : decode cX2_init 14 = .ok (.invokespecial 11, 3) := by decide +kernel
theorem dX2_init_17 : decode cX2_init 17 = .ok (.putfield 14, 3) := by decide +kernel
theorem dX2_init_20 : decode cX2_init 20 = .ok (.aload_n 0, 1) := by decide +kernel
theorem dX2_init_21 : decode cX2_init 21 = .ok (.new 9, 3) := by decide +kernel
theorem dX2_init_24 : decode cX2_init 24 = .ok (.dup, 1) := by decide +kernel
theorem dX2_init_25 : decode cX2_init 25 = .ok (.iconst 1, 1) := by decide +kernel
theorem dX2_init_26 : decode cX2_init 26 = .ok (.bipush 8, 2) := by decide +kernel
theorem dX2_init_28 : decode cX2_init 28 = .ok (.bipush 25, 2) := by decide +kernel
theorem dX2_init_30 : decode cX2_init 30 = .ok (.invokespecial 11, 3) := by decide +kernel
theorem dX2_init_33 : decode cX2_init 33 = .ok (.putfield 20, 3) := by decide +kernel
theorem dX2_init_36 : decode cX2_init 36 = .ok (.aload_n 0, 1) := by decide +kernel
theorem dX2_init_37 : decode cX2_init 37 = .ok (.new 23, 3) := by decide +kernel
theorem dX2_init_40 : decode cX2_init 40 = .ok (.dup, 1) := by decide +kernel
theorem dX2_init_41 : decode cX2_init 41 = .ok (.invokespecial 25, 3) := by decide +kernel
theorem dX2_init_44 : decode cX2_init 44 = .ok (.putfield 26, 3) := by decide +kernel
theorem dX2_init_47 : decode cX2_init 47 = .ok (.aload_n 0, 1) := by decide +kernel
theorem dX2_init_48 : decode cX2_init 48 = .ok (.new 30, 3) := by decide +kernel
theorem dX2_init_51 : decode cX2_init 51 = .ok (.dup, 1) := by decide +kernel
theorem dX2_init_52 : decode cX2_init 52 = .ok (.invokespecial 32, 3) := by decide +kernel
theorem dX2_init_55 : decode cX2_init 55 = .ok (.putfield 33, 3) := by decide +kernel
theorem dX2_init_58 : decode cX2_init 58 = .ok (.return_, 1) := by decide +kernel
set_option maxRecDepth 20000 in
theorem ggX2_buildFrom_X3_reset : GoodIn wsX2_buildFrom wsX3_reset := goodIn_r _ [9, 10, 11, 12, 156, 157, 158, 159, 160, 161, 162] (by decide +kernel) (by decide +kernel)
set_option maxRecDepth 20000 in
theorem gX2_buildFrom_X3_reset : GoodIn wsX2_buildFrom (wsV RX2 44 RX3 yX3_reset wsX3_reset) := goodIn_app (goodIn_of _ (by decide +kernel)) ggX2_buildFrom_X3_reset
set_option maxRecDepth 20000 in
theorem ggX2_buildFrom_X7_isInSet : GoodIn wsX2_buildFrom wsX7_isInSet := goodIn_r _ [15, 16, 17, 14, 18] (by decide +kernel) (by decide +kernel)
set_option maxRecDepth 20000 in
theorem gX2_buildFrom_X7_isInSet_n51 : GoodIn wsX2_buildFrom (wsX7_isInSet) := ggX2_buildFrom_X7_isInSet
set_option maxRecDepth 20000 in
theorem ggX2_buildFrom_X3_append : GoodIn wsX2_buildFrom wsX3_append := goodIn_r _ [22, 12, 23, 24, 25, 26, 8, 27, 28, 29, 30, 31, 32, 33, 34, 35, 36, 37, 38, 10, 39, 14, 40, 41, 42, 43, 44, 156, 157, 158, 159, 160, 161, 162] (by decide +kernel) (by decide +kernel)
set_option maxRecDepth 20000 in
theorem gX2_buildFrom_X3_append : GoodIn wsX2_buildFrom (wsV RX2 55 RX3 yX3_append wsX3_append) := goodIn_app (goodIn_of _ (by decide +kernel)) ggX2_buildFrom_X3_append
set_option maxRecDepth 20000 in
theorem ggX2_buildFrom_X3_addTimes : GoodIn wsX2_buildFrom wsX3_addTimes := goodIn_r _ [48, 28, 29, 30, 31, 32, 8, 33, 23, 34, 35, 36, 37, 38, 10, 39, 14, 40, 41, 42, 43, 44, 156, 157, 158, 159, 160, 161, 162] (by decide +kernel) (by decide +kernel)
set_option maxRecDepth 20000 in
theorem gX2_buildFrom_X3_addTimes : GoodIn wsX2_buildFrom (wsV RX2 59 RX3 yX3_addTimes wsX3_addTimes) := goodIn_app (goodIn_of _ (by decide +kernel)) ggX2_buildFrom_X3_addTimes
set_option maxRecDepth 20000 in
theorem ggX2_buildFrom_X3_put : GoodIn wsX2_buildFrom wsX3_put := goodIn_r _ [38, 23, 28, 29, 34, 10, 39, 14, 40, 41, 42, 43, 44, 156, 157, 158, 159, 160, 161, 162] (by decide +kernel) (by decide +kernel)
set_option maxRecDepth 20000 in
theorem gX2_buildFrom_X3_put : GoodIn wsX2_buildFrom (wsV RX2 63 RX3 yX3_put wsX3_put) := goodIn_app (goodIn_of _ (by decide +kernel)) ggX2_buildFrom_X3_put
set_option maxRecDepth 20000 in
theorem ggX2_buildFrom_X2_toForm : GoodIn wsX2_buildFrom wsX2_toForm := goodIn_r _ [54, 55, 1, 56, 57, 58, 59, 4, 2, 60, 61, 62, 63, 64, 65, 66, 67, 68, 69, 70, 71, 72, 73, 74, 75, 76, 77, 78, 79, 80, 81, 82, 83, 84, 85, 86, 8, 87, 11, 30, 31, 32, 33, 23, 28, 29, 34, 88, 89, 90, 91, 92, 93, 94, 95, 96, 14, 97, 98, 99, 100, 101, 102, 103, 104, 105, 106, 107, 39, 40, 41, 42, 43, 44, 108, 45, 46, 47, 48, 35, 36, 37, 38, 10, 109, 110, 111, 53, 112, 113, 114, 115, 116, 117, 118, 119, 120, 12, 121, 122, 123, 124, 125, 126, 127, 128, 129, 130, 25, 26, 27, 131, 132, 133, 134, 135, 3, 136, 137, 138, 139, 140, 141, 142, 143, 144, 145, 146, 147, 148, 149, 150, 151, 152, 153, 154, 155, 163, 164, 165, 166, 167, 156, 157, 158, 159, 160, 161, 162, 168, 169] (by decide +kernel) (by decide +kernel)
set_option maxRecDepth 20000 in
theorem gX2_buildFrom_X2_toForm : GoodIn wsX2_buildFrom (wsV RX2 67 RX2 yX2_toForm wsX2_toForm) := goodIn_app (goodIn_of _ (by decide +kernel)) ggX2_buildFrom_X2_toForm
theorem dX2_buildFrom_0 : decode cX2_buildFrom 0 = .ok (.aload_n 0, 1) := by decide +kernel
theorem dX2_buildFrom_1 : decode cX2_buildFrom 1 = .ok (.getfield 14, 3) := by decide +kernel
theorem dX2_buildFrom_4 : decode cX2_buildFrom 4 = .ok (.aload_n 1, 1) := by decide +kernel
theorem dX2_buildFrom_5 : decode cX2_buildFrom 5 = .ok (.getfield 37, 3) := by decide +kernel
theorem dX2_buildFrom_8 : decode cX2_buildFrom 8 = .ok (.aload_n 1, 1) := by decide +kernel
theorem dX2_buildFrom_9 : decode cX2_buildFrom 9 = .ok (.getfield 41, 3) := by decide +kernel
theorem dX2_buildFrom_12 : decode cX2_buildFrom 12 = .ok (.invokevirtual 44, 3) := by decide +kernel
theorem dX2_buildFrom_15 : decode cX2_buildFrom 15 = .ok (.iconst 0, 1) := by decide +kernel
theorem dX2_buildFrom_16 : decode cX2_buildFrom 16 = .ok (.istore_n 3, 1) := by decide +kernel
theorem dX2_buildFrom_17 : decode cX2_buildFrom 17 = .ok (.iload_n 3, 1) := by decide +kernel
theorem dX2_buildFrom_18 : decode cX2_buildFrom 18 = .ok (.aload_n 1, 1) := by decide +kernel
theorem dX2_buildFrom_19 : decode cX2_buildFrom 19 = .ok (.getfield 48, 3) := by decide +kernel
theorem dX2_buildFrom_22 : decode cX2_buildFrom 22 = .ok (.if_icmp .ge 53, 3) := by decide +kernel
theorem dX2_buildFrom_25 : decode cX2_buildFrom 25 = .ok (.iload_n 3, 1) := by decide +kernel
theorem dX2_buildFrom_26 : decode cX2_buildFrom 26 = .ok (.iload_n 2, 1) := by decide +kernel
theorem dX2_buildFrom_27 : decode cX2_buildFrom 27 = .ok (.invokestatic 51, 3) := by decide +kernel
theorem dX2_buildFrom_30 : decode cX2_buildFrom 30 = .ok (.ifCond .eq 39, 3) := by decide +kernel
theorem dX2_buildFrom_33 : decode cX2_buildFrom 33 = .ok (.aload_n 0, 1) := by decide +kernel
theorem dX2_buildFrom_34 : decode cX2_buildFrom 34 = .ok (.getfield 14, 3) := by decide +kernel
theorem dX2_buildFrom_37 : decode cX2_buildFrom 37 = .ok (.invokevirtual 55, 3) := by decide +kernel
theorem dX2_buildFrom_40 : decode cX2_buildFrom 40 = .ok (.istore 4, 2) := by decide +kernel
theorem dX2_buildFrom_42 : decode cX2_buildFrom 42 = .ok (.aload_n 0, 1) := by decide +kernel
theorem dX2_buildFrom_43 : decode cX2_buildFrom 43 = .ok (.getfield 14, 3) := by decide +kernel
theorem dX2_buildFrom_46 : decode cX2_buildFrom 46 = .ok (.iload 4, 2) := by decide +kernel
theorem dX2_buildFrom_48 : decode cX2_buildFrom 48 = .ok (.aload_n 1, 1) := by decide +kernel
theorem dX2_buildFrom_49 : decode cX2_buildFrom 49 = .ok (.iload_n 3, 1) := by decide +kernel
theorem dX2_buildFrom_50 : decode cX2_buildFrom 50 = .ok (.iconst 1, 1) := by decide +kernel
theorem dX2_buildFrom_51 : decode cX2_buildFrom 51 = .ok (.iconst 0, 1) := by decide +kernel
theorem dX2_buildFrom_52 : decode cX2_buildFrom 52 = .ok (.invokevirtual 59, 3) := by decide +kernel
theorem dX2_buildFrom_55 : decode cX2_buildFrom 55 = .ok (.aload_n 0, 1) := by decide +kernel
theorem dX2_buildFrom_56 : decode cX2_buildFrom 56 = .ok (.getfield 14, 3) := by decide +kernel
theorem dX2_buildFrom_59 : decode cX2_buildFrom 59 = .ok (.iload 4, 2) := by decide +kernel
theorem dX2_buildFrom_61 : decode cX2_buildFrom 61 = .ok (.iconst 3, 1) := by decide +kernel
theorem dX2_buildFrom_62 : decode cX2_buildFrom 62 = .ok (.iload_n 3, 1) := by decide +kernel
theorem dX2_buildFrom_63 : decode cX2_buildFrom 63 = .ok (.iadd, 1) := by decide +kernel
theorem dX2_buildFrom_64 : decode cX2_buildFrom 64 = .ok (.iconst 0, 1) := by decide +kernel
theorem dX2_buildFrom_65 : decode cX2_buildFrom 65 = .ok (.iconst 1, 1) := by decide +kernel
theorem dX2_buildFrom_66 : decode cX2_buildFrom 66 = .ok (.invokevirtual 63, 3) := by decide +kernel
theorem dX2_buildFrom_69 : decode cX2_buildFrom 69 = .ok (.iinc 3 1, 3) := by decide +kernel
theorem dX2_buildFrom_72 : decode cX2_buildFrom 72 = .ok (.goto (-55), 3) := by decide +kernel
theorem dX2_buildFrom_75 : decode cX2_buildFrom 75 = .ok (.aload_n 0, 1) := by decide +kernel
theorem dX2_buildFrom_76 : decode cX2_buildFrom 76 = .ok (.invokevirtual 67, 3) := by decide +kernel
theorem dX2_buildFrom_79 : decode cX2_buildFrom 79 = .ok (.return_, 1) := by decide +kernel
set_option maxRecDepth 20000 in
theorem ggX2_buildPade_X3_reset : GoodIn wsX2_buildPade wsX3_reset := goodIn_r _ [7, 8, 9, 10, 151, 152, 153, 154, 155, 156, 157] (by decide +kernel) (by decide +kernel)
set_option maxRecDepth 20000 in
theorem gX2_buildPade_X3_reset : GoodIn wsX2_buildPade (wsV RX2 44 RX3 yX3_reset wsX3_reset) := goodIn_app (goodIn_of _ (by decide +kernel)) ggX2_buildPade_X3_reset
set_option maxRecDepth 20000 in
theorem ggX2_buildPade_X3_append : GoodIn wsX2_buildPade wsX3_append := goodIn_r _ [14, 10, 15, 16, 17, 18, 6, 19, 20, 21, 22, 23, 24, 25, 26, 27, 28, 29, 30, 8, 31, 32, 33, 34, 35, 36, 37, 151, 152, 153, 154, 155, 156, 157] (by decide +kernel) (by decide +kernel)
set_option maxRecDepth 20000 in
theorem gX2_buildPade_X3_append : GoodIn wsX2_buildPade (wsV RX2 55 RX3 yX3_append wsX3_append) := goodIn_app (goodIn_of _ (by decide +kernel)) ggX2_buildPade_X3_append
set_option maxRecDepth 20000 in
theorem ggX2_buildPade_X3_put : GoodIn wsX2_buildPade wsX3_put := goodIn_r _ [30, 15, 20, 21, 26, 8, 31, 32, 33, 34, 35, 36, 37, 151, 152, 153, 154, 155, 156, 157] (by decide +kernel) (by decide +kernel)
set_option maxRecDepth 20000 in
theorem gX2_buildPade_X3_put : GoodIn wsX2_buildPade (wsV RX2 63 RX3 yX3_put wsX3_put) := goodIn_app (goodIn_of _ (by decide +kernel)) ggX2_buildPade_X3_put
set_option maxRecDepth 20000 in
theorem ggX2_buildPade_X3_at : GoodIn wsX2_buildPade wsX3_at := goodIn_r _ [25, 15, 20, 21, 26, 151, 152, 153, 154, 155, 156, 157] (by decide +kernel) (by decide +kernel)
set_option maxRecDepth 20000 in
theorem gX2_buildPade_X3_at : GoodIn wsX2_buildPade (wsV RX2 70 RX3 yX3_at wsX3_at) := goodIn_app (goodIn_of _ (by decide +kernel)) ggX2_buildPade_X3_at
set_option maxRecDepth 20000 in
theorem ggX2_buildPade_X2_toForm : GoodIn wsX2_buildPade wsX2_toForm := goodIn_r _ [44, 45, 1, 46, 47, 48, 49, 50, 2, 51, 52, 53, 54, 55, 56, 57, 58, 59, 60, 61, 62, 63, 64, 65, 66, 67, 68, 69, 70, 71, 72, 73, 74, 75, 76, 77, 6, 78, 9, 22, 23, 24, 25, 15, 20, 21, 26, 79, 80, 81, 82, 83, 84, 85, 86, 87, 32, 88, 89, 90, 91, 92, 93, 94, 95, 96, 97, 98, 31, 33, 34, 35, 36, 37, 99, 100, 101, 102, 103, 27, 28, 29, 30, 8, 104, 105, 106, 43, 107, 108, 109, 110, 111, 112, 113, 114, 115, 10, 116, 117, 118, 119, 120, 121, 122, 123, 124, 125, 17, 18, 19, 126, 127, 128, 129, 130, 131, 132, 39, 133, 134, 135, 136, 137, 138, 139, 140, 141, 142, 143, 144, 145, 146, 147, 148, 149, 150, 158, 159, 160, 161, 162, 151, 152, 153, 154, 155, 156, 157, 163, 164] (by decide +kernel) (by decide +kernel)
set_option maxRecDepth 20000 in
theorem gX2_buildPade_X2_toForm : GoodIn wsX2_buildPade (wsV RX2 67 RX2 yX2_toForm wsX2_toForm) := goodIn_app (goodIn_of _ (by decide +kernel)) ggX2_buildPade_X2_toForm
theorem dX2_buildPade_0 : decode cX2_buildPade 0 = .ok (.aload_n 0, 1) := by decide +kernel
theorem dX2_buildPade_1 : decode cX2_buildPade 1 = .ok (.getfield 14, 3) := by decide +kernel
theorem dX2_buildPade_4 : decode cX2_buildPade 4 = .ok (.aload_n 1, 1) := by decide +kernel
theorem dX2_buildPade_5 : decode cX2_buildPade 5 = .ok (.getfield 37, 3) := by decide +kernel
theorem dX2_buildPade_8 : decode cX2_buildPade 8 = .ok (.iconst 2, 1) := by decide +kernel
theorem dX2_buildPade_9 : decode cX2_buildPade 9 = .ok (.invokevirtual 44, 3) := by decide +kernel
theorem dX2_buildPade_12 : decode cX2_buildPade 12 = .ok (.aload_n 0, 1) := by decide +kernel
theorem dX2_buildPade_13 : decode cX2_buildPade 13 = .ok (.getfield 14, 3) := by decide +kernel
theorem dX2_buildPade_16 : decode cX2_buildPade 16 = .ok (.invokevirtual 55, 3) := by decide +kernel
theorem dX2_buildPade_19 : decode cX2_buildPade 19 = .ok (.istore 5, 2) := by decide +kernel
theorem dX2_buildPade_21 : decode cX2_buildPade 21 = .ok (.aload_n 0, 1) := by decide +kernel
theorem dX2_buildPade_22 : decode cX2_buildPade 22 = .ok (.getfield 14, 3) := by decide +kernel
theorem dX2_buildPade_25 : decode cX2_buildPade 25 = .ok (.iload 5, 2) := by decide +kernel
theorem dX2_buildPade_27 : decode cX2_buildPade 27 = .ok (.iconst 0, 1) := by decide +kernel
theorem dX2_buildPade_28 : decode cX2_buildPade 28 = .ok (.iload 4, 2) := by decide +kernel
theorem dX2_buildPade_30 : decode cX2_buildPade 30 = .ok (.iconst 1, 1) := by decide +kernel
theorem dX2_buildPade_31 : decode cX2_buildPade 31 = .ok (.invokevirtual 63, 3) := by decide +kernel
theorem dX2_buildPade_34 : decode cX2_buildPade 34 = .ok (.aload_n 0, 1) := by decide +kernel
theorem dX2_buildPade_35 : decode cX2_buildPade 35 = .ok (.getfield 14, 3) := by decide +kernel
theorem dX2_buildPade_38 : decode cX2_buildPade 38 = .ok (.invokevirtual 55, 3) := by decide +kernel
theorem dX2_buildPade_41 : decode cX2_buildPade 41 = .ok (.istore 6, 2) := by decide +kernel
theorem dX2_buildPade_43 : decode cX2_buildPade 43 = .ok (.iconst 0, 1) := by decide +kernel
theorem dX2_buildPade_44 : decode cX2_buildPade 44 = .ok (.istore 7, 2) := by decide +kernel
theorem dX2_buildPade_46 : decode cX2_buildPade 46 = .ok (.iload 7, 2) := by decide +kernel
theorem dX2_buildPade_48 : decode cX2_buildPade 48 = .ok (.bipush 6, 2) := by decide +kernel
theorem dX2_buildPade_50 : decode cX2_buildPade 50 = .ok (.if_icmp .gt 29, 3) := by decide +kernel
theorem dX2_buildPade_53 : decode cX2_buildPade 53 = .ok (.aload_n 0, 1) := by decide +kernel
theorem dX2_buildPade_54 : decode cX2_buildPade 54 = .ok (.getfield 14, 3) := by decide +kernel
theorem dX2_buildPade_57 : decode cX2_buildPade 57 = .ok (.iload 6, 2) := by decide +kernel
theorem dX2_buildPade_59 : decode cX2_buildPade 59 = .ok (.iconst 0, 1) := by decide +kernel
theorem dX2_buildPade_60 : decode cX2_buildPade 60 = .ok (.iload 7, 2) := by decide +kernel
theorem dX2_buildPade_62 : decode cX2_buildPade 62 = .ok (.aload_n 1, 1) := by decide +kernel
theorem dX2_buildPade_63 : decode cX2_buildPade 63 = .ok (.iload_n 2, 1) := by decide +kernel
theorem dX2_buildPade_64 : decode cX2_buildPade 64 = .ok (.iload_n 3, 1) := by decide +kernel
theorem dX2_buildPade_65 : decode cX2_buildPade 65 = .ok (.iload 7, 2) := by decide +kernel
theorem dX2_buildPade_67 : decode cX2_buildPade 67 = .ok (.invokevirtual 70, 3) := by decide +kernel
theorem dX2_buildPade_70 : decode cX2_buildPade 70 = .ok (.invokevirtual 63, 3) := by decide +kernel
theorem dX2_buildPade_73 : decode cX2_buildPade 73 = .ok (.iinc 7 1, 3) := by decide +kernel
theorem dX2_buildPade_76 : decode cX2_buildPade 76 = .ok (.goto (-30), 3) := by decide +kernel
theorem dX2_buildPade_79 : decode cX2_buildPade 79 = .ok (.aload_n 0, 1) := by decide +kernel
theorem dX2_buildPade_80 : decode cX2_buildPade 80 = .ok (.getfield 14, 3) := by decide +kernel
theorem dX2_buildPade_83 : decode cX2_buildPade 83 = .ok (.iload 6, 2) := by decide +kernel
theorem dX2_buildPade_85 : decode cX2_buildPade 85 = .ok (.iconst 1, 1) := by decide +kernel
theorem dX2_buildPade_86 : decode cX2_buildPade 86 = .ok (.iconst 0, 1) := by decide +kernel
theorem dX2_buildPade_87 : decode cX2_buildPade 87 = .ok (.iconst 1, 1) := by decide +kernel
theorem dX2_buildPade_88 : decode cX2_buildPade 88 = .ok (.invokevirtual 63, 3) := by decide +kernel
theorem dX2_buildPade_91 : decode cX2_buildPade 91 = .ok (.aload_n 0, 1) := by decide +kernel
theorem dX2_buildPade_92 : decode cX2_buildPade 92 = .ok (.invokevirtual 67, 3) := by decide +kernel
theorem dX2_buildPade_95 : decode cX2_buildPade 95 = .ok (.return_, 1) := by decide +kernel
set_option maxRecDepth 20000 in
theorem ggX2_divide_X3_reset : GoodIn wsX2_divide wsX3_reset := goodIn_r _ [8, 9, 10, 11, 84, 85, 86, 87, 88, 89, 90] (by decide +kernel) (by decide +kernel)
set_option maxRecDepth 20000 in
theorem gX2_divide_X3_reset : GoodIn wsX2_divide (wsV RX2 44 RX3 yX3_reset wsX3_reset) := goodIn_app (goodIn_of _ (by decide +kernel)) ggX2_divide_X3_reset
set_option maxRecDepth 20000 in
theorem ggX2_divide_X3_append : GoodIn wsX2_divide wsX3_append := goodIn_r _ [15, 11, 16, 17, 18, 19, 7, 20, 21, 22, 23, 24, 25, 26, 27, 28, 29, 30, 31, 9, 32, 33, 34, 35, 36, 37, 38, 84, 85, 86, 87, 88, 89, 90] (by decide +kernel) (by decide +kernel)
set_option maxRecDepth 20000 in
theorem gX2_divide_X3_append : GoodIn wsX2_divide (wsV RX2 55 RX3 yX3_append wsX3_append) := goodIn_app (goodIn_of _ (by decide +kernel)) ggX2_divide_X3_append
set_option maxRecDepth 20000 in
theorem ggX2_divide_X3_addTimes : GoodIn wsX2_divide wsX3_addTimes := goodIn_r _ [42, 21, 22, 23, 24, 25, 7, 26, 16, 27, 28, 29, 30, 31, 9, 32, 33, 34, 35, 36, 37, 38, 84, 85, 86, 87, 88, 89, 90] (by decide +kernel) (by decide +kernel)
set_option maxRecDepth 20000 in
theorem gX2_divide_X3_addTimes : GoodIn wsX2_divide (wsV RX2 59 RX3 yX3_addTimes wsX3_addTimes) := goodIn_app (goodIn_of _ (by decide +kernel)) ggX2_divide_X3_addTimes
set_option maxRecDepth 20000 in
theorem ggX2_divide_X2_reduce : GoodIn wsX2_divide wsX2_reduce := goodIn_r _ [47, 48, 49, 3, 50, 51, 52, 53, 54, 55, 56, 57, 58, 59, 60, 61, 62, 63, 64, 7, 65, 10, 23, 24, 25, 26, 16, 21, 22, 27, 66, 67, 68, 69, 70, 71, 72, 73, 74, 75, 33, 76, 77, 78, 79, 39, 40, 41, 42, 28, 29, 30, 31, 9, 32, 34, 35, 36, 37, 38, 80, 81, 82, 83, 84, 85, 86, 87, 88, 89, 90, 91, 92] (by decide +kernel) (by decide +kernel)
set_option maxRecDepth 20000 in
theorem gX2_divide_X2_reduce : GoodIn wsX2_divide (wsV RX2 74 RX2 yX2_reduce wsX2_reduce) := goodIn_app (goodIn_of _ (by decide +kernel)) ggX2_divide_X2_reduce
theorem dX2_divide_0 : decode cX2_divide 0 = .ok (.aload_n 0, 1) := by decide +kernel
theorem dX2_divide_1 : decode cX2_divide 1 = .ok (.getfield 20, 3) := by decide +kernel
theorem dX2_divide_4 : decode cX2_divide 4 = .ok (.aload_n 1, 1) := by decide +kernel
theorem dX2_divide_5 : decode cX2_divide 5 = .ok (.getfield 37, 3) := by decide +kernel
theorem dX2_divide_8 : decode cX2_divide 8 = .ok (.aload_n 1, 1) := by decide +kernel
theorem dX2_divide_9 : decode cX2_divide 9 = .ok (.getfield 41, 3) := by decide +kernel
theorem dX2_divide_12 : decode cX2_divide 12 = .ok (.invokevirtual 44, 3) := by decide +kernel
theorem dX2_divide_15 : decode cX2_divide 15 = .ok (.aload_n 0, 1) := by decide +kernel
theorem dX2_divide_16 : decode cX2_divide 16 = .ok (.getfield 20, 3) := by decide +kernel
theorem dX2_divide_19 : decode cX2_divide 19 = .ok (.invokevirtual 55, 3) := by decide +kernel
theorem dX2_divide_22 : decode cX2_divide 22 = .ok (.pop, 1) := by decide +kernel
theorem dX2_divide_23 : decode cX2_divide 23 = .ok (.aload_n 0, 1) := by decide +kernel
theorem dX2_divide_24 : decode cX2_divide 24 = .ok (.getfield 20, 3) := by decide +kernel
theorem dX2_divide_27 : decode cX2_divide 27 = .ok (.iconst 0, 1) := by decide +kernel
theorem dX2_divide_28 : decode cX2_divide 28 = .ok (.aload_n 1, 1) := by decide +kernel
theorem dX2_divide_29 : decode cX2_divide 29 = .ok (.iload_n 2, 1) := by decide +kernel
theorem dX2_divide_30 : decode cX2_divide 30 = .ok (.iconst 1, 1) := by decide +kernel
theorem dX2_divide_31 : decode cX2_divide 31 = .ok (.iconst 0, 1) := by decide +kernel
theorem dX2_divide_32 : decode cX2_divide 32 = .ok (.invokevirtual 59, 3) := by decide +kernel
theorem dX2_divide_35 : decode cX2_divide 35 = .ok (.aload_n 0, 1) := by decide +kernel
theorem dX2_divide_36 : decode cX2_divide 36 = .ok (.aload_n 0, 1) := by decide +kernel
theorem dX2_divide_37 : decode cX2_divide 37 = .ok (.getfield 20, 3) := by decide +kernel
theorem dX2_divide_40 : decode cX2_divide 40 = .ok (.iconst 0, 1) := by decide +kernel
theorem dX2_divide_41 : decode cX2_divide 41 = .ok (.iconst (-1), 1) := by decide +kernel
theorem dX2_divide_42 : decode cX2_divide 42 = .ok (.invokevirtual 74, 3) := by decide +kernel
theorem dX2_divide_45 : decode cX2_divide 45 = .ok (.return_, 1) := by decide +kernel
set_option maxRecDepth 20000 in
theorem ggX2_isDivided_X3_degreeOf : GoodIn wsX2_isDivided wsX3_degreeOf := goodIn_r _ [6, 7, 8, 9, 5, 10, 11, 12, 13, 14, 15, 16, 17, 18, 19, 20, 21, 22, 27, 28, 29, 30, 31, 32, 33] (by decide +kernel) (by decide +kernel)
set_option maxRecDepth 20000 in
theorem gX2_isDivided_X3_degreeOf : GoodIn wsX2_isDivided (wsV RX2 78 RX3 yX3_degreeOf wsX3_degreeOf) := goodIn_app (goodIn_of _ (by decide +kernel)) ggX2_isDivided_X3_degreeOf
theorem dX2_isDivided_0 : decode cX2_isDivided 0 = .ok (.aload_n 0, 1) := by decide +kernel
theorem dX2_isDivided_1 : decode cX2_isDivided 1 = .ok (.getfield 20, 3) := by decide +kernel
theorem dX2_isDivided_4 : decode cX2_isDivided 4 = .ok (.iconst 0, 1) := by decide +kernel
theorem dX2_isDivided_5 : decode cX2_isDivided 5 = .ok (.invokevirtual 78, 3) := by decide +kernel
theorem dX2_isDivided_8 : decode cX2_isDivided 8 = .ok (.iconst (-1), 1) := by decide +kernel
theorem dX2_isDivided_9 : decode cX2_isDivided 9 = .ok (.if_icmp .ne 7, 3) := by decide +kernel
theorem dX2_isDivided_12 : decode cX2_isDivided 12 = .ok (.iconst 1, 1) := by decide +kernel
theorem dX2_isDivided_13 : decode cX2_isDivided 13 = .ok (.goto 4, 3) := by decide +kernel
theorem dX2_isDivided_16 : decode cX2_isDivided 16 = .ok (.iconst 0, 1) := by decide +kernel
theorem dX2_isDivided_17 : decode cX2_isDivided 17 = .ok (.ireturn, 1) := by decide +kernel
set_option maxRecDepth 20000 in
theorem ggX2_factorAt_X3_at : GoodIn wsX2_factorAt wsX3_at := goodIn_r _ [7, 8, 9, 10, 11, 23, 24, 25, 26, 27, 28, 29] (by decide +kernel) (by decide +kernel)
set_option maxRecDepth 20000 in
theorem gX2_factorAt_X3_at : GoodIn wsX2_factorAt (wsV RX2 70 RX3 yX3_at wsX3_at) := goodIn_app (goodIn_of _ (by decide +kernel)) ggX2_factorAt_X3_at
set_option maxRecDepth 20000 in
theorem ggX2_factorAt_X7_modulo : GoodIn wsX2_factorAt wsX7_modulo := goodIn_r _ [14, 15, 16, 17, 18] (by decide +kernel) (by decide +kernel)
set_option maxRecDepth 20000 in
theorem gX2_factorAt_X7_modulo_n82 : GoodIn wsX2_factorAt (wsX7_modulo) := ggX2_factorAt_X7_modulo
theorem dX2_factorAt_0 : decode cX2_factorAt 0 = .ok (.aload_n 0, 1) := by decide +kernel
theorem dX2_factorAt_1 : decode cX2_factorAt 1 = .ok (.getfield 20, 3) := by decide +kernel
theorem dX2_factorAt_4 : decode cX2_factorAt 4 = .ok (.iconst 0, 1) := by decide +kernel
theorem dX2_factorAt_5 : decode cX2_factorAt 5 = .ok (.iconst 3, 1) := by decide +kernel
theorem dX2_factorAt_6 : decode cX2_factorAt 6 = .ok (.iload_n 1, 1) := by decide +kernel
theorem dX2_factorAt_7 : decode cX2_factorAt 7 = .ok (.iadd, 1) := by decide +kernel
theorem dX2_factorAt_8 : decode cX2_factorAt 8 = .ok (.iload_n 2, 1) := by decide +kernel
theorem dX2_factorAt_9 : decode cX2_factorAt 9 = .ok (.invokevirtual 70, 3) := by decide +kernel
theorem dX2_factorAt_12 : decode cX2_factorAt 12 = .ok (.ineg, 1) := by decide +kernel
theorem dX2_factorAt_13 : decode cX2_factorAt 13 = .ok (.aload_n 0, 1) := by decide +kernel
theorem dX2_factorAt_14 : decode cX2_factorAt 14 = .ok (.getfield 20, 3) := by decide +kernel
theorem dX2_factorAt_17 : decode cX2_factorAt 17 = .ok (.getfield 37, 3) := by decide +kernel
theorem dX2_factorAt_20 : decode cX2_factorAt 20 = .ok (.invokestatic 82, 3) := by decide +kernel
theorem dX2_factorAt_23 : decode cX2_factorAt 23 = .ok (.ireturn, 1) := by decide +kernel
set_option maxRecDepth 20000 in
theorem ggX2_degreeSum_X3_degreeOf : GoodIn wsX2_degreeSum wsX3_degreeOf := goodIn_r _ [7, 8, 9, 10, 6, 11, 12, 13, 14, 15, 16, 17, 18, 19, 20, 21, 22, 23, 28, 29, 30, 31, 32, 33, 34] (by decide +kernel) (by decide +kernel)
set_option maxRecDepth 20000 in
theorem gX2_degreeSum_X3_degreeOf : GoodIn wsX2_degreeSum (wsV RX2 78 RX3 yX3_degreeOf wsX3_degreeOf) := goodIn_app (goodIn_of _ (by decide +kernel)) ggX2_degreeSum_X3_degreeOf
theorem dX2_degreeSum_0 : decode cX2_degreeSum 0 = .ok (.iconst 0, 1) := by decide +kernel
theorem dX2_degreeSum_1 : decode cX2_degreeSum 1 = .ok (.istore_n 1, 1) := by decide +kernel
theorem dX2_degreeSum_2 : decode cX2_degreeSum 2 = .ok (.iconst 0, 1) := by decide +kernel
theorem dX2_degreeSum_3 : decode cX2_degreeSum 3 = .ok (.istore_n 2, 1) := by decide +kernel
theorem dX2_degreeSum_4 : decode cX2_degreeSum 4 = .ok (.iload_n 2, 1) := by decide +kernel
theorem dX2_degreeSum_5 : decode cX2_degreeSum 5 = .ok (.aload_n 0, 1) := by decide +kernel
theorem dX2_degreeSum_6 : decode cX2_degreeSum 6 = .ok (.getfield 14, 3) := by decide +kernel
theorem dX2_degreeSum_9 : decode cX2_degreeSum 9 = .ok (.getfield 48, 3) := by decide +kernel
theorem dX2_degreeSum_12 : decode cX2_degreeSum 12 = .ok (.if_icmp .ge 20, 3) := by decide +kernel
theorem dX2_degreeSum_15 : decode cX2_degreeSum 15 = .ok (.iload_n 1, 1) := by decide +kernel
theorem dX2_degreeSum_16 : decode cX2_degreeSum 16 = .ok (.aload_n 0, 1) := by decide +kernel
theorem dX2_degreeSum_17 : decode cX2_degreeSum 17 = .ok (.getfield 14, 3) := by decide +kernel
theorem dX2_degreeSum_20 : decode cX2_degreeSum 20 = .ok (.iload_n 2, 1) := by decide +kernel
theorem dX2_degreeSum_21 : decode cX2_degreeSum 21 = .ok (.invokevirtual 78, 3) := by decide +kernel
theorem dX2_degreeSum_24 : decode cX2_degreeSum 24 = .ok (.iadd, 1) := by decide +kernel
theorem dX2_degreeSum_25 : decode cX2_degreeSum 25 = .ok (.istore_n 1, 1) := by decide +kernel
theorem dX2_degreeSum_26 : decode cX2_degreeSum 26 = .ok (.iinc 2 1, 3) := by decide +kernel
theorem dX2_degreeSum_29 : decode cX2_degreeSum 29 = .ok (.goto (-25), 3) := by decide +kernel
theorem dX2_degreeSum_32 : decode cX2_degreeSum 32 = .ok (.iload_n 1, 1) := by decide +kernel
theorem dX2_degreeSum_33 : decode cX2_degreeSum 33 = .ok (.ireturn, 1) := by decide +kernel
set_option maxRecDepth 20000 in
theorem ggX2_toForm_X6_find : GoodIn wsX2_toForm wsX6_find := goodIn_r _ [13, 14, 15, 16, 17, 18, 19, 20, 21, 22, 23, 24, 25, 26, 27, 28, 29, 30, 31, 32, 33, 34, 35, 36, 37, 38, 39, 40, 41, 42, 43, 44, 45, 46, 47, 48, 49, 50, 51, 52, 53, 54, 55, 56, 57, 58, 59, 60, 61, 62, 63, 64, 65, 66, 67, 68, 69, 70, 71, 72, 73, 74, 137, 138, 139, 140, 141, 149, 150, 142, 143, 144, 145, 146, 147, 148] (by decide +kernel) (by decide +kernel)
set_option maxRecDepth 20000 in
theorem gX2_toForm_X6_find : GoodIn wsX2_toForm (wsV RX2 86 RX6 yX6_find wsX6_find) := goodIn_app (goodIn_of _ (by decide +kernel)) ggX2_toForm_X6_find
set_option maxRecDepth 20000 in
theorem ggX2_toForm_X3_addTimes : GoodIn wsX2_toForm wsX3_addTimes := goodIn_r _ [78, 44, 45, 39, 40, 41, 36, 42, 43, 46, 79, 80, 81, 82, 83, 68, 56, 69, 70, 71, 72, 73, 142, 143, 144, 145, 146, 147, 148] (by decide +kernel) (by decide +kernel)
set_option maxRecDepth 20000 in
theorem gX2_toForm_X3_addTimes : GoodIn wsX2_toForm (wsV RX2 59 RX3 yX3_addTimes wsX3_addTimes) := goodIn_app (goodIn_of _ (by decide +kernel)) ggX2_toForm_X3_addTimes
set_option maxRecDepth 20000 in
theorem ggX2_toForm_X2_removeZeros : GoodIn wsX2_toForm wsX2_removeZeros := goodIn_r _ [88, 2, 7, 89, 90, 91, 36, 92, 62, 34, 35, 37, 38, 39, 40, 41, 42, 43, 44, 45, 46, 63, 56, 64, 93, 94, 95, 96, 97, 98, 99, 100, 101, 102, 103, 104, 105, 133, 134, 135, 136, 142, 143, 144, 145, 146, 147, 148] (by decide +kernel) (by decide +kernel)
set_option maxRecDepth 20000 in
theorem gX2_toForm_X2_removeZeros : GoodIn wsX2_toForm (wsV RX2 102 RX2 yX2_removeZeros wsX2_removeZeros) := goodIn_app (goodIn_of _ (by decide +kernel)) ggX2_toForm_X2_removeZeros
set_option maxRecDepth 20000 in
theorem ggX2_toForm_X3_leadOf : GoodIn wsX2_toForm wsX3_leadOf := goodIn_r _ [61, 62, 34, 35, 36, 37, 38, 39, 40, 41, 42, 43, 44, 45, 46, 55, 56, 57, 63, 64, 142, 143, 144, 145, 146, 147, 148] (by decide +kernel) (by decide +kernel)
set_option maxRecDepth 20000 in
theorem gX2_toForm_X3_leadOf : GoodIn wsX2_toForm (wsV RX2 105 RX3 yX3_leadOf wsX3_leadOf) := goodIn_app (goodIn_of _ (by decide +kernel)) ggX2_toForm_X3_leadOf
set_option maxRecDepth 20000 in
theorem ggX2_toForm_X7_inverse : GoodIn wsX2_toForm wsX7_inverse := goodIn_r _ [66, 67, 68, 56, 69, 70, 71, 72, 73] (by decide +kernel) (by decide +kernel)
set_option maxRecDepth 20000 in
theorem gX2_toForm_X7_inverse_n108 : GoodIn wsX2_toForm (wsX7_inverse) := ggX2_toForm_X7_inverse
set_option maxRecDepth 20000 in
theorem ggX2_toForm_X3_scale : GoodIn wsX2_toForm wsX3_scale := goodIn_r _ [110, 44, 45, 39, 40, 41, 36, 42, 43, 46, 79, 80, 81, 82, 83, 68, 56, 69, 70, 71, 72, 73, 142, 143, 144, 145, 146, 147, 148] (by decide +kernel) (by decide +kernel)
set_option maxRecDepth 20000 in
theorem gX2_toForm_X3_scale : GoodIn wsX2_toForm (wsV RX2 111 RX3 yX3_scale wsX3_scale) := goodIn_app (goodIn_of _ (by decide +kernel)) ggX2_toForm_X3_scale
set_option maxRecDepth 20000 in
theorem ggX2_toForm_X2_reduce : GoodIn wsX2_toForm wsX2_reduce := goodIn_r _ [114, 115, 2, 116, 117, 22, 23, 24, 25, 26, 27, 28, 29, 30, 31, 32, 33, 34, 35, 36, 37, 38, 39, 40, 41, 42, 43, 44, 45, 46, 118, 119, 120, 121, 122, 51, 52, 53, 54, 55, 56, 57, 63, 64, 123, 75, 76, 77, 78, 79, 80, 81, 82, 83, 68, 69, 70, 71, 72, 73, 133, 134, 135, 136, 142, 143, 144, 145, 146, 147, 148, 149, 150] (by decide +kernel) (by decide +kernel)
set_option maxRecDepth 20000 in
theorem gX2_toForm_X2_reduce : GoodIn wsX2_toForm (wsV RX2 74 RX2 yX2_reduce wsX2_reduce) := goodIn_app (goodIn_of _ (by decide +kernel)) ggX2_toForm_X2_reduce
set_option maxRecDepth 20000 in
theorem ggX2_toForm_X2_sort : GoodIn wsX2_toForm wsX2_sort := goodIn_r _ [127, 2, 7, 128, 34, 35, 36, 37, 38, 39, 40, 41, 42, 43, 44, 45, 46, 129, 130, 131, 132, 79, 80, 81, 82, 83, 68, 56, 69, 70, 71, 72, 73, 133, 134, 135, 136, 142, 143, 144, 145, 146, 147, 148] (by decide +kernel) (by decide +kernel)
set_option maxRecDepth 20000 in
theorem gX2_toForm_X2_sort : GoodIn wsX2_toForm (wsV RX2 114 RX2 yX2_sort wsX2_sort) := goodIn_app (goodIn_of _ (by decide +kernel)) ggX2_toForm_X2_sort
theorem dX2_toForm_0 : decode cX2_toForm 0 = .ok (.iconst 0, 1) := by decide +kernel
theorem dX2_toForm_1 : decode cX2_toForm 1 = .ok (.istore_n 1, 1) := by decide +kernel
theorem dX2_toForm_2 : decode cX2_toForm 2 = .ok (.iload_n 1, 1) := by decide +kernel
theorem dX2_toForm_3 : decode cX2_toForm 3 = .ok (.sipush 10000, 3) := by decide +kernel
theorem dX2_toForm_6 : decode cX2_toForm 6 = .ok (.if_icmp .ge 62, 3) := by decide +kernel
theorem dX2_toForm_9 : decode cX2_toForm 9 = .ok (.aload_n 0, 1) := by decide +kernel
theorem dX2_toForm_10 : decode cX2_toForm 10 = .ok (.getfield 26, 3) := by decide +kernel
theorem dX2_toForm_13 : decode cX2_toForm 13 = .ok (.aload_n 0, 1) := by decide +kernel
theorem dX2_toForm_14 : decode cX2_toForm 14 = .ok (.getfield 14, 3) := by decide +kernel
theorem dX2_toForm_17 : decode cX2_toForm 17 = .ok (.invokevirtual 86, 3) := by decide +kernel
theorem dX2_toForm_20 : decode cX2_toForm 20 = .ok (.ifCond .eq 48, 3) := by decide +kernel
theorem dX2_toForm_23 : decode cX2_toForm 23 = .ok (.aload_n 0, 1) := by decide +kernel
theorem dX2_toForm_24 : decode cX2_toForm 24 = .ok (.getfield 14, 3) := by decide +kernel
theorem dX2_toForm_27 : decode cX2_toForm 27 = .ok (.aload_n 0, 1) := by decide +kernel
theorem dX2_toForm_28 : decode cX2_toForm 28 = .ok (.getfield 26, 3) := by decide +kernel
theorem dX2_toForm_31 : decode cX2_toForm 31 = .ok (.getfield 90, 3) := by decide +kernel
theorem dX2_toForm_34 : decode cX2_toForm 34 = .ok (.aload_n 0, 1) := by decide +kernel
theorem dX2_toForm_35 : decode cX2_toForm 35 = .ok (.getfield 14, 3) := by decide +kernel
theorem dX2_toForm_38 : decode cX2_toForm 38 = .ok (.aload_n 0, 1) := by decide +kernel
theorem dX2_toForm_39 : decode cX2_toForm 39 = .ok (.getfield 26, 3) := by decide +kernel
theorem dX2_toForm_42 : decode cX2_toForm 42 = .ok (.getfield 93, 3) := by decide +kernel
theorem dX2_toForm_45 : decode cX2_toForm 45 = .ok (.aload_n 0, 1) := by decide +kernel
theorem dX2_toForm_46 : decode cX2_toForm 46 = .ok (.getfield 26, 3) := by decide +kernel
theorem dX2_toForm_49 : decode cX2_toForm 49 = .ok (.getfield 96, 3) := by decide +kernel
theorem dX2_toForm_52 : decode cX2_toForm 52 = .ok (.aload_n 0, 1) := by decide +kernel
theorem dX2_toForm_53 : decode cX2_toForm 53 = .ok (.getfield 26, 3) := by decide +kernel
theorem dX2_toForm_56 : decode cX2_toForm 56 = .ok (.getfield 99, 3) := by decide +kernel
theorem dX2_toForm_59 : decode cX2_toForm 59 = .ok (.invokevirtual 59, 3) := by decide +kernel
theorem dX2_toForm_62 : decode cX2_toForm 62 = .ok (.iinc 1 1, 3) := by decide +kernel
theorem dX2_toForm_65 : decode cX2_toForm 65 = .ok (.goto (-63), 3) := by decide +kernel
theorem dX2_toForm_68 : decode cX2_toForm 68 = .ok (.aload_n 0, 1) := by decide +kernel
theorem dX2_toForm_69 : decode cX2_toForm 69 = .ok (.invokevirtual 102, 3) := by decide +kernel
theorem dX2_toForm_72 : decode cX2_toForm 72 = .ok (.iconst 0, 1) := by decide +kernel
theorem dX2_toForm_73 : decode cX2_toForm 73 = .ok (.istore_n 1, 1) := by decide +kernel
theorem dX2_toForm_74 : decode cX2_toForm 74 = .ok (.iload_n 1, 1) := by decide +kernel
theorem dX2_toForm_75 : decode cX2_toForm 75 = .ok (.aload_n 0, 1) := by decide +kernel
theorem dX2_toForm_76 : decode cX2_toForm 76 = .ok (.getfield 14, 3) := by decide +kernel
theorem dX2_toForm_79 : decode cX2_toForm 79 = .ok (.getfield 48, 3) := by decide +kernel
theorem dX2_toForm_82 : decode cX2_toForm 82 = .ok (.if_icmp .ge 35, 3) := by decide +kernel
theorem dX2_toForm_85 : decode cX2_toForm 85 = .ok (.aload_n 0, 1) := by decide +kernel
theorem dX2_toForm_86 : decode cX2_toForm 86 = .ok (.getfield 14, 3) := by decide +kernel
theorem dX2_toForm_89 : decode cX2_toForm 89 = .ok (.iload_n 1, 1) := by decide +kernel
theorem dX2_toForm_90 : decode cX2_toForm 90 = .ok (.aload_n 0, 1) := by decide +kernel
theorem dX2_toForm_91 : decode cX2_toForm 91 = .ok (.getfield 14, 3) := by decide +kernel
theorem dX2_toForm_94 : decode cX2_toForm 94 = .ok (.iload_n 1, 1) := by decide +kernel
theorem dX2_toForm_95 : decode cX2_toForm 95 = .ok (.invokevirtual 105, 3) := by decide +kernel
theorem dX2_toForm_98 : decode cX2_toForm 98 = .ok (.aload_n 0, 1) := by decide +kernel
theorem dX2_toForm_99 : decode cX2_toForm 99 = .ok (.getfield 14, 3) := by decide +kernel
theorem dX2_toForm_102 : decode cX2_toForm 102 = .ok (.getfield 37, 3) := by decide +kernel
theorem dX2_toForm_105 : decode cX2_toForm 105 = .ok (.invokestatic 108, 3) := by decide +kernel
theorem dX2_toForm_108 : decode cX2_toForm 108 = .ok (.invokevirtual 111, 3) := by decide +kernel
theorem dX2_toForm_111 : decode cX2_toForm 111 = .ok (.iinc 1 1, 3) := by decide +kernel
theorem dX2_toForm_114 : decode cX2_toForm 114 = .ok (.goto (-40), 3) := by decide +kernel
theorem dX2_toForm_117 : decode cX2_toForm 117 = .ok (.iconst 0, 1) := by decide +kernel
theorem dX2_toForm_118 : decode cX2_toForm 118 = .ok (.istore_n 1, 1) := by decide +kernel
theorem dX2_toForm_119 : decode cX2_toForm 119 = .ok (.iload_n 1, 1) := by decide +kernel
theorem dX2_toForm_120 : decode cX2_toForm 120 = .ok (.aload_n 0, 1) := by decide +kernel
theorem dX2_toForm_121 : decode cX2_toForm 121 = .ok (.getfield 14, 3) := by decide +kernel
theorem dX2_toForm_124 : decode cX2_toForm 124 = .ok (.getfield 48, 3) := by decide +kernel
theorem dX2_toForm_127 : decode cX2_toForm 127 = .ok (.if_icmp .ge 19, 3) := by decide +kernel
theorem dX2_toForm_130 : decode cX2_toForm 130 = .ok (.aload_n 0, 1) := by decide +kernel
theorem dX2_toForm_131 : decode cX2_toForm 131 = .ok (.aload_n 0, 1) := by decide +kernel
theorem dX2_toForm_132 : decode cX2_toForm 132 = .ok (.getfield 14, 3) := by decide +kernel
theorem dX2_toForm_135 : decode cX2_toForm 135 = .ok (.iload_n 1, 1) := by decide +kernel
theorem dX2_toForm_136 : decode cX2_toForm 136 = .ok (.iload_n 1, 1) := by decide +kernel
theorem dX2_toForm_137 : decode cX2_toForm 137 = .ok (.invokevirtual 74, 3) := by decide +kernel
theorem dX2_toForm_140 : decode cX2_toForm 140 = .ok (.iinc 1 1, 3) := by decide +kernel
theorem dX2_toForm_143 : decode cX2_toForm 143 = .ok (.goto (-24), 3) := by decide +kernel
theorem dX2_toForm_146 : decode cX2_toForm 146 = .ok (.aload_n 0, 1) := by decide +kernel
theorem dX2_toForm_147 : decode cX2_toForm 147 = .ok (.invokevirtual 114, 3) := by decide +kernel
theorem dX2_toForm_150 : decode cX2_toForm 150 = .ok (.return_, 1) := by decide +kernel
set_option maxRecDepth 20000 in
theorem ggX2_removeZeros_X3_degreeOf : GoodIn wsX2_removeZeros wsX3_degreeOf := goodIn_r _ [7, 8, 9, 10, 6, 11, 12, 13, 14, 15, 16, 17, 18, 19, 20, 21, 22, 23, 41, 42, 43, 44, 45, 46, 47] (by decide +kernel) (by decide +kernel)
set_option maxRecDepth 20000 in
theorem gX2_removeZeros_X3_degreeOf : GoodIn wsX2_removeZeros (wsV RX2 78 RX3 yX3_degreeOf wsX3_degreeOf) := goodIn_app (goodIn_of _ (by decide +kernel)) ggX2_removeZeros_X3_degreeOf
set_option maxRecDepth 20000 in
theorem ggX2_removeZeros_X3_remove : GoodIn wsX2_removeZeros wsX3_remove := goodIn_r _ [27, 18, 19, 20, 28, 29, 30, 31, 32, 33, 34, 35, 6, 36, 41, 42, 43, 44, 45, 46, 47] (by decide +kernel) (by decide +kernel)
set_option maxRecDepth 20000 in
theorem gX2_removeZeros_X3_remove : GoodIn wsX2_removeZeros (wsV RX2 117 RX3 yX3_remove wsX3_remove) := goodIn_app (goodIn_of _ (by decide +kernel)) ggX2_removeZeros_X3_remove
theorem dX2_removeZeros_0 : decode cX2_removeZeros 0 = .ok (.aload_n 0, 1) := by decide +kernel
theorem dX2_removeZeros_1 : decode cX2_removeZeros 1 = .ok (.getfield 14, 3) := by decide +kernel
theorem dX2_removeZeros_4 : decode cX2_removeZeros 4 = .ok (.getfield 48, 3) := by decide +kernel
theorem dX2_removeZeros_7 : decode cX2_removeZeros 7 = .ok (.iconst 1, 1) := by decide +kernel
theorem dX2_removeZeros_8 : decode cX2_removeZeros 8 = .ok (.isub, 1) := by decide +kernel
theorem dX2_removeZeros_9 : decode cX2_removeZeros 9 = .ok (.istore_n 1, 1) := by decide +kernel
theorem dX2_removeZeros_10 : decode cX2_removeZeros 10 = .ok (.iload_n 1, 1) := by decide +kernel
theorem dX2_removeZeros_11 : decode cX2_removeZeros 11 = .ok (.ifCond .lt 29, 3) := by decide +kernel
theorem dX2_removeZeros_14 : decode cX2_removeZeros 14 = .ok (.aload_n 0, 1) := by decide +kernel
theorem dX2_removeZeros_15 : decode cX2_removeZeros 15 = .ok (.getfield 14, 3) := by decide +kernel
theorem dX2_removeZeros_18 : decode cX2_removeZeros 18 = .ok (.iload_n 1, 1) := by decide +kernel
theorem dX2_removeZeros_19 : decode cX2_removeZeros 19 = .ok (.invokevirtual 78, 3) := by decide +kernel
theorem dX2_removeZeros_22 : decode cX2_removeZeros 22 = .ok (.iconst (-1), 1) := by decide +kernel
theorem dX2_removeZeros_23 : decode cX2_removeZeros 23 = .ok (.if_icmp .ne 11, 3) := by decide +kernel
theorem dX2_removeZeros_26 : decode cX2_removeZeros 26 = .ok (.aload_n 0, 1) := by decide +kernel
theorem dX2_removeZeros_27 : decode cX2_removeZeros 27 = .ok (.getfield 14, 3) := by decide +kernel
theorem dX2_removeZeros_30 : decode cX2_removeZeros 30 = .ok (.iload_n 1, 1) := by decide +kernel
theorem dX2_removeZeros_31 : decode cX2_removeZeros 31 = .ok (.invokevirtual 117, 3) := by decide +kernel
theorem dX2_removeZeros_34 : decode cX2_removeZeros 34 = .ok (.iinc 1 (-1), 3) := by decide +kernel
theorem dX2_removeZeros_37 : decode cX2_removeZeros 37 = .ok (.goto (-27), 3) := by decide +kernel
theorem dX2_removeZeros_40 : decode cX2_removeZeros 40 = .ok (.return_, 1) := by decide +kernel
set_option maxRecDepth 20000 in
theorem ggX2_reduce_X5_measure : GoodIn wsX2_reduce wsX5_measure := goodIn_r _ [8, 9, 10, 11, 12, 13, 14, 15, 16, 17, 18, 19, 20, 21, 22, 23, 24, 25, 26, 27, 28, 29, 64, 65, 66, 67, 68, 69, 70, 71, 72] (by decide +kernel) (by decide +kernel)
set_option maxRecDepth 20000 in
theorem gX2_reduce_X5_measure : GoodIn wsX2_reduce (wsV RX2 121 RX5 yX5_measure wsX5_measure) := goodIn_app (goodIn_of _ (by decide +kernel)) ggX2_reduce_X5_measure
set_option maxRecDepth 20000 in
theorem ggX2_reduce_X3_at : GoodIn wsX2_reduce wsX3_at := goodIn_r _ [25, 26, 27, 28, 29, 64, 65, 66, 67, 68, 69, 70] (by decide +kernel) (by decide +kernel)
set_option maxRecDepth 20000 in
theorem gX2_reduce_X3_at : GoodIn wsX2_reduce (wsV RX2 70 RX3 yX3_at wsX3_at) := goodIn_app (goodIn_of _ (by decide +kernel)) ggX2_reduce_X3_at
set_option maxRecDepth 20000 in
theorem ggX2_reduce_X5_rowFor : GoodIn wsX2_reduce wsX5_rowFor := goodIn_r _ [34, 15, 35, 36, 37, 7, 38, 10, 39, 40, 41, 42, 43, 71, 72] (by decide +kernel) (by decide +kernel)
set_option maxRecDepth 20000 in
theorem gX2_reduce_X5_rowFor : GoodIn wsX2_reduce (wsV RX2 125 RX5 yX5_rowFor wsX5_rowFor) := goodIn_app (goodIn_of _ (by decide +kernel)) ggX2_reduce_X5_rowFor
set_option maxRecDepth 20000 in
theorem ggX2_reduce_X5_placeAt : GoodIn wsX2_reduce wsX5_placeAt := goodIn_r _ [38, 10, 71, 72] (by decide +kernel) (by decide +kernel)
set_option maxRecDepth 20000 in
theorem gX2_reduce_X5_placeAt : GoodIn wsX2_reduce (wsV RX2 128 RX5 yX5_placeAt wsX5_placeAt) := goodIn_app (goodIn_of _ (by decide +kernel)) ggX2_reduce_X5_placeAt
set_option maxRecDepth 20000 in
theorem ggX2_reduce_X7_powerAt : GoodIn wsX2_reduce wsX7_powerAt := goodIn_r _ [43] (by decide +kernel) (by decide +kernel)
set_option maxRecDepth 20000 in
theorem gX2_reduce_X7_powerAt_n131 : GoodIn wsX2_reduce (wsX7_powerAt) := ggX2_reduce_X7_powerAt
set_option maxRecDepth 20000 in
theorem ggX2_reduce_X3_addTimes : GoodIn wsX2_reduce wsX3_addTimes := goodIn_r _ [48, 27, 28, 22, 23, 24, 19, 25, 26, 29, 49, 50, 51, 52, 53, 54, 40, 55, 56, 57, 58, 59, 64, 65, 66, 67, 68, 69, 70] (by decide +kernel) (by decide +kernel)
set_option maxRecDepth 20000 in
theorem gX2_reduce_X3_addTimes : GoodIn wsX2_reduce (wsV RX2 59 RX3 yX3_addTimes wsX3_addTimes) := goodIn_app (goodIn_of _ (by decide +kernel)) ggX2_reduce_X3_addTimes
theorem dX2_reduce_0 : decode cX2_reduce 0 = .ok (.aload_n 0, 1) := by decide +kernel
theorem dX2_reduce_1 : decode cX2_reduce 1 = .ok (.getfield 33, 3) := by decide +kernel
theorem dX2_reduce_4 : decode cX2_reduce 4 = .ok (.aload_n 0, 1) := by decide +kernel
theorem dX2_reduce_5 : decode cX2_reduce 5 = .ok (.getfield 14, 3) := by decide +kernel
theorem dX2_reduce_8 : decode cX2_reduce 8 = .ok (.invokevirtual 121, 3) := by decide +kernel
theorem dX2_reduce_11 : decode cX2_reduce 11 = .ok (.bipush 7, 2) := by decide +kernel
theorem dX2_reduce_13 : decode cX2_reduce 13 = .ok (.istore 4, 2) := by decide +kernel
theorem dX2_reduce_15 : decode cX2_reduce 15 = .ok (.iload 4, 2) := by decide +kernel
theorem dX2_reduce_17 : decode cX2_reduce 17 = .ok (.ifCond .lt 100, 3) := by decide +kernel
theorem dX2_reduce_20 : decode cX2_reduce 20 = .ok (.aload_n 0, 1) := by decide +kernel
theorem dX2_reduce_21 : decode cX2_reduce 21 = .ok (.getfield 14, 3) := by decide +kernel
theorem dX2_reduce_24 : decode cX2_reduce 24 = .ok (.getfield 41, 3) := by decide +kernel
theorem dX2_reduce_27 : decode cX2_reduce 27 = .ok (.iconst 1, 1) := by decide +kernel
theorem dX2_reduce_28 : decode cX2_reduce 28 = .ok (.isub, 1) := by decide +kernel
theorem dX2_reduce_29 : decode cX2_reduce 29 = .ok (.istore 5, 2) := by decide +kernel
theorem dX2_reduce_31 : decode cX2_reduce 31 = .ok (.iload 5, 2) := by decide +kernel
theorem dX2_reduce_33 : decode cX2_reduce 33 = .ok (.ifCond .lt 78, 3) := by decide +kernel
theorem dX2_reduce_36 : decode cX2_reduce 36 = .ok (.aload_n 1, 1) := by decide +kernel
theorem dX2_reduce_37 : decode cX2_reduce 37 = .ok (.iload_n 2, 1) := by decide +kernel
theorem dX2_reduce_38 : decode cX2_reduce 38 = .ok (.iload 5, 2) := by decide +kernel
theorem dX2_reduce_40 : decode cX2_reduce 40 = .ok (.iload 4, 2) := by decide +kernel
theorem dX2_reduce_42 : decode cX2_reduce 42 = .ok (.invokevirtual 70, 3) := by decide +kernel
theorem dX2_reduce_45 : decode cX2_reduce 45 = .ok (.istore 6, 2) := by decide +kernel
theorem dX2_reduce_47 : decode cX2_reduce 47 = .ok (.iload 6, 2) := by decide +kernel
theorem dX2_reduce_49 : decode cX2_reduce 49 = .ok (.ifCond .ne 7, 3) := by decide +kernel
theorem dX2_reduce_52 : decode cX2_reduce 52 = .ok (.iconst (-1), 1) := by decide +kernel
theorem dX2_reduce_53 : decode cX2_reduce 53 = .ok (.goto 15, 3) := by decide +kernel
theorem dX2_reduce_56 : decode cX2_reduce 56 = .ok (.aload_n 0, 1) := by decide +kernel
theorem dX2_reduce_57 : decode cX2_reduce 57 = .ok (.getfield 33, 3) := by decide +kernel
theorem dX2_reduce_60 : decode cX2_reduce 60 = .ok (.iload 5, 2) := by decide +kernel
theorem dX2_reduce_62 : decode cX2_reduce 62 = .ok (.iload 4, 2) := by decide +kernel
theorem dX2_reduce_64 : decode cX2_reduce 64 = .ok (.iload_n 3, 1) := by decide +kernel
theorem dX2_reduce_65 : decode cX2_reduce 65 = .ok (.invokevirtual 125, 3) := by decide +kernel
theorem dX2_reduce_68 : decode cX2_reduce 68 = .ok (.istore 7, 2) := by decide +kernel
theorem dX2_reduce_70 : decode cX2_reduce 70 = .ok (.iload 7, 2) := by decide +kernel
theorem dX2_reduce_72 : decode cX2_reduce 72 = .ok (.iconst (-1), 1) := by decide +kernel
theorem dX2_reduce_73 : decode cX2_reduce 73 = .ok (.if_icmp .eq 32, 3) := by decide +kernel
theorem dX2_reduce_76 : decode cX2_reduce 76 = .ok (.aload_n 1, 1) := by decide +kernel
theorem dX2_reduce_77 : decode cX2_reduce 77 = .ok (.iload_n 2, 1) := by decide +kernel
theorem dX2_reduce_78 : decode cX2_reduce 78 = .ok (.aload_n 0, 1) := by decide +kernel
theorem dX2_reduce_79 : decode cX2_reduce 79 = .ok (.getfield 14, 3) := by decide +kernel
theorem dX2_reduce_82 : decode cX2_reduce 82 = .ok (.iload 7, 2) := by decide +kernel
theorem dX2_reduce_84 : decode cX2_reduce 84 = .ok (.iload 6, 2) := by decide +kernel
theorem dX2_reduce_86 : decode cX2_reduce 86 = .ok (.ineg, 1) := by decide +kernel
theorem dX2_reduce_87 : decode cX2_reduce 87 = .ok (.iload 4, 2) := by decide +kernel
theorem dX2_reduce_89 : decode cX2_reduce 89 = .ok (.aload_n 0, 1) := by decide +kernel
theorem dX2_reduce_90 : decode cX2_reduce 90 = .ok (.getfield 33, 3) := by decide +kernel
theorem dX2_reduce_93 : decode cX2_reduce 93 = .ok (.iload 7, 2) := by decide +kernel
theorem dX2_reduce_95 : decode cX2_reduce 95 = .ok (.invokevirtual 128, 3) := by decide +kernel
theorem dX2_reduce_98 : decode cX2_reduce 98 = .ok (.invokestatic 131, 3) := by decide +kernel
theorem dX2_reduce_101 : decode cX2_reduce 101 = .ok (.isub, 1) := by decide +kernel
theorem dX2_reduce_102 : decode cX2_reduce 102 = .ok (.invokevirtual 59, 3) := by decide +kernel
theorem dX2_reduce_105 : decode cX2_reduce 105 = .ok (.iinc 5 (-1), 3) := by decide +kernel
theorem dX2_reduce_108 : decode cX2_reduce 108 = .ok (.goto (-77), 3) := by decide +kernel
theorem dX2_reduce_111 : decode cX2_reduce 111 = .ok (.iinc 4 (-1), 3) := by decide +kernel
theorem dX2_reduce_114 : decode cX2_reduce 114 = .ok (.goto (-99), 3) := by decide +kernel
theorem dX2_reduce_117 : decode cX2_reduce 117 = .ok (.return_, 1) := by decide +kernel
set_option maxRecDepth 20000 in
theorem ggX2_sort_X3_placeOf : GoodIn wsX2_sort wsX3_placeOf := goodIn_r _ [7, 8, 9, 10, 11, 6, 12, 13, 14, 15, 16, 37, 38, 39, 40, 41, 42, 43] (by decide +kernel) (by decide +kernel)
set_option maxRecDepth 20000 in
theorem gX2_sort_X3_placeOf : GoodIn wsX2_sort (wsV RX2 134 RX3 yX3_placeOf wsX3_placeOf) := goodIn_app (goodIn_of _ (by decide +kernel)) ggX2_sort_X3_placeOf
set_option maxRecDepth 20000 in
theorem ggX2_sort_X3_swap : GoodIn wsX2_sort wsX3_swap := goodIn_r _ [20, 14, 15, 9, 10, 11, 6, 12, 13, 16, 21, 22, 23, 24, 25, 26, 27, 28, 29, 30, 31, 32, 37, 38, 39, 40, 41, 42, 43] (by decide +kernel) (by decide +kernel)
set_option maxRecDepth 20000 in
theorem gX2_sort_X3_swap : GoodIn wsX2_sort (wsV RX2 137 RX3 yX3_swap wsX3_swap) := goodIn_app (goodIn_of _ (by decide +kernel)) ggX2_sort_X3_swap
theorem dX2_sort_0 : decode cX2_sort 0 = .ok (.iconst 0, 1) := by decide +kernel
theorem dX2_sort_1 : decode cX2_sort 1 = .ok (.istore_n 1, 1) := by decide +kernel
theorem dX2_sort_2 : decode cX2_sort 2 = .ok (.iload_n 1, 1) := by decide +kernel
theorem dX2_sort_3 : decode cX2_sort 3 = .ok (.aload_n 0, 1) := by decide +kernel
theorem dX2_sort_4 : decode cX2_sort 4 = .ok (.getfield 14, 3) := by decide +kernel
theorem dX2_sort_7 : decode cX2_sort 7 = .ok (.getfield 48, 3) := by decide +kernel
theorem dX2_sort_10 : decode cX2_sort 10 = .ok (.if_icmp .ge 58, 3) := by decide +kernel
theorem dX2_sort_13 : decode cX2_sort 13 = .ok (.iload_n 1, 1) := by decide +kernel
theorem dX2_sort_14 : decode cX2_sort 14 = .ok (.iconst 1, 1) := by decide +kernel
theorem dX2_sort_15 : decode cX2_sort 15 = .ok (.iadd, 1) := by decide +kernel
theorem dX2_sort_16 : decode cX2_sort 16 = .ok (.istore_n 2, 1) := by decide +kernel
theorem dX2_sort_17 : decode cX2_sort 17 = .ok (.iload_n 2, 1) := by decide +kernel
theorem dX2_sort_18 : decode cX2_sort 18 = .ok (.aload_n 0, 1) := by decide +kernel
theorem dX2_sort_19 : decode cX2_sort 19 = .ok (.getfield 14, 3) := by decide +kernel
theorem dX2_sort_22 : decode cX2_sort 22 = .ok (.getfield 48, 3) := by decide +kernel
theorem dX2_sort_25 : decode cX2_sort 25 = .ok (.if_icmp .ge 37, 3) := by decide +kernel
theorem dX2_sort_28 : decode cX2_sort 28 = .ok (.aload_n 0, 1) := by decide +kernel
theorem dX2_sort_29 : decode cX2_sort 29 = .ok (.getfield 14, 3) := by decide +kernel
theorem dX2_sort_32 : decode cX2_sort 32 = .ok (.iload_n 2, 1) := by decide +kernel
theorem dX2_sort_33 : decode cX2_sort 33 = .ok (.invokevirtual 134, 3) := by decide +kernel
theorem dX2_sort_36 : decode cX2_sort 36 = .ok (.aload_n 0, 1) := by decide +kernel
theorem dX2_sort_37 : decode cX2_sort 37 = .ok (.getfield 14, 3) := by decide +kernel
theorem dX2_sort_40 : decode cX2_sort 40 = .ok (.iload_n 1, 1) := by decide +kernel
theorem dX2_sort_41 : decode cX2_sort 41 = .ok (.invokevirtual 134, 3) := by decide +kernel
theorem dX2_sort_44 : decode cX2_sort 44 = .ok (.if_icmp .ge 12, 3) := by decide +kernel
theorem dX2_sort_47 : decode cX2_sort 47 = .ok (.aload_n 0, 1) := by decide +kernel
theorem dX2_sort_48 : decode cX2_sort 48 = .ok (.getfield 14, 3) := by decide +kernel
theorem dX2_sort_51 : decode cX2_sort 51 = .ok (.iload_n 1, 1) := by decide +kernel
theorem dX2_sort_52 : decode cX2_sort 52 = .ok (.iload_n 2, 1) := by decide +kernel
theorem dX2_sort_53 : decode cX2_sort 53 = .ok (.invokevirtual 137, 3) := by decide +kernel
theorem dX2_sort_56 : decode cX2_sort 56 = .ok (.iinc 2 1, 3) := by decide +kernel
theorem dX2_sort_59 : decode cX2_sort 59 = .ok (.goto (-42), 3) := by decide +kernel
theorem dX2_sort_62 : decode cX2_sort 62 = .ok (.iinc 1 1, 3) := by decide +kernel
theorem dX2_sort_65 : decode cX2_sort 65 = .ok (.goto (-63), 3) := by decide +kernel
theorem dX2_sort_68 : decode cX2_sort 68 = .ok (.return_, 1) := by decide +kernel
theorem dX3_init_0 : decode cX3_init 0 = .ok (.aload_n 0, 1) := by decide +kernel
theorem dX3_init_1 : decode cX3_init 1 = .ok (.invokespecial 3, 3) := by decide +kernel
theorem dX3_init_4 : decode cX3_init 4 = .ok (.aload_n 0, 1) := by decide +kernel
theorem dX3_init_5 : decode cX3_init 5 = .ok (.bipush 7, 2) := by decide +kernel
theorem dX3_init_7 : decode cX3_init 7 = .ok (.putfield 9, 3) := by decide +kernel
theorem dX3_init_10 : decode cX3_init 10 = .ok (.aload_n 0, 1) := by decide +kernel
theorem dX3_init_11 : decode cX3_init 11 = .ok (.iconst 2, 1) := by decide +kernel
theorem dX3_init_12 : decode cX3_init 12 = .ok (.putfield 15, 3) := by decide +kernel
theorem dX3_init_15 : decode cX3_init 15 = .ok (.aload_n 0, 1) := by decide +kernel
theorem dX3_init_16 : decode cX3_init 16 = .ok (.iload_n 1, 1) := by decide +kernel
theorem dX3_init_17 : decode cX3_init 17 = .ok (.putfield 18, 3) := by decide +kernel
theorem dX3_init_20 : decode cX3_init 20 = .ok (.aload_n 0, 1) := by decide +kernel
theorem dX3_init_21 : decode cX3_init 21 = .ok (.iload_n 2, 1) := by decide +kernel
theorem dX3_init_22 : decode cX3_init 22 = .ok (.putfield 21, 3) := by decide +kernel
theorem dX3_init_25 : decode cX3_init 25 = .ok (.aload_n 0, 1) := by decide +kernel
theorem dX3_init_26 : decode cX3_init 26 = .ok (.iload_n 3, 1) := by decide +kernel
theorem dX3_init_27 : decode cX3_init 27 = .ok (.putfield 24, 3) := by decide +kernel
theorem dX3_init_30 : decode cX3_init 30 = .ok (.aload_n 0, 1) := by decide +kernel
theorem dX3_init_31 : decode cX3_init 31 = .ok (.iconst 0, 1) := by decide +kernel
theorem dX3_init_32 : decode cX3_init 32 = .ok (.iload_n 1, 1) := by decide +kernel
theorem dX3_init_33 : decode cX3_init 33 = .ok (.iload_n 2, 1) := by decide +kernel
theorem dX3_init_34 : decode cX3_init 34 = .ok (.imul, 1) := by decide +kernel
theorem dX3_init_35 : decode cX3_init 35 = .ok (.iload_n 3, 1) := by decide +kernel
theorem dX3_init_36 : decode cX3_init 36 = .ok (.imul, 1) := by decide +kernel
theorem dX3_init_37 : decode cX3_init 37 = .ok (.invokestatic 27, 3) := by decide +kernel
theorem dX3_init_40 : decode cX3_init 40 = .ok (.newarray .int, 2) := by decide +kernel
theorem dX3_init_42 : decode cX3_init 42 = .ok (.putfield 33, 3) := by decide +kernel
theorem dX3_init_45 : decode cX3_init 45 = .ok (.return_, 1) := by decide +kernel
theorem dX3_hasRow_0 : decode cX3_hasRow 0 = .ok (.iload_n 1, 1) := by decide +kernel
theorem dX3_hasRow_1 : decode cX3_hasRow 1 = .ok (.ifCond .lt 15, 3) := by decide +kernel
theorem dX3_hasRow_4 : decode cX3_hasRow 4 = .ok (.iload_n 1, 1) := by decide +kernel
theorem dX3_hasRow_5 : decode cX3_hasRow 5 = .ok (.aload_n 0, 1) := by decide +kernel
theorem dX3_hasRow_6 : decode cX3_hasRow 6 = .ok (.getfield 37, 3) := by decide +kernel
theorem dX3_hasRow_9 : decode cX3_hasRow 9 = .ok (.if_icmp .ge 7, 3) := by decide +kernel
theorem dX3_hasRow_12 : decode cX3_hasRow 12 = .ok (.iconst 1, 1) := by decide +kernel
theorem dX3_hasRow_13 : decode cX3_hasRow 13 = .ok (.goto 4, 3) := by decide +kernel
theorem dX3_hasRow_16 : decode cX3_hasRow 16 = .ok (.iconst 0, 1) := by decide +kernel
theorem dX3_hasRow_17 : decode cX3_hasRow 17 = .ok (.ireturn, 1) := by decide +kernel
theorem dX3_hasColumn_0 : decode cX3_hasColumn 0 = .ok (.iload_n 1, 1) := by decide +kernel
theorem dX3_hasColumn_1 : decode cX3_hasColumn 1 = .ok (.ifCond .lt 15, 3) := by decide +kernel
theorem dX3_hasColumn_4 : decode cX3_hasColumn 4 = .ok (.iload_n 1, 1) := by decide +kernel
theorem dX3_hasColumn_5 : decode cX3_hasColumn 5 = .ok (.aload_n 0, 1) := by decide +kernel
theorem dX3_hasColumn_6 : decode cX3_hasColumn 6 = .ok (.getfield 15, 3) := by decide +kernel
theorem dX3_hasColumn_9 : decode cX3_hasColumn 9 = .ok (.if_icmp .ge 7, 3) := by decide +kernel
theorem dX3_hasColumn_12 : decode cX3_hasColumn 12 = .ok (.iconst 1, 1) := by decide +kernel
theorem dX3_hasColumn_13 : decode cX3_hasColumn 13 = .ok (.goto 4, 3) := by decide +kernel
theorem dX3_hasColumn_16 : decode cX3_hasColumn 16 = .ok (.iconst 0, 1) := by decide +kernel
theorem dX3_hasColumn_17 : decode cX3_hasColumn 17 = .ok (.ireturn, 1) := by decide +kernel
theorem dX3_hasSet_0 : decode cX3_hasSet 0 = .ok (.iload_n 1, 1) := by decide +kernel
theorem dX3_hasSet_1 : decode cX3_hasSet 1 = .ok (.aload_n 0, 1) := by decide +kernel
theorem dX3_hasSet_2 : decode cX3_hasSet 2 = .ok (.getfield 37, 3) := by decide +kernel
theorem dX3_hasSet_5 : decode cX3_hasSet 5 = .ok (.ishr, 1) := by decide +kernel
theorem dX3_hasSet_6 : decode cX3_hasSet 6 = .ok (.ifCond .ne 7, 3) := by decide +kernel
theorem dX3_hasSet_9 : decode cX3_hasSet 9 = .ok (.iconst 1, 1) := by decide +kernel
theorem dX3_hasSet_10 : decode cX3_hasSet 10 = .ok (.goto 4, 3) := by decide +kernel
theorem dX3_hasSet_13 : decode cX3_hasSet 13 = .ok (.iconst 0, 1) := by decide +kernel
theorem dX3_hasSet_14 : decode cX3_hasSet 14 = .ok (.ireturn, 1) := by decide +kernel
theorem dX3_at_0 : decode cX3_at 0 = .ok (.iload_n 1, 1) := by decide +kernel
theorem dX3_at_1 : decode cX3_at 1 = .ok (.ifCond .lt 39, 3) := by decide +kernel
theorem dX3_at_4 : decode cX3_at 4 = .ok (.iload_n 1, 1) := by decide +kernel
theorem dX3_at_5 : decode cX3_at 5 = .ok (.aload_n 0, 1) := by decide +kernel
theorem dX3_at_6 : decode cX3_at 6 = .ok (.getfield 18, 3) := by decide +kernel
theorem dX3_at_9 : decode cX3_at 9 = .ok (.if_icmp .ge 31, 3) := by decide +kernel
theorem dX3_at_12 : decode cX3_at 12 = .ok (.iload_n 2, 1) := by decide +kernel
theorem dX3_at_13 : decode cX3_at 13 = .ok (.ifCond .lt 27, 3) := by decide +kernel
theorem dX3_at_16 : decode cX3_at 16 = .ok (.iload_n 2, 1) := by decide +kernel
theorem dX3_at_17 : decode cX3_at 17 = .ok (.aload_n 0, 1) := by decide +kernel
theorem dX3_at_18 : decode cX3_at 18 = .ok (.getfield 21, 3) := by decide +kernel
theorem dX3_at_21 : decode cX3_at 21 = .ok (.if_icmp .ge 19, 3) := by decide +kernel
theorem dX3_at_24 : decode cX3_at 24 = .ok (.iload_n 3, 1) := by decide +kernel
theorem dX3_at_25 : decode cX3_at 25 = .ok (.ifCond .lt 15, 3) := by decide +kernel
theorem dX3_at_28 : decode cX3_at 28 = .ok (.iload_n 3, 1) := by decide +kernel
theorem dX3_at_29 : decode cX3_at 29 = .ok (.aload_n 0, 1) := by decide +kernel
theorem dX3_at_30 : decode cX3_at 30 = .ok (.getfield 24, 3) := by decide +kernel
theorem dX3_at_33 : decode cX3_at 33 = .ok (.if_icmp .ge 7, 3) := by decide +kernel
theorem dX3_at_36 : decode cX3_at 36 = .ok (.iconst 1, 1) := by decide +kernel
theorem dX3_at_37 : decode cX3_at 37 = .ok (.goto 4, 3) := by decide +kernel
theorem dX3_at_40 : decode cX3_at 40 = .ok (.iconst 0, 1) := by decide +kernel
theorem dX3_at_41 : decode cX3_at 41 = .ok (.istore 4, 2) := by decide +kernel
theorem dX3_at_43 : decode cX3_at 43 = .ok (.iload 4, 2) := by decide +kernel
theorem dX3_at_45 : decode cX3_at 45 = .ok (.ifCond .eq 26, 3) := by decide +kernel
theorem dX3_at_48 : decode cX3_at 48 = .ok (.aload_n 0, 1) := by decide +kernel
theorem dX3_at_49 : decode cX3_at 49 = .ok (.getfield 33, 3) := by decide +kernel
theorem dX3_at_52 : decode cX3_at 52 = .ok (.iload_n 1, 1) := by decide +kernel
theorem dX3_at_53 : decode cX3_at 53 = .ok (.aload_n 0, 1) := by decide +kernel
theorem dX3_at_54 : decode cX3_at 54 = .ok (.getfield 21, 3) := by decide +kernel
theorem dX3_at_57 : decode cX3_at 57 = .ok (.imul, 1) := by decide +kernel
theorem dX3_at_58 : decode cX3_at 58 = .ok (.iload_n 2, 1) := by decide +kernel
theorem dX3_at_59 : decode cX3_at 59 = .ok (.iadd, 1) := by decide +kernel
theorem dX3_at_60 : decode cX3_at 60 = .ok (.aload_n 0, 1) := by decide +kernel
theorem dX3_at_61 : decode cX3_at 61 = .ok (.getfield 24, 3) := by decide +kernel
theorem dX3_at_64 : decode cX3_at 64 = .ok (.imul, 1) := by decide +kernel
theorem dX3_at_65 : decode cX3_at 65 = .ok (.iload_n 3, 1) := by decide +kernel
theorem dX3_at_66 : decode cX3_at 66 = .ok (.iadd, 1) := by decide +kernel
theorem dX3_at_67 : decode cX3_at 67 = .ok (.iaload, 1) := by decide +kernel
theorem dX3_at_68 : decode cX3_at 68 = .ok (.goto 4, 3) := by decide +kernel
theorem dX3_at_71 : decode cX3_at 71 = .ok (.iconst 0, 1) := by decide +kernel
theorem dX3_at_72 : decode cX3_at 72 = .ok (.ireturn, 1) := by decide +kernel
set_option maxRecDepth 20000 in
theorem ggX3_put_X7_modulo : GoodIn wsX3_put wsX7_modulo := goodIn_r _ [8, 9, 10, 11, 12] (by decide +kernel) (by decide +kernel)
set_option maxRecDepth 20000 in
theorem gX3_put_X7_modulo_n40 : GoodIn wsX3_put (wsX7_modulo) := ggX3_put_X7_modulo
theorem dX3_put_0 : decode cX3_put 0 = .ok (.iload_n 1, 1) := by decide +kernel
theorem dX3_put_1 : decode cX3_put 1 = .ok (.ifCond .lt 39, 3) := by decide +kernel
theorem dX3_put_4 : decode cX3_put 4 = .ok (.iload_n 1, 1) := by decide +kernel
theorem dX3_put_5 : decode cX3_put 5 = .ok (.aload_n 0, 1) := by decide +kernel
theorem dX3_put_6 : decode cX3_put 6 = .ok (.getfield 18, 3) := by decide +kernel
theorem dX3_put_9 : decode cX3_put 9 = .ok (.if_icmp .ge 31, 3) := by decide +kernel
theorem dX3_put_12 : decode cX3_put 12 = .ok (.iload_n 2, 1) := by decide +kernel
theorem dX3_put_13 : decode cX3_put 13 = .ok (.ifCond .lt 27, 3) := by decide +kernel
theorem dX3_put_16 : decode cX3_put 16 = .ok (.iload_n 2, 1) := by decide +kernel
theorem dX3_put_17 : decode cX3_put 17 = .ok (.aload_n 0, 1) := by decide +kernel
theorem dX3_put_18 : decode cX3_put 18 = .ok (.getfield 21, 3) := by decide +kernel
theorem dX3_put_21 : decode cX3_put 21 = .ok (.if_icmp .ge 19, 3) := by decide +kernel
theorem dX3_put_24 : decode cX3_put 24 = .ok (.iload_n 3, 1) := by decide +kernel
theorem dX3_put_25 : decode cX3_put 25 = .ok (.ifCond .lt 15, 3) := by decide +kernel
theorem dX3_put_28 : decode cX3_put 28 = .ok (.iload_n 3, 1) := by decide +kernel
theorem dX3_put_29 : decode cX3_put 29 = .ok (.aload_n 0, 1) := by decide +kernel
theorem dX3_put_30 : decode cX3_put 30 = .ok (.getfield 24, 3) := by decide +kernel
theorem dX3_put_33 : decode cX3_put 33 = .ok (.if_icmp .ge 7, 3) := by decide +kernel
theorem dX3_put_36 : decode cX3_put 36 = .ok (.iconst 1, 1) := by decide +kernel
theorem dX3_put_37 : decode cX3_put 37 = .ok (.goto 4, 3) := by decide +kernel
theorem dX3_put_40 : decode cX3_put 40 = .ok (.iconst 0, 1) := by decide +kernel
theorem dX3_put_41 : decode cX3_put 41 = .ok (.istore 5, 2) := by decide +kernel
theorem dX3_put_43 : decode cX3_put 43 = .ok (.iload 5, 2) := by decide +kernel
theorem dX3_put_45 : decode cX3_put 45 = .ok (.ifCond .eq 32, 3) := by decide +kernel
theorem dX3_put_48 : decode cX3_put 48 = .ok (.aload_n 0, 1) := by decide +kernel
theorem dX3_put_49 : decode cX3_put 49 = .ok (.getfield 33, 3) := by decide +kernel
theorem dX3_put_52 : decode cX3_put 52 = .ok (.iload_n 1, 1) := by decide +kernel
theorem dX3_put_53 : decode cX3_put 53 = .ok (.aload_n 0, 1) := by decide +kernel
theorem dX3_put_54 : decode cX3_put 54 = .ok (.getfield 21, 3) := by decide +kernel
theorem dX3_put_57 : decode cX3_put 57 = .ok (.imul, 1) := by decide +kernel
theorem dX3_put_58 : decode cX3_put 58 = .ok (.iload_n 2, 1) := by decide +kernel
theorem dX3_put_59 : decode cX3_put 59 = .ok (.iadd, 1) := by decide +kernel
theorem dX3_put_60 : decode cX3_put 60 = .ok (.aload_n 0, 1) := by decide +kernel
theorem dX3_put_61 : decode cX3_put 61 = .ok (.getfield 24, 3) := by decide +kernel
theorem dX3_put_64 : decode cX3_put 64 = .ok (.imul, 1) := by decide +kernel
theorem dX3_put_65 : decode cX3_put 65 = .ok (.iload_n 3, 1) := by decide +kernel
theorem dX3_put_66 : decode cX3_put 66 = .ok (.iadd, 1) := by decide +kernel
theorem dX3_put_67 : decode cX3_put 67 = .ok (.iload 4, 2) := by decide +kernel
theorem dX3_put_69 : decode cX3_put 69 = .ok (.aload_n 0, 1) := by decide +kernel
theorem dX3_put_70 : decode cX3_put 70 = .ok (.getfield 9, 3) := by decide +kernel
theorem dX3_put_73 : decode cX3_put 73 = .ok (.invokestatic 40, 3) := by decide +kernel
theorem dX3_put_76 : decode cX3_put 76 = .ok (.iastore, 1) := by decide +kernel
theorem dX3_put_77 : decode cX3_put 77 = .ok (.return_, 1) := by decide +kernel
theorem dX3_reset_0 : decode cX3_reset 0 = .ok (.aload_n 0, 1) := by decide +kernel
theorem dX3_reset_1 : decode cX3_reset 1 = .ok (.iload_n 1, 1) := by decide +kernel
theorem dX3_reset_2 : decode cX3_reset 2 = .ok (.putfield 9, 3) := by decide +kernel
theorem dX3_reset_5 : decode cX3_reset 5 = .ok (.aload_n 0, 1) := by decide +kernel
theorem dX3_reset_6 : decode cX3_reset 6 = .ok (.iload_n 2, 1) := by decide +kernel
theorem dX3_reset_7 : decode cX3_reset 7 = .ok (.putfield 15, 3) := by decide +kernel
theorem dX3_reset_10 : decode cX3_reset 10 = .ok (.aload_n 0, 1) := by decide +kernel
theorem dX3_reset_11 : decode cX3_reset 11 = .ok (.iconst 0, 1) := by decide +kernel
theorem dX3_reset_12 : decode cX3_reset 12 = .ok (.putfield 37, 3) := by decide +kernel
theorem dX3_reset_15 : decode cX3_reset 15 = .ok (.return_, 1) := by decide +kernel
set_option maxRecDepth 20000 in
theorem ggX3_append_X3_scale : GoodIn wsX3_append wsX3_scale := goodIn_r _ [7, 8, 9, 10, 11, 12, 6, 13, 2, 14, 15, 16, 17, 18, 19, 20, 21, 22, 23, 24, 25, 26, 27, 28, 29, 30, 31, 32, 33] (by decide +kernel) (by decide +kernel)
set_option maxRecDepth 20000 in
theorem gX3_append_X3_scale : GoodIn wsX3_append (wsV RX3 43 RX3 yX3_scale wsX3_scale) := goodIn_app (goodIn_of _ (by decide +kernel)) ggX3_append_X3_scale
theorem dX3_append_0 : decode cX3_append 0 = .ok (.aload_n 0, 1) := by decide +kernel
theorem dX3_append_1 : decode cX3_append 1 = .ok (.getfield 37, 3) := by decide +kernel
theorem dX3_append_4 : decode cX3_append 4 = .ok (.aload_n 0, 1) := by decide +kernel
theorem dX3_append_5 : decode cX3_append 5 = .ok (.getfield 18, 3) := by decide +kernel
theorem dX3_append_8 : decode cX3_append 8 = .ok (.if_icmp .lt 6, 3) := by decide +kernel
theorem dX3_append_11 : decode cX3_append 11 = .ok (.bipush (-4), 2) := by decide +kernel
theorem dX3_append_13 : decode cX3_append 13 = .ok (.ireturn, 1) := by decide +kernel
theorem dX3_append_14 : decode cX3_append 14 = .ok (.aload_n 0, 1) := by decide +kernel
theorem dX3_append_15 : decode cX3_append 15 = .ok (.dup, 1) := by decide +kernel
theorem dX3_append_16 : decode cX3_append 16 = .ok (.getfield 37, 3) := by decide +kernel
theorem dX3_append_19 : decode cX3_append 19 = .ok (.iconst 1, 1) := by decide +kernel
theorem dX3_append_20 : decode cX3_append 20 = .ok (.iadd, 1) := by decide +kernel
theorem dX3_append_21 : decode cX3_append 21 = .ok (.putfield 37, 3) := by decide +kernel
theorem dX3_append_24 : decode cX3_append 24 = .ok (.aload_n 0, 1) := by decide +kernel
theorem dX3_append_25 : decode cX3_append 25 = .ok (.aload_n 0, 1) := by decide +kernel
theorem dX3_append_26 : decode cX3_append 26 = .ok (.getfield 37, 3) := by decide +kernel
theorem dX3_append_29 : decode cX3_append 29 = .ok (.iconst 1, 1) := by decide +kernel
theorem dX3_append_30 : decode cX3_append 30 = .ok (.isub, 1) := by decide +kernel
theorem dX3_append_31 : decode cX3_append 31 = .ok (.iconst 0, 1) := by decide +kernel
theorem dX3_append_32 : decode cX3_append 32 = .ok (.invokevirtual 43, 3) := by decide +kernel
theorem dX3_append_35 : decode cX3_append 35 = .ok (.aload_n 0, 1) := by decide +kernel
theorem dX3_append_36 : decode cX3_append 36 = .ok (.getfield 37, 3) := by decide +kernel
theorem dX3_append_39 : decode cX3_append 39 = .ok (.iconst 1, 1) := by decide +kernel
theorem dX3_append_40 : decode cX3_append 40 = .ok (.isub, 1) := by decide +kernel
theorem dX3_append_41 : decode cX3_append 41 = .ok (.ireturn, 1) := by decide +kernel
set_option maxRecDepth 20000 in
theorem ggX3_remove_X3_hasRow : GoodIn wsX3_remove wsX3_hasRow := goodIn_r _ [13, 4, 14, 15, 16, 17, 18, 19, 20] (by decide +kernel) (by decide +kernel)
set_option maxRecDepth 20000 in
theorem gX3_remove_X3_hasRow : GoodIn wsX3_remove (wsV RX3 47 RX3 yX3_hasRow wsX3_hasRow) := goodIn_app (goodIn_of _ (by decide +kernel)) ggX3_remove_X3_hasRow
theorem dX3_remove_0 : decode cX3_remove 0 = .ok (.aload_n 0, 1) := by decide +kernel
theorem dX3_remove_1 : decode cX3_remove 1 = .ok (.iload_n 1, 1) := by decide +kernel
theorem dX3_remove_2 : decode cX3_remove 2 = .ok (.invokevirtual 47, 3) := by decide +kernel
theorem dX3_remove_5 : decode cX3_remove 5 = .ok (.ifCond .eq 52, 3) := by decide +kernel
theorem dX3_remove_8 : decode cX3_remove 8 = .ok (.aload_n 0, 1) := by decide +kernel
theorem dX3_remove_9 : decode cX3_remove 9 = .ok (.getfield 21, 3) := by decide +kernel
theorem dX3_remove_12 : decode cX3_remove 12 = .ok (.aload_n 0, 1) := by decide +kernel
theorem dX3_remove_13 : decode cX3_remove 13 = .ok (.getfield 24, 3) := by decide +kernel
theorem dX3_remove_16 : decode cX3_remove 16 = .ok (.imul, 1) := by decide +kernel
theorem dX3_remove_17 : decode cX3_remove 17 = .ok (.istore_n 2, 1) := by decide +kernel
theorem dX3_remove_18 : decode cX3_remove 18 = .ok (.aload_n 0, 1) := by decide +kernel
theorem dX3_remove_19 : decode cX3_remove 19 = .ok (.getfield 33, 3) := by decide +kernel
theorem dX3_remove_22 : decode cX3_remove 22 = .ok (.iload_n 1, 1) := by decide +kernel
theorem dX3_remove_23 : decode cX3_remove 23 = .ok (.iconst 1, 1) := by decide +kernel
theorem dX3_remove_24 : decode cX3_remove 24 = .ok (.iadd, 1) := by decide +kernel
theorem dX3_remove_25 : decode cX3_remove 25 = .ok (.iload_n 2, 1) := by decide +kernel
theorem dX3_remove_26 : decode cX3_remove 26 = .ok (.imul, 1) := by decide +kernel
theorem dX3_remove_27 : decode cX3_remove 27 = .ok (.aload_n 0, 1) := by decide +kernel
theorem dX3_remove_28 : decode cX3_remove 28 = .ok (.getfield 33, 3) := by decide +kernel
theorem dX3_remove_31 : decode cX3_remove 31 = .ok (.iload_n 1, 1) := by decide +kernel
theorem dX3_remove_32 : decode cX3_remove 32 = .ok (.iload_n 2, 1) := by decide +kernel
theorem dX3_remove_33 : decode cX3_remove 33 = .ok (.imul, 1) := by decide +kernel
theorem dX3_remove_34 : decode cX3_remove 34 = .ok (.aload_n 0, 1) := by decide +kernel
theorem dX3_remove_35 : decode cX3_remove 35 = .ok (.getfield 37, 3) := by decide +kernel
theorem dX3_remove_38 : decode cX3_remove 38 = .ok (.iconst 1, 1) := by decide +kernel
theorem dX3_remove_39 : decode cX3_remove 39 = .ok (.isub, 1) := by decide +kernel
theorem dX3_remove_40 : decode cX3_remove 40 = .ok (.iload_n 1, 1) := by decide +kernel
theorem dX3_remove_41 : decode cX3_remove 41 = .ok (.isub, 1) := by decide +kernel
theorem dX3_remove_42 : decode cX3_remove 42 = .ok (.iload_n 2, 1) := by decide +kernel
theorem dX3_remove_43 : decode cX3_remove 43 = .ok (.imul, 1) := by decide +kernel
theorem dX3_remove_44 : decode cX3_remove 44 = .ok (.invokestatic 51, 3) := by decide +kernel
theorem dX3_remove_47 : decode cX3_remove 47 = .ok (.aload_n 0, 1) := by decide +kernel
theorem dX3_remove_48 : decode cX3_remove 48 = .ok (.dup, 1) := by decide +kernel
theorem dX3_remove_49 : decode cX3_remove 49 = .ok (.getfield 37, 3) := by decide +kernel
theorem dX3_remove_52 : decode cX3_remove 52 = .ok (.iconst 1, 1) := by decide +kernel
theorem dX3_remove_53 : decode cX3_remove 53 = .ok (.isub, 1) := by decide +kernel
theorem dX3_remove_54 : decode cX3_remove 54 = .ok (.putfield 37, 3) := by decide +kernel
theorem dX3_remove_57 : decode cX3_remove 57 = .ok (.return_, 1) := by decide +kernel
theorem dX3_copyFrom_0 : decode cX3_copyFrom 0 = .ok (.aload_n 0, 1) := by decide +kernel
theorem dX3_copyFrom_1 : decode cX3_copyFrom 1 = .ok (.aload_n 1, 1) := by decide +kernel
theorem dX3_copyFrom_2 : decode cX3_copyFrom 2 = .ok (.getfield 9, 3) := by decide +kernel
theorem dX3_copyFrom_5 : decode cX3_copyFrom 5 = .ok (.putfield 9, 3) := by decide +kernel
theorem dX3_copyFrom_8 : decode cX3_copyFrom 8 = .ok (.aload_n 0, 1) := by decide +kernel
theorem dX3_copyFrom_9 : decode cX3_copyFrom 9 = .ok (.aload_n 1, 1) := by decide +kernel
theorem dX3_copyFrom_10 : decode cX3_copyFrom 10 = .ok (.getfield 15, 3) := by decide +kernel
theorem dX3_copyFrom_13 : decode cX3_copyFrom 13 = .ok (.putfield 15, 3) := by decide +kernel
theorem dX3_copyFrom_16 : decode cX3_copyFrom 16 = .ok (.aload_n 0, 1) := by decide +kernel
theorem dX3_copyFrom_17 : decode cX3_copyFrom 17 = .ok (.aload_n 1, 1) := by decide +kernel
theorem dX3_copyFrom_18 : decode cX3_copyFrom 18 = .ok (.getfield 37, 3) := by decide +kernel
theorem dX3_copyFrom_21 : decode cX3_copyFrom 21 = .ok (.putfield 37, 3) := by decide +kernel
theorem dX3_copyFrom_24 : decode cX3_copyFrom 24 = .ok (.aload_n 1, 1) := by decide +kernel
theorem dX3_copyFrom_25 : decode cX3_copyFrom 25 = .ok (.getfield 33, 3) := by decide +kernel
theorem dX3_copyFrom_28 : decode cX3_copyFrom 28 = .ok (.iconst 0, 1) := by decide +kernel
theorem dX3_copyFrom_29 : decode cX3_copyFrom 29 = .ok (.aload_n 0, 1) := by decide +kernel
theorem dX3_copyFrom_30 : decode cX3_copyFrom 30 = .ok (.getfield 33, 3) := by decide +kernel
theorem dX3_copyFrom_33 : decode cX3_copyFrom 33 = .ok (.iconst 0, 1) := by decide +kernel
theorem dX3_copyFrom_34 : decode cX3_copyFrom 34 = .ok (.aload_n 0, 1) := by decide +kernel
theorem dX3_copyFrom_35 : decode cX3_copyFrom 35 = .ok (.getfield 33, 3) := by decide +kernel
theorem dX3_copyFrom_38 : decode cX3_copyFrom 38 = .ok (.arraylength, 1) := by decide +kernel
theorem dX3_copyFrom_39 : decode cX3_copyFrom 39 = .ok (.aload_n 1, 1) := by decide +kernel
theorem dX3_copyFrom_40 : decode cX3_copyFrom 40 = .ok (.getfield 33, 3) := by decide +kernel
theorem dX3_copyFrom_43 : decode cX3_copyFrom 43 = .ok (.arraylength, 1) := by decide +kernel
theorem dX3_copyFrom_44 : decode cX3_copyFrom 44 = .ok (.invokestatic 57, 3) := by decide +kernel
theorem dX3_copyFrom_47 : decode cX3_copyFrom 47 = .ok (.invokestatic 51, 3) := by decide +kernel
theorem dX3_copyFrom_50 : decode cX3_copyFrom 50 = .ok (.return_, 1) := by decide +kernel
set_option maxRecDepth 20000 in
theorem ggX3_swap_X3_at : GoodIn wsX3_swap wsX3_at := goodIn_r _ [7, 8, 1, 2, 9, 22, 23, 24, 25, 26, 27, 28] (by decide +kernel) (by decide +kernel)
set_option maxRecDepth 20000 in
theorem gX3_swap_X3_at : GoodIn wsX3_swap (wsV RX3 60 RX3 yX3_at wsX3_at) := goodIn_app (goodIn_of _ (by decide +kernel)) ggX3_swap_X3_at
set_option maxRecDepth 20000 in
theorem ggX3_swap_X3_put : GoodIn wsX3_swap wsX3_put := goodIn_r _ [13, 8, 1, 2, 9, 14, 15, 16, 17, 18, 19, 20, 21, 22, 23, 24, 25, 26, 27, 28] (by decide +kernel) (by decide +kernel)
set_option maxRecDepth 20000 in
theorem gX3_swap_X3_put : GoodIn wsX3_swap (wsV RX3 64 RX3 yX3_put wsX3_put) := goodIn_app (goodIn_of _ (by decide +kernel)) ggX3_swap_X3_put
theorem dX3_swap_0 : decode cX3_swap 0 = .ok (.iconst 0, 1) := by decide +kernel
theorem dX3_swap_1 : decode cX3_swap 1 = .ok (.istore_n 3, 1) := by decide +kernel
theorem dX3_swap_2 : decode cX3_swap 2 = .ok (.iload_n 3, 1) := by decide +kernel
theorem dX3_swap_3 : decode cX3_swap 3 = .ok (.aload_n 0, 1) := by decide +kernel
theorem dX3_swap_4 : decode cX3_swap 4 = .ok (.getfield 21, 3) := by decide +kernel
theorem dX3_swap_7 : decode cX3_swap 7 = .ok (.if_icmp .ge 63, 3) := by decide +kernel
theorem dX3_swap_10 : decode cX3_swap 10 = .ok (.iconst 0, 1) := by decide +kernel
theorem dX3_swap_11 : decode cX3_swap 11 = .ok (.istore 4, 2) := by decide +kernel
theorem dX3_swap_13 : decode cX3_swap 13 = .ok (.iload 4, 2) := by decide +kernel
theorem dX3_swap_15 : decode cX3_swap 15 = .ok (.aload_n 0, 1) := by decide +kernel
theorem dX3_swap_16 : decode cX3_swap 16 = .ok (.getfield 24, 3) := by decide +kernel
theorem dX3_swap_19 : decode cX3_swap 19 = .ok (.if_icmp .ge 45, 3) := by decide +kernel
theorem dX3_swap_22 : decode cX3_swap 22 = .ok (.aload_n 0, 1) := by decide +kernel
theorem dX3_swap_23 : decode cX3_swap 23 = .ok (.iload_n 1, 1) := by decide +kernel
theorem dX3_swap_24 : decode cX3_swap 24 = .ok (.iload_n 3, 1) := by decide +kernel
theorem dX3_swap_25 : decode cX3_swap 25 = .ok (.iload 4, 2) := by decide +kernel
theorem dX3_swap_27 : decode cX3_swap 27 = .ok (.invokevirtual 60, 3) := by decide +kernel
theorem dX3_swap_30 : decode cX3_swap 30 = .ok (.istore 5, 2) := by decide +kernel
theorem dX3_swap_32 : decode cX3_swap 32 = .ok (.aload_n 0, 1) := by decide +kernel
theorem dX3_swap_33 : decode cX3_swap 33 = .ok (.iload_n 1, 1) := by decide +kernel
theorem dX3_swap_34 : decode cX3_swap 34 = .ok (.iload_n 3, 1) := by decide +kernel
theorem dX3_swap_35 : decode cX3_swap 35 = .ok (.iload 4, 2) := by decide +kernel
theorem dX3_swap_37 : decode cX3_swap 37 = .ok (.aload_n 0, 1) := by decide +kernel
theorem dX3_swap_38 : decode cX3_swap 38 = .ok (.iload_n 2, 1) := by decide +kernel
theorem dX3_swap_39 : decode cX3_swap 39 = .ok (.iload_n 3, 1) := by decide +kernel
theorem dX3_swap_40 : decode cX3_swap 40 = .ok (.iload 4, 2) := by decide +kernel
theorem dX3_swap_42 : decode cX3_swap 42 = .ok (.invokevirtual 60, 3) := by decide +kernel
theorem dX3_swap_45 : decode cX3_swap 45 = .ok (.invokevirtual 64, 3) := by decide +kernel
theorem dX3_swap_48 : decode cX3_swap 48 = .ok (.aload_n 0, 1) := by decide +kernel
theorem dX3_swap_49 : decode cX3_swap 49 = .ok (.iload_n 2, 1) := by decide +kernel
theorem dX3_swap_50 : decode cX3_swap 50 = .ok (.iload_n 3, 1) := by decide +kernel
theorem dX3_swap_51 : decode cX3_swap 51 = .ok (.iload 4, 2) := by decide +kernel
theorem dX3_swap_53 : decode cX3_swap 53 = .ok (.iload 5, 2) := by decide +kernel
theorem dX3_swap_55 : decode cX3_swap 55 = .ok (.invokevirtual 64, 3) := by decide +kernel
theorem dX3_swap_58 : decode cX3_swap 58 = .ok (.iinc 4 1, 3) := by decide +kernel
theorem dX3_swap_61 : decode cX3_swap 61 = .ok (.goto (-48), 3) := by decide +kernel
theorem dX3_swap_64 : decode cX3_swap 64 = .ok (.iinc 3 1, 3) := by decide +kernel
theorem dX3_swap_67 : decode cX3_swap 67 = .ok (.goto (-65), 3) := by decide +kernel
theorem dX3_swap_70 : decode cX3_swap 70 = .ok (.return_, 1) := by decide +kernel
set_option maxRecDepth 20000 in
theorem ggX3_scale_X3_at : GoodIn wsX3_scale wsX3_at := goodIn_r _ [7, 8, 1, 2, 9, 22, 23, 24, 25, 26, 27, 28] (by decide +kernel) (by decide +kernel)
set_option maxRecDepth 20000 in
theorem gX3_scale_X3_at : GoodIn wsX3_scale (wsV RX3 60 RX3 yX3_at wsX3_at) := goodIn_app (goodIn_of _ (by decide +kernel)) ggX3_scale_X3_at
set_option maxRecDepth 20000 in
theorem ggX3_scale_X3_put : GoodIn wsX3_scale wsX3_put := goodIn_r _ [13, 8, 1, 2, 9, 14, 15, 16, 17, 18, 19, 20, 21, 22, 23, 24, 25, 26, 27, 28] (by decide +kernel) (by decide +kernel)
set_option maxRecDepth 20000 in
theorem gX3_scale_X3_put : GoodIn wsX3_scale (wsV RX3 64 RX3 yX3_put wsX3_put) := goodIn_app (goodIn_of _ (by decide +kernel)) ggX3_scale_X3_put
theorem dX3_scale_0 : decode cX3_scale 0 = .ok (.iconst 0, 1) := by decide +kernel
theorem dX3_scale_1 : decode cX3_scale 1 = .ok (.istore_n 3, 1) := by decide +kernel
theorem dX3_scale_2 : decode cX3_scale 2 = .ok (.iload_n 3, 1) := by decide +kernel
theorem dX3_scale_3 : decode cX3_scale 3 = .ok (.aload_n 0, 1) := by decide +kernel
theorem dX3_scale_4 : decode cX3_scale 4 = .ok (.getfield 21, 3) := by decide +kernel
theorem dX3_scale_7 : decode cX3_scale 7 = .ok (.if_icmp .ge 45, 3) := by decide +kernel
theorem dX3_scale_10 : decode cX3_scale 10 = .ok (.iconst 0, 1) := by decide +kernel
theorem dX3_scale_11 : decode cX3_scale 11 = .ok (.istore 4, 2) := by decide +kernel
theorem dX3_scale_13 : decode cX3_scale 13 = .ok (.iload 4, 2) := by decide +kernel
theorem dX3_scale_15 : decode cX3_scale 15 = .ok (.aload_n 0, 1) := by decide +kernel
theorem dX3_scale_16 : decode cX3_scale 16 = .ok (.getfield 24, 3) := by decide +kernel
theorem dX3_scale_19 : decode cX3_scale 19 = .ok (.if_icmp .ge 27, 3) := by decide +kernel
theorem dX3_scale_22 : decode cX3_scale 22 = .ok (.aload_n 0, 1) := by decide +kernel
theorem dX3_scale_23 : decode cX3_scale 23 = .ok (.iload_n 1, 1) := by decide +kernel
theorem dX3_scale_24 : decode cX3_scale 24 = .ok (.iload_n 3, 1) := by decide +kernel
theorem dX3_scale_25 : decode cX3_scale 25 = .ok (.iload 4, 2) := by decide +kernel
theorem dX3_scale_27 : decode cX3_scale 27 = .ok (.iload_n 2, 1) := by decide +kernel
theorem dX3_scale_28 : decode cX3_scale 28 = .ok (.aload_n 0, 1) := by decide +kernel
theorem dX3_scale_29 : decode cX3_scale 29 = .ok (.iload_n 1, 1) := by decide +kernel
theorem dX3_scale_30 : decode cX3_scale 30 = .ok (.iload_n 3, 1) := by decide +kernel
theorem dX3_scale_31 : decode cX3_scale 31 = .ok (.iload 4, 2) := by decide +kernel
theorem dX3_scale_33 : decode cX3_scale 33 = .ok (.invokevirtual 60, 3) := by decide +kernel
theorem dX3_scale_36 : decode cX3_scale 36 = .ok (.imul, 1) := by decide +kernel
theorem dX3_scale_37 : decode cX3_scale 37 = .ok (.invokevirtual 64, 3) := by decide +kernel
theorem dX3_scale_40 : decode cX3_scale 40 = .ok (.iinc 4 1, 3) := by decide +kernel
theorem dX3_scale_43 : decode cX3_scale 43 = .ok (.goto (-30), 3) := by decide +kernel
theorem dX3_scale_46 : decode cX3_scale 46 = .ok (.iinc 3 1, 3) := by decide +kernel
theorem dX3_scale_49 : decode cX3_scale 49 = .ok (.goto (-47), 3) := by decide +kernel
theorem dX3_scale_52 : decode cX3_scale 52 = .ok (.return_, 1) := by decide +kernel
set_option maxRecDepth 20000 in
theorem ggX3_addTimes_X3_at : GoodIn wsX3_addTimes wsX3_at := goodIn_r _ [7, 8, 1, 2, 9, 22, 23, 24, 25, 26, 27, 28] (by decide +kernel) (by decide +kernel)
set_option maxRecDepth 20000 in
theorem gX3_addTimes_X3_at : GoodIn wsX3_addTimes (wsV RX3 60 RX3 yX3_at wsX3_at) := goodIn_app (goodIn_of _ (by decide +kernel)) ggX3_addTimes_X3_at
set_option maxRecDepth 20000 in
theorem ggX3_addTimes_X3_put : GoodIn wsX3_addTimes wsX3_put := goodIn_r _ [13, 8, 1, 2, 9, 14, 15, 16, 17, 18, 19, 20, 21, 22, 23, 24, 25, 26, 27, 28] (by decide +kernel) (by decide +kernel)
set_option maxRecDepth 20000 in
theorem gX3_addTimes_X3_put : GoodIn wsX3_addTimes (wsV RX3 64 RX3 yX3_put wsX3_put) := goodIn_app (goodIn_of _ (by decide +kernel)) ggX3_addTimes_X3_put
theorem dX3_addTimes_0 : decode cX3_addTimes 0 = .ok (.iconst 0, 1) := by decide +kernel
theorem dX3_addTimes_1 : decode cX3_addTimes 1 = .ok (.istore 6, 2) := by decide +kernel
theorem dX3_addTimes_3 : decode cX3_addTimes 3 = .ok (.iload 6, 2) := by decide +kernel
theorem dX3_addTimes_5 : decode cX3_addTimes 5 = .ok (.aload_n 0, 1) := by decide +kernel
theorem dX3_addTimes_6 : decode cX3_addTimes 6 = .ok (.getfield 21, 3) := by decide +kernel
theorem dX3_addTimes_9 : decode cX3_addTimes 9 = .ok (.if_icmp .ge 73, 3) := by decide +kernel
theorem dX3_addTimes_12 : decode cX3_addTimes 12 = .ok (.iconst 0, 1) := by decide +kernel
theorem dX3_addTimes_13 : decode cX3_addTimes 13 = .ok (.istore 7, 2) := by decide +kernel
theorem dX3_addTimes_15 : decode cX3_addTimes 15 = .ok (.iload 7, 2) := by decide +kernel
theorem dX3_addTimes_17 : decode cX3_addTimes 17 = .ok (.aload_n 2, 1) := by decide +kernel
theorem dX3_addTimes_18 : decode cX3_addTimes 18 = .ok (.getfield 24, 3) := by decide +kernel
theorem dX3_addTimes_21 : decode cX3_addTimes 21 = .ok (.if_icmp .ge 55, 3) := by decide +kernel
theorem dX3_addTimes_24 : decode cX3_addTimes 24 = .ok (.iload 4, 2) := by decide +kernel
theorem dX3_addTimes_26 : decode cX3_addTimes 26 = .ok (.aload_n 2, 1) := by decide +kernel
theorem dX3_addTimes_27 : decode cX3_addTimes 27 = .ok (.iload_n 3, 1) := by decide +kernel
theorem dX3_addTimes_28 : decode cX3_addTimes 28 = .ok (.iload 6, 2) := by decide +kernel
theorem dX3_addTimes_30 : decode cX3_addTimes 30 = .ok (.iload 7, 2) := by decide +kernel
theorem dX3_addTimes_32 : decode cX3_addTimes 32 = .ok (.invokevirtual 60, 3) := by decide +kernel
theorem dX3_addTimes_35 : decode cX3_addTimes 35 = .ok (.imul, 1) := by decide +kernel
theorem dX3_addTimes_36 : decode cX3_addTimes 36 = .ok (.istore 8, 2) := by decide +kernel
theorem dX3_addTimes_38 : decode cX3_addTimes 38 = .ok (.iload 8, 2) := by decide +kernel
theorem dX3_addTimes_40 : decode cX3_addTimes 40 = .ok (.ifCond .eq 30, 3) := by decide +kernel
theorem dX3_addTimes_43 : decode cX3_addTimes 43 = .ok (.aload_n 0, 1) := by decide +kernel
theorem dX3_addTimes_44 : decode cX3_addTimes 44 = .ok (.iload_n 1, 1) := by decide +kernel
theorem dX3_addTimes_45 : decode cX3_addTimes 45 = .ok (.iload 6, 2) := by decide +kernel
theorem dX3_addTimes_47 : decode cX3_addTimes 47 = .ok (.iload 7, 2) := by decide +kernel
theorem dX3_addTimes_49 : decode cX3_addTimes 49 = .ok (.iload 5, 2) := by decide +kernel
theorem dX3_addTimes_51 : decode cX3_addTimes 51 = .ok (.iadd, 1) := by decide +kernel
theorem dX3_addTimes_52 : decode cX3_addTimes 52 = .ok (.aload_n 0, 1) := by decide +kernel
theorem dX3_addTimes_53 : decode cX3_addTimes 53 = .ok (.iload_n 1, 1) := by decide +kernel
theorem dX3_addTimes_54 : decode cX3_addTimes 54 = .ok (.iload 6, 2) := by decide +kernel
theorem dX3_addTimes_56 : decode cX3_addTimes 56 = .ok (.iload 7, 2) := by decide +kernel
theorem dX3_addTimes_58 : decode cX3_addTimes 58 = .ok (.iload 5, 2) := by decide +kernel
theorem dX3_addTimes_60 : decode cX3_addTimes 60 = .ok (.iadd, 1) := by decide +kernel
theorem dX3_addTimes_61 : decode cX3_addTimes 61 = .ok (.invokevirtual 60, 3) := by decide +kernel
theorem dX3_addTimes_64 : decode cX3_addTimes 64 = .ok (.iload 8, 2) := by decide +kernel
theorem dX3_addTimes_66 : decode cX3_addTimes 66 = .ok (.iadd, 1) := by decide +kernel
theorem dX3_addTimes_67 : decode cX3_addTimes 67 = .ok (.invokevirtual 64, 3) := by decide +kernel
theorem dX3_addTimes_70 : decode cX3_addTimes 70 = .ok (.iinc 7 1, 3) := by decide +kernel
theorem dX3_addTimes_73 : decode cX3_addTimes 73 = .ok (.goto (-58), 3) := by decide +kernel
theorem dX3_addTimes_76 : decode cX3_addTimes 76 = .ok (.iinc 6 1, 3) := by decide +kernel
theorem dX3_addTimes_79 : decode cX3_addTimes 79 = .ok (.goto (-76), 3) := by decide +kernel
theorem dX3_addTimes_82 : decode cX3_addTimes 82 = .ok (.return_, 1) := by decide +kernel
set_option maxRecDepth 20000 in
theorem ggX3_placeOf_X3_at : GoodIn wsX3_placeOf wsX3_at := goodIn_r _ [6, 7, 8, 9, 10, 11, 12, 13, 14, 15, 16, 17] (by decide +kernel) (by decide +kernel)
set_option maxRecDepth 20000 in
theorem gX3_placeOf_X3_at : GoodIn wsX3_placeOf (wsV RX3 60 RX3 yX3_at wsX3_at) := goodIn_app (goodIn_of _ (by decide +kernel)) ggX3_placeOf_X3_at
theorem dX3_placeOf_0 : decode cX3_placeOf 0 = .ok (.bipush 7, 2) := by decide +kernel
theorem dX3_placeOf_2 : decode cX3_placeOf 2 = .ok (.istore_n 2, 1) := by decide +kernel
theorem dX3_placeOf_3 : decode cX3_placeOf 3 = .ok (.iload_n 2, 1) := by decide +kernel
theorem dX3_placeOf_4 : decode cX3_placeOf 4 = .ok (.ifCond .lt 42, 3) := by decide +kernel
theorem dX3_placeOf_7 : decode cX3_placeOf 7 = .ok (.aload_n 0, 1) := by decide +kernel
theorem dX3_placeOf_8 : decode cX3_placeOf 8 = .ok (.getfield 15, 3) := by decide +kernel
theorem dX3_placeOf_11 : decode cX3_placeOf 11 = .ok (.iconst 1, 1) := by decide +kernel
theorem dX3_placeOf_12 : decode cX3_placeOf 12 = .ok (.isub, 1) := by decide +kernel
theorem dX3_placeOf_13 : decode cX3_placeOf 13 = .ok (.istore_n 3, 1) := by decide +kernel
theorem dX3_placeOf_14 : decode cX3_placeOf 14 = .ok (.iload_n 3, 1) := by decide +kernel
theorem dX3_placeOf_15 : decode cX3_placeOf 15 = .ok (.ifCond .lt 25, 3) := by decide +kernel
theorem dX3_placeOf_18 : decode cX3_placeOf 18 = .ok (.aload_n 0, 1) := by decide +kernel
theorem dX3_placeOf_19 : decode cX3_placeOf 19 = .ok (.iload_n 1, 1) := by decide +kernel
theorem dX3_placeOf_20 : decode cX3_placeOf 20 = .ok (.iload_n 3, 1) := by decide +kernel
theorem dX3_placeOf_21 : decode cX3_placeOf 21 = .ok (.iload_n 2, 1) := by decide +kernel
theorem dX3_placeOf_22 : decode cX3_placeOf 22 = .ok (.invokevirtual 60, 3) := by decide +kernel
theorem dX3_placeOf_25 : decode cX3_placeOf 25 = .ok (.ifCond .eq 9, 3) := by decide +kernel
theorem dX3_placeOf_28 : decode cX3_placeOf 28 = .ok (.iload_n 2, 1) := by decide +kernel
theorem dX3_placeOf_29 : decode cX3_placeOf 29 = .ok (.iconst 3, 1) := by decide +kernel
theorem dX3_placeOf_30 : decode cX3_placeOf 30 = .ok (.imul, 1) := by decide +kernel
theorem dX3_placeOf_31 : decode cX3_placeOf 31 = .ok (.iload_n 3, 1) := by decide +kernel
theorem dX3_placeOf_32 : decode cX3_placeOf 32 = .ok (.iadd, 1) := by decide +kernel
theorem dX3_placeOf_33 : decode cX3_placeOf 33 = .ok (.ireturn, 1) := by decide +kernel
theorem dX3_placeOf_34 : decode cX3_placeOf 34 = .ok (.iinc 3 (-1), 3) := by decide +kernel
theorem dX3_placeOf_37 : decode cX3_placeOf 37 = .ok (.goto (-23), 3) := by decide +kernel
theorem dX3_placeOf_40 : decode cX3_placeOf 40 = .ok (.iinc 2 (-1), 3) := by decide +kernel
theorem dX3_placeOf_43 : decode cX3_placeOf 43 = .ok (.goto (-40), 3) := by decide +kernel
theorem dX3_placeOf_46 : decode cX3_placeOf 46 = .ok (.iconst (-1), 1) := by decide +kernel
theorem dX3_placeOf_47 : decode cX3_placeOf 47 = .ok (.ireturn, 1) := by decide +kernel
set_option maxRecDepth 20000 in
theorem ggX3_degreeOf_X3_placeOf : GoodIn wsX3_degreeOf wsX3_placeOf := goodIn_r _ [5, 6, 7, 8, 9, 4, 10, 11, 12, 13, 14, 18, 19, 20, 21, 22, 23, 24] (by decide +kernel) (by decide +kernel)
set_option maxRecDepth 20000 in
theorem gX3_degreeOf_X3_placeOf : GoodIn wsX3_degreeOf (wsV RX3 68 RX3 yX3_placeOf wsX3_placeOf) := goodIn_app (goodIn_of _ (by decide +kernel)) ggX3_degreeOf_X3_placeOf
set_option maxRecDepth 20000 in
theorem ggX3_degreeOf_X7_powerAt : GoodIn wsX3_degreeOf wsX7_powerAt := goodIn_r _ [17] (by decide +kernel) (by decide +kernel)
set_option maxRecDepth 20000 in
theorem gX3_degreeOf_X7_powerAt_n72 : GoodIn wsX3_degreeOf (wsX7_powerAt) := ggX3_degreeOf_X7_powerAt
theorem dX3_degreeOf_0 : decode cX3_degreeOf 0 = .ok (.aload_n 0, 1) := by decide +kernel
theorem dX3_degreeOf_1 : decode cX3_degreeOf 1 = .ok (.iload_n 1, 1) := by decide +kernel
theorem dX3_degreeOf_2 : decode cX3_degreeOf 2 = .ok (.invokevirtual 68, 3) := by decide +kernel
theorem dX3_degreeOf_5 : decode cX3_degreeOf 5 = .ok (.invokestatic 72, 3) := by decide +kernel
theorem dX3_degreeOf_8 : decode cX3_degreeOf 8 = .ok (.ireturn, 1) := by decide +kernel
set_option maxRecDepth 20000 in
theorem ggX3_pivotOf_X3_placeOf : GoodIn wsX3_pivotOf wsX3_placeOf := goodIn_r _ [5, 6, 7, 8, 9, 4, 10, 11, 12, 13, 14, 18, 19, 20, 21, 22, 23, 24] (by decide +kernel) (by decide +kernel)
set_option maxRecDepth 20000 in
theorem gX3_pivotOf_X3_placeOf : GoodIn wsX3_pivotOf (wsV RX3 68 RX3 yX3_placeOf wsX3_placeOf) := goodIn_app (goodIn_of _ (by decide +kernel)) ggX3_pivotOf_X3_placeOf
set_option maxRecDepth 20000 in
theorem ggX3_pivotOf_X7_columnAt : GoodIn wsX3_pivotOf wsX7_columnAt := goodIn_r _ [17] (by decide +kernel) (by decide +kernel)
set_option maxRecDepth 20000 in
theorem gX3_pivotOf_X7_columnAt_n75 : GoodIn wsX3_pivotOf (wsX7_columnAt) := ggX3_pivotOf_X7_columnAt
theorem dX3_pivotOf_0 : decode cX3_pivotOf 0 = .ok (.aload_n 0, 1) := by decide +kernel
theorem dX3_pivotOf_1 : decode cX3_pivotOf 1 = .ok (.iload_n 1, 1) := by decide +kernel
theorem dX3_pivotOf_2 : decode cX3_pivotOf 2 = .ok (.invokevirtual 68, 3) := by decide +kernel
theorem dX3_pivotOf_5 : decode cX3_pivotOf 5 = .ok (.invokestatic 75, 3) := by decide +kernel
theorem dX3_pivotOf_8 : decode cX3_pivotOf 8 = .ok (.ireturn, 1) := by decide +kernel
set_option maxRecDepth 20000 in
theorem ggX3_leadOf_X3_placeOf : GoodIn wsX3_leadOf wsX3_placeOf := goodIn_r _ [5, 6, 7, 8, 9, 4, 10, 11, 12, 13, 14, 20, 21, 22, 23, 24, 25, 26] (by decide +kernel) (by decide +kernel)
set_option maxRecDepth 20000 in
theorem gX3_leadOf_X3_placeOf : GoodIn wsX3_leadOf (wsV RX3 68 RX3 yX3_placeOf wsX3_placeOf) := goodIn_app (goodIn_of _ (by decide +kernel)) ggX3_leadOf_X3_placeOf
set_option maxRecDepth 20000 in
theorem ggX3_leadOf_X7_columnAt : GoodIn wsX3_leadOf wsX7_columnAt := goodIn_r _ [17] (by decide +kernel) (by decide +kernel)
set_option maxRecDepth 20000 in
theorem gX3_leadOf_X7_columnAt_n75 : GoodIn wsX3_leadOf (wsX7_columnAt) := ggX3_leadOf_X7_columnAt
set_option maxRecDepth 20000 in
theorem ggX3_leadOf_X7_powerAt : GoodIn wsX3_leadOf wsX7_powerAt := goodIn_r _ [19] (by decide +kernel) (by decide +kernel)
set_option maxRecDepth 20000 in
theorem gX3_leadOf_X7_powerAt_n72 : GoodIn wsX3_leadOf (wsX7_powerAt) := ggX3_leadOf_X7_powerAt
set_option maxRecDepth 20000 in
theorem ggX3_leadOf_X3_at : GoodIn wsX3_leadOf wsX3_at := goodIn_r _ [10, 11, 12, 13, 14, 20, 21, 22, 23, 24, 25, 26] (by decide +kernel) (by decide +kernel)
set_option maxRecDepth 20000 in
theorem gX3_leadOf_X3_at : GoodIn wsX3_leadOf (wsV RX3 60 RX3 yX3_at wsX3_at) := goodIn_app (goodIn_of _ (by decide +kernel)) ggX3_leadOf_X3_at
theorem dX3_leadOf_0 : decode cX3_leadOf 0 = .ok (.aload_n 0, 1) := by decide +kernel
theorem dX3_leadOf_1 : decode cX3_leadOf 1 = .ok (.iload_n 1, 1) := by decide +kernel
theorem dX3_leadOf_2 : decode cX3_leadOf 2 = .ok (.invokevirtual 68, 3) := by decide +kernel
theorem dX3_leadOf_5 : decode cX3_leadOf 5 = .ok (.istore_n 2, 1) := by decide +kernel
theorem dX3_leadOf_6 : decode cX3_leadOf 6 = .ok (.aload_n 0, 1) := by decide +kernel
theorem dX3_leadOf_7 : decode cX3_leadOf 7 = .ok (.iload_n 1, 1) := by decide +kernel
theorem dX3_leadOf_8 : decode cX3_leadOf 8 = .ok (.iload_n 2, 1) := by decide +kernel
theorem dX3_leadOf_9 : decode cX3_leadOf 9 = .ok (.invokestatic 75, 3) := by decide +kernel
theorem dX3_leadOf_12 : decode cX3_leadOf 12 = .ok (.iload_n 2, 1) := by decide +kernel
theorem dX3_leadOf_13 : decode cX3_leadOf 13 = .ok (.invokestatic 72, 3) := by decide +kernel
theorem dX3_leadOf_16 : decode cX3_leadOf 16 = .ok (.invokevirtual 60, 3) := by decide +kernel
theorem dX3_leadOf_19 : decode cX3_leadOf 19 = .ok (.ireturn, 1) := by decide +kernel
set_option maxRecDepth 20000 in
theorem ggX3_hasEntriesOf_X3_at : GoodIn wsX3_hasEntriesOf wsX3_at := goodIn_r _ [7, 8, 9, 10, 11, 12, 13, 14, 15, 16, 17, 18] (by decide +kernel) (by decide +kernel)
set_option maxRecDepth 20000 in
theorem gX3_hasEntriesOf_X3_at : GoodIn wsX3_hasEntriesOf (wsV RX3 60 RX3 yX3_at wsX3_at) := goodIn_app (goodIn_of _ (by decide +kernel)) ggX3_hasEntriesOf_X3_at
theorem dX3_hasEntriesOf_0 : decode cX3_hasEntriesOf 0 = .ok (.aload_n 0, 1) := by decide +kernel
theorem dX3_hasEntriesOf_1 : decode cX3_hasEntriesOf 1 = .ok (.getfield 37, 3) := by decide +kernel
theorem dX3_hasEntriesOf_4 : decode cX3_hasEntriesOf 4 = .ok (.aload_n 1, 1) := by decide +kernel
theorem dX3_hasEntriesOf_5 : decode cX3_hasEntriesOf 5 = .ok (.getfield 37, 3) := by decide +kernel
theorem dX3_hasEntriesOf_8 : decode cX3_hasEntriesOf 8 = .ok (.if_icmp .eq 5, 3) := by decide +kernel
theorem dX3_hasEntriesOf_11 : decode cX3_hasEntriesOf 11 = .ok (.iconst 0, 1) := by decide +kernel
theorem dX3_hasEntriesOf_12 : decode cX3_hasEntriesOf 12 = .ok (.ireturn, 1) := by decide +kernel
theorem dX3_hasEntriesOf_13 : decode cX3_hasEntriesOf 13 = .ok (.iconst 0, 1) := by decide +kernel
theorem dX3_hasEntriesOf_14 : decode cX3_hasEntriesOf 14 = .ok (.istore_n 2, 1) := by decide +kernel
theorem dX3_hasEntriesOf_15 : decode cX3_hasEntriesOf 15 = .ok (.iload_n 2, 1) := by decide +kernel
theorem dX3_hasEntriesOf_16 : decode cX3_hasEntriesOf 16 = .ok (.aload_n 0, 1) := by decide +kernel
theorem dX3_hasEntriesOf_17 : decode cX3_hasEntriesOf 17 = .ok (.getfield 37, 3) := by decide +kernel
theorem dX3_hasEntriesOf_20 : decode cX3_hasEntriesOf 20 = .ok (.if_icmp .ge 62, 3) := by decide +kernel
theorem dX3_hasEntriesOf_23 : decode cX3_hasEntriesOf 23 = .ok (.iconst 0, 1) := by decide +kernel
theorem dX3_hasEntriesOf_24 : decode cX3_hasEntriesOf 24 = .ok (.istore_n 3, 1) := by decide +kernel
theorem dX3_hasEntriesOf_25 : decode cX3_hasEntriesOf 25 = .ok (.iload_n 3, 1) := by decide +kernel
theorem dX3_hasEntriesOf_26 : decode cX3_hasEntriesOf 26 = .ok (.aload_n 0, 1) := by decide +kernel
theorem dX3_hasEntriesOf_27 : decode cX3_hasEntriesOf 27 = .ok (.getfield 15, 3) := by decide +kernel
theorem dX3_hasEntriesOf_30 : decode cX3_hasEntriesOf 30 = .ok (.if_icmp .ge 46, 3) := by decide +kernel
theorem dX3_hasEntriesOf_33 : decode cX3_hasEntriesOf 33 = .ok (.iconst 0, 1) := by decide +kernel
theorem dX3_hasEntriesOf_34 : decode cX3_hasEntriesOf 34 = .ok (.istore 4, 2) := by decide +kernel
theorem dX3_hasEntriesOf_36 : decode cX3_hasEntriesOf 36 = .ok (.iload 4, 2) := by decide +kernel
theorem dX3_hasEntriesOf_38 : decode cX3_hasEntriesOf 38 = .ok (.bipush 6, 2) := by decide +kernel
theorem dX3_hasEntriesOf_40 : decode cX3_hasEntriesOf 40 = .ok (.if_icmp .gt 30, 3) := by decide +kernel
theorem dX3_hasEntriesOf_43 : decode cX3_hasEntriesOf 43 = .ok (.aload_n 0, 1) := by decide +kernel
theorem dX3_hasEntriesOf_44 : decode cX3_hasEntriesOf 44 = .ok (.iload_n 2, 1) := by decide +kernel
theorem dX3_hasEntriesOf_45 : decode cX3_hasEntriesOf 45 = .ok (.iload_n 3, 1) := by decide +kernel
theorem dX3_hasEntriesOf_46 : decode cX3_hasEntriesOf 46 = .ok (.iload 4, 2) := by decide +kernel
theorem dX3_hasEntriesOf_48 : decode cX3_hasEntriesOf 48 = .ok (.invokevirtual 60, 3) := by decide +kernel
theorem dX3_hasEntriesOf_51 : decode cX3_hasEntriesOf 51 = .ok (.aload_n 1, 1) := by decide +kernel
theorem dX3_hasEntriesOf_52 : decode cX3_hasEntriesOf 52 = .ok (.iload_n 2, 1) := by decide +kernel
theorem dX3_hasEntriesOf_53 : decode cX3_hasEntriesOf 53 = .ok (.iload_n 3, 1) := by decide +kernel
theorem dX3_hasEntriesOf_54 : decode cX3_hasEntriesOf 54 = .ok (.iload 4, 2) := by decide +kernel
theorem dX3_hasEntriesOf_56 : decode cX3_hasEntriesOf 56 = .ok (.invokevirtual 60, 3) := by decide +kernel
theorem dX3_hasEntriesOf_59 : decode cX3_hasEntriesOf 59 = .ok (.if_icmp .eq 5, 3) := by decide +kernel
theorem dX3_hasEntriesOf_62 : decode cX3_hasEntriesOf 62 = .ok (.iconst 0, 1) := by decide +kernel
theorem dX3_hasEntriesOf_63 : decode cX3_hasEntriesOf 63 = .ok (.ireturn, 1) := by decide +kernel
theorem dX3_hasEntriesOf_64 : decode cX3_hasEntriesOf 64 = .ok (.iinc 4 1, 3) := by decide +kernel
theorem dX3_hasEntriesOf_67 : decode cX3_hasEntriesOf 67 = .ok (.goto (-31), 3) := by decide +kernel
theorem dX3_hasEntriesOf_70 : decode cX3_hasEntriesOf 70 = .ok (.iinc 3 1, 3) := by decide +kernel
theorem dX3_hasEntriesOf_73 : decode cX3_hasEntriesOf 73 = .ok (.goto (-48), 3) := by decide +kernel
theorem dX3_hasEntriesOf_76 : decode cX3_hasEntriesOf 76 = .ok (.iinc 2 1, 3) := by decide +kernel
theorem dX3_hasEntriesOf_79 : decode cX3_hasEntriesOf 79 = .ok (.goto (-64), 3) := by decide +kernel
theorem dX3_hasEntriesOf_82 : decode cX3_hasEntriesOf 82 = .ok (.iconst 1, 1) := by decide +kernel
theorem dX3_hasEntriesOf_83 : decode cX3_hasEntriesOf 83 = .ok (.ireturn, 1) := by decide +kernel
theorem dX4_init_0 : decode cX4_init 0 = .ok (.aload_n 0, 1) := by decide +kernel
theorem dX4_init_1 : decode cX4_init 1 = .ok (.invokespecial 3, 3) := by decide +kernel
theorem dX4_init_4 : decode cX4_init 4 = .ok (.aload_n 0, 1) := by decide +kernel
theorem dX4_init_5 : decode cX4_init 5 = .ok (.sipush 150, 3) := by decide +kernel
theorem dX4_init_8 : decode cX4_init 8 = .ok (.newarray .byte, 2) := by decide +kernel
theorem dX4_init_10 : decode cX4_init 10 = .ok (.putfield 9, 3) := by decide +kernel
theorem dX4_init_13 : decode cX4_init 13 = .ok (.aload_n 0, 1) := by decide +kernel
theorem dX4_init_14 : decode cX4_init 14 = .ok (.iconst 4, 1) := by decide +kernel
theorem dX4_init_15 : decode cX4_init 15 = .ok (.newarray .int, 2) := by decide +kernel
theorem dX4_init_17 : decode cX4_init 17 = .ok (.putfield 15, 3) := by decide +kernel
theorem dX4_init_20 : decode cX4_init 20 = .ok (.aload_n 0, 1) := by decide +kernel
theorem dX4_init_21 : decode cX4_init 21 = .ok (.bipush 21, 2) := by decide +kernel
theorem dX4_init_23 : decode cX4_init 23 = .ok (.newarray .int, 2) := by decide +kernel
theorem dX4_init_25 : decode cX4_init 25 = .ok (.putfield 19, 3) := by decide +kernel
theorem dX4_init_28 : decode cX4_init 28 = .ok (.return_, 1) := by decide +kernel
theorem dX4_append_0 : decode cX4_append 0 = .ok (.aload_n 0, 1) := by decide +kernel
theorem dX4_append_1 : decode cX4_append 1 = .ok (.getfield 22, 3) := by decide +kernel
theorem dX4_append_4 : decode cX4_append 4 = .ok (.ifCond .lt 15, 3) := by decide +kernel
theorem dX4_append_7 : decode cX4_append 7 = .ok (.aload_n 0, 1) := by decide +kernel
theorem dX4_append_8 : decode cX4_append 8 = .ok (.getfield 22, 3) := by decide +kernel
theorem dX4_append_11 : decode cX4_append 11 = .ok (.aload_n 0, 1) := by decide +kernel
theorem dX4_append_12 : decode cX4_append 12 = .ok (.getfield 9, 3) := by decide +kernel
theorem dX4_append_15 : decode cX4_append 15 = .ok (.arraylength, 1) := by decide +kernel
theorem dX4_append_16 : decode cX4_append 16 = .ok (.if_icmp .lt 5, 3) := by decide +kernel
theorem dX4_append_19 : decode cX4_append 19 = .ok (.iconst 0, 1) := by decide +kernel
theorem dX4_append_20 : decode cX4_append 20 = .ok (.ireturn, 1) := by decide +kernel
theorem dX4_append_21 : decode cX4_append 21 = .ok (.aload_n 0, 1) := by decide +kernel
theorem dX4_append_22 : decode cX4_append 22 = .ok (.getfield 9, 3) := by decide +kernel
theorem dX4_append_25 : decode cX4_append 25 = .ok (.aload_n 0, 1) := by decide +kernel
theorem dX4_append_26 : decode cX4_append 26 = .ok (.getfield 22, 3) := by decide +kernel
theorem dX4_append_29 : decode cX4_append 29 = .ok (.iload_n 1, 1) := by decide +kernel
theorem dX4_append_30 : decode cX4_append 30 = .ok (.i2b, 1) := by decide +kernel
theorem dX4_append_31 : decode cX4_append 31 = .ok (.bastore, 1) := by decide +kernel
theorem dX4_append_32 : decode cX4_append 32 = .ok (.aload_n 0, 1) := by decide +kernel
theorem dX4_append_33 : decode cX4_append 33 = .ok (.dup, 1) := by decide +kernel
theorem dX4_append_34 : decode cX4_append 34 = .ok (.getfield 22, 3) := by decide +kernel
theorem dX4_append_37 : decode cX4_append 37 = .ok (.iconst 1, 1) := by decide +kernel
theorem dX4_append_38 : decode cX4_append 38 = .ok (.iadd, 1) := by decide +kernel
theorem dX4_append_39 : decode cX4_append 39 = .ok (.putfield 22, 3) := by decide +kernel
theorem dX4_append_42 : decode cX4_append 42 = .ok (.iconst 1, 1) := by decide +kernel
theorem dX4_append_43 : decode cX4_append 43 = .ok (.ireturn, 1) := by decide +kernel
theorem dX4_begin_0 : decode cX4_begin 0 = .ok (.aload_n 0, 1) := by decide +kernel
theorem dX4_begin_1 : decode cX4_begin 1 = .ok (.iconst 0, 1) := by decide +kernel
theorem dX4_begin_2 : decode cX4_begin 2 = .ok (.putfield 26, 3) := by decide +kernel
theorem dX4_begin_5 : decode cX4_begin 5 = .ok (.aload_n 0, 1) := by decide +kernel
theorem dX4_begin_6 : decode cX4_begin 6 = .ok (.iload_n 1, 1) := by decide +kernel
theorem dX4_begin_7 : decode cX4_begin 7 = .ok (.putfield 29, 3) := by decide +kernel
theorem dX4_begin_10 : decode cX4_begin 10 = .ok (.return_, 1) := by decide +kernel
set_option maxRecDepth 20000 in
theorem ggX4_hasMore_X4_skipBlanks : GoodIn wsX4_hasMore wsX4_skipBlanks := goodIn_r _ [7, 1, 8, 9, 10, 6, 11, 2, 12, 13, 14, 15, 16, 17, 18, 19] (by decide +kernel) (by decide +kernel)
set_option maxRecDepth 20000 in
theorem gX4_hasMore_X4_skipBlanks : GoodIn wsX4_hasMore (wsV RX4 32 RX4 yX4_skipBlanks wsX4_skipBlanks) := goodIn_app (goodIn_of _ (by decide +kernel)) ggX4_hasMore_X4_skipBlanks
theorem dX4_hasMore_0 : decode cX4_hasMore 0 = .ok (.aload_n 0, 1) := by decide +kernel
theorem dX4_hasMore_1 : decode cX4_hasMore 1 = .ok (.invokevirtual 32, 3) := by decide +kernel
theorem dX4_hasMore_4 : decode cX4_hasMore 4 = .ok (.aload_n 0, 1) := by decide +kernel
theorem dX4_hasMore_5 : decode cX4_hasMore 5 = .ok (.getfield 26, 3) := by decide +kernel
theorem dX4_hasMore_8 : decode cX4_hasMore 8 = .ok (.aload_n 0, 1) := by decide +kernel
theorem dX4_hasMore_9 : decode cX4_hasMore 9 = .ok (.getfield 22, 3) := by decide +kernel
theorem dX4_hasMore_12 : decode cX4_hasMore 12 = .ok (.if_icmp .ge 7, 3) := by decide +kernel
theorem dX4_hasMore_15 : decode cX4_hasMore 15 = .ok (.iconst 1, 1) := by decide +kernel
theorem dX4_hasMore_16 : decode cX4_hasMore 16 = .ok (.goto 4, 3) := by decide +kernel
theorem dX4_hasMore_19 : decode cX4_hasMore 19 = .ok (.iconst 0, 1) := by decide +kernel
theorem dX4_hasMore_20 : decode cX4_hasMore 20 = .ok (.ireturn, 1) := by decide +kernel
theorem dX4_digitAt_0 : decode cX4_digitAt 0 = .ok (.iload_n 1, 1) := by decide +kernel
theorem dX4_digitAt_1 : decode cX4_digitAt 1 = .ok (.ifCond .lt 21, 3) := by decide +kernel
theorem dX4_digitAt_4 : decode cX4_digitAt 4 = .ok (.iload_n 1, 1) := by decide +kernel
theorem dX4_digitAt_5 : decode cX4_digitAt 5 = .ok (.aload_n 0, 1) := by decide +kernel
theorem dX4_digitAt_6 : decode cX4_digitAt 6 = .ok (.getfield 15, 3) := by decide +kernel
theorem dX4_digitAt_9 : decode cX4_digitAt 9 = .ok (.arraylength, 1) := by decide +kernel
theorem dX4_digitAt_10 : decode cX4_digitAt 10 = .ok (.if_icmp .ge 12, 3) := by decide +kernel
theorem dX4_digitAt_13 : decode cX4_digitAt 13 = .ok (.aload_n 0, 1) := by decide +kernel
theorem dX4_digitAt_14 : decode cX4_digitAt 14 = .ok (.getfield 15, 3) := by decide +kernel
theorem dX4_digitAt_17 : decode cX4_digitAt 17 = .ok (.iload_n 1, 1) := by decide +kernel
theorem dX4_digitAt_18 : decode cX4_digitAt 18 = .ok (.iaload, 1) := by decide +kernel
theorem dX4_digitAt_19 : decode cX4_digitAt 19 = .ok (.goto 4, 3) := by decide +kernel
theorem dX4_digitAt_22 : decode cX4_digitAt 22 = .ok (.iconst 0, 1) := by decide +kernel
theorem dX4_digitAt_23 : decode cX4_digitAt 23 = .ok (.ireturn, 1) := by decide +kernel
set_option maxRecDepth 20000 in
theorem ggX4_entryAt_X4_entryIndex : GoodIn wsX4_entryAt wsX4_entryIndex := goodIn_r _ [6, 7, 8, 9] (by decide +kernel) (by decide +kernel)
set_option maxRecDepth 20000 in
theorem gX4_entryAt_X4_entryIndex : GoodIn wsX4_entryAt (wsV RX4 35 RX4 yX4_entryIndex wsX4_entryIndex) := goodIn_app (goodIn_of _ (by decide +kernel)) ggX4_entryAt_X4_entryIndex
theorem dX4_entryAt_0 : decode cX4_entryAt 0 = .ok (.aload_n 0, 1) := by decide +kernel
theorem dX4_entryAt_1 : decode cX4_entryAt 1 = .ok (.iload_n 1, 1) := by decide +kernel
theorem dX4_entryAt_2 : decode cX4_entryAt 2 = .ok (.iload_n 2, 1) := by decide +kernel
theorem dX4_entryAt_3 : decode cX4_entryAt 3 = .ok (.invokevirtual 35, 3) := by decide +kernel
theorem dX4_entryAt_6 : decode cX4_entryAt 6 = .ok (.istore_n 3, 1) := by decide +kernel
theorem dX4_entryAt_7 : decode cX4_entryAt 7 = .ok (.iload_n 3, 1) := by decide +kernel
theorem dX4_entryAt_8 : decode cX4_entryAt 8 = .ok (.ifCond .lt 21, 3) := by decide +kernel
theorem dX4_entryAt_11 : decode cX4_entryAt 11 = .ok (.iload_n 3, 1) := by decide +kernel
theorem dX4_entryAt_12 : decode cX4_entryAt 12 = .ok (.aload_n 0, 1) := by decide +kernel
theorem dX4_entryAt_13 : decode cX4_entryAt 13 = .ok (.getfield 19, 3) := by decide +kernel
theorem dX4_entryAt_16 : decode cX4_entryAt 16 = .ok (.arraylength, 1) := by decide +kernel
theorem dX4_entryAt_17 : decode cX4_entryAt 17 = .ok (.if_icmp .ge 12, 3) := by decide +kernel
theorem dX4_entryAt_20 : decode cX4_entryAt 20 = .ok (.aload_n 0, 1) := by decide +kernel
theorem dX4_entryAt_21 : decode cX4_entryAt 21 = .ok (.getfield 19, 3) := by decide +kernel
theorem dX4_entryAt_24 : decode cX4_entryAt 24 = .ok (.iload_n 3, 1) := by decide +kernel
theorem dX4_entryAt_25 : decode cX4_entryAt 25 = .ok (.iaload, 1) := by decide +kernel
theorem dX4_entryAt_26 : decode cX4_entryAt 26 = .ok (.goto 4, 3) := by decide +kernel
theorem dX4_entryAt_29 : decode cX4_entryAt 29 = .ok (.iconst 0, 1) := by decide +kernel
theorem dX4_entryAt_30 : decode cX4_entryAt 30 = .ok (.ireturn, 1) := by decide +kernel
set_option maxRecDepth 20000 in
theorem ggX4_readCommand_X4_skipBlanks : GoodIn wsX4_readCommand wsX4_skipBlanks := goodIn_r _ [7, 2, 8, 9, 10, 6, 11, 12, 13, 58, 59, 60, 61, 62, 63, 64] (by decide +kernel) (by decide +kernel)
set_option maxRecDepth 20000 in
theorem gX4_readCommand_X4_skipBlanks : GoodIn wsX4_readCommand (wsV RX4 32 RX4 yX4_skipBlanks wsX4_skipBlanks) := goodIn_app (goodIn_of _ (by decide +kernel)) ggX4_readCommand_X4_skipBlanks
set_option maxRecDepth 20000 in
theorem ggX4_readCommand_X4_byteHere : GoodIn wsX4_readCommand wsX4_byteHere := goodIn_r _ [11, 2, 12, 13, 58, 59, 60, 61, 62, 63, 64] (by decide +kernel) (by decide +kernel)
set_option maxRecDepth 20000 in
theorem gX4_readCommand_X4_byteHere : GoodIn wsX4_readCommand (wsV RX4 39 RX4 yX4_byteHere wsX4_byteHere) := goodIn_app (goodIn_of _ (by decide +kernel)) ggX4_readCommand_X4_byteHere
set_option maxRecDepth 20000 in
theorem ggX4_readCommand_X4_digitHere : GoodIn wsX4_readCommand wsX4_digitHere := goodIn_r _ [17, 3, 4, 5, 6, 7, 2, 8, 9, 10, 11, 12, 13, 18, 19, 20, 58, 59, 60, 61, 62, 63, 64] (by decide +kernel) (by decide +kernel)
set_option maxRecDepth 20000 in
theorem gX4_readCommand_X4_digitHere : GoodIn wsX4_readCommand (wsV RX4 46 RX4 yX4_digitHere wsX4_digitHere) := goodIn_app (goodIn_of _ (by decide +kernel)) ggX4_readCommand_X4_digitHere
set_option maxRecDepth 20000 in
theorem ggX4_readCommand_X7_isPrime : GoodIn wsX4_readCommand wsX7_isPrime := goodIn_r _ [22] (by decide +kernel) (by decide +kernel)
set_option maxRecDepth 20000 in
theorem gX4_readCommand_X7_isPrime_n49 : GoodIn wsX4_readCommand (wsX7_isPrime) := ggX4_readCommand_X7_isPrime
set_option maxRecDepth 20000 in
theorem ggX4_readCommand_X4_readDigits : GoodIn wsX4_readCommand wsX4_readDigits := goodIn_r _ [26, 27, 2, 14, 15, 16, 6, 17, 3, 4, 5, 7, 8, 9, 10, 11, 12, 13, 18, 19, 20, 58, 59, 60, 61, 62, 63, 64] (by decide +kernel) (by decide +kernel)
set_option maxRecDepth 20000 in
theorem gX4_readCommand_X4_readDigits : GoodIn wsX4_readCommand (wsV RX4 53 RX4 yX4_readDigits wsX4_readDigits) := goodIn_app (goodIn_of _ (by decide +kernel)) ggX4_readCommand_X4_readDigits
set_option maxRecDepth 20000 in
theorem ggX4_readCommand_X4_accept : GoodIn wsX4_readCommand wsX4_accept := goodIn_r _ [31, 2, 3, 4, 5, 6, 7, 8, 9, 10, 11, 12, 13, 58, 59, 60, 61, 62, 63, 64] (by decide +kernel) (by decide +kernel)
set_option maxRecDepth 20000 in
theorem gX4_readCommand_X4_accept : GoodIn wsX4_readCommand (wsV RX4 56 RX4 yX4_accept wsX4_accept) := goodIn_app (goodIn_of _ (by decide +kernel)) ggX4_readCommand_X4_accept
set_option maxRecDepth 20000 in
theorem ggX4_readCommand_X4_readColumns : GoodIn wsX4_readCommand wsX4_readColumns := goodIn_r _ [35, 36, 14, 15, 16, 6, 17, 3, 4, 5, 7, 2, 8, 9, 10, 11, 12, 13, 18, 19, 20, 23, 24, 25, 26, 27, 58, 59, 60, 61, 62, 63, 64] (by decide +kernel) (by decide +kernel)
set_option maxRecDepth 20000 in
theorem gX4_readCommand_X4_readColumns : GoodIn wsX4_readCommand (wsV RX4 59 RX4 yX4_readColumns wsX4_readColumns) := goodIn_app (goodIn_of _ (by decide +kernel)) ggX4_readCommand_X4_readColumns
set_option maxRecDepth 20000 in
theorem ggX4_readCommand_X4_readRow : GoodIn wsX4_readCommand wsX4_readRow := goodIn_r _ [40, 41, 36, 42, 43, 44, 6, 45, 2, 14, 15, 16, 17, 3, 4, 5, 7, 8, 9, 10, 11, 12, 13, 18, 19, 20, 28, 29, 30, 31, 46, 47, 48, 49, 50, 51, 52, 53, 54, 55, 56, 57, 58, 59, 60, 61, 62, 63, 64] (by decide +kernel) (by decide +kernel)
set_option maxRecDepth 20000 in
theorem gX4_readCommand_X4_readRow : GoodIn wsX4_readCommand (wsV RX4 63 RX4 yX4_readRow wsX4_readRow) := goodIn_app (goodIn_of _ (by decide +kernel)) ggX4_readCommand_X4_readRow
theorem dX4_readCommand_0 : decode cX4_readCommand 0 = .ok (.aload_n 0, 1) := by decide +kernel
theorem dX4_readCommand_1 : decode cX4_readCommand 1 = .ok (.invokevirtual 32, 3) := by decide +kernel
theorem dX4_readCommand_4 : decode cX4_readCommand 4 = .ok (.aload_n 0, 1) := by decide +kernel
theorem dX4_readCommand_5 : decode cX4_readCommand 5 = .ok (.aload_n 0, 1) := by decide +kernel
theorem dX4_readCommand_6 : decode cX4_readCommand 6 = .ok (.invokevirtual 39, 3) := by decide +kernel
theorem dX4_readCommand_9 : decode cX4_readCommand 9 = .ok (.putfield 43, 3) := by decide +kernel
theorem dX4_readCommand_12 : decode cX4_readCommand 12 = .ok (.aload_n 0, 1) := by decide +kernel
theorem dX4_readCommand_13 : decode cX4_readCommand 13 = .ok (.getfield 43, 3) := by decide +kernel
theorem dX4_readCommand_16 : decode cX4_readCommand 16 = .ok (.lookupswitch 233 #[(99, 103), (109, 167), (112, 60), (114, 135), (115, 200), (120, 167)], 60) := by decide +kernel
theorem dX4_readCommand_76 : decode cX4_readCommand 76 = .ok (.aload_n 0, 1) := by decide +kernel
theorem dX4_readCommand_77 : decode cX4_readCommand 77 = .ok (.dup, 1) := by decide +kernel
theorem dX4_readCommand_78 : decode cX4_readCommand 78 = .ok (.getfield 26, 3) := by decide +kernel
theorem dX4_readCommand_81 : decode cX4_readCommand 81 = .ok (.iconst 1, 1) := by decide +kernel
theorem dX4_readCommand_82 : decode cX4_readCommand 82 = .ok (.iadd, 1) := by decide +kernel
theorem dX4_readCommand_83 : decode cX4_readCommand 83 = .ok (.putfield 26, 3) := by decide +kernel
theorem dX4_readCommand_86 : decode cX4_readCommand 86 = .ok (.aload_n 0, 1) := by decide +kernel
theorem dX4_readCommand_87 : decode cX4_readCommand 87 = .ok (.invokevirtual 46, 3) := by decide +kernel
theorem dX4_readCommand_90 : decode cX4_readCommand 90 = .ok (.invokestatic 49, 3) := by decide +kernel
theorem dX4_readCommand_93 : decode cX4_readCommand 93 = .ok (.ifCond .eq 24, 3) := by decide +kernel
theorem dX4_readCommand_96 : decode cX4_readCommand 96 = .ok (.aload_n 0, 1) := by decide +kernel
theorem dX4_readCommand_97 : decode cX4_readCommand 97 = .ok (.iconst 1, 1) := by decide +kernel
theorem dX4_readCommand_98 : decode cX4_readCommand 98 = .ok (.invokevirtual 53, 3) := by decide +kernel
theorem dX4_readCommand_101 : decode cX4_readCommand 101 = .ok (.ifCond .eq 16, 3) := by decide +kernel
theorem dX4_readCommand_104 : decode cX4_readCommand 104 = .ok (.aload_n 0, 1) := by decide +kernel
theorem dX4_readCommand_105 : decode cX4_readCommand 105 = .ok (.bipush 59, 2) := by decide +kernel
theorem dX4_readCommand_107 : decode cX4_readCommand 107 = .ok (.invokevirtual 56, 3) := by decide +kernel
theorem dX4_readCommand_110 : decode cX4_readCommand 110 = .ok (.ifCond .eq 7, 3) := by decide +kernel
theorem dX4_readCommand_113 : decode cX4_readCommand 113 = .ok (.iconst 1, 1) := by decide +kernel
theorem dX4_readCommand_114 : decode cX4_readCommand 114 = .ok (.goto 4, 3) := by decide +kernel
theorem dX4_readCommand_117 : decode cX4_readCommand 117 = .ok (.iconst 0, 1) := by decide +kernel
theorem dX4_readCommand_118 : decode cX4_readCommand 118 = .ok (.ireturn, 1) := by decide +kernel
theorem dX4_readCommand_119 : decode cX4_readCommand 119 = .ok (.aload_n 0, 1) := by decide +kernel
theorem dX4_readCommand_120 : decode cX4_readCommand 120 = .ok (.dup, 1) := by decide +kernel
theorem dX4_readCommand_121 : decode cX4_readCommand 121 = .ok (.getfield 26, 3) := by decide +kernel
theorem dX4_readCommand_124 : decode cX4_readCommand 124 = .ok (.iconst 1, 1) := by decide +kernel
theorem dX4_readCommand_125 : decode cX4_readCommand 125 = .ok (.iadd, 1) := by decide +kernel
theorem dX4_readCommand_126 : decode cX4_readCommand 126 = .ok (.putfield 26, 3) := by decide +kernel
theorem dX4_readCommand_129 : decode cX4_readCommand 129 = .ok (.aload_n 0, 1) := by decide +kernel
theorem dX4_readCommand_130 : decode cX4_readCommand 130 = .ok (.invokevirtual 59, 3) := by decide +kernel
theorem dX4_readCommand_133 : decode cX4_readCommand 133 = .ok (.ifCond .eq 16, 3) := by decide +kernel
theorem dX4_readCommand_136 : decode cX4_readCommand 136 = .ok (.aload_n 0, 1) := by decide +kernel
theorem dX4_readCommand_137 : decode cX4_readCommand 137 = .ok (.bipush 59, 2) := by decide +kernel
theorem dX4_readCommand_139 : decode cX4_readCommand 139 = .ok (.invokevirtual 56, 3) := by decide +kernel
theorem dX4_readCommand_142 : decode cX4_readCommand 142 = .ok (.ifCond .eq 7, 3) := by decide +kernel
theorem dX4_readCommand_145 : decode cX4_readCommand 145 = .ok (.iconst 1, 1) := by decide +kernel
theorem dX4_readCommand_146 : decode cX4_readCommand 146 = .ok (.goto 4, 3) := by decide +kernel
theorem dX4_readCommand_149 : decode cX4_readCommand 149 = .ok (.iconst 0, 1) := by decide +kernel
theorem dX4_readCommand_150 : decode cX4_readCommand 150 = .ok (.ireturn, 1) := by decide +kernel
theorem dX4_readCommand_151 : decode cX4_readCommand 151 = .ok (.aload_n 0, 1) := by decide +kernel
theorem dX4_readCommand_152 : decode cX4_readCommand 152 = .ok (.dup, 1) := by decide +kernel
theorem dX4_readCommand_153 : decode cX4_readCommand 153 = .ok (.getfield 26, 3) := by decide +kernel
theorem dX4_readCommand_156 : decode cX4_readCommand 156 = .ok (.iconst 1, 1) := by decide +kernel
theorem dX4_readCommand_157 : decode cX4_readCommand 157 = .ok (.iadd, 1) := by decide +kernel
theorem dX4_readCommand_158 : decode cX4_readCommand 158 = .ok (.putfield 26, 3) := by decide +kernel
theorem dX4_readCommand_161 : decode cX4_readCommand 161 = .ok (.aload_n 0, 1) := by decide +kernel
theorem dX4_readCommand_162 : decode cX4_readCommand 162 = .ok (.invokevirtual 63, 3) := by decide +kernel
theorem dX4_readCommand_165 : decode cX4_readCommand 165 = .ok (.ifCond .eq 16, 3) := by decide +kernel
theorem dX4_readCommand_168 : decode cX4_readCommand 168 = .ok (.aload_n 0, 1) := by decide +kernel
theorem dX4_readCommand_169 : decode cX4_readCommand 169 = .ok (.bipush 59, 2) := by decide +kernel
theorem dX4_readCommand_171 : decode cX4_readCommand 171 = .ok (.invokevirtual 56, 3) := by decide +kernel
theorem dX4_readCommand_174 : decode cX4_readCommand 174 = .ok (.ifCond .eq 7, 3) := by decide +kernel
theorem dX4_readCommand_177 : decode cX4_readCommand 177 = .ok (.iconst 1, 1) := by decide +kernel
theorem dX4_readCommand_178 : decode cX4_readCommand 178 = .ok (.goto 4, 3) := by decide +kernel
theorem dX4_readCommand_181 : decode cX4_readCommand 181 = .ok (.iconst 0, 1) := by decide +kernel
theorem dX4_readCommand_182 : decode cX4_readCommand 182 = .ok (.ireturn, 1) := by decide +kernel
theorem dX4_readCommand_183 : decode cX4_readCommand 183 = .ok (.aload_n 0, 1) := by decide +kernel
theorem dX4_readCommand_184 : decode cX4_readCommand 184 = .ok (.dup, 1) := by decide +kernel
theorem dX4_readCommand_185 : decode cX4_readCommand 185 = .ok (.getfield 26, 3) := by decide +kernel
theorem dX4_readCommand_188 : decode cX4_readCommand 188 = .ok (.iconst 1, 1) := by decide +kernel
theorem dX4_readCommand_189 : decode cX4_readCommand 189 = .ok (.iadd, 1) := by decide +kernel
theorem dX4_readCommand_190 : decode cX4_readCommand 190 = .ok (.putfield 26, 3) := by decide +kernel
theorem dX4_readCommand_193 : decode cX4_readCommand 193 = .ok (.aload_n 0, 1) := by decide +kernel
theorem dX4_readCommand_194 : decode cX4_readCommand 194 = .ok (.iconst 1, 1) := by decide +kernel
theorem dX4_readCommand_195 : decode cX4_readCommand 195 = .ok (.invokevirtual 53, 3) := by decide +kernel
theorem dX4_readCommand_198 : decode cX4_readCommand 198 = .ok (.ifCond .eq 16, 3) := by decide +kernel
theorem dX4_readCommand_201 : decode cX4_readCommand 201 = .ok (.aload_n 0, 1) := by decide +kernel
theorem dX4_readCommand_202 : decode cX4_readCommand 202 = .ok (.bipush 59, 2) := by decide +kernel
theorem dX4_readCommand_204 : decode cX4_readCommand 204 = .ok (.invokevirtual 56, 3) := by decide +kernel
theorem dX4_readCommand_207 : decode cX4_readCommand 207 = .ok (.ifCond .eq 7, 3) := by decide +kernel
theorem dX4_readCommand_210 : decode cX4_readCommand 210 = .ok (.iconst 1, 1) := by decide +kernel
theorem dX4_readCommand_211 : decode cX4_readCommand 211 = .ok (.goto 4, 3) := by decide +kernel
theorem dX4_readCommand_214 : decode cX4_readCommand 214 = .ok (.iconst 0, 1) := by decide +kernel
theorem dX4_readCommand_215 : decode cX4_readCommand 215 = .ok (.ireturn, 1) := by decide +kernel
theorem dX4_readCommand_216 : decode cX4_readCommand 216 = .ok (.aload_n 0, 1) := by decide +kernel
theorem dX4_readCommand_217 : decode cX4_readCommand 217 = .ok (.dup, 1) := by decide +kernel
theorem dX4_readCommand_218 : decode cX4_readCommand 218 = .ok (.getfield 26, 3) := by decide +kernel
theorem dX4_readCommand_221 : decode cX4_readCommand 221 = .ok (.iconst 1, 1) := by decide +kernel
theorem dX4_readCommand_222 : decode cX4_readCommand 222 = .ok (.iadd, 1) := by decide +kernel
theorem dX4_readCommand_223 : decode cX4_readCommand 223 = .ok (.putfield 26, 3) := by decide +kernel
theorem dX4_readCommand_226 : decode cX4_readCommand 226 = .ok (.aload_n 0, 1) := by decide +kernel
theorem dX4_readCommand_227 : decode cX4_readCommand 227 = .ok (.iconst 4, 1) := by decide +kernel
theorem dX4_readCommand_228 : decode cX4_readCommand 228 = .ok (.invokevirtual 53, 3) := by decide +kernel
theorem dX4_readCommand_231 : decode cX4_readCommand 231 = .ok (.ifCond .eq 16, 3) := by decide +kernel
theorem dX4_readCommand_234 : decode cX4_readCommand 234 = .ok (.aload_n 0, 1) := by decide +kernel
theorem dX4_readCommand_235 : decode cX4_readCommand 235 = .ok (.bipush 59, 2) := by decide +kernel
theorem dX4_readCommand_237 : decode cX4_readCommand 237 = .ok (.invokevirtual 56, 3) := by decide +kernel
theorem dX4_readCommand_240 : decode cX4_readCommand 240 = .ok (.ifCond .eq 7, 3) := by decide +kernel
theorem dX4_readCommand_243 : decode cX4_readCommand 243 = .ok (.iconst 1, 1) := by decide +kernel
theorem dX4_readCommand_244 : decode cX4_readCommand 244 = .ok (.goto 4, 3) := by decide +kernel
theorem dX4_readCommand_247 : decode cX4_readCommand 247 = .ok (.iconst 0, 1) := by decide +kernel
theorem dX4_readCommand_248 : decode cX4_readCommand 248 = .ok (.ireturn, 1) := by decide +kernel
theorem dX4_readCommand_249 : decode cX4_readCommand 249 = .ok (.iconst 0, 1) := by decide +kernel
theorem dX4_readCommand_250 : decode cX4_readCommand 250 = .ok (.ireturn, 1) := by decide +kernel
theorem dX4_byteHere_0 : decode cX4_byteHere 0 = .ok (.aload_n 0, 1) := by decide +kernel
theorem dX4_byteHere_1 : decode cX4_byteHere 1 = .ok (.getfield 26, 3) := by decide +kernel
theorem dX4_byteHere_4 : decode cX4_byteHere 4 = .ok (.ifCond .lt 38, 3) := by decide +kernel
theorem dX4_byteHere_7 : decode cX4_byteHere 7 = .ok (.aload_n 0, 1) := by decide +kernel
theorem dX4_byteHere_8 : decode cX4_byteHere 8 = .ok (.getfield 26, 3) := by decide +kernel
theorem dX4_byteHere_11 : decode cX4_byteHere 11 = .ok (.aload_n 0, 1) := by decide +kernel
theorem dX4_byteHere_12 : decode cX4_byteHere 12 = .ok (.getfield 22, 3) := by decide +kernel
theorem dX4_byteHere_15 : decode cX4_byteHere 15 = .ok (.if_icmp .ge 27, 3) := by decide +kernel
theorem dX4_byteHere_18 : decode cX4_byteHere 18 = .ok (.aload_n 0, 1) := by decide +kernel
theorem dX4_byteHere_19 : decode cX4_byteHere 19 = .ok (.getfield 26, 3) := by decide +kernel
theorem dX4_byteHere_22 : decode cX4_byteHere 22 = .ok (.aload_n 0, 1) := by decide +kernel
theorem dX4_byteHere_23 : decode cX4_byteHere 23 = .ok (.getfield 9, 3) := by decide +kernel
theorem dX4_byteHere_26 : decode cX4_byteHere 26 = .ok (.arraylength, 1) := by decide +kernel
theorem dX4_byteHere_27 : decode cX4_byteHere 27 = .ok (.if_icmp .ge 15, 3) := by decide +kernel
theorem dX4_byteHere_30 : decode cX4_byteHere 30 = .ok (.aload_n 0, 1) := by decide +kernel
theorem dX4_byteHere_31 : decode cX4_byteHere 31 = .ok (.getfield 9, 3) := by decide +kernel
theorem dX4_byteHere_34 : decode cX4_byteHere 34 = .ok (.aload_n 0, 1) := by decide +kernel
theorem dX4_byteHere_35 : decode cX4_byteHere 35 = .ok (.getfield 26, 3) := by decide +kernel
theorem dX4_byteHere_38 : decode cX4_byteHere 38 = .ok (.baload, 1) := by decide +kernel
theorem dX4_byteHere_39 : decode cX4_byteHere 39 = .ok (.goto 4, 3) := by decide +kernel
theorem dX4_byteHere_42 : decode cX4_byteHere 42 = .ok (.iconst (-1), 1) := by decide +kernel
theorem dX4_byteHere_43 : decode cX4_byteHere 43 = .ok (.ireturn, 1) := by decide +kernel
set_option maxRecDepth 20000 in
theorem ggX4_skipBlanks_X4_byteHere : GoodIn wsX4_skipBlanks wsX4_byteHere := goodIn_r _ [6, 1, 7, 8, 9, 10, 11, 12, 13, 14, 15] (by decide +kernel) (by decide +kernel)
set_option maxRecDepth 20000 in
theorem gX4_skipBlanks_X4_byteHere : GoodIn wsX4_skipBlanks (wsV RX4 39 RX4 yX4_byteHere wsX4_byteHere) := goodIn_app (goodIn_of _ (by decide +kernel)) ggX4_skipBlanks_X4_byteHere
theorem dX4_skipBlanks_0 : decode cX4_skipBlanks 0 = .ok (.iconst 0, 1) := by decide +kernel
theorem dX4_skipBlanks_1 : decode cX4_skipBlanks 1 = .ok (.istore_n 1, 1) := by decide +kernel
theorem dX4_skipBlanks_2 : decode cX4_skipBlanks 2 = .ok (.iload_n 1, 1) := by decide +kernel
theorem dX4_skipBlanks_3 : decode cX4_skipBlanks 3 = .ok (.sipush 150, 3) := by decide +kernel
theorem dX4_skipBlanks_6 : decode cX4_skipBlanks 6 = .ok (.if_icmp .ge 28, 3) := by decide +kernel
theorem dX4_skipBlanks_9 : decode cX4_skipBlanks 9 = .ok (.aload_n 0, 1) := by decide +kernel
theorem dX4_skipBlanks_10 : decode cX4_skipBlanks 10 = .ok (.invokevirtual 39, 3) := by decide +kernel
theorem dX4_skipBlanks_13 : decode cX4_skipBlanks 13 = .ok (.bipush 32, 2) := by decide +kernel
theorem dX4_skipBlanks_15 : decode cX4_skipBlanks 15 = .ok (.if_icmp .ne 19, 3) := by decide +kernel
theorem dX4_skipBlanks_18 : decode cX4_skipBlanks 18 = .ok (.aload_n 0, 1) := by decide +kernel
theorem dX4_skipBlanks_19 : decode cX4_skipBlanks 19 = .ok (.dup, 1) := by decide +kernel
theorem dX4_skipBlanks_20 : decode cX4_skipBlanks 20 = .ok (.getfield 26, 3) := by decide +kernel
theorem dX4_skipBlanks_23 : decode cX4_skipBlanks 23 = .ok (.iconst 1, 1) := by decide +kernel
theorem dX4_skipBlanks_24 : decode cX4_skipBlanks 24 = .ok (.iadd, 1) := by decide +kernel
theorem dX4_skipBlanks_25 : decode cX4_skipBlanks 25 = .ok (.putfield 26, 3) := by decide +kernel
theorem dX4_skipBlanks_28 : decode cX4_skipBlanks 28 = .ok (.iinc 1 1, 3) := by decide +kernel
theorem dX4_skipBlanks_31 : decode cX4_skipBlanks 31 = .ok (.goto (-29), 3) := by decide +kernel
theorem dX4_skipBlanks_34 : decode cX4_skipBlanks 34 = .ok (.return_, 1) := by decide +kernel
set_option maxRecDepth 20000 in
theorem ggX4_accept_X4_skipBlanks : GoodIn wsX4_accept wsX4_skipBlanks := goodIn_r _ [6, 1, 7, 8, 9, 5, 10, 11, 12, 13, 14, 15, 16, 17, 18, 19] (by decide +kernel) (by decide +kernel)
set_option maxRecDepth 20000 in
theorem gX4_accept_X4_skipBlanks : GoodIn wsX4_accept (wsV RX4 32 RX4 yX4_skipBlanks wsX4_skipBlanks) := goodIn_app (goodIn_of _ (by decide +kernel)) ggX4_accept_X4_skipBlanks
set_option maxRecDepth 20000 in
theorem ggX4_accept_X4_byteHere : GoodIn wsX4_accept wsX4_byteHere := goodIn_r _ [10, 1, 11, 12, 13, 14, 15, 16, 17, 18, 19] (by decide +kernel) (by decide +kernel)
set_option maxRecDepth 20000 in
theorem gX4_accept_X4_byteHere : GoodIn wsX4_accept (wsV RX4 39 RX4 yX4_byteHere wsX4_byteHere) := goodIn_app (goodIn_of _ (by decide +kernel)) ggX4_accept_X4_byteHere
theorem dX4_accept_0 : decode cX4_accept 0 = .ok (.aload_n 0, 1) := by decide +kernel
theorem dX4_accept_1 : decode cX4_accept 1 = .ok (.invokevirtual 32, 3) := by decide +kernel
theorem dX4_accept_4 : decode cX4_accept 4 = .ok (.aload_n 0, 1) := by decide +kernel
theorem dX4_accept_5 : decode cX4_accept 5 = .ok (.invokevirtual 39, 3) := by decide +kernel
theorem dX4_accept_8 : decode cX4_accept 8 = .ok (.iload_n 1, 1) := by decide +kernel
theorem dX4_accept_9 : decode cX4_accept 9 = .ok (.if_icmp .eq 5, 3) := by decide +kernel
theorem dX4_accept_12 : decode cX4_accept 12 = .ok (.iconst 0, 1) := by decide +kernel
theorem dX4_accept_13 : decode cX4_accept 13 = .ok (.ireturn, 1) := by decide +kernel
theorem dX4_accept_14 : decode cX4_accept 14 = .ok (.aload_n 0, 1) := by decide +kernel
theorem dX4_accept_15 : decode cX4_accept 15 = .ok (.dup, 1) := by decide +kernel
theorem dX4_accept_16 : decode cX4_accept 16 = .ok (.getfield 26, 3) := by decide +kernel
theorem dX4_accept_19 : decode cX4_accept 19 = .ok (.iconst 1, 1) := by decide +kernel
theorem dX4_accept_20 : decode cX4_accept 20 = .ok (.iadd, 1) := by decide +kernel
theorem dX4_accept_21 : decode cX4_accept 21 = .ok (.putfield 26, 3) := by decide +kernel
theorem dX4_accept_24 : decode cX4_accept 24 = .ok (.iconst 1, 1) := by decide +kernel
theorem dX4_accept_25 : decode cX4_accept 25 = .ok (.ireturn, 1) := by decide +kernel
set_option maxRecDepth 20000 in
theorem ggX4_digitHere_X4_skipBlanks : GoodIn wsX4_digitHere wsX4_skipBlanks := goodIn_r _ [5, 6, 7, 8, 9, 4, 10, 11, 12, 16, 17, 18, 19, 20, 21, 22] (by decide +kernel) (by decide +kernel)
set_option maxRecDepth 20000 in
theorem gX4_digitHere_X4_skipBlanks : GoodIn wsX4_digitHere (wsV RX4 32 RX4 yX4_skipBlanks wsX4_skipBlanks) := goodIn_app (goodIn_of _ (by decide +kernel)) ggX4_digitHere_X4_skipBlanks
set_option maxRecDepth 20000 in
theorem ggX4_digitHere_X4_byteHere : GoodIn wsX4_digitHere wsX4_byteHere := goodIn_r _ [10, 6, 11, 12, 16, 17, 18, 19, 20, 21, 22] (by decide +kernel) (by decide +kernel)
set_option maxRecDepth 20000 in
theorem gX4_digitHere_X4_byteHere : GoodIn wsX4_digitHere (wsV RX4 39 RX4 yX4_byteHere wsX4_byteHere) := goodIn_app (goodIn_of _ (by decide +kernel)) ggX4_digitHere_X4_byteHere
set_option maxRecDepth 20000 in
theorem ggX4_digitHere_X7_isWithin : GoodIn wsX4_digitHere wsX7_isWithin := goodIn_r _ [15] (by decide +kernel) (by decide +kernel)
set_option maxRecDepth 20000 in
theorem gX4_digitHere_X7_isWithin_n66 : GoodIn wsX4_digitHere (wsX7_isWithin) := ggX4_digitHere_X7_isWithin
theorem dX4_digitHere_0 : decode cX4_digitHere 0 = .ok (.aload_n 0, 1) := by decide +kernel
theorem dX4_digitHere_1 : decode cX4_digitHere 1 = .ok (.invokevirtual 32, 3) := by decide +kernel
theorem dX4_digitHere_4 : decode cX4_digitHere 4 = .ok (.aload_n 0, 1) := by decide +kernel
theorem dX4_digitHere_5 : decode cX4_digitHere 5 = .ok (.invokevirtual 39, 3) := by decide +kernel
theorem dX4_digitHere_8 : decode cX4_digitHere 8 = .ok (.istore_n 1, 1) := by decide +kernel
theorem dX4_digitHere_9 : decode cX4_digitHere 9 = .ok (.iload_n 1, 1) := by decide +kernel
theorem dX4_digitHere_10 : decode cX4_digitHere 10 = .ok (.bipush 48, 2) := by decide +kernel
theorem dX4_digitHere_12 : decode cX4_digitHere 12 = .ok (.bipush 57, 2) := by decide +kernel
theorem dX4_digitHere_14 : decode cX4_digitHere 14 = .ok (.invokestatic 66, 3) := by decide +kernel
theorem dX4_digitHere_17 : decode cX4_digitHere 17 = .ok (.ifCond .eq 10, 3) := by decide +kernel
theorem dX4_digitHere_20 : decode cX4_digitHere 20 = .ok (.iload_n 1, 1) := by decide +kernel
theorem dX4_digitHere_21 : decode cX4_digitHere 21 = .ok (.bipush 48, 2) := by decide +kernel
theorem dX4_digitHere_23 : decode cX4_digitHere 23 = .ok (.isub, 1) := by decide +kernel
theorem dX4_digitHere_24 : decode cX4_digitHere 24 = .ok (.goto 4, 3) := by decide +kernel
theorem dX4_digitHere_27 : decode cX4_digitHere 27 = .ok (.iconst (-1), 1) := by decide +kernel
theorem dX4_digitHere_28 : decode cX4_digitHere 28 = .ok (.ireturn, 1) := by decide +kernel
set_option maxRecDepth 20000 in
theorem ggX4_readDigits_X4_digitHere : GoodIn wsX4_readDigits wsX4_digitHere := goodIn_r _ [7, 8, 9, 10, 6, 11, 2, 12, 13, 14, 15, 16, 17, 18, 19, 20, 21, 22, 23, 24, 25, 26, 27] (by decide +kernel) (by decide +kernel)
set_option maxRecDepth 20000 in
theorem gX4_readDigits_X4_digitHere : GoodIn wsX4_readDigits (wsV RX4 46 RX4 yX4_digitHere wsX4_digitHere) := goodIn_app (goodIn_of _ (by decide +kernel)) ggX4_readDigits_X4_digitHere
theorem dX4_readDigits_0 : decode cX4_readDigits 0 = .ok (.iconst 0, 1) := by decide +kernel
theorem dX4_readDigits_1 : decode cX4_readDigits 1 = .ok (.istore_n 2, 1) := by decide +kernel
theorem dX4_readDigits_2 : decode cX4_readDigits 2 = .ok (.iload_n 2, 1) := by decide +kernel
theorem dX4_readDigits_3 : decode cX4_readDigits 3 = .ok (.iload_n 1, 1) := by decide +kernel
theorem dX4_readDigits_4 : decode cX4_readDigits 4 = .ok (.if_icmp .ge 47, 3) := by decide +kernel
theorem dX4_readDigits_7 : decode cX4_readDigits 7 = .ok (.iload_n 2, 1) := by decide +kernel
theorem dX4_readDigits_8 : decode cX4_readDigits 8 = .ok (.aload_n 0, 1) := by decide +kernel
theorem dX4_readDigits_9 : decode cX4_readDigits 9 = .ok (.getfield 15, 3) := by decide +kernel
theorem dX4_readDigits_12 : decode cX4_readDigits 12 = .ok (.arraylength, 1) := by decide +kernel
theorem dX4_readDigits_13 : decode cX4_readDigits 13 = .ok (.if_icmp .ge 38, 3) := by decide +kernel
theorem dX4_readDigits_16 : decode cX4_readDigits 16 = .ok (.aload_n 0, 1) := by decide +kernel
theorem dX4_readDigits_17 : decode cX4_readDigits 17 = .ok (.invokevirtual 46, 3) := by decide +kernel
theorem dX4_readDigits_20 : decode cX4_readDigits 20 = .ok (.istore_n 3, 1) := by decide +kernel
theorem dX4_readDigits_21 : decode cX4_readDigits 21 = .ok (.iload_n 3, 1) := by decide +kernel
theorem dX4_readDigits_22 : decode cX4_readDigits 22 = .ok (.iconst (-1), 1) := by decide +kernel
theorem dX4_readDigits_23 : decode cX4_readDigits 23 = .ok (.if_icmp .ne 5, 3) := by decide +kernel
theorem dX4_readDigits_26 : decode cX4_readDigits 26 = .ok (.iconst 0, 1) := by decide +kernel
theorem dX4_readDigits_27 : decode cX4_readDigits 27 = .ok (.ireturn, 1) := by decide +kernel
theorem dX4_readDigits_28 : decode cX4_readDigits 28 = .ok (.aload_n 0, 1) := by decide +kernel
theorem dX4_readDigits_29 : decode cX4_readDigits 29 = .ok (.getfield 15, 3) := by decide +kernel
theorem dX4_readDigits_32 : decode cX4_readDigits 32 = .ok (.iload_n 2, 1) := by decide +kernel
theorem dX4_readDigits_33 : decode cX4_readDigits 33 = .ok (.iload_n 3, 1) := by decide +kernel
theorem dX4_readDigits_34 : decode cX4_readDigits 34 = .ok (.iastore, 1) := by decide +kernel
theorem dX4_readDigits_35 : decode cX4_readDigits 35 = .ok (.aload_n 0, 1) := by decide +kernel
theorem dX4_readDigits_36 : decode cX4_readDigits 36 = .ok (.dup, 1) := by decide +kernel
theorem dX4_readDigits_37 : decode cX4_readDigits 37 = .ok (.getfield 26, 3) := by decide +kernel
theorem dX4_readDigits_40 : decode cX4_readDigits 40 = .ok (.iconst 1, 1) := by decide +kernel
theorem dX4_readDigits_41 : decode cX4_readDigits 41 = .ok (.iadd, 1) := by decide +kernel
theorem dX4_readDigits_42 : decode cX4_readDigits 42 = .ok (.putfield 26, 3) := by decide +kernel
theorem dX4_readDigits_45 : decode cX4_readDigits 45 = .ok (.iinc 2 1, 3) := by decide +kernel
theorem dX4_readDigits_48 : decode cX4_readDigits 48 = .ok (.goto (-46), 3) := by decide +kernel
theorem dX4_readDigits_51 : decode cX4_readDigits 51 = .ok (.iconst 1, 1) := by decide +kernel
theorem dX4_readDigits_52 : decode cX4_readDigits 52 = .ok (.ireturn, 1) := by decide +kernel
set_option maxRecDepth 20000 in
theorem ggX4_readColumns_X4_digitHere : GoodIn wsX4_readColumns wsX4_digitHere := goodIn_r _ [6, 7, 8, 9, 5, 10, 11, 12, 13, 14, 15, 16, 17, 18, 19, 20, 26, 27, 28, 29, 30, 31, 32] (by decide +kernel) (by decide +kernel)
set_option maxRecDepth 20000 in
theorem gX4_readColumns_X4_digitHere : GoodIn wsX4_readColumns (wsV RX4 46 RX4 yX4_digitHere wsX4_digitHere) := goodIn_app (goodIn_of _ (by decide +kernel)) ggX4_readColumns_X4_digitHere
set_option maxRecDepth 20000 in
theorem ggX4_readColumns_X7_isWithin : GoodIn wsX4_readColumns wsX7_isWithin := goodIn_r _ [20] (by decide +kernel) (by decide +kernel)
set_option maxRecDepth 20000 in
theorem gX4_readColumns_X7_isWithin_n66 : GoodIn wsX4_readColumns (wsX7_isWithin) := ggX4_readColumns_X7_isWithin
set_option maxRecDepth 20000 in
theorem ggX4_readColumns_X4_readDigits : GoodIn wsX4_readColumns wsX4_readDigits := goodIn_r _ [24, 25, 11, 2, 3, 4, 5, 6, 7, 8, 9, 10, 12, 13, 14, 15, 16, 17, 18, 19, 20, 26, 27, 28, 29, 30, 31, 32] (by decide +kernel) (by decide +kernel)
set_option maxRecDepth 20000 in
theorem gX4_readColumns_X4_readDigits : GoodIn wsX4_readColumns (wsV RX4 53 RX4 yX4_readDigits wsX4_readDigits) := goodIn_app (goodIn_of _ (by decide +kernel)) ggX4_readColumns_X4_readDigits
theorem dX4_readColumns_0 : decode cX4_readColumns 0 = .ok (.aload_n 0, 1) := by decide +kernel
theorem dX4_readColumns_1 : decode cX4_readColumns 1 = .ok (.invokevirtual 46, 3) := by decide +kernel
theorem dX4_readColumns_4 : decode cX4_readColumns 4 = .ok (.istore_n 1, 1) := by decide +kernel
theorem dX4_readColumns_5 : decode cX4_readColumns 5 = .ok (.iload_n 1, 1) := by decide +kernel
theorem dX4_readColumns_6 : decode cX4_readColumns 6 = .ok (.iconst 1, 1) := by decide +kernel
theorem dX4_readColumns_7 : decode cX4_readColumns 7 = .ok (.iconst 3, 1) := by decide +kernel
theorem dX4_readColumns_8 : decode cX4_readColumns 8 = .ok (.invokestatic 66, 3) := by decide +kernel
theorem dX4_readColumns_11 : decode cX4_readColumns 11 = .ok (.ifCond .ne 5, 3) := by decide +kernel
theorem dX4_readColumns_14 : decode cX4_readColumns 14 = .ok (.iconst 0, 1) := by decide +kernel
theorem dX4_readColumns_15 : decode cX4_readColumns 15 = .ok (.ireturn, 1) := by decide +kernel
theorem dX4_readColumns_16 : decode cX4_readColumns 16 = .ok (.aload_n 0, 1) := by decide +kernel
theorem dX4_readColumns_17 : decode cX4_readColumns 17 = .ok (.iload_n 1, 1) := by decide +kernel
theorem dX4_readColumns_18 : decode cX4_readColumns 18 = .ok (.putfield 29, 3) := by decide +kernel
theorem dX4_readColumns_21 : decode cX4_readColumns 21 = .ok (.aload_n 0, 1) := by decide +kernel
theorem dX4_readColumns_22 : decode cX4_readColumns 22 = .ok (.iconst 1, 1) := by decide +kernel
theorem dX4_readColumns_23 : decode cX4_readColumns 23 = .ok (.invokevirtual 53, 3) := by decide +kernel
theorem dX4_readColumns_26 : decode cX4_readColumns 26 = .ok (.ireturn, 1) := by decide +kernel
set_option maxRecDepth 20000 in
theorem ggX4_readRow_X4_readTerm : GoodIn wsX4_readRow wsX4_readTerm := goodIn_r _ [7, 8, 9, 10, 11, 6, 12, 13, 14, 15, 16, 17, 18, 19, 20, 21, 22, 23, 24, 25, 26, 27, 28, 29, 30, 31, 32, 33, 34, 35, 36, 37, 1, 38, 39, 40, 41, 42, 43, 44, 45, 46, 47, 48] (by decide +kernel) (by decide +kernel)
set_option maxRecDepth 20000 in
theorem gX4_readRow_X4_readTerm : GoodIn wsX4_readRow (wsV RX4 70 RX4 yX4_readTerm wsX4_readTerm) := goodIn_app (goodIn_of _ (by decide +kernel)) ggX4_readRow_X4_readTerm
set_option maxRecDepth 20000 in
theorem ggX4_readRow_X4_accept : GoodIn wsX4_readRow wsX4_accept := goodIn_r _ [29, 8, 13, 14, 15, 6, 16, 17, 18, 19, 20, 21, 22, 42, 43, 44, 45, 46, 47, 48] (by decide +kernel) (by decide +kernel)
set_option maxRecDepth 20000 in
theorem gX4_readRow_X4_accept : GoodIn wsX4_readRow (wsV RX4 56 RX4 yX4_accept wsX4_accept) := goodIn_app (goodIn_of _ (by decide +kernel)) ggX4_readRow_X4_accept
theorem dX4_readRow_0 : decode cX4_readRow 0 = .ok (.iconst 0, 1) := by decide +kernel
theorem dX4_readRow_1 : decode cX4_readRow 1 = .ok (.istore_n 1, 1) := by decide +kernel
theorem dX4_readRow_2 : decode cX4_readRow 2 = .ok (.iload_n 1, 1) := by decide +kernel
theorem dX4_readRow_3 : decode cX4_readRow 3 = .ok (.aload_n 0, 1) := by decide +kernel
theorem dX4_readRow_4 : decode cX4_readRow 4 = .ok (.getfield 19, 3) := by decide +kernel
theorem dX4_readRow_7 : decode cX4_readRow 7 = .ok (.arraylength, 1) := by decide +kernel
theorem dX4_readRow_8 : decode cX4_readRow 8 = .ok (.if_icmp .ge 16, 3) := by decide +kernel
theorem dX4_readRow_11 : decode cX4_readRow 11 = .ok (.aload_n 0, 1) := by decide +kernel
theorem dX4_readRow_12 : decode cX4_readRow 12 = .ok (.getfield 19, 3) := by decide +kernel
theorem dX4_readRow_15 : decode cX4_readRow 15 = .ok (.iload_n 1, 1) := by decide +kernel
theorem dX4_readRow_16 : decode cX4_readRow 16 = .ok (.iconst 0, 1) := by decide +kernel
theorem dX4_readRow_17 : decode cX4_readRow 17 = .ok (.iastore, 1) := by decide +kernel
theorem dX4_readRow_18 : decode cX4_readRow 18 = .ok (.iinc 1 1, 3) := by decide +kernel
theorem dX4_readRow_21 : decode cX4_readRow 21 = .ok (.goto (-19), 3) := by decide +kernel
theorem dX4_readRow_24 : decode cX4_readRow 24 = .ok (.iconst 0, 1) := by decide +kernel
theorem dX4_readRow_25 : decode cX4_readRow 25 = .ok (.istore_n 1, 1) := by decide +kernel
theorem dX4_readRow_26 : decode cX4_readRow 26 = .ok (.iconst 0, 1) := by decide +kernel
theorem dX4_readRow_27 : decode cX4_readRow 27 = .ok (.istore_n 2, 1) := by decide +kernel
theorem dX4_readRow_28 : decode cX4_readRow 28 = .ok (.iload_n 2, 1) := by decide +kernel
theorem dX4_readRow_29 : decode cX4_readRow 29 = .ok (.sipush 150, 3) := by decide +kernel
theorem dX4_readRow_32 : decode cX4_readRow 32 = .ok (.if_icmp .ge 52, 3) := by decide +kernel
theorem dX4_readRow_35 : decode cX4_readRow 35 = .ok (.aload_n 0, 1) := by decide +kernel
theorem dX4_readRow_36 : decode cX4_readRow 36 = .ok (.iload_n 1, 1) := by decide +kernel
theorem dX4_readRow_37 : decode cX4_readRow 37 = .ok (.invokevirtual 70, 3) := by decide +kernel
theorem dX4_readRow_40 : decode cX4_readRow 40 = .ok (.ifCond .ne 5, 3) := by decide +kernel
theorem dX4_readRow_43 : decode cX4_readRow 43 = .ok (.iconst 0, 1) := by decide +kernel
theorem dX4_readRow_44 : decode cX4_readRow 44 = .ok (.ireturn, 1) := by decide +kernel
theorem dX4_readRow_45 : decode cX4_readRow 45 = .ok (.aload_n 0, 1) := by decide +kernel
theorem dX4_readRow_46 : decode cX4_readRow 46 = .ok (.bipush 43, 2) := by decide +kernel
theorem dX4_readRow_48 : decode cX4_readRow 48 = .ok (.invokevirtual 56, 3) := by decide +kernel
theorem dX4_readRow_51 : decode cX4_readRow 51 = .ok (.ifCond .ne 27, 3) := by decide +kernel
theorem dX4_readRow_54 : decode cX4_readRow 54 = .ok (.iinc 1 1, 3) := by decide +kernel
theorem dX4_readRow_57 : decode cX4_readRow 57 = .ok (.iload_n 1, 1) := by decide +kernel
theorem dX4_readRow_58 : decode cX4_readRow 58 = .ok (.aload_n 0, 1) := by decide +kernel
theorem dX4_readRow_59 : decode cX4_readRow 59 = .ok (.getfield 29, 3) := by decide +kernel
theorem dX4_readRow_62 : decode cX4_readRow 62 = .ok (.if_icmp .lt 5, 3) := by decide +kernel
theorem dX4_readRow_65 : decode cX4_readRow 65 = .ok (.iconst 1, 1) := by decide +kernel
theorem dX4_readRow_66 : decode cX4_readRow 66 = .ok (.ireturn, 1) := by decide +kernel
theorem dX4_readRow_67 : decode cX4_readRow 67 = .ok (.aload_n 0, 1) := by decide +kernel
theorem dX4_readRow_68 : decode cX4_readRow 68 = .ok (.bipush 44, 2) := by decide +kernel
theorem dX4_readRow_70 : decode cX4_readRow 70 = .ok (.invokevirtual 56, 3) := by decide +kernel
theorem dX4_readRow_73 : decode cX4_readRow 73 = .ok (.ifCond .ne 5, 3) := by decide +kernel
theorem dX4_readRow_76 : decode cX4_readRow 76 = .ok (.iconst 0, 1) := by decide +kernel
theorem dX4_readRow_77 : decode cX4_readRow 77 = .ok (.ireturn, 1) := by decide +kernel
theorem dX4_readRow_78 : decode cX4_readRow 78 = .ok (.iinc 2 1, 3) := by decide +kernel
theorem dX4_readRow_81 : decode cX4_readRow 81 = .ok (.goto (-53), 3) := by decide +kernel
theorem dX4_readRow_84 : decode cX4_readRow 84 = .ok (.iconst 0, 1) := by decide +kernel
theorem dX4_readRow_85 : decode cX4_readRow 85 = .ok (.ireturn, 1) := by decide +kernel
set_option maxRecDepth 20000 in
theorem ggX4_readTerm_X4_digitHere : GoodIn wsX4_readTerm wsX4_digitHere := goodIn_r _ [6, 7, 8, 9, 5, 10, 1, 11, 12, 13, 14, 15, 16, 17, 18, 19, 37, 38, 39, 40, 41, 42, 43] (by decide +kernel) (by decide +kernel)
set_option maxRecDepth 20000 in
theorem gX4_readTerm_X4_digitHere : GoodIn wsX4_readTerm (wsV RX4 46 RX4 yX4_digitHere wsX4_digitHere) := goodIn_app (goodIn_of _ (by decide +kernel)) ggX4_readTerm_X4_digitHere
set_option maxRecDepth 20000 in
theorem ggX4_readTerm_X4_accept : GoodIn wsX4_readTerm wsX4_accept := goodIn_r _ [23, 1, 7, 8, 9, 5, 10, 11, 12, 13, 14, 15, 16, 37, 38, 39, 40, 41, 42, 43] (by decide +kernel) (by decide +kernel)
set_option maxRecDepth 20000 in
theorem gX4_readTerm_X4_accept : GoodIn wsX4_readTerm (wsV RX4 56 RX4 yX4_accept wsX4_accept) := goodIn_app (goodIn_of _ (by decide +kernel)) ggX4_readTerm_X4_accept
set_option maxRecDepth 20000 in
theorem ggX4_readTerm_X4_readPower : GoodIn wsX4_readTerm wsX4_readPower := goodIn_r _ [27, 1, 11, 12, 13, 5, 14, 15, 16, 17, 18, 19, 37, 38, 39, 40, 41, 42, 43] (by decide +kernel) (by decide +kernel)
set_option maxRecDepth 20000 in
theorem gX4_readTerm_X4_readPower : GoodIn wsX4_readTerm (wsV RX4 73 RX4 yX4_readPower wsX4_readPower) := goodIn_app (goodIn_of _ (by decide +kernel)) ggX4_readTerm_X4_readPower
set_option maxRecDepth 20000 in
theorem ggX4_readTerm_X4_addToEntry : GoodIn wsX4_readTerm wsX4_addToEntry := goodIn_r _ [31, 32, 33, 34, 35, 5, 36, 17, 18, 19, 37, 38, 39, 40, 41, 42, 43] (by decide +kernel) (by decide +kernel)
set_option maxRecDepth 20000 in
theorem gX4_readTerm_X4_addToEntry : GoodIn wsX4_readTerm (wsV RX4 76 RX4 yX4_addToEntry wsX4_addToEntry) := goodIn_app (goodIn_of _ (by decide +kernel)) ggX4_readTerm_X4_addToEntry
theorem dX4_readTerm_0 : decode cX4_readTerm 0 = .ok (.aload_n 0, 1) := by decide +kernel
theorem dX4_readTerm_1 : decode cX4_readTerm 1 = .ok (.invokevirtual 46, 3) := by decide +kernel
theorem dX4_readTerm_4 : decode cX4_readTerm 4 = .ok (.istore_n 2, 1) := by decide +kernel
theorem dX4_readTerm_5 : decode cX4_readTerm 5 = .ok (.iload_n 2, 1) := by decide +kernel
theorem dX4_readTerm_6 : decode cX4_readTerm 6 = .ok (.iconst (-1), 1) := by decide +kernel
theorem dX4_readTerm_7 : decode cX4_readTerm 7 = .ok (.if_icmp .eq 13, 3) := by decide +kernel
theorem dX4_readTerm_10 : decode cX4_readTerm 10 = .ok (.aload_n 0, 1) := by decide +kernel
theorem dX4_readTerm_11 : decode cX4_readTerm 11 = .ok (.dup, 1) := by decide +kernel
theorem dX4_readTerm_12 : decode cX4_readTerm 12 = .ok (.getfield 26, 3) := by decide +kernel
theorem dX4_readTerm_15 : decode cX4_readTerm 15 = .ok (.iconst 1, 1) := by decide +kernel
theorem dX4_readTerm_16 : decode cX4_readTerm 16 = .ok (.iadd, 1) := by decide +kernel
theorem dX4_readTerm_17 : decode cX4_readTerm 17 = .ok (.putfield 26, 3) := by decide +kernel
theorem dX4_readTerm_20 : decode cX4_readTerm 20 = .ok (.iconst 0, 1) := by decide +kernel
theorem dX4_readTerm_21 : decode cX4_readTerm 21 = .ok (.istore_n 3, 1) := by decide +kernel
theorem dX4_readTerm_22 : decode cX4_readTerm 22 = .ok (.aload_n 0, 1) := by decide +kernel
theorem dX4_readTerm_23 : decode cX4_readTerm 23 = .ok (.bipush 120, 2) := by decide +kernel
theorem dX4_readTerm_25 : decode cX4_readTerm 25 = .ok (.invokevirtual 56, 3) := by decide +kernel
theorem dX4_readTerm_28 : decode cX4_readTerm 28 = .ok (.ifCond .eq 11, 3) := by decide +kernel
theorem dX4_readTerm_31 : decode cX4_readTerm 31 = .ok (.aload_n 0, 1) := by decide +kernel
theorem dX4_readTerm_32 : decode cX4_readTerm 32 = .ok (.invokevirtual 73, 3) := by decide +kernel
theorem dX4_readTerm_35 : decode cX4_readTerm 35 = .ok (.istore_n 3, 1) := by decide +kernel
theorem dX4_readTerm_36 : decode cX4_readTerm 36 = .ok (.goto 10, 3) := by decide +kernel
theorem dX4_readTerm_39 : decode cX4_readTerm 39 = .ok (.iload_n 2, 1) := by decide +kernel
theorem dX4_readTerm_40 : decode cX4_readTerm 40 = .ok (.iconst (-1), 1) := by decide +kernel
theorem dX4_readTerm_41 : decode cX4_readTerm 41 = .ok (.if_icmp .ne 5, 3) := by decide +kernel
theorem dX4_readTerm_44 : decode cX4_readTerm 44 = .ok (.iconst 0, 1) := by decide +kernel
theorem dX4_readTerm_45 : decode cX4_readTerm 45 = .ok (.ireturn, 1) := by decide +kernel
theorem dX4_readTerm_46 : decode cX4_readTerm 46 = .ok (.aload_n 0, 1) := by decide +kernel
theorem dX4_readTerm_47 : decode cX4_readTerm 47 = .ok (.iload_n 1, 1) := by decide +kernel
theorem dX4_readTerm_48 : decode cX4_readTerm 48 = .ok (.iload_n 3, 1) := by decide +kernel
theorem dX4_readTerm_49 : decode cX4_readTerm 49 = .ok (.iload_n 2, 1) := by decide +kernel
theorem dX4_readTerm_50 : decode cX4_readTerm 50 = .ok (.iconst (-1), 1) := by decide +kernel
theorem dX4_readTerm_51 : decode cX4_readTerm 51 = .ok (.if_icmp .ne 7, 3) := by decide +kernel
theorem dX4_readTerm_54 : decode cX4_readTerm 54 = .ok (.iconst 1, 1) := by decide +kernel
theorem dX4_readTerm_55 : decode cX4_readTerm 55 = .ok (.goto 4, 3) := by decide +kernel
theorem dX4_readTerm_58 : decode cX4_readTerm 58 = .ok (.iload_n 2, 1) := by decide +kernel
theorem dX4_readTerm_59 : decode cX4_readTerm 59 = .ok (.invokevirtual 76, 3) := by decide +kernel
theorem dX4_readTerm_62 : decode cX4_readTerm 62 = .ok (.iconst 1, 1) := by decide +kernel
theorem dX4_readTerm_63 : decode cX4_readTerm 63 = .ok (.ireturn, 1) := by decide +kernel
set_option maxRecDepth 20000 in
theorem ggX4_readPower_X4_byteHere : GoodIn wsX4_readPower wsX4_byteHere := goodIn_r _ [6, 1, 7, 8, 12, 13, 14, 15, 16, 17, 18] (by decide +kernel) (by decide +kernel)
set_option maxRecDepth 20000 in
theorem gX4_readPower_X4_byteHere : GoodIn wsX4_readPower (wsV RX4 39 RX4 yX4_byteHere wsX4_byteHere) := goodIn_app (goodIn_of _ (by decide +kernel)) ggX4_readPower_X4_byteHere
set_option maxRecDepth 20000 in
theorem ggX4_readPower_X7_isWithin : GoodIn wsX4_readPower wsX7_isWithin := goodIn_r _ [11] (by decide +kernel) (by decide +kernel)
set_option maxRecDepth 20000 in
theorem gX4_readPower_X7_isWithin_n66 : GoodIn wsX4_readPower (wsX7_isWithin) := ggX4_readPower_X7_isWithin
theorem dX4_readPower_0 : decode cX4_readPower 0 = .ok (.aload_n 0, 1) := by decide +kernel
theorem dX4_readPower_1 : decode cX4_readPower 1 = .ok (.invokevirtual 39, 3) := by decide +kernel
theorem dX4_readPower_4 : decode cX4_readPower 4 = .ok (.istore_n 1, 1) := by decide +kernel
theorem dX4_readPower_5 : decode cX4_readPower 5 = .ok (.iload_n 1, 1) := by decide +kernel
theorem dX4_readPower_6 : decode cX4_readPower 6 = .ok (.bipush 49, 2) := by decide +kernel
theorem dX4_readPower_8 : decode cX4_readPower 8 = .ok (.bipush 54, 2) := by decide +kernel
theorem dX4_readPower_10 : decode cX4_readPower 10 = .ok (.invokestatic 66, 3) := by decide +kernel
theorem dX4_readPower_13 : decode cX4_readPower 13 = .ok (.ifCond .ne 5, 3) := by decide +kernel
theorem dX4_readPower_16 : decode cX4_readPower 16 = .ok (.iconst 1, 1) := by decide +kernel
theorem dX4_readPower_17 : decode cX4_readPower 17 = .ok (.ireturn, 1) := by decide +kernel
theorem dX4_readPower_18 : decode cX4_readPower 18 = .ok (.aload_n 0, 1) := by decide +kernel
theorem dX4_readPower_19 : decode cX4_readPower 19 = .ok (.dup, 1) := by decide +kernel
theorem dX4_readPower_20 : decode cX4_readPower 20 = .ok (.getfield 26, 3) := by decide +kernel
theorem dX4_readPower_23 : decode cX4_readPower 23 = .ok (.iconst 1, 1) := by decide +kernel
theorem dX4_readPower_24 : decode cX4_readPower 24 = .ok (.iadd, 1) := by decide +kernel
theorem dX4_readPower_25 : decode cX4_readPower 25 = .ok (.putfield 26, 3) := by decide +kernel
theorem dX4_readPower_28 : decode cX4_readPower 28 = .ok (.iload_n 1, 1) := by decide +kernel
theorem dX4_readPower_29 : decode cX4_readPower 29 = .ok (.bipush 48, 2) := by decide +kernel
theorem dX4_readPower_31 : decode cX4_readPower 31 = .ok (.isub, 1) := by decide +kernel
theorem dX4_readPower_32 : decode cX4_readPower 32 = .ok (.ireturn, 1) := by decide +kernel
set_option maxRecDepth 20000 in
theorem ggX4_entryIndex_X7_isWithin : GoodIn wsX4_entryIndex wsX7_isWithin := goodIn_r _ [3] (by decide +kernel) (by decide +kernel)
set_option maxRecDepth 20000 in
theorem gX4_entryIndex_X7_isWithin_n66 : GoodIn wsX4_entryIndex (wsX7_isWithin) := ggX4_entryIndex_X7_isWithin
theorem dX4_entryIndex_0 : decode cX4_entryIndex 0 = .ok (.iload_n 1, 1) := by decide +kernel
theorem dX4_entryIndex_1 : decode cX4_entryIndex 1 = .ok (.iconst 0, 1) := by decide +kernel
theorem dX4_entryIndex_2 : decode cX4_entryIndex 2 = .ok (.iconst 2, 1) := by decide +kernel
theorem dX4_entryIndex_3 : decode cX4_entryIndex 3 = .ok (.invokestatic 66, 3) := by decide +kernel
theorem dX4_entryIndex_6 : decode cX4_entryIndex 6 = .ok (.ifCond .eq 17, 3) := by decide +kernel
theorem dX4_entryIndex_9 : decode cX4_entryIndex 9 = .ok (.iload_n 2, 1) := by decide +kernel
theorem dX4_entryIndex_10 : decode cX4_entryIndex 10 = .ok (.iconst 0, 1) := by decide +kernel
theorem dX4_entryIndex_11 : decode cX4_entryIndex 11 = .ok (.bipush 6, 2) := by decide +kernel
theorem dX4_entryIndex_13 : decode cX4_entryIndex 13 = .ok (.invokestatic 66, 3) := by decide +kernel
theorem dX4_entryIndex_16 : decode cX4_entryIndex 16 = .ok (.ifCond .eq 7, 3) := by decide +kernel
theorem dX4_entryIndex_19 : decode cX4_entryIndex 19 = .ok (.iconst 1, 1) := by decide +kernel
theorem dX4_entryIndex_20 : decode cX4_entryIndex 20 = .ok (.goto 4, 3) := by decide +kernel
theorem dX4_entryIndex_23 : decode cX4_entryIndex 23 = .ok (.iconst 0, 1) := by decide +kernel
theorem dX4_entryIndex_24 : decode cX4_entryIndex 24 = .ok (.istore_n 3, 1) := by decide +kernel
theorem dX4_entryIndex_25 : decode cX4_entryIndex 25 = .ok (.iload_n 3, 1) := by decide +kernel
theorem dX4_entryIndex_26 : decode cX4_entryIndex 26 = .ok (.ifCond .eq 12, 3) := by decide +kernel
theorem dX4_entryIndex_29 : decode cX4_entryIndex 29 = .ok (.iload_n 1, 1) := by decide +kernel
theorem dX4_entryIndex_30 : decode cX4_entryIndex 30 = .ok (.bipush 7, 2) := by decide +kernel
theorem dX4_entryIndex_32 : decode cX4_entryIndex 32 = .ok (.imul, 1) := by decide +kernel
theorem dX4_entryIndex_33 : decode cX4_entryIndex 33 = .ok (.iload_n 2, 1) := by decide +kernel
theorem dX4_entryIndex_34 : decode cX4_entryIndex 34 = .ok (.iadd, 1) := by decide +kernel
theorem dX4_entryIndex_35 : decode cX4_entryIndex 35 = .ok (.goto 4, 3) := by decide +kernel
theorem dX4_entryIndex_38 : decode cX4_entryIndex 38 = .ok (.iconst (-1), 1) := by decide +kernel
theorem dX4_entryIndex_39 : decode cX4_entryIndex 39 = .ok (.ireturn, 1) := by decide +kernel
set_option maxRecDepth 20000 in
theorem ggX4_addToEntry_X4_entryIndex : GoodIn wsX4_addToEntry wsX4_entryIndex := goodIn_r _ [6, 7, 8, 9] (by decide +kernel) (by decide +kernel)
set_option maxRecDepth 20000 in
theorem gX4_addToEntry_X4_entryIndex : GoodIn wsX4_addToEntry (wsV RX4 35 RX4 yX4_entryIndex wsX4_entryIndex) := goodIn_app (goodIn_of _ (by decide +kernel)) ggX4_addToEntry_X4_entryIndex
theorem dX4_addToEntry_0 : decode cX4_addToEntry 0 = .ok (.aload_n 0, 1) := by decide +kernel
theorem dX4_addToEntry_1 : decode cX4_addToEntry 1 = .ok (.iload_n 1, 1) := by decide +kernel
theorem dX4_addToEntry_2 : decode cX4_addToEntry 2 = .ok (.iload_n 2, 1) := by decide +kernel
theorem dX4_addToEntry_3 : decode cX4_addToEntry 3 = .ok (.invokevirtual 35, 3) := by decide +kernel
theorem dX4_addToEntry_6 : decode cX4_addToEntry 6 = .ok (.istore 4, 2) := by decide +kernel
theorem dX4_addToEntry_8 : decode cX4_addToEntry 8 = .ok (.iload 4, 2) := by decide +kernel
theorem dX4_addToEntry_10 : decode cX4_addToEntry 10 = .ok (.ifCond .lt 24, 3) := by decide +kernel
theorem dX4_addToEntry_13 : decode cX4_addToEntry 13 = .ok (.iload 4, 2) := by decide +kernel
theorem dX4_addToEntry_15 : decode cX4_addToEntry 15 = .ok (.aload_n 0, 1) := by decide +kernel
theorem dX4_addToEntry_16 : decode cX4_addToEntry 16 = .ok (.getfield 19, 3) := by decide +kernel
theorem dX4_addToEntry_19 : decode cX4_addToEntry 19 = .ok (.arraylength, 1) := by decide +kernel
theorem dX4_addToEntry_20 : decode cX4_addToEntry 20 = .ok (.if_icmp .ge 14, 3) := by decide +kernel
theorem dX4_addToEntry_23 : decode cX4_addToEntry 23 = .ok (.aload_n 0, 1) := by decide +kernel
theorem dX4_addToEntry_24 : decode cX4_addToEntry 24 = .ok (.getfield 19, 3) := by decide +kernel
theorem dX4_addToEntry_27 : decode cX4_addToEntry 27 = .ok (.iload 4, 2) := by decide +kernel
theorem dX4_addToEntry_29 : decode cX4_addToEntry 29 = .ok (.dup2, 1) := by decide +kernel
theorem dX4_addToEntry_30 : decode cX4_addToEntry 30 = .ok (.iaload, 1) := by decide +kernel
theorem dX4_addToEntry_31 : decode cX4_addToEntry 31 = .ok (.iload_n 3, 1) := by decide +kernel
theorem dX4_addToEntry_32 : decode cX4_addToEntry 32 = .ok (.iadd, 1) := by decide +kernel
theorem dX4_addToEntry_33 : decode cX4_addToEntry 33 = .ok (.iastore, 1) := by decide +kernel
theorem dX4_addToEntry_34 : decode cX4_addToEntry 34 = .ok (.return_, 1) := by decide +kernel
theorem dX5_init_0 : decode cX5_init 0 = .ok (.aload_n 0, 1) := by decide +kernel
theorem dX5_init_1 : decode cX5_init 1 = .ok (.invokespecial 3, 3) := by decide +kernel
theorem dX5_init_4 : decode cX5_init 4 = .ok (.aload_n 0, 1) := by decide +kernel
theorem dX5_init_5 : decode cX5_init 5 = .ok (.iconst 5, 1) := by decide +kernel
theorem dX5_init_6 : decode cX5_init 6 = .ok (.newarray .int, 2) := by decide +kernel
theorem dX5_init_8 : decode cX5_init 8 = .ok (.putfield 9, 3) := by decide +kernel
theorem dX5_init_11 : decode cX5_init 11 = .ok (.return_, 1) := by decide +kernel
set_option maxRecDepth 20000 in
theorem ggX5_measure_X3_placeOf : GoodIn wsX5_measure wsX3_placeOf := goodIn_r _ [12, 13, 14, 15, 16, 11, 17, 18, 19, 20, 21, 22, 23, 24, 25, 26, 27, 28] (by decide +kernel) (by decide +kernel)
set_option maxRecDepth 20000 in
theorem gX5_measure_X3_placeOf : GoodIn wsX5_measure (wsV RX5 28 RX3 yX3_placeOf wsX3_placeOf) := goodIn_app (goodIn_of _ (by decide +kernel)) ggX5_measure_X3_placeOf
theorem dX5_measure_0 : decode cX5_measure 0 = .ok (.aload_n 0, 1) := by decide +kernel
theorem dX5_measure_1 : decode cX5_measure 1 = .ok (.aload_n 1, 1) := by decide +kernel
theorem dX5_measure_2 : decode cX5_measure 2 = .ok (.getfield 15, 3) := by decide +kernel
theorem dX5_measure_5 : decode cX5_measure 5 = .ok (.aload_n 0, 1) := by decide +kernel
theorem dX5_measure_6 : decode cX5_measure 6 = .ok (.getfield 9, 3) := by decide +kernel
theorem dX5_measure_9 : decode cX5_measure 9 = .ok (.arraylength, 1) := by decide +kernel
theorem dX5_measure_10 : decode cX5_measure 10 = .ok (.invokestatic 21, 3) := by decide +kernel
theorem dX5_measure_13 : decode cX5_measure 13 = .ok (.putfield 27, 3) := by decide +kernel
theorem dX5_measure_16 : decode cX5_measure 16 = .ok (.iconst 0, 1) := by decide +kernel
theorem dX5_measure_17 : decode cX5_measure 17 = .ok (.istore_n 2, 1) := by decide +kernel
theorem dX5_measure_18 : decode cX5_measure 18 = .ok (.iload_n 2, 1) := by decide +kernel
theorem dX5_measure_19 : decode cX5_measure 19 = .ok (.aload_n 0, 1) := by decide +kernel
theorem dX5_measure_20 : decode cX5_measure 20 = .ok (.getfield 27, 3) := by decide +kernel
theorem dX5_measure_23 : decode cX5_measure 23 = .ok (.if_icmp .ge 29, 3) := by decide +kernel
theorem dX5_measure_26 : decode cX5_measure 26 = .ok (.iload_n 2, 1) := by decide +kernel
theorem dX5_measure_27 : decode cX5_measure 27 = .ok (.aload_n 0, 1) := by decide +kernel
theorem dX5_measure_28 : decode cX5_measure 28 = .ok (.getfield 9, 3) := by decide +kernel
theorem dX5_measure_31 : decode cX5_measure 31 = .ok (.arraylength, 1) := by decide +kernel
theorem dX5_measure_32 : decode cX5_measure 32 = .ok (.if_icmp .ge 20, 3) := by decide +kernel
theorem dX5_measure_35 : decode cX5_measure 35 = .ok (.aload_n 0, 1) := by decide +kernel
theorem dX5_measure_36 : decode cX5_measure 36 = .ok (.getfield 9, 3) := by decide +kernel
theorem dX5_measure_39 : decode cX5_measure 39 = .ok (.iload_n 2, 1) := by decide +kernel
theorem dX5_measure_40 : decode cX5_measure 40 = .ok (.aload_n 1, 1) := by decide +kernel
theorem dX5_measure_41 : decode cX5_measure 41 = .ok (.iload_n 2, 1) := by decide +kernel
theorem dX5_measure_42 : decode cX5_measure 42 = .ok (.invokevirtual 28, 3) := by decide +kernel
theorem dX5_measure_45 : decode cX5_measure 45 = .ok (.iastore, 1) := by decide +kernel
theorem dX5_measure_46 : decode cX5_measure 46 = .ok (.iinc 2 1, 3) := by decide +kernel
theorem dX5_measure_49 : decode cX5_measure 49 = .ok (.goto (-31), 3) := by decide +kernel
theorem dX5_measure_52 : decode cX5_measure 52 = .ok (.return_, 1) := by decide +kernel
theorem dX5_placeAt_0 : decode cX5_placeAt 0 = .ok (.iload_n 1, 1) := by decide +kernel
theorem dX5_placeAt_1 : decode cX5_placeAt 1 = .ok (.ifCond .lt 21, 3) := by decide +kernel
theorem dX5_placeAt_4 : decode cX5_placeAt 4 = .ok (.iload_n 1, 1) := by decide +kernel
theorem dX5_placeAt_5 : decode cX5_placeAt 5 = .ok (.aload_n 0, 1) := by decide +kernel
theorem dX5_placeAt_6 : decode cX5_placeAt 6 = .ok (.getfield 9, 3) := by decide +kernel
theorem dX5_placeAt_9 : decode cX5_placeAt 9 = .ok (.arraylength, 1) := by decide +kernel
theorem dX5_placeAt_10 : decode cX5_placeAt 10 = .ok (.if_icmp .ge 12, 3) := by decide +kernel
theorem dX5_placeAt_13 : decode cX5_placeAt 13 = .ok (.aload_n 0, 1) := by decide +kernel
theorem dX5_placeAt_14 : decode cX5_placeAt 14 = .ok (.getfield 9, 3) := by decide +kernel
theorem dX5_placeAt_17 : decode cX5_placeAt 17 = .ok (.iload_n 1, 1) := by decide +kernel
theorem dX5_placeAt_18 : decode cX5_placeAt 18 = .ok (.iaload, 1) := by decide +kernel
theorem dX5_placeAt_19 : decode cX5_placeAt 19 = .ok (.goto 4, 3) := by decide +kernel
theorem dX5_placeAt_22 : decode cX5_placeAt 22 = .ok (.iconst (-1), 1) := by decide +kernel
theorem dX5_placeAt_23 : decode cX5_placeAt 23 = .ok (.ireturn, 1) := by decide +kernel
set_option maxRecDepth 20000 in
theorem ggX5_canStep_X5_placeAt : GoodIn wsX5_canStep wsX5_placeAt := goodIn_r _ [5, 6, 10, 11] (by decide +kernel) (by decide +kernel)
set_option maxRecDepth 20000 in
theorem gX5_canStep_X5_placeAt : GoodIn wsX5_canStep (wsV RX5 32 RX5 yX5_placeAt wsX5_placeAt) := goodIn_app (goodIn_of _ (by decide +kernel)) ggX5_canStep_X5_placeAt
set_option maxRecDepth 20000 in
theorem ggX5_canStep_X7_columnAt : GoodIn wsX5_canStep wsX7_columnAt := goodIn_r _ [9] (by decide +kernel) (by decide +kernel)
set_option maxRecDepth 20000 in
theorem gX5_canStep_X7_columnAt_n35 : GoodIn wsX5_canStep (wsX7_columnAt) := ggX5_canStep_X7_columnAt
theorem dX5_canStep_0 : decode cX5_canStep 0 = .ok (.aload_n 0, 1) := by decide +kernel
theorem dX5_canStep_1 : decode cX5_canStep 1 = .ok (.iload_n 1, 1) := by decide +kernel
theorem dX5_canStep_2 : decode cX5_canStep 2 = .ok (.invokevirtual 32, 3) := by decide +kernel
theorem dX5_canStep_5 : decode cX5_canStep 5 = .ok (.istore_n 3, 1) := by decide +kernel
theorem dX5_canStep_6 : decode cX5_canStep 6 = .ok (.aload_n 0, 1) := by decide +kernel
theorem dX5_canStep_7 : decode cX5_canStep 7 = .ok (.iload_n 2, 1) := by decide +kernel
theorem dX5_canStep_8 : decode cX5_canStep 8 = .ok (.invokevirtual 32, 3) := by decide +kernel
theorem dX5_canStep_11 : decode cX5_canStep 11 = .ok (.istore 4, 2) := by decide +kernel
theorem dX5_canStep_13 : decode cX5_canStep 13 = .ok (.iload_n 1, 1) := by decide +kernel
theorem dX5_canStep_14 : decode cX5_canStep 14 = .ok (.iload_n 2, 1) := by decide +kernel
theorem dX5_canStep_15 : decode cX5_canStep 15 = .ok (.if_icmp .eq 36, 3) := by decide +kernel
theorem dX5_canStep_18 : decode cX5_canStep 18 = .ok (.iload_n 3, 1) := by decide +kernel
theorem dX5_canStep_19 : decode cX5_canStep 19 = .ok (.iconst (-1), 1) := by decide +kernel
theorem dX5_canStep_20 : decode cX5_canStep 20 = .ok (.if_icmp .eq 31, 3) := by decide +kernel
theorem dX5_canStep_23 : decode cX5_canStep 23 = .ok (.iload 4, 2) := by decide +kernel
theorem dX5_canStep_25 : decode cX5_canStep 25 = .ok (.iconst (-1), 1) := by decide +kernel
theorem dX5_canStep_26 : decode cX5_canStep 26 = .ok (.if_icmp .eq 25, 3) := by decide +kernel
theorem dX5_canStep_29 : decode cX5_canStep 29 = .ok (.iload 4, 2) := by decide +kernel
theorem dX5_canStep_31 : decode cX5_canStep 31 = .ok (.iload_n 3, 1) := by decide +kernel
theorem dX5_canStep_32 : decode cX5_canStep 32 = .ok (.if_icmp .gt 19, 3) := by decide +kernel
theorem dX5_canStep_35 : decode cX5_canStep 35 = .ok (.iload 4, 2) := by decide +kernel
theorem dX5_canStep_37 : decode cX5_canStep 37 = .ok (.invokestatic 35, 3) := by decide +kernel
theorem dX5_canStep_40 : decode cX5_canStep 40 = .ok (.iload_n 3, 1) := by decide +kernel
theorem dX5_canStep_41 : decode cX5_canStep 41 = .ok (.invokestatic 35, 3) := by decide +kernel
theorem dX5_canStep_44 : decode cX5_canStep 44 = .ok (.if_icmp .ne 7, 3) := by decide +kernel
theorem dX5_canStep_47 : decode cX5_canStep 47 = .ok (.iconst 1, 1) := by decide +kernel
theorem dX5_canStep_48 : decode cX5_canStep 48 = .ok (.goto 4, 3) := by decide +kernel
theorem dX5_canStep_51 : decode cX5_canStep 51 = .ok (.iconst 0, 1) := by decide +kernel
theorem dX5_canStep_52 : decode cX5_canStep 52 = .ok (.ireturn, 1) := by decide +kernel
set_option maxRecDepth 20000 in
theorem ggX5_rowFor_X5_placeAt : GoodIn wsX5_rowFor wsX5_placeAt := goodIn_r _ [6, 7, 13, 14] (by decide +kernel) (by decide +kernel)
set_option maxRecDepth 20000 in
theorem gX5_rowFor_X5_placeAt : GoodIn wsX5_rowFor (wsV RX5 32 RX5 yX5_placeAt wsX5_placeAt) := goodIn_app (goodIn_of _ (by decide +kernel)) ggX5_rowFor_X5_placeAt
set_option maxRecDepth 20000 in
theorem ggX5_rowFor_X7_columnAt : GoodIn wsX5_rowFor wsX7_columnAt := goodIn_r _ [10] (by decide +kernel) (by decide +kernel)
set_option maxRecDepth 20000 in
theorem gX5_rowFor_X7_columnAt_n35 : GoodIn wsX5_rowFor (wsX7_columnAt) := ggX5_rowFor_X7_columnAt
set_option maxRecDepth 20000 in
theorem ggX5_rowFor_X7_powerAt : GoodIn wsX5_rowFor wsX7_powerAt := goodIn_r _ [12] (by decide +kernel) (by decide +kernel)
set_option maxRecDepth 20000 in
theorem gX5_rowFor_X7_powerAt_n38 : GoodIn wsX5_rowFor (wsX7_powerAt) := ggX5_rowFor_X7_powerAt
theorem dX5_rowFor_0 : decode cX5_rowFor 0 = .ok (.iconst 0, 1) := by decide +kernel
theorem dX5_rowFor_1 : decode cX5_rowFor 1 = .ok (.istore 4, 2) := by decide +kernel
theorem dX5_rowFor_3 : decode cX5_rowFor 3 = .ok (.iload 4, 2) := by decide +kernel
theorem dX5_rowFor_5 : decode cX5_rowFor 5 = .ok (.aload_n 0, 1) := by decide +kernel
theorem dX5_rowFor_6 : decode cX5_rowFor 6 = .ok (.getfield 27, 3) := by decide +kernel
theorem dX5_rowFor_9 : decode cX5_rowFor 9 = .ok (.if_icmp .ge 44, 3) := by decide +kernel
theorem dX5_rowFor_12 : decode cX5_rowFor 12 = .ok (.aload_n 0, 1) := by decide +kernel
theorem dX5_rowFor_13 : decode cX5_rowFor 13 = .ok (.iload 4, 2) := by decide +kernel
theorem dX5_rowFor_15 : decode cX5_rowFor 15 = .ok (.invokevirtual 32, 3) := by decide +kernel
theorem dX5_rowFor_18 : decode cX5_rowFor 18 = .ok (.istore 5, 2) := by decide +kernel
theorem dX5_rowFor_20 : decode cX5_rowFor 20 = .ok (.iload 4, 2) := by decide +kernel
theorem dX5_rowFor_22 : decode cX5_rowFor 22 = .ok (.iload_n 3, 1) := by decide +kernel
theorem dX5_rowFor_23 : decode cX5_rowFor 23 = .ok (.if_icmp .eq 24, 3) := by decide +kernel
theorem dX5_rowFor_26 : decode cX5_rowFor 26 = .ok (.iload 5, 2) := by decide +kernel
theorem dX5_rowFor_28 : decode cX5_rowFor 28 = .ok (.invokestatic 35, 3) := by decide +kernel
theorem dX5_rowFor_31 : decode cX5_rowFor 31 = .ok (.iload_n 1, 1) := by decide +kernel
theorem dX5_rowFor_32 : decode cX5_rowFor 32 = .ok (.if_icmp .ne 15, 3) := by decide +kernel
theorem dX5_rowFor_35 : decode cX5_rowFor 35 = .ok (.iload 5, 2) := by decide +kernel
theorem dX5_rowFor_37 : decode cX5_rowFor 37 = .ok (.invokestatic 38, 3) := by decide +kernel
theorem dX5_rowFor_40 : decode cX5_rowFor 40 = .ok (.iload_n 2, 1) := by decide +kernel
theorem dX5_rowFor_41 : decode cX5_rowFor 41 = .ok (.if_icmp .gt 6, 3) := by decide +kernel
theorem dX5_rowFor_44 : decode cX5_rowFor 44 = .ok (.iload 4, 2) := by decide +kernel
theorem dX5_rowFor_46 : decode cX5_rowFor 46 = .ok (.ireturn, 1) := by decide +kernel
theorem dX5_rowFor_47 : decode cX5_rowFor 47 = .ok (.iinc 4 1, 3) := by decide +kernel
theorem dX5_rowFor_50 : decode cX5_rowFor 50 = .ok (.goto (-47), 3) := by decide +kernel
theorem dX5_rowFor_53 : decode cX5_rowFor 53 = .ok (.iconst (-1), 1) := by decide +kernel
theorem dX5_rowFor_54 : decode cX5_rowFor 54 = .ok (.ireturn, 1) := by decide +kernel
set_option maxRecDepth 20000 in
theorem ggX6_init_X5_init : GoodIn wsX6_init wsX5_init := goodIn_r _ [9, 10, 2, 3, 11, 12, 13, 14] (by decide +kernel) (by decide +kernel)
set_option maxRecDepth 20000 in
theorem gX6_init_X5_init_n9 : GoodIn wsX6_init (wsX5_init) := ggX6_init_X5_init
theorem dX6_init_0 : decode cX6_init 0 = .ok (.aload_n 0, 1) := by decide +kernel
theorem dX6_init_1 : decode cX6_init 1 = .ok (.invokespecial 1, 3) := by decide +kernel
theorem dX6_init_4 : decode cX6_init 4 = .ok (.aload_n 0, 1) := by decide +kernel
theorem dX6_init_5 : decode cX6_init 5 = .ok (.new 7, 3) := by decide +kernel
theorem dX6_init_8 : decode cX6_init 8 = .ok (.dup, 1) := by decide +kernel
theorem dX6_init_9 : decode cX6_init 9 = .ok (.invokespecial 9, 3) := by decide +kernel
theorem dX6_init_12 : decode cX6_init 12 = .ok (.putfield 10, 3) := by decide +kernel
theorem dX6_init_15 : decode cX6_init 15 = .ok (.return_, 1) := by decide +kernel
set_option maxRecDepth 20000 in
theorem ggX6_find_X5_measure : GoodIn wsX6_find wsX5_measure := goodIn_r _ [12, 13, 14, 15, 16, 17, 18, 19, 20, 21, 22, 23, 24, 25, 26, 27, 28, 29, 30, 31, 32, 33, 69, 70, 71, 72, 73, 74, 75, 67, 68] (by decide +kernel) (by decide +kernel)
set_option maxRecDepth 20000 in
theorem gX6_find_X5_measure : GoodIn wsX6_find (wsV RX6 16 RX5 yX5_measure wsX5_measure) := goodIn_app (goodIn_of _ (by decide +kernel)) ggX6_find_X5_measure
set_option maxRecDepth 20000 in
theorem ggX6_find_X5_canStep : GoodIn wsX6_find wsX5_canStep := goodIn_r _ [37, 38, 39, 40, 11, 41, 14, 42, 43, 44, 67, 68] (by decide +kernel) (by decide +kernel)
set_option maxRecDepth 20000 in
theorem gX6_find_X5_canStep : GoodIn wsX6_find (wsV RX6 24 RX5 yX5_canStep wsX5_canStep) := goodIn_app (goodIn_of _ (by decide +kernel)) ggX6_find_X5_canStep
set_option maxRecDepth 20000 in
theorem ggX6_find_X3_leadOf : GoodIn wsX6_find wsX3_leadOf := goodIn_r _ [48, 49, 21, 22, 23, 24, 25, 26, 27, 28, 29, 30, 31, 32, 33, 42, 43, 44, 50, 51, 69, 70, 71, 72, 73, 74, 75] (by decide +kernel) (by decide +kernel)
set_option maxRecDepth 20000 in
theorem gX6_find_X3_leadOf : GoodIn wsX6_find (wsV RX6 34 RX3 yX3_leadOf wsX3_leadOf) := goodIn_app (goodIn_of _ (by decide +kernel)) ggX6_find_X3_leadOf
set_option maxRecDepth 20000 in
theorem ggX6_find_X7_inverse : GoodIn wsX6_find wsX7_inverse := goodIn_r _ [53, 54, 55, 43, 56, 57, 58, 59, 60] (by decide +kernel) (by decide +kernel)
set_option maxRecDepth 20000 in
theorem gX6_find_X7_inverse_n43 : GoodIn wsX6_find (wsX7_inverse) := ggX6_find_X7_inverse
set_option maxRecDepth 20000 in
theorem ggX6_find_X7_modulo : GoodIn wsX6_find wsX7_modulo := goodIn_r _ [56, 57, 58, 59, 60] (by decide +kernel) (by decide +kernel)
set_option maxRecDepth 20000 in
theorem gX6_find_X7_modulo_n49 : GoodIn wsX6_find (wsX7_modulo) := ggX6_find_X7_modulo
set_option maxRecDepth 20000 in
theorem ggX6_find_X5_placeAt : GoodIn wsX6_find wsX5_placeAt := goodIn_r _ [41, 14, 67, 68] (by decide +kernel) (by decide +kernel)
set_option maxRecDepth 20000 in
theorem gX6_find_X5_placeAt : GoodIn wsX6_find (wsV RX6 55 RX5 yX5_placeAt wsX5_placeAt) := goodIn_app (goodIn_of _ (by decide +kernel)) ggX6_find_X5_placeAt
set_option maxRecDepth 20000 in
theorem ggX6_find_X7_powerAt : GoodIn wsX6_find wsX7_powerAt := goodIn_r _ [51] (by decide +kernel) (by decide +kernel)
set_option maxRecDepth 20000 in
theorem gX6_find_X7_powerAt_n58 : GoodIn wsX6_find (wsX7_powerAt) := ggX6_find_X7_powerAt
theorem dX6_find_0 : decode cX6_find 0 = .ok (.aload_n 0, 1) := by decide +kernel
theorem dX6_find_1 : decode cX6_find 1 = .ok (.getfield 10, 3) := by decide +kernel
theorem dX6_find_4 : decode cX6_find 4 = .ok (.aload_n 1, 1) := by decide +kernel
theorem dX6_find_5 : decode cX6_find 5 = .ok (.invokevirtual 16, 3) := by decide +kernel
theorem dX6_find_8 : decode cX6_find 8 = .ok (.iconst 0, 1) := by decide +kernel
theorem dX6_find_9 : decode cX6_find 9 = .ok (.istore_n 2, 1) := by decide +kernel
theorem dX6_find_10 : decode cX6_find 10 = .ok (.iload_n 2, 1) := by decide +kernel
theorem dX6_find_11 : decode cX6_find 11 = .ok (.aload_n 0, 1) := by decide +kernel
theorem dX6_find_12 : decode cX6_find 12 = .ok (.getfield 10, 3) := by decide +kernel
theorem dX6_find_15 : decode cX6_find 15 = .ok (.getfield 20, 3) := by decide +kernel
theorem dX6_find_18 : decode cX6_find 18 = .ok (.if_icmp .ge 109, 3) := by decide +kernel
theorem dX6_find_21 : decode cX6_find 21 = .ok (.iconst 0, 1) := by decide +kernel
theorem dX6_find_22 : decode cX6_find 22 = .ok (.istore_n 3, 1) := by decide +kernel
theorem dX6_find_23 : decode cX6_find 23 = .ok (.iload_n 3, 1) := by decide +kernel
theorem dX6_find_24 : decode cX6_find 24 = .ok (.aload_n 0, 1) := by decide +kernel
theorem dX6_find_25 : decode cX6_find 25 = .ok (.getfield 10, 3) := by decide +kernel
theorem dX6_find_28 : decode cX6_find 28 = .ok (.getfield 20, 3) := by decide +kernel
theorem dX6_find_31 : decode cX6_find 31 = .ok (.if_icmp .ge 90, 3) := by decide +kernel
theorem dX6_find_34 : decode cX6_find 34 = .ok (.aload_n 0, 1) := by decide +kernel
theorem dX6_find_35 : decode cX6_find 35 = .ok (.getfield 10, 3) := by decide +kernel
theorem dX6_find_38 : decode cX6_find 38 = .ok (.iload_n 2, 1) := by decide +kernel
theorem dX6_find_39 : decode cX6_find 39 = .ok (.iload_n 3, 1) := by decide +kernel
theorem dX6_find_40 : decode cX6_find 40 = .ok (.invokevirtual 24, 3) := by decide +kernel
theorem dX6_find_43 : decode cX6_find 43 = .ok (.ifCond .eq 72, 3) := by decide +kernel
theorem dX6_find_46 : decode cX6_find 46 = .ok (.aload_n 0, 1) := by decide +kernel
theorem dX6_find_47 : decode cX6_find 47 = .ok (.iload_n 2, 1) := by decide +kernel
theorem dX6_find_48 : decode cX6_find 48 = .ok (.putfield 28, 3) := by decide +kernel
theorem dX6_find_51 : decode cX6_find 51 = .ok (.aload_n 0, 1) := by decide +kernel
theorem dX6_find_52 : decode cX6_find 52 = .ok (.iload_n 3, 1) := by decide +kernel
theorem dX6_find_53 : decode cX6_find 53 = .ok (.putfield 31, 3) := by decide +kernel
theorem dX6_find_56 : decode cX6_find 56 = .ok (.aload_n 0, 1) := by decide +kernel
theorem dX6_find_57 : decode cX6_find 57 = .ok (.aload_n 1, 1) := by decide +kernel
theorem dX6_find_58 : decode cX6_find 58 = .ok (.iload_n 2, 1) := by decide +kernel
theorem dX6_find_59 : decode cX6_find 59 = .ok (.invokevirtual 34, 3) := by decide +kernel
theorem dX6_find_62 : decode cX6_find 62 = .ok (.ineg, 1) := by decide +kernel
theorem dX6_find_63 : decode cX6_find 63 = .ok (.aload_n 1, 1) := by decide +kernel
theorem dX6_find_64 : decode cX6_find 64 = .ok (.iload_n 3, 1) := by decide +kernel
theorem dX6_find_65 : decode cX6_find 65 = .ok (.invokevirtual 34, 3) := by decide +kernel
theorem dX6_find_68 : decode cX6_find 68 = .ok (.aload_n 1, 1) := by decide +kernel
theorem dX6_find_69 : decode cX6_find 69 = .ok (.getfield 40, 3) := by decide +kernel
theorem dX6_find_72 : decode cX6_find 72 = .ok (.invokestatic 43, 3) := by decide +kernel
theorem dX6_find_75 : decode cX6_find 75 = .ok (.imul, 1) := by decide +kernel
theorem dX6_find_76 : decode cX6_find 76 = .ok (.aload_n 1, 1) := by decide +kernel
theorem dX6_find_77 : decode cX6_find 77 = .ok (.getfield 40, 3) := by decide +kernel
theorem dX6_find_80 : decode cX6_find 80 = .ok (.invokestatic 49, 3) := by decide +kernel
theorem dX6_find_83 : decode cX6_find 83 = .ok (.putfield 52, 3) := by decide +kernel
theorem dX6_find_86 : decode cX6_find 86 = .ok (.aload_n 0, 1) := by decide +kernel
theorem dX6_find_87 : decode cX6_find 87 = .ok (.aload_n 0, 1) := by decide +kernel
theorem dX6_find_88 : decode cX6_find 88 = .ok (.getfield 10, 3) := by decide +kernel
theorem dX6_find_91 : decode cX6_find 91 = .ok (.iload_n 2, 1) := by decide +kernel
theorem dX6_find_92 : decode cX6_find 92 = .ok (.invokevirtual 55, 3) := by decide +kernel
theorem dX6_find_95 : decode cX6_find 95 = .ok (.invokestatic 58, 3) := by decide +kernel
theorem dX6_find_98 : decode cX6_find 98 = .ok (.aload_n 0, 1) := by decide +kernel
theorem dX6_find_99 : decode cX6_find 99 = .ok (.getfield 10, 3) := by decide +kernel
theorem dX6_find_102 : decode cX6_find 102 = .ok (.iload_n 3, 1) := by decide +kernel
theorem dX6_find_103 : decode cX6_find 103 = .ok (.invokevirtual 55, 3) := by decide +kernel
theorem dX6_find_106 : decode cX6_find 106 = .ok (.invokestatic 58, 3) := by decide +kernel
theorem dX6_find_109 : decode cX6_find 109 = .ok (.isub, 1) := by decide +kernel
theorem dX6_find_110 : decode cX6_find 110 = .ok (.putfield 61, 3) := by decide +kernel
theorem dX6_find_113 : decode cX6_find 113 = .ok (.iconst 1, 1) := by decide +kernel
theorem dX6_find_114 : decode cX6_find 114 = .ok (.ireturn, 1) := by decide +kernel
theorem dX6_find_115 : decode cX6_find 115 = .ok (.iinc 3 1, 3) := by decide +kernel
theorem dX6_find_118 : decode cX6_find 118 = .ok (.goto (-95), 3) := by decide +kernel
theorem dX6_find_121 : decode cX6_find 121 = .ok (.iinc 2 1, 3) := by decide +kernel
theorem dX6_find_124 : decode cX6_find 124 = .ok (.goto (-114), 3) := by decide +kernel
theorem dX6_find_127 : decode cX6_find 127 = .ok (.iconst 0, 1) := by decide +kernel
theorem dX6_find_128 : decode cX6_find 128 = .ok (.ireturn, 1) := by decide +kernel
set_option maxRecDepth 20000 in
theorem ggX7_init_X7_newState : GoodIn wsX7_init wsX7_newState := goodIn_r _ [31, 32, 33, 34, 35, 36, 37, 38, 2, 3, 39, 40, 41, 42, 43, 44, 45, 46, 47, 48, 49, 124, 125, 126, 127, 128, 129, 130] (by decide +kernel) (by decide +kernel)
set_option maxRecDepth 20000 in
theorem gX7_init_X7_newState : GoodIn wsX7_init (va_wsS RX7 9 yX7_newState wsX7_newState) := goodIn_app (goodIn_of _ (by decide +kernel)) ggX7_init_X7_newState
set_option maxRecDepth 20000 in
theorem ggX7_init_X1_init : GoodIn wsX7_init wsX1_init := goodIn_r _ [52, 53, 2, 3, 54, 55, 29, 30, 31, 32, 33, 34, 35, 36, 37, 38, 39, 40, 41, 42, 43, 44, 45, 46, 47, 48, 49, 103, 104, 124, 125, 126, 127, 128, 129, 130] (by decide +kernel) (by decide +kernel)
set_option maxRecDepth 20000 in
theorem gX7_init_X1_init : GoodIn wsX7_init (wsX1_init) := ggX7_init_X1_init
set_option maxRecDepth 20000 in
theorem ggX7_init_X2_init : GoodIn wsX7_init wsX2_init := goodIn_r _ [57, 58, 2, 3, 59, 33, 34, 60, 61, 62, 20, 21, 63, 64, 65, 66, 67, 68, 36, 37, 38, 39, 40, 41, 42, 43, 44, 45, 46, 47, 48, 49, 69, 70, 71, 72, 73, 74, 75, 76, 77, 124, 125, 126, 127, 128, 129, 130, 105, 106, 107, 108, 112, 113, 114, 115, 116, 131, 132] (by decide +kernel) (by decide +kernel)
set_option maxRecDepth 20000 in
theorem gX7_init_X2_init_n29 : GoodIn wsX7_init (wsX2_init) := ggX7_init_X2_init
set_option maxRecDepth 20000 in
theorem ggX7_init_X0_init : GoodIn wsX7_init wsX0_init := goodIn_r _ [79, 80, 2, 3, 48, 81, 82, 109, 110, 111] (by decide +kernel) (by decide +kernel)
set_option maxRecDepth 20000 in
theorem gX7_init_X0_init_n39 : GoodIn wsX7_init (wsX0_init) := ggX7_init_X0_init
set_option maxRecDepth 20000 in
theorem ggX7_init_X6_init : GoodIn wsX7_init wsX6_init := goodIn_r _ [70, 71, 2, 3, 72, 65, 66, 73, 74, 75, 76, 48, 77, 131, 132, 112, 113, 114, 115, 116] (by decide +kernel) (by decide +kernel)
set_option maxRecDepth 20000 in
theorem gX7_init_X6_init_n46 : GoodIn wsX7_init (wsX6_init) := ggX7_init_X6_init
set_option maxRecDepth 20000 in
theorem ggX7_init_X4_init : GoodIn wsX7_init wsX4_init := goodIn_r _ [84, 85, 2, 3, 86, 87, 48, 88, 89, 117, 118, 119, 120, 121, 122, 123] (by decide +kernel) (by decide +kernel)
set_option maxRecDepth 20000 in
theorem gX7_init_X4_init_n53 : GoodIn wsX7_init (wsX4_init) := ggX7_init_X4_init
theorem dX7_init_0 : decode cX7_init 0 = .ok (.aload_n 0, 1) := by decide +kernel
theorem dX7_init_1 : decode cX7_init 1 = .ok (.invokespecial 3, 3) := by decide +kernel
theorem dX7_init_4 : decode cX7_init 4 = .ok (.aload_n 0, 1) := by decide +kernel
theorem dX7_init_5 : decode cX7_init 5 = .ok (.invokestatic 9, 3) := by decide +kernel
theorem dX7_init_8 : decode cX7_init 8 = .ok (.putfield 13, 3) := by decide +kernel
theorem dX7_init_11 : decode cX7_init 11 = .ok (.aload_n 0, 1) := by decide +kernel
theorem dX7_init_12 : decode cX7_init 12 = .ok (.invokestatic 9, 3) := by decide +kernel
theorem dX7_init_15 : decode cX7_init 15 = .ok (.putfield 17, 3) := by decide +kernel
theorem dX7_init_18 : decode cX7_init 18 = .ok (.aload_n 0, 1) := by decide +kernel
theorem dX7_init_19 : decode cX7_init 19 = .ok (.new 20, 3) := by decide +kernel
theorem dX7_init_22 : decode cX7_init 22 = .ok (.dup, 1) := by decide +kernel
theorem dX7_init_23 : decode cX7_init 23 = .ok (.invokespecial 22, 3) := by decide +kernel
theorem dX7_init_26 : decode cX7_init 26 = .ok (.putfield 23, 3) := by decide +kernel
theorem dX7_init_29 : decode cX7_init 29 = .ok (.aload_n 0, 1) := by decide +kernel
theorem dX7_init_30 : decode cX7_init 30 = .ok (.new 27, 3) := by decide +kernel
theorem dX7_init_33 : decode cX7_init 33 = .ok (.dup, 1) := by decide +kernel
theorem dX7_init_34 : decode cX7_init 34 = .ok (.invokespecial 29, 3) := by decide +kernel
theorem dX7_init_37 : decode cX7_init 37 = .ok (.putfield 30, 3) := by decide +kernel
theorem dX7_init_40 : decode cX7_init 40 = .ok (.aload_n 0, 1) := by decide +kernel
theorem dX7_init_41 : decode cX7_init 41 = .ok (.new 27, 3) := by decide +kernel
theorem dX7_init_44 : decode cX7_init 44 = .ok (.dup, 1) := by decide +kernel
theorem dX7_init_45 : decode cX7_init 45 = .ok (.invokespecial 29, 3) := by decide +kernel
theorem dX7_init_48 : decode cX7_init 48 = .ok (.putfield 34, 3) := by decide +kernel
theorem dX7_init_51 : decode cX7_init 51 = .ok (.aload_n 0, 1) := by decide +kernel
theorem dX7_init_52 : decode cX7_init 52 = .ok (.new 37, 3) := by decide +kernel
theorem dX7_init_55 : decode cX7_init 55 = .ok (.dup, 1) := by decide +kernel
theorem dX7_init_56 : decode cX7_init 56 = .ok (.invokespecial 39, 3) := by decide +kernel
theorem dX7_init_59 : decode cX7_init 59 = .ok (.putfield 40, 3) := by decide +kernel
theorem dX7_init_62 : decode cX7_init 62 = .ok (.aload_n 0, 1) := by decide +kernel
theorem dX7_init_63 : decode cX7_init 63 = .ok (.new 44, 3) := by decide +kernel
theorem dX7_init_66 : decode cX7_init 66 = .ok (.dup, 1) := by decide +kernel
theorem dX7_init_67 : decode cX7_init 67 = .ok (.invokespecial 46, 3) := by decide +kernel
theorem dX7_init_70 : decode cX7_init 70 = .ok (.putfield 47, 3) := by decide +kernel
theorem dX7_init_73 : decode cX7_init 73 = .ok (.aload_n 0, 1) := by decide +kernel
theorem dX7_init_74 : decode cX7_init 74 = .ok (.new 51, 3) := by decide +kernel
theorem dX7_init_77 : decode cX7_init 77 = .ok (.dup, 1) := by decide +kernel
theorem dX7_init_78 : decode cX7_init 78 = .ok (.invokespecial 53, 3) := by decide +kernel
theorem dX7_init_81 : decode cX7_init 81 = .ok (.putfield 54, 3) := by decide +kernel
theorem dX7_init_84 : decode cX7_init 84 = .ok (.aload_n 0, 1) := by decide +kernel
theorem dX7_init_85 : decode cX7_init 85 = .ok (.iconst (-1), 1) := by decide +kernel
theorem dX7_init_86 : decode cX7_init 86 = .ok (.putfield 58, 3) := by decide +kernel
theorem dX7_init_89 : decode cX7_init 89 = .ok (.return_, 1) := by decide +kernel
set_option maxRecDepth 20000 in
theorem ggX7_prime_X3_copyFrom : GoodIn wsX7_prime wsX3_copyFrom := goodIn_r _ [7, 8, 9, 10, 11, 12, 13, 14, 15, 16, 17, 18, 19, 74, 75, 76, 77, 78, 79, 80] (by decide +kernel) (by decide +kernel)
set_option maxRecDepth 20000 in
theorem gX7_prime_X3_copyFrom : GoodIn wsX7_prime (wsV RX7 62 RX3 yX3_copyFrom wsX3_copyFrom) := goodIn_app (goodIn_of _ (by decide +kernel)) ggX7_prime_X3_copyFrom
set_option maxRecDepth 20000 in
theorem ggX7_prime_X7_changePrime : GoodIn wsX7_prime wsX7_changePrime := goodIn_r _ [24, 2, 25, 26, 27, 28, 23, 29, 30, 31, 32, 6, 33, 8, 9, 10, 61, 62, 63, 64, 65, 66, 67, 68, 69, 70, 71, 72, 73, 74, 75, 76, 77, 78, 79, 80] (by decide +kernel) (by decide +kernel)
set_option maxRecDepth 20000 in
theorem gX7_prime_X7_changePrime : GoodIn wsX7_prime (wsV RX7 68 RX7 yX7_changePrime wsX7_changePrime) := goodIn_app (goodIn_of _ (by decide +kernel)) ggX7_prime_X7_changePrime
set_option maxRecDepth 20000 in
theorem ggX7_prime_X7_settle : GoodIn wsX7_prime wsX7_settle := goodIn_r _ [37, 38, 1, 39, 40, 23, 41, 42, 43, 44, 45, 46, 47, 48, 49, 50, 51, 52, 53, 54, 55, 56, 57, 58, 59, 60, 4, 5, 6, 7, 8, 9, 10, 11, 12, 13, 14, 15, 16, 17, 18, 19, 61, 62, 63, 64, 65, 66, 67, 68, 69, 70, 71, 72, 73, 81, 82, 74, 75, 76, 77, 78, 79, 80] (by decide +kernel) (by decide +kernel)
set_option maxRecDepth 20000 in
theorem gX7_prime_X7_settle : GoodIn wsX7_prime (wsV RX7 72 RX7 yX7_settle wsX7_settle) := goodIn_app (goodIn_of _ (by decide +kernel)) ggX7_prime_X7_settle
theorem dX7_prime_0 : decode cX7_prime 0 = .ok (.aload_n 0, 1) := by decide +kernel
theorem dX7_prime_1 : decode cX7_prime 1 = .ok (.getfield 17, 3) := by decide +kernel
theorem dX7_prime_4 : decode cX7_prime 4 = .ok (.aload_n 0, 1) := by decide +kernel
theorem dX7_prime_5 : decode cX7_prime 5 = .ok (.getfield 13, 3) := by decide +kernel
theorem dX7_prime_8 : decode cX7_prime 8 = .ok (.invokevirtual 62, 3) := by decide +kernel
theorem dX7_prime_11 : decode cX7_prime 11 = .ok (.aload_n 0, 1) := by decide +kernel
theorem dX7_prime_12 : decode cX7_prime 12 = .ok (.aload_n 0, 1) := by decide +kernel
theorem dX7_prime_13 : decode cX7_prime 13 = .ok (.iload_n 1, 1) := by decide +kernel
theorem dX7_prime_14 : decode cX7_prime 14 = .ok (.invokevirtual 68, 3) := by decide +kernel
theorem dX7_prime_17 : decode cX7_prime 17 = .ok (.invokevirtual 72, 3) := by decide +kernel
theorem dX7_prime_20 : decode cX7_prime 20 = .ok (.ireturn, 1) := by decide +kernel
set_option maxRecDepth 20000 in
theorem ggX7_columns_X3_copyFrom : GoodIn wsX7_columns wsX3_copyFrom := goodIn_r _ [7, 8, 9, 10, 11, 12, 13, 14, 15, 16, 17, 18, 19, 74, 75, 76, 77, 78, 79, 80] (by decide +kernel) (by decide +kernel)
set_option maxRecDepth 20000 in
theorem gX7_columns_X3_copyFrom : GoodIn wsX7_columns (wsV RX7 62 RX3 yX3_copyFrom wsX3_copyFrom) := goodIn_app (goodIn_of _ (by decide +kernel)) ggX7_columns_X3_copyFrom
set_option maxRecDepth 20000 in
theorem ggX7_columns_X7_changeColumns : GoodIn wsX7_columns wsX7_changeColumns := goodIn_r _ [24, 2, 25, 26, 27, 28, 23, 29, 30, 31, 32, 6, 33, 8, 9, 10, 61, 62, 63, 64, 65, 66, 67, 68, 69, 70, 71, 72, 73, 74, 75, 76, 77, 78, 79, 80] (by decide +kernel) (by decide +kernel)
set_option maxRecDepth 20000 in
theorem gX7_columns_X7_changeColumns : GoodIn wsX7_columns (wsV RX7 75 RX7 yX7_changeColumns wsX7_changeColumns) := goodIn_app (goodIn_of _ (by decide +kernel)) ggX7_columns_X7_changeColumns
set_option maxRecDepth 20000 in
theorem ggX7_columns_X7_settle : GoodIn wsX7_columns wsX7_settle := goodIn_r _ [37, 38, 1, 39, 40, 23, 41, 42, 43, 44, 45, 46, 47, 48, 49, 50, 51, 52, 53, 54, 55, 56, 57, 58, 59, 60, 4, 5, 6, 7, 8, 9, 10, 11, 12, 13, 14, 15, 16, 17, 18, 19, 61, 62, 63, 64, 65, 66, 67, 68, 69, 70, 71, 72, 73, 81, 82, 74, 75, 76, 77, 78, 79, 80] (by decide +kernel) (by decide +kernel)
set_option maxRecDepth 20000 in
theorem gX7_columns_X7_settle : GoodIn wsX7_columns (wsV RX7 72 RX7 yX7_settle wsX7_settle) := goodIn_app (goodIn_of _ (by decide +kernel)) ggX7_columns_X7_settle
theorem dX7_columns_0 : decode cX7_columns 0 = .ok (.aload_n 0, 1) := by decide +kernel
theorem dX7_columns_1 : decode cX7_columns 1 = .ok (.getfield 17, 3) := by decide +kernel
theorem dX7_columns_4 : decode cX7_columns 4 = .ok (.aload_n 0, 1) := by decide +kernel
theorem dX7_columns_5 : decode cX7_columns 5 = .ok (.getfield 13, 3) := by decide +kernel
theorem dX7_columns_8 : decode cX7_columns 8 = .ok (.invokevirtual 62, 3) := by decide +kernel
theorem dX7_columns_11 : decode cX7_columns 11 = .ok (.aload_n 0, 1) := by decide +kernel
theorem dX7_columns_12 : decode cX7_columns 12 = .ok (.aload_n 0, 1) := by decide +kernel
theorem dX7_columns_13 : decode cX7_columns 13 = .ok (.iload_n 1, 1) := by decide +kernel
theorem dX7_columns_14 : decode cX7_columns 14 = .ok (.invokevirtual 75, 3) := by decide +kernel
theorem dX7_columns_17 : decode cX7_columns 17 = .ok (.invokevirtual 72, 3) := by decide +kernel
theorem dX7_columns_20 : decode cX7_columns 20 = .ok (.ireturn, 1) := by decide +kernel
set_option maxRecDepth 20000 in
theorem ggX7_row_X3_copyFrom : GoodIn wsX7_row wsX3_copyFrom := goodIn_r _ [7, 8, 9, 10, 11, 12, 13, 14, 15, 16, 17, 18, 19, 86, 87, 88, 89, 90, 91, 92] (by decide +kernel) (by decide +kernel)
set_option maxRecDepth 20000 in
theorem gX7_row_X3_copyFrom : GoodIn wsX7_row (wsV RX7 62 RX3 yX3_copyFrom wsX3_copyFrom) := goodIn_app (goodIn_of _ (by decide +kernel)) ggX7_row_X3_copyFrom
set_option maxRecDepth 20000 in
theorem ggX7_row_X3_append : GoodIn wsX7_row wsX3_append := goodIn_r _ [23, 10, 24, 25, 26, 27, 6, 28, 29, 30, 31, 32, 33, 34, 11, 35, 36, 37, 38, 8, 39, 40, 41, 42, 43, 44, 45, 86, 87, 88, 89, 90, 91, 92] (by decide +kernel) (by decide +kernel)
set_option maxRecDepth 20000 in
theorem gX7_row_X3_append : GoodIn wsX7_row (wsV RX7 78 RX3 yX3_append wsX3_append) := goodIn_app (goodIn_of _ (by decide +kernel)) ggX7_row_X3_append
set_option maxRecDepth 20000 in
theorem ggX7_row_X7_settle : GoodIn wsX7_row wsX7_settle := goodIn_r _ [49, 50, 1, 51, 52, 40, 53, 54, 55, 56, 57, 58, 59, 60, 61, 62, 63, 64, 65, 66, 67, 68, 69, 70, 71, 72, 4, 5, 6, 7, 8, 9, 10, 11, 12, 13, 14, 15, 16, 17, 18, 19, 73, 74, 75, 76, 77, 78, 79, 80, 81, 82, 83, 84, 85, 93, 94, 86, 87, 88, 89, 90, 91, 92] (by decide +kernel) (by decide +kernel)
set_option maxRecDepth 20000 in
theorem gX7_row_X7_settle : GoodIn wsX7_row (wsV RX7 72 RX7 yX7_settle wsX7_settle) := goodIn_app (goodIn_of _ (by decide +kernel)) ggX7_row_X7_settle
theorem dX7_row_0 : decode cX7_row 0 = .ok (.aload_n 0, 1) := by decide +kernel
theorem dX7_row_1 : decode cX7_row 1 = .ok (.getfield 17, 3) := by decide +kernel
theorem dX7_row_4 : decode cX7_row 4 = .ok (.aload_n 0, 1) := by decide +kernel
theorem dX7_row_5 : decode cX7_row 5 = .ok (.getfield 13, 3) := by decide +kernel
theorem dX7_row_8 : decode cX7_row 8 = .ok (.invokevirtual 62, 3) := by decide +kernel
theorem dX7_row_11 : decode cX7_row 11 = .ok (.aload_n 0, 1) := by decide +kernel
theorem dX7_row_12 : decode cX7_row 12 = .ok (.aload_n 0, 1) := by decide +kernel
theorem dX7_row_13 : decode cX7_row 13 = .ok (.getfield 13, 3) := by decide +kernel
theorem dX7_row_16 : decode cX7_row 16 = .ok (.invokevirtual 78, 3) := by decide +kernel
theorem dX7_row_19 : decode cX7_row 19 = .ok (.invokevirtual 72, 3) := by decide +kernel
theorem dX7_row_22 : decode cX7_row 22 = .ok (.ireturn, 1) := by decide +kernel
set_option maxRecDepth 20000 in
theorem ggX7_sets_X3_hasRow : GoodIn wsX7_sets wsX3_hasRow := goodIn_r _ [7, 8, 89, 90, 91, 92, 93, 94, 95] (by decide +kernel) (by decide +kernel)
set_option maxRecDepth 20000 in
theorem gX7_sets_X3_hasRow : GoodIn wsX7_sets (wsV RX7 82 RX3 yX3_hasRow wsX3_hasRow) := goodIn_app (goodIn_of _ (by decide +kernel)) ggX7_sets_X3_hasRow
set_option maxRecDepth 20000 in
theorem ggX7_sets_X3_hasColumn : GoodIn wsX7_sets wsX3_hasColumn := goodIn_r _ [12, 13, 89, 90, 91, 92, 93, 94, 95] (by decide +kernel) (by decide +kernel)
set_option maxRecDepth 20000 in
theorem gX7_sets_X3_hasColumn : GoodIn wsX7_sets (wsV RX7 86 RX3 yX3_hasColumn wsX3_hasColumn) := goodIn_app (goodIn_of _ (by decide +kernel)) ggX7_sets_X3_hasColumn
set_option maxRecDepth 20000 in
theorem ggX7_sets_X7_isWithin : GoodIn wsX7_sets wsX7_isWithin := goodIn_r _ [17] (by decide +kernel) (by decide +kernel)
set_option maxRecDepth 20000 in
theorem gX7_sets_X7_isWithin : GoodIn wsX7_sets (va_wsS RX7 89 yX7_isWithin wsX7_isWithin) := goodIn_app (goodIn_of _ (by decide +kernel)) ggX7_sets_X7_isWithin
set_option maxRecDepth 20000 in
theorem ggX7_sets_X7_counted : GoodIn wsX7_sets wsX7_counted := goodIn_r _ [21, 22, 23, 24, 76, 77, 78, 79, 80, 81, 82, 83, 84, 85, 86, 87, 88] (by decide +kernel) (by decide +kernel)
set_option maxRecDepth 20000 in
theorem gX7_sets_X7_counted : GoodIn wsX7_sets (wsV RX7 93 RX7 yX7_counted wsX7_counted) := goodIn_app (goodIn_of _ (by decide +kernel)) ggX7_sets_X7_counted
set_option maxRecDepth 20000 in
theorem ggX7_sets_X3_copyFrom : GoodIn wsX7_sets wsX3_copyFrom := goodIn_r _ [28, 29, 13, 8, 30, 31, 32, 33, 34, 35, 36, 37, 38, 89, 90, 91, 92, 93, 94, 95] (by decide +kernel) (by decide +kernel)
set_option maxRecDepth 20000 in
theorem gX7_sets_X3_copyFrom : GoodIn wsX7_sets (wsV RX7 62 RX3 yX3_copyFrom wsX3_copyFrom) := goodIn_app (goodIn_of _ (by decide +kernel)) ggX7_sets_X3_copyFrom
set_option maxRecDepth 20000 in
theorem ggX7_sets_X3_at : GoodIn wsX7_sets wsX3_at := goodIn_r _ [42, 43, 44, 45, 30, 89, 90, 91, 92, 93, 94, 95] (by decide +kernel) (by decide +kernel)
set_option maxRecDepth 20000 in
theorem gX7_sets_X3_at : GoodIn wsX7_sets (wsV RX7 96 RX3 yX3_at wsX3_at) := goodIn_app (goodIn_of _ (by decide +kernel)) ggX7_sets_X3_at
set_option maxRecDepth 20000 in
theorem ggX7_sets_X3_put : GoodIn wsX7_sets wsX3_put := goodIn_r _ [49, 43, 44, 45, 30, 29, 50, 16, 51, 52, 53, 54, 55, 89, 90, 91, 92, 93, 94, 95] (by decide +kernel) (by decide +kernel)
set_option maxRecDepth 20000 in
theorem gX7_sets_X3_put : GoodIn wsX7_sets (wsV RX7 100 RX3 yX3_put wsX3_put) := goodIn_app (goodIn_of _ (by decide +kernel)) ggX7_sets_X3_put
set_option maxRecDepth 20000 in
theorem ggX7_sets_X7_settle : GoodIn wsX7_sets wsX7_settle := goodIn_r _ [59, 60, 2, 61, 62, 16, 63, 18, 19, 20, 21, 22, 23, 24, 64, 65, 66, 67, 68, 69, 70, 71, 72, 73, 74, 75, 26, 27, 6, 28, 29, 13, 8, 30, 31, 32, 33, 34, 35, 36, 37, 38, 76, 77, 78, 79, 80, 81, 82, 83, 84, 85, 86, 87, 88, 96, 97, 89, 90, 91, 92, 93, 94, 95] (by decide +kernel) (by decide +kernel)
set_option maxRecDepth 20000 in
theorem gX7_sets_X7_settle : GoodIn wsX7_sets (wsV RX7 72 RX7 yX7_settle wsX7_settle) := goodIn_app (goodIn_of _ (by decide +kernel)) ggX7_sets_X7_settle
theorem dX7_sets_0 : decode cX7_sets 0 = .ok (.aload_n 0, 1) := by decide +kernel
theorem dX7_sets_1 : decode cX7_sets 1 = .ok (.getfield 13, 3) := by decide +kernel
theorem dX7_sets_4 : decode cX7_sets 4 = .ok (.iload_n 1, 1) := by decide +kernel
theorem dX7_sets_5 : decode cX7_sets 5 = .ok (.invokevirtual 82, 3) := by decide +kernel
theorem dX7_sets_8 : decode cX7_sets 8 = .ok (.ifCond .eq 24, 3) := by decide +kernel
theorem dX7_sets_11 : decode cX7_sets 11 = .ok (.aload_n 0, 1) := by decide +kernel
theorem dX7_sets_12 : decode cX7_sets 12 = .ok (.getfield 13, 3) := by decide +kernel
theorem dX7_sets_15 : decode cX7_sets 15 = .ok (.iload_n 2, 1) := by decide +kernel
theorem dX7_sets_16 : decode cX7_sets 16 = .ok (.invokevirtual 86, 3) := by decide +kernel
theorem dX7_sets_19 : decode cX7_sets 19 = .ok (.ifCond .eq 13, 3) := by decide +kernel
theorem dX7_sets_22 : decode cX7_sets 22 = .ok (.iload_n 3, 1) := by decide +kernel
theorem dX7_sets_23 : decode cX7_sets 23 = .ok (.iconst 0, 1) := by decide +kernel
theorem dX7_sets_24 : decode cX7_sets 24 = .ok (.bipush 6, 2) := by decide +kernel
theorem dX7_sets_26 : decode cX7_sets 26 = .ok (.invokestatic 89, 3) := by decide +kernel
theorem dX7_sets_29 : decode cX7_sets 29 = .ok (.ifCond .ne 10, 3) := by decide +kernel
theorem dX7_sets_32 : decode cX7_sets 32 = .ok (.aload_n 0, 1) := by decide +kernel
theorem dX7_sets_33 : decode cX7_sets 33 = .ok (.bipush (-2), 2) := by decide +kernel
theorem dX7_sets_35 : decode cX7_sets 35 = .ok (.invokevirtual 93, 3) := by decide +kernel
theorem dX7_sets_38 : decode cX7_sets 38 = .ok (.ireturn, 1) := by decide +kernel
theorem dX7_sets_39 : decode cX7_sets 39 = .ok (.aload_n 0, 1) := by decide +kernel
theorem dX7_sets_40 : decode cX7_sets 40 = .ok (.getfield 17, 3) := by decide +kernel
theorem dX7_sets_43 : decode cX7_sets 43 = .ok (.aload_n 0, 1) := by decide +kernel
theorem dX7_sets_44 : decode cX7_sets 44 = .ok (.getfield 13, 3) := by decide +kernel
theorem dX7_sets_47 : decode cX7_sets 47 = .ok (.invokevirtual 62, 3) := by decide +kernel
theorem dX7_sets_50 : decode cX7_sets 50 = .ok (.aload_n 0, 1) := by decide +kernel
theorem dX7_sets_51 : decode cX7_sets 51 = .ok (.getfield 13, 3) := by decide +kernel
theorem dX7_sets_54 : decode cX7_sets 54 = .ok (.iload_n 1, 1) := by decide +kernel
theorem dX7_sets_55 : decode cX7_sets 55 = .ok (.iload_n 2, 1) := by decide +kernel
theorem dX7_sets_56 : decode cX7_sets 56 = .ok (.iload_n 3, 1) := by decide +kernel
theorem dX7_sets_57 : decode cX7_sets 57 = .ok (.invokevirtual 96, 3) := by decide +kernel
theorem dX7_sets_60 : decode cX7_sets 60 = .ok (.istore 5, 2) := by decide +kernel
theorem dX7_sets_62 : decode cX7_sets 62 = .ok (.aload_n 0, 1) := by decide +kernel
theorem dX7_sets_63 : decode cX7_sets 63 = .ok (.getfield 13, 3) := by decide +kernel
theorem dX7_sets_66 : decode cX7_sets 66 = .ok (.iload_n 1, 1) := by decide +kernel
theorem dX7_sets_67 : decode cX7_sets 67 = .ok (.iload_n 2, 1) := by decide +kernel
theorem dX7_sets_68 : decode cX7_sets 68 = .ok (.iload_n 3, 1) := by decide +kernel
theorem dX7_sets_69 : decode cX7_sets 69 = .ok (.iload 4, 2) := by decide +kernel
theorem dX7_sets_71 : decode cX7_sets 71 = .ok (.invokevirtual 100, 3) := by decide +kernel
theorem dX7_sets_74 : decode cX7_sets 74 = .ok (.aload_n 0, 1) := by decide +kernel
theorem dX7_sets_75 : decode cX7_sets 75 = .ok (.iload 5, 2) := by decide +kernel
theorem dX7_sets_77 : decode cX7_sets 77 = .ok (.invokevirtual 72, 3) := by decide +kernel
theorem dX7_sets_80 : decode cX7_sets 80 = .ok (.ireturn, 1) := by decide +kernel
set_option maxRecDepth 20000 in
theorem ggX7_drops_X3_copyFrom : GoodIn wsX7_drops wsX3_copyFrom := goodIn_r _ [7, 8, 9, 10, 11, 12, 13, 14, 15, 16, 17, 18, 19, 77, 78, 79, 80, 81, 82, 83] (by decide +kernel) (by decide +kernel)
set_option maxRecDepth 20000 in
theorem gX7_drops_X3_copyFrom : GoodIn wsX7_drops (wsV RX7 62 RX3 yX3_copyFrom wsX3_copyFrom) := goodIn_app (goodIn_of _ (by decide +kernel)) ggX7_drops_X3_copyFrom
set_option maxRecDepth 20000 in
theorem ggX7_drops_X7_dropRow : GoodIn wsX7_drops wsX7_dropRow := goodIn_r _ [24, 2, 25, 26, 27, 28, 6, 29, 10, 30, 31, 32, 33, 34, 35, 11, 16, 17, 18, 19, 36, 64, 65, 66, 67, 68, 69, 70, 71, 72, 73, 74, 75, 76, 77, 78, 79, 80, 81, 82, 83] (by decide +kernel) (by decide +kernel)
set_option maxRecDepth 20000 in
theorem gX7_drops_X7_dropRow : GoodIn wsX7_drops (wsV RX7 104 RX7 yX7_dropRow wsX7_dropRow) := goodIn_app (goodIn_of _ (by decide +kernel)) ggX7_drops_X7_dropRow
set_option maxRecDepth 20000 in
theorem ggX7_drops_X7_settle : GoodIn wsX7_drops wsX7_settle := goodIn_r _ [40, 41, 1, 42, 43, 23, 44, 45, 46, 47, 48, 49, 50, 51, 52, 53, 54, 55, 56, 57, 58, 59, 60, 61, 62, 63, 4, 5, 6, 7, 8, 9, 10, 11, 12, 13, 14, 15, 16, 17, 18, 19, 64, 65, 66, 67, 68, 69, 70, 71, 72, 73, 74, 75, 76, 84, 85, 77, 78, 79, 80, 81, 82, 83] (by decide +kernel) (by decide +kernel)
set_option maxRecDepth 20000 in
theorem gX7_drops_X7_settle : GoodIn wsX7_drops (wsV RX7 72 RX7 yX7_settle wsX7_settle) := goodIn_app (goodIn_of _ (by decide +kernel)) ggX7_drops_X7_settle
theorem dX7_drops_0 : decode cX7_drops 0 = .ok (.aload_n 0, 1) := by decide +kernel
theorem dX7_drops_1 : decode cX7_drops 1 = .ok (.getfield 17, 3) := by decide +kernel
theorem dX7_drops_4 : decode cX7_drops 4 = .ok (.aload_n 0, 1) := by decide +kernel
theorem dX7_drops_5 : decode cX7_drops 5 = .ok (.getfield 13, 3) := by decide +kernel
theorem dX7_drops_8 : decode cX7_drops 8 = .ok (.invokevirtual 62, 3) := by decide +kernel
theorem dX7_drops_11 : decode cX7_drops 11 = .ok (.aload_n 0, 1) := by decide +kernel
theorem dX7_drops_12 : decode cX7_drops 12 = .ok (.aload_n 0, 1) := by decide +kernel
theorem dX7_drops_13 : decode cX7_drops 13 = .ok (.iload_n 1, 1) := by decide +kernel
theorem dX7_drops_14 : decode cX7_drops 14 = .ok (.invokevirtual 104, 3) := by decide +kernel
theorem dX7_drops_17 : decode cX7_drops 17 = .ok (.invokevirtual 72, 3) := by decide +kernel
theorem dX7_drops_20 : decode cX7_drops 20 = .ok (.ireturn, 1) := by decide +kernel
set_option maxRecDepth 20000 in
theorem ggX7_steps_X3_copyFrom : GoodIn wsX7_steps wsX3_copyFrom := goodIn_r _ [7, 8, 9, 10, 11, 12, 13, 14, 15, 16, 17, 18, 19, 105, 106, 107, 108, 109, 110, 111] (by decide +kernel) (by decide +kernel)
set_option maxRecDepth 20000 in
theorem gX7_steps_X3_copyFrom : GoodIn wsX7_steps (wsV RX7 62 RX3 yX3_copyFrom wsX3_copyFrom) := goodIn_app (goodIn_of _ (by decide +kernel)) ggX7_steps_X3_copyFrom
set_option maxRecDepth 20000 in
theorem ggX7_steps_X7_stepRow : GoodIn wsX7_steps wsX7_stepRow := goodIn_r _ [24, 2, 25, 26, 27, 28, 6, 29, 10, 30, 31, 23, 32, 33, 34, 35, 36, 37, 38, 39, 40, 41, 42, 43, 44, 45, 46, 47, 9, 48, 49, 50, 51, 52, 53, 54, 11, 55, 56, 57, 58, 59, 60, 61, 62, 63, 64, 8, 92, 93, 94, 95, 96, 97, 98, 99, 100, 101, 102, 103, 104, 105, 106, 107, 108, 109, 110, 111] (by decide +kernel) (by decide +kernel)
set_option maxRecDepth 20000 in
theorem gX7_steps_X7_stepRow : GoodIn wsX7_steps (wsV RX7 107 RX7 yX7_stepRow wsX7_stepRow) := goodIn_app (goodIn_of _ (by decide +kernel)) ggX7_steps_X7_stepRow
set_option maxRecDepth 20000 in
theorem ggX7_steps_X7_settle : GoodIn wsX7_steps wsX7_settle := goodIn_r _ [68, 69, 1, 70, 71, 23, 72, 73, 74, 75, 76, 77, 78, 79, 80, 81, 82, 83, 84, 85, 86, 87, 88, 89, 90, 91, 4, 5, 6, 7, 8, 9, 10, 11, 12, 13, 14, 15, 16, 17, 18, 19, 92, 93, 94, 95, 96, 97, 98, 99, 100, 101, 102, 103, 104, 112, 113, 105, 106, 107, 108, 109, 110, 111] (by decide +kernel) (by decide +kernel)
set_option maxRecDepth 20000 in
theorem gX7_steps_X7_settle : GoodIn wsX7_steps (wsV RX7 72 RX7 yX7_settle wsX7_settle) := goodIn_app (goodIn_of _ (by decide +kernel)) ggX7_steps_X7_settle
theorem dX7_steps_0 : decode cX7_steps 0 = .ok (.aload_n 0, 1) := by decide +kernel
theorem dX7_steps_1 : decode cX7_steps 1 = .ok (.getfield 17, 3) := by decide +kernel
theorem dX7_steps_4 : decode cX7_steps 4 = .ok (.aload_n 0, 1) := by decide +kernel
theorem dX7_steps_5 : decode cX7_steps 5 = .ok (.getfield 13, 3) := by decide +kernel
theorem dX7_steps_8 : decode cX7_steps 8 = .ok (.invokevirtual 62, 3) := by decide +kernel
theorem dX7_steps_11 : decode cX7_steps 11 = .ok (.aload_n 0, 1) := by decide +kernel
theorem dX7_steps_12 : decode cX7_steps 12 = .ok (.aload_n 0, 1) := by decide +kernel
theorem dX7_steps_13 : decode cX7_steps 13 = .ok (.iload_n 1, 1) := by decide +kernel
theorem dX7_steps_14 : decode cX7_steps 14 = .ok (.iload_n 2, 1) := by decide +kernel
theorem dX7_steps_15 : decode cX7_steps 15 = .ok (.iload_n 3, 1) := by decide +kernel
theorem dX7_steps_16 : decode cX7_steps 16 = .ok (.iload 4, 2) := by decide +kernel
theorem dX7_steps_18 : decode cX7_steps 18 = .ok (.invokevirtual 107, 3) := by decide +kernel
theorem dX7_steps_21 : decode cX7_steps 21 = .ok (.invokevirtual 72, 3) := by decide +kernel
theorem dX7_steps_24 : decode cX7_steps 24 = .ok (.ireturn, 1) := by decide +kernel
set_option maxRecDepth 20000 in
theorem ggX7_monic_X3_copyFrom : GoodIn wsX7_monic wsX3_copyFrom := goodIn_r _ [7, 8, 9, 10, 11, 12, 13, 14, 15, 16, 17, 18, 19, 107, 108, 109, 110, 111, 112, 113] (by decide +kernel) (by decide +kernel)
set_option maxRecDepth 20000 in
theorem gX7_monic_X3_copyFrom : GoodIn wsX7_monic (wsV RX7 62 RX3 yX3_copyFrom wsX3_copyFrom) := goodIn_app (goodIn_of _ (by decide +kernel)) ggX7_monic_X3_copyFrom
set_option maxRecDepth 20000 in
theorem ggX7_monic_X7_makeMonic : GoodIn wsX7_monic wsX7_makeMonic := goodIn_r _ [24, 2, 25, 26, 27, 28, 6, 29, 10, 30, 31, 32, 33, 34, 35, 36, 37, 9, 38, 39, 40, 41, 42, 43, 44, 11, 45, 23, 46, 47, 48, 49, 50, 51, 52, 53, 54, 55, 56, 57, 58, 59, 60, 61, 62, 63, 64, 65, 66, 8, 94, 95, 96, 97, 98, 99, 100, 101, 102, 103, 104, 105, 106, 107, 108, 109, 110, 111, 112, 113] (by decide +kernel) (by decide +kernel)
set_option maxRecDepth 20000 in
theorem gX7_monic_X7_makeMonic : GoodIn wsX7_monic (wsV RX7 111 RX7 yX7_makeMonic wsX7_makeMonic) := goodIn_app (goodIn_of _ (by decide +kernel)) ggX7_monic_X7_makeMonic
set_option maxRecDepth 20000 in
theorem ggX7_monic_X7_settle : GoodIn wsX7_monic wsX7_settle := goodIn_r _ [70, 71, 1, 72, 73, 23, 74, 75, 76, 77, 78, 79, 80, 81, 82, 83, 84, 85, 86, 87, 88, 89, 90, 91, 92, 93, 4, 5, 6, 7, 8, 9, 10, 11, 12, 13, 14, 15, 16, 17, 18, 19, 94, 95, 96, 97, 98, 99, 100, 101, 102, 103, 104, 105, 106, 114, 115, 107, 108, 109, 110, 111, 112, 113] (by decide +kernel) (by decide +kernel)
set_option maxRecDepth 20000 in
theorem gX7_monic_X7_settle : GoodIn wsX7_monic (wsV RX7 72 RX7 yX7_settle wsX7_settle) := goodIn_app (goodIn_of _ (by decide +kernel)) ggX7_monic_X7_settle
theorem dX7_monic_0 : decode cX7_monic 0 = .ok (.aload_n 0, 1) := by decide +kernel
theorem dX7_monic_1 : decode cX7_monic 1 = .ok (.getfield 17, 3) := by decide +kernel
theorem dX7_monic_4 : decode cX7_monic 4 = .ok (.aload_n 0, 1) := by decide +kernel
theorem dX7_monic_5 : decode cX7_monic 5 = .ok (.getfield 13, 3) := by decide +kernel
theorem dX7_monic_8 : decode cX7_monic 8 = .ok (.invokevirtual 62, 3) := by decide +kernel
theorem dX7_monic_11 : decode cX7_monic 11 = .ok (.aload_n 0, 1) := by decide +kernel
theorem dX7_monic_12 : decode cX7_monic 12 = .ok (.aload_n 0, 1) := by decide +kernel
theorem dX7_monic_13 : decode cX7_monic 13 = .ok (.iload_n 1, 1) := by decide +kernel
theorem dX7_monic_14 : decode cX7_monic 14 = .ok (.invokevirtual 111, 3) := by decide +kernel
theorem dX7_monic_17 : decode cX7_monic 17 = .ok (.invokevirtual 72, 3) := by decide +kernel
theorem dX7_monic_20 : decode cX7_monic 20 = .ok (.ireturn, 1) := by decide +kernel
set_option maxRecDepth 20000 in
theorem ggX7_of_X3_hasRow : GoodIn wsX7_of wsX3_hasRow := goodIn_r _ [6, 7, 45, 46, 47, 48, 49, 50, 51] (by decide +kernel) (by decide +kernel)
set_option maxRecDepth 20000 in
theorem gX7_of_X3_hasRow : GoodIn wsX7_of (wsV RX7 82 RX3 yX3_hasRow wsX3_hasRow) := goodIn_app (goodIn_of _ (by decide +kernel)) ggX7_of_X3_hasRow
set_option maxRecDepth 20000 in
theorem ggX7_of_X3_hasColumn : GoodIn wsX7_of wsX3_hasColumn := goodIn_r _ [11, 12, 45, 46, 47, 48, 49, 50, 51] (by decide +kernel) (by decide +kernel)
set_option maxRecDepth 20000 in
theorem gX7_of_X3_hasColumn : GoodIn wsX7_of (wsV RX7 86 RX3 yX3_hasColumn wsX3_hasColumn) := goodIn_app (goodIn_of _ (by decide +kernel)) ggX7_of_X3_hasColumn
set_option maxRecDepth 20000 in
theorem ggX7_of_X7_isWithin : GoodIn wsX7_of wsX7_isWithin := goodIn_r _ [16] (by decide +kernel) (by decide +kernel)
set_option maxRecDepth 20000 in
theorem gX7_of_X7_isWithin : GoodIn wsX7_of (va_wsS RX7 89 yX7_isWithin wsX7_isWithin) := goodIn_app (goodIn_of _ (by decide +kernel)) ggX7_of_X7_isWithin
set_option maxRecDepth 20000 in
theorem ggX7_of_X7_counted : GoodIn wsX7_of wsX7_counted := goodIn_r _ [20, 21, 22, 23, 32, 33, 34, 35, 36, 37, 38, 39, 40, 41, 42, 43, 44] (by decide +kernel) (by decide +kernel)
set_option maxRecDepth 20000 in
theorem gX7_of_X7_counted : GoodIn wsX7_of (wsV RX7 93 RX7 yX7_counted wsX7_counted) := goodIn_app (goodIn_of _ (by decide +kernel)) ggX7_of_X7_counted
set_option maxRecDepth 20000 in
theorem ggX7_of_X3_at : GoodIn wsX7_of wsX3_at := goodIn_r _ [27, 28, 29, 30, 31, 45, 46, 47, 48, 49, 50, 51] (by decide +kernel) (by decide +kernel)
set_option maxRecDepth 20000 in
theorem gX7_of_X3_at : GoodIn wsX7_of (wsV RX7 96 RX3 yX3_at wsX3_at) := goodIn_app (goodIn_of _ (by decide +kernel)) ggX7_of_X3_at
theorem dX7_of_0 : decode cX7_of 0 = .ok (.aload_n 0, 1) := by decide +kernel
theorem dX7_of_1 : decode cX7_of 1 = .ok (.getfield 13, 3) := by decide +kernel
theorem dX7_of_4 : decode cX7_of 4 = .ok (.iload_n 1, 1) := by decide +kernel
theorem dX7_of_5 : decode cX7_of 5 = .ok (.invokevirtual 82, 3) := by decide +kernel
theorem dX7_of_8 : decode cX7_of 8 = .ok (.ifCond .eq 24, 3) := by decide +kernel
theorem dX7_of_11 : decode cX7_of 11 = .ok (.aload_n 0, 1) := by decide +kernel
theorem dX7_of_12 : decode cX7_of 12 = .ok (.getfield 13, 3) := by decide +kernel
theorem dX7_of_15 : decode cX7_of 15 = .ok (.iload_n 2, 1) := by decide +kernel
theorem dX7_of_16 : decode cX7_of 16 = .ok (.invokevirtual 86, 3) := by decide +kernel
theorem dX7_of_19 : decode cX7_of 19 = .ok (.ifCond .eq 13, 3) := by decide +kernel
theorem dX7_of_22 : decode cX7_of 22 = .ok (.iload_n 3, 1) := by decide +kernel
theorem dX7_of_23 : decode cX7_of 23 = .ok (.iconst 0, 1) := by decide +kernel
theorem dX7_of_24 : decode cX7_of 24 = .ok (.bipush 6, 2) := by decide +kernel
theorem dX7_of_26 : decode cX7_of 26 = .ok (.invokestatic 89, 3) := by decide +kernel
theorem dX7_of_29 : decode cX7_of 29 = .ok (.ifCond .ne 10, 3) := by decide +kernel
theorem dX7_of_32 : decode cX7_of 32 = .ok (.aload_n 0, 1) := by decide +kernel
theorem dX7_of_33 : decode cX7_of 33 = .ok (.bipush (-2), 2) := by decide +kernel
theorem dX7_of_35 : decode cX7_of 35 = .ok (.invokevirtual 93, 3) := by decide +kernel
theorem dX7_of_38 : decode cX7_of 38 = .ok (.ireturn, 1) := by decide +kernel
theorem dX7_of_39 : decode cX7_of 39 = .ok (.aload_n 0, 1) := by decide +kernel
theorem dX7_of_40 : decode cX7_of 40 = .ok (.getfield 13, 3) := by decide +kernel
theorem dX7_of_43 : decode cX7_of 43 = .ok (.iload_n 1, 1) := by decide +kernel
theorem dX7_of_44 : decode cX7_of 44 = .ok (.iload_n 2, 1) := by decide +kernel
theorem dX7_of_45 : decode cX7_of 45 = .ok (.iload_n 3, 1) := by decide +kernel
theorem dX7_of_46 : decode cX7_of 46 = .ok (.invokevirtual 96, 3) := by decide +kernel
theorem dX7_of_49 : decode cX7_of 49 = .ok (.ireturn, 1) := by decide +kernel
set_option maxRecDepth 20000 in
theorem ggX7_about_X3_hasRow : GoodIn wsX7_about wsX3_hasRow := goodIn_r _ [6, 7, 61, 62, 63, 64, 65, 66, 67] (by decide +kernel) (by decide +kernel)
set_option maxRecDepth 20000 in
theorem gX7_about_X3_hasRow : GoodIn wsX7_about (wsV RX7 82 RX3 yX3_hasRow wsX3_hasRow) := goodIn_app (goodIn_of _ (by decide +kernel)) ggX7_about_X3_hasRow
set_option maxRecDepth 20000 in
theorem ggX7_about_X7_isWithin : GoodIn wsX7_about wsX7_isWithin := goodIn_r _ [11] (by decide +kernel) (by decide +kernel)
set_option maxRecDepth 20000 in
theorem gX7_about_X7_isWithin : GoodIn wsX7_about (va_wsS RX7 89 yX7_isWithin wsX7_isWithin) := goodIn_app (goodIn_of _ (by decide +kernel)) ggX7_about_X7_isWithin
set_option maxRecDepth 20000 in
theorem ggX7_about_X7_counted : GoodIn wsX7_about wsX7_counted := goodIn_r _ [15, 16, 17, 18, 48, 49, 50, 51, 52, 53, 54, 55, 56, 57, 58, 59, 60] (by decide +kernel) (by decide +kernel)
set_option maxRecDepth 20000 in
theorem gX7_about_X7_counted : GoodIn wsX7_about (wsV RX7 93 RX7 yX7_counted wsX7_counted) := goodIn_app (goodIn_of _ (by decide +kernel)) ggX7_about_X7_counted
set_option maxRecDepth 20000 in
theorem ggX7_about_X3_degreeOf : GoodIn wsX7_about wsX3_degreeOf := goodIn_r _ [22, 23, 24, 25, 5, 26, 27, 28, 29, 30, 31, 32, 33, 34, 35, 36, 10, 37, 61, 62, 63, 64, 65, 66, 67] (by decide +kernel) (by decide +kernel)
set_option maxRecDepth 20000 in
theorem gX7_about_X3_degreeOf : GoodIn wsX7_about (wsV RX7 114 RX3 yX3_degreeOf wsX3_degreeOf) := goodIn_app (goodIn_of _ (by decide +kernel)) ggX7_about_X3_degreeOf
set_option maxRecDepth 20000 in
theorem ggX7_about_X3_pivotOf : GoodIn wsX7_about wsX3_pivotOf := goodIn_r _ [41, 23, 24, 25, 5, 26, 27, 28, 29, 30, 31, 32, 33, 34, 35, 42, 10, 43, 61, 62, 63, 64, 65, 66, 67] (by decide +kernel) (by decide +kernel)
set_option maxRecDepth 20000 in
theorem gX7_about_X3_pivotOf : GoodIn wsX7_about (wsV RX7 117 RX3 yX3_pivotOf wsX3_pivotOf) := goodIn_app (goodIn_of _ (by decide +kernel)) ggX7_about_X3_pivotOf
set_option maxRecDepth 20000 in
theorem ggX7_about_X3_leadOf : GoodIn wsX7_about wsX3_leadOf := goodIn_r _ [47, 23, 24, 25, 5, 26, 27, 28, 29, 30, 31, 32, 33, 34, 35, 42, 10, 43, 36, 37, 61, 62, 63, 64, 65, 66, 67] (by decide +kernel) (by decide +kernel)
set_option maxRecDepth 20000 in
theorem gX7_about_X3_leadOf : GoodIn wsX7_about (wsV RX7 120 RX3 yX3_leadOf wsX3_leadOf) := goodIn_app (goodIn_of _ (by decide +kernel)) ggX7_about_X3_leadOf
theorem dX7_about_0 : decode cX7_about 0 = .ok (.aload_n 0, 1) := by decide +kernel
theorem dX7_about_1 : decode cX7_about 1 = .ok (.getfield 13, 3) := by decide +kernel
theorem dX7_about_4 : decode cX7_about 4 = .ok (.iload_n 1, 1) := by decide +kernel
theorem dX7_about_5 : decode cX7_about 5 = .ok (.invokevirtual 82, 3) := by decide +kernel
theorem dX7_about_8 : decode cX7_about 8 = .ok (.ifCond .eq 12, 3) := by decide +kernel
theorem dX7_about_11 : decode cX7_about 11 = .ok (.iload_n 2, 1) := by decide +kernel
theorem dX7_about_12 : decode cX7_about 12 = .ok (.iconst 0, 1) := by decide +kernel
theorem dX7_about_13 : decode cX7_about 13 = .ok (.iconst 2, 1) := by decide +kernel
theorem dX7_about_14 : decode cX7_about 14 = .ok (.invokestatic 89, 3) := by decide +kernel
theorem dX7_about_17 : decode cX7_about 17 = .ok (.ifCond .ne 10, 3) := by decide +kernel
theorem dX7_about_20 : decode cX7_about 20 = .ok (.aload_n 0, 1) := by decide +kernel
theorem dX7_about_21 : decode cX7_about 21 = .ok (.bipush (-2), 2) := by decide +kernel
theorem dX7_about_23 : decode cX7_about 23 = .ok (.invokevirtual 93, 3) := by decide +kernel
theorem dX7_about_26 : decode cX7_about 26 = .ok (.ireturn, 1) := by decide +kernel
theorem dX7_about_27 : decode cX7_about 27 = .ok (.iload_n 2, 1) := by decide +kernel
theorem dX7_about_28 : decode cX7_about 28 = .ok (.lookupswitch 46 #[(0, 28), (1, 37)], 28) := by decide +kernel
theorem dX7_about_56 : decode cX7_about 56 = .ok (.aload_n 0, 1) := by decide +kernel
theorem dX7_about_57 : decode cX7_about 57 = .ok (.getfield 13, 3) := by decide +kernel
theorem dX7_about_60 : decode cX7_about 60 = .ok (.iload_n 1, 1) := by decide +kernel
theorem dX7_about_61 : decode cX7_about 61 = .ok (.invokevirtual 114, 3) := by decide +kernel
theorem dX7_about_64 : decode cX7_about 64 = .ok (.ireturn, 1) := by decide +kernel
theorem dX7_about_65 : decode cX7_about 65 = .ok (.aload_n 0, 1) := by decide +kernel
theorem dX7_about_66 : decode cX7_about 66 = .ok (.getfield 13, 3) := by decide +kernel
theorem dX7_about_69 : decode cX7_about 69 = .ok (.iload_n 1, 1) := by decide +kernel
theorem dX7_about_70 : decode cX7_about 70 = .ok (.invokevirtual 117, 3) := by decide +kernel
theorem dX7_about_73 : decode cX7_about 73 = .ok (.ireturn, 1) := by decide +kernel
theorem dX7_about_74 : decode cX7_about 74 = .ok (.aload_n 0, 1) := by decide +kernel
theorem dX7_about_75 : decode cX7_about 75 = .ok (.getfield 13, 3) := by decide +kernel
theorem dX7_about_78 : decode cX7_about 78 = .ok (.iload_n 1, 1) := by decide +kernel
theorem dX7_about_79 : decode cX7_about 79 = .ok (.invokevirtual 120, 3) := by decide +kernel
theorem dX7_about_82 : decode cX7_about 82 = .ok (.ireturn, 1) := by decide +kernel
set_option maxRecDepth 20000 in
theorem ggX7_next_X7_isWithin : GoodIn wsX7_next wsX7_isWithin := goodIn_r _ [10] (by decide +kernel) (by decide +kernel)
set_option maxRecDepth 20000 in
theorem gX7_next_X7_isWithin : GoodIn wsX7_next (va_wsS RX7 89 yX7_isWithin wsX7_isWithin) := goodIn_app (goodIn_of _ (by decide +kernel)) ggX7_next_X7_isWithin
set_option maxRecDepth 20000 in
theorem ggX7_next_X7_counted : GoodIn wsX7_next wsX7_counted := goodIn_r _ [14, 15, 16, 17, 83, 84, 85, 86, 87, 88, 89, 90, 91, 92, 93, 94, 95] (by decide +kernel) (by decide +kernel)
set_option maxRecDepth 20000 in
theorem gX7_next_X7_counted : GoodIn wsX7_next (wsV RX7 93 RX7 yX7_counted wsX7_counted) := goodIn_app (goodIn_of _ (by decide +kernel)) ggX7_next_X7_counted
set_option maxRecDepth 20000 in
theorem ggX7_next_X6_find : GoodIn wsX7_next wsX6_find := goodIn_r _ [22, 23, 24, 25, 26, 27, 28, 29, 30, 31, 32, 33, 34, 35, 36, 37, 38, 39, 40, 41, 42, 43, 44, 45, 46, 47, 48, 49, 50, 51, 52, 53, 54, 55, 56, 57, 58, 59, 60, 61, 62, 63, 64, 9, 65, 66, 67, 68, 69, 70, 71, 72, 73, 74, 75, 76, 77, 78, 79, 80, 81, 82, 96, 97, 98, 99, 100, 101, 102, 103, 104, 105, 106, 107, 108, 109] (by decide +kernel) (by decide +kernel)
set_option maxRecDepth 20000 in
theorem gX7_next_X6_find : GoodIn wsX7_next (wsV RX7 123 RX6 yX6_find wsX6_find) := goodIn_app (goodIn_of _ (by decide +kernel)) ggX7_next_X6_find
theorem dX7_next_0 : decode cX7_next 0 = .ok (.iload_n 1, 1) := by decide +kernel
theorem dX7_next_1 : decode cX7_next 1 = .ok (.iconst 0, 1) := by decide +kernel
theorem dX7_next_2 : decode cX7_next 2 = .ok (.iconst 3, 1) := by decide +kernel
theorem dX7_next_3 : decode cX7_next 3 = .ok (.invokestatic 89, 3) := by decide +kernel
theorem dX7_next_6 : decode cX7_next 6 = .ok (.ifCond .ne 10, 3) := by decide +kernel
theorem dX7_next_9 : decode cX7_next 9 = .ok (.aload_n 0, 1) := by decide +kernel
theorem dX7_next_10 : decode cX7_next 10 = .ok (.bipush (-2), 2) := by decide +kernel
theorem dX7_next_12 : decode cX7_next 12 = .ok (.invokevirtual 93, 3) := by decide +kernel
theorem dX7_next_15 : decode cX7_next 15 = .ok (.ireturn, 1) := by decide +kernel
theorem dX7_next_16 : decode cX7_next 16 = .ok (.aload_n 0, 1) := by decide +kernel
theorem dX7_next_17 : decode cX7_next 17 = .ok (.getfield 47, 3) := by decide +kernel
theorem dX7_next_20 : decode cX7_next 20 = .ok (.aload_n 0, 1) := by decide +kernel
theorem dX7_next_21 : decode cX7_next 21 = .ok (.getfield 13, 3) := by decide +kernel
theorem dX7_next_24 : decode cX7_next 24 = .ok (.invokevirtual 123, 3) := by decide +kernel
theorem dX7_next_27 : decode cX7_next 27 = .ok (.ifCond .ne 5, 3) := by decide +kernel
theorem dX7_next_30 : decode cX7_next 30 = .ok (.iconst (-1), 1) := by decide +kernel
theorem dX7_next_31 : decode cX7_next 31 = .ok (.ireturn, 1) := by decide +kernel
theorem dX7_next_32 : decode cX7_next 32 = .ok (.iload_n 1, 1) := by decide +kernel
theorem dX7_next_33 : decode cX7_next 33 = .ok (.tableswitch 51 0 2 #[27, 35, 43], 27) := by decide +kernel
theorem dX7_next_60 : decode cX7_next 60 = .ok (.aload_n 0, 1) := by decide +kernel
theorem dX7_next_61 : decode cX7_next 61 = .ok (.getfield 47, 3) := by decide +kernel
theorem dX7_next_64 : decode cX7_next 64 = .ok (.getfield 127, 3) := by decide +kernel
theorem dX7_next_67 : decode cX7_next 67 = .ok (.ireturn, 1) := by decide +kernel
theorem dX7_next_68 : decode cX7_next 68 = .ok (.aload_n 0, 1) := by decide +kernel
theorem dX7_next_69 : decode cX7_next 69 = .ok (.getfield 47, 3) := by decide +kernel
theorem dX7_next_72 : decode cX7_next 72 = .ok (.getfield 130, 3) := by decide +kernel
theorem dX7_next_75 : decode cX7_next 75 = .ok (.ireturn, 1) := by decide +kernel
theorem dX7_next_76 : decode cX7_next 76 = .ok (.aload_n 0, 1) := by decide +kernel
theorem dX7_next_77 : decode cX7_next 77 = .ok (.getfield 47, 3) := by decide +kernel
theorem dX7_next_80 : decode cX7_next 80 = .ok (.getfield 133, 3) := by decide +kernel
theorem dX7_next_83 : decode cX7_next 83 = .ok (.ireturn, 1) := by decide +kernel
theorem dX7_next_84 : decode cX7_next 84 = .ok (.aload_n 0, 1) := by decide +kernel
theorem dX7_next_85 : decode cX7_next 85 = .ok (.getfield 47, 3) := by decide +kernel
theorem dX7_next_88 : decode cX7_next 88 = .ok (.getfield 136, 3) := by decide +kernel
theorem dX7_next_91 : decode cX7_next 91 = .ok (.ireturn, 1) := by decide +kernel
set_option maxRecDepth 20000 in
theorem ggX7_rank_X3_hasSet : GoodIn wsX7_rank wsX3_hasSet := goodIn_r _ [9, 10, 188, 189, 190, 191, 192, 193, 194] (by decide +kernel) (by decide +kernel)
set_option maxRecDepth 20000 in
theorem gX7_rank_X3_hasSet : GoodIn wsX7_rank (wsV RX7 139 RX3 yX3_hasSet wsX3_hasSet) := goodIn_app (goodIn_of _ (by decide +kernel)) ggX7_rank_X3_hasSet
set_option maxRecDepth 20000 in
theorem ggX7_rank_X7_counted : GoodIn wsX7_rank wsX7_counted := goodIn_r _ [15, 16, 17, 18, 171, 172, 173, 174, 175, 176, 177, 178, 179, 180, 181, 182, 183] (by decide +kernel) (by decide +kernel)
set_option maxRecDepth 20000 in
theorem gX7_rank_X7_counted : GoodIn wsX7_rank (wsV RX7 93 RX7 yX7_counted wsX7_counted) := goodIn_app (goodIn_of _ (by decide +kernel)) ggX7_rank_X7_counted
set_option maxRecDepth 20000 in
theorem ggX7_rank_X2_buildFrom : GoodIn wsX7_rank wsX2_buildFrom := goodIn_r _ [23, 24, 25, 26, 27, 28, 29, 30, 8, 31, 32, 33, 10, 34, 14, 35, 36, 37, 38, 39, 40, 41, 42, 43, 44, 45, 46, 47, 48, 49, 50, 51, 52, 53, 54, 55, 56, 57, 58, 59, 60, 61, 62, 63, 64, 65, 66, 67, 68, 69, 70, 71, 72, 22, 73, 74, 75, 76, 77, 78, 79, 80, 81, 82, 83, 84, 85, 86, 87, 88, 89, 90, 91, 92, 93, 94, 95, 96, 97, 98, 99, 100, 101, 102, 103, 104, 105, 106, 107, 108, 109, 110, 111, 112, 113, 114, 115, 116, 117, 118, 119, 120, 121, 122, 123, 124, 125, 126, 127, 128, 129, 130, 131, 132, 133, 134, 135, 136, 137, 138, 139, 140, 141, 142, 143, 144, 145, 146, 147, 148, 149, 150, 151, 152, 153, 154, 155, 156, 157, 158, 159, 160, 161, 162, 163, 164, 165, 166, 167, 168, 169, 170, 184, 185, 186, 187, 188, 189, 190, 191, 192, 193, 194, 195, 196, 197, 198, 199, 200, 201] (by decide +kernel) (by decide +kernel)
set_option maxRecDepth 20000 in
theorem gX7_rank_X2_buildFrom : GoodIn wsX7_rank (wsV RX7 142 RX2 yX2_buildFrom wsX2_buildFrom) := goodIn_app (goodIn_of _ (by decide +kernel)) ggX7_rank_X2_buildFrom
theorem dX7_rank_0 : decode cX7_rank 0 = .ok (.aload_n 0, 1) := by decide +kernel
theorem dX7_rank_1 : decode cX7_rank 1 = .ok (.getfield 13, 3) := by decide +kernel
theorem dX7_rank_4 : decode cX7_rank 4 = .ok (.iload_n 1, 1) := by decide +kernel
theorem dX7_rank_5 : decode cX7_rank 5 = .ok (.invokevirtual 139, 3) := by decide +kernel
theorem dX7_rank_8 : decode cX7_rank 8 = .ok (.ifCond .ne 10, 3) := by decide +kernel
theorem dX7_rank_11 : decode cX7_rank 11 = .ok (.aload_n 0, 1) := by decide +kernel
theorem dX7_rank_12 : decode cX7_rank 12 = .ok (.bipush (-2), 2) := by decide +kernel
theorem dX7_rank_14 : decode cX7_rank 14 = .ok (.invokevirtual 93, 3) := by decide +kernel
theorem dX7_rank_17 : decode cX7_rank 17 = .ok (.ireturn, 1) := by decide +kernel
theorem dX7_rank_18 : decode cX7_rank 18 = .ok (.aload_n 0, 1) := by decide +kernel
theorem dX7_rank_19 : decode cX7_rank 19 = .ok (.getfield 30, 3) := by decide +kernel
theorem dX7_rank_22 : decode cX7_rank 22 = .ok (.aload_n 0, 1) := by decide +kernel
theorem dX7_rank_23 : decode cX7_rank 23 = .ok (.getfield 13, 3) := by decide +kernel
theorem dX7_rank_26 : decode cX7_rank 26 = .ok (.iload_n 1, 1) := by decide +kernel
theorem dX7_rank_27 : decode cX7_rank 27 = .ok (.invokevirtual 142, 3) := by decide +kernel
theorem dX7_rank_30 : decode cX7_rank 30 = .ok (.aload_n 0, 1) := by decide +kernel
theorem dX7_rank_31 : decode cX7_rank 31 = .ok (.getfield 30, 3) := by decide +kernel
theorem dX7_rank_34 : decode cX7_rank 34 = .ok (.getfield 146, 3) := by decide +kernel
theorem dX7_rank_37 : decode cX7_rank 37 = .ok (.getfield 149, 3) := by decide +kernel
theorem dX7_rank_40 : decode cX7_rank 40 = .ok (.ireturn, 1) := by decide +kernel
set_option maxRecDepth 20000 in
theorem ggX7_form_X3_hasColumn : GoodIn wsX7_form wsX3_hasColumn := goodIn_r _ [8, 9, 198, 199, 200, 201, 202, 203, 204] (by decide +kernel) (by decide +kernel)
set_option maxRecDepth 20000 in
theorem gX7_form_X3_hasColumn : GoodIn wsX7_form (wsV RX7 86 RX3 yX3_hasColumn wsX3_hasColumn) := goodIn_app (goodIn_of _ (by decide +kernel)) ggX7_form_X3_hasColumn
set_option maxRecDepth 20000 in
theorem ggX7_form_X3_hasSet : GoodIn wsX7_form wsX3_hasSet := goodIn_r _ [13, 14, 198, 199, 200, 201, 202, 203, 204] (by decide +kernel) (by decide +kernel)
set_option maxRecDepth 20000 in
theorem gX7_form_X3_hasSet : GoodIn wsX7_form (wsV RX7 139 RX3 yX3_hasSet wsX3_hasSet) := goodIn_app (goodIn_of _ (by decide +kernel)) ggX7_form_X3_hasSet
set_option maxRecDepth 20000 in
theorem ggX7_form_X7_isWithin : GoodIn wsX7_form wsX7_isWithin := goodIn_r _ [18] (by decide +kernel) (by decide +kernel)
set_option maxRecDepth 20000 in
theorem gX7_form_X7_isWithin : GoodIn wsX7_form (va_wsS RX7 89 yX7_isWithin wsX7_isWithin) := goodIn_app (goodIn_of _ (by decide +kernel)) ggX7_form_X7_isWithin
set_option maxRecDepth 20000 in
theorem ggX7_form_X7_counted : GoodIn wsX7_form wsX7_counted := goodIn_r _ [22, 23, 24, 25, 181, 182, 183, 184, 185, 186, 187, 188, 189, 190, 191, 192, 193] (by decide +kernel) (by decide +kernel)
set_option maxRecDepth 20000 in
theorem gX7_form_X7_counted : GoodIn wsX7_form (wsV RX7 93 RX7 yX7_counted wsX7_counted) := goodIn_app (goodIn_of _ (by decide +kernel)) ggX7_form_X7_counted
set_option maxRecDepth 20000 in
theorem ggX7_form_X2_buildFrom : GoodIn wsX7_form wsX2_buildFrom := goodIn_r _ [30, 31, 32, 33, 34, 35, 36, 37, 7, 38, 39, 9, 14, 40, 17, 41, 15, 16, 18, 42, 43, 44, 45, 46, 47, 48, 49, 50, 51, 52, 53, 54, 55, 56, 57, 58, 59, 60, 61, 62, 63, 64, 65, 66, 67, 68, 69, 70, 71, 72, 73, 74, 75, 29, 76, 77, 78, 79, 80, 81, 82, 83, 84, 85, 86, 87, 88, 89, 90, 91, 92, 93, 94, 95, 96, 97, 98, 99, 100, 101, 102, 103, 104, 105, 106, 107, 108, 109, 110, 111, 112, 113, 114, 115, 116, 117, 118, 119, 120, 121, 122, 123, 124, 125, 126, 127, 128, 129, 130, 131, 132, 133, 134, 135, 136, 137, 138, 139, 140, 141, 142, 143, 144, 145, 146, 147, 148, 149, 150, 151, 152, 153, 154, 155, 156, 157, 158, 159, 160, 161, 162, 163, 164, 165, 166, 167, 168, 169, 170, 171, 172, 173, 194, 195, 196, 197, 198, 199, 200, 201, 202, 203, 204, 205, 206, 207, 208, 209, 210, 211] (by decide +kernel) (by decide +kernel)
set_option maxRecDepth 20000 in
theorem gX7_form_X2_buildFrom : GoodIn wsX7_form (wsV RX7 142 RX2 yX2_buildFrom wsX2_buildFrom) := goodIn_app (goodIn_of _ (by decide +kernel)) ggX7_form_X2_buildFrom
set_option maxRecDepth 20000 in
theorem ggX7_form_X3_hasRow : GoodIn wsX7_form wsX3_hasRow := goodIn_r _ [150, 14, 198, 199, 200, 201, 202, 203, 204] (by decide +kernel) (by decide +kernel)
set_option maxRecDepth 20000 in
theorem gX7_form_X3_hasRow : GoodIn wsX7_form (wsV RX7 82 RX3 yX3_hasRow wsX3_hasRow) := goodIn_app (goodIn_of _ (by decide +kernel)) ggX7_form_X3_hasRow
set_option maxRecDepth 20000 in
theorem ggX7_form_X3_at : GoodIn wsX7_form wsX3_at := goodIn_r _ [56, 46, 51, 52, 57, 198, 199, 200, 201, 202, 203, 204] (by decide +kernel) (by decide +kernel)
set_option maxRecDepth 20000 in
theorem gX7_form_X3_at : GoodIn wsX7_form (wsV RX7 96 RX3 yX3_at wsX3_at) := goodIn_app (goodIn_of _ (by decide +kernel)) ggX7_form_X3_at
set_option maxRecDepth 20000 in
theorem ggX7_form_X3_degreeOf : GoodIn wsX7_form wsX3_degreeOf := goodIn_r _ [138, 124, 107, 108, 7, 109, 9, 53, 54, 55, 56, 46, 51, 52, 57, 125, 17, 126, 198, 199, 200, 201, 202, 203, 204] (by decide +kernel) (by decide +kernel)
set_option maxRecDepth 20000 in
theorem gX7_form_X3_degreeOf : GoodIn wsX7_form (wsV RX7 114 RX3 yX3_degreeOf wsX3_degreeOf) := goodIn_app (goodIn_of _ (by decide +kernel)) ggX7_form_X3_degreeOf
set_option maxRecDepth 20000 in
theorem ggX7_form_X3_pivotOf : GoodIn wsX7_form wsX3_pivotOf := goodIn_r _ [180, 124, 107, 108, 7, 109, 9, 53, 54, 55, 56, 46, 51, 52, 57, 118, 17, 119, 198, 199, 200, 201, 202, 203, 204] (by decide +kernel) (by decide +kernel)
set_option maxRecDepth 20000 in
theorem gX7_form_X3_pivotOf : GoodIn wsX7_form (wsV RX7 117 RX3 yX3_pivotOf wsX3_pivotOf) := goodIn_app (goodIn_of _ (by decide +kernel)) ggX7_form_X3_pivotOf
theorem dX7_form_0 : decode cX7_form 0 = .ok (.iload_n 3, 1) := by decide +kernel
theorem dX7_form_1 : decode cX7_form 1 = .ok (.iconst (-1), 1) := by decide +kernel
theorem dX7_form_2 : decode cX7_form 2 = .ok (.if_icmp .ne 7, 3) := by decide +kernel
theorem dX7_form_5 : decode cX7_form 5 = .ok (.iconst 1, 1) := by decide +kernel
theorem dX7_form_6 : decode cX7_form 6 = .ok (.goto 5, 3) := by decide +kernel
theorem dX7_form_9 : decode cX7_form 9 = .ok (.bipush 6, 2) := by decide +kernel
theorem dX7_form_11 : decode cX7_form 11 = .ok (.istore 5, 2) := by decide +kernel
theorem dX7_form_13 : decode cX7_form 13 = .ok (.iload_n 3, 1) := by decide +kernel
theorem dX7_form_14 : decode cX7_form 14 = .ok (.iconst (-1), 1) := by decide +kernel
theorem dX7_form_15 : decode cX7_form 15 = .ok (.if_icmp .eq 14, 3) := by decide +kernel
theorem dX7_form_18 : decode cX7_form 18 = .ok (.aload_n 0, 1) := by decide +kernel
theorem dX7_form_19 : decode cX7_form 19 = .ok (.getfield 13, 3) := by decide +kernel
theorem dX7_form_22 : decode cX7_form 22 = .ok (.iload_n 3, 1) := by decide +kernel
theorem dX7_form_23 : decode cX7_form 23 = .ok (.invokevirtual 86, 3) := by decide +kernel
theorem dX7_form_26 : decode cX7_form 26 = .ok (.ifCond .eq 7, 3) := by decide +kernel
theorem dX7_form_29 : decode cX7_form 29 = .ok (.iconst 1, 1) := by decide +kernel
theorem dX7_form_30 : decode cX7_form 30 = .ok (.goto 4, 3) := by decide +kernel
theorem dX7_form_33 : decode cX7_form 33 = .ok (.iconst 0, 1) := by decide +kernel
theorem dX7_form_34 : decode cX7_form 34 = .ok (.istore 6, 2) := by decide +kernel
theorem dX7_form_36 : decode cX7_form 36 = .ok (.aload_n 0, 1) := by decide +kernel
theorem dX7_form_37 : decode cX7_form 37 = .ok (.getfield 13, 3) := by decide +kernel
theorem dX7_form_40 : decode cX7_form 40 = .ok (.iload_n 1, 1) := by decide +kernel
theorem dX7_form_41 : decode cX7_form 41 = .ok (.invokevirtual 139, 3) := by decide +kernel
theorem dX7_form_44 : decode cX7_form 44 = .ok (.ifCond .eq 23, 3) := by decide +kernel
theorem dX7_form_47 : decode cX7_form 47 = .ok (.iload_n 2, 1) := by decide +kernel
theorem dX7_form_48 : decode cX7_form 48 = .ok (.ifCond .lt 19, 3) := by decide +kernel
theorem dX7_form_51 : decode cX7_form 51 = .ok (.iload 6, 2) := by decide +kernel
theorem dX7_form_53 : decode cX7_form 53 = .ok (.ifCond .eq 14, 3) := by decide +kernel
theorem dX7_form_56 : decode cX7_form 56 = .ok (.iload 4, 2) := by decide +kernel
theorem dX7_form_58 : decode cX7_form 58 = .ok (.iconst 0, 1) := by decide +kernel
theorem dX7_form_59 : decode cX7_form 59 = .ok (.iload 5, 2) := by decide +kernel
theorem dX7_form_61 : decode cX7_form 61 = .ok (.invokestatic 89, 3) := by decide +kernel
theorem dX7_form_64 : decode cX7_form 64 = .ok (.ifCond .ne 10, 3) := by decide +kernel
theorem dX7_form_67 : decode cX7_form 67 = .ok (.aload_n 0, 1) := by decide +kernel
theorem dX7_form_68 : decode cX7_form 68 = .ok (.bipush (-2), 2) := by decide +kernel
theorem dX7_form_70 : decode cX7_form 70 = .ok (.invokevirtual 93, 3) := by decide +kernel
theorem dX7_form_73 : decode cX7_form 73 = .ok (.ireturn, 1) := by decide +kernel
theorem dX7_form_74 : decode cX7_form 74 = .ok (.aload_n 0, 1) := by decide +kernel
theorem dX7_form_75 : decode cX7_form 75 = .ok (.getfield 30, 3) := by decide +kernel
theorem dX7_form_78 : decode cX7_form 78 = .ok (.aload_n 0, 1) := by decide +kernel
theorem dX7_form_79 : decode cX7_form 79 = .ok (.getfield 13, 3) := by decide +kernel
theorem dX7_form_82 : decode cX7_form 82 = .ok (.iload_n 1, 1) := by decide +kernel
theorem dX7_form_83 : decode cX7_form 83 = .ok (.invokevirtual 142, 3) := by decide +kernel
theorem dX7_form_86 : decode cX7_form 86 = .ok (.aload_n 0, 1) := by decide +kernel
theorem dX7_form_87 : decode cX7_form 87 = .ok (.getfield 30, 3) := by decide +kernel
theorem dX7_form_90 : decode cX7_form 90 = .ok (.getfield 146, 3) := by decide +kernel
theorem dX7_form_93 : decode cX7_form 93 = .ok (.iload_n 2, 1) := by decide +kernel
theorem dX7_form_94 : decode cX7_form 94 = .ok (.invokevirtual 82, 3) := by decide +kernel
theorem dX7_form_97 : decode cX7_form 97 = .ok (.ifCond .ne 6, 3) := by decide +kernel
theorem dX7_form_100 : decode cX7_form 100 = .ok (.bipush (-5), 2) := by decide +kernel
theorem dX7_form_102 : decode cX7_form 102 = .ok (.ireturn, 1) := by decide +kernel
theorem dX7_form_103 : decode cX7_form 103 = .ok (.iload_n 3, 1) := by decide +kernel
theorem dX7_form_104 : decode cX7_form 104 = .ok (.iconst (-1), 1) := by decide +kernel
theorem dX7_form_105 : decode cX7_form 105 = .ok (.if_icmp .eq 18, 3) := by decide +kernel
theorem dX7_form_108 : decode cX7_form 108 = .ok (.aload_n 0, 1) := by decide +kernel
theorem dX7_form_109 : decode cX7_form 109 = .ok (.getfield 30, 3) := by decide +kernel
theorem dX7_form_112 : decode cX7_form 112 = .ok (.getfield 146, 3) := by decide +kernel
theorem dX7_form_115 : decode cX7_form 115 = .ok (.iload_n 2, 1) := by decide +kernel
theorem dX7_form_116 : decode cX7_form 116 = .ok (.iload_n 3, 1) := by decide +kernel
theorem dX7_form_117 : decode cX7_form 117 = .ok (.iload 4, 2) := by decide +kernel
theorem dX7_form_119 : decode cX7_form 119 = .ok (.invokevirtual 96, 3) := by decide +kernel
theorem dX7_form_122 : decode cX7_form 122 = .ok (.ireturn, 1) := by decide +kernel
theorem dX7_form_123 : decode cX7_form 123 = .ok (.iload 4, 2) := by decide +kernel
theorem dX7_form_125 : decode cX7_form 125 = .ok (.ifCond .ne 17, 3) := by decide +kernel
theorem dX7_form_128 : decode cX7_form 128 = .ok (.aload_n 0, 1) := by decide +kernel
theorem dX7_form_129 : decode cX7_form 129 = .ok (.getfield 30, 3) := by decide +kernel
theorem dX7_form_132 : decode cX7_form 132 = .ok (.getfield 146, 3) := by decide +kernel
theorem dX7_form_135 : decode cX7_form 135 = .ok (.iload_n 2, 1) := by decide +kernel
theorem dX7_form_136 : decode cX7_form 136 = .ok (.invokevirtual 114, 3) := by decide +kernel
theorem dX7_form_139 : decode cX7_form 139 = .ok (.goto 14, 3) := by decide +kernel
theorem dX7_form_142 : decode cX7_form 142 = .ok (.aload_n 0, 1) := by decide +kernel
theorem dX7_form_143 : decode cX7_form 143 = .ok (.getfield 30, 3) := by decide +kernel
theorem dX7_form_146 : decode cX7_form 146 = .ok (.getfield 146, 3) := by decide +kernel
theorem dX7_form_149 : decode cX7_form 149 = .ok (.iload_n 2, 1) := by decide +kernel
theorem dX7_form_150 : decode cX7_form 150 = .ok (.invokevirtual 117, 3) := by decide +kernel
theorem dX7_form_153 : decode cX7_form 153 = .ok (.ireturn, 1) := by decide +kernel
set_option maxRecDepth 20000 in
theorem ggX7_least_X3_hasSet : GoodIn wsX7_least wsX3_hasSet := goodIn_r _ [7, 8, 186, 187, 188, 189, 190, 191, 192] (by decide +kernel) (by decide +kernel)
set_option maxRecDepth 20000 in
theorem gX7_least_X3_hasSet : GoodIn wsX7_least (wsV RX7 139 RX3 yX3_hasSet wsX3_hasSet) := goodIn_app (goodIn_of _ (by decide +kernel)) ggX7_least_X3_hasSet
set_option maxRecDepth 20000 in
theorem ggX7_least_X7_counted : GoodIn wsX7_least wsX7_counted := goodIn_r _ [13, 14, 15, 16, 173, 174, 175, 176, 177, 178, 179, 180, 181, 182, 183, 184, 185] (by decide +kernel) (by decide +kernel)
set_option maxRecDepth 20000 in
theorem gX7_least_X7_counted : GoodIn wsX7_least (wsV RX7 93 RX7 yX7_counted wsX7_counted) := goodIn_app (goodIn_of _ (by decide +kernel)) ggX7_least_X7_counted
set_option maxRecDepth 20000 in
theorem ggX7_least_X2_buildFrom : GoodIn wsX7_least wsX2_buildFrom := goodIn_r _ [21, 22, 23, 24, 25, 26, 27, 28, 6, 29, 30, 31, 8, 32, 12, 33, 34, 35, 36, 37, 38, 39, 40, 41, 42, 43, 44, 45, 46, 47, 48, 49, 50, 51, 52, 53, 54, 55, 56, 57, 58, 59, 60, 61, 62, 63, 64, 65, 66, 67, 68, 69, 70, 20, 71, 72, 73, 74, 75, 76, 77, 78, 79, 80, 81, 82, 83, 84, 85, 86, 87, 88, 89, 90, 91, 92, 93, 94, 95, 96, 97, 98, 99, 100, 101, 102, 103, 104, 105, 106, 107, 108, 109, 110, 111, 112, 113, 114, 115, 116, 117, 118, 119, 120, 121, 122, 123, 124, 125, 126, 127, 128, 129, 130, 131, 132, 133, 134, 135, 136, 137, 138, 139, 140, 141, 142, 143, 144, 145, 146, 147, 148, 149, 150, 151, 152, 153, 154, 155, 156, 157, 158, 159, 160, 161, 162, 163, 164, 165, 166, 167, 168, 193, 194, 195, 196, 186, 187, 188, 189, 190, 191, 192, 197, 198, 199, 200, 201, 202, 203] (by decide +kernel) (by decide +kernel)
set_option maxRecDepth 20000 in
theorem gX7_least_X2_buildFrom : GoodIn wsX7_least (wsV RX7 142 RX2 yX2_buildFrom wsX2_buildFrom) := goodIn_app (goodIn_of _ (by decide +kernel)) ggX7_least_X2_buildFrom
set_option maxRecDepth 20000 in
theorem ggX7_least_X2_degreeSum : GoodIn wsX7_least wsX2_degreeSum := goodIn_r _ [172, 22, 25, 130, 131, 132, 6, 133, 119, 102, 103, 104, 31, 48, 49, 50, 51, 41, 46, 47, 52, 120, 12, 121, 193, 194, 195, 196, 186, 187, 188, 189, 190, 191, 192] (by decide +kernel) (by decide +kernel)
set_option maxRecDepth 20000 in
theorem gX7_least_X2_degreeSum : GoodIn wsX7_least (wsV RX7 152 RX2 yX2_degreeSum wsX2_degreeSum) := goodIn_app (goodIn_of _ (by decide +kernel)) ggX7_least_X2_degreeSum
theorem dX7_least_0 : decode cX7_least 0 = .ok (.aload_n 0, 1) := by decide +kernel
theorem dX7_least_1 : decode cX7_least 1 = .ok (.getfield 13, 3) := by decide +kernel
theorem dX7_least_4 : decode cX7_least 4 = .ok (.iload_n 1, 1) := by decide +kernel
theorem dX7_least_5 : decode cX7_least 5 = .ok (.invokevirtual 139, 3) := by decide +kernel
theorem dX7_least_8 : decode cX7_least 8 = .ok (.ifCond .ne 10, 3) := by decide +kernel
theorem dX7_least_11 : decode cX7_least 11 = .ok (.aload_n 0, 1) := by decide +kernel
theorem dX7_least_12 : decode cX7_least 12 = .ok (.bipush (-2), 2) := by decide +kernel
theorem dX7_least_14 : decode cX7_least 14 = .ok (.invokevirtual 93, 3) := by decide +kernel
theorem dX7_least_17 : decode cX7_least 17 = .ok (.ireturn, 1) := by decide +kernel
theorem dX7_least_18 : decode cX7_least 18 = .ok (.aload_n 0, 1) := by decide +kernel
theorem dX7_least_19 : decode cX7_least 19 = .ok (.getfield 30, 3) := by decide +kernel
theorem dX7_least_22 : decode cX7_least 22 = .ok (.aload_n 0, 1) := by decide +kernel
theorem dX7_least_23 : decode cX7_least 23 = .ok (.getfield 13, 3) := by decide +kernel
theorem dX7_least_26 : decode cX7_least 26 = .ok (.iload_n 1, 1) := by decide +kernel
theorem dX7_least_27 : decode cX7_least 27 = .ok (.invokevirtual 142, 3) := by decide +kernel
theorem dX7_least_30 : decode cX7_least 30 = .ok (.aload_n 0, 1) := by decide +kernel
theorem dX7_least_31 : decode cX7_least 31 = .ok (.getfield 30, 3) := by decide +kernel
theorem dX7_least_34 : decode cX7_least 34 = .ok (.invokevirtual 152, 3) := by decide +kernel
theorem dX7_least_37 : decode cX7_least 37 = .ok (.ireturn, 1) := by decide +kernel
set_option maxRecDepth 20000 in
theorem ggX7_same_X3_hasSet : GoodIn wsX7_same wsX3_hasSet := goodIn_r _ [9, 10, 192, 193, 194, 195, 196, 197, 198] (by decide +kernel) (by decide +kernel)
set_option maxRecDepth 20000 in
theorem gX7_same_X3_hasSet : GoodIn wsX7_same (wsV RX7 139 RX3 yX3_hasSet wsX3_hasSet) := goodIn_app (goodIn_of _ (by decide +kernel)) ggX7_same_X3_hasSet
set_option maxRecDepth 20000 in
theorem ggX7_same_X7_counted : GoodIn wsX7_same wsX7_counted := goodIn_r _ [15, 16, 17, 18, 175, 176, 177, 178, 179, 180, 181, 182, 183, 184, 185, 186, 187] (by decide +kernel) (by decide +kernel)
set_option maxRecDepth 20000 in
theorem gX7_same_X7_counted : GoodIn wsX7_same (wsV RX7 93 RX7 yX7_counted wsX7_counted) := goodIn_app (goodIn_of _ (by decide +kernel)) ggX7_same_X7_counted
set_option maxRecDepth 20000 in
theorem ggX7_same_X2_buildFrom : GoodIn wsX7_same wsX2_buildFrom := goodIn_r _ [23, 24, 25, 26, 27, 28, 29, 30, 8, 31, 32, 33, 10, 34, 14, 35, 36, 37, 38, 39, 40, 41, 42, 43, 44, 45, 46, 47, 48, 49, 50, 51, 52, 53, 54, 55, 56, 57, 58, 59, 60, 61, 62, 63, 64, 65, 66, 67, 68, 69, 70, 71, 72, 22, 73, 74, 75, 76, 77, 78, 79, 80, 81, 82, 83, 84, 85, 86, 87, 88, 89, 90, 91, 92, 93, 94, 95, 96, 97, 98, 99, 100, 101, 102, 103, 104, 105, 106, 107, 108, 109, 110, 111, 112, 113, 114, 115, 116, 117, 118, 119, 120, 121, 122, 123, 124, 125, 126, 127, 128, 129, 130, 131, 132, 133, 134, 135, 136, 137, 138, 139, 140, 141, 142, 143, 144, 145, 146, 147, 148, 149, 150, 151, 152, 153, 154, 155, 156, 157, 158, 159, 160, 161, 162, 163, 164, 165, 166, 167, 168, 169, 170, 188, 189, 190, 191, 192, 193, 194, 195, 196, 197, 198, 199, 200, 201, 202, 203, 204, 205] (by decide +kernel) (by decide +kernel)
set_option maxRecDepth 20000 in
theorem gX7_same_X2_buildFrom : GoodIn wsX7_same (wsV RX7 142 RX2 yX2_buildFrom wsX2_buildFrom) := goodIn_app (goodIn_of _ (by decide +kernel)) ggX7_same_X2_buildFrom
set_option maxRecDepth 20000 in
theorem ggX7_same_X3_hasEntriesOf : GoodIn wsX7_same wsX3_hasEntriesOf := goodIn_r _ [174, 10, 33, 50, 51, 52, 8, 53, 43, 48, 49, 54, 192, 193, 194, 195, 196, 197, 198] (by decide +kernel) (by decide +kernel)
set_option maxRecDepth 20000 in
theorem gX7_same_X3_hasEntriesOf : GoodIn wsX7_same (wsV RX7 155 RX3 yX3_hasEntriesOf wsX3_hasEntriesOf) := goodIn_app (goodIn_of _ (by decide +kernel)) ggX7_same_X3_hasEntriesOf
theorem dX7_same_0 : decode cX7_same 0 = .ok (.aload_n 0, 1) := by decide +kernel
theorem dX7_same_1 : decode cX7_same 1 = .ok (.getfield 13, 3) := by decide +kernel
theorem dX7_same_4 : decode cX7_same 4 = .ok (.iload_n 1, 1) := by decide +kernel
theorem dX7_same_5 : decode cX7_same 5 = .ok (.invokevirtual 139, 3) := by decide +kernel
theorem dX7_same_8 : decode cX7_same 8 = .ok (.ifCond .eq 14, 3) := by decide +kernel
theorem dX7_same_11 : decode cX7_same 11 = .ok (.aload_n 0, 1) := by decide +kernel
theorem dX7_same_12 : decode cX7_same 12 = .ok (.getfield 13, 3) := by decide +kernel
theorem dX7_same_15 : decode cX7_same 15 = .ok (.iload_n 2, 1) := by decide +kernel
theorem dX7_same_16 : decode cX7_same 16 = .ok (.invokevirtual 139, 3) := by decide +kernel
theorem dX7_same_19 : decode cX7_same 19 = .ok (.ifCond .ne 10, 3) := by decide +kernel
theorem dX7_same_22 : decode cX7_same 22 = .ok (.aload_n 0, 1) := by decide +kernel
theorem dX7_same_23 : decode cX7_same 23 = .ok (.bipush (-2), 2) := by decide +kernel
theorem dX7_same_25 : decode cX7_same 25 = .ok (.invokevirtual 93, 3) := by decide +kernel
theorem dX7_same_28 : decode cX7_same 28 = .ok (.ireturn, 1) := by decide +kernel
theorem dX7_same_29 : decode cX7_same 29 = .ok (.aload_n 0, 1) := by decide +kernel
theorem dX7_same_30 : decode cX7_same 30 = .ok (.getfield 30, 3) := by decide +kernel
theorem dX7_same_33 : decode cX7_same 33 = .ok (.aload_n 0, 1) := by decide +kernel
theorem dX7_same_34 : decode cX7_same 34 = .ok (.getfield 13, 3) := by decide +kernel
theorem dX7_same_37 : decode cX7_same 37 = .ok (.iload_n 1, 1) := by decide +kernel
theorem dX7_same_38 : decode cX7_same 38 = .ok (.invokevirtual 142, 3) := by decide +kernel
theorem dX7_same_41 : decode cX7_same 41 = .ok (.aload_n 0, 1) := by decide +kernel
theorem dX7_same_42 : decode cX7_same 42 = .ok (.getfield 34, 3) := by decide +kernel
theorem dX7_same_45 : decode cX7_same 45 = .ok (.aload_n 0, 1) := by decide +kernel
theorem dX7_same_46 : decode cX7_same 46 = .ok (.getfield 13, 3) := by decide +kernel
theorem dX7_same_49 : decode cX7_same 49 = .ok (.iload_n 2, 1) := by decide +kernel
theorem dX7_same_50 : decode cX7_same 50 = .ok (.invokevirtual 142, 3) := by decide +kernel
theorem dX7_same_53 : decode cX7_same 53 = .ok (.aload_n 0, 1) := by decide +kernel
theorem dX7_same_54 : decode cX7_same 54 = .ok (.getfield 30, 3) := by decide +kernel
theorem dX7_same_57 : decode cX7_same 57 = .ok (.getfield 146, 3) := by decide +kernel
theorem dX7_same_60 : decode cX7_same 60 = .ok (.aload_n 0, 1) := by decide +kernel
theorem dX7_same_61 : decode cX7_same 61 = .ok (.getfield 34, 3) := by decide +kernel
theorem dX7_same_64 : decode cX7_same 64 = .ok (.getfield 146, 3) := by decide +kernel
theorem dX7_same_67 : decode cX7_same 67 = .ok (.invokevirtual 155, 3) := by decide +kernel
theorem dX7_same_70 : decode cX7_same 70 = .ok (.ifCond .eq 7, 3) := by decide +kernel
theorem dX7_same_73 : decode cX7_same 73 = .ok (.iconst 1, 1) := by decide +kernel
theorem dX7_same_74 : decode cX7_same 74 = .ok (.goto 4, 3) := by decide +kernel
theorem dX7_same_77 : decode cX7_same 77 = .ok (.iconst 0, 1) := by decide +kernel
theorem dX7_same_78 : decode cX7_same 78 = .ok (.ireturn, 1) := by decide +kernel
set_option maxRecDepth 20000 in
theorem ggX7_rest_X7_isRowBeside : GoodIn wsX7_rest wsX7_isRowBeside := goodIn_r _ [8, 1, 9, 10, 11, 12, 13, 14, 15, 16, 17, 18, 19, 20, 7, 21, 22, 23, 24, 186, 187, 188, 189, 190, 191, 192, 193, 194, 195, 196, 197, 198, 203, 204, 205, 206, 207, 208, 209] (by decide +kernel) (by decide +kernel)
set_option maxRecDepth 20000 in
theorem gX7_rest_X7_isRowBeside : GoodIn wsX7_rest (wsV RX7 158 RX7 yX7_isRowBeside wsX7_isRowBeside) := goodIn_app (goodIn_of _ (by decide +kernel)) ggX7_rest_X7_isRowBeside
set_option maxRecDepth 20000 in
theorem ggX7_rest_X3_hasColumn : GoodIn wsX7_rest wsX3_hasColumn := goodIn_r _ [28, 29, 203, 204, 205, 206, 207, 208, 209] (by decide +kernel) (by decide +kernel)
set_option maxRecDepth 20000 in
theorem gX7_rest_X3_hasColumn : GoodIn wsX7_rest (wsV RX7 86 RX3 yX3_hasColumn wsX3_hasColumn) := goodIn_app (goodIn_of _ (by decide +kernel)) ggX7_rest_X3_hasColumn
set_option maxRecDepth 20000 in
theorem ggX7_rest_X7_isWithin : GoodIn wsX7_rest wsX7_isWithin := goodIn_r _ [24] (by decide +kernel) (by decide +kernel)
set_option maxRecDepth 20000 in
theorem gX7_rest_X7_isWithin : GoodIn wsX7_rest (va_wsS RX7 89 yX7_isWithin wsX7_isWithin) := goodIn_app (goodIn_of _ (by decide +kernel)) ggX7_rest_X7_isWithin
set_option maxRecDepth 20000 in
theorem ggX7_rest_X7_counted : GoodIn wsX7_rest wsX7_counted := goodIn_r _ [33, 34, 35, 36, 186, 187, 188, 189, 190, 191, 192, 193, 194, 195, 196, 197, 198] (by decide +kernel) (by decide +kernel)
set_option maxRecDepth 20000 in
theorem gX7_rest_X7_counted : GoodIn wsX7_rest (wsV RX7 93 RX7 yX7_counted wsX7_counted) := goodIn_app (goodIn_of _ (by decide +kernel)) ggX7_rest_X7_counted
set_option maxRecDepth 20000 in
theorem ggX7_rest_X2_buildFrom : GoodIn wsX7_rest wsX2_buildFrom := goodIn_r _ [41, 42, 43, 44, 45, 46, 47, 48, 12, 49, 50, 29, 14, 20, 7, 21, 22, 23, 24, 51, 52, 53, 54, 55, 56, 57, 58, 59, 60, 61, 62, 63, 64, 65, 66, 67, 68, 69, 70, 71, 72, 73, 74, 75, 76, 77, 78, 79, 80, 81, 82, 83, 84, 40, 85, 86, 87, 88, 89, 90, 91, 92, 93, 94, 95, 96, 97, 98, 99, 100, 101, 102, 103, 104, 105, 106, 107, 108, 109, 110, 111, 112, 113, 114, 115, 116, 117, 118, 119, 120, 121, 122, 123, 124, 125, 126, 127, 128, 129, 130, 131, 132, 133, 134, 135, 136, 137, 138, 139, 140, 141, 142, 143, 144, 145, 146, 147, 148, 149, 150, 151, 152, 153, 154, 155, 156, 10, 11, 13, 157, 158, 159, 160, 161, 162, 163, 164, 165, 166, 167, 168, 169, 170, 171, 172, 173, 174, 175, 176, 177, 178, 179, 199, 200, 201, 202, 203, 204, 205, 206, 207, 208, 209, 210, 211, 212, 213, 214, 215, 216] (by decide +kernel) (by decide +kernel)
set_option maxRecDepth 20000 in
theorem gX7_rest_X2_buildFrom : GoodIn wsX7_rest (wsV RX7 142 RX2 yX2_buildFrom wsX2_buildFrom) := goodIn_app (goodIn_of _ (by decide +kernel)) ggX7_rest_X2_buildFrom
set_option maxRecDepth 20000 in
theorem ggX7_rest_X2_divide : GoodIn wsX7_rest wsX2_divide := goodIn_r _ [183, 184, 43, 44, 46, 47, 48, 12, 49, 50, 29, 14, 51, 52, 53, 54, 55, 56, 57, 58, 59, 60, 61, 62, 63, 64, 65, 66, 67, 68, 69, 70, 71, 7, 72, 73, 74, 75, 76, 77, 78, 79, 80, 159, 160, 161, 40, 162, 163, 42, 164, 104, 105, 106, 107, 108, 109, 110, 111, 112, 113, 114, 115, 116, 117, 118, 165, 166, 167, 168, 169, 123, 124, 125, 126, 127, 128, 134, 135, 170, 199, 200, 201, 202, 203, 204, 205, 206, 207, 208, 209, 215, 216] (by decide +kernel) (by decide +kernel)
set_option maxRecDepth 20000 in
theorem gX7_rest_X2_divide : GoodIn wsX7_rest (wsV RX7 162 RX2 yX2_divide wsX2_divide) := goodIn_app (goodIn_of _ (by decide +kernel)) ggX7_rest_X2_divide
set_option maxRecDepth 20000 in
theorem ggX7_rest_X3_at : GoodIn wsX7_rest wsX3_at := goodIn_r _ [65, 55, 60, 61, 66, 203, 204, 205, 206, 207, 208, 209] (by decide +kernel) (by decide +kernel)
set_option maxRecDepth 20000 in
theorem gX7_rest_X3_at : GoodIn wsX7_rest (wsV RX7 96 RX3 yX3_at wsX3_at) := goodIn_app (goodIn_of _ (by decide +kernel)) ggX7_rest_X3_at
theorem dX7_rest_0 : decode cX7_rest 0 = .ok (.aload_n 0, 1) := by decide +kernel
theorem dX7_rest_1 : decode cX7_rest 1 = .ok (.iload_n 1, 1) := by decide +kernel
theorem dX7_rest_2 : decode cX7_rest 2 = .ok (.iload_n 2, 1) := by decide +kernel
theorem dX7_rest_3 : decode cX7_rest 3 = .ok (.invokevirtual 158, 3) := by decide +kernel
theorem dX7_rest_6 : decode cX7_rest 6 = .ok (.ifCond .eq 25, 3) := by decide +kernel
theorem dX7_rest_9 : decode cX7_rest 9 = .ok (.aload_n 0, 1) := by decide +kernel
theorem dX7_rest_10 : decode cX7_rest 10 = .ok (.getfield 13, 3) := by decide +kernel
theorem dX7_rest_13 : decode cX7_rest 13 = .ok (.iload_n 3, 1) := by decide +kernel
theorem dX7_rest_14 : decode cX7_rest 14 = .ok (.invokevirtual 86, 3) := by decide +kernel
theorem dX7_rest_17 : decode cX7_rest 17 = .ok (.ifCond .eq 14, 3) := by decide +kernel
theorem dX7_rest_20 : decode cX7_rest 20 = .ok (.iload 4, 2) := by decide +kernel
theorem dX7_rest_22 : decode cX7_rest 22 = .ok (.iconst 0, 1) := by decide +kernel
theorem dX7_rest_23 : decode cX7_rest 23 = .ok (.bipush 6, 2) := by decide +kernel
theorem dX7_rest_25 : decode cX7_rest 25 = .ok (.invokestatic 89, 3) := by decide +kernel
theorem dX7_rest_28 : decode cX7_rest 28 = .ok (.ifCond .ne 10, 3) := by decide +kernel
theorem dX7_rest_31 : decode cX7_rest 31 = .ok (.aload_n 0, 1) := by decide +kernel
theorem dX7_rest_32 : decode cX7_rest 32 = .ok (.bipush (-2), 2) := by decide +kernel
theorem dX7_rest_34 : decode cX7_rest 34 = .ok (.invokevirtual 93, 3) := by decide +kernel
theorem dX7_rest_37 : decode cX7_rest 37 = .ok (.ireturn, 1) := by decide +kernel
theorem dX7_rest_38 : decode cX7_rest 38 = .ok (.aload_n 0, 1) := by decide +kernel
theorem dX7_rest_39 : decode cX7_rest 39 = .ok (.getfield 30, 3) := by decide +kernel
theorem dX7_rest_42 : decode cX7_rest 42 = .ok (.aload_n 0, 1) := by decide +kernel
theorem dX7_rest_43 : decode cX7_rest 43 = .ok (.getfield 13, 3) := by decide +kernel
theorem dX7_rest_46 : decode cX7_rest 46 = .ok (.iload_n 2, 1) := by decide +kernel
theorem dX7_rest_47 : decode cX7_rest 47 = .ok (.invokevirtual 142, 3) := by decide +kernel
theorem dX7_rest_50 : decode cX7_rest 50 = .ok (.aload_n 0, 1) := by decide +kernel
theorem dX7_rest_51 : decode cX7_rest 51 = .ok (.getfield 30, 3) := by decide +kernel
theorem dX7_rest_54 : decode cX7_rest 54 = .ok (.aload_n 0, 1) := by decide +kernel
theorem dX7_rest_55 : decode cX7_rest 55 = .ok (.getfield 13, 3) := by decide +kernel
theorem dX7_rest_58 : decode cX7_rest 58 = .ok (.iload_n 1, 1) := by decide +kernel
theorem dX7_rest_59 : decode cX7_rest 59 = .ok (.invokevirtual 162, 3) := by decide +kernel
theorem dX7_rest_62 : decode cX7_rest 62 = .ok (.aload_n 0, 1) := by decide +kernel
theorem dX7_rest_63 : decode cX7_rest 63 = .ok (.getfield 30, 3) := by decide +kernel
theorem dX7_rest_66 : decode cX7_rest 66 = .ok (.getfield 165, 3) := by decide +kernel
theorem dX7_rest_69 : decode cX7_rest 69 = .ok (.iconst 0, 1) := by decide +kernel
theorem dX7_rest_70 : decode cX7_rest 70 = .ok (.iload_n 3, 1) := by decide +kernel
theorem dX7_rest_71 : decode cX7_rest 71 = .ok (.iload 4, 2) := by decide +kernel
theorem dX7_rest_73 : decode cX7_rest 73 = .ok (.invokevirtual 96, 3) := by decide +kernel
theorem dX7_rest_76 : decode cX7_rest 76 = .ok (.ireturn, 1) := by decide +kernel
set_option maxRecDepth 20000 in
theorem ggX7_made_X7_isRowBeside : GoodIn wsX7_made wsX7_isRowBeside := goodIn_r _ [7, 2, 8, 9, 10, 11, 12, 13, 14, 15, 16, 17, 18, 19, 6, 20, 21, 22, 23, 184, 185, 186, 187, 188, 189, 190, 191, 192, 193, 194, 195, 196, 197, 198, 199, 200, 201, 202, 203] (by decide +kernel) (by decide +kernel)
set_option maxRecDepth 20000 in
theorem gX7_made_X7_isRowBeside : GoodIn wsX7_made (wsV RX7 158 RX7 yX7_isRowBeside wsX7_isRowBeside) := goodIn_app (goodIn_of _ (by decide +kernel)) ggX7_made_X7_isRowBeside
set_option maxRecDepth 20000 in
theorem ggX7_made_X7_counted : GoodIn wsX7_made wsX7_counted := goodIn_r _ [27, 28, 29, 30, 184, 185, 186, 187, 188, 189, 190, 191, 192, 193, 194, 195, 196] (by decide +kernel) (by decide +kernel)
set_option maxRecDepth 20000 in
theorem gX7_made_X7_counted : GoodIn wsX7_made (wsV RX7 93 RX7 yX7_counted wsX7_counted) := goodIn_app (goodIn_of _ (by decide +kernel)) ggX7_made_X7_counted
set_option maxRecDepth 20000 in
theorem ggX7_made_X2_buildFrom : GoodIn wsX7_made wsX2_buildFrom := goodIn_r _ [35, 36, 37, 38, 39, 40, 41, 42, 11, 43, 44, 45, 13, 19, 6, 20, 21, 22, 23, 46, 47, 48, 49, 50, 51, 52, 53, 54, 55, 56, 57, 58, 59, 60, 61, 62, 63, 64, 65, 66, 67, 68, 69, 70, 71, 72, 73, 74, 75, 76, 77, 78, 79, 34, 80, 81, 82, 83, 84, 85, 86, 87, 88, 89, 90, 91, 92, 93, 94, 95, 96, 97, 98, 99, 100, 101, 102, 103, 104, 105, 106, 107, 108, 109, 110, 111, 112, 113, 114, 115, 116, 117, 118, 119, 120, 121, 122, 123, 124, 125, 126, 127, 128, 129, 130, 131, 132, 133, 134, 135, 136, 137, 138, 139, 140, 141, 142, 143, 144, 145, 146, 147, 148, 149, 150, 151, 9, 10, 12, 152, 153, 154, 155, 156, 157, 158, 159, 160, 161, 162, 163, 164, 165, 166, 167, 168, 169, 170, 171, 172, 173, 174, 204, 205, 206, 207, 197, 198, 199, 200, 201, 202, 203, 208, 209, 210, 211, 212, 213, 214] (by decide +kernel) (by decide +kernel)
set_option maxRecDepth 20000 in
theorem gX7_made_X2_buildFrom : GoodIn wsX7_made (wsV RX7 142 RX2 yX2_buildFrom wsX2_buildFrom) := goodIn_app (goodIn_of _ (by decide +kernel)) ggX7_made_X2_buildFrom
set_option maxRecDepth 20000 in
theorem ggX7_made_X2_divide : GoodIn wsX7_made wsX2_divide := goodIn_r _ [178, 179, 37, 38, 40, 41, 42, 11, 43, 44, 45, 13, 46, 47, 48, 49, 50, 51, 52, 53, 54, 55, 56, 57, 58, 59, 60, 61, 62, 63, 64, 65, 66, 6, 67, 68, 69, 70, 71, 72, 73, 74, 75, 154, 155, 156, 34, 157, 158, 36, 159, 99, 100, 101, 102, 103, 104, 105, 106, 107, 108, 109, 110, 111, 112, 113, 160, 161, 162, 163, 164, 118, 119, 120, 121, 122, 123, 129, 130, 165, 204, 205, 206, 207, 197, 198, 199, 200, 201, 202, 203, 213, 214] (by decide +kernel) (by decide +kernel)
set_option maxRecDepth 20000 in
theorem gX7_made_X2_divide : GoodIn wsX7_made (wsV RX7 162 RX2 yX2_divide wsX2_divide) := goodIn_app (goodIn_of _ (by decide +kernel)) ggX7_made_X2_divide
set_option maxRecDepth 20000 in
theorem ggX7_made_X2_isDivided : GoodIn wsX7_made wsX2_isDivided := goodIn_r _ [183, 179, 139, 140, 141, 11, 142, 128, 111, 112, 113, 45, 57, 58, 59, 60, 50, 55, 56, 61, 129, 6, 130, 204, 205, 206, 207, 197, 198, 199, 200, 201, 202, 203] (by decide +kernel) (by decide +kernel)
set_option maxRecDepth 20000 in
theorem gX7_made_X2_isDivided : GoodIn wsX7_made (wsV RX7 168 RX2 yX2_isDivided wsX2_isDivided) := goodIn_app (goodIn_of _ (by decide +kernel)) ggX7_made_X2_isDivided
theorem dX7_made_0 : decode cX7_made 0 = .ok (.aload_n 0, 1) := by decide +kernel
theorem dX7_made_1 : decode cX7_made 1 = .ok (.iload_n 1, 1) := by decide +kernel
theorem dX7_made_2 : decode cX7_made 2 = .ok (.iload_n 2, 1) := by decide +kernel
theorem dX7_made_3 : decode cX7_made 3 = .ok (.invokevirtual 158, 3) := by decide +kernel
theorem dX7_made_6 : decode cX7_made 6 = .ok (.ifCond .ne 10, 3) := by decide +kernel
theorem dX7_made_9 : decode cX7_made 9 = .ok (.aload_n 0, 1) := by decide +kernel
theorem dX7_made_10 : decode cX7_made 10 = .ok (.bipush (-2), 2) := by decide +kernel
theorem dX7_made_12 : decode cX7_made 12 = .ok (.invokevirtual 93, 3) := by decide +kernel
theorem dX7_made_15 : decode cX7_made 15 = .ok (.ireturn, 1) := by decide +kernel
theorem dX7_made_16 : decode cX7_made 16 = .ok (.aload_n 0, 1) := by decide +kernel
theorem dX7_made_17 : decode cX7_made 17 = .ok (.getfield 30, 3) := by decide +kernel
theorem dX7_made_20 : decode cX7_made 20 = .ok (.aload_n 0, 1) := by decide +kernel
theorem dX7_made_21 : decode cX7_made 21 = .ok (.getfield 13, 3) := by decide +kernel
theorem dX7_made_24 : decode cX7_made 24 = .ok (.iload_n 2, 1) := by decide +kernel
theorem dX7_made_25 : decode cX7_made 25 = .ok (.invokevirtual 142, 3) := by decide +kernel
theorem dX7_made_28 : decode cX7_made 28 = .ok (.aload_n 0, 1) := by decide +kernel
theorem dX7_made_29 : decode cX7_made 29 = .ok (.getfield 30, 3) := by decide +kernel
theorem dX7_made_32 : decode cX7_made 32 = .ok (.aload_n 0, 1) := by decide +kernel
theorem dX7_made_33 : decode cX7_made 33 = .ok (.getfield 13, 3) := by decide +kernel
theorem dX7_made_36 : decode cX7_made 36 = .ok (.iload_n 1, 1) := by decide +kernel
theorem dX7_made_37 : decode cX7_made 37 = .ok (.invokevirtual 162, 3) := by decide +kernel
theorem dX7_made_40 : decode cX7_made 40 = .ok (.aload_n 0, 1) := by decide +kernel
theorem dX7_made_41 : decode cX7_made 41 = .ok (.getfield 30, 3) := by decide +kernel
theorem dX7_made_44 : decode cX7_made 44 = .ok (.invokevirtual 168, 3) := by decide +kernel
theorem dX7_made_47 : decode cX7_made 47 = .ok (.ifCond .eq 7, 3) := by decide +kernel
theorem dX7_made_50 : decode cX7_made 50 = .ok (.iconst 1, 1) := by decide +kernel
theorem dX7_made_51 : decode cX7_made 51 = .ok (.goto 4, 3) := by decide +kernel
theorem dX7_made_54 : decode cX7_made 54 = .ok (.iconst 0, 1) := by decide +kernel
theorem dX7_made_55 : decode cX7_made 55 = .ok (.ireturn, 1) := by decide +kernel
set_option maxRecDepth 20000 in
theorem ggX7_factor_X7_isRowBeside : GoodIn wsX7_factor wsX7_isRowBeside := goodIn_r _ [9, 2, 10, 11, 12, 13, 14, 15, 16, 17, 18, 19, 20, 21, 8, 22, 23, 24, 25, 197, 198, 199, 200, 201, 202, 203, 204, 205, 206, 207, 208, 209, 214, 215, 216, 217, 218, 219, 220] (by decide +kernel) (by decide +kernel)
set_option maxRecDepth 20000 in
theorem gX7_factor_X7_isRowBeside : GoodIn wsX7_factor (wsV RX7 158 RX7 yX7_isRowBeside wsX7_isRowBeside) := goodIn_app (goodIn_of _ (by decide +kernel)) ggX7_factor_X7_isRowBeside
set_option maxRecDepth 20000 in
theorem ggX7_factor_X7_isInSet : GoodIn wsX7_factor wsX7_isInSet := goodIn_r _ [22, 23, 24, 8, 25] (by decide +kernel) (by decide +kernel)
set_option maxRecDepth 20000 in
theorem gX7_factor_X7_isInSet : GoodIn wsX7_factor (va_wsS RX7 172 yX7_isInSet wsX7_isInSet) := goodIn_app (goodIn_of _ (by decide +kernel)) ggX7_factor_X7_isInSet
set_option maxRecDepth 20000 in
theorem ggX7_factor_X7_isWithin : GoodIn wsX7_factor wsX7_isWithin := goodIn_r _ [25] (by decide +kernel) (by decide +kernel)
set_option maxRecDepth 20000 in
theorem gX7_factor_X7_isWithin : GoodIn wsX7_factor (va_wsS RX7 89 yX7_isWithin wsX7_isWithin) := goodIn_app (goodIn_of _ (by decide +kernel)) ggX7_factor_X7_isWithin
set_option maxRecDepth 20000 in
theorem ggX7_factor_X7_counted : GoodIn wsX7_factor wsX7_counted := goodIn_r _ [29, 30, 31, 32, 197, 198, 199, 200, 201, 202, 203, 204, 205, 206, 207, 208, 209] (by decide +kernel) (by decide +kernel)
set_option maxRecDepth 20000 in
theorem gX7_factor_X7_counted : GoodIn wsX7_factor (wsV RX7 93 RX7 yX7_counted wsX7_counted) := goodIn_app (goodIn_of _ (by decide +kernel)) ggX7_factor_X7_counted
set_option maxRecDepth 20000 in
theorem ggX7_factor_X2_buildFrom : GoodIn wsX7_factor wsX2_buildFrom := goodIn_r _ [37, 38, 39, 40, 41, 42, 43, 44, 13, 45, 46, 47, 15, 21, 8, 22, 23, 24, 25, 48, 49, 50, 51, 52, 53, 54, 55, 56, 57, 58, 59, 60, 61, 62, 63, 64, 65, 66, 67, 68, 69, 70, 71, 72, 73, 74, 75, 76, 77, 78, 79, 80, 81, 36, 82, 83, 84, 85, 86, 87, 88, 89, 90, 91, 92, 93, 94, 95, 96, 97, 98, 99, 100, 101, 102, 103, 104, 105, 106, 107, 108, 109, 110, 111, 112, 113, 114, 115, 116, 117, 118, 119, 120, 121, 122, 123, 124, 125, 126, 127, 128, 129, 130, 131, 132, 133, 134, 135, 136, 137, 138, 139, 140, 141, 142, 143, 144, 145, 146, 147, 148, 149, 150, 151, 152, 153, 11, 12, 14, 154, 155, 156, 157, 158, 159, 160, 161, 162, 163, 164, 165, 166, 167, 168, 169, 170, 171, 172, 173, 174, 175, 176, 210, 211, 212, 213, 214, 215, 216, 217, 218, 219, 220, 221, 222, 223, 224, 225, 226, 227] (by decide +kernel) (by decide +kernel)
set_option maxRecDepth 20000 in
theorem gX7_factor_X2_buildFrom : GoodIn wsX7_factor (wsV RX7 142 RX2 yX2_buildFrom wsX2_buildFrom) := goodIn_app (goodIn_of _ (by decide +kernel)) ggX7_factor_X2_buildFrom
set_option maxRecDepth 20000 in
theorem ggX7_factor_X2_divide : GoodIn wsX7_factor wsX2_divide := goodIn_r _ [180, 181, 39, 40, 42, 43, 44, 13, 45, 46, 47, 15, 48, 49, 50, 51, 52, 53, 54, 55, 56, 57, 58, 59, 60, 61, 62, 63, 64, 65, 66, 67, 68, 8, 69, 70, 71, 72, 73, 74, 75, 76, 77, 156, 157, 158, 36, 159, 160, 38, 161, 101, 102, 103, 104, 105, 106, 107, 108, 109, 110, 111, 112, 113, 114, 115, 162, 163, 164, 165, 166, 120, 121, 122, 123, 124, 125, 131, 132, 167, 210, 211, 212, 213, 214, 215, 216, 217, 218, 219, 220, 226, 227] (by decide +kernel) (by decide +kernel)
set_option maxRecDepth 20000 in
theorem gX7_factor_X2_divide : GoodIn wsX7_factor (wsV RX7 162 RX2 yX2_divide wsX2_divide) := goodIn_app (goodIn_of _ (by decide +kernel)) ggX7_factor_X2_divide
set_option maxRecDepth 20000 in
theorem ggX7_factor_X2_isDivided : GoodIn wsX7_factor wsX2_isDivided := goodIn_r _ [185, 181, 141, 142, 143, 13, 144, 130, 113, 114, 115, 47, 59, 60, 61, 62, 52, 57, 58, 63, 131, 8, 132, 210, 211, 212, 213, 214, 215, 216, 217, 218, 219, 220] (by decide +kernel) (by decide +kernel)
set_option maxRecDepth 20000 in
theorem gX7_factor_X2_isDivided : GoodIn wsX7_factor (wsV RX7 168 RX2 yX2_isDivided wsX2_isDivided) := goodIn_app (goodIn_of _ (by decide +kernel)) ggX7_factor_X2_isDivided
set_option maxRecDepth 20000 in
theorem ggX7_factor_J6_bitCount_0f7a4 : GoodIn wsX7_factor wsJ6_bitCount_0f7a4 := goodIn_r _ [189, 190, 191, 192] (by decide +kernel) (by decide +kernel)
set_option maxRecDepth 20000 in
theorem gX7_factor_J6_bitCount_0f7a4 : GoodIn wsX7_factor (va_wsS RX7 175 yJ6_bitCount_0f7a4 wsJ6_bitCount_0f7a4) := goodIn_app (goodIn_of _ (by decide +kernel)) ggX7_factor_J6_bitCount_0f7a4
set_option maxRecDepth 20000 in
theorem ggX7_factor_X2_factorAt : GoodIn wsX7_factor wsX2_factorAt := goodIn_r _ [196, 181, 39, 162, 60, 61, 13, 62, 52, 57, 58, 63, 68, 8, 69, 70, 71, 72, 73, 210, 211, 212, 213, 214, 215, 216, 217, 218, 219, 220] (by decide +kernel) (by decide +kernel)
set_option maxRecDepth 20000 in
theorem gX7_factor_X2_factorAt : GoodIn wsX7_factor (wsV RX7 180 RX2 yX2_factorAt wsX2_factorAt) := goodIn_app (goodIn_of _ (by decide +kernel)) ggX7_factor_X2_factorAt
theorem dX7_factor_0 : decode cX7_factor 0 = .ok (.aload_n 0, 1) := by decide +kernel
theorem dX7_factor_1 : decode cX7_factor 1 = .ok (.iload_n 1, 1) := by decide +kernel
theorem dX7_factor_2 : decode cX7_factor 2 = .ok (.iload_n 2, 1) := by decide +kernel
theorem dX7_factor_3 : decode cX7_factor 3 = .ok (.invokevirtual 158, 3) := by decide +kernel
theorem dX7_factor_6 : decode cX7_factor 6 = .ok (.ifCond .eq 22, 3) := by decide +kernel
theorem dX7_factor_9 : decode cX7_factor 9 = .ok (.iload_n 3, 1) := by decide +kernel
theorem dX7_factor_10 : decode cX7_factor 10 = .ok (.iload_n 2, 1) := by decide +kernel
theorem dX7_factor_11 : decode cX7_factor 11 = .ok (.invokestatic 172, 3) := by decide +kernel
theorem dX7_factor_14 : decode cX7_factor 14 = .ok (.ifCond .eq 14, 3) := by decide +kernel
theorem dX7_factor_17 : decode cX7_factor 17 = .ok (.iload 4, 2) := by decide +kernel
theorem dX7_factor_19 : decode cX7_factor 19 = .ok (.iconst 0, 1) := by decide +kernel
theorem dX7_factor_20 : decode cX7_factor 20 = .ok (.bipush 24, 2) := by decide +kernel
theorem dX7_factor_22 : decode cX7_factor 22 = .ok (.invokestatic 89, 3) := by decide +kernel
theorem dX7_factor_25 : decode cX7_factor 25 = .ok (.ifCond .ne 10, 3) := by decide +kernel
theorem dX7_factor_28 : decode cX7_factor 28 = .ok (.aload_n 0, 1) := by decide +kernel
theorem dX7_factor_29 : decode cX7_factor 29 = .ok (.bipush (-2), 2) := by decide +kernel
theorem dX7_factor_31 : decode cX7_factor 31 = .ok (.invokevirtual 93, 3) := by decide +kernel
theorem dX7_factor_34 : decode cX7_factor 34 = .ok (.ireturn, 1) := by decide +kernel
theorem dX7_factor_35 : decode cX7_factor 35 = .ok (.aload_n 0, 1) := by decide +kernel
theorem dX7_factor_36 : decode cX7_factor 36 = .ok (.getfield 30, 3) := by decide +kernel
theorem dX7_factor_39 : decode cX7_factor 39 = .ok (.aload_n 0, 1) := by decide +kernel
theorem dX7_factor_40 : decode cX7_factor 40 = .ok (.getfield 13, 3) := by decide +kernel
theorem dX7_factor_43 : decode cX7_factor 43 = .ok (.iload_n 2, 1) := by decide +kernel
theorem dX7_factor_44 : decode cX7_factor 44 = .ok (.invokevirtual 142, 3) := by decide +kernel
theorem dX7_factor_47 : decode cX7_factor 47 = .ok (.aload_n 0, 1) := by decide +kernel
theorem dX7_factor_48 : decode cX7_factor 48 = .ok (.getfield 30, 3) := by decide +kernel
theorem dX7_factor_51 : decode cX7_factor 51 = .ok (.aload_n 0, 1) := by decide +kernel
theorem dX7_factor_52 : decode cX7_factor 52 = .ok (.getfield 13, 3) := by decide +kernel
theorem dX7_factor_55 : decode cX7_factor 55 = .ok (.iload_n 1, 1) := by decide +kernel
theorem dX7_factor_56 : decode cX7_factor 56 = .ok (.invokevirtual 162, 3) := by decide +kernel
theorem dX7_factor_59 : decode cX7_factor 59 = .ok (.aload_n 0, 1) := by decide +kernel
theorem dX7_factor_60 : decode cX7_factor 60 = .ok (.getfield 30, 3) := by decide +kernel
theorem dX7_factor_63 : decode cX7_factor 63 = .ok (.invokevirtual 168, 3) := by decide +kernel
theorem dX7_factor_66 : decode cX7_factor 66 = .ok (.ifCond .eq 20, 3) := by decide +kernel
theorem dX7_factor_69 : decode cX7_factor 69 = .ok (.aload_n 0, 1) := by decide +kernel
theorem dX7_factor_70 : decode cX7_factor 70 = .ok (.getfield 30, 3) := by decide +kernel
theorem dX7_factor_73 : decode cX7_factor 73 = .ok (.getfield 146, 3) := by decide +kernel
theorem dX7_factor_76 : decode cX7_factor 76 = .ok (.getfield 149, 3) := by decide +kernel
theorem dX7_factor_79 : decode cX7_factor 79 = .ok (.iload_n 2, 1) := by decide +kernel
theorem dX7_factor_80 : decode cX7_factor 80 = .ok (.invokestatic 175, 3) := by decide +kernel
theorem dX7_factor_83 : decode cX7_factor 83 = .ok (.if_icmp .ge 10, 3) := by decide +kernel
theorem dX7_factor_86 : decode cX7_factor 86 = .ok (.aload_n 0, 1) := by decide +kernel
theorem dX7_factor_87 : decode cX7_factor 87 = .ok (.bipush (-3), 2) := by decide +kernel
theorem dX7_factor_89 : decode cX7_factor 89 = .ok (.invokevirtual 93, 3) := by decide +kernel
theorem dX7_factor_92 : decode cX7_factor 92 = .ok (.ireturn, 1) := by decide +kernel
theorem dX7_factor_93 : decode cX7_factor 93 = .ok (.aload_n 0, 1) := by decide +kernel
theorem dX7_factor_94 : decode cX7_factor 94 = .ok (.getfield 30, 3) := by decide +kernel
theorem dX7_factor_97 : decode cX7_factor 97 = .ok (.iload_n 3, 1) := by decide +kernel
theorem dX7_factor_98 : decode cX7_factor 98 = .ok (.iload 4, 2) := by decide +kernel
theorem dX7_factor_100 : decode cX7_factor 100 = .ok (.invokevirtual 180, 3) := by decide +kernel
theorem dX7_factor_103 : decode cX7_factor 103 = .ok (.ireturn, 1) := by decide +kernel
set_option maxRecDepth 20000 in
theorem ggX7_det_X3_hasSet : GoodIn wsX7_det wsX3_hasSet := goodIn_r _ [8, 9, 93, 94, 95, 96, 97, 98, 99] (by decide +kernel) (by decide +kernel)
set_option maxRecDepth 20000 in
theorem gX7_det_X3_hasSet : GoodIn wsX7_det (wsV RX7 139 RX3 yX3_hasSet wsX3_hasSet) := goodIn_app (goodIn_of _ (by decide +kernel)) ggX7_det_X3_hasSet
set_option maxRecDepth 20000 in
theorem ggX7_det_X7_isWithin : GoodIn wsX7_det wsX7_isWithin := goodIn_r _ [13] (by decide +kernel) (by decide +kernel)
set_option maxRecDepth 20000 in
theorem gX7_det_X7_isWithin : GoodIn wsX7_det (va_wsS RX7 89 yX7_isWithin wsX7_isWithin) := goodIn_app (goodIn_of _ (by decide +kernel)) ggX7_det_X7_isWithin
set_option maxRecDepth 20000 in
theorem ggX7_det_X7_counted : GoodIn wsX7_det wsX7_counted := goodIn_r _ [17, 18, 19, 20, 80, 81, 82, 83, 84, 85, 86, 87, 88, 89, 90, 91, 92] (by decide +kernel) (by decide +kernel)
set_option maxRecDepth 20000 in
theorem gX7_det_X7_counted : GoodIn wsX7_det (wsV RX7 93 RX7 yX7_counted wsX7_counted) := goodIn_app (goodIn_of _ (by decide +kernel)) ggX7_det_X7_counted
set_option maxRecDepth 20000 in
theorem ggX7_det_J6_bitCount_0f7a4 : GoodIn wsX7_det wsJ6_bitCount_0f7a4 := goodIn_r _ [24, 25, 26, 27] (by decide +kernel) (by decide +kernel)
set_option maxRecDepth 20000 in
theorem gX7_det_J6_bitCount_0f7a4 : GoodIn wsX7_det (va_wsS RX7 175 yJ6_bitCount_0f7a4 wsJ6_bitCount_0f7a4) := goodIn_app (goodIn_of _ (by decide +kernel)) ggX7_det_J6_bitCount_0f7a4
set_option maxRecDepth 20000 in
theorem ggX7_det_X0_buildFrom : GoodIn wsX7_det wsX0_buildFrom := goodIn_r _ [32, 33, 34, 35, 36, 37, 38, 31, 39, 40, 41, 42, 43, 12, 44, 10, 11, 13, 45, 46, 47, 48, 49, 50, 51, 52, 53, 54, 55, 56, 7, 57, 58, 59, 60, 61, 62, 63, 64, 65, 66, 67, 68, 69, 70, 71, 100, 101, 102, 93, 94, 95, 96, 97, 98, 99] (by decide +kernel) (by decide +kernel)
set_option maxRecDepth 20000 in
theorem gX7_det_X0_buildFrom : GoodIn wsX7_det (wsV RX7 187 RX0 yX0_buildFrom wsX0_buildFrom) := goodIn_app (goodIn_of _ (by decide +kernel)) ggX7_det_X0_buildFrom
set_option maxRecDepth 20000 in
theorem ggX7_det_X0_degree : GoodIn wsX7_det wsX0_degree := goodIn_r _ [75, 33, 100, 101, 102] (by decide +kernel) (by decide +kernel)
set_option maxRecDepth 20000 in
theorem gX7_det_X0_degree : GoodIn wsX7_det (wsV RX7 188 RX0 yX0_degree wsX0_degree) := goodIn_app (goodIn_of _ (by decide +kernel)) ggX7_det_X0_degree
set_option maxRecDepth 20000 in
theorem ggX7_det_X0_at : GoodIn wsX7_det wsX0_at := goodIn_r _ [79, 33, 100, 101, 102] (by decide +kernel) (by decide +kernel)
set_option maxRecDepth 20000 in
theorem gX7_det_X0_at : GoodIn wsX7_det (wsV RX7 191 RX0 yX0_at wsX0_at) := goodIn_app (goodIn_of _ (by decide +kernel)) ggX7_det_X0_at
theorem dX7_det_0 : decode cX7_det 0 = .ok (.aload_n 0, 1) := by decide +kernel
theorem dX7_det_1 : decode cX7_det 1 = .ok (.getfield 13, 3) := by decide +kernel
theorem dX7_det_4 : decode cX7_det 4 = .ok (.iload_n 1, 1) := by decide +kernel
theorem dX7_det_5 : decode cX7_det 5 = .ok (.invokevirtual 139, 3) := by decide +kernel
theorem dX7_det_8 : decode cX7_det 8 = .ok (.ifCond .eq 13, 3) := by decide +kernel
theorem dX7_det_11 : decode cX7_det 11 = .ok (.iload_n 2, 1) := by decide +kernel
theorem dX7_det_12 : decode cX7_det 12 = .ok (.iconst (-1), 1) := by decide +kernel
theorem dX7_det_13 : decode cX7_det 13 = .ok (.bipush 18, 2) := by decide +kernel
theorem dX7_det_15 : decode cX7_det 15 = .ok (.invokestatic 89, 3) := by decide +kernel
theorem dX7_det_18 : decode cX7_det 18 = .ok (.ifCond .ne 10, 3) := by decide +kernel
theorem dX7_det_21 : decode cX7_det 21 = .ok (.aload_n 0, 1) := by decide +kernel
theorem dX7_det_22 : decode cX7_det 22 = .ok (.bipush (-2), 2) := by decide +kernel
theorem dX7_det_24 : decode cX7_det 24 = .ok (.invokevirtual 93, 3) := by decide +kernel
theorem dX7_det_27 : decode cX7_det 27 = .ok (.ireturn, 1) := by decide +kernel
theorem dX7_det_28 : decode cX7_det 28 = .ok (.iload_n 1, 1) := by decide +kernel
theorem dX7_det_29 : decode cX7_det 29 = .ok (.invokestatic 175, 3) := by decide +kernel
theorem dX7_det_32 : decode cX7_det 32 = .ok (.aload_n 0, 1) := by decide +kernel
theorem dX7_det_33 : decode cX7_det 33 = .ok (.getfield 13, 3) := by decide +kernel
theorem dX7_det_36 : decode cX7_det 36 = .ok (.getfield 184, 3) := by decide +kernel
theorem dX7_det_39 : decode cX7_det 39 = .ok (.if_icmp .eq 10, 3) := by decide +kernel
theorem dX7_det_42 : decode cX7_det 42 = .ok (.aload_n 0, 1) := by decide +kernel
theorem dX7_det_43 : decode cX7_det 43 = .ok (.bipush (-3), 2) := by decide +kernel
theorem dX7_det_45 : decode cX7_det 45 = .ok (.invokevirtual 93, 3) := by decide +kernel
theorem dX7_det_48 : decode cX7_det 48 = .ok (.ireturn, 1) := by decide +kernel
theorem dX7_det_49 : decode cX7_det 49 = .ok (.aload_n 0, 1) := by decide +kernel
theorem dX7_det_50 : decode cX7_det 50 = .ok (.getfield 40, 3) := by decide +kernel
theorem dX7_det_53 : decode cX7_det 53 = .ok (.aload_n 0, 1) := by decide +kernel
theorem dX7_det_54 : decode cX7_det 54 = .ok (.getfield 13, 3) := by decide +kernel
theorem dX7_det_57 : decode cX7_det 57 = .ok (.iload_n 1, 1) := by decide +kernel
theorem dX7_det_58 : decode cX7_det 58 = .ok (.invokevirtual 187, 3) := by decide +kernel
theorem dX7_det_61 : decode cX7_det 61 = .ok (.iload_n 2, 1) := by decide +kernel
theorem dX7_det_62 : decode cX7_det 62 = .ok (.iconst (-1), 1) := by decide +kernel
theorem dX7_det_63 : decode cX7_det 63 = .ok (.if_icmp .ne 13, 3) := by decide +kernel
theorem dX7_det_66 : decode cX7_det 66 = .ok (.aload_n 0, 1) := by decide +kernel
theorem dX7_det_67 : decode cX7_det 67 = .ok (.getfield 40, 3) := by decide +kernel
theorem dX7_det_70 : decode cX7_det 70 = .ok (.invokevirtual 188, 3) := by decide +kernel
theorem dX7_det_73 : decode cX7_det 73 = .ok (.goto 11, 3) := by decide +kernel
theorem dX7_det_76 : decode cX7_det 76 = .ok (.aload_n 0, 1) := by decide +kernel
theorem dX7_det_77 : decode cX7_det 77 = .ok (.getfield 40, 3) := by decide +kernel
theorem dX7_det_80 : decode cX7_det 80 = .ok (.iload_n 2, 1) := by decide +kernel
theorem dX7_det_81 : decode cX7_det 81 = .ok (.invokevirtual 191, 3) := by decide +kernel
theorem dX7_det_84 : decode cX7_det 84 = .ok (.ireturn, 1) := by decide +kernel
set_option maxRecDepth 20000 in
theorem ggX7_quotient_X3_hasRow : GoodIn wsX7_quotient wsX3_hasRow := goodIn_r _ [8, 9, 187, 188, 189, 190, 191, 192, 193] (by decide +kernel) (by decide +kernel)
set_option maxRecDepth 20000 in
theorem gX7_quotient_X3_hasRow : GoodIn wsX7_quotient (wsV RX7 82 RX3 yX3_hasRow wsX3_hasRow) := goodIn_app (goodIn_of _ (by decide +kernel)) ggX7_quotient_X3_hasRow
set_option maxRecDepth 20000 in
theorem ggX7_quotient_X3_hasColumn : GoodIn wsX7_quotient wsX3_hasColumn := goodIn_r _ [13, 14, 187, 188, 189, 190, 191, 192, 193] (by decide +kernel) (by decide +kernel)
set_option maxRecDepth 20000 in
theorem gX7_quotient_X3_hasColumn : GoodIn wsX7_quotient (wsV RX7 86 RX3 yX3_hasColumn wsX3_hasColumn) := goodIn_app (goodIn_of _ (by decide +kernel)) ggX7_quotient_X3_hasColumn
set_option maxRecDepth 20000 in
theorem ggX7_quotient_X7_isWithin : GoodIn wsX7_quotient wsX7_isWithin := goodIn_r _ [18] (by decide +kernel) (by decide +kernel)
set_option maxRecDepth 20000 in
theorem gX7_quotient_X7_isWithin : GoodIn wsX7_quotient (va_wsS RX7 89 yX7_isWithin wsX7_isWithin) := goodIn_app (goodIn_of _ (by decide +kernel)) ggX7_quotient_X7_isWithin
set_option maxRecDepth 20000 in
theorem ggX7_quotient_X7_counted : GoodIn wsX7_quotient wsX7_counted := goodIn_r _ [22, 23, 24, 25, 170, 171, 172, 173, 174, 175, 176, 177, 178, 179, 180, 181, 182] (by decide +kernel) (by decide +kernel)
set_option maxRecDepth 20000 in
theorem gX7_quotient_X7_counted : GoodIn wsX7_quotient (wsV RX7 93 RX7 yX7_counted wsX7_counted) := goodIn_app (goodIn_of _ (by decide +kernel)) ggX7_quotient_X7_counted
set_option maxRecDepth 20000 in
theorem ggX7_quotient_X2_buildPade : GoodIn wsX7_quotient wsX2_buildPade := goodIn_r _ [30, 31, 32, 33, 34, 35, 7, 36, 37, 14, 9, 38, 39, 40, 41, 42, 43, 44, 45, 46, 47, 48, 49, 50, 51, 52, 53, 54, 55, 56, 57, 58, 17, 59, 60, 61, 62, 63, 64, 65, 66, 67, 68, 29, 69, 70, 71, 72, 73, 74, 75, 76, 77, 78, 79, 80, 81, 82, 83, 84, 85, 86, 87, 88, 89, 90, 91, 92, 93, 94, 95, 96, 97, 98, 99, 100, 101, 102, 103, 104, 105, 106, 107, 108, 109, 110, 111, 112, 113, 114, 115, 116, 117, 118, 119, 120, 121, 122, 123, 124, 125, 126, 127, 128, 129, 130, 131, 132, 133, 134, 135, 136, 137, 138, 139, 140, 141, 142, 143, 144, 145, 5, 6, 8, 146, 147, 148, 149, 150, 151, 152, 153, 154, 155, 156, 157, 158, 159, 160, 161, 162, 163, 164, 165, 166, 167, 168, 183, 184, 185, 186, 187, 188, 189, 190, 191, 192, 193, 194, 195, 196, 197, 198, 199, 200] (by decide +kernel) (by decide +kernel)
set_option maxRecDepth 20000 in
theorem gX7_quotient_X2_buildPade : GoodIn wsX7_quotient (wsV RX7 193 RX2 yX2_buildPade wsX2_buildPade) := goodIn_app (goodIn_of _ (by decide +kernel)) ggX7_quotient_X2_buildPade
set_option maxRecDepth 20000 in
theorem ggX7_quotient_X3_at : GoodIn wsX7_quotient wsX3_at := goodIn_r _ [52, 42, 47, 48, 53, 187, 188, 189, 190, 191, 192, 193] (by decide +kernel) (by decide +kernel)
set_option maxRecDepth 20000 in
theorem gX7_quotient_X3_at : GoodIn wsX7_quotient (wsV RX7 96 RX3 yX3_at wsX3_at) := goodIn_app (goodIn_of _ (by decide +kernel)) ggX7_quotient_X3_at
theorem dX7_quotient_0 : decode cX7_quotient 0 = .ok (.aload_n 0, 1) := by decide +kernel
theorem dX7_quotient_1 : decode cX7_quotient 1 = .ok (.getfield 13, 3) := by decide +kernel
theorem dX7_quotient_4 : decode cX7_quotient 4 = .ok (.iload_n 1, 1) := by decide +kernel
theorem dX7_quotient_5 : decode cX7_quotient 5 = .ok (.invokevirtual 82, 3) := by decide +kernel
theorem dX7_quotient_8 : decode cX7_quotient 8 = .ok (.ifCond .eq 45, 3) := by decide +kernel
theorem dX7_quotient_11 : decode cX7_quotient 11 = .ok (.aload_n 0, 1) := by decide +kernel
theorem dX7_quotient_12 : decode cX7_quotient 12 = .ok (.getfield 13, 3) := by decide +kernel
theorem dX7_quotient_15 : decode cX7_quotient 15 = .ok (.iload_n 2, 1) := by decide +kernel
theorem dX7_quotient_16 : decode cX7_quotient 16 = .ok (.invokevirtual 86, 3) := by decide +kernel
theorem dX7_quotient_19 : decode cX7_quotient 19 = .ok (.ifCond .eq 34, 3) := by decide +kernel
theorem dX7_quotient_22 : decode cX7_quotient 22 = .ok (.iload_n 3, 1) := by decide +kernel
theorem dX7_quotient_23 : decode cX7_quotient 23 = .ok (.iconst 1, 1) := by decide +kernel
theorem dX7_quotient_24 : decode cX7_quotient 24 = .ok (.bipush 7, 2) := by decide +kernel
theorem dX7_quotient_26 : decode cX7_quotient 26 = .ok (.invokestatic 89, 3) := by decide +kernel
theorem dX7_quotient_29 : decode cX7_quotient 29 = .ok (.ifCond .eq 24, 3) := by decide +kernel
theorem dX7_quotient_32 : decode cX7_quotient 32 = .ok (.iload 4, 2) := by decide +kernel
theorem dX7_quotient_34 : decode cX7_quotient 34 = .ok (.iconst 0, 1) := by decide +kernel
theorem dX7_quotient_35 : decode cX7_quotient 35 = .ok (.iconst 1, 1) := by decide +kernel
theorem dX7_quotient_36 : decode cX7_quotient 36 = .ok (.invokestatic 89, 3) := by decide +kernel
theorem dX7_quotient_39 : decode cX7_quotient 39 = .ok (.ifCond .eq 14, 3) := by decide +kernel
theorem dX7_quotient_42 : decode cX7_quotient 42 = .ok (.iload 5, 2) := by decide +kernel
theorem dX7_quotient_44 : decode cX7_quotient 44 = .ok (.iconst 0, 1) := by decide +kernel
theorem dX7_quotient_45 : decode cX7_quotient 45 = .ok (.bipush 7, 2) := by decide +kernel
theorem dX7_quotient_47 : decode cX7_quotient 47 = .ok (.invokestatic 89, 3) := by decide +kernel
theorem dX7_quotient_50 : decode cX7_quotient 50 = .ok (.ifCond .ne 10, 3) := by decide +kernel
theorem dX7_quotient_53 : decode cX7_quotient 53 = .ok (.aload_n 0, 1) := by decide +kernel
theorem dX7_quotient_54 : decode cX7_quotient 54 = .ok (.bipush (-2), 2) := by decide +kernel
theorem dX7_quotient_56 : decode cX7_quotient 56 = .ok (.invokevirtual 93, 3) := by decide +kernel
theorem dX7_quotient_59 : decode cX7_quotient 59 = .ok (.ireturn, 1) := by decide +kernel
theorem dX7_quotient_60 : decode cX7_quotient 60 = .ok (.aload_n 0, 1) := by decide +kernel
theorem dX7_quotient_61 : decode cX7_quotient 61 = .ok (.getfield 30, 3) := by decide +kernel
theorem dX7_quotient_64 : decode cX7_quotient 64 = .ok (.aload_n 0, 1) := by decide +kernel
theorem dX7_quotient_65 : decode cX7_quotient 65 = .ok (.getfield 13, 3) := by decide +kernel
theorem dX7_quotient_68 : decode cX7_quotient 68 = .ok (.iload_n 1, 1) := by decide +kernel
theorem dX7_quotient_69 : decode cX7_quotient 69 = .ok (.iload_n 2, 1) := by decide +kernel
theorem dX7_quotient_70 : decode cX7_quotient 70 = .ok (.iload_n 3, 1) := by decide +kernel
theorem dX7_quotient_71 : decode cX7_quotient 71 = .ok (.invokevirtual 193, 3) := by decide +kernel
theorem dX7_quotient_74 : decode cX7_quotient 74 = .ok (.aload_n 0, 1) := by decide +kernel
theorem dX7_quotient_75 : decode cX7_quotient 75 = .ok (.getfield 30, 3) := by decide +kernel
theorem dX7_quotient_78 : decode cX7_quotient 78 = .ok (.getfield 146, 3) := by decide +kernel
theorem dX7_quotient_81 : decode cX7_quotient 81 = .ok (.iconst 0, 1) := by decide +kernel
theorem dX7_quotient_82 : decode cX7_quotient 82 = .ok (.iload 4, 2) := by decide +kernel
theorem dX7_quotient_84 : decode cX7_quotient 84 = .ok (.iload 5, 2) := by decide +kernel
theorem dX7_quotient_86 : decode cX7_quotient 86 = .ok (.invokevirtual 96, 3) := by decide +kernel
theorem dX7_quotient_89 : decode cX7_quotient 89 = .ok (.ireturn, 1) := by decide +kernel
set_option maxRecDepth 20000 in
theorem ggX7_type_X7_isWithin : GoodIn wsX7_type wsX7_isWithin := goodIn_r _ [6] (by decide +kernel) (by decide +kernel)
set_option maxRecDepth 20000 in
theorem gX7_type_X7_isWithin : GoodIn wsX7_type (va_wsS RX7 89 yX7_isWithin wsX7_isWithin) := goodIn_app (goodIn_of _ (by decide +kernel)) ggX7_type_X7_isWithin
set_option maxRecDepth 20000 in
theorem ggX7_type_X7_counted : GoodIn wsX7_type wsX7_counted := goodIn_r _ [10, 11, 12, 13, 21, 22, 23, 24, 25, 26, 27, 28, 29, 30, 31, 32, 33] (by decide +kernel) (by decide +kernel)
set_option maxRecDepth 20000 in
theorem gX7_type_X7_counted : GoodIn wsX7_type (wsV RX7 93 RX7 yX7_counted wsX7_counted) := goodIn_app (goodIn_of _ (by decide +kernel)) ggX7_type_X7_counted
set_option maxRecDepth 20000 in
theorem ggX7_type_X4_append : GoodIn wsX7_type wsX4_append := goodIn_r _ [18, 19, 20, 34, 35, 36, 37, 38, 39, 40] (by decide +kernel) (by decide +kernel)
set_option maxRecDepth 20000 in
theorem gX7_type_X4_append : GoodIn wsX7_type (wsV RX7 197 RX4 yX4_append wsX4_append) := goodIn_app (goodIn_of _ (by decide +kernel)) ggX7_type_X4_append
theorem dX7_type_0 : decode cX7_type 0 = .ok (.iload_n 1, 1) := by decide +kernel
theorem dX7_type_1 : decode cX7_type 1 = .ok (.iconst 0, 1) := by decide +kernel
theorem dX7_type_2 : decode cX7_type 2 = .ok (.bipush 127, 2) := by decide +kernel
theorem dX7_type_4 : decode cX7_type 4 = .ok (.invokestatic 89, 3) := by decide +kernel
theorem dX7_type_7 : decode cX7_type 7 = .ok (.ifCond .ne 10, 3) := by decide +kernel
theorem dX7_type_10 : decode cX7_type 10 = .ok (.aload_n 0, 1) := by decide +kernel
theorem dX7_type_11 : decode cX7_type 11 = .ok (.bipush (-2), 2) := by decide +kernel
theorem dX7_type_13 : decode cX7_type 13 = .ok (.invokevirtual 93, 3) := by decide +kernel
theorem dX7_type_16 : decode cX7_type 16 = .ok (.ireturn, 1) := by decide +kernel
theorem dX7_type_17 : decode cX7_type 17 = .ok (.aload_n 0, 1) := by decide +kernel
theorem dX7_type_18 : decode cX7_type 18 = .ok (.getfield 54, 3) := by decide +kernel
theorem dX7_type_21 : decode cX7_type 21 = .ok (.iload_n 1, 1) := by decide +kernel
theorem dX7_type_22 : decode cX7_type 22 = .ok (.invokevirtual 197, 3) := by decide +kernel
theorem dX7_type_25 : decode cX7_type 25 = .ok (.ifCond .ne 10, 3) := by decide +kernel
theorem dX7_type_28 : decode cX7_type 28 = .ok (.aload_n 0, 1) := by decide +kernel
theorem dX7_type_29 : decode cX7_type 29 = .ok (.bipush (-4), 2) := by decide +kernel
theorem dX7_type_31 : decode cX7_type 31 = .ok (.invokevirtual 93, 3) := by decide +kernel
theorem dX7_type_34 : decode cX7_type 34 = .ok (.ireturn, 1) := by decide +kernel
theorem dX7_type_35 : decode cX7_type 35 = .ok (.aload_n 0, 1) := by decide +kernel
theorem dX7_type_36 : decode cX7_type 36 = .ok (.getfield 54, 3) := by decide +kernel
theorem dX7_type_39 : decode cX7_type 39 = .ok (.getfield 199, 3) := by decide +kernel
theorem dX7_type_42 : decode cX7_type 42 = .ok (.ireturn, 1) := by decide +kernel
theorem dX7_clear_0 : decode cX7_clear 0 = .ok (.aload_n 0, 1) := by decide +kernel
theorem dX7_clear_1 : decode cX7_clear 1 = .ok (.getfield 54, 3) := by decide +kernel
theorem dX7_clear_4 : decode cX7_clear 4 = .ok (.getfield 199, 3) := by decide +kernel
theorem dX7_clear_7 : decode cX7_clear 7 = .ok (.istore_n 1, 1) := by decide +kernel
theorem dX7_clear_8 : decode cX7_clear 8 = .ok (.aload_n 0, 1) := by decide +kernel
theorem dX7_clear_9 : decode cX7_clear 9 = .ok (.getfield 54, 3) := by decide +kernel
theorem dX7_clear_12 : decode cX7_clear 12 = .ok (.iconst 0, 1) := by decide +kernel
theorem dX7_clear_13 : decode cX7_clear 13 = .ok (.putfield 199, 3) := by decide +kernel
theorem dX7_clear_16 : decode cX7_clear 16 = .ok (.iload_n 1, 1) := by decide +kernel
theorem dX7_clear_17 : decode cX7_clear 17 = .ok (.ireturn, 1) := by decide +kernel
set_option maxRecDepth 20000 in
theorem ggX7_reads_X3_copyFrom : GoodIn wsX7_reads wsX3_copyFrom := goodIn_r _ [13, 14, 15, 16, 17, 18, 19, 20, 21, 22, 23, 24, 25, 228, 229, 230, 231, 232, 233, 234] (by decide +kernel) (by decide +kernel)
set_option maxRecDepth 20000 in
theorem gX7_reads_X3_copyFrom : GoodIn wsX7_reads (wsV RX7 62 RX3 yX3_copyFrom wsX3_copyFrom) := goodIn_app (goodIn_of _ (by decide +kernel)) ggX7_reads_X3_copyFrom
set_option maxRecDepth 20000 in
theorem ggX7_reads_X4_begin : GoodIn wsX7_reads wsX4_begin := goodIn_r _ [30, 31, 32, 235, 236, 237, 238, 239, 240, 241] (by decide +kernel) (by decide +kernel)
set_option maxRecDepth 20000 in
theorem gX7_reads_X4_begin : GoodIn wsX7_reads (wsV RX7 202 RX4 yX4_begin wsX4_begin) := goodIn_app (goodIn_of _ (by decide +kernel)) ggX7_reads_X4_begin
set_option maxRecDepth 20000 in
theorem ggX7_reads_X4_hasMore : GoodIn wsX7_reads wsX4_hasMore := goodIn_r _ [36, 31, 37, 38, 39, 40, 29, 41, 42, 43, 44, 45, 46, 235, 236, 237, 238, 239, 240, 241] (by decide +kernel) (by decide +kernel)
set_option maxRecDepth 20000 in
theorem gX7_reads_X4_hasMore : GoodIn wsX7_reads (wsV RX7 206 RX4 yX4_hasMore wsX4_hasMore) := goodIn_app (goodIn_of _ (by decide +kernel)) ggX7_reads_X4_hasMore
set_option maxRecDepth 20000 in
theorem ggX7_reads_X4_readCommand : GoodIn wsX7_reads wsX4_readCommand := goodIn_r _ [50, 51, 31, 38, 39, 40, 29, 41, 42, 43, 44, 45, 37, 46, 52, 53, 54, 55, 56, 57, 58, 59, 60, 61, 62, 63, 64, 65, 66, 67, 68, 69, 70, 71, 72, 73, 32, 74, 75, 76, 77, 78, 79, 80, 81, 82, 83, 84, 85, 86, 87, 88, 89, 90, 91, 92, 93, 94, 235, 236, 237, 238, 239, 240, 241] (by decide +kernel) (by decide +kernel)
set_option maxRecDepth 20000 in
theorem gX7_reads_X4_readCommand : GoodIn wsX7_reads (wsV RX7 209 RX4 yX4_readCommand wsX4_readCommand) := goodIn_app (goodIn_of _ (by decide +kernel)) ggX7_reads_X4_readCommand
set_option maxRecDepth 20000 in
theorem ggX7_reads_X7_carryOut : GoodIn wsX7_reads wsX7_carryOut := goodIn_r _ [98, 3, 99, 100, 101, 102, 29, 103, 65, 104, 105, 106, 57, 107, 2, 108, 4, 109, 59, 60, 110, 111, 112, 12, 113, 14, 15, 16, 114, 115, 116, 117, 118, 56, 58, 119, 120, 121, 122, 123, 124, 125, 126, 127, 128, 129, 130, 131, 132, 133, 134, 135, 136, 137, 17, 138, 139, 140, 141, 142, 143, 144, 145, 146, 147, 148, 149, 150, 151, 78, 91, 92, 93, 94, 152, 153, 154, 155, 156, 157, 158, 159, 160, 161, 162, 163, 164, 165, 22, 23, 24, 25, 166, 167, 168, 169, 170, 171, 172, 173, 174, 175, 176, 177, 178, 179, 180, 181, 182, 183, 184, 185, 186, 187, 188, 189, 190, 191, 192, 193, 194, 195, 196, 197, 198, 199, 215, 216, 217, 218, 219, 220, 221, 222, 223, 224, 225, 226, 227, 235, 236, 237, 238, 239, 240, 241, 228, 229, 230, 231, 232, 233, 234] (by decide +kernel) (by decide +kernel)
set_option maxRecDepth 20000 in
theorem gX7_reads_X7_carryOut : GoodIn wsX7_reads (wsV RX7 215 RX7 yX7_carryOut wsX7_carryOut) := goodIn_app (goodIn_of _ (by decide +kernel)) ggX7_reads_X7_carryOut
set_option maxRecDepth 20000 in
theorem ggX7_reads_X7_isError : GoodIn wsX7_reads wsX7_isError := goodIn_r _ [202] (by decide +kernel) (by decide +kernel)
set_option maxRecDepth 20000 in
theorem gX7_reads_X7_isError : GoodIn wsX7_reads (va_wsS RX7 218 yX7_isError wsX7_isError) := goodIn_app (goodIn_of _ (by decide +kernel)) ggX7_reads_X7_isError
set_option maxRecDepth 20000 in
theorem ggX7_reads_X1_keep : GoodIn wsX7_reads wsX1_keep := goodIn_r _ [207, 208, 209, 210, 211, 212, 206, 213, 214, 10, 11, 12, 13, 14, 15, 16, 17, 18, 19, 20, 21, 22, 23, 24, 25, 242, 243, 228, 229, 230, 231, 232, 233, 234] (by decide +kernel) (by decide +kernel)
set_option maxRecDepth 20000 in
theorem gX7_reads_X1_keep : GoodIn wsX7_reads (wsV RX7 224 RX1 yX1_keep wsX1_keep) := goodIn_app (goodIn_of _ (by decide +kernel)) ggX7_reads_X1_keep
theorem dX7_reads_0 : decode cX7_reads 0 = .ok (.aload_n 0, 1) := by decide +kernel
theorem dX7_reads_1 : decode cX7_reads 1 = .ok (.getfield 17, 3) := by decide +kernel
theorem dX7_reads_4 : decode cX7_reads 4 = .ok (.aload_n 0, 1) := by decide +kernel
theorem dX7_reads_5 : decode cX7_reads 5 = .ok (.getfield 13, 3) := by decide +kernel
theorem dX7_reads_8 : decode cX7_reads 8 = .ok (.invokevirtual 62, 3) := by decide +kernel
theorem dX7_reads_11 : decode cX7_reads 11 = .ok (.aload_n 0, 1) := by decide +kernel
theorem dX7_reads_12 : decode cX7_reads 12 = .ok (.getfield 54, 3) := by decide +kernel
theorem dX7_reads_15 : decode cX7_reads 15 = .ok (.aload_n 0, 1) := by decide +kernel
theorem dX7_reads_16 : decode cX7_reads 16 = .ok (.getfield 13, 3) := by decide +kernel
theorem dX7_reads_19 : decode cX7_reads 19 = .ok (.getfield 184, 3) := by decide +kernel
theorem dX7_reads_22 : decode cX7_reads 22 = .ok (.invokevirtual 202, 3) := by decide +kernel
theorem dX7_reads_25 : decode cX7_reads 25 = .ok (.iconst 0, 1) := by decide +kernel
theorem dX7_reads_26 : decode cX7_reads 26 = .ok (.istore_n 1, 1) := by decide +kernel
theorem dX7_reads_27 : decode cX7_reads 27 = .ok (.iconst (-1), 1) := by decide +kernel
theorem dX7_reads_28 : decode cX7_reads 28 = .ok (.istore_n 2, 1) := by decide +kernel
theorem dX7_reads_29 : decode cX7_reads 29 = .ok (.iconst 0, 1) := by decide +kernel
theorem dX7_reads_30 : decode cX7_reads 30 = .ok (.istore_n 3, 1) := by decide +kernel
theorem dX7_reads_31 : decode cX7_reads 31 = .ok (.iload_n 3, 1) := by decide +kernel
theorem dX7_reads_32 : decode cX7_reads 32 = .ok (.sipush 150, 3) := by decide +kernel
theorem dX7_reads_35 : decode cX7_reads 35 = .ok (.if_icmp .ge 82, 3) := by decide +kernel
theorem dX7_reads_38 : decode cX7_reads 38 = .ok (.iload_n 3, 1) := by decide +kernel
theorem dX7_reads_39 : decode cX7_reads 39 = .ok (.ifCond .eq 13, 3) := by decide +kernel
theorem dX7_reads_42 : decode cX7_reads 42 = .ok (.aload_n 0, 1) := by decide +kernel
theorem dX7_reads_43 : decode cX7_reads 43 = .ok (.getfield 54, 3) := by decide +kernel
theorem dX7_reads_46 : decode cX7_reads 46 = .ok (.invokevirtual 206, 3) := by decide +kernel
theorem dX7_reads_49 : decode cX7_reads 49 = .ok (.ifCond .eq 68, 3) := by decide +kernel
theorem dX7_reads_52 : decode cX7_reads 52 = .ok (.aload_n 0, 1) := by decide +kernel
theorem dX7_reads_53 : decode cX7_reads 53 = .ok (.getfield 54, 3) := by decide +kernel
theorem dX7_reads_56 : decode cX7_reads 56 = .ok (.invokevirtual 209, 3) := by decide +kernel
theorem dX7_reads_59 : decode cX7_reads 59 = .ok (.ifCond .ne 25, 3) := by decide +kernel
theorem dX7_reads_62 : decode cX7_reads 62 = .ok (.aload_n 0, 1) := by decide +kernel
theorem dX7_reads_63 : decode cX7_reads 63 = .ok (.getfield 13, 3) := by decide +kernel
theorem dX7_reads_66 : decode cX7_reads 66 = .ok (.aload_n 0, 1) := by decide +kernel
theorem dX7_reads_67 : decode cX7_reads 67 = .ok (.getfield 17, 3) := by decide +kernel
theorem dX7_reads_70 : decode cX7_reads 70 = .ok (.invokevirtual 62, 3) := by decide +kernel
theorem dX7_reads_73 : decode cX7_reads 73 = .ok (.bipush (-10), 2) := by decide +kernel
theorem dX7_reads_75 : decode cX7_reads 75 = .ok (.aload_n 0, 1) := by decide +kernel
theorem dX7_reads_76 : decode cX7_reads 76 = .ok (.getfield 54, 3) := by decide +kernel
theorem dX7_reads_79 : decode cX7_reads 79 = .ok (.getfield 212, 3) := by decide +kernel
theorem dX7_reads_82 : decode cX7_reads 82 = .ok (.isub, 1) := by decide +kernel
theorem dX7_reads_83 : decode cX7_reads 83 = .ok (.ireturn, 1) := by decide +kernel
theorem dX7_reads_84 : decode cX7_reads 84 = .ok (.iload_n 1, 1) := by decide +kernel
theorem dX7_reads_85 : decode cX7_reads 85 = .ok (.ifCond .ne 10, 3) := by decide +kernel
theorem dX7_reads_88 : decode cX7_reads 88 = .ok (.aload_n 0, 1) := by decide +kernel
theorem dX7_reads_89 : decode cX7_reads 89 = .ok (.invokevirtual 215, 3) := by decide +kernel
theorem dX7_reads_92 : decode cX7_reads 92 = .ok (.goto 4, 3) := by decide +kernel
theorem dX7_reads_95 : decode cX7_reads 95 = .ok (.iconst 0, 1) := by decide +kernel
theorem dX7_reads_96 : decode cX7_reads 96 = .ok (.istore 4, 2) := by decide +kernel
theorem dX7_reads_98 : decode cX7_reads 98 = .ok (.iload 4, 2) := by decide +kernel
theorem dX7_reads_100 : decode cX7_reads 100 = .ok (.invokestatic 218, 3) := by decide +kernel
theorem dX7_reads_103 : decode cX7_reads 103 = .ok (.ifCond .eq 8, 3) := by decide +kernel
theorem dX7_reads_106 : decode cX7_reads 106 = .ok (.iload 4, 2) := by decide +kernel
theorem dX7_reads_108 : decode cX7_reads 108 = .ok (.istore_n 1, 1) := by decide +kernel
theorem dX7_reads_109 : decode cX7_reads 109 = .ok (.iload_n 3, 1) := by decide +kernel
theorem dX7_reads_110 : decode cX7_reads 110 = .ok (.istore_n 2, 1) := by decide +kernel
theorem dX7_reads_111 : decode cX7_reads 111 = .ok (.iinc 3 1, 3) := by decide +kernel
theorem dX7_reads_114 : decode cX7_reads 114 = .ok (.goto (-83), 3) := by decide +kernel
theorem dX7_reads_117 : decode cX7_reads 117 = .ok (.iload_n 1, 1) := by decide +kernel
theorem dX7_reads_118 : decode cX7_reads 118 = .ok (.ifCond .eq 31, 3) := by decide +kernel
theorem dX7_reads_121 : decode cX7_reads 121 = .ok (.aload_n 0, 1) := by decide +kernel
theorem dX7_reads_122 : decode cX7_reads 122 = .ok (.getfield 13, 3) := by decide +kernel
theorem dX7_reads_125 : decode cX7_reads 125 = .ok (.aload_n 0, 1) := by decide +kernel
theorem dX7_reads_126 : decode cX7_reads 126 = .ok (.getfield 17, 3) := by decide +kernel
theorem dX7_reads_129 : decode cX7_reads 129 = .ok (.invokevirtual 62, 3) := by decide +kernel
theorem dX7_reads_132 : decode cX7_reads 132 = .ok (.aload_n 0, 1) := by decide +kernel
theorem dX7_reads_133 : decode cX7_reads 133 = .ok (.iload_n 1, 1) := by decide +kernel
theorem dX7_reads_134 : decode cX7_reads 134 = .ok (.ineg, 1) := by decide +kernel
theorem dX7_reads_135 : decode cX7_reads 135 = .ok (.putfield 221, 3) := by decide +kernel
theorem dX7_reads_138 : decode cX7_reads 138 = .ok (.aload_n 0, 1) := by decide +kernel
theorem dX7_reads_139 : decode cX7_reads 139 = .ok (.iload_n 2, 1) := by decide +kernel
theorem dX7_reads_140 : decode cX7_reads 140 = .ok (.putfield 58, 3) := by decide +kernel
theorem dX7_reads_143 : decode cX7_reads 143 = .ok (.sipush (-1000), 3) := by decide +kernel
theorem dX7_reads_146 : decode cX7_reads 146 = .ok (.iload_n 2, 1) := by decide +kernel
theorem dX7_reads_147 : decode cX7_reads 147 = .ok (.isub, 1) := by decide +kernel
theorem dX7_reads_148 : decode cX7_reads 148 = .ok (.ireturn, 1) := by decide +kernel
theorem dX7_reads_149 : decode cX7_reads 149 = .ok (.aload_n 0, 1) := by decide +kernel
theorem dX7_reads_150 : decode cX7_reads 150 = .ok (.getfield 23, 3) := by decide +kernel
theorem dX7_reads_153 : decode cX7_reads 153 = .ok (.aload_n 0, 1) := by decide +kernel
theorem dX7_reads_154 : decode cX7_reads 154 = .ok (.getfield 17, 3) := by decide +kernel
theorem dX7_reads_157 : decode cX7_reads 157 = .ok (.invokevirtual 224, 3) := by decide +kernel
theorem dX7_reads_160 : decode cX7_reads 160 = .ok (.iload_n 3, 1) := by decide +kernel
theorem dX7_reads_161 : decode cX7_reads 161 = .ok (.ireturn, 1) := by decide +kernel
set_option maxRecDepth 20000 in
theorem ggX7_why_X7_isWithin : GoodIn wsX7_why wsX7_isWithin := goodIn_r _ [6] (by decide +kernel) (by decide +kernel)
set_option maxRecDepth 20000 in
theorem gX7_why_X7_isWithin : GoodIn wsX7_why (va_wsS RX7 89 yX7_isWithin wsX7_isWithin) := goodIn_app (goodIn_of _ (by decide +kernel)) ggX7_why_X7_isWithin
set_option maxRecDepth 20000 in
theorem ggX7_why_X7_counted : GoodIn wsX7_why wsX7_counted := goodIn_r _ [10, 11, 12, 13, 14, 15, 16, 17, 18, 19, 20, 21, 22, 23, 24, 25, 26] (by decide +kernel) (by decide +kernel)
set_option maxRecDepth 20000 in
theorem gX7_why_X7_counted : GoodIn wsX7_why (wsV RX7 93 RX7 yX7_counted wsX7_counted) := goodIn_app (goodIn_of _ (by decide +kernel)) ggX7_why_X7_counted
theorem dX7_why_0 : decode cX7_why 0 = .ok (.iload_n 1, 1) := by decide +kernel
theorem dX7_why_1 : decode cX7_why 1 = .ok (.iconst 0, 1) := by decide +kernel
theorem dX7_why_2 : decode cX7_why 2 = .ok (.iconst 1, 1) := by decide +kernel
theorem dX7_why_3 : decode cX7_why 3 = .ok (.invokestatic 89, 3) := by decide +kernel
theorem dX7_why_6 : decode cX7_why 6 = .ok (.ifCond .ne 10, 3) := by decide +kernel
theorem dX7_why_9 : decode cX7_why 9 = .ok (.aload_n 0, 1) := by decide +kernel
theorem dX7_why_10 : decode cX7_why 10 = .ok (.bipush (-2), 2) := by decide +kernel
theorem dX7_why_12 : decode cX7_why 12 = .ok (.invokevirtual 93, 3) := by decide +kernel
theorem dX7_why_15 : decode cX7_why 15 = .ok (.ireturn, 1) := by decide +kernel
theorem dX7_why_16 : decode cX7_why 16 = .ok (.iload_n 1, 1) := by decide +kernel
theorem dX7_why_17 : decode cX7_why 17 = .ok (.ifCond .ne 10, 3) := by decide +kernel
theorem dX7_why_20 : decode cX7_why 20 = .ok (.aload_n 0, 1) := by decide +kernel
theorem dX7_why_21 : decode cX7_why 21 = .ok (.getfield 221, 3) := by decide +kernel
theorem dX7_why_24 : decode cX7_why 24 = .ok (.goto 7, 3) := by decide +kernel
theorem dX7_why_27 : decode cX7_why 27 = .ok (.aload_n 0, 1) := by decide +kernel
theorem dX7_why_28 : decode cX7_why 28 = .ok (.getfield 58, 3) := by decide +kernel
theorem dX7_why_31 : decode cX7_why 31 = .ok (.ireturn, 1) := by decide +kernel
set_option maxRecDepth 20000 in
theorem ggX7_back_X1_restore : GoodIn wsX7_back wsX1_restore := goodIn_r _ [8, 9, 10, 11, 12, 13, 14, 15, 16, 17, 18, 19, 20, 21, 22, 23, 24, 25, 26, 27, 49, 50, 51, 52, 53, 54, 55, 56, 57] (by decide +kernel) (by decide +kernel)
set_option maxRecDepth 20000 in
theorem gX7_back_X1_restore : GoodIn wsX7_back (wsV RX7 227 RX1 yX1_restore wsX1_restore) := goodIn_app (goodIn_of _ (by decide +kernel)) ggX7_back_X1_restore
set_option maxRecDepth 20000 in
theorem ggX7_back_X7_counted : GoodIn wsX7_back wsX7_counted := goodIn_r _ [32, 33, 34, 35, 36, 37, 38, 39, 40, 41, 42, 43, 44, 45, 46, 47, 48] (by decide +kernel) (by decide +kernel)
set_option maxRecDepth 20000 in
theorem gX7_back_X7_counted : GoodIn wsX7_back (wsV RX7 93 RX7 yX7_counted wsX7_counted) := goodIn_app (goodIn_of _ (by decide +kernel)) ggX7_back_X7_counted
theorem dX7_back_0 : decode cX7_back 0 = .ok (.aload_n 0, 1) := by decide +kernel
theorem dX7_back_1 : decode cX7_back 1 = .ok (.getfield 23, 3) := by decide +kernel
theorem dX7_back_4 : decode cX7_back 4 = .ok (.aload_n 0, 1) := by decide +kernel
theorem dX7_back_5 : decode cX7_back 5 = .ok (.getfield 13, 3) := by decide +kernel
theorem dX7_back_8 : decode cX7_back 8 = .ok (.invokevirtual 227, 3) := by decide +kernel
theorem dX7_back_11 : decode cX7_back 11 = .ok (.ifCond .ne 10, 3) := by decide +kernel
theorem dX7_back_14 : decode cX7_back 14 = .ok (.aload_n 0, 1) := by decide +kernel
theorem dX7_back_15 : decode cX7_back 15 = .ok (.bipush (-3), 2) := by decide +kernel
theorem dX7_back_17 : decode cX7_back 17 = .ok (.invokevirtual 93, 3) := by decide +kernel
theorem dX7_back_20 : decode cX7_back 20 = .ok (.ireturn, 1) := by decide +kernel
theorem dX7_back_21 : decode cX7_back 21 = .ok (.aload_n 0, 1) := by decide +kernel
theorem dX7_back_22 : decode cX7_back 22 = .ok (.getfield 23, 3) := by decide +kernel
theorem dX7_back_25 : decode cX7_back 25 = .ok (.getfield 230, 3) := by decide +kernel
theorem dX7_back_28 : decode cX7_back 28 = .ok (.ireturn, 1) := by decide +kernel
set_option maxRecDepth 20000 in
theorem ggX7_told_X7_isWithin : GoodIn wsX7_told wsX7_isWithin := goodIn_r _ [4] (by decide +kernel) (by decide +kernel)
set_option maxRecDepth 20000 in
theorem gX7_told_X7_isWithin : GoodIn wsX7_told (va_wsS RX7 89 yX7_isWithin wsX7_isWithin) := goodIn_app (goodIn_of _ (by decide +kernel)) ggX7_told_X7_isWithin
set_option maxRecDepth 20000 in
theorem ggX7_told_X7_counted : GoodIn wsX7_told wsX7_counted := goodIn_r _ [8, 9, 10, 11, 24, 25, 26, 27, 28, 29, 30, 31, 32, 33, 34, 35, 36] (by decide +kernel) (by decide +kernel)
set_option maxRecDepth 20000 in
theorem gX7_told_X7_counted : GoodIn wsX7_told (wsV RX7 93 RX7 yX7_counted wsX7_counted) := goodIn_app (goodIn_of _ (by decide +kernel)) ggX7_told_X7_counted
set_option maxRecDepth 20000 in
theorem ggX7_told_X7_total : GoodIn wsX7_told wsX7_total := goodIn_r _ [15, 9, 10, 11, 16, 17, 18, 19, 20, 21, 22, 23, 24, 25, 26, 27, 28, 29, 30, 31, 32, 33, 34, 35, 36, 37, 38, 39, 40, 41, 42, 43, 44, 45, 46, 47, 48, 49, 50, 51, 52] (by decide +kernel) (by decide +kernel)
set_option maxRecDepth 20000 in
theorem gX7_told_X7_total : GoodIn wsX7_told (wsV RX7 231 RX7 yX7_total wsX7_total) := goodIn_app (goodIn_of _ (by decide +kernel)) ggX7_told_X7_total
theorem dX7_told_0 : decode cX7_told 0 = .ok (.iload_n 1, 1) := by decide +kernel
theorem dX7_told_1 : decode cX7_told 1 = .ok (.iconst 0, 1) := by decide +kernel
theorem dX7_told_2 : decode cX7_told 2 = .ok (.bipush 7, 2) := by decide +kernel
theorem dX7_told_4 : decode cX7_told 4 = .ok (.invokestatic 89, 3) := by decide +kernel
theorem dX7_told_7 : decode cX7_told 7 = .ok (.ifCond .ne 10, 3) := by decide +kernel
theorem dX7_told_10 : decode cX7_told 10 = .ok (.aload_n 0, 1) := by decide +kernel
theorem dX7_told_11 : decode cX7_told 11 = .ok (.bipush (-2), 2) := by decide +kernel
theorem dX7_told_13 : decode cX7_told 13 = .ok (.invokevirtual 93, 3) := by decide +kernel
theorem dX7_told_16 : decode cX7_told 16 = .ok (.ireturn, 1) := by decide +kernel
theorem dX7_told_17 : decode cX7_told 17 = .ok (.aload_n 0, 1) := by decide +kernel
theorem dX7_told_18 : decode cX7_told 18 = .ok (.iload_n 1, 1) := by decide +kernel
theorem dX7_told_19 : decode cX7_told 19 = .ok (.invokevirtual 231, 3) := by decide +kernel
theorem dX7_told_22 : decode cX7_told 22 = .ok (.ireturn, 1) := by decide +kernel
set_option maxRecDepth 20000 in
theorem ggX7_digest_X7_total : GoodIn wsX7_digest wsX7_total := goodIn_r _ [15, 16, 17, 18, 19, 20, 4, 21, 22, 5, 23, 24, 203, 204, 205, 206, 207, 208, 209, 210, 211, 212, 213, 214, 215, 232, 233, 234, 235, 236, 237, 238, 216, 217, 218, 219, 220, 221, 222, 239, 240] (by decide +kernel) (by decide +kernel)
set_option maxRecDepth 20000 in
theorem gX7_digest_X7_total : GoodIn wsX7_digest (wsV RX7 231 RX7 yX7_total wsX7_total) := goodIn_app (goodIn_of _ (by decide +kernel)) ggX7_digest_X7_total
set_option maxRecDepth 20000 in
theorem ggX7_digest_X7_mixed : GoodIn wsX7_digest wsX7_mixed := goodIn_r _ [27, 28] (by decide +kernel) (by decide +kernel)
set_option maxRecDepth 20000 in
theorem gX7_digest_X7_mixed : GoodIn wsX7_digest (va_wsS RX7 236 yX7_mixed wsX7_mixed) := goodIn_app (goodIn_of _ (by decide +kernel)) ggX7_digest_X7_mixed
set_option maxRecDepth 20000 in
theorem ggX7_digest_X7_mixedRow : GoodIn wsX7_digest wsX7_mixedRow := goodIn_r _ [32, 4, 22, 33, 34, 35, 36, 37, 38, 39, 40, 41, 42, 43, 44, 45, 46, 47, 48, 49, 50, 51, 14, 52, 25, 26, 27, 28, 53, 54, 55, 56, 57, 58, 59, 60, 61, 62, 63, 203, 204, 205, 206, 207, 208, 209, 210, 211, 212, 213, 214, 215, 216, 217, 218, 219, 220, 221, 222] (by decide +kernel) (by decide +kernel)
set_option maxRecDepth 20000 in
theorem gX7_digest_X7_mixedRow : GoodIn wsX7_digest (wsV RX7 240 RX7 yX7_mixedRow wsX7_mixedRow) := goodIn_app (goodIn_of _ (by decide +kernel)) ggX7_digest_X7_mixedRow
set_option maxRecDepth 20000 in
theorem ggX7_digest_X7_allRows : GoodIn wsX7_digest wsX7_allRows := goodIn_r _ [67, 4, 5, 203, 204, 205, 206, 207, 208, 209, 210, 211, 212, 213, 214, 215, 216, 217, 218, 219, 220, 221, 222] (by decide +kernel) (by decide +kernel)
set_option maxRecDepth 20000 in
theorem gX7_digest_X7_allRows : GoodIn wsX7_digest (wsV RX7 243 RX7 yX7_allRows wsX7_allRows) := goodIn_app (goodIn_of _ (by decide +kernel)) ggX7_digest_X7_allRows
set_option maxRecDepth 20000 in
theorem ggX7_digest_X2_buildFrom : GoodIn wsX7_digest wsX2_buildFrom := goodIn_r _ [72, 73, 74, 75, 76, 77, 78, 79, 36, 80, 81, 42, 82, 83, 14, 84, 85, 86, 87, 88, 89, 90, 91, 47, 92, 93, 94, 95, 48, 49, 43, 44, 45, 46, 50, 96, 97, 98, 99, 100, 101, 102, 103, 104, 105, 106, 107, 108, 109, 110, 111, 112, 113, 71, 114, 115, 116, 117, 118, 119, 120, 121, 122, 123, 124, 125, 126, 127, 128, 129, 130, 131, 132, 133, 134, 135, 136, 137, 138, 139, 140, 141, 142, 143, 144, 39, 40, 41, 145, 146, 147, 148, 149, 150, 151, 152, 57, 58, 153, 60, 61, 62, 38, 51, 52, 154, 155, 156, 157, 158, 159, 160, 161, 162, 34, 35, 37, 163, 164, 165, 166, 167, 168, 169, 170, 171, 172, 173, 174, 175, 176, 177, 178, 179, 180, 181, 182, 183, 184, 185, 186, 187, 188, 189, 190, 191, 192, 193, 194, 195, 196, 197, 223, 224, 225, 226, 216, 217, 218, 219, 220, 221, 222, 227, 228, 229, 230, 231, 241, 242] (by decide +kernel) (by decide +kernel)
set_option maxRecDepth 20000 in
theorem gX7_digest_X2_buildFrom : GoodIn wsX7_digest (wsV RX7 142 RX2 yX2_buildFrom wsX2_buildFrom) := goodIn_app (goodIn_of _ (by decide +kernel)) ggX7_digest_X2_buildFrom
set_option maxRecDepth 20000 in
theorem ggX7_digest_X2_degreeSum : GoodIn wsX7_digest wsX2_degreeSum := goodIn_r _ [201, 73, 76, 162, 34, 35, 36, 37, 38, 39, 40, 41, 42, 43, 44, 45, 46, 47, 48, 49, 50, 51, 14, 52, 223, 224, 225, 226, 216, 217, 218, 219, 220, 221, 222] (by decide +kernel) (by decide +kernel)
set_option maxRecDepth 20000 in
theorem gX7_digest_X2_degreeSum : GoodIn wsX7_digest (wsV RX7 152 RX2 yX2_degreeSum wsX2_degreeSum) := goodIn_app (goodIn_of _ (by decide +kernel)) ggX7_digest_X2_degreeSum
set_option maxRecDepth 20000 in
theorem ggX7_digest_X6_find : GoodIn wsX7_digest wsX6_find := goodIn_r _ [124, 125, 126, 127, 128, 129, 130, 131, 132, 133, 134, 135, 136, 137, 138, 139, 140, 141, 142, 143, 144, 39, 40, 36, 41, 42, 43, 44, 45, 46, 47, 48, 49, 50, 145, 146, 147, 148, 149, 150, 151, 152, 57, 14, 58, 153, 60, 61, 62, 38, 51, 52, 154, 155, 156, 100, 101, 102, 103, 104, 105, 157, 227, 228, 229, 230, 231, 241, 242, 216, 217, 218, 219, 220, 221, 222] (by decide +kernel) (by decide +kernel)
set_option maxRecDepth 20000 in
theorem gX7_digest_X6_find : GoodIn wsX7_digest (wsV RX7 123 RX6 yX6_find wsX6_find) := goodIn_app (goodIn_of _ (by decide +kernel)) ggX7_digest_X6_find
theorem dX7_digest_0 : decode cX7_digest 0 = .ok (.ldc2_w 234, 3) := by decide +kernel
theorem dX7_digest_3 : decode cX7_digest 3 = .ok (.lstore_n 1, 1) := by decide +kernel
theorem dX7_digest_4 : decode cX7_digest 4 = .ok (.iconst 0, 1) := by decide +kernel
theorem dX7_digest_5 : decode cX7_digest 5 = .ok (.istore_n 3, 1) := by decide +kernel
theorem dX7_digest_6 : decode cX7_digest 6 = .ok (.iload_n 3, 1) := by decide +kernel
theorem dX7_digest_7 : decode cX7_digest 7 = .ok (.bipush 7, 2) := by decide +kernel
theorem dX7_digest_9 : decode cX7_digest 9 = .ok (.if_icmp .gt 19, 3) := by decide +kernel
theorem dX7_digest_12 : decode cX7_digest 12 = .ok (.lload_n 1, 1) := by decide +kernel
theorem dX7_digest_13 : decode cX7_digest 13 = .ok (.aload_n 0, 1) := by decide +kernel
theorem dX7_digest_14 : decode cX7_digest 14 = .ok (.iload_n 3, 1) := by decide +kernel
theorem dX7_digest_15 : decode cX7_digest 15 = .ok (.invokevirtual 231, 3) := by decide +kernel
theorem dX7_digest_18 : decode cX7_digest 18 = .ok (.invokestatic 236, 3) := by decide +kernel
theorem dX7_digest_21 : decode cX7_digest 21 = .ok (.lstore_n 1, 1) := by decide +kernel
theorem dX7_digest_22 : decode cX7_digest 22 = .ok (.iinc 3 1, 3) := by decide +kernel
theorem dX7_digest_25 : decode cX7_digest 25 = .ok (.goto (-19), 3) := by decide +kernel
theorem dX7_digest_28 : decode cX7_digest 28 = .ok (.lload_n 1, 1) := by decide +kernel
theorem dX7_digest_29 : decode cX7_digest 29 = .ok (.aload_n 0, 1) := by decide +kernel
theorem dX7_digest_30 : decode cX7_digest 30 = .ok (.getfield 221, 3) := by decide +kernel
theorem dX7_digest_33 : decode cX7_digest 33 = .ok (.invokestatic 236, 3) := by decide +kernel
theorem dX7_digest_36 : decode cX7_digest 36 = .ok (.lstore_n 1, 1) := by decide +kernel
theorem dX7_digest_37 : decode cX7_digest 37 = .ok (.lload_n 1, 1) := by decide +kernel
theorem dX7_digest_38 : decode cX7_digest 38 = .ok (.aload_n 0, 1) := by decide +kernel
theorem dX7_digest_39 : decode cX7_digest 39 = .ok (.getfield 58, 3) := by decide +kernel
theorem dX7_digest_42 : decode cX7_digest 42 = .ok (.invokestatic 236, 3) := by decide +kernel
theorem dX7_digest_45 : decode cX7_digest 45 = .ok (.lstore_n 1, 1) := by decide +kernel
theorem dX7_digest_46 : decode cX7_digest 46 = .ok (.iconst 0, 1) := by decide +kernel
theorem dX7_digest_47 : decode cX7_digest 47 = .ok (.istore_n 3, 1) := by decide +kernel
theorem dX7_digest_48 : decode cX7_digest 48 = .ok (.iload_n 3, 1) := by decide +kernel
theorem dX7_digest_49 : decode cX7_digest 49 = .ok (.aload_n 0, 1) := by decide +kernel
theorem dX7_digest_50 : decode cX7_digest 50 = .ok (.getfield 13, 3) := by decide +kernel
theorem dX7_digest_53 : decode cX7_digest 53 = .ok (.getfield 149, 3) := by decide +kernel
theorem dX7_digest_56 : decode cX7_digest 56 = .ok (.if_icmp .ge 16, 3) := by decide +kernel
theorem dX7_digest_59 : decode cX7_digest 59 = .ok (.aload_n 0, 1) := by decide +kernel
theorem dX7_digest_60 : decode cX7_digest 60 = .ok (.lload_n 1, 1) := by decide +kernel
theorem dX7_digest_61 : decode cX7_digest 61 = .ok (.iload_n 3, 1) := by decide +kernel
theorem dX7_digest_62 : decode cX7_digest 62 = .ok (.invokevirtual 240, 3) := by decide +kernel
theorem dX7_digest_65 : decode cX7_digest 65 = .ok (.lstore_n 1, 1) := by decide +kernel
theorem dX7_digest_66 : decode cX7_digest 66 = .ok (.iinc 3 1, 3) := by decide +kernel
theorem dX7_digest_69 : decode cX7_digest 69 = .ok (.goto (-21), 3) := by decide +kernel
theorem dX7_digest_72 : decode cX7_digest 72 = .ok (.aload_n 0, 1) := by decide +kernel
theorem dX7_digest_73 : decode cX7_digest 73 = .ok (.getfield 30, 3) := by decide +kernel
theorem dX7_digest_76 : decode cX7_digest 76 = .ok (.aload_n 0, 1) := by decide +kernel
theorem dX7_digest_77 : decode cX7_digest 77 = .ok (.getfield 13, 3) := by decide +kernel
theorem dX7_digest_80 : decode cX7_digest 80 = .ok (.aload_n 0, 1) := by decide +kernel
theorem dX7_digest_81 : decode cX7_digest 81 = .ok (.invokevirtual 243, 3) := by decide +kernel
theorem dX7_digest_84 : decode cX7_digest 84 = .ok (.invokevirtual 142, 3) := by decide +kernel
theorem dX7_digest_87 : decode cX7_digest 87 = .ok (.lload_n 1, 1) := by decide +kernel
theorem dX7_digest_88 : decode cX7_digest 88 = .ok (.aload_n 0, 1) := by decide +kernel
theorem dX7_digest_89 : decode cX7_digest 89 = .ok (.getfield 30, 3) := by decide +kernel
theorem dX7_digest_92 : decode cX7_digest 92 = .ok (.getfield 146, 3) := by decide +kernel
theorem dX7_digest_95 : decode cX7_digest 95 = .ok (.getfield 149, 3) := by decide +kernel
theorem dX7_digest_98 : decode cX7_digest 98 = .ok (.invokestatic 236, 3) := by decide +kernel
theorem dX7_digest_101 : decode cX7_digest 101 = .ok (.lstore_n 1, 1) := by decide +kernel
theorem dX7_digest_102 : decode cX7_digest 102 = .ok (.lload_n 1, 1) := by decide +kernel
theorem dX7_digest_103 : decode cX7_digest 103 = .ok (.aload_n 0, 1) := by decide +kernel
theorem dX7_digest_104 : decode cX7_digest 104 = .ok (.getfield 30, 3) := by decide +kernel
theorem dX7_digest_107 : decode cX7_digest 107 = .ok (.invokevirtual 152, 3) := by decide +kernel
theorem dX7_digest_110 : decode cX7_digest 110 = .ok (.invokestatic 236, 3) := by decide +kernel
theorem dX7_digest_113 : decode cX7_digest 113 = .ok (.lstore_n 1, 1) := by decide +kernel
theorem dX7_digest_114 : decode cX7_digest 114 = .ok (.aload_n 0, 1) := by decide +kernel
theorem dX7_digest_115 : decode cX7_digest 115 = .ok (.getfield 47, 3) := by decide +kernel
theorem dX7_digest_118 : decode cX7_digest 118 = .ok (.aload_n 0, 1) := by decide +kernel
theorem dX7_digest_119 : decode cX7_digest 119 = .ok (.getfield 13, 3) := by decide +kernel
theorem dX7_digest_122 : decode cX7_digest 122 = .ok (.invokevirtual 123, 3) := by decide +kernel
theorem dX7_digest_125 : decode cX7_digest 125 = .ok (.istore_n 3, 1) := by decide +kernel
theorem dX7_digest_126 : decode cX7_digest 126 = .ok (.lload_n 1, 1) := by decide +kernel
theorem dX7_digest_127 : decode cX7_digest 127 = .ok (.iload_n 3, 1) := by decide +kernel
theorem dX7_digest_128 : decode cX7_digest 128 = .ok (.ifCond .eq 13, 3) := by decide +kernel
theorem dX7_digest_131 : decode cX7_digest 131 = .ok (.aload_n 0, 1) := by decide +kernel
theorem dX7_digest_132 : decode cX7_digest 132 = .ok (.getfield 47, 3) := by decide +kernel
theorem dX7_digest_135 : decode cX7_digest 135 = .ok (.getfield 127, 3) := by decide +kernel
theorem dX7_digest_138 : decode cX7_digest 138 = .ok (.goto 4, 3) := by decide +kernel
theorem dX7_digest_141 : decode cX7_digest 141 = .ok (.iconst (-1), 1) := by decide +kernel
theorem dX7_digest_142 : decode cX7_digest 142 = .ok (.invokestatic 236, 3) := by decide +kernel
theorem dX7_digest_145 : decode cX7_digest 145 = .ok (.lstore_n 1, 1) := by decide +kernel
theorem dX7_digest_146 : decode cX7_digest 146 = .ok (.lload_n 1, 1) := by decide +kernel
theorem dX7_digest_147 : decode cX7_digest 147 = .ok (.iload_n 3, 1) := by decide +kernel
theorem dX7_digest_148 : decode cX7_digest 148 = .ok (.ifCond .eq 13, 3) := by decide +kernel
theorem dX7_digest_151 : decode cX7_digest 151 = .ok (.aload_n 0, 1) := by decide +kernel
theorem dX7_digest_152 : decode cX7_digest 152 = .ok (.getfield 47, 3) := by decide +kernel
theorem dX7_digest_155 : decode cX7_digest 155 = .ok (.getfield 130, 3) := by decide +kernel
theorem dX7_digest_158 : decode cX7_digest 158 = .ok (.goto 4, 3) := by decide +kernel
theorem dX7_digest_161 : decode cX7_digest 161 = .ok (.iconst (-1), 1) := by decide +kernel
theorem dX7_digest_162 : decode cX7_digest 162 = .ok (.invokestatic 236, 3) := by decide +kernel
theorem dX7_digest_165 : decode cX7_digest 165 = .ok (.lreturn, 1) := by decide +kernel
set_option maxRecDepth 20000 in
theorem ggX7_newState_X3_init : GoodIn wsX7_newState wsX3_init := goodIn_r _ [6, 7, 8, 9, 10, 11, 12, 13, 14, 15, 16, 17, 18, 19, 20, 21, 22, 23, 24, 25, 26, 27] (by decide +kernel) (by decide +kernel)
set_option maxRecDepth 20000 in
theorem gX7_newState_X3_init : GoodIn wsX7_newState (wsX3_init) := ggX7_newState_X3_init
theorem dX7_newState_0 : decode cX7_newState 0 = .ok (.new 63, 3) := by decide +kernel
theorem dX7_newState_3 : decode cX7_newState 3 = .ok (.dup, 1) := by decide +kernel
theorem dX7_newState_4 : decode cX7_newState 4 = .ok (.iconst 5, 1) := by decide +kernel
theorem dX7_newState_5 : decode cX7_newState 5 = .ok (.iconst 3, 1) := by decide +kernel
theorem dX7_newState_6 : decode cX7_newState 6 = .ok (.bipush 7, 2) := by decide +kernel
theorem dX7_newState_8 : decode cX7_newState 8 = .ok (.invokespecial 246, 3) := by decide +kernel
theorem dX7_newState_11 : decode cX7_newState 11 = .ok (.areturn, 1) := by decide +kernel
theorem dX7_isWithin_0 : decode cX7_isWithin 0 = .ok (.iload_n 0, 1) := by decide +kernel
theorem dX7_isWithin_1 : decode cX7_isWithin 1 = .ok (.iload_n 1, 1) := by decide +kernel
theorem dX7_isWithin_2 : decode cX7_isWithin 2 = .ok (.if_icmp .lt 12, 3) := by decide +kernel
theorem dX7_isWithin_5 : decode cX7_isWithin 5 = .ok (.iload_n 0, 1) := by decide +kernel
theorem dX7_isWithin_6 : decode cX7_isWithin 6 = .ok (.iload_n 2, 1) := by decide +kernel
theorem dX7_isWithin_7 : decode cX7_isWithin 7 = .ok (.if_icmp .gt 7, 3) := by decide +kernel
theorem dX7_isWithin_10 : decode cX7_isWithin 10 = .ok (.iconst 1, 1) := by decide +kernel
theorem dX7_isWithin_11 : decode cX7_isWithin 11 = .ok (.goto 4, 3) := by decide +kernel
theorem dX7_isWithin_14 : decode cX7_isWithin 14 = .ok (.iconst 0, 1) := by decide +kernel
theorem dX7_isWithin_15 : decode cX7_isWithin 15 = .ok (.ireturn, 1) := by decide +kernel
theorem dX7_isPrime_0 : decode cX7_isPrime 0 = .ok (.iload_n 0, 1) := by decide +kernel
theorem dX7_isPrime_1 : decode cX7_isPrime 1 = .ok (.iconst 2, 1) := by decide +kernel
theorem dX7_isPrime_2 : decode cX7_isPrime 2 = .ok (.if_icmp .eq 19, 3) := by decide +kernel
theorem dX7_isPrime_5 : decode cX7_isPrime 5 = .ok (.iload_n 0, 1) := by decide +kernel
theorem dX7_isPrime_6 : decode cX7_isPrime 6 = .ok (.iconst 3, 1) := by decide +kernel
theorem dX7_isPrime_7 : decode cX7_isPrime 7 = .ok (.if_icmp .eq 14, 3) := by decide +kernel
theorem dX7_isPrime_10 : decode cX7_isPrime 10 = .ok (.iload_n 0, 1) := by decide +kernel
theorem dX7_isPrime_11 : decode cX7_isPrime 11 = .ok (.iconst 5, 1) := by decide +kernel
theorem dX7_isPrime_12 : decode cX7_isPrime 12 = .ok (.if_icmp .eq 9, 3) := by decide +kernel
theorem dX7_isPrime_15 : decode cX7_isPrime 15 = .ok (.iload_n 0, 1) := by decide +kernel
theorem dX7_isPrime_16 : decode cX7_isPrime 16 = .ok (.bipush 7, 2) := by decide +kernel
theorem dX7_isPrime_18 : decode cX7_isPrime 18 = .ok (.if_icmp .ne 7, 3) := by decide +kernel
theorem dX7_isPrime_21 : decode cX7_isPrime 21 = .ok (.iconst 1, 1) := by decide +kernel
theorem dX7_isPrime_22 : decode cX7_isPrime 22 = .ok (.goto 4, 3) := by decide +kernel
theorem dX7_isPrime_25 : decode cX7_isPrime 25 = .ok (.iconst 0, 1) := by decide +kernel
theorem dX7_isPrime_26 : decode cX7_isPrime 26 = .ok (.ireturn, 1) := by decide +kernel
theorem dX7_isError_0 : decode cX7_isError 0 = .ok (.iload_n 0, 1) := by decide +kernel
theorem dX7_isError_1 : decode cX7_isError 1 = .ok (.bipush (-2), 2) := by decide +kernel
theorem dX7_isError_3 : decode cX7_isError 3 = .ok (.if_icmp .eq 15, 3) := by decide +kernel
theorem dX7_isError_6 : decode cX7_isError 6 = .ok (.iload_n 0, 1) := by decide +kernel
theorem dX7_isError_7 : decode cX7_isError 7 = .ok (.bipush (-3), 2) := by decide +kernel
theorem dX7_isError_9 : decode cX7_isError 9 = .ok (.if_icmp .eq 9, 3) := by decide +kernel
theorem dX7_isError_12 : decode cX7_isError 12 = .ok (.iload_n 0, 1) := by decide +kernel
theorem dX7_isError_13 : decode cX7_isError 13 = .ok (.bipush (-4), 2) := by decide +kernel
theorem dX7_isError_15 : decode cX7_isError 15 = .ok (.if_icmp .ne 7, 3) := by decide +kernel
theorem dX7_isError_18 : decode cX7_isError 18 = .ok (.iconst 1, 1) := by decide +kernel
theorem dX7_isError_19 : decode cX7_isError 19 = .ok (.goto 4, 3) := by decide +kernel
theorem dX7_isError_22 : decode cX7_isError 22 = .ok (.iconst 0, 1) := by decide +kernel
theorem dX7_isError_23 : decode cX7_isError 23 = .ok (.ireturn, 1) := by decide +kernel
set_option maxRecDepth 20000 in
theorem ggX7_isInSet_X7_isWithin : GoodIn wsX7_isInSet wsX7_isWithin := goodIn_r _ [4] (by decide +kernel) (by decide +kernel)
set_option maxRecDepth 20000 in
theorem gX7_isInSet_X7_isWithin : GoodIn wsX7_isInSet (va_wsS RX7 89 yX7_isWithin wsX7_isWithin) := goodIn_app (goodIn_of _ (by decide +kernel)) ggX7_isInSet_X7_isWithin
theorem dX7_isInSet_0 : decode cX7_isInSet 0 = .ok (.iload_n 0, 1) := by decide +kernel
theorem dX7_isInSet_1 : decode cX7_isInSet 1 = .ok (.iconst 0, 1) := by decide +kernel
theorem dX7_isInSet_2 : decode cX7_isInSet 2 = .ok (.iconst 4, 1) := by decide +kernel
theorem dX7_isInSet_3 : decode cX7_isInSet 3 = .ok (.invokestatic 89, 3) := by decide +kernel
theorem dX7_isInSet_6 : decode cX7_isInSet 6 = .ok (.ifCond .eq 16, 3) := by decide +kernel
theorem dX7_isInSet_9 : decode cX7_isInSet 9 = .ok (.iload_n 1, 1) := by decide +kernel
theorem dX7_isInSet_10 : decode cX7_isInSet 10 = .ok (.iload_n 0, 1) := by decide +kernel
theorem dX7_isInSet_11 : decode cX7_isInSet 11 = .ok (.ishr, 1) := by decide +kernel
theorem dX7_isInSet_12 : decode cX7_isInSet 12 = .ok (.iconst 1, 1) := by decide +kernel
theorem dX7_isInSet_13 : decode cX7_isInSet 13 = .ok (.iand, 1) := by decide +kernel
theorem dX7_isInSet_14 : decode cX7_isInSet 14 = .ok (.iconst 1, 1) := by decide +kernel
theorem dX7_isInSet_15 : decode cX7_isInSet 15 = .ok (.if_icmp .ne 7, 3) := by decide +kernel
theorem dX7_isInSet_18 : decode cX7_isInSet 18 = .ok (.iconst 1, 1) := by decide +kernel
theorem dX7_isInSet_19 : decode cX7_isInSet 19 = .ok (.goto 4, 3) := by decide +kernel
theorem dX7_isInSet_22 : decode cX7_isInSet 22 = .ok (.iconst 0, 1) := by decide +kernel
theorem dX7_isInSet_23 : decode cX7_isInSet 23 = .ok (.ireturn, 1) := by decide +kernel
set_option maxRecDepth 20000 in
theorem ggX7_modulo_J9_floorMod_7cf53 : GoodIn wsX7_modulo wsJ9_floorMod_7cf53 := goodIn_r _ [4] (by decide +kernel) (by decide +kernel)
set_option maxRecDepth 20000 in
theorem gX7_modulo_J9_floorMod_7cf53 : GoodIn wsX7_modulo (va_wsS RX7 249 yJ9_floorMod_7cf53 wsJ9_floorMod_7cf53) := goodIn_app (goodIn_of _ (by decide +kernel)) ggX7_modulo_J9_floorMod_7cf53
theorem dX7_modulo_0 : decode cX7_modulo 0 = .ok (.iload_n 1, 1) := by decide +kernel
theorem dX7_modulo_1 : decode cX7_modulo 1 = .ok (.ifCond .ne 7, 3) := by decide +kernel
theorem dX7_modulo_4 : decode cX7_modulo 4 = .ok (.iconst 0, 1) := by decide +kernel
theorem dX7_modulo_5 : decode cX7_modulo 5 = .ok (.goto 8, 3) := by decide +kernel
theorem dX7_modulo_8 : decode cX7_modulo 8 = .ok (.iload_n 0, 1) := by decide +kernel
theorem dX7_modulo_9 : decode cX7_modulo 9 = .ok (.iload_n 1, 1) := by decide +kernel
theorem dX7_modulo_10 : decode cX7_modulo 10 = .ok (.invokestatic 249, 3) := by decide +kernel
theorem dX7_modulo_13 : decode cX7_modulo 13 = .ok (.ireturn, 1) := by decide +kernel
set_option maxRecDepth 20000 in
theorem ggX7_inverse_X7_modulo : GoodIn wsX7_inverse wsX7_modulo := goodIn_r _ [4, 5, 6, 7, 8] (by decide +kernel) (by decide +kernel)
set_option maxRecDepth 20000 in
theorem gX7_inverse_X7_modulo : GoodIn wsX7_inverse (va_wsS RX7 254 yX7_modulo wsX7_modulo) := goodIn_app (goodIn_of _ (by decide +kernel)) ggX7_inverse_X7_modulo
theorem dX7_inverse_0 : decode cX7_inverse 0 = .ok (.iconst 1, 1) := by decide +kernel
theorem dX7_inverse_1 : decode cX7_inverse 1 = .ok (.istore_n 2, 1) := by decide +kernel
theorem dX7_inverse_2 : decode cX7_inverse 2 = .ok (.iload_n 2, 1) := by decide +kernel
theorem dX7_inverse_3 : decode cX7_inverse 3 = .ok (.iload_n 1, 1) := by decide +kernel
theorem dX7_inverse_4 : decode cX7_inverse 4 = .ok (.if_icmp .ge 22, 3) := by decide +kernel
theorem dX7_inverse_7 : decode cX7_inverse 7 = .ok (.iload_n 0, 1) := by decide +kernel
theorem dX7_inverse_8 : decode cX7_inverse 8 = .ok (.iload_n 2, 1) := by decide +kernel
theorem dX7_inverse_9 : decode cX7_inverse 9 = .ok (.imul, 1) := by decide +kernel
theorem dX7_inverse_10 : decode cX7_inverse 10 = .ok (.iload_n 1, 1) := by decide +kernel
theorem dX7_inverse_11 : decode cX7_inverse 11 = .ok (.invokestatic 254, 3) := by decide +kernel
theorem dX7_inverse_14 : decode cX7_inverse 14 = .ok (.iconst 1, 1) := by decide +kernel
theorem dX7_inverse_15 : decode cX7_inverse 15 = .ok (.if_icmp .ne 5, 3) := by decide +kernel
theorem dX7_inverse_18 : decode cX7_inverse 18 = .ok (.iload_n 2, 1) := by decide +kernel
theorem dX7_inverse_19 : decode cX7_inverse 19 = .ok (.ireturn, 1) := by decide +kernel
theorem dX7_inverse_20 : decode cX7_inverse 20 = .ok (.iinc 2 1, 3) := by decide +kernel
theorem dX7_inverse_23 : decode cX7_inverse 23 = .ok (.goto (-21), 3) := by decide +kernel
theorem dX7_inverse_26 : decode cX7_inverse 26 = .ok (.iconst 1, 1) := by decide +kernel
theorem dX7_inverse_27 : decode cX7_inverse 27 = .ok (.ireturn, 1) := by decide +kernel
theorem dX7_powerAt_0 : decode cX7_powerAt 0 = .ok (.iload_n 0, 1) := by decide +kernel
theorem dX7_powerAt_1 : decode cX7_powerAt 1 = .ok (.iconst (-1), 1) := by decide +kernel
theorem dX7_powerAt_2 : decode cX7_powerAt 2 = .ok (.if_icmp .ne 7, 3) := by decide +kernel
theorem dX7_powerAt_5 : decode cX7_powerAt 5 = .ok (.iconst (-1), 1) := by decide +kernel
theorem dX7_powerAt_6 : decode cX7_powerAt 6 = .ok (.goto 6, 3) := by decide +kernel
theorem dX7_powerAt_9 : decode cX7_powerAt 9 = .ok (.iload_n 0, 1) := by decide +kernel
theorem dX7_powerAt_10 : decode cX7_powerAt 10 = .ok (.iconst 3, 1) := by decide +kernel
theorem dX7_powerAt_11 : decode cX7_powerAt 11 = .ok (.idiv, 1) := by decide +kernel
theorem dX7_powerAt_12 : decode cX7_powerAt 12 = .ok (.ireturn, 1) := by decide +kernel
theorem dX7_columnAt_0 : decode cX7_columnAt 0 = .ok (.iload_n 0, 1) := by decide +kernel
theorem dX7_columnAt_1 : decode cX7_columnAt 1 = .ok (.iconst (-1), 1) := by decide +kernel
theorem dX7_columnAt_2 : decode cX7_columnAt 2 = .ok (.if_icmp .ne 7, 3) := by decide +kernel
theorem dX7_columnAt_5 : decode cX7_columnAt 5 = .ok (.iconst (-1), 1) := by decide +kernel
theorem dX7_columnAt_6 : decode cX7_columnAt 6 = .ok (.goto 6, 3) := by decide +kernel
theorem dX7_columnAt_9 : decode cX7_columnAt 9 = .ok (.iload_n 0, 1) := by decide +kernel
theorem dX7_columnAt_10 : decode cX7_columnAt 10 = .ok (.iconst 3, 1) := by decide +kernel
theorem dX7_columnAt_11 : decode cX7_columnAt 11 = .ok (.irem, 1) := by decide +kernel
theorem dX7_columnAt_12 : decode cX7_columnAt 12 = .ok (.ireturn, 1) := by decide +kernel
theorem dX7_mixed_0 : decode cX7_mixed 0 = .ok (.ldc2_w 257, 3) := by decide +kernel
theorem dX7_mixed_3 : decode cX7_mixed 3 = .ok (.lload_n 0, 1) := by decide +kernel
theorem dX7_mixed_4 : decode cX7_mixed 4 = .ok (.lmul, 1) := by decide +kernel
theorem dX7_mixed_5 : decode cX7_mixed 5 = .ok (.iload_n 2, 1) := by decide +kernel
theorem dX7_mixed_6 : decode cX7_mixed 6 = .ok (.i2l, 1) := by decide +kernel
theorem dX7_mixed_7 : decode cX7_mixed 7 = .ok (.ladd, 1) := by decide +kernel
theorem dX7_mixed_8 : decode cX7_mixed 8 = .ok (.lreturn, 1) := by decide +kernel
set_option maxRecDepth 20000 in
theorem ggX7_mixedRow_X3_degreeOf : GoodIn wsX7_mixedRow wsX3_degreeOf := goodIn_r _ [7, 8, 9, 10, 6, 11, 12, 13, 14, 15, 16, 17, 18, 19, 20, 21, 22, 23, 52, 53, 54, 55, 56, 57, 58] (by decide +kernel) (by decide +kernel)
set_option maxRecDepth 20000 in
theorem gX7_mixedRow_X3_degreeOf : GoodIn wsX7_mixedRow (wsV RX7 114 RX3 yX3_degreeOf wsX3_degreeOf) := goodIn_app (goodIn_of _ (by decide +kernel)) ggX7_mixedRow_X3_degreeOf
set_option maxRecDepth 20000 in
theorem ggX7_mixedRow_X7_mixed : GoodIn wsX7_mixedRow wsX7_mixed := goodIn_r _ [26, 27] (by decide +kernel) (by decide +kernel)
set_option maxRecDepth 20000 in
theorem gX7_mixedRow_X7_mixed : GoodIn wsX7_mixedRow (va_wsS RX7 236 yX7_mixed wsX7_mixed) := goodIn_app (goodIn_of _ (by decide +kernel)) ggX7_mixedRow_X7_mixed
set_option maxRecDepth 20000 in
theorem ggX7_mixedRow_X3_pivotOf : GoodIn wsX7_mixedRow wsX3_pivotOf := goodIn_r _ [31, 8, 9, 10, 6, 11, 12, 13, 14, 15, 16, 17, 18, 19, 20, 32, 22, 33, 52, 53, 54, 55, 56, 57, 58] (by decide +kernel) (by decide +kernel)
set_option maxRecDepth 20000 in
theorem gX7_mixedRow_X3_pivotOf : GoodIn wsX7_mixedRow (wsV RX7 117 RX3 yX3_pivotOf wsX3_pivotOf) := goodIn_app (goodIn_of _ (by decide +kernel)) ggX7_mixedRow_X3_pivotOf
set_option maxRecDepth 20000 in
theorem ggX7_mixedRow_X3_leadOf : GoodIn wsX7_mixedRow wsX3_leadOf := goodIn_r _ [37, 8, 9, 10, 6, 11, 12, 13, 14, 15, 16, 17, 18, 19, 20, 32, 22, 33, 21, 23, 52, 53, 54, 55, 56, 57, 58] (by decide +kernel) (by decide +kernel)
set_option maxRecDepth 20000 in
theorem gX7_mixedRow_X3_leadOf : GoodIn wsX7_mixedRow (wsV RX7 120 RX3 yX3_leadOf wsX3_leadOf) := goodIn_app (goodIn_of _ (by decide +kernel)) ggX7_mixedRow_X3_leadOf
set_option maxRecDepth 20000 in
theorem ggX7_mixedRow_X3_at : GoodIn wsX7_mixedRow wsX3_at := goodIn_r _ [16, 17, 18, 19, 20, 52, 53, 54, 55, 56, 57, 58] (by decide +kernel) (by decide +kernel)
set_option maxRecDepth 20000 in
theorem gX7_mixedRow_X3_at : GoodIn wsX7_mixedRow (wsV RX7 96 RX3 yX3_at wsX3_at) := goodIn_app (goodIn_of _ (by decide +kernel)) ggX7_mixedRow_X3_at
theorem dX7_mixedRow_0 : decode cX7_mixedRow 0 = .ok (.lload_n 1, 1) := by decide +kernel
theorem dX7_mixedRow_1 : decode cX7_mixedRow 1 = .ok (.aload_n 0, 1) := by decide +kernel
theorem dX7_mixedRow_2 : decode cX7_mixedRow 2 = .ok (.getfield 13, 3) := by decide +kernel
theorem dX7_mixedRow_5 : decode cX7_mixedRow 5 = .ok (.iload_n 3, 1) := by decide +kernel
theorem dX7_mixedRow_6 : decode cX7_mixedRow 6 = .ok (.invokevirtual 114, 3) := by decide +kernel
theorem dX7_mixedRow_9 : decode cX7_mixedRow 9 = .ok (.invokestatic 236, 3) := by decide +kernel
theorem dX7_mixedRow_12 : decode cX7_mixedRow 12 = .ok (.lstore_n 1, 1) := by decide +kernel
theorem dX7_mixedRow_13 : decode cX7_mixedRow 13 = .ok (.lload_n 1, 1) := by decide +kernel
theorem dX7_mixedRow_14 : decode cX7_mixedRow 14 = .ok (.aload_n 0, 1) := by decide +kernel
theorem dX7_mixedRow_15 : decode cX7_mixedRow 15 = .ok (.getfield 13, 3) := by decide +kernel
theorem dX7_mixedRow_18 : decode cX7_mixedRow 18 = .ok (.iload_n 3, 1) := by decide +kernel
theorem dX7_mixedRow_19 : decode cX7_mixedRow 19 = .ok (.invokevirtual 117, 3) := by decide +kernel
theorem dX7_mixedRow_22 : decode cX7_mixedRow 22 = .ok (.invokestatic 236, 3) := by decide +kernel
theorem dX7_mixedRow_25 : decode cX7_mixedRow 25 = .ok (.lstore_n 1, 1) := by decide +kernel
theorem dX7_mixedRow_26 : decode cX7_mixedRow 26 = .ok (.lload_n 1, 1) := by decide +kernel
theorem dX7_mixedRow_27 : decode cX7_mixedRow 27 = .ok (.aload_n 0, 1) := by decide +kernel
theorem dX7_mixedRow_28 : decode cX7_mixedRow 28 = .ok (.getfield 13, 3) := by decide +kernel
theorem dX7_mixedRow_31 : decode cX7_mixedRow 31 = .ok (.iload_n 3, 1) := by decide +kernel
theorem dX7_mixedRow_32 : decode cX7_mixedRow 32 = .ok (.invokevirtual 120, 3) := by decide +kernel
theorem dX7_mixedRow_35 : decode cX7_mixedRow 35 = .ok (.invokestatic 236, 3) := by decide +kernel
theorem dX7_mixedRow_38 : decode cX7_mixedRow 38 = .ok (.lstore_n 1, 1) := by decide +kernel
theorem dX7_mixedRow_39 : decode cX7_mixedRow 39 = .ok (.iconst 0, 1) := by decide +kernel
theorem dX7_mixedRow_40 : decode cX7_mixedRow 40 = .ok (.istore 4, 2) := by decide +kernel
theorem dX7_mixedRow_42 : decode cX7_mixedRow 42 = .ok (.iload 4, 2) := by decide +kernel
theorem dX7_mixedRow_44 : decode cX7_mixedRow 44 = .ok (.aload_n 0, 1) := by decide +kernel
theorem dX7_mixedRow_45 : decode cX7_mixedRow 45 = .ok (.getfield 13, 3) := by decide +kernel
theorem dX7_mixedRow_48 : decode cX7_mixedRow 48 = .ok (.getfield 184, 3) := by decide +kernel
theorem dX7_mixedRow_51 : decode cX7_mixedRow 51 = .ok (.if_icmp .ge 42, 3) := by decide +kernel
theorem dX7_mixedRow_54 : decode cX7_mixedRow 54 = .ok (.iconst 0, 1) := by decide +kernel
theorem dX7_mixedRow_55 : decode cX7_mixedRow 55 = .ok (.istore 5, 2) := by decide +kernel
theorem dX7_mixedRow_57 : decode cX7_mixedRow 57 = .ok (.iload 5, 2) := by decide +kernel
theorem dX7_mixedRow_59 : decode cX7_mixedRow 59 = .ok (.bipush 6, 2) := by decide +kernel
theorem dX7_mixedRow_61 : decode cX7_mixedRow 61 = .ok (.if_icmp .gt 26, 3) := by decide +kernel
theorem dX7_mixedRow_64 : decode cX7_mixedRow 64 = .ok (.lload_n 1, 1) := by decide +kernel
theorem dX7_mixedRow_65 : decode cX7_mixedRow 65 = .ok (.aload_n 0, 1) := by decide +kernel
theorem dX7_mixedRow_66 : decode cX7_mixedRow 66 = .ok (.getfield 13, 3) := by decide +kernel
theorem dX7_mixedRow_69 : decode cX7_mixedRow 69 = .ok (.iload_n 3, 1) := by decide +kernel
theorem dX7_mixedRow_70 : decode cX7_mixedRow 70 = .ok (.iload 4, 2) := by decide +kernel
theorem dX7_mixedRow_72 : decode cX7_mixedRow 72 = .ok (.iload 5, 2) := by decide +kernel
theorem dX7_mixedRow_74 : decode cX7_mixedRow 74 = .ok (.invokevirtual 96, 3) := by decide +kernel
theorem dX7_mixedRow_77 : decode cX7_mixedRow 77 = .ok (.invokestatic 236, 3) := by decide +kernel
theorem dX7_mixedRow_80 : decode cX7_mixedRow 80 = .ok (.lstore_n 1, 1) := by decide +kernel
theorem dX7_mixedRow_81 : decode cX7_mixedRow 81 = .ok (.iinc 5 1, 3) := by decide +kernel
theorem dX7_mixedRow_84 : decode cX7_mixedRow 84 = .ok (.goto (-27), 3) := by decide +kernel
theorem dX7_mixedRow_87 : decode cX7_mixedRow 87 = .ok (.iinc 4 1, 3) := by decide +kernel
theorem dX7_mixedRow_90 : decode cX7_mixedRow 90 = .ok (.goto (-48), 3) := by decide +kernel
theorem dX7_mixedRow_93 : decode cX7_mixedRow 93 = .ok (.lload_n 1, 1) := by decide +kernel
theorem dX7_mixedRow_94 : decode cX7_mixedRow 94 = .ok (.lreturn, 1) := by decide +kernel
theorem dX7_total_0 : decode cX7_total 0 = .ok (.iload_n 1, 1) := by decide +kernel
theorem dX7_total_1 : decode cX7_total 1 = .ok (.tableswitch 90 0 6 #[43, 48, 53, 58, 66, 74, 82], 43) := by decide +kernel
theorem dX7_total_44 : decode cX7_total 44 = .ok (.aload_n 0, 1) := by decide +kernel
theorem dX7_total_45 : decode cX7_total 45 = .ok (.getfield 259, 3) := by decide +kernel
theorem dX7_total_48 : decode cX7_total 48 = .ok (.ireturn, 1) := by decide +kernel
theorem dX7_total_49 : decode cX7_total 49 = .ok (.aload_n 0, 1) := by decide +kernel
theorem dX7_total_50 : decode cX7_total 50 = .ok (.getfield 262, 3) := by decide +kernel
theorem dX7_total_53 : decode cX7_total 53 = .ok (.ireturn, 1) := by decide +kernel
theorem dX7_total_54 : decode cX7_total 54 = .ok (.aload_n 0, 1) := by decide +kernel
theorem dX7_total_55 : decode cX7_total 55 = .ok (.getfield 265, 3) := by decide +kernel
theorem dX7_total_58 : decode cX7_total 58 = .ok (.ireturn, 1) := by decide +kernel
theorem dX7_total_59 : decode cX7_total 59 = .ok (.aload_n 0, 1) := by decide +kernel
theorem dX7_total_60 : decode cX7_total 60 = .ok (.getfield 54, 3) := by decide +kernel
theorem dX7_total_63 : decode cX7_total 63 = .ok (.getfield 199, 3) := by decide +kernel
theorem dX7_total_66 : decode cX7_total 66 = .ok (.ireturn, 1) := by decide +kernel
theorem dX7_total_67 : decode cX7_total 67 = .ok (.aload_n 0, 1) := by decide +kernel
theorem dX7_total_68 : decode cX7_total 68 = .ok (.getfield 13, 3) := by decide +kernel
theorem dX7_total_71 : decode cX7_total 71 = .ok (.getfield 268, 3) := by decide +kernel
theorem dX7_total_74 : decode cX7_total 74 = .ok (.ireturn, 1) := by decide +kernel
theorem dX7_total_75 : decode cX7_total 75 = .ok (.aload_n 0, 1) := by decide +kernel
theorem dX7_total_76 : decode cX7_total 76 = .ok (.getfield 13, 3) := by decide +kernel
theorem dX7_total_79 : decode cX7_total 79 = .ok (.getfield 184, 3) := by decide +kernel
theorem dX7_total_82 : decode cX7_total 82 = .ok (.ireturn, 1) := by decide +kernel
theorem dX7_total_83 : decode cX7_total 83 = .ok (.aload_n 0, 1) := by decide +kernel
theorem dX7_total_84 : decode cX7_total 84 = .ok (.getfield 13, 3) := by decide +kernel
theorem dX7_total_87 : decode cX7_total 87 = .ok (.getfield 149, 3) := by decide +kernel
theorem dX7_total_90 : decode cX7_total 90 = .ok (.ireturn, 1) := by decide +kernel
theorem dX7_total_91 : decode cX7_total 91 = .ok (.aload_n 0, 1) := by decide +kernel
theorem dX7_total_92 : decode cX7_total 92 = .ok (.getfield 23, 3) := by decide +kernel
theorem dX7_total_95 : decode cX7_total 95 = .ok (.getfield 230, 3) := by decide +kernel
theorem dX7_total_98 : decode cX7_total 98 = .ok (.ireturn, 1) := by decide +kernel
theorem dX7_counted_0 : decode cX7_counted 0 = .ok (.iload_n 1, 1) := by decide +kernel
theorem dX7_counted_1 : decode cX7_counted 1 = .ok (.bipush (-2), 2) := by decide +kernel
theorem dX7_counted_3 : decode cX7_counted 3 = .ok (.if_icmp .ne 16, 3) := by decide +kernel
theorem dX7_counted_6 : decode cX7_counted 6 = .ok (.aload_n 0, 1) := by decide +kernel
theorem dX7_counted_7 : decode cX7_counted 7 = .ok (.dup, 1) := by decide +kernel
theorem dX7_counted_8 : decode cX7_counted 8 = .ok (.getfield 259, 3) := by decide +kernel
theorem dX7_counted_11 : decode cX7_counted 11 = .ok (.iconst 1, 1) := by decide +kernel
theorem dX7_counted_12 : decode cX7_counted 12 = .ok (.iadd, 1) := by decide +kernel
theorem dX7_counted_13 : decode cX7_counted 13 = .ok (.putfield 259, 3) := by decide +kernel
theorem dX7_counted_16 : decode cX7_counted 16 = .ok (.goto 38, 3) := by decide +kernel
theorem dX7_counted_19 : decode cX7_counted 19 = .ok (.iload_n 1, 1) := by decide +kernel
theorem dX7_counted_20 : decode cX7_counted 20 = .ok (.bipush (-3), 2) := by decide +kernel
theorem dX7_counted_22 : decode cX7_counted 22 = .ok (.if_icmp .ne 16, 3) := by decide +kernel
theorem dX7_counted_25 : decode cX7_counted 25 = .ok (.aload_n 0, 1) := by decide +kernel
theorem dX7_counted_26 : decode cX7_counted 26 = .ok (.dup, 1) := by decide +kernel
theorem dX7_counted_27 : decode cX7_counted 27 = .ok (.getfield 262, 3) := by decide +kernel
theorem dX7_counted_30 : decode cX7_counted 30 = .ok (.iconst 1, 1) := by decide +kernel
theorem dX7_counted_31 : decode cX7_counted 31 = .ok (.iadd, 1) := by decide +kernel
theorem dX7_counted_32 : decode cX7_counted 32 = .ok (.putfield 262, 3) := by decide +kernel
theorem dX7_counted_35 : decode cX7_counted 35 = .ok (.goto 19, 3) := by decide +kernel
theorem dX7_counted_38 : decode cX7_counted 38 = .ok (.iload_n 1, 1) := by decide +kernel
theorem dX7_counted_39 : decode cX7_counted 39 = .ok (.bipush (-4), 2) := by decide +kernel
theorem dX7_counted_41 : decode cX7_counted 41 = .ok (.if_icmp .ne 13, 3) := by decide +kernel
theorem dX7_counted_44 : decode cX7_counted 44 = .ok (.aload_n 0, 1) := by decide +kernel
theorem dX7_counted_45 : decode cX7_counted 45 = .ok (.dup, 1) := by decide +kernel
theorem dX7_counted_46 : decode cX7_counted 46 = .ok (.getfield 265, 3) := by decide +kernel
theorem dX7_counted_49 : decode cX7_counted 49 = .ok (.iconst 1, 1) := by decide +kernel
theorem dX7_counted_50 : decode cX7_counted 50 = .ok (.iadd, 1) := by decide +kernel
theorem dX7_counted_51 : decode cX7_counted 51 = .ok (.putfield 265, 3) := by decide +kernel
theorem dX7_counted_54 : decode cX7_counted 54 = .ok (.iload_n 1, 1) := by decide +kernel
theorem dX7_counted_55 : decode cX7_counted 55 = .ok (.ireturn, 1) := by decide +kernel
set_option maxRecDepth 20000 in
theorem ggX7_settle_X7_isError : GoodIn wsX7_settle wsX7_isError := goodIn_r _ [6] (by decide +kernel) (by decide +kernel)
set_option maxRecDepth 20000 in
theorem gX7_settle_X7_isError : GoodIn wsX7_settle (va_wsS RX7 218 yX7_isError wsX7_isError) := goodIn_app (goodIn_of _ (by decide +kernel)) ggX7_settle_X7_isError
set_option maxRecDepth 20000 in
theorem ggX7_settle_X7_counted : GoodIn wsX7_settle wsX7_counted := goodIn_r _ [10, 11, 12, 13, 42, 43, 44, 45, 46, 47, 48, 49, 50, 51, 52, 53, 54] (by decide +kernel) (by decide +kernel)
set_option maxRecDepth 20000 in
theorem gX7_settle_X7_counted : GoodIn wsX7_settle (wsV RX7 93 RX7 yX7_counted wsX7_counted) := goodIn_app (goodIn_of _ (by decide +kernel)) ggX7_settle_X7_counted
set_option maxRecDepth 20000 in
theorem ggX7_settle_X1_keep : GoodIn wsX7_settle wsX1_keep := goodIn_r _ [18, 19, 20, 21, 22, 23, 17, 24, 25, 26, 27, 28, 29, 30, 31, 32, 33, 34, 35, 36, 37, 38, 39, 40, 41, 55, 56, 57, 58, 59, 60, 61, 62, 63] (by decide +kernel) (by decide +kernel)
set_option maxRecDepth 20000 in
theorem gX7_settle_X1_keep : GoodIn wsX7_settle (wsV RX7 224 RX1 yX1_keep wsX1_keep) := goodIn_app (goodIn_of _ (by decide +kernel)) ggX7_settle_X1_keep
theorem dX7_settle_0 : decode cX7_settle 0 = .ok (.iload_n 1, 1) := by decide +kernel
theorem dX7_settle_1 : decode cX7_settle 1 = .ok (.invokestatic 218, 3) := by decide +kernel
theorem dX7_settle_4 : decode cX7_settle 4 = .ok (.ifCond .eq 9, 3) := by decide +kernel
theorem dX7_settle_7 : decode cX7_settle 7 = .ok (.aload_n 0, 1) := by decide +kernel
theorem dX7_settle_8 : decode cX7_settle 8 = .ok (.iload_n 1, 1) := by decide +kernel
theorem dX7_settle_9 : decode cX7_settle 9 = .ok (.invokevirtual 93, 3) := by decide +kernel
theorem dX7_settle_12 : decode cX7_settle 12 = .ok (.ireturn, 1) := by decide +kernel
theorem dX7_settle_13 : decode cX7_settle 13 = .ok (.aload_n 0, 1) := by decide +kernel
theorem dX7_settle_14 : decode cX7_settle 14 = .ok (.getfield 23, 3) := by decide +kernel
theorem dX7_settle_17 : decode cX7_settle 17 = .ok (.aload_n 0, 1) := by decide +kernel
theorem dX7_settle_18 : decode cX7_settle 18 = .ok (.getfield 17, 3) := by decide +kernel
theorem dX7_settle_21 : decode cX7_settle 21 = .ok (.invokevirtual 224, 3) := by decide +kernel
theorem dX7_settle_24 : decode cX7_settle 24 = .ok (.iload_n 1, 1) := by decide +kernel
theorem dX7_settle_25 : decode cX7_settle 25 = .ok (.ireturn, 1) := by decide +kernel
set_option maxRecDepth 20000 in
theorem ggX7_isRowBeside_X3_hasRow : GoodIn wsX7_isRowBeside wsX3_hasRow := goodIn_r _ [6, 7, 32, 33, 34, 35, 36, 37, 38] (by decide +kernel) (by decide +kernel)
set_option maxRecDepth 20000 in
theorem gX7_isRowBeside_X3_hasRow : GoodIn wsX7_isRowBeside (wsV RX7 82 RX3 yX3_hasRow wsX3_hasRow) := goodIn_app (goodIn_of _ (by decide +kernel)) ggX7_isRowBeside_X3_hasRow
set_option maxRecDepth 20000 in
theorem ggX7_isRowBeside_X3_hasSet : GoodIn wsX7_isRowBeside wsX3_hasSet := goodIn_r _ [11, 7, 32, 33, 34, 35, 36, 37, 38] (by decide +kernel) (by decide +kernel)
set_option maxRecDepth 20000 in
theorem gX7_isRowBeside_X3_hasSet : GoodIn wsX7_isRowBeside (wsV RX7 139 RX3 yX3_hasSet wsX3_hasSet) := goodIn_app (goodIn_of _ (by decide +kernel)) ggX7_isRowBeside_X3_hasSet
set_option maxRecDepth 20000 in
theorem ggX7_isRowBeside_X7_isInSet : GoodIn wsX7_isRowBeside wsX7_isInSet := goodIn_r _ [15, 16, 17, 14, 18] (by decide +kernel) (by decide +kernel)
set_option maxRecDepth 20000 in
theorem gX7_isRowBeside_X7_isInSet : GoodIn wsX7_isRowBeside (va_wsS RX7 172 yX7_isInSet wsX7_isInSet) := goodIn_app (goodIn_of _ (by decide +kernel)) ggX7_isRowBeside_X7_isInSet
theorem dX7_isRowBeside_0 : decode cX7_isRowBeside 0 = .ok (.aload_n 0, 1) := by decide +kernel
theorem dX7_isRowBeside_1 : decode cX7_isRowBeside 1 = .ok (.getfield 13, 3) := by decide +kernel
theorem dX7_isRowBeside_4 : decode cX7_isRowBeside 4 = .ok (.iload_n 1, 1) := by decide +kernel
theorem dX7_isRowBeside_5 : decode cX7_isRowBeside 5 = .ok (.invokevirtual 82, 3) := by decide +kernel
theorem dX7_isRowBeside_8 : decode cX7_isRowBeside 8 = .ok (.ifCond .eq 26, 3) := by decide +kernel
theorem dX7_isRowBeside_11 : decode cX7_isRowBeside 11 = .ok (.aload_n 0, 1) := by decide +kernel
theorem dX7_isRowBeside_12 : decode cX7_isRowBeside 12 = .ok (.getfield 13, 3) := by decide +kernel
theorem dX7_isRowBeside_15 : decode cX7_isRowBeside 15 = .ok (.iload_n 2, 1) := by decide +kernel
theorem dX7_isRowBeside_16 : decode cX7_isRowBeside 16 = .ok (.invokevirtual 139, 3) := by decide +kernel
theorem dX7_isRowBeside_19 : decode cX7_isRowBeside 19 = .ok (.ifCond .eq 15, 3) := by decide +kernel
theorem dX7_isRowBeside_22 : decode cX7_isRowBeside 22 = .ok (.iload_n 1, 1) := by decide +kernel
theorem dX7_isRowBeside_23 : decode cX7_isRowBeside 23 = .ok (.iload_n 2, 1) := by decide +kernel
theorem dX7_isRowBeside_24 : decode cX7_isRowBeside 24 = .ok (.invokestatic 172, 3) := by decide +kernel
theorem dX7_isRowBeside_27 : decode cX7_isRowBeside 27 = .ok (.ifCond .ne 7, 3) := by decide +kernel
theorem dX7_isRowBeside_30 : decode cX7_isRowBeside 30 = .ok (.iconst 1, 1) := by decide +kernel
theorem dX7_isRowBeside_31 : decode cX7_isRowBeside 31 = .ok (.goto 4, 3) := by decide +kernel
theorem dX7_isRowBeside_34 : decode cX7_isRowBeside 34 = .ok (.iconst 0, 1) := by decide +kernel
theorem dX7_isRowBeside_35 : decode cX7_isRowBeside 35 = .ok (.ireturn, 1) := by decide +kernel
theorem dX7_allRows_0 : decode cX7_allRows 0 = .ok (.iconst 1, 1) := by decide +kernel
theorem dX7_allRows_1 : decode cX7_allRows 1 = .ok (.aload_n 0, 1) := by decide +kernel
theorem dX7_allRows_2 : decode cX7_allRows 2 = .ok (.getfield 13, 3) := by decide +kernel
theorem dX7_allRows_5 : decode cX7_allRows 5 = .ok (.getfield 149, 3) := by decide +kernel
theorem dX7_allRows_8 : decode cX7_allRows 8 = .ok (.ishl, 1) := by decide +kernel
theorem dX7_allRows_9 : decode cX7_allRows 9 = .ok (.iconst 1, 1) := by decide +kernel
theorem dX7_allRows_10 : decode cX7_allRows 10 = .ok (.isub, 1) := by decide +kernel
theorem dX7_allRows_11 : decode cX7_allRows 11 = .ok (.ireturn, 1) := by decide +kernel
set_option maxRecDepth 20000 in
theorem ggX7_changePrime_X7_isPrime : GoodIn wsX7_changePrime wsX7_isPrime := goodIn_r _ [7] (by decide +kernel) (by decide +kernel)
set_option maxRecDepth 20000 in
theorem gX7_changePrime_X7_isPrime : GoodIn wsX7_changePrime (va_wsS RX7 271 yX7_isPrime wsX7_isPrime) := goodIn_app (goodIn_of _ (by decide +kernel)) ggX7_changePrime_X7_isPrime
set_option maxRecDepth 20000 in
theorem ggX7_changePrime_X3_reset : GoodIn wsX7_changePrime wsX3_reset := goodIn_r _ [12, 13, 14, 15, 29, 30, 31, 32, 33, 34, 35] (by decide +kernel) (by decide +kernel)
set_option maxRecDepth 20000 in
theorem gX7_changePrime_X3_reset : GoodIn wsX7_changePrime (wsV RX7 274 RX3 yX3_reset wsX3_reset) := goodIn_app (goodIn_of _ (by decide +kernel)) ggX7_changePrime_X3_reset
theorem dX7_changePrime_0 : decode cX7_changePrime 0 = .ok (.iload_n 1, 1) := by decide +kernel
theorem dX7_changePrime_1 : decode cX7_changePrime 1 = .ok (.invokestatic 271, 3) := by decide +kernel
theorem dX7_changePrime_4 : decode cX7_changePrime 4 = .ok (.ifCond .ne 6, 3) := by decide +kernel
theorem dX7_changePrime_7 : decode cX7_changePrime 7 = .ok (.bipush (-2), 2) := by decide +kernel
theorem dX7_changePrime_9 : decode cX7_changePrime 9 = .ok (.ireturn, 1) := by decide +kernel
theorem dX7_changePrime_10 : decode cX7_changePrime 10 = .ok (.aload_n 0, 1) := by decide +kernel
theorem dX7_changePrime_11 : decode cX7_changePrime 11 = .ok (.getfield 13, 3) := by decide +kernel
theorem dX7_changePrime_14 : decode cX7_changePrime 14 = .ok (.getfield 268, 3) := by decide +kernel
theorem dX7_changePrime_17 : decode cX7_changePrime 17 = .ok (.istore_n 2, 1) := by decide +kernel
theorem dX7_changePrime_18 : decode cX7_changePrime 18 = .ok (.aload_n 0, 1) := by decide +kernel
theorem dX7_changePrime_19 : decode cX7_changePrime 19 = .ok (.getfield 13, 3) := by decide +kernel
theorem dX7_changePrime_22 : decode cX7_changePrime 22 = .ok (.iload_n 1, 1) := by decide +kernel
theorem dX7_changePrime_23 : decode cX7_changePrime 23 = .ok (.aload_n 0, 1) := by decide +kernel
theorem dX7_changePrime_24 : decode cX7_changePrime 24 = .ok (.getfield 13, 3) := by decide +kernel
theorem dX7_changePrime_27 : decode cX7_changePrime 27 = .ok (.getfield 184, 3) := by decide +kernel
theorem dX7_changePrime_30 : decode cX7_changePrime 30 = .ok (.invokevirtual 274, 3) := by decide +kernel
theorem dX7_changePrime_33 : decode cX7_changePrime 33 = .ok (.iload_n 2, 1) := by decide +kernel
theorem dX7_changePrime_34 : decode cX7_changePrime 34 = .ok (.ireturn, 1) := by decide +kernel
set_option maxRecDepth 20000 in
theorem ggX7_changeColumns_X7_isWithin : GoodIn wsX7_changeColumns wsX7_isWithin := goodIn_r _ [7] (by decide +kernel) (by decide +kernel)
set_option maxRecDepth 20000 in
theorem gX7_changeColumns_X7_isWithin : GoodIn wsX7_changeColumns (va_wsS RX7 89 yX7_isWithin wsX7_isWithin) := goodIn_app (goodIn_of _ (by decide +kernel)) ggX7_changeColumns_X7_isWithin
set_option maxRecDepth 20000 in
theorem ggX7_changeColumns_X3_reset : GoodIn wsX7_changeColumns wsX3_reset := goodIn_r _ [12, 13, 14, 15, 29, 30, 31, 32, 33, 34, 35] (by decide +kernel) (by decide +kernel)
set_option maxRecDepth 20000 in
theorem gX7_changeColumns_X3_reset : GoodIn wsX7_changeColumns (wsV RX7 274 RX3 yX3_reset wsX3_reset) := goodIn_app (goodIn_of _ (by decide +kernel)) ggX7_changeColumns_X3_reset
theorem dX7_changeColumns_0 : decode cX7_changeColumns 0 = .ok (.iload_n 1, 1) := by decide +kernel
theorem dX7_changeColumns_1 : decode cX7_changeColumns 1 = .ok (.iconst 1, 1) := by decide +kernel
theorem dX7_changeColumns_2 : decode cX7_changeColumns 2 = .ok (.iconst 3, 1) := by decide +kernel
theorem dX7_changeColumns_3 : decode cX7_changeColumns 3 = .ok (.invokestatic 89, 3) := by decide +kernel
theorem dX7_changeColumns_6 : decode cX7_changeColumns 6 = .ok (.ifCond .ne 6, 3) := by decide +kernel
theorem dX7_changeColumns_9 : decode cX7_changeColumns 9 = .ok (.bipush (-2), 2) := by decide +kernel
theorem dX7_changeColumns_11 : decode cX7_changeColumns 11 = .ok (.ireturn, 1) := by decide +kernel
theorem dX7_changeColumns_12 : decode cX7_changeColumns 12 = .ok (.aload_n 0, 1) := by decide +kernel
theorem dX7_changeColumns_13 : decode cX7_changeColumns 13 = .ok (.getfield 13, 3) := by decide +kernel
theorem dX7_changeColumns_16 : decode cX7_changeColumns 16 = .ok (.getfield 184, 3) := by decide +kernel
theorem dX7_changeColumns_19 : decode cX7_changeColumns 19 = .ok (.istore_n 2, 1) := by decide +kernel
theorem dX7_changeColumns_20 : decode cX7_changeColumns 20 = .ok (.aload_n 0, 1) := by decide +kernel
theorem dX7_changeColumns_21 : decode cX7_changeColumns 21 = .ok (.getfield 13, 3) := by decide +kernel
theorem dX7_changeColumns_24 : decode cX7_changeColumns 24 = .ok (.aload_n 0, 1) := by decide +kernel
theorem dX7_changeColumns_25 : decode cX7_changeColumns 25 = .ok (.getfield 13, 3) := by decide +kernel
theorem dX7_changeColumns_28 : decode cX7_changeColumns 28 = .ok (.getfield 268, 3) := by decide +kernel
theorem dX7_changeColumns_31 : decode cX7_changeColumns 31 = .ok (.iload_n 1, 1) := by decide +kernel
theorem dX7_changeColumns_32 : decode cX7_changeColumns 32 = .ok (.invokevirtual 274, 3) := by decide +kernel
theorem dX7_changeColumns_35 : decode cX7_changeColumns 35 = .ok (.iload_n 2, 1) := by decide +kernel
theorem dX7_changeColumns_36 : decode cX7_changeColumns 36 = .ok (.ireturn, 1) := by decide +kernel
set_option maxRecDepth 20000 in
theorem ggX7_dropRow_X3_hasRow : GoodIn wsX7_dropRow wsX3_hasRow := goodIn_r _ [7, 8, 34, 35, 36, 37, 38, 39, 40] (by decide +kernel) (by decide +kernel)
set_option maxRecDepth 20000 in
theorem gX7_dropRow_X3_hasRow : GoodIn wsX7_dropRow (wsV RX7 82 RX3 yX3_hasRow wsX3_hasRow) := goodIn_app (goodIn_of _ (by decide +kernel)) ggX7_dropRow_X3_hasRow
set_option maxRecDepth 20000 in
theorem ggX7_dropRow_X3_remove : GoodIn wsX7_dropRow wsX3_remove := goodIn_r _ [12, 13, 14, 15, 8, 16, 17, 18, 19, 20, 4, 5, 6, 7, 34, 35, 36, 37, 38, 39, 40] (by decide +kernel) (by decide +kernel)
set_option maxRecDepth 20000 in
theorem gX7_dropRow_X3_remove : GoodIn wsX7_dropRow (wsV RX7 278 RX3 yX3_remove wsX3_remove) := goodIn_app (goodIn_of _ (by decide +kernel)) ggX7_dropRow_X3_remove
theorem dX7_dropRow_0 : decode cX7_dropRow 0 = .ok (.aload_n 0, 1) := by decide +kernel
theorem dX7_dropRow_1 : decode cX7_dropRow 1 = .ok (.getfield 13, 3) := by decide +kernel
theorem dX7_dropRow_4 : decode cX7_dropRow 4 = .ok (.iload_n 1, 1) := by decide +kernel
theorem dX7_dropRow_5 : decode cX7_dropRow 5 = .ok (.invokevirtual 82, 3) := by decide +kernel
theorem dX7_dropRow_8 : decode cX7_dropRow 8 = .ok (.ifCond .ne 6, 3) := by decide +kernel
theorem dX7_dropRow_11 : decode cX7_dropRow 11 = .ok (.bipush (-2), 2) := by decide +kernel
theorem dX7_dropRow_13 : decode cX7_dropRow 13 = .ok (.ireturn, 1) := by decide +kernel
theorem dX7_dropRow_14 : decode cX7_dropRow 14 = .ok (.aload_n 0, 1) := by decide +kernel
theorem dX7_dropRow_15 : decode cX7_dropRow 15 = .ok (.getfield 13, 3) := by decide +kernel
theorem dX7_dropRow_18 : decode cX7_dropRow 18 = .ok (.iload_n 1, 1) := by decide +kernel
theorem dX7_dropRow_19 : decode cX7_dropRow 19 = .ok (.invokevirtual 278, 3) := by decide +kernel
theorem dX7_dropRow_22 : decode cX7_dropRow 22 = .ok (.aload_n 0, 1) := by decide +kernel
theorem dX7_dropRow_23 : decode cX7_dropRow 23 = .ok (.getfield 13, 3) := by decide +kernel
theorem dX7_dropRow_26 : decode cX7_dropRow 26 = .ok (.getfield 149, 3) := by decide +kernel
theorem dX7_dropRow_29 : decode cX7_dropRow 29 = .ok (.ireturn, 1) := by decide +kernel
set_option maxRecDepth 20000 in
theorem ggX7_stepRow_X3_hasRow : GoodIn wsX7_stepRow wsX3_hasRow := goodIn_r _ [7, 8, 61, 62, 63, 64, 65, 66, 67] (by decide +kernel) (by decide +kernel)
set_option maxRecDepth 20000 in
theorem gX7_stepRow_X3_hasRow : GoodIn wsX7_stepRow (wsV RX7 82 RX3 yX3_hasRow wsX3_hasRow) := goodIn_app (goodIn_of _ (by decide +kernel)) ggX7_stepRow_X3_hasRow
set_option maxRecDepth 20000 in
theorem ggX7_stepRow_X7_isWithin : GoodIn wsX7_stepRow wsX7_isWithin := goodIn_r _ [12] (by decide +kernel) (by decide +kernel)
set_option maxRecDepth 20000 in
theorem gX7_stepRow_X7_isWithin : GoodIn wsX7_stepRow (va_wsS RX7 89 yX7_isWithin wsX7_isWithin) := goodIn_app (goodIn_of _ (by decide +kernel)) ggX7_stepRow_X7_isWithin
set_option maxRecDepth 20000 in
theorem ggX7_stepRow_X7_modulo : GoodIn wsX7_stepRow wsX7_modulo := goodIn_r _ [15, 16, 17, 18, 19] (by decide +kernel) (by decide +kernel)
set_option maxRecDepth 20000 in
theorem gX7_stepRow_X7_modulo : GoodIn wsX7_stepRow (va_wsS RX7 254 yX7_modulo wsX7_modulo) := goodIn_app (goodIn_of _ (by decide +kernel)) ggX7_stepRow_X7_modulo
set_option maxRecDepth 20000 in
theorem ggX7_stepRow_X3_degreeOf : GoodIn wsX7_stepRow wsX3_degreeOf := goodIn_r _ [23, 24, 25, 26, 6, 27, 28, 29, 30, 31, 32, 33, 34, 35, 36, 37, 11, 38, 61, 62, 63, 64, 65, 66, 67] (by decide +kernel) (by decide +kernel)
set_option maxRecDepth 20000 in
theorem gX7_stepRow_X3_degreeOf : GoodIn wsX7_stepRow (wsV RX7 114 RX3 yX3_degreeOf wsX3_degreeOf) := goodIn_app (goodIn_of _ (by decide +kernel)) ggX7_stepRow_X3_degreeOf
set_option maxRecDepth 20000 in
theorem ggX7_stepRow_X3_addTimes : GoodIn wsX7_stepRow wsX3_addTimes := goodIn_r _ [42, 34, 35, 29, 30, 31, 6, 32, 33, 36, 43, 44, 45, 46, 47, 14, 11, 15, 16, 17, 18, 19, 61, 62, 63, 64, 65, 66, 67] (by decide +kernel) (by decide +kernel)
set_option maxRecDepth 20000 in
theorem gX7_stepRow_X3_addTimes : GoodIn wsX7_stepRow (wsV RX7 281 RX3 yX3_addTimes wsX3_addTimes) := goodIn_app (goodIn_of _ (by decide +kernel)) ggX7_stepRow_X3_addTimes
theorem dX7_stepRow_0 : decode cX7_stepRow 0 = .ok (.aload_n 0, 1) := by decide +kernel
theorem dX7_stepRow_1 : decode cX7_stepRow 1 = .ok (.getfield 13, 3) := by decide +kernel
theorem dX7_stepRow_4 : decode cX7_stepRow 4 = .ok (.iload_n 1, 1) := by decide +kernel
theorem dX7_stepRow_5 : decode cX7_stepRow 5 = .ok (.invokevirtual 82, 3) := by decide +kernel
theorem dX7_stepRow_8 : decode cX7_stepRow 8 = .ok (.ifCond .eq 40, 3) := by decide +kernel
theorem dX7_stepRow_11 : decode cX7_stepRow 11 = .ok (.aload_n 0, 1) := by decide +kernel
theorem dX7_stepRow_12 : decode cX7_stepRow 12 = .ok (.getfield 13, 3) := by decide +kernel
theorem dX7_stepRow_15 : decode cX7_stepRow 15 = .ok (.iload_n 2, 1) := by decide +kernel
theorem dX7_stepRow_16 : decode cX7_stepRow 16 = .ok (.invokevirtual 82, 3) := by decide +kernel
theorem dX7_stepRow_19 : decode cX7_stepRow 19 = .ok (.ifCond .eq 29, 3) := by decide +kernel
theorem dX7_stepRow_22 : decode cX7_stepRow 22 = .ok (.iload_n 1, 1) := by decide +kernel
theorem dX7_stepRow_23 : decode cX7_stepRow 23 = .ok (.iload_n 2, 1) := by decide +kernel
theorem dX7_stepRow_24 : decode cX7_stepRow 24 = .ok (.if_icmp .eq 24, 3) := by decide +kernel
theorem dX7_stepRow_27 : decode cX7_stepRow 27 = .ok (.iload_n 3, 1) := by decide +kernel
theorem dX7_stepRow_28 : decode cX7_stepRow 28 = .ok (.iconst 0, 1) := by decide +kernel
theorem dX7_stepRow_29 : decode cX7_stepRow 29 = .ok (.bipush 6, 2) := by decide +kernel
theorem dX7_stepRow_31 : decode cX7_stepRow 31 = .ok (.invokestatic 89, 3) := by decide +kernel
theorem dX7_stepRow_34 : decode cX7_stepRow 34 = .ok (.ifCond .eq 14, 3) := by decide +kernel
theorem dX7_stepRow_37 : decode cX7_stepRow 37 = .ok (.iload 4, 2) := by decide +kernel
theorem dX7_stepRow_39 : decode cX7_stepRow 39 = .ok (.iconst 0, 1) := by decide +kernel
theorem dX7_stepRow_40 : decode cX7_stepRow 40 = .ok (.bipush 6, 2) := by decide +kernel
theorem dX7_stepRow_42 : decode cX7_stepRow 42 = .ok (.invokestatic 89, 3) := by decide +kernel
theorem dX7_stepRow_45 : decode cX7_stepRow 45 = .ok (.ifCond .ne 6, 3) := by decide +kernel
theorem dX7_stepRow_48 : decode cX7_stepRow 48 = .ok (.bipush (-2), 2) := by decide +kernel
theorem dX7_stepRow_50 : decode cX7_stepRow 50 = .ok (.ireturn, 1) := by decide +kernel
theorem dX7_stepRow_51 : decode cX7_stepRow 51 = .ok (.iload_n 3, 1) := by decide +kernel
theorem dX7_stepRow_52 : decode cX7_stepRow 52 = .ok (.aload_n 0, 1) := by decide +kernel
theorem dX7_stepRow_53 : decode cX7_stepRow 53 = .ok (.getfield 13, 3) := by decide +kernel
theorem dX7_stepRow_56 : decode cX7_stepRow 56 = .ok (.getfield 268, 3) := by decide +kernel
theorem dX7_stepRow_59 : decode cX7_stepRow 59 = .ok (.invokestatic 254, 3) := by decide +kernel
theorem dX7_stepRow_62 : decode cX7_stepRow 62 = .ok (.istore 5, 2) := by decide +kernel
theorem dX7_stepRow_64 : decode cX7_stepRow 64 = .ok (.aload_n 0, 1) := by decide +kernel
theorem dX7_stepRow_65 : decode cX7_stepRow 65 = .ok (.getfield 13, 3) := by decide +kernel
theorem dX7_stepRow_68 : decode cX7_stepRow 68 = .ok (.iload_n 2, 1) := by decide +kernel
theorem dX7_stepRow_69 : decode cX7_stepRow 69 = .ok (.invokevirtual 114, 3) := by decide +kernel
theorem dX7_stepRow_72 : decode cX7_stepRow 72 = .ok (.istore 6, 2) := by decide +kernel
theorem dX7_stepRow_74 : decode cX7_stepRow 74 = .ok (.iload 5, 2) := by decide +kernel
theorem dX7_stepRow_76 : decode cX7_stepRow 76 = .ok (.ifCond .eq 22, 3) := by decide +kernel
theorem dX7_stepRow_79 : decode cX7_stepRow 79 = .ok (.iload 6, 2) := by decide +kernel
theorem dX7_stepRow_81 : decode cX7_stepRow 81 = .ok (.iconst (-1), 1) := by decide +kernel
theorem dX7_stepRow_82 : decode cX7_stepRow 82 = .ok (.if_icmp .eq 16, 3) := by decide +kernel
theorem dX7_stepRow_85 : decode cX7_stepRow 85 = .ok (.iload 6, 2) := by decide +kernel
theorem dX7_stepRow_87 : decode cX7_stepRow 87 = .ok (.iload 4, 2) := by decide +kernel
theorem dX7_stepRow_89 : decode cX7_stepRow 89 = .ok (.iadd, 1) := by decide +kernel
theorem dX7_stepRow_90 : decode cX7_stepRow 90 = .ok (.bipush 6, 2) := by decide +kernel
theorem dX7_stepRow_92 : decode cX7_stepRow 92 = .ok (.if_icmp .le 6, 3) := by decide +kernel
theorem dX7_stepRow_95 : decode cX7_stepRow 95 = .ok (.bipush (-4), 2) := by decide +kernel
theorem dX7_stepRow_97 : decode cX7_stepRow 97 = .ok (.ireturn, 1) := by decide +kernel
theorem dX7_stepRow_98 : decode cX7_stepRow 98 = .ok (.aload_n 0, 1) := by decide +kernel
theorem dX7_stepRow_99 : decode cX7_stepRow 99 = .ok (.getfield 13, 3) := by decide +kernel
theorem dX7_stepRow_102 : decode cX7_stepRow 102 = .ok (.iload_n 1, 1) := by decide +kernel
theorem dX7_stepRow_103 : decode cX7_stepRow 103 = .ok (.aload_n 0, 1) := by decide +kernel
theorem dX7_stepRow_104 : decode cX7_stepRow 104 = .ok (.getfield 13, 3) := by decide +kernel
theorem dX7_stepRow_107 : decode cX7_stepRow 107 = .ok (.iload_n 2, 1) := by decide +kernel
theorem dX7_stepRow_108 : decode cX7_stepRow 108 = .ok (.iload 5, 2) := by decide +kernel
theorem dX7_stepRow_110 : decode cX7_stepRow 110 = .ok (.iload 4, 2) := by decide +kernel
theorem dX7_stepRow_112 : decode cX7_stepRow 112 = .ok (.invokevirtual 281, 3) := by decide +kernel
theorem dX7_stepRow_115 : decode cX7_stepRow 115 = .ok (.aload_n 0, 1) := by decide +kernel
theorem dX7_stepRow_116 : decode cX7_stepRow 116 = .ok (.getfield 13, 3) := by decide +kernel
theorem dX7_stepRow_119 : decode cX7_stepRow 119 = .ok (.iload_n 1, 1) := by decide +kernel
theorem dX7_stepRow_120 : decode cX7_stepRow 120 = .ok (.invokevirtual 114, 3) := by decide +kernel
theorem dX7_stepRow_123 : decode cX7_stepRow 123 = .ok (.ireturn, 1) := by decide +kernel
set_option maxRecDepth 20000 in
theorem ggX7_makeMonic_X3_hasRow : GoodIn wsX7_makeMonic wsX3_hasRow := goodIn_r _ [7, 8, 63, 64, 65, 66, 67, 68, 69] (by decide +kernel) (by decide +kernel)
set_option maxRecDepth 20000 in
theorem gX7_makeMonic_X3_hasRow : GoodIn wsX7_makeMonic (wsV RX7 82 RX3 yX3_hasRow wsX3_hasRow) := goodIn_app (goodIn_of _ (by decide +kernel)) ggX7_makeMonic_X3_hasRow
set_option maxRecDepth 20000 in
theorem ggX7_makeMonic_X3_leadOf : GoodIn wsX7_makeMonic wsX3_leadOf := goodIn_r _ [12, 13, 14, 15, 6, 16, 17, 18, 19, 20, 21, 22, 23, 24, 25, 26, 27, 28, 29, 30, 63, 64, 65, 66, 67, 68, 69] (by decide +kernel) (by decide +kernel)
set_option maxRecDepth 20000 in
theorem gX7_makeMonic_X3_leadOf : GoodIn wsX7_makeMonic (wsV RX7 120 RX3 yX3_leadOf wsX3_leadOf) := goodIn_app (goodIn_of _ (by decide +kernel)) ggX7_makeMonic_X3_leadOf
set_option maxRecDepth 20000 in
theorem ggX7_makeMonic_X7_inverse : GoodIn wsX7_makeMonic wsX7_inverse := goodIn_r _ [33, 34, 35, 27, 36, 37, 38, 39, 40] (by decide +kernel) (by decide +kernel)
set_option maxRecDepth 20000 in
theorem gX7_makeMonic_X7_inverse : GoodIn wsX7_makeMonic (va_wsS RX7 285 yX7_inverse wsX7_inverse) := goodIn_app (goodIn_of _ (by decide +kernel)) ggX7_makeMonic_X7_inverse
set_option maxRecDepth 20000 in
theorem ggX7_makeMonic_X3_scale : GoodIn wsX7_makeMonic wsX3_scale := goodIn_r _ [44, 23, 24, 18, 19, 20, 6, 21, 22, 25, 45, 46, 47, 48, 49, 35, 27, 36, 37, 38, 39, 40, 63, 64, 65, 66, 67, 68, 69] (by decide +kernel) (by decide +kernel)
set_option maxRecDepth 20000 in
theorem gX7_makeMonic_X3_scale : GoodIn wsX7_makeMonic (wsV RX7 288 RX3 yX3_scale wsX3_scale) := goodIn_app (goodIn_of _ (by decide +kernel)) ggX7_makeMonic_X3_scale
theorem dX7_makeMonic_0 : decode cX7_makeMonic 0 = .ok (.aload_n 0, 1) := by decide +kernel
theorem dX7_makeMonic_1 : decode cX7_makeMonic 1 = .ok (.getfield 13, 3) := by decide +kernel
theorem dX7_makeMonic_4 : decode cX7_makeMonic 4 = .ok (.iload_n 1, 1) := by decide +kernel
theorem dX7_makeMonic_5 : decode cX7_makeMonic 5 = .ok (.invokevirtual 82, 3) := by decide +kernel
theorem dX7_makeMonic_8 : decode cX7_makeMonic 8 = .ok (.ifCond .ne 6, 3) := by decide +kernel
theorem dX7_makeMonic_11 : decode cX7_makeMonic 11 = .ok (.bipush (-2), 2) := by decide +kernel
theorem dX7_makeMonic_13 : decode cX7_makeMonic 13 = .ok (.ireturn, 1) := by decide +kernel
theorem dX7_makeMonic_14 : decode cX7_makeMonic 14 = .ok (.aload_n 0, 1) := by decide +kernel
theorem dX7_makeMonic_15 : decode cX7_makeMonic 15 = .ok (.getfield 13, 3) := by decide +kernel
theorem dX7_makeMonic_18 : decode cX7_makeMonic 18 = .ok (.iload_n 1, 1) := by decide +kernel
theorem dX7_makeMonic_19 : decode cX7_makeMonic 19 = .ok (.invokevirtual 120, 3) := by decide +kernel
theorem dX7_makeMonic_22 : decode cX7_makeMonic 22 = .ok (.istore_n 2, 1) := by decide +kernel
theorem dX7_makeMonic_23 : decode cX7_makeMonic 23 = .ok (.iload_n 2, 1) := by decide +kernel
theorem dX7_makeMonic_24 : decode cX7_makeMonic 24 = .ok (.ifCond .ne 6, 3) := by decide +kernel
theorem dX7_makeMonic_27 : decode cX7_makeMonic 27 = .ok (.bipush (-3), 2) := by decide +kernel
theorem dX7_makeMonic_29 : decode cX7_makeMonic 29 = .ok (.ireturn, 1) := by decide +kernel
theorem dX7_makeMonic_30 : decode cX7_makeMonic 30 = .ok (.aload_n 0, 1) := by decide +kernel
theorem dX7_makeMonic_31 : decode cX7_makeMonic 31 = .ok (.getfield 13, 3) := by decide +kernel
theorem dX7_makeMonic_34 : decode cX7_makeMonic 34 = .ok (.iload_n 1, 1) := by decide +kernel
theorem dX7_makeMonic_35 : decode cX7_makeMonic 35 = .ok (.iload_n 2, 1) := by decide +kernel
theorem dX7_makeMonic_36 : decode cX7_makeMonic 36 = .ok (.aload_n 0, 1) := by decide +kernel
theorem dX7_makeMonic_37 : decode cX7_makeMonic 37 = .ok (.getfield 13, 3) := by decide +kernel
theorem dX7_makeMonic_40 : decode cX7_makeMonic 40 = .ok (.getfield 268, 3) := by decide +kernel
theorem dX7_makeMonic_43 : decode cX7_makeMonic 43 = .ok (.invokestatic 285, 3) := by decide +kernel
theorem dX7_makeMonic_46 : decode cX7_makeMonic 46 = .ok (.invokevirtual 288, 3) := by decide +kernel
theorem dX7_makeMonic_49 : decode cX7_makeMonic 49 = .ok (.iload_n 2, 1) := by decide +kernel
theorem dX7_makeMonic_50 : decode cX7_makeMonic 50 = .ok (.ireturn, 1) := by decide +kernel
set_option maxRecDepth 20000 in
theorem ggX7_addScriptRow_X3_append : GoodIn wsX7_addScriptRow wsX3_append := goodIn_r _ [8, 9, 10, 11, 12, 13, 7, 14, 15, 16, 17, 18, 19, 20, 21, 22, 23, 24, 25, 26, 27, 28, 29, 30, 31, 32, 33, 60, 61, 62, 63, 64, 65, 66] (by decide +kernel) (by decide +kernel)
set_option maxRecDepth 20000 in
theorem gX7_addScriptRow_X3_append : GoodIn wsX7_addScriptRow (wsV RX7 78 RX3 yX3_append wsX3_append) := goodIn_app (goodIn_of _ (by decide +kernel)) ggX7_addScriptRow_X3_append
set_option maxRecDepth 20000 in
theorem ggX7_addScriptRow_X4_entryAt : GoodIn wsX7_addScriptRow wsX4_entryAt := goodIn_r _ [38, 39, 40, 41, 42, 37, 43, 44, 28, 45, 67, 68, 69, 70, 71, 72, 73] (by decide +kernel) (by decide +kernel)
set_option maxRecDepth 20000 in
theorem gX7_addScriptRow_X4_entryAt : GoodIn wsX7_addScriptRow (wsV RX7 291 RX4 yX4_entryAt wsX4_entryAt) := goodIn_app (goodIn_of _ (by decide +kernel)) ggX7_addScriptRow_X4_entryAt
set_option maxRecDepth 20000 in
theorem ggX7_addScriptRow_X3_put : GoodIn wsX7_addScriptRow wsX3_put := goodIn_r _ [25, 10, 15, 16, 21, 26, 27, 28, 29, 30, 31, 32, 33, 60, 61, 62, 63, 64, 65, 66] (by decide +kernel) (by decide +kernel)
set_option maxRecDepth 20000 in
theorem gX7_addScriptRow_X3_put : GoodIn wsX7_addScriptRow (wsV RX7 100 RX3 yX3_put wsX3_put) := goodIn_app (goodIn_of _ (by decide +kernel)) ggX7_addScriptRow_X3_put
theorem dX7_addScriptRow_0 : decode cX7_addScriptRow 0 = .ok (.aload_n 0, 1) := by decide +kernel
theorem dX7_addScriptRow_1 : decode cX7_addScriptRow 1 = .ok (.getfield 13, 3) := by decide +kernel
theorem dX7_addScriptRow_4 : decode cX7_addScriptRow 4 = .ok (.invokevirtual 78, 3) := by decide +kernel
theorem dX7_addScriptRow_7 : decode cX7_addScriptRow 7 = .ok (.istore_n 1, 1) := by decide +kernel
theorem dX7_addScriptRow_8 : decode cX7_addScriptRow 8 = .ok (.iload_n 1, 1) := by decide +kernel
theorem dX7_addScriptRow_9 : decode cX7_addScriptRow 9 = .ok (.bipush (-4), 2) := by decide +kernel
theorem dX7_addScriptRow_11 : decode cX7_addScriptRow 11 = .ok (.if_icmp .ne 6, 3) := by decide +kernel
theorem dX7_addScriptRow_14 : decode cX7_addScriptRow 14 = .ok (.bipush (-4), 2) := by decide +kernel
theorem dX7_addScriptRow_16 : decode cX7_addScriptRow 16 = .ok (.ireturn, 1) := by decide +kernel
theorem dX7_addScriptRow_17 : decode cX7_addScriptRow 17 = .ok (.iconst 0, 1) := by decide +kernel
theorem dX7_addScriptRow_18 : decode cX7_addScriptRow 18 = .ok (.istore_n 2, 1) := by decide +kernel
theorem dX7_addScriptRow_19 : decode cX7_addScriptRow 19 = .ok (.iload_n 2, 1) := by decide +kernel
theorem dX7_addScriptRow_20 : decode cX7_addScriptRow 20 = .ok (.aload_n 0, 1) := by decide +kernel
theorem dX7_addScriptRow_21 : decode cX7_addScriptRow 21 = .ok (.getfield 13, 3) := by decide +kernel
theorem dX7_addScriptRow_24 : decode cX7_addScriptRow 24 = .ok (.getfield 184, 3) := by decide +kernel
theorem dX7_addScriptRow_27 : decode cX7_addScriptRow 27 = .ok (.if_icmp .ge 42, 3) := by decide +kernel
theorem dX7_addScriptRow_30 : decode cX7_addScriptRow 30 = .ok (.iconst 0, 1) := by decide +kernel
theorem dX7_addScriptRow_31 : decode cX7_addScriptRow 31 = .ok (.istore_n 3, 1) := by decide +kernel
theorem dX7_addScriptRow_32 : decode cX7_addScriptRow 32 = .ok (.iload_n 3, 1) := by decide +kernel
theorem dX7_addScriptRow_33 : decode cX7_addScriptRow 33 = .ok (.bipush 6, 2) := by decide +kernel
theorem dX7_addScriptRow_35 : decode cX7_addScriptRow 35 = .ok (.if_icmp .gt 28, 3) := by decide +kernel
theorem dX7_addScriptRow_38 : decode cX7_addScriptRow 38 = .ok (.aload_n 0, 1) := by decide +kernel
theorem dX7_addScriptRow_39 : decode cX7_addScriptRow 39 = .ok (.getfield 13, 3) := by decide +kernel
theorem dX7_addScriptRow_42 : decode cX7_addScriptRow 42 = .ok (.iload_n 1, 1) := by decide +kernel
theorem dX7_addScriptRow_43 : decode cX7_addScriptRow 43 = .ok (.iload_n 2, 1) := by decide +kernel
theorem dX7_addScriptRow_44 : decode cX7_addScriptRow 44 = .ok (.iload_n 3, 1) := by decide +kernel
theorem dX7_addScriptRow_45 : decode cX7_addScriptRow 45 = .ok (.aload_n 0, 1) := by decide +kernel
theorem dX7_addScriptRow_46 : decode cX7_addScriptRow 46 = .ok (.getfield 54, 3) := by decide +kernel
theorem dX7_addScriptRow_49 : decode cX7_addScriptRow 49 = .ok (.iload_n 2, 1) := by decide +kernel
theorem dX7_addScriptRow_50 : decode cX7_addScriptRow 50 = .ok (.iload_n 3, 1) := by decide +kernel
theorem dX7_addScriptRow_51 : decode cX7_addScriptRow 51 = .ok (.invokevirtual 291, 3) := by decide +kernel
theorem dX7_addScriptRow_54 : decode cX7_addScriptRow 54 = .ok (.invokevirtual 100, 3) := by decide +kernel
theorem dX7_addScriptRow_57 : decode cX7_addScriptRow 57 = .ok (.iinc 3 1, 3) := by decide +kernel
theorem dX7_addScriptRow_60 : decode cX7_addScriptRow 60 = .ok (.goto (-28), 3) := by decide +kernel
theorem dX7_addScriptRow_63 : decode cX7_addScriptRow 63 = .ok (.iinc 2 1, 3) := by decide +kernel
theorem dX7_addScriptRow_66 : decode cX7_addScriptRow 66 = .ok (.goto (-47), 3) := by decide +kernel
theorem dX7_addScriptRow_69 : decode cX7_addScriptRow 69 = .ok (.iload_n 1, 1) := by decide +kernel
theorem dX7_addScriptRow_70 : decode cX7_addScriptRow 70 = .ok (.ireturn, 1) := by decide +kernel
set_option maxRecDepth 20000 in
theorem ggX7_carryOut_X4_digitAt : GoodIn wsX7_carryOut wsX4_digitAt := goodIn_r _ [7, 8, 139, 140, 141, 142, 143, 144, 145] (by decide +kernel) (by decide +kernel)
set_option maxRecDepth 20000 in
theorem gX7_carryOut_X4_digitAt : GoodIn wsX7_carryOut (wsV RX7 294 RX4 yX4_digitAt wsX4_digitAt) := goodIn_app (goodIn_of _ (by decide +kernel)) ggX7_carryOut_X4_digitAt
set_option maxRecDepth 20000 in
theorem ggX7_carryOut_X7_changePrime : GoodIn wsX7_carryOut wsX7_changePrime := goodIn_r _ [13, 14, 15, 16, 17, 18, 12, 19, 20, 21, 22, 23, 24, 25, 26, 27, 126, 127, 128, 129, 130, 131, 132, 133, 134, 135, 136, 137, 138, 146, 147, 148, 149, 150, 151, 152] (by decide +kernel) (by decide +kernel)
set_option maxRecDepth 20000 in
theorem gX7_carryOut_X7_changePrime : GoodIn wsX7_carryOut (wsV RX7 68 RX7 yX7_changePrime wsX7_changePrime) := goodIn_app (goodIn_of _ (by decide +kernel)) ggX7_carryOut_X7_changePrime
set_option maxRecDepth 20000 in
theorem ggX7_carryOut_X7_changeColumns : GoodIn wsX7_carryOut wsX7_changeColumns := goodIn_r _ [31, 14, 16, 15, 32, 33, 12, 34, 20, 21, 22, 23, 24, 25, 26, 27, 126, 127, 128, 129, 130, 131, 132, 133, 134, 135, 136, 137, 138, 146, 147, 148, 149, 150, 151, 152] (by decide +kernel) (by decide +kernel)
set_option maxRecDepth 20000 in
theorem gX7_carryOut_X7_changeColumns : GoodIn wsX7_carryOut (wsV RX7 75 RX7 yX7_changeColumns wsX7_changeColumns) := goodIn_app (goodIn_of _ (by decide +kernel)) ggX7_carryOut_X7_changeColumns
set_option maxRecDepth 20000 in
theorem ggX7_carryOut_X7_addScriptRow : GoodIn wsX7_carryOut wsX7_addScriptRow := goodIn_r _ [38, 14, 16, 1, 39, 40, 41, 23, 42, 27, 43, 44, 45, 46, 47, 48, 49, 50, 51, 52, 53, 54, 55, 56, 57, 58, 25, 59, 12, 60, 61, 62, 63, 64, 65, 66, 67, 6, 68, 69, 70, 71, 72, 73, 33, 34, 74, 126, 127, 128, 129, 130, 131, 132, 133, 134, 135, 136, 137, 138, 146, 147, 148, 149, 150, 151, 152, 139, 140, 141, 142, 143, 144, 145] (by decide +kernel) (by decide +kernel)
set_option maxRecDepth 20000 in
theorem gX7_carryOut_X7_addScriptRow : GoodIn wsX7_carryOut (wsV RX7 300 RX7 yX7_addScriptRow wsX7_addScriptRow) := goodIn_app (goodIn_of _ (by decide +kernel)) ggX7_carryOut_X7_addScriptRow
set_option maxRecDepth 20000 in
theorem ggX7_carryOut_X7_dropRow : GoodIn wsX7_carryOut wsX7_dropRow := goodIn_r _ [78, 14, 79, 80, 81, 82, 23, 83, 27, 84, 85, 86, 87, 48, 49, 54, 88, 89, 90, 91, 92, 126, 127, 128, 129, 130, 131, 132, 133, 134, 135, 136, 137, 138, 146, 147, 148, 149, 150, 151, 152] (by decide +kernel) (by decide +kernel)
set_option maxRecDepth 20000 in
theorem gX7_carryOut_X7_dropRow : GoodIn wsX7_carryOut (wsV RX7 104 RX7 yX7_dropRow wsX7_dropRow) := goodIn_app (goodIn_of _ (by decide +kernel)) ggX7_carryOut_X7_dropRow
set_option maxRecDepth 20000 in
theorem ggX7_carryOut_X7_stepRow : GoodIn wsX7_carryOut wsX7_stepRow := goodIn_r _ [96, 14, 15, 80, 81, 82, 23, 83, 27, 32, 33, 12, 34, 97, 59, 60, 61, 62, 63, 64, 98, 99, 100, 101, 102, 103, 104, 105, 26, 50, 51, 52, 53, 43, 48, 49, 54, 106, 107, 108, 109, 110, 111, 55, 56, 57, 58, 25, 126, 127, 128, 129, 130, 131, 132, 133, 134, 135, 136, 137, 138, 146, 147, 148, 149, 150, 151, 152] (by decide +kernel) (by decide +kernel)
set_option maxRecDepth 20000 in
theorem gX7_carryOut_X7_stepRow : GoodIn wsX7_carryOut (wsV RX7 107 RX7 yX7_stepRow wsX7_stepRow) := goodIn_app (goodIn_of _ (by decide +kernel)) ggX7_carryOut_X7_stepRow
set_option maxRecDepth 20000 in
theorem ggX7_carryOut_X7_makeMonic : GoodIn wsX7_carryOut wsX7_makeMonic := goodIn_r _ [115, 14, 15, 80, 81, 82, 23, 83, 27, 116, 117, 118, 119, 102, 103, 104, 105, 26, 50, 51, 52, 53, 43, 48, 49, 54, 120, 12, 121, 106, 107, 122, 123, 124, 97, 59, 60, 61, 62, 63, 64, 125, 45, 46, 47, 55, 56, 57, 58, 25, 126, 127, 128, 129, 130, 131, 132, 133, 134, 135, 136, 137, 138, 146, 147, 148, 149, 150, 151, 152] (by decide +kernel) (by decide +kernel)
set_option maxRecDepth 20000 in
theorem gX7_carryOut_X7_makeMonic : GoodIn wsX7_carryOut (wsV RX7 111 RX7 yX7_makeMonic wsX7_makeMonic) := goodIn_app (goodIn_of _ (by decide +kernel)) ggX7_carryOut_X7_makeMonic
theorem dX7_carryOut_0 : decode cX7_carryOut 0 = .ok (.aload_n 0, 1) := by decide +kernel
theorem dX7_carryOut_1 : decode cX7_carryOut 1 = .ok (.getfield 54, 3) := by decide +kernel
theorem dX7_carryOut_4 : decode cX7_carryOut 4 = .ok (.iconst 0, 1) := by decide +kernel
theorem dX7_carryOut_5 : decode cX7_carryOut 5 = .ok (.invokevirtual 294, 3) := by decide +kernel
theorem dX7_carryOut_8 : decode cX7_carryOut 8 = .ok (.istore_n 1, 1) := by decide +kernel
theorem dX7_carryOut_9 : decode cX7_carryOut 9 = .ok (.aload_n 0, 1) := by decide +kernel
theorem dX7_carryOut_10 : decode cX7_carryOut 10 = .ok (.getfield 54, 3) := by decide +kernel
theorem dX7_carryOut_13 : decode cX7_carryOut 13 = .ok (.getfield 297, 3) := by decide +kernel
theorem dX7_carryOut_16 : decode cX7_carryOut 16 = .ok (.lookupswitch 105 #[(99, 58), (112, 52), (114, 64), (115, 75), (120, 69)], 52) := by decide +kernel
theorem dX7_carryOut_68 : decode cX7_carryOut 68 = .ok (.aload_n 0, 1) := by decide +kernel
theorem dX7_carryOut_69 : decode cX7_carryOut 69 = .ok (.iload_n 1, 1) := by decide +kernel
theorem dX7_carryOut_70 : decode cX7_carryOut 70 = .ok (.invokevirtual 68, 3) := by decide +kernel
theorem dX7_carryOut_73 : decode cX7_carryOut 73 = .ok (.ireturn, 1) := by decide +kernel
theorem dX7_carryOut_74 : decode cX7_carryOut 74 = .ok (.aload_n 0, 1) := by decide +kernel
theorem dX7_carryOut_75 : decode cX7_carryOut 75 = .ok (.iload_n 1, 1) := by decide +kernel
theorem dX7_carryOut_76 : decode cX7_carryOut 76 = .ok (.invokevirtual 75, 3) := by decide +kernel
theorem dX7_carryOut_79 : decode cX7_carryOut 79 = .ok (.ireturn, 1) := by decide +kernel
theorem dX7_carryOut_80 : decode cX7_carryOut 80 = .ok (.aload_n 0, 1) := by decide +kernel
theorem dX7_carryOut_81 : decode cX7_carryOut 81 = .ok (.invokevirtual 300, 3) := by decide +kernel
theorem dX7_carryOut_84 : decode cX7_carryOut 84 = .ok (.ireturn, 1) := by decide +kernel
theorem dX7_carryOut_85 : decode cX7_carryOut 85 = .ok (.aload_n 0, 1) := by decide +kernel
theorem dX7_carryOut_86 : decode cX7_carryOut 86 = .ok (.iload_n 1, 1) := by decide +kernel
theorem dX7_carryOut_87 : decode cX7_carryOut 87 = .ok (.invokevirtual 104, 3) := by decide +kernel
theorem dX7_carryOut_90 : decode cX7_carryOut 90 = .ok (.ireturn, 1) := by decide +kernel
theorem dX7_carryOut_91 : decode cX7_carryOut 91 = .ok (.aload_n 0, 1) := by decide +kernel
theorem dX7_carryOut_92 : decode cX7_carryOut 92 = .ok (.iload_n 1, 1) := by decide +kernel
theorem dX7_carryOut_93 : decode cX7_carryOut 93 = .ok (.aload_n 0, 1) := by decide +kernel
theorem dX7_carryOut_94 : decode cX7_carryOut 94 = .ok (.getfield 54, 3) := by decide +kernel
theorem dX7_carryOut_97 : decode cX7_carryOut 97 = .ok (.iconst 1, 1) := by decide +kernel
theorem dX7_carryOut_98 : decode cX7_carryOut 98 = .ok (.invokevirtual 294, 3) := by decide +kernel
theorem dX7_carryOut_101 : decode cX7_carryOut 101 = .ok (.aload_n 0, 1) := by decide +kernel
theorem dX7_carryOut_102 : decode cX7_carryOut 102 = .ok (.getfield 54, 3) := by decide +kernel
theorem dX7_carryOut_105 : decode cX7_carryOut 105 = .ok (.iconst 2, 1) := by decide +kernel
theorem dX7_carryOut_106 : decode cX7_carryOut 106 = .ok (.invokevirtual 294, 3) := by decide +kernel
theorem dX7_carryOut_109 : decode cX7_carryOut 109 = .ok (.aload_n 0, 1) := by decide +kernel
theorem dX7_carryOut_110 : decode cX7_carryOut 110 = .ok (.getfield 54, 3) := by decide +kernel
theorem dX7_carryOut_113 : decode cX7_carryOut 113 = .ok (.iconst 3, 1) := by decide +kernel
theorem dX7_carryOut_114 : decode cX7_carryOut 114 = .ok (.invokevirtual 294, 3) := by decide +kernel
theorem dX7_carryOut_117 : decode cX7_carryOut 117 = .ok (.invokevirtual 107, 3) := by decide +kernel
theorem dX7_carryOut_120 : decode cX7_carryOut 120 = .ok (.ireturn, 1) := by decide +kernel
theorem dX7_carryOut_121 : decode cX7_carryOut 121 = .ok (.aload_n 0, 1) := by decide +kernel
theorem dX7_carryOut_122 : decode cX7_carryOut 122 = .ok (.iload_n 1, 1) := by decide +kernel
theorem dX7_carryOut_123 : decode cX7_carryOut 123 = .ok (.invokevirtual 111, 3) := by decide +kernel
theorem dX7_carryOut_126 : decode cX7_carryOut 126 = .ok (.ireturn, 1) := by decide +kernel
