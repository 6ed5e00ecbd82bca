def wsL_law : List Cond := wsL_law0 ++ (vx_atS RX4 93 "java/lang/IndexOutOfBoundsException" ["java/lang/RuntimeException", "java/lang/Exception"]).filter goodWord ++ (vx_atS RX4 100 "java/lang/IllegalArgumentException" ["java/lang/RuntimeException", "java/lang/Exception"]).filter goodWord ++ (vx_atS RX4 134 "java/lang/IllegalStateException" ["java/lang/RuntimeException", "java/lang/Exception"]).filter goodWord ++ (vx_atS RX4 166 "java/lang/ArithmeticException" ["java/lang/RuntimeException", "java/lang/Exception"]).filter goodWord
set_option maxRecDepth 20000 in
theorem ggX0_init_X0_fillPowers : GoodIn wsX0_init wsX0_fillPowers := goodIn_r _ [19, 4, 8, 20, 21, 22, 23, 28, 29, 30, 31, 32, 33, 34, 35, 36, 37] (by decide +kernel) (by decide +kernel)
set_option maxRecDepth 20000 in
theorem gX0_init_X0_fillPowers : GoodIn wsX0_init (wsV RX0 43 RX0 yX0_fillPowers wsX0_fillPowers) := goodIn_app (goodIn_of _ (by decide +kernel)) ggX0_init_X0_fillPowers
set_option maxRecDepth 20000 in
theorem ggX0_init_X0_fillGenerator : GoodIn wsX0_init wsX0_fillGenerator := goodIn_r _ [27, 7, 5, 20, 21, 22, 23, 28, 29, 30, 31, 32, 33, 34, 35, 36, 37] (by decide +kernel) (by decide +kernel)
set_option maxRecDepth 20000 in
theorem gX0_init_X0_fillGenerator : GoodIn wsX0_init (wsV RX0 46 RX0 yX0_fillGenerator wsX0_fillGenerator) := goodIn_app (goodIn_of _ (by decide +kernel)) ggX0_init_X0_fillGenerator
theorem dX0_init_0 : decode cX0_init 0 = .ok (.aload_n 0, 1) := by decide +kernel
theorem dX0_init_1 : decode cX0_init 1 = .ok (.invokespecial 3, 3) := by decide +kernel
theorem dX0_init_4 : decode cX0_init 4 = .ok (.aload_n 0, 1) := by decide +kernel
theorem dX0_init_5 : decode cX0_init 5 = .ok (.iload_n 1, 1) := by decide +kernel
theorem dX0_init_6 : decode cX0_init 6 = .ok (.putfield 9, 3) := by decide +kernel
theorem dX0_init_9 : decode cX0_init 9 = .ok (.aload_n 0, 1) := by decide +kernel
theorem dX0_init_10 : decode cX0_init 10 = .ok (.iload_n 2, 1) := by decide +kernel
theorem dX0_init_11 : decode cX0_init 11 = .ok (.putfield 15, 3) := by decide +kernel
theorem dX0_init_14 : decode cX0_init 14 = .ok (.aload_n 0, 1) := by decide +kernel
theorem dX0_init_15 : decode cX0_init 15 = .ok (.iload_n 2, 1) := by decide +kernel
theorem dX0_init_16 : decode cX0_init 16 = .ok (.iconst 1, 1) := by decide +kernel
theorem dX0_init_17 : decode cX0_init 17 = .ok (.iadd, 1) := by decide +kernel
theorem dX0_init_18 : decode cX0_init 18 = .ok (.newarray .int, 2) := by decide +kernel
theorem dX0_init_20 : decode cX0_init 20 = .ok (.putfield 18, 3) := by decide +kernel
theorem dX0_init_23 : decode cX0_init 23 = .ok (.aload_n 0, 1) := by decide +kernel
theorem dX0_init_24 : decode cX0_init 24 = .ok (.iload_n 1, 1) := by decide +kernel
theorem dX0_init_25 : decode cX0_init 25 = .ok (.newarray .int, 2) := by decide +kernel
theorem dX0_init_27 : decode cX0_init 27 = .ok (.putfield 22, 3) := by decide +kernel
theorem dX0_init_30 : decode cX0_init 30 = .ok (.aload_n 0, 1) := by decide +kernel
theorem dX0_init_31 : decode cX0_init 31 = .ok (.iload_n 2, 1) := by decide +kernel
theorem dX0_init_32 : decode cX0_init 32 = .ok (.newarray .int, 2) := by decide +kernel
theorem dX0_init_34 : decode cX0_init 34 = .ok (.putfield 25, 3) := by decide +kernel
theorem dX0_init_37 : decode cX0_init 37 = .ok (.aload_n 0, 1) := by decide +kernel
theorem dX0_init_38 : decode cX0_init 38 = .ok (.iload_n 2, 1) := by decide +kernel
theorem dX0_init_39 : decode cX0_init 39 = .ok (.iconst 1, 1) := by decide +kernel
theorem dX0_init_40 : decode cX0_init 40 = .ok (.iadd, 1) := by decide +kernel
theorem dX0_init_41 : decode cX0_init 41 = .ok (.newarray .int, 2) := by decide +kernel
theorem dX0_init_43 : decode cX0_init 43 = .ok (.putfield 28, 3) := by decide +kernel
theorem dX0_init_46 : decode cX0_init 46 = .ok (.aload_n 0, 1) := by decide +kernel
theorem dX0_init_47 : decode cX0_init 47 = .ok (.iload_n 2, 1) := by decide +kernel
theorem dX0_init_48 : decode cX0_init 48 = .ok (.iconst 1, 1) := by decide +kernel
theorem dX0_init_49 : decode cX0_init 49 = .ok (.iadd, 1) := by decide +kernel
theorem dX0_init_50 : decode cX0_init 50 = .ok (.newarray .int, 2) := by decide +kernel
theorem dX0_init_52 : decode cX0_init 52 = .ok (.putfield 31, 3) := by decide +kernel
theorem dX0_init_55 : decode cX0_init 55 = .ok (.aload_n 0, 1) := by decide +kernel
theorem dX0_init_56 : decode cX0_init 56 = .ok (.iload_n 2, 1) := by decide +kernel
theorem dX0_init_57 : decode cX0_init 57 = .ok (.iconst 1, 1) := by decide +kernel
theorem dX0_init_58 : decode cX0_init 58 = .ok (.iadd, 1) := by decide +kernel
theorem dX0_init_59 : decode cX0_init 59 = .ok (.newarray .int, 2) := by decide +kernel
theorem dX0_init_61 : decode cX0_init 61 = .ok (.putfield 34, 3) := by decide +kernel
theorem dX0_init_64 : decode cX0_init 64 = .ok (.aload_n 0, 1) := by decide +kernel
theorem dX0_init_65 : decode cX0_init 65 = .ok (.iload_n 2, 1) := by decide +kernel
theorem dX0_init_66 : decode cX0_init 66 = .ok (.newarray .int, 2) := by decide +kernel
theorem dX0_init_68 : decode cX0_init 68 = .ok (.putfield 37, 3) := by decide +kernel
theorem dX0_init_71 : decode cX0_init 71 = .ok (.aload_n 0, 1) := by decide +kernel
theorem dX0_init_72 : decode cX0_init 72 = .ok (.iload_n 2, 1) := by decide +kernel
theorem dX0_init_73 : decode cX0_init 73 = .ok (.newarray .int, 2) := by decide +kernel
theorem dX0_init_75 : decode cX0_init 75 = .ok (.putfield 40, 3) := by decide +kernel
theorem dX0_init_78 : decode cX0_init 78 = .ok (.aload_n 0, 1) := by decide +kernel
theorem dX0_init_79 : decode cX0_init 79 = .ok (.invokevirtual 43, 3) := by decide +kernel
theorem dX0_init_82 : decode cX0_init 82 = .ok (.aload_n 0, 1) := by decide +kernel
theorem dX0_init_83 : decode cX0_init 83 = .ok (.invokevirtual 46, 3) := by decide +kernel
theorem dX0_init_86 : decode cX0_init 86 = .ok (.return_, 1) := by decide +kernel
set_option maxRecDepth 20000 in
theorem ggX0_fillPowers_X1_product : GoodIn wsX0_fillPowers wsX1_product := goodIn_r _ [6] (by decide +kernel) (by decide +kernel)
set_option maxRecDepth 20000 in
theorem gX0_fillPowers_X1_product : GoodIn wsX0_fillPowers (va_wsS RX0 51 yX1_product wsX1_product) := goodIn_app (goodIn_of _ (by decide +kernel)) ggX0_fillPowers_X1_product
theorem dX0_fillPowers_0 : decode cX0_fillPowers 0 = .ok (.iconst 1, 1) := by decide +kernel
theorem dX0_fillPowers_1 : decode cX0_fillPowers 1 = .ok (.istore_n 1, 1) := by decide +kernel
theorem dX0_fillPowers_2 : decode cX0_fillPowers 2 = .ok (.aload_n 0, 1) := by decide +kernel
theorem dX0_fillPowers_3 : decode cX0_fillPowers 3 = .ok (.getfield 9, 3) := by decide +kernel
theorem dX0_fillPowers_6 : decode cX0_fillPowers 6 = .ok (.iconst 1, 1) := by decide +kernel
theorem dX0_fillPowers_7 : decode cX0_fillPowers 7 = .ok (.isub, 1) := by decide +kernel
theorem dX0_fillPowers_8 : decode cX0_fillPowers 8 = .ok (.istore_n 2, 1) := by decide +kernel
theorem dX0_fillPowers_9 : decode cX0_fillPowers 9 = .ok (.iload_n 2, 1) := by decide +kernel
theorem dX0_fillPowers_10 : decode cX0_fillPowers 10 = .ok (.ifCond .lt 22, 3) := by decide +kernel
theorem dX0_fillPowers_13 : decode cX0_fillPowers 13 = .ok (.aload_n 0, 1) := by decide +kernel
theorem dX0_fillPowers_14 : decode cX0_fillPowers 14 = .ok (.getfield 22, 3) := by decide +kernel
theorem dX0_fillPowers_17 : decode cX0_fillPowers 17 = .ok (.iload_n 2, 1) := by decide +kernel
theorem dX0_fillPowers_18 : decode cX0_fillPowers 18 = .ok (.iload_n 1, 1) := by decide +kernel
theorem dX0_fillPowers_19 : decode cX0_fillPowers 19 = .ok (.iastore, 1) := by decide +kernel
theorem dX0_fillPowers_20 : decode cX0_fillPowers 20 = .ok (.iload_n 1, 1) := by decide +kernel
theorem dX0_fillPowers_21 : decode cX0_fillPowers 21 = .ok (.iconst 2, 1) := by decide +kernel
theorem dX0_fillPowers_22 : decode cX0_fillPowers 22 = .ok (.invokestatic 51, 3) := by decide +kernel
theorem dX0_fillPowers_25 : decode cX0_fillPowers 25 = .ok (.istore_n 1, 1) := by decide +kernel
theorem dX0_fillPowers_26 : decode cX0_fillPowers 26 = .ok (.iinc 2 (-1), 3) := by decide +kernel
theorem dX0_fillPowers_29 : decode cX0_fillPowers 29 = .ok (.goto (-20), 3) := by decide +kernel
theorem dX0_fillPowers_32 : decode cX0_fillPowers 32 = .ok (.return_, 1) := by decide +kernel
set_option maxRecDepth 20000 in
theorem ggX0_fillGenerator_X1_product : GoodIn wsX0_fillGenerator wsX1_product := goodIn_r _ [6] (by decide +kernel) (by decide +kernel)
set_option maxRecDepth 20000 in
theorem gX0_fillGenerator_X1_product : GoodIn wsX0_fillGenerator (va_wsS RX0 51 yX1_product wsX1_product) := goodIn_app (goodIn_of _ (by decide +kernel)) ggX0_fillGenerator_X1_product
theorem dX0_fillGenerator_0 : decode cX0_fillGenerator 0 = .ok (.aload_n 0, 1) := by decide +kernel
theorem dX0_fillGenerator_1 : decode cX0_fillGenerator 1 = .ok (.getfield 18, 3) := by decide +kernel
theorem dX0_fillGenerator_4 : decode cX0_fillGenerator 4 = .ok (.iconst 0, 1) := by decide +kernel
theorem dX0_fillGenerator_5 : decode cX0_fillGenerator 5 = .ok (.iconst 1, 1) := by decide +kernel
theorem dX0_fillGenerator_6 : decode cX0_fillGenerator 6 = .ok (.iastore, 1) := by decide +kernel
theorem dX0_fillGenerator_7 : decode cX0_fillGenerator 7 = .ok (.iconst 1, 1) := by decide +kernel
theorem dX0_fillGenerator_8 : decode cX0_fillGenerator 8 = .ok (.istore_n 1, 1) := by decide +kernel
theorem dX0_fillGenerator_9 : decode cX0_fillGenerator 9 = .ok (.iconst 0, 1) := by decide +kernel
theorem dX0_fillGenerator_10 : decode cX0_fillGenerator 10 = .ok (.istore_n 2, 1) := by decide +kernel
theorem dX0_fillGenerator_11 : decode cX0_fillGenerator 11 = .ok (.iload_n 2, 1) := by decide +kernel
theorem dX0_fillGenerator_12 : decode cX0_fillGenerator 12 = .ok (.aload_n 0, 1) := by decide +kernel
theorem dX0_fillGenerator_13 : decode cX0_fillGenerator 13 = .ok (.getfield 15, 3) := by decide +kernel
theorem dX0_fillGenerator_16 : decode cX0_fillGenerator 16 = .ok (.if_icmp .ge 71, 3) := by decide +kernel
theorem dX0_fillGenerator_19 : decode cX0_fillGenerator 19 = .ok (.iload_n 1, 1) := by decide +kernel
theorem dX0_fillGenerator_20 : decode cX0_fillGenerator 20 = .ok (.iconst 2, 1) := by decide +kernel
theorem dX0_fillGenerator_21 : decode cX0_fillGenerator 21 = .ok (.invokestatic 51, 3) := by decide +kernel
theorem dX0_fillGenerator_24 : decode cX0_fillGenerator 24 = .ok (.istore_n 1, 1) := by decide +kernel
theorem dX0_fillGenerator_25 : decode cX0_fillGenerator 25 = .ok (.aload_n 0, 1) := by decide +kernel
theorem dX0_fillGenerator_26 : decode cX0_fillGenerator 26 = .ok (.getfield 15, 3) := by decide +kernel
theorem dX0_fillGenerator_29 : decode cX0_fillGenerator 29 = .ok (.istore_n 3, 1) := by decide +kernel
theorem dX0_fillGenerator_30 : decode cX0_fillGenerator 30 = .ok (.iload_n 3, 1) := by decide +kernel
theorem dX0_fillGenerator_31 : decode cX0_fillGenerator 31 = .ok (.ifCond .le 34, 3) := by decide +kernel
theorem dX0_fillGenerator_34 : decode cX0_fillGenerator 34 = .ok (.aload_n 0, 1) := by decide +kernel
theorem dX0_fillGenerator_35 : decode cX0_fillGenerator 35 = .ok (.getfield 18, 3) := by decide +kernel
theorem dX0_fillGenerator_38 : decode cX0_fillGenerator 38 = .ok (.iload_n 3, 1) := by decide +kernel
theorem dX0_fillGenerator_39 : decode cX0_fillGenerator 39 = .ok (.aload_n 0, 1) := by decide +kernel
theorem dX0_fillGenerator_40 : decode cX0_fillGenerator 40 = .ok (.getfield 18, 3) := by decide +kernel
theorem dX0_fillGenerator_43 : decode cX0_fillGenerator 43 = .ok (.iload_n 3, 1) := by decide +kernel
theorem dX0_fillGenerator_44 : decode cX0_fillGenerator 44 = .ok (.iconst 1, 1) := by decide +kernel
theorem dX0_fillGenerator_45 : decode cX0_fillGenerator 45 = .ok (.isub, 1) := by decide +kernel
theorem dX0_fillGenerator_46 : decode cX0_fillGenerator 46 = .ok (.iaload, 1) := by decide +kernel
theorem dX0_fillGenerator_47 : decode cX0_fillGenerator 47 = .ok (.iload_n 1, 1) := by decide +kernel
theorem dX0_fillGenerator_48 : decode cX0_fillGenerator 48 = .ok (.aload_n 0, 1) := by decide +kernel
theorem dX0_fillGenerator_49 : decode cX0_fillGenerator 49 = .ok (.getfield 18, 3) := by decide +kernel
theorem dX0_fillGenerator_52 : decode cX0_fillGenerator 52 = .ok (.iload_n 3, 1) := by decide +kernel
theorem dX0_fillGenerator_53 : decode cX0_fillGenerator 53 = .ok (.iaload, 1) := by decide +kernel
theorem dX0_fillGenerator_54 : decode cX0_fillGenerator 54 = .ok (.invokestatic 51, 3) := by decide +kernel
theorem dX0_fillGenerator_57 : decode cX0_fillGenerator 57 = .ok (.ixor, 1) := by decide +kernel
theorem dX0_fillGenerator_58 : decode cX0_fillGenerator 58 = .ok (.iastore, 1) := by decide +kernel
theorem dX0_fillGenerator_59 : decode cX0_fillGenerator 59 = .ok (.iinc 3 (-1), 3) := by decide +kernel
theorem dX0_fillGenerator_62 : decode cX0_fillGenerator 62 = .ok (.goto (-32), 3) := by decide +kernel
theorem dX0_fillGenerator_65 : decode cX0_fillGenerator 65 = .ok (.aload_n 0, 1) := by decide +kernel
theorem dX0_fillGenerator_66 : decode cX0_fillGenerator 66 = .ok (.getfield 18, 3) := by decide +kernel
theorem dX0_fillGenerator_69 : decode cX0_fillGenerator 69 = .ok (.iconst 0, 1) := by decide +kernel
theorem dX0_fillGenerator_70 : decode cX0_fillGenerator 70 = .ok (.iload_n 1, 1) := by decide +kernel
theorem dX0_fillGenerator_71 : decode cX0_fillGenerator 71 = .ok (.aload_n 0, 1) := by decide +kernel
theorem dX0_fillGenerator_72 : decode cX0_fillGenerator 72 = .ok (.getfield 18, 3) := by decide +kernel
theorem dX0_fillGenerator_75 : decode cX0_fillGenerator 75 = .ok (.iconst 0, 1) := by decide +kernel
theorem dX0_fillGenerator_76 : decode cX0_fillGenerator 76 = .ok (.iaload, 1) := by decide +kernel
theorem dX0_fillGenerator_77 : decode cX0_fillGenerator 77 = .ok (.invokestatic 51, 3) := by decide +kernel
theorem dX0_fillGenerator_80 : decode cX0_fillGenerator 80 = .ok (.iastore, 1) := by decide +kernel
theorem dX0_fillGenerator_81 : decode cX0_fillGenerator 81 = .ok (.iinc 2 1, 3) := by decide +kernel
theorem dX0_fillGenerator_84 : decode cX0_fillGenerator 84 = .ok (.goto (-73), 3) := by decide +kernel
theorem dX0_fillGenerator_87 : decode cX0_fillGenerator 87 = .ok (.return_, 1) := by decide +kernel
set_option maxRecDepth 20000 in
theorem ggX0_complete_X1_product : GoodIn wsX0_complete wsX1_product := goodIn_r _ [7] (by decide +kernel) (by decide +kernel)
set_option maxRecDepth 20000 in
theorem gX0_complete_X1_product : GoodIn wsX0_complete (va_wsS RX0 51 yX1_product wsX1_product) := goodIn_app (goodIn_of _ (by decide +kernel)) ggX0_complete_X1_product
theorem dX0_complete_0 : decode cX0_complete 0 = .ok (.aload_n 0, 1) := by decide +kernel
theorem dX0_complete_1 : decode cX0_complete 1 = .ok (.getfield 9, 3) := by decide +kernel
theorem dX0_complete_4 : decode cX0_complete 4 = .ok (.aload_n 0, 1) := by decide +kernel
theorem dX0_complete_5 : decode cX0_complete 5 = .ok (.getfield 15, 3) := by decide +kernel
theorem dX0_complete_8 : decode cX0_complete 8 = .ok (.isub, 1) := by decide +kernel
theorem dX0_complete_9 : decode cX0_complete 9 = .ok (.istore_n 2, 1) := by decide +kernel
theorem dX0_complete_10 : decode cX0_complete 10 = .ok (.iload_n 2, 1) := by decide +kernel
theorem dX0_complete_11 : decode cX0_complete 11 = .ok (.istore_n 3, 1) := by decide +kernel
theorem dX0_complete_12 : decode cX0_complete 12 = .ok (.iload_n 3, 1) := by decide +kernel
theorem dX0_complete_13 : decode cX0_complete 13 = .ok (.aload_n 0, 1) := by decide +kernel
theorem dX0_complete_14 : decode cX0_complete 14 = .ok (.getfield 9, 3) := by decide +kernel
theorem dX0_complete_17 : decode cX0_complete 17 = .ok (.if_icmp .ge 13, 3) := by decide +kernel
theorem dX0_complete_20 : decode cX0_complete 20 = .ok (.aload_n 1, 1) := by decide +kernel
theorem dX0_complete_21 : decode cX0_complete 21 = .ok (.iload_n 3, 1) := by decide +kernel
theorem dX0_complete_22 : decode cX0_complete 22 = .ok (.iconst 0, 1) := by decide +kernel
theorem dX0_complete_23 : decode cX0_complete 23 = .ok (.iastore, 1) := by decide +kernel
theorem dX0_complete_24 : decode cX0_complete 24 = .ok (.iinc 3 1, 3) := by decide +kernel
theorem dX0_complete_27 : decode cX0_complete 27 = .ok (.goto (-15), 3) := by decide +kernel
theorem dX0_complete_30 : decode cX0_complete 30 = .ok (.iconst 0, 1) := by decide +kernel
theorem dX0_complete_31 : decode cX0_complete 31 = .ok (.istore_n 3, 1) := by decide +kernel
theorem dX0_complete_32 : decode cX0_complete 32 = .ok (.iload_n 3, 1) := by decide +kernel
theorem dX0_complete_33 : decode cX0_complete 33 = .ok (.iload_n 2, 1) := by decide +kernel
theorem dX0_complete_34 : decode cX0_complete 34 = .ok (.if_icmp .ge 89, 3) := by decide +kernel
theorem dX0_complete_37 : decode cX0_complete 37 = .ok (.aload_n 1, 1) := by decide +kernel
theorem dX0_complete_38 : decode cX0_complete 38 = .ok (.iload_n 3, 1) := by decide +kernel
theorem dX0_complete_39 : decode cX0_complete 39 = .ok (.iaload, 1) := by decide +kernel
theorem dX0_complete_40 : decode cX0_complete 40 = .ok (.aload_n 1, 1) := by decide +kernel
theorem dX0_complete_41 : decode cX0_complete 41 = .ok (.iload_n 2, 1) := by decide +kernel
theorem dX0_complete_42 : decode cX0_complete 42 = .ok (.iaload, 1) := by decide +kernel
theorem dX0_complete_43 : decode cX0_complete 43 = .ok (.ixor, 1) := by decide +kernel
theorem dX0_complete_44 : decode cX0_complete 44 = .ok (.istore 4, 2) := by decide +kernel
theorem dX0_complete_46 : decode cX0_complete 46 = .ok (.iconst 0, 1) := by decide +kernel
theorem dX0_complete_47 : decode cX0_complete 47 = .ok (.istore 5, 2) := by decide +kernel
theorem dX0_complete_49 : decode cX0_complete 49 = .ok (.iload 5, 2) := by decide +kernel
theorem dX0_complete_51 : decode cX0_complete 51 = .ok (.aload_n 0, 1) := by decide +kernel
theorem dX0_complete_52 : decode cX0_complete 52 = .ok (.getfield 15, 3) := by decide +kernel
theorem dX0_complete_55 : decode cX0_complete 55 = .ok (.if_icmp .ge 62, 3) := by decide +kernel
theorem dX0_complete_58 : decode cX0_complete 58 = .ok (.iload 5, 2) := by decide +kernel
theorem dX0_complete_60 : decode cX0_complete 60 = .ok (.iconst 1, 1) := by decide +kernel
theorem dX0_complete_61 : decode cX0_complete 61 = .ok (.iadd, 1) := by decide +kernel
theorem dX0_complete_62 : decode cX0_complete 62 = .ok (.aload_n 0, 1) := by decide +kernel
theorem dX0_complete_63 : decode cX0_complete 63 = .ok (.getfield 15, 3) := by decide +kernel
theorem dX0_complete_66 : decode cX0_complete 66 = .ok (.if_icmp .ge 14, 3) := by decide +kernel
theorem dX0_complete_69 : decode cX0_complete 69 = .ok (.aload_n 1, 1) := by decide +kernel
theorem dX0_complete_70 : decode cX0_complete 70 = .ok (.iload_n 2, 1) := by decide +kernel
theorem dX0_complete_71 : decode cX0_complete 71 = .ok (.iload 5, 2) := by decide +kernel
theorem dX0_complete_73 : decode cX0_complete 73 = .ok (.iadd, 1) := by decide +kernel
theorem dX0_complete_74 : decode cX0_complete 74 = .ok (.iconst 1, 1) := by decide +kernel
theorem dX0_complete_75 : decode cX0_complete 75 = .ok (.iadd, 1) := by decide +kernel
theorem dX0_complete_76 : decode cX0_complete 76 = .ok (.iaload, 1) := by decide +kernel
theorem dX0_complete_77 : decode cX0_complete 77 = .ok (.goto 4, 3) := by decide +kernel
theorem dX0_complete_80 : decode cX0_complete 80 = .ok (.iconst 0, 1) := by decide +kernel
theorem dX0_complete_81 : decode cX0_complete 81 = .ok (.istore 6, 2) := by decide +kernel
theorem dX0_complete_83 : decode cX0_complete 83 = .ok (.aload_n 1, 1) := by decide +kernel
theorem dX0_complete_84 : decode cX0_complete 84 = .ok (.iload_n 2, 1) := by decide +kernel
theorem dX0_complete_85 : decode cX0_complete 85 = .ok (.iload 5, 2) := by decide +kernel
theorem dX0_complete_87 : decode cX0_complete 87 = .ok (.iadd, 1) := by decide +kernel
theorem dX0_complete_88 : decode cX0_complete 88 = .ok (.iload 6, 2) := by decide +kernel
theorem dX0_complete_90 : decode cX0_complete 90 = .ok (.iload 4, 2) := by decide +kernel
theorem dX0_complete_92 : decode cX0_complete 92 = .ok (.aload_n 0, 1) := by decide +kernel
theorem dX0_complete_93 : decode cX0_complete 93 = .ok (.getfield 18, 3) := by decide +kernel
theorem dX0_complete_96 : decode cX0_complete 96 = .ok (.aload_n 0, 1) := by decide +kernel
theorem dX0_complete_97 : decode cX0_complete 97 = .ok (.getfield 15, 3) := by decide +kernel
theorem dX0_complete_100 : decode cX0_complete 100 = .ok (.iconst 1, 1) := by decide +kernel
theorem dX0_complete_101 : decode cX0_complete 101 = .ok (.isub, 1) := by decide +kernel
theorem dX0_complete_102 : decode cX0_complete 102 = .ok (.iload 5, 2) := by decide +kernel
theorem dX0_complete_104 : decode cX0_complete 104 = .ok (.isub, 1) := by decide +kernel
theorem dX0_complete_105 : decode cX0_complete 105 = .ok (.iaload, 1) := by decide +kernel
theorem dX0_complete_106 : decode cX0_complete 106 = .ok (.invokestatic 51, 3) := by decide +kernel
theorem dX0_complete_109 : decode cX0_complete 109 = .ok (.ixor, 1) := by decide +kernel
theorem dX0_complete_110 : decode cX0_complete 110 = .ok (.iastore, 1) := by decide +kernel
theorem dX0_complete_111 : decode cX0_complete 111 = .ok (.iinc 5 1, 3) := by decide +kernel
theorem dX0_complete_114 : decode cX0_complete 114 = .ok (.goto (-65), 3) := by decide +kernel
theorem dX0_complete_117 : decode cX0_complete 117 = .ok (.iinc 3 1, 3) := by decide +kernel
theorem dX0_complete_120 : decode cX0_complete 120 = .ok (.goto (-88), 3) := by decide +kernel
theorem dX0_complete_123 : decode cX0_complete 123 = .ok (.return_, 1) := by decide +kernel
set_option maxRecDepth 20000 in
theorem ggX0_mend_X0_countLost : GoodIn wsX0_mend wsX0_countLost := goodIn_r _ [7, 8, 73, 74, 75, 76, 77, 78, 79, 80, 81, 82] (by decide +kernel) (by decide +kernel)
set_option maxRecDepth 20000 in
theorem gX0_mend_X0_countLost : GoodIn wsX0_mend (wsV RX0 55 RX0 yX0_countLost wsX0_countLost) := goodIn_app (goodIn_of _ (by decide +kernel)) ggX0_mend_X0_countLost
set_option maxRecDepth 20000 in
theorem ggX0_mend_X0_fillSyndromes : GoodIn wsX0_mend wsX0_fillSyndromes := goodIn_r _ [12, 1, 8, 2, 13, 14, 15, 16, 73, 74, 75, 76, 77, 78, 79, 80, 81, 82] (by decide +kernel) (by decide +kernel)
set_option maxRecDepth 20000 in
theorem gX0_mend_X0_fillSyndromes : GoodIn wsX0_mend (wsV RX0 59 RX0 yX0_fillSyndromes wsX0_fillSyndromes) := goodIn_app (goodIn_of _ (by decide +kernel)) ggX0_mend_X0_fillSyndromes
set_option maxRecDepth 20000 in
theorem ggX0_mend_X0_locateLost : GoodIn wsX0_mend wsX0_locateLost := goodIn_r _ [20, 21, 8, 1, 22, 23, 24, 25, 26, 13, 14, 15, 16, 73, 74, 75, 76, 77, 78, 79, 80, 81, 82] (by decide +kernel) (by decide +kernel)
set_option maxRecDepth 20000 in
theorem gX0_mend_X0_locateLost : GoodIn wsX0_mend (wsV RX0 63 RX0 yX0_locateLost wsX0_locateLost) := goodIn_app (goodIn_of _ (by decide +kernel)) ggX0_mend_X0_locateLost
set_option maxRecDepth 20000 in
theorem ggX0_mend_X0_locateWrong : GoodIn wsX0_mend wsX0_locateWrong := goodIn_r _ [30, 21, 31, 1, 32, 33, 34, 35, 36, 37, 38, 6, 39, 40, 41, 42, 43, 2, 13, 14, 15, 16, 44, 45, 46, 47, 48, 49, 50, 51, 52, 73, 74, 75, 76, 77, 78, 79, 80, 81, 82] (by decide +kernel) (by decide +kernel)
set_option maxRecDepth 20000 in
theorem gX0_mend_X0_locateWrong : GoodIn wsX0_mend (wsV RX0 67 RX0 yX0_locateWrong wsX0_locateWrong) := goodIn_app (goodIn_of _ (by decide +kernel)) ggX0_mend_X0_locateWrong
set_option maxRecDepth 20000 in
theorem ggX0_mend_X0_fillEvaluator : GoodIn wsX0_mend wsX0_fillEvaluator := goodIn_r _ [56, 1, 57, 40, 41, 42, 6, 43, 21, 2, 13, 14, 15, 16, 73, 74, 75, 76, 77, 78, 79, 80, 81, 82] (by decide +kernel) (by decide +kernel)
set_option maxRecDepth 20000 in
theorem gX0_mend_X0_fillEvaluator : GoodIn wsX0_mend (wsV RX0 71 RX0 yX0_fillEvaluator wsX0_fillEvaluator) := goodIn_app (goodIn_of _ (by decide +kernel)) ggX0_mend_X0_fillEvaluator
set_option maxRecDepth 20000 in
theorem ggX0_mend_X0_fillSlope : GoodIn wsX0_mend wsX0_fillSlope := goodIn_r _ [61, 1, 62, 21, 73, 74, 75, 76, 77, 78, 79, 80, 81, 82] (by decide +kernel) (by decide +kernel)
set_option maxRecDepth 20000 in
theorem gX0_mend_X0_fillSlope : GoodIn wsX0_mend (wsV RX0 74 RX0 yX0_fillSlope wsX0_fillSlope) := goodIn_app (goodIn_of _ (by decide +kernel)) ggX0_mend_X0_fillSlope
set_option maxRecDepth 20000 in
theorem ggX0_mend_X0_correct : GoodIn wsX0_mend wsX0_correct := goodIn_r _ [66, 8, 22, 21, 62, 57, 49, 50, 15, 51, 52, 14, 16, 67, 68, 69, 13, 73, 74, 75, 76, 77, 78, 79, 80, 81, 82] (by decide +kernel) (by decide +kernel)
set_option maxRecDepth 20000 in
theorem gX0_mend_X0_correct : GoodIn wsX0_mend (wsV RX0 77 RX0 yX0_correct wsX0_correct) := goodIn_app (goodIn_of _ (by decide +kernel)) ggX0_mend_X0_correct
set_option maxRecDepth 20000 in
theorem ggX0_mend_X0_allZero : GoodIn wsX0_mend wsX0_allZero := goodIn_r _ [72] (by decide +kernel) (by decide +kernel)
set_option maxRecDepth 20000 in
theorem gX0_mend_X0_allZero : GoodIn wsX0_mend (va_wsS RX0 81 yX0_allZero wsX0_allZero) := goodIn_app (goodIn_of _ (by decide +kernel)) ggX0_mend_X0_allZero
theorem dX0_mend_0 : decode cX0_mend 0 = .ok (.aload_n 0, 1) := by decide +kernel
theorem dX0_mend_1 : decode cX0_mend 1 = .ok (.aload_n 2, 1) := by decide +kernel
theorem dX0_mend_2 : decode cX0_mend 2 = .ok (.invokevirtual 55, 3) := by decide +kernel
theorem dX0_mend_5 : decode cX0_mend 5 = .ok (.istore_n 3, 1) := by decide +kernel
theorem dX0_mend_6 : decode cX0_mend 6 = .ok (.iload_n 3, 1) := by decide +kernel
theorem dX0_mend_7 : decode cX0_mend 7 = .ok (.aload_n 0, 1) := by decide +kernel
theorem dX0_mend_8 : decode cX0_mend 8 = .ok (.getfield 15, 3) := by decide +kernel
theorem dX0_mend_11 : decode cX0_mend 11 = .ok (.if_icmp .le 5, 3) := by decide +kernel
theorem dX0_mend_14 : decode cX0_mend 14 = .ok (.iconst (-1), 1) := by decide +kernel
theorem dX0_mend_15 : decode cX0_mend 15 = .ok (.ireturn, 1) := by decide +kernel
theorem dX0_mend_16 : decode cX0_mend 16 = .ok (.aload_n 0, 1) := by decide +kernel
theorem dX0_mend_17 : decode cX0_mend 17 = .ok (.aload_n 1, 1) := by decide +kernel
theorem dX0_mend_18 : decode cX0_mend 18 = .ok (.invokevirtual 59, 3) := by decide +kernel
theorem dX0_mend_21 : decode cX0_mend 21 = .ok (.aload_n 0, 1) := by decide +kernel
theorem dX0_mend_22 : decode cX0_mend 22 = .ok (.aload_n 2, 1) := by decide +kernel
theorem dX0_mend_23 : decode cX0_mend 23 = .ok (.invokevirtual 63, 3) := by decide +kernel
theorem dX0_mend_26 : decode cX0_mend 26 = .ok (.aload_n 0, 1) := by decide +kernel
theorem dX0_mend_27 : decode cX0_mend 27 = .ok (.iload_n 3, 1) := by decide +kernel
theorem dX0_mend_28 : decode cX0_mend 28 = .ok (.invokevirtual 67, 3) := by decide +kernel
theorem dX0_mend_31 : decode cX0_mend 31 = .ok (.aload_n 0, 1) := by decide +kernel
theorem dX0_mend_32 : decode cX0_mend 32 = .ok (.invokevirtual 71, 3) := by decide +kernel
theorem dX0_mend_35 : decode cX0_mend 35 = .ok (.aload_n 0, 1) := by decide +kernel
theorem dX0_mend_36 : decode cX0_mend 36 = .ok (.invokevirtual 74, 3) := by decide +kernel
theorem dX0_mend_39 : decode cX0_mend 39 = .ok (.aload_n 0, 1) := by decide +kernel
theorem dX0_mend_40 : decode cX0_mend 40 = .ok (.aload_n 1, 1) := by decide +kernel
theorem dX0_mend_41 : decode cX0_mend 41 = .ok (.aload_n 2, 1) := by decide +kernel
theorem dX0_mend_42 : decode cX0_mend 42 = .ok (.invokevirtual 77, 3) := by decide +kernel
theorem dX0_mend_45 : decode cX0_mend 45 = .ok (.istore 4, 2) := by decide +kernel
theorem dX0_mend_47 : decode cX0_mend 47 = .ok (.aload_n 0, 1) := by decide +kernel
theorem dX0_mend_48 : decode cX0_mend 48 = .ok (.aload_n 1, 1) := by decide +kernel
theorem dX0_mend_49 : decode cX0_mend 49 = .ok (.invokevirtual 59, 3) := by decide +kernel
theorem dX0_mend_52 : decode cX0_mend 52 = .ok (.aload_n 0, 1) := by decide +kernel
theorem dX0_mend_53 : decode cX0_mend 53 = .ok (.getfield 25, 3) := by decide +kernel
theorem dX0_mend_56 : decode cX0_mend 56 = .ok (.invokestatic 81, 3) := by decide +kernel
theorem dX0_mend_59 : decode cX0_mend 59 = .ok (.ifCond .eq 20, 3) := by decide +kernel
theorem dX0_mend_62 : decode cX0_mend 62 = .ok (.iconst 2, 1) := by decide +kernel
theorem dX0_mend_63 : decode cX0_mend 63 = .ok (.iload 4, 2) := by decide +kernel
theorem dX0_mend_65 : decode cX0_mend 65 = .ok (.imul, 1) := by decide +kernel
theorem dX0_mend_66 : decode cX0_mend 66 = .ok (.iload_n 3, 1) := by decide +kernel
theorem dX0_mend_67 : decode cX0_mend 67 = .ok (.iadd, 1) := by decide +kernel
theorem dX0_mend_68 : decode cX0_mend 68 = .ok (.aload_n 0, 1) := by decide +kernel
theorem dX0_mend_69 : decode cX0_mend 69 = .ok (.getfield 15, 3) := by decide +kernel
theorem dX0_mend_72 : decode cX0_mend 72 = .ok (.if_icmp .gt 7, 3) := by decide +kernel
theorem dX0_mend_75 : decode cX0_mend 75 = .ok (.iconst 1, 1) := by decide +kernel
theorem dX0_mend_76 : decode cX0_mend 76 = .ok (.goto 4, 3) := by decide +kernel
theorem dX0_mend_79 : decode cX0_mend 79 = .ok (.iconst 0, 1) := by decide +kernel
theorem dX0_mend_80 : decode cX0_mend 80 = .ok (.istore 5, 2) := by decide +kernel
theorem dX0_mend_82 : decode cX0_mend 82 = .ok (.iload 5, 2) := by decide +kernel
theorem dX0_mend_84 : decode cX0_mend 84 = .ok (.ifCond .eq 10, 3) := by decide +kernel
theorem dX0_mend_87 : decode cX0_mend 87 = .ok (.iload 4, 2) := by decide +kernel
theorem dX0_mend_89 : decode cX0_mend 89 = .ok (.iload_n 3, 1) := by decide +kernel
theorem dX0_mend_90 : decode cX0_mend 90 = .ok (.iadd, 1) := by decide +kernel
theorem dX0_mend_91 : decode cX0_mend 91 = .ok (.goto 4, 3) := by decide +kernel
theorem dX0_mend_94 : decode cX0_mend 94 = .ok (.iconst (-1), 1) := by decide +kernel
theorem dX0_mend_95 : decode cX0_mend 95 = .ok (.ireturn, 1) := by decide +kernel
theorem dX0_countLost_0 : decode cX0_countLost 0 = .ok (.iconst 0, 1) := by decide +kernel
theorem dX0_countLost_1 : decode cX0_countLost 1 = .ok (.istore_n 2, 1) := by decide +kernel
theorem dX0_countLost_2 : decode cX0_countLost 2 = .ok (.iconst 0, 1) := by decide +kernel
theorem dX0_countLost_3 : decode cX0_countLost 3 = .ok (.istore_n 3, 1) := by decide +kernel
theorem dX0_countLost_4 : decode cX0_countLost 4 = .ok (.iload_n 3, 1) := by decide +kernel
theorem dX0_countLost_5 : decode cX0_countLost 5 = .ok (.aload_n 0, 1) := by decide +kernel
theorem dX0_countLost_6 : decode cX0_countLost 6 = .ok (.getfield 9, 3) := by decide +kernel
theorem dX0_countLost_9 : decode cX0_countLost 9 = .ok (.if_icmp .ge 23, 3) := by decide +kernel
theorem dX0_countLost_12 : decode cX0_countLost 12 = .ok (.iload_n 2, 1) := by decide +kernel
theorem dX0_countLost_13 : decode cX0_countLost 13 = .ok (.aload_n 1, 1) := by decide +kernel
theorem dX0_countLost_14 : decode cX0_countLost 14 = .ok (.iload_n 3, 1) := by decide +kernel
theorem dX0_countLost_15 : decode cX0_countLost 15 = .ok (.baload, 1) := by decide +kernel
theorem dX0_countLost_16 : decode cX0_countLost 16 = .ok (.ifCond .eq 7, 3) := by decide +kernel
theorem dX0_countLost_19 : decode cX0_countLost 19 = .ok (.iconst 1, 1) := by decide +kernel
theorem dX0_countLost_20 : decode cX0_countLost 20 = .ok (.goto 4, 3) := by decide +kernel
theorem dX0_countLost_23 : decode cX0_countLost 23 = .ok (.iconst 0, 1) := by decide +kernel
theorem dX0_countLost_24 : decode cX0_countLost 24 = .ok (.iadd, 1) := by decide +kernel
theorem dX0_countLost_25 : decode cX0_countLost 25 = .ok (.istore_n 2, 1) := by decide +kernel
theorem dX0_countLost_26 : decode cX0_countLost 26 = .ok (.iinc 3 1, 3) := by decide +kernel
theorem dX0_countLost_29 : decode cX0_countLost 29 = .ok (.goto (-25), 3) := by decide +kernel
theorem dX0_countLost_32 : decode cX0_countLost 32 = .ok (.iload_n 2, 1) := by decide +kernel
theorem dX0_countLost_33 : decode cX0_countLost 33 = .ok (.ireturn, 1) := by decide +kernel
set_option maxRecDepth 20000 in
theorem ggX0_fillSyndromes_X1_product : GoodIn wsX0_fillSyndromes wsX1_product := goodIn_r _ [7] (by decide +kernel) (by decide +kernel)
set_option maxRecDepth 20000 in
theorem gX0_fillSyndromes_X1_product : GoodIn wsX0_fillSyndromes (va_wsS RX0 51 yX1_product wsX1_product) := goodIn_app (goodIn_of _ (by decide +kernel)) ggX0_fillSyndromes_X1_product
theorem dX0_fillSyndromes_0 : decode cX0_fillSyndromes 0 = .ok (.iconst 1, 1) := by decide +kernel
theorem dX0_fillSyndromes_1 : decode cX0_fillSyndromes 1 = .ok (.istore_n 2, 1) := by decide +kernel
theorem dX0_fillSyndromes_2 : decode cX0_fillSyndromes 2 = .ok (.iconst 0, 1) := by decide +kernel
theorem dX0_fillSyndromes_3 : decode cX0_fillSyndromes 3 = .ok (.istore_n 3, 1) := by decide +kernel
theorem dX0_fillSyndromes_4 : decode cX0_fillSyndromes 4 = .ok (.iload_n 3, 1) := by decide +kernel
theorem dX0_fillSyndromes_5 : decode cX0_fillSyndromes 5 = .ok (.aload_n 0, 1) := by decide +kernel
theorem dX0_fillSyndromes_6 : decode cX0_fillSyndromes 6 = .ok (.getfield 15, 3) := by decide +kernel
theorem dX0_fillSyndromes_9 : decode cX0_fillSyndromes 9 = .ok (.if_icmp .ge 57, 3) := by decide +kernel
theorem dX0_fillSyndromes_12 : decode cX0_fillSyndromes 12 = .ok (.iload_n 2, 1) := by decide +kernel
theorem dX0_fillSyndromes_13 : decode cX0_fillSyndromes 13 = .ok (.iconst 2, 1) := by decide +kernel
theorem dX0_fillSyndromes_14 : decode cX0_fillSyndromes 14 = .ok (.invokestatic 51, 3) := by decide +kernel
theorem dX0_fillSyndromes_17 : decode cX0_fillSyndromes 17 = .ok (.istore_n 2, 1) := by decide +kernel
theorem dX0_fillSyndromes_18 : decode cX0_fillSyndromes 18 = .ok (.iconst 0, 1) := by decide +kernel
theorem dX0_fillSyndromes_19 : decode cX0_fillSyndromes 19 = .ok (.istore 4, 2) := by decide +kernel
theorem dX0_fillSyndromes_21 : decode cX0_fillSyndromes 21 = .ok (.iconst 0, 1) := by decide +kernel
theorem dX0_fillSyndromes_22 : decode cX0_fillSyndromes 22 = .ok (.istore 5, 2) := by decide +kernel
theorem dX0_fillSyndromes_24 : decode cX0_fillSyndromes 24 = .ok (.iload 5, 2) := by decide +kernel
theorem dX0_fillSyndromes_26 : decode cX0_fillSyndromes 26 = .ok (.aload_n 0, 1) := by decide +kernel
theorem dX0_fillSyndromes_27 : decode cX0_fillSyndromes 27 = .ok (.getfield 9, 3) := by decide +kernel
theorem dX0_fillSyndromes_30 : decode cX0_fillSyndromes 30 = .ok (.if_icmp .ge 22, 3) := by decide +kernel
theorem dX0_fillSyndromes_33 : decode cX0_fillSyndromes 33 = .ok (.iload 4, 2) := by decide +kernel
theorem dX0_fillSyndromes_35 : decode cX0_fillSyndromes 35 = .ok (.iload_n 2, 1) := by decide +kernel
theorem dX0_fillSyndromes_36 : decode cX0_fillSyndromes 36 = .ok (.invokestatic 51, 3) := by decide +kernel
theorem dX0_fillSyndromes_39 : decode cX0_fillSyndromes 39 = .ok (.aload_n 1, 1) := by decide +kernel
theorem dX0_fillSyndromes_40 : decode cX0_fillSyndromes 40 = .ok (.iload 5, 2) := by decide +kernel
theorem dX0_fillSyndromes_42 : decode cX0_fillSyndromes 42 = .ok (.iaload, 1) := by decide +kernel
theorem dX0_fillSyndromes_43 : decode cX0_fillSyndromes 43 = .ok (.ixor, 1) := by decide +kernel
theorem dX0_fillSyndromes_44 : decode cX0_fillSyndromes 44 = .ok (.istore 4, 2) := by decide +kernel
theorem dX0_fillSyndromes_46 : decode cX0_fillSyndromes 46 = .ok (.iinc 5 1, 3) := by decide +kernel
theorem dX0_fillSyndromes_49 : decode cX0_fillSyndromes 49 = .ok (.goto (-25), 3) := by decide +kernel
theorem dX0_fillSyndromes_52 : decode cX0_fillSyndromes 52 = .ok (.aload_n 0, 1) := by decide +kernel
theorem dX0_fillSyndromes_53 : decode cX0_fillSyndromes 53 = .ok (.getfield 25, 3) := by decide +kernel
theorem dX0_fillSyndromes_56 : decode cX0_fillSyndromes 56 = .ok (.iload_n 3, 1) := by decide +kernel
theorem dX0_fillSyndromes_57 : decode cX0_fillSyndromes 57 = .ok (.iload 4, 2) := by decide +kernel
theorem dX0_fillSyndromes_59 : decode cX0_fillSyndromes 59 = .ok (.iastore, 1) := by decide +kernel
theorem dX0_fillSyndromes_60 : decode cX0_fillSyndromes 60 = .ok (.iinc 3 1, 3) := by decide +kernel
theorem dX0_fillSyndromes_63 : decode cX0_fillSyndromes 63 = .ok (.goto (-59), 3) := by decide +kernel
theorem dX0_fillSyndromes_66 : decode cX0_fillSyndromes 66 = .ok (.return_, 1) := by decide +kernel
theorem dX0_allZero_0 : decode cX0_allZero 0 = .ok (.iconst 0, 1) := by decide +kernel
theorem dX0_allZero_1 : decode cX0_allZero 1 = .ok (.istore_n 1, 1) := by decide +kernel
theorem dX0_allZero_2 : decode cX0_allZero 2 = .ok (.iload_n 1, 1) := by decide +kernel
theorem dX0_allZero_3 : decode cX0_allZero 3 = .ok (.aload_n 0, 1) := by decide +kernel
theorem dX0_allZero_4 : decode cX0_allZero 4 = .ok (.arraylength, 1) := by decide +kernel
theorem dX0_allZero_5 : decode cX0_allZero 5 = .ok (.if_icmp .ge 17, 3) := by decide +kernel
theorem dX0_allZero_8 : decode cX0_allZero 8 = .ok (.aload_n 0, 1) := by decide +kernel
theorem dX0_allZero_9 : decode cX0_allZero 9 = .ok (.iload_n 1, 1) := by decide +kernel
theorem dX0_allZero_10 : decode cX0_allZero 10 = .ok (.iaload, 1) := by decide +kernel
theorem dX0_allZero_11 : decode cX0_allZero 11 = .ok (.ifCond .eq 5, 3) := by decide +kernel
theorem dX0_allZero_14 : decode cX0_allZero 14 = .ok (.iconst 0, 1) := by decide +kernel
theorem dX0_allZero_15 : decode cX0_allZero 15 = .ok (.ireturn, 1) := by decide +kernel
theorem dX0_allZero_16 : decode cX0_allZero 16 = .ok (.iinc 1 1, 3) := by decide +kernel
theorem dX0_allZero_19 : decode cX0_allZero 19 = .ok (.goto (-17), 3) := by decide +kernel
theorem dX0_allZero_22 : decode cX0_allZero 22 = .ok (.iconst 1, 1) := by decide +kernel
theorem dX0_allZero_23 : decode cX0_allZero 23 = .ok (.ireturn, 1) := by decide +kernel
set_option maxRecDepth 20000 in
theorem ggX0_locateLost_J7_fill_53178 : GoodIn wsX0_locateLost wsJ7_fill_53178 := goodIn_r _ [8] (by decide +kernel) (by decide +kernel)
set_option maxRecDepth 20000 in
theorem gX0_locateLost_J7_fill_53178 : GoodIn wsX0_locateLost (va_wsS RX0 85 yJ7_fill_53178 wsJ7_fill_53178) := goodIn_app (goodIn_of _ (by decide +kernel)) ggX0_locateLost_J7_fill_53178
set_option maxRecDepth 20000 in
theorem ggX0_locateLost_X1_product : GoodIn wsX0_locateLost wsX1_product := goodIn_r _ [12] (by decide +kernel) (by decide +kernel)
set_option maxRecDepth 20000 in
theorem gX0_locateLost_X1_product : GoodIn wsX0_locateLost (va_wsS RX0 51 yX1_product wsX1_product) := goodIn_app (goodIn_of _ (by decide +kernel)) ggX0_locateLost_X1_product
theorem dX0_locateLost_0 : decode cX0_locateLost 0 = .ok (.aload_n 0, 1) := by decide +kernel
theorem dX0_locateLost_1 : decode cX0_locateLost 1 = .ok (.getfield 28, 3) := by decide +kernel
theorem dX0_locateLost_4 : decode cX0_locateLost 4 = .ok (.iconst 0, 1) := by decide +kernel
theorem dX0_locateLost_5 : decode cX0_locateLost 5 = .ok (.invokestatic 85, 3) := by decide +kernel
theorem dX0_locateLost_8 : decode cX0_locateLost 8 = .ok (.aload_n 0, 1) := by decide +kernel
theorem dX0_locateLost_9 : decode cX0_locateLost 9 = .ok (.getfield 28, 3) := by decide +kernel
theorem dX0_locateLost_12 : decode cX0_locateLost 12 = .ok (.iconst 0, 1) := by decide +kernel
theorem dX0_locateLost_13 : decode cX0_locateLost 13 = .ok (.iconst 1, 1) := by decide +kernel
theorem dX0_locateLost_14 : decode cX0_locateLost 14 = .ok (.iastore, 1) := by decide +kernel
theorem dX0_locateLost_15 : decode cX0_locateLost 15 = .ok (.iconst 0, 1) := by decide +kernel
theorem dX0_locateLost_16 : decode cX0_locateLost 16 = .ok (.istore_n 2, 1) := by decide +kernel
theorem dX0_locateLost_17 : decode cX0_locateLost 17 = .ok (.iload_n 2, 1) := by decide +kernel
theorem dX0_locateLost_18 : decode cX0_locateLost 18 = .ok (.aload_n 0, 1) := by decide +kernel
theorem dX0_locateLost_19 : decode cX0_locateLost 19 = .ok (.getfield 9, 3) := by decide +kernel
theorem dX0_locateLost_22 : decode cX0_locateLost 22 = .ok (.if_icmp .ge 56, 3) := by decide +kernel
theorem dX0_locateLost_25 : decode cX0_locateLost 25 = .ok (.aload_n 1, 1) := by decide +kernel
theorem dX0_locateLost_26 : decode cX0_locateLost 26 = .ok (.iload_n 2, 1) := by decide +kernel
theorem dX0_locateLost_27 : decode cX0_locateLost 27 = .ok (.baload, 1) := by decide +kernel
theorem dX0_locateLost_28 : decode cX0_locateLost 28 = .ok (.ifCond .eq 44, 3) := by decide +kernel
theorem dX0_locateLost_31 : decode cX0_locateLost 31 = .ok (.aload_n 0, 1) := by decide +kernel
theorem dX0_locateLost_32 : decode cX0_locateLost 32 = .ok (.getfield 15, 3) := by decide +kernel
theorem dX0_locateLost_35 : decode cX0_locateLost 35 = .ok (.istore_n 3, 1) := by decide +kernel
theorem dX0_locateLost_36 : decode cX0_locateLost 36 = .ok (.iload_n 3, 1) := by decide +kernel
theorem dX0_locateLost_37 : decode cX0_locateLost 37 = .ok (.ifCond .le 35, 3) := by decide +kernel
theorem dX0_locateLost_40 : decode cX0_locateLost 40 = .ok (.aload_n 0, 1) := by decide +kernel
theorem dX0_locateLost_41 : decode cX0_locateLost 41 = .ok (.getfield 28, 3) := by decide +kernel
theorem dX0_locateLost_44 : decode cX0_locateLost 44 = .ok (.iload_n 3, 1) := by decide +kernel
theorem dX0_locateLost_45 : decode cX0_locateLost 45 = .ok (.dup2, 1) := by decide +kernel
theorem dX0_locateLost_46 : decode cX0_locateLost 46 = .ok (.iaload, 1) := by decide +kernel
theorem dX0_locateLost_47 : decode cX0_locateLost 47 = .ok (.aload_n 0, 1) := by decide +kernel
theorem dX0_locateLost_48 : decode cX0_locateLost 48 = .ok (.getfield 22, 3) := by decide +kernel
theorem dX0_locateLost_51 : decode cX0_locateLost 51 = .ok (.iload_n 2, 1) := by decide +kernel
theorem dX0_locateLost_52 : decode cX0_locateLost 52 = .ok (.iaload, 1) := by decide +kernel
theorem dX0_locateLost_53 : decode cX0_locateLost 53 = .ok (.aload_n 0, 1) := by decide +kernel
theorem dX0_locateLost_54 : decode cX0_locateLost 54 = .ok (.getfield 28, 3) := by decide +kernel
theorem dX0_locateLost_57 : decode cX0_locateLost 57 = .ok (.iload_n 3, 1) := by decide +kernel
theorem dX0_locateLost_58 : decode cX0_locateLost 58 = .ok (.iconst 1, 1) := by decide +kernel
theorem dX0_locateLost_59 : decode cX0_locateLost 59 = .ok (.isub, 1) := by decide +kernel
theorem dX0_locateLost_60 : decode cX0_locateLost 60 = .ok (.iaload, 1) := by decide +kernel
theorem dX0_locateLost_61 : decode cX0_locateLost 61 = .ok (.invokestatic 51, 3) := by decide +kernel
theorem dX0_locateLost_64 : decode cX0_locateLost 64 = .ok (.ixor, 1) := by decide +kernel
theorem dX0_locateLost_65 : decode cX0_locateLost 65 = .ok (.iastore, 1) := by decide +kernel
theorem dX0_locateLost_66 : decode cX0_locateLost 66 = .ok (.iinc 3 (-1), 3) := by decide +kernel
theorem dX0_locateLost_69 : decode cX0_locateLost 69 = .ok (.goto (-33), 3) := by decide +kernel
theorem dX0_locateLost_72 : decode cX0_locateLost 72 = .ok (.iinc 2 1, 3) := by decide +kernel
theorem dX0_locateLost_75 : decode cX0_locateLost 75 = .ok (.goto (-58), 3) := by decide +kernel
theorem dX0_locateLost_78 : decode cX0_locateLost 78 = .ok (.return_, 1) := by decide +kernel
set_option maxRecDepth 20000 in
theorem ggX0_locateWrong_X0_multiplyFormerByX : GoodIn wsX0_locateWrong wsX0_multiplyFormerByX := goodIn_r _ [12, 3, 2, 31, 32, 33, 34, 35, 36, 37, 38, 39, 40] (by decide +kernel) (by decide +kernel)
set_option maxRecDepth 20000 in
theorem gX0_locateWrong_X0_multiplyFormerByX : GoodIn wsX0_locateWrong (wsV RX0 97 RX0 yX0_multiplyFormerByX wsX0_multiplyFormerByX) := goodIn_app (goodIn_of _ (by decide +kernel)) ggX0_locateWrong_X0_multiplyFormerByX
set_option maxRecDepth 20000 in
theorem ggX0_locateWrong_X0_gapAt : GoodIn wsX0_locateWrong wsX0_gapAt := goodIn_r _ [16, 1, 17, 18, 19, 20, 21, 31, 32, 33, 34, 35, 36, 37, 38, 39, 40] (by decide +kernel) (by decide +kernel)
set_option maxRecDepth 20000 in
theorem gX0_locateWrong_X0_gapAt : GoodIn wsX0_locateWrong (wsV RX0 100 RX0 yX0_gapAt wsX0_gapAt) := goodIn_app (goodIn_of _ (by decide +kernel)) ggX0_locateWrong_X0_gapAt
set_option maxRecDepth 20000 in
theorem ggX0_locateWrong_X0_addFormer : GoodIn wsX0_locateWrong wsX0_addFormer := goodIn_r _ [25, 3, 26, 1, 2, 4, 5, 6, 7, 18, 19, 20, 21, 27, 28, 29, 30, 31, 32, 33, 34, 35, 36, 37, 38, 39, 40] (by decide +kernel) (by decide +kernel)
set_option maxRecDepth 20000 in
theorem gX0_locateWrong_X0_addFormer : GoodIn wsX0_locateWrong (wsV RX0 104 RX0 yX0_addFormer wsX0_addFormer) := goodIn_app (goodIn_of _ (by decide +kernel)) ggX0_locateWrong_X0_addFormer
theorem dX0_locateWrong_0 : decode cX0_locateWrong 0 = .ok (.aload_n 0, 1) := by decide +kernel
theorem dX0_locateWrong_1 : decode cX0_locateWrong 1 = .ok (.getfield 28, 3) := by decide +kernel
theorem dX0_locateWrong_4 : decode cX0_locateWrong 4 = .ok (.iconst 0, 1) := by decide +kernel
theorem dX0_locateWrong_5 : decode cX0_locateWrong 5 = .ok (.aload_n 0, 1) := by decide +kernel
theorem dX0_locateWrong_6 : decode cX0_locateWrong 6 = .ok (.getfield 31, 3) := by decide +kernel
theorem dX0_locateWrong_9 : decode cX0_locateWrong 9 = .ok (.iconst 0, 1) := by decide +kernel
theorem dX0_locateWrong_10 : decode cX0_locateWrong 10 = .ok (.aload_n 0, 1) := by decide +kernel
theorem dX0_locateWrong_11 : decode cX0_locateWrong 11 = .ok (.getfield 15, 3) := by decide +kernel
theorem dX0_locateWrong_14 : decode cX0_locateWrong 14 = .ok (.iconst 1, 1) := by decide +kernel
theorem dX0_locateWrong_15 : decode cX0_locateWrong 15 = .ok (.iadd, 1) := by decide +kernel
theorem dX0_locateWrong_16 : decode cX0_locateWrong 16 = .ok (.invokestatic 91, 3) := by decide +kernel
theorem dX0_locateWrong_19 : decode cX0_locateWrong 19 = .ok (.iload_n 1, 1) := by decide +kernel
theorem dX0_locateWrong_20 : decode cX0_locateWrong 20 = .ok (.istore_n 2, 1) := by decide +kernel
theorem dX0_locateWrong_21 : decode cX0_locateWrong 21 = .ok (.iload_n 1, 1) := by decide +kernel
theorem dX0_locateWrong_22 : decode cX0_locateWrong 22 = .ok (.istore_n 3, 1) := by decide +kernel
theorem dX0_locateWrong_23 : decode cX0_locateWrong 23 = .ok (.iload_n 3, 1) := by decide +kernel
theorem dX0_locateWrong_24 : decode cX0_locateWrong 24 = .ok (.aload_n 0, 1) := by decide +kernel
theorem dX0_locateWrong_25 : decode cX0_locateWrong 25 = .ok (.getfield 15, 3) := by decide +kernel
theorem dX0_locateWrong_28 : decode cX0_locateWrong 28 = .ok (.if_icmp .ge 66, 3) := by decide +kernel
theorem dX0_locateWrong_31 : decode cX0_locateWrong 31 = .ok (.aload_n 0, 1) := by decide +kernel
theorem dX0_locateWrong_32 : decode cX0_locateWrong 32 = .ok (.invokevirtual 97, 3) := by decide +kernel
theorem dX0_locateWrong_35 : decode cX0_locateWrong 35 = .ok (.aload_n 0, 1) := by decide +kernel
theorem dX0_locateWrong_36 : decode cX0_locateWrong 36 = .ok (.iload_n 3, 1) := by decide +kernel
theorem dX0_locateWrong_37 : decode cX0_locateWrong 37 = .ok (.invokevirtual 100, 3) := by decide +kernel
theorem dX0_locateWrong_40 : decode cX0_locateWrong 40 = .ok (.istore 4, 2) := by decide +kernel
theorem dX0_locateWrong_42 : decode cX0_locateWrong 42 = .ok (.iload 4, 2) := by decide +kernel
theorem dX0_locateWrong_44 : decode cX0_locateWrong 44 = .ok (.ifCond .eq 44, 3) := by decide +kernel
theorem dX0_locateWrong_47 : decode cX0_locateWrong 47 = .ok (.iconst 2, 1) := by decide +kernel
theorem dX0_locateWrong_48 : decode cX0_locateWrong 48 = .ok (.iload_n 2, 1) := by decide +kernel
theorem dX0_locateWrong_49 : decode cX0_locateWrong 49 = .ok (.imul, 1) := by decide +kernel
theorem dX0_locateWrong_50 : decode cX0_locateWrong 50 = .ok (.iload_n 3, 1) := by decide +kernel
theorem dX0_locateWrong_51 : decode cX0_locateWrong 51 = .ok (.iload_n 1, 1) := by decide +kernel
theorem dX0_locateWrong_52 : decode cX0_locateWrong 52 = .ok (.iadd, 1) := by decide +kernel
theorem dX0_locateWrong_53 : decode cX0_locateWrong 53 = .ok (.if_icmp .gt 7, 3) := by decide +kernel
theorem dX0_locateWrong_56 : decode cX0_locateWrong 56 = .ok (.iconst 1, 1) := by decide +kernel
theorem dX0_locateWrong_57 : decode cX0_locateWrong 57 = .ok (.goto 4, 3) := by decide +kernel
theorem dX0_locateWrong_60 : decode cX0_locateWrong 60 = .ok (.iconst 0, 1) := by decide +kernel
theorem dX0_locateWrong_61 : decode cX0_locateWrong 61 = .ok (.istore 5, 2) := by decide +kernel
theorem dX0_locateWrong_63 : decode cX0_locateWrong 63 = .ok (.aload_n 0, 1) := by decide +kernel
theorem dX0_locateWrong_64 : decode cX0_locateWrong 64 = .ok (.iload 4, 2) := by decide +kernel
theorem dX0_locateWrong_66 : decode cX0_locateWrong 66 = .ok (.iload 5, 2) := by decide +kernel
theorem dX0_locateWrong_68 : decode cX0_locateWrong 68 = .ok (.invokevirtual 104, 3) := by decide +kernel
theorem dX0_locateWrong_71 : decode cX0_locateWrong 71 = .ok (.iload 5, 2) := by decide +kernel
theorem dX0_locateWrong_73 : decode cX0_locateWrong 73 = .ok (.ifCond .eq 13, 3) := by decide +kernel
theorem dX0_locateWrong_76 : decode cX0_locateWrong 76 = .ok (.iload_n 3, 1) := by decide +kernel
theorem dX0_locateWrong_77 : decode cX0_locateWrong 77 = .ok (.iconst 1, 1) := by decide +kernel
theorem dX0_locateWrong_78 : decode cX0_locateWrong 78 = .ok (.iadd, 1) := by decide +kernel
theorem dX0_locateWrong_79 : decode cX0_locateWrong 79 = .ok (.iload_n 1, 1) := by decide +kernel
theorem dX0_locateWrong_80 : decode cX0_locateWrong 80 = .ok (.iadd, 1) := by decide +kernel
theorem dX0_locateWrong_81 : decode cX0_locateWrong 81 = .ok (.iload_n 2, 1) := by decide +kernel
theorem dX0_locateWrong_82 : decode cX0_locateWrong 82 = .ok (.isub, 1) := by decide +kernel
theorem dX0_locateWrong_83 : decode cX0_locateWrong 83 = .ok (.goto 4, 3) := by decide +kernel
theorem dX0_locateWrong_86 : decode cX0_locateWrong 86 = .ok (.iload_n 2, 1) := by decide +kernel
theorem dX0_locateWrong_87 : decode cX0_locateWrong 87 = .ok (.istore_n 2, 1) := by decide +kernel
theorem dX0_locateWrong_88 : decode cX0_locateWrong 88 = .ok (.iinc 3 1, 3) := by decide +kernel
theorem dX0_locateWrong_91 : decode cX0_locateWrong 91 = .ok (.goto (-68), 3) := by decide +kernel
theorem dX0_locateWrong_94 : decode cX0_locateWrong 94 = .ok (.return_, 1) := by decide +kernel
theorem dX0_multiplyFormerByX_0 : decode cX0_multiplyFormerByX 0 = .ok (.aload_n 0, 1) := by decide +kernel
theorem dX0_multiplyFormerByX_1 : decode cX0_multiplyFormerByX 1 = .ok (.getfield 15, 3) := by decide +kernel
theorem dX0_multiplyFormerByX_4 : decode cX0_multiplyFormerByX 4 = .ok (.istore_n 1, 1) := by decide +kernel
theorem dX0_multiplyFormerByX_5 : decode cX0_multiplyFormerByX 5 = .ok (.iload_n 1, 1) := by decide +kernel
theorem dX0_multiplyFormerByX_6 : decode cX0_multiplyFormerByX 6 = .ok (.ifCond .le 23, 3) := by decide +kernel
theorem dX0_multiplyFormerByX_9 : decode cX0_multiplyFormerByX 9 = .ok (.aload_n 0, 1) := by decide +kernel
theorem dX0_multiplyFormerByX_10 : decode cX0_multiplyFormerByX 10 = .ok (.getfield 31, 3) := by decide +kernel
theorem dX0_multiplyFormerByX_13 : decode cX0_multiplyFormerByX 13 = .ok (.iload_n 1, 1) := by decide +kernel
theorem dX0_multiplyFormerByX_14 : decode cX0_multiplyFormerByX 14 = .ok (.aload_n 0, 1) := by decide +kernel
theorem dX0_multiplyFormerByX_15 : decode cX0_multiplyFormerByX 15 = .ok (.getfield 31, 3) := by decide +kernel
theorem dX0_multiplyFormerByX_18 : decode cX0_multiplyFormerByX 18 = .ok (.iload_n 1, 1) := by decide +kernel
theorem dX0_multiplyFormerByX_19 : decode cX0_multiplyFormerByX 19 = .ok (.iconst 1, 1) := by decide +kernel
theorem dX0_multiplyFormerByX_20 : decode cX0_multiplyFormerByX 20 = .ok (.isub, 1) := by decide +kernel
theorem dX0_multiplyFormerByX_21 : decode cX0_multiplyFormerByX 21 = .ok (.iaload, 1) := by decide +kernel
theorem dX0_multiplyFormerByX_22 : decode cX0_multiplyFormerByX 22 = .ok (.iastore, 1) := by decide +kernel
theorem dX0_multiplyFormerByX_23 : decode cX0_multiplyFormerByX 23 = .ok (.iinc 1 (-1), 3) := by decide +kernel
theorem dX0_multiplyFormerByX_26 : decode cX0_multiplyFormerByX 26 = .ok (.goto (-21), 3) := by decide +kernel
theorem dX0_multiplyFormerByX_29 : decode cX0_multiplyFormerByX 29 = .ok (.aload_n 0, 1) := by decide +kernel
theorem dX0_multiplyFormerByX_30 : decode cX0_multiplyFormerByX 30 = .ok (.getfield 31, 3) := by decide +kernel
theorem dX0_multiplyFormerByX_33 : decode cX0_multiplyFormerByX 33 = .ok (.iconst 0, 1) := by decide +kernel
theorem dX0_multiplyFormerByX_34 : decode cX0_multiplyFormerByX 34 = .ok (.iconst 0, 1) := by decide +kernel
theorem dX0_multiplyFormerByX_35 : decode cX0_multiplyFormerByX 35 = .ok (.iastore, 1) := by decide +kernel
theorem dX0_multiplyFormerByX_36 : decode cX0_multiplyFormerByX 36 = .ok (.return_, 1) := by decide +kernel
set_option maxRecDepth 20000 in
theorem ggX0_gapAt_X1_product : GoodIn wsX0_gapAt wsX1_product := goodIn_r _ [6] (by decide +kernel) (by decide +kernel)
set_option maxRecDepth 20000 in
theorem gX0_gapAt_X1_product : GoodIn wsX0_gapAt (va_wsS RX0 51 yX1_product wsX1_product) := goodIn_app (goodIn_of _ (by decide +kernel)) ggX0_gapAt_X1_product
theorem dX0_gapAt_0 : decode cX0_gapAt 0 = .ok (.iconst 0, 1) := by decide +kernel
theorem dX0_gapAt_1 : decode cX0_gapAt 1 = .ok (.istore_n 2, 1) := by decide +kernel
theorem dX0_gapAt_2 : decode cX0_gapAt 2 = .ok (.iconst 0, 1) := by decide +kernel
theorem dX0_gapAt_3 : decode cX0_gapAt 3 = .ok (.istore_n 3, 1) := by decide +kernel
theorem dX0_gapAt_4 : decode cX0_gapAt 4 = .ok (.iload_n 3, 1) := by decide +kernel
theorem dX0_gapAt_5 : decode cX0_gapAt 5 = .ok (.iload_n 1, 1) := by decide +kernel
theorem dX0_gapAt_6 : decode cX0_gapAt 6 = .ok (.if_icmp .gt 29, 3) := by decide +kernel
theorem dX0_gapAt_9 : decode cX0_gapAt 9 = .ok (.iload_n 2, 1) := by decide +kernel
theorem dX0_gapAt_10 : decode cX0_gapAt 10 = .ok (.aload_n 0, 1) := by decide +kernel
theorem dX0_gapAt_11 : decode cX0_gapAt 11 = .ok (.getfield 28, 3) := by decide +kernel
theorem dX0_gapAt_14 : decode cX0_gapAt 14 = .ok (.iload_n 3, 1) := by decide +kernel
theorem dX0_gapAt_15 : decode cX0_gapAt 15 = .ok (.iaload, 1) := by decide +kernel
theorem dX0_gapAt_16 : decode cX0_gapAt 16 = .ok (.aload_n 0, 1) := by decide +kernel
theorem dX0_gapAt_17 : decode cX0_gapAt 17 = .ok (.getfield 25, 3) := by decide +kernel
theorem dX0_gapAt_20 : decode cX0_gapAt 20 = .ok (.iload_n 1, 1) := by decide +kernel
theorem dX0_gapAt_21 : decode cX0_gapAt 21 = .ok (.iload_n 3, 1) := by decide +kernel
theorem dX0_gapAt_22 : decode cX0_gapAt 22 = .ok (.isub, 1) := by decide +kernel
theorem dX0_gapAt_23 : decode cX0_gapAt 23 = .ok (.iaload, 1) := by decide +kernel
theorem dX0_gapAt_24 : decode cX0_gapAt 24 = .ok (.invokestatic 51, 3) := by decide +kernel
theorem dX0_gapAt_27 : decode cX0_gapAt 27 = .ok (.ixor, 1) := by decide +kernel
theorem dX0_gapAt_28 : decode cX0_gapAt 28 = .ok (.istore_n 2, 1) := by decide +kernel
theorem dX0_gapAt_29 : decode cX0_gapAt 29 = .ok (.iinc 3 1, 3) := by decide +kernel
theorem dX0_gapAt_32 : decode cX0_gapAt 32 = .ok (.goto (-28), 3) := by decide +kernel
theorem dX0_gapAt_35 : decode cX0_gapAt 35 = .ok (.iload_n 2, 1) := by decide +kernel
theorem dX0_gapAt_36 : decode cX0_gapAt 36 = .ok (.ireturn, 1) := by decide +kernel
set_option maxRecDepth 20000 in
theorem ggX0_addFormer_X1_product : GoodIn wsX0_addFormer wsX1_product := goodIn_r _ [12] (by decide +kernel) (by decide +kernel)
set_option maxRecDepth 20000 in
theorem gX0_addFormer_X1_product : GoodIn wsX0_addFormer (va_wsS RX0 51 yX1_product wsX1_product) := goodIn_app (goodIn_of _ (by decide +kernel)) ggX0_addFormer_X1_product
set_option maxRecDepth 20000 in
theorem ggX0_addFormer_X1_inverse : GoodIn wsX0_addFormer wsX1_inverse := goodIn_r _ [15, 16, 10, 11, 12] (by decide +kernel) (by decide +kernel)
set_option maxRecDepth 20000 in
theorem gX0_addFormer_X1_inverse : GoodIn wsX0_addFormer (va_wsS RX0 108 yX1_inverse wsX1_inverse) := goodIn_app (goodIn_of _ (by decide +kernel)) ggX0_addFormer_X1_inverse
theorem dX0_addFormer_0 : decode cX0_addFormer 0 = .ok (.iconst 0, 1) := by decide +kernel
theorem dX0_addFormer_1 : decode cX0_addFormer 1 = .ok (.istore_n 3, 1) := by decide +kernel
theorem dX0_addFormer_2 : decode cX0_addFormer 2 = .ok (.iload_n 3, 1) := by decide +kernel
theorem dX0_addFormer_3 : decode cX0_addFormer 3 = .ok (.aload_n 0, 1) := by decide +kernel
theorem dX0_addFormer_4 : decode cX0_addFormer 4 = .ok (.getfield 15, 3) := by decide +kernel
theorem dX0_addFormer_7 : decode cX0_addFormer 7 = .ok (.if_icmp .gt 32, 3) := by decide +kernel
theorem dX0_addFormer_10 : decode cX0_addFormer 10 = .ok (.aload_n 0, 1) := by decide +kernel
theorem dX0_addFormer_11 : decode cX0_addFormer 11 = .ok (.getfield 34, 3) := by decide +kernel
theorem dX0_addFormer_14 : decode cX0_addFormer 14 = .ok (.iload_n 3, 1) := by decide +kernel
theorem dX0_addFormer_15 : decode cX0_addFormer 15 = .ok (.aload_n 0, 1) := by decide +kernel
theorem dX0_addFormer_16 : decode cX0_addFormer 16 = .ok (.getfield 28, 3) := by decide +kernel
theorem dX0_addFormer_19 : decode cX0_addFormer 19 = .ok (.iload_n 3, 1) := by decide +kernel
theorem dX0_addFormer_20 : decode cX0_addFormer 20 = .ok (.iaload, 1) := by decide +kernel
theorem dX0_addFormer_21 : decode cX0_addFormer 21 = .ok (.iload_n 1, 1) := by decide +kernel
theorem dX0_addFormer_22 : decode cX0_addFormer 22 = .ok (.aload_n 0, 1) := by decide +kernel
theorem dX0_addFormer_23 : decode cX0_addFormer 23 = .ok (.getfield 31, 3) := by decide +kernel
theorem dX0_addFormer_26 : decode cX0_addFormer 26 = .ok (.iload_n 3, 1) := by decide +kernel
theorem dX0_addFormer_27 : decode cX0_addFormer 27 = .ok (.iaload, 1) := by decide +kernel
theorem dX0_addFormer_28 : decode cX0_addFormer 28 = .ok (.invokestatic 51, 3) := by decide +kernel
theorem dX0_addFormer_31 : decode cX0_addFormer 31 = .ok (.ixor, 1) := by decide +kernel
theorem dX0_addFormer_32 : decode cX0_addFormer 32 = .ok (.iastore, 1) := by decide +kernel
theorem dX0_addFormer_33 : decode cX0_addFormer 33 = .ok (.iinc 3 1, 3) := by decide +kernel
theorem dX0_addFormer_36 : decode cX0_addFormer 36 = .ok (.goto (-34), 3) := by decide +kernel
theorem dX0_addFormer_39 : decode cX0_addFormer 39 = .ok (.iload_n 2, 1) := by decide +kernel
theorem dX0_addFormer_40 : decode cX0_addFormer 40 = .ok (.ifCond .eq 44, 3) := by decide +kernel
theorem dX0_addFormer_43 : decode cX0_addFormer 43 = .ok (.iload_n 1, 1) := by decide +kernel
theorem dX0_addFormer_44 : decode cX0_addFormer 44 = .ok (.invokestatic 108, 3) := by decide +kernel
theorem dX0_addFormer_47 : decode cX0_addFormer 47 = .ok (.istore_n 3, 1) := by decide +kernel
theorem dX0_addFormer_48 : decode cX0_addFormer 48 = .ok (.iconst 0, 1) := by decide +kernel
theorem dX0_addFormer_49 : decode cX0_addFormer 49 = .ok (.istore 4, 2) := by decide +kernel
theorem dX0_addFormer_51 : decode cX0_addFormer 51 = .ok (.iload 4, 2) := by decide +kernel
theorem dX0_addFormer_53 : decode cX0_addFormer 53 = .ok (.aload_n 0, 1) := by decide +kernel
theorem dX0_addFormer_54 : decode cX0_addFormer 54 = .ok (.getfield 15, 3) := by decide +kernel
theorem dX0_addFormer_57 : decode cX0_addFormer 57 = .ok (.if_icmp .gt 27, 3) := by decide +kernel
theorem dX0_addFormer_60 : decode cX0_addFormer 60 = .ok (.aload_n 0, 1) := by decide +kernel
theorem dX0_addFormer_61 : decode cX0_addFormer 61 = .ok (.getfield 31, 3) := by decide +kernel
theorem dX0_addFormer_64 : decode cX0_addFormer 64 = .ok (.iload 4, 2) := by decide +kernel
theorem dX0_addFormer_66 : decode cX0_addFormer 66 = .ok (.iload_n 3, 1) := by decide +kernel
theorem dX0_addFormer_67 : decode cX0_addFormer 67 = .ok (.aload_n 0, 1) := by decide +kernel
theorem dX0_addFormer_68 : decode cX0_addFormer 68 = .ok (.getfield 28, 3) := by decide +kernel
theorem dX0_addFormer_71 : decode cX0_addFormer 71 = .ok (.iload 4, 2) := by decide +kernel
theorem dX0_addFormer_73 : decode cX0_addFormer 73 = .ok (.iaload, 1) := by decide +kernel
theorem dX0_addFormer_74 : decode cX0_addFormer 74 = .ok (.invokestatic 51, 3) := by decide +kernel
theorem dX0_addFormer_77 : decode cX0_addFormer 77 = .ok (.iastore, 1) := by decide +kernel
theorem dX0_addFormer_78 : decode cX0_addFormer 78 = .ok (.iinc 4 1, 3) := by decide +kernel
theorem dX0_addFormer_81 : decode cX0_addFormer 81 = .ok (.goto (-30), 3) := by decide +kernel
theorem dX0_addFormer_84 : decode cX0_addFormer 84 = .ok (.aload_n 0, 1) := by decide +kernel
theorem dX0_addFormer_85 : decode cX0_addFormer 85 = .ok (.getfield 34, 3) := by decide +kernel
theorem dX0_addFormer_88 : decode cX0_addFormer 88 = .ok (.iconst 0, 1) := by decide +kernel
theorem dX0_addFormer_89 : decode cX0_addFormer 89 = .ok (.aload_n 0, 1) := by decide +kernel
theorem dX0_addFormer_90 : decode cX0_addFormer 90 = .ok (.getfield 28, 3) := by decide +kernel
theorem dX0_addFormer_93 : decode cX0_addFormer 93 = .ok (.iconst 0, 1) := by decide +kernel
theorem dX0_addFormer_94 : decode cX0_addFormer 94 = .ok (.aload_n 0, 1) := by decide +kernel
theorem dX0_addFormer_95 : decode cX0_addFormer 95 = .ok (.getfield 15, 3) := by decide +kernel
theorem dX0_addFormer_98 : decode cX0_addFormer 98 = .ok (.iconst 1, 1) := by decide +kernel
theorem dX0_addFormer_99 : decode cX0_addFormer 99 = .ok (.iadd, 1) := by decide +kernel
theorem dX0_addFormer_100 : decode cX0_addFormer 100 = .ok (.invokestatic 91, 3) := by decide +kernel
theorem dX0_addFormer_103 : decode cX0_addFormer 103 = .ok (.return_, 1) := by decide +kernel
set_option maxRecDepth 20000 in
theorem ggX0_fillEvaluator_X0_gapAt : GoodIn wsX0_fillEvaluator wsX0_gapAt := goodIn_r _ [7, 8, 9, 10, 11, 12, 13, 14, 15, 16, 17, 18, 19, 20, 21, 22, 23] (by decide +kernel) (by decide +kernel)
set_option maxRecDepth 20000 in
theorem gX0_fillEvaluator_X0_gapAt : GoodIn wsX0_fillEvaluator (wsV RX0 100 RX0 yX0_gapAt wsX0_gapAt) := goodIn_app (goodIn_of _ (by decide +kernel)) ggX0_fillEvaluator_X0_gapAt
theorem dX0_fillEvaluator_0 : decode cX0_fillEvaluator 0 = .ok (.iconst 0, 1) := by decide +kernel
theorem dX0_fillEvaluator_1 : decode cX0_fillEvaluator 1 = .ok (.istore_n 1, 1) := by decide +kernel
theorem dX0_fillEvaluator_2 : decode cX0_fillEvaluator 2 = .ok (.iload_n 1, 1) := by decide +kernel
theorem dX0_fillEvaluator_3 : decode cX0_fillEvaluator 3 = .ok (.aload_n 0, 1) := by decide +kernel
theorem dX0_fillEvaluator_4 : decode cX0_fillEvaluator 4 = .ok (.getfield 15, 3) := by decide +kernel
theorem dX0_fillEvaluator_7 : decode cX0_fillEvaluator 7 = .ok (.if_icmp .ge 20, 3) := by decide +kernel
theorem dX0_fillEvaluator_10 : decode cX0_fillEvaluator 10 = .ok (.aload_n 0, 1) := by decide +kernel
theorem dX0_fillEvaluator_11 : decode cX0_fillEvaluator 11 = .ok (.getfield 37, 3) := by decide +kernel
theorem dX0_fillEvaluator_14 : decode cX0_fillEvaluator 14 = .ok (.iload_n 1, 1) := by decide +kernel
theorem dX0_fillEvaluator_15 : decode cX0_fillEvaluator 15 = .ok (.aload_n 0, 1) := by decide +kernel
theorem dX0_fillEvaluator_16 : decode cX0_fillEvaluator 16 = .ok (.iload_n 1, 1) := by decide +kernel
theorem dX0_fillEvaluator_17 : decode cX0_fillEvaluator 17 = .ok (.invokevirtual 100, 3) := by decide +kernel
theorem dX0_fillEvaluator_20 : decode cX0_fillEvaluator 20 = .ok (.iastore, 1) := by decide +kernel
theorem dX0_fillEvaluator_21 : decode cX0_fillEvaluator 21 = .ok (.iinc 1 1, 3) := by decide +kernel
theorem dX0_fillEvaluator_24 : decode cX0_fillEvaluator 24 = .ok (.goto (-22), 3) := by decide +kernel
theorem dX0_fillEvaluator_27 : decode cX0_fillEvaluator 27 = .ok (.return_, 1) := by decide +kernel
theorem dX0_fillSlope_0 : decode cX0_fillSlope 0 = .ok (.iconst 0, 1) := by decide +kernel
theorem dX0_fillSlope_1 : decode cX0_fillSlope 1 = .ok (.istore_n 1, 1) := by decide +kernel
theorem dX0_fillSlope_2 : decode cX0_fillSlope 2 = .ok (.iload_n 1, 1) := by decide +kernel
theorem dX0_fillSlope_3 : decode cX0_fillSlope 3 = .ok (.aload_n 0, 1) := by decide +kernel
theorem dX0_fillSlope_4 : decode cX0_fillSlope 4 = .ok (.getfield 15, 3) := by decide +kernel
theorem dX0_fillSlope_7 : decode cX0_fillSlope 7 = .ok (.if_icmp .ge 33, 3) := by decide +kernel
theorem dX0_fillSlope_10 : decode cX0_fillSlope 10 = .ok (.aload_n 0, 1) := by decide +kernel
theorem dX0_fillSlope_11 : decode cX0_fillSlope 11 = .ok (.getfield 40, 3) := by decide +kernel
theorem dX0_fillSlope_14 : decode cX0_fillSlope 14 = .ok (.iload_n 1, 1) := by decide +kernel
theorem dX0_fillSlope_15 : decode cX0_fillSlope 15 = .ok (.iload_n 1, 1) := by decide +kernel
theorem dX0_fillSlope_16 : decode cX0_fillSlope 16 = .ok (.iconst 2, 1) := by decide +kernel
theorem dX0_fillSlope_17 : decode cX0_fillSlope 17 = .ok (.irem, 1) := by decide +kernel
theorem dX0_fillSlope_18 : decode cX0_fillSlope 18 = .ok (.ifCond .ne 14, 3) := by decide +kernel
theorem dX0_fillSlope_21 : decode cX0_fillSlope 21 = .ok (.aload_n 0, 1) := by decide +kernel
theorem dX0_fillSlope_22 : decode cX0_fillSlope 22 = .ok (.getfield 28, 3) := by decide +kernel
theorem dX0_fillSlope_25 : decode cX0_fillSlope 25 = .ok (.iload_n 1, 1) := by decide +kernel
theorem dX0_fillSlope_26 : decode cX0_fillSlope 26 = .ok (.iconst 1, 1) := by decide +kernel
theorem dX0_fillSlope_27 : decode cX0_fillSlope 27 = .ok (.iadd, 1) := by decide +kernel
theorem dX0_fillSlope_28 : decode cX0_fillSlope 28 = .ok (.iaload, 1) := by decide +kernel
theorem dX0_fillSlope_29 : decode cX0_fillSlope 29 = .ok (.goto 4, 3) := by decide +kernel
theorem dX0_fillSlope_32 : decode cX0_fillSlope 32 = .ok (.iconst 0, 1) := by decide +kernel
theorem dX0_fillSlope_33 : decode cX0_fillSlope 33 = .ok (.iastore, 1) := by decide +kernel
theorem dX0_fillSlope_34 : decode cX0_fillSlope 34 = .ok (.iinc 1 1, 3) := by decide +kernel
theorem dX0_fillSlope_37 : decode cX0_fillSlope 37 = .ok (.goto (-35), 3) := by decide +kernel
theorem dX0_fillSlope_40 : decode cX0_fillSlope 40 = .ok (.return_, 1) := by decide +kernel
set_option maxRecDepth 20000 in
theorem ggX0_correct_X1_inverse : GoodIn wsX0_correct wsX1_inverse := goodIn_r _ [9, 10, 11, 8, 12] (by decide +kernel) (by decide +kernel)
set_option maxRecDepth 20000 in
theorem gX0_correct_X1_inverse : GoodIn wsX0_correct (va_wsS RX0 108 yX1_inverse wsX1_inverse) := goodIn_app (goodIn_of _ (by decide +kernel)) ggX0_correct_X1_inverse
set_option maxRecDepth 20000 in
theorem ggX0_correct_X1_valueAt : GoodIn wsX0_correct wsX1_valueAt := goodIn_r _ [15, 10, 11, 8, 12] (by decide +kernel) (by decide +kernel)
set_option maxRecDepth 20000 in
theorem gX0_correct_X1_valueAt : GoodIn wsX0_correct (va_wsS RX0 111 yX1_valueAt wsX1_valueAt) := goodIn_app (goodIn_of _ (by decide +kernel)) ggX0_correct_X1_valueAt
set_option maxRecDepth 20000 in
theorem ggX0_correct_X1_product : GoodIn wsX0_correct wsX1_product := goodIn_r _ [12] (by decide +kernel) (by decide +kernel)
set_option maxRecDepth 20000 in
theorem gX0_correct_X1_product : GoodIn wsX0_correct (va_wsS RX0 51 yX1_product wsX1_product) := goodIn_app (goodIn_of _ (by decide +kernel)) ggX0_correct_X1_product
theorem dX0_correct_0 : decode cX0_correct 0 = .ok (.iconst 0, 1) := by decide +kernel
theorem dX0_correct_1 : decode cX0_correct 1 = .ok (.istore_n 3, 1) := by decide +kernel
theorem dX0_correct_2 : decode cX0_correct 2 = .ok (.iconst 0, 1) := by decide +kernel
theorem dX0_correct_3 : decode cX0_correct 3 = .ok (.istore 4, 2) := by decide +kernel
theorem dX0_correct_5 : decode cX0_correct 5 = .ok (.iload 4, 2) := by decide +kernel
theorem dX0_correct_7 : decode cX0_correct 7 = .ok (.aload_n 0, 1) := by decide +kernel
theorem dX0_correct_8 : decode cX0_correct 8 = .ok (.getfield 9, 3) := by decide +kernel
theorem dX0_correct_11 : decode cX0_correct 11 = .ok (.if_icmp .ge 92, 3) := by decide +kernel
theorem dX0_correct_14 : decode cX0_correct 14 = .ok (.aload_n 0, 1) := by decide +kernel
theorem dX0_correct_15 : decode cX0_correct 15 = .ok (.getfield 22, 3) := by decide +kernel
theorem dX0_correct_18 : decode cX0_correct 18 = .ok (.iload 4, 2) := by decide +kernel
theorem dX0_correct_20 : decode cX0_correct 20 = .ok (.iaload, 1) := by decide +kernel
theorem dX0_correct_21 : decode cX0_correct 21 = .ok (.invokestatic 108, 3) := by decide +kernel
theorem dX0_correct_24 : decode cX0_correct 24 = .ok (.istore 5, 2) := by decide +kernel
theorem dX0_correct_26 : decode cX0_correct 26 = .ok (.iload 5, 2) := by decide +kernel
theorem dX0_correct_28 : decode cX0_correct 28 = .ok (.aload_n 0, 1) := by decide +kernel
theorem dX0_correct_29 : decode cX0_correct 29 = .ok (.getfield 28, 3) := by decide +kernel
theorem dX0_correct_32 : decode cX0_correct 32 = .ok (.invokestatic 111, 3) := by decide +kernel
theorem dX0_correct_35 : decode cX0_correct 35 = .ok (.ifCond .ne 62, 3) := by decide +kernel
theorem dX0_correct_38 : decode cX0_correct 38 = .ok (.iload 5, 2) := by decide +kernel
theorem dX0_correct_40 : decode cX0_correct 40 = .ok (.aload_n 0, 1) := by decide +kernel
theorem dX0_correct_41 : decode cX0_correct 41 = .ok (.getfield 40, 3) := by decide +kernel
theorem dX0_correct_44 : decode cX0_correct 44 = .ok (.invokestatic 111, 3) := by decide +kernel
theorem dX0_correct_47 : decode cX0_correct 47 = .ok (.istore 6, 2) := by decide +kernel
theorem dX0_correct_49 : decode cX0_correct 49 = .ok (.iload 5, 2) := by decide +kernel
theorem dX0_correct_51 : decode cX0_correct 51 = .ok (.aload_n 0, 1) := by decide +kernel
theorem dX0_correct_52 : decode cX0_correct 52 = .ok (.getfield 37, 3) := by decide +kernel
theorem dX0_correct_55 : decode cX0_correct 55 = .ok (.invokestatic 111, 3) := by decide +kernel
theorem dX0_correct_58 : decode cX0_correct 58 = .ok (.iload 6, 2) := by decide +kernel
theorem dX0_correct_60 : decode cX0_correct 60 = .ok (.invokestatic 108, 3) := by decide +kernel
theorem dX0_correct_63 : decode cX0_correct 63 = .ok (.invokestatic 51, 3) := by decide +kernel
theorem dX0_correct_66 : decode cX0_correct 66 = .ok (.istore 7, 2) := by decide +kernel
theorem dX0_correct_68 : decode cX0_correct 68 = .ok (.aload_n 1, 1) := by decide +kernel
theorem dX0_correct_69 : decode cX0_correct 69 = .ok (.iload 4, 2) := by decide +kernel
theorem dX0_correct_71 : decode cX0_correct 71 = .ok (.dup2, 1) := by decide +kernel
theorem dX0_correct_72 : decode cX0_correct 72 = .ok (.iaload, 1) := by decide +kernel
theorem dX0_correct_73 : decode cX0_correct 73 = .ok (.iload 7, 2) := by decide +kernel
theorem dX0_correct_75 : decode cX0_correct 75 = .ok (.ixor, 1) := by decide +kernel
theorem dX0_correct_76 : decode cX0_correct 76 = .ok (.iastore, 1) := by decide +kernel
theorem dX0_correct_77 : decode cX0_correct 77 = .ok (.iload_n 3, 1) := by decide +kernel
theorem dX0_correct_78 : decode cX0_correct 78 = .ok (.iload 7, 2) := by decide +kernel
theorem dX0_correct_80 : decode cX0_correct 80 = .ok (.ifCond .eq 14, 3) := by decide +kernel
theorem dX0_correct_83 : decode cX0_correct 83 = .ok (.aload_n 2, 1) := by decide +kernel
theorem dX0_correct_84 : decode cX0_correct 84 = .ok (.iload 4, 2) := by decide +kernel
theorem dX0_correct_86 : decode cX0_correct 86 = .ok (.baload, 1) := by decide +kernel
theorem dX0_correct_87 : decode cX0_correct 87 = .ok (.ifCond .ne 7, 3) := by decide +kernel
theorem dX0_correct_90 : decode cX0_correct 90 = .ok (.iconst 1, 1) := by decide +kernel
theorem dX0_correct_91 : decode cX0_correct 91 = .ok (.goto 4, 3) := by decide +kernel
theorem dX0_correct_94 : decode cX0_correct 94 = .ok (.iconst 0, 1) := by decide +kernel
theorem dX0_correct_95 : decode cX0_correct 95 = .ok (.iadd, 1) := by decide +kernel
theorem dX0_correct_96 : decode cX0_correct 96 = .ok (.istore_n 3, 1) := by decide +kernel
theorem dX0_correct_97 : decode cX0_correct 97 = .ok (.iinc 4 1, 3) := by decide +kernel
theorem dX0_correct_100 : decode cX0_correct 100 = .ok (.goto (-95), 3) := by decide +kernel
theorem dX0_correct_103 : decode cX0_correct 103 = .ok (.iload_n 3, 1) := by decide +kernel
theorem dX0_correct_104 : decode cX0_correct 104 = .ok (.ireturn, 1) := by decide +kernel
theorem dX1_product_0 : decode cX1_product 0 = .ok (.iconst 0, 1) := by decide +kernel
theorem dX1_product_1 : decode cX1_product 1 = .ok (.istore_n 2, 1) := by decide +kernel
theorem dX1_product_2 : decode cX1_product 2 = .ok (.iload_n 0, 1) := by decide +kernel
theorem dX1_product_3 : decode cX1_product 3 = .ok (.istore_n 3, 1) := by decide +kernel
theorem dX1_product_4 : decode cX1_product 4 = .ok (.iconst 0, 1) := by decide +kernel
theorem dX1_product_5 : decode cX1_product 5 = .ok (.istore 4, 2) := by decide +kernel
theorem dX1_product_7 : decode cX1_product 7 = .ok (.iload 4, 2) := by decide +kernel
theorem dX1_product_9 : decode cX1_product 9 = .ok (.bipush 6, 2) := by decide +kernel
theorem dX1_product_11 : decode cX1_product 11 = .ok (.if_icmp .ge 37, 3) := by decide +kernel
theorem dX1_product_14 : decode cX1_product 14 = .ok (.iload_n 1, 1) := by decide +kernel
theorem dX1_product_15 : decode cX1_product 15 = .ok (.iload 4, 2) := by decide +kernel
theorem dX1_product_17 : decode cX1_product 17 = .ok (.ishr, 1) := by decide +kernel
theorem dX1_product_18 : decode cX1_product 18 = .ok (.iconst 1, 1) := by decide +kernel
theorem dX1_product_19 : decode cX1_product 19 = .ok (.iand, 1) := by decide +kernel
theorem dX1_product_20 : decode cX1_product 20 = .ok (.ifCond .eq 7, 3) := by decide +kernel
theorem dX1_product_23 : decode cX1_product 23 = .ok (.iload_n 2, 1) := by decide +kernel
theorem dX1_product_24 : decode cX1_product 24 = .ok (.iload_n 3, 1) := by decide +kernel
theorem dX1_product_25 : decode cX1_product 25 = .ok (.ixor, 1) := by decide +kernel
theorem dX1_product_26 : decode cX1_product 26 = .ok (.istore_n 2, 1) := by decide +kernel
theorem dX1_product_27 : decode cX1_product 27 = .ok (.iload_n 3, 1) := by decide +kernel
theorem dX1_product_28 : decode cX1_product 28 = .ok (.iconst 1, 1) := by decide +kernel
theorem dX1_product_29 : decode cX1_product 29 = .ok (.ishl, 1) := by decide +kernel
theorem dX1_product_30 : decode cX1_product 30 = .ok (.istore_n 3, 1) := by decide +kernel
theorem dX1_product_31 : decode cX1_product 31 = .ok (.iload_n 3, 1) := by decide +kernel
theorem dX1_product_32 : decode cX1_product 32 = .ok (.bipush 63, 2) := by decide +kernel
theorem dX1_product_34 : decode cX1_product 34 = .ok (.if_icmp .le 8, 3) := by decide +kernel
theorem dX1_product_37 : decode cX1_product 37 = .ok (.iload_n 3, 1) := by decide +kernel
theorem dX1_product_38 : decode cX1_product 38 = .ok (.bipush 67, 2) := by decide +kernel
theorem dX1_product_40 : decode cX1_product 40 = .ok (.ixor, 1) := by decide +kernel
theorem dX1_product_41 : decode cX1_product 41 = .ok (.istore_n 3, 1) := by decide +kernel
theorem dX1_product_42 : decode cX1_product 42 = .ok (.iinc 4 1, 3) := by decide +kernel
theorem dX1_product_45 : decode cX1_product 45 = .ok (.goto (-38), 3) := by decide +kernel
theorem dX1_product_48 : decode cX1_product 48 = .ok (.iload_n 2, 1) := by decide +kernel
theorem dX1_product_49 : decode cX1_product 49 = .ok (.ireturn, 1) := by decide +kernel
set_option maxRecDepth 20000 in
theorem ggX1_inverse_X1_product : GoodIn wsX1_inverse wsX1_product := goodIn_r _ [4] (by decide +kernel) (by decide +kernel)
set_option maxRecDepth 20000 in
theorem gX1_inverse_X1_product : GoodIn wsX1_inverse (va_wsS RX1 9 yX1_product wsX1_product) := goodIn_app (goodIn_of _ (by decide +kernel)) ggX1_inverse_X1_product
theorem dX1_inverse_0 : decode cX1_inverse 0 = .ok (.iconst 1, 1) := by decide +kernel
theorem dX1_inverse_1 : decode cX1_inverse 1 = .ok (.istore_n 1, 1) := by decide +kernel
theorem dX1_inverse_2 : decode cX1_inverse 2 = .ok (.iload_n 0, 1) := by decide +kernel
theorem dX1_inverse_3 : decode cX1_inverse 3 = .ok (.istore_n 2, 1) := by decide +kernel
theorem dX1_inverse_4 : decode cX1_inverse 4 = .ok (.iconst 1, 1) := by decide +kernel
theorem dX1_inverse_5 : decode cX1_inverse 5 = .ok (.istore_n 3, 1) := by decide +kernel
theorem dX1_inverse_6 : decode cX1_inverse 6 = .ok (.iload_n 3, 1) := by decide +kernel
theorem dX1_inverse_7 : decode cX1_inverse 7 = .ok (.bipush 6, 2) := by decide +kernel
theorem dX1_inverse_9 : decode cX1_inverse 9 = .ok (.if_icmp .ge 21, 3) := by decide +kernel
theorem dX1_inverse_12 : decode cX1_inverse 12 = .ok (.iload_n 2, 1) := by decide +kernel
theorem dX1_inverse_13 : decode cX1_inverse 13 = .ok (.iload_n 2, 1) := by decide +kernel
theorem dX1_inverse_14 : decode cX1_inverse 14 = .ok (.invokestatic 9, 3) := by decide +kernel
theorem dX1_inverse_17 : decode cX1_inverse 17 = .ok (.istore_n 2, 1) := by decide +kernel
theorem dX1_inverse_18 : decode cX1_inverse 18 = .ok (.iload_n 1, 1) := by decide +kernel
theorem dX1_inverse_19 : decode cX1_inverse 19 = .ok (.iload_n 2, 1) := by decide +kernel
theorem dX1_inverse_20 : decode cX1_inverse 20 = .ok (.invokestatic 9, 3) := by decide +kernel
theorem dX1_inverse_23 : decode cX1_inverse 23 = .ok (.istore_n 1, 1) := by decide +kernel
theorem dX1_inverse_24 : decode cX1_inverse 24 = .ok (.iinc 3 1, 3) := by decide +kernel
theorem dX1_inverse_27 : decode cX1_inverse 27 = .ok (.goto (-21), 3) := by decide +kernel
theorem dX1_inverse_30 : decode cX1_inverse 30 = .ok (.iload_n 1, 1) := by decide +kernel
theorem dX1_inverse_31 : decode cX1_inverse 31 = .ok (.ireturn, 1) := by decide +kernel
set_option maxRecDepth 20000 in
theorem ggX1_valueAt_X1_product : GoodIn wsX1_valueAt wsX1_product := goodIn_r _ [4] (by decide +kernel) (by decide +kernel)
set_option maxRecDepth 20000 in
theorem gX1_valueAt_X1_product : GoodIn wsX1_valueAt (va_wsS RX1 9 yX1_product wsX1_product) := goodIn_app (goodIn_of _ (by decide +kernel)) ggX1_valueAt_X1_product
theorem dX1_valueAt_0 : decode cX1_valueAt 0 = .ok (.iconst 0, 1) := by decide +kernel
theorem dX1_valueAt_1 : decode cX1_valueAt 1 = .ok (.istore_n 2, 1) := by decide +kernel
theorem dX1_valueAt_2 : decode cX1_valueAt 2 = .ok (.aload_n 1, 1) := by decide +kernel
theorem dX1_valueAt_3 : decode cX1_valueAt 3 = .ok (.arraylength, 1) := by decide +kernel
theorem dX1_valueAt_4 : decode cX1_valueAt 4 = .ok (.iconst 1, 1) := by decide +kernel
theorem dX1_valueAt_5 : decode cX1_valueAt 5 = .ok (.isub, 1) := by decide +kernel
theorem dX1_valueAt_6 : decode cX1_valueAt 6 = .ok (.istore_n 3, 1) := by decide +kernel
theorem dX1_valueAt_7 : decode cX1_valueAt 7 = .ok (.iload_n 3, 1) := by decide +kernel
theorem dX1_valueAt_8 : decode cX1_valueAt 8 = .ok (.ifCond .lt 19, 3) := by decide +kernel
theorem dX1_valueAt_11 : decode cX1_valueAt 11 = .ok (.iload_n 2, 1) := by decide +kernel
theorem dX1_valueAt_12 : decode cX1_valueAt 12 = .ok (.iload_n 0, 1) := by decide +kernel
theorem dX1_valueAt_13 : decode cX1_valueAt 13 = .ok (.invokestatic 9, 3) := by decide +kernel
theorem dX1_valueAt_16 : decode cX1_valueAt 16 = .ok (.aload_n 1, 1) := by decide +kernel
theorem dX1_valueAt_17 : decode cX1_valueAt 17 = .ok (.iload_n 3, 1) := by decide +kernel
theorem dX1_valueAt_18 : decode cX1_valueAt 18 = .ok (.iaload, 1) := by decide +kernel
theorem dX1_valueAt_19 : decode cX1_valueAt 19 = .ok (.ixor, 1) := by decide +kernel
theorem dX1_valueAt_20 : decode cX1_valueAt 20 = .ok (.istore_n 2, 1) := by decide +kernel
theorem dX1_valueAt_21 : decode cX1_valueAt 21 = .ok (.iinc 3 (-1), 3) := by decide +kernel
theorem dX1_valueAt_24 : decode cX1_valueAt 24 = .ok (.goto (-17), 3) := by decide +kernel
theorem dX1_valueAt_27 : decode cX1_valueAt 27 = .ok (.iload_n 2, 1) := by decide +kernel
theorem dX1_valueAt_28 : decode cX1_valueAt 28 = .ok (.ireturn, 1) := by decide +kernel
set_option maxRecDepth 20000 in
theorem ggX2_init_X2_widthsOf : GoodIn wsX2_init wsX2_widthsOf := goodIn_r _ [17, 18, 19, 20, 21] (by decide +kernel) (by decide +kernel)
set_option maxRecDepth 20000 in
theorem gX2_init_X2_widthsOf : GoodIn wsX2_init (va_wsS RX2 15 yX2_widthsOf wsX2_widthsOf) := goodIn_app (goodIn_of _ (by decide +kernel)) ggX2_init_X2_widthsOf
set_option maxRecDepth 20000 in
theorem ggX2_init_X2_checksOf : GoodIn wsX2_init wsX2_checksOf := goodIn_r _ [24] (by decide +kernel) (by decide +kernel)
set_option maxRecDepth 20000 in
theorem gX2_init_X2_checksOf : GoodIn wsX2_init (va_wsS RX2 23 yX2_checksOf wsX2_checksOf) := goodIn_app (goodIn_of _ (by decide +kernel)) ggX2_init_X2_checksOf
set_option maxRecDepth 20000 in
theorem ggX2_init_X2_dataSymbols : GoodIn wsX2_init wsX2_dataSymbols := goodIn_r _ [27] (by decide +kernel) (by decide +kernel)
set_option maxRecDepth 20000 in
theorem gX2_init_X2_dataSymbols : GoodIn wsX2_init (va_wsS RX2 30 yX2_dataSymbols wsX2_dataSymbols) := goodIn_app (goodIn_of _ (by decide +kernel)) ggX2_init_X2_dataSymbols
theorem dX2_init_0 : decode cX2_init 0 = .ok (.aload_n 0, 1) := by decide +kernel
theorem dX2_init_1 : decode cX2_init 1 = .ok (.invokespecial 3, 3) := by decide +kernel
theorem dX2_init_4 : decode cX2_init 4 = .ok (.aload_n 0, 1) := by decide +kernel
theorem dX2_init_5 : decode cX2_init 5 = .ok (.iload_n 1, 1) := by decide +kernel
theorem dX2_init_6 : decode cX2_init 6 = .ok (.iconst 3, 1) := by decide +kernel
theorem dX2_init_7 : decode cX2_init 7 = .ok (.if_icmp .ge 7, 3) := by decide +kernel
theorem dX2_init_10 : decode cX2_init 10 = .ok (.iload_n 1, 1) := by decide +kernel
theorem dX2_init_11 : decode cX2_init 11 = .ok (.goto 4, 3) := by decide +kernel
theorem dX2_init_14 : decode cX2_init 14 = .ok (.iconst 3, 1) := by decide +kernel
theorem dX2_init_15 : decode cX2_init 15 = .ok (.putfield 11, 3) := by decide +kernel
theorem dX2_init_18 : decode cX2_init 18 = .ok (.aload_n 0, 1) := by decide +kernel
theorem dX2_init_19 : decode cX2_init 19 = .ok (.aload_n 0, 1) := by decide +kernel
theorem dX2_init_20 : decode cX2_init 20 = .ok (.getfield 11, 3) := by decide +kernel
theorem dX2_init_23 : decode cX2_init 23 = .ok (.invokestatic 15, 3) := by decide +kernel
theorem dX2_init_26 : decode cX2_init 26 = .ok (.putfield 19, 3) := by decide +kernel
theorem dX2_init_29 : decode cX2_init 29 = .ok (.aload_n 0, 1) := by decide +kernel
theorem dX2_init_30 : decode cX2_init 30 = .ok (.aload_n 0, 1) := by decide +kernel
theorem dX2_init_31 : decode cX2_init 31 = .ok (.getfield 11, 3) := by decide +kernel
theorem dX2_init_34 : decode cX2_init 34 = .ok (.invokestatic 23, 3) := by decide +kernel
theorem dX2_init_37 : decode cX2_init 37 = .ok (.putfield 27, 3) := by decide +kernel
theorem dX2_init_40 : decode cX2_init 40 = .ok (.aload_n 0, 1) := by decide +kernel
theorem dX2_init_41 : decode cX2_init 41 = .ok (.aload_n 0, 1) := by decide +kernel
theorem dX2_init_42 : decode cX2_init 42 = .ok (.getfield 19, 3) := by decide +kernel
theorem dX2_init_45 : decode cX2_init 45 = .ok (.invokestatic 30, 3) := by decide +kernel
theorem dX2_init_48 : decode cX2_init 48 = .ok (.aload_n 0, 1) := by decide +kernel
theorem dX2_init_49 : decode cX2_init 49 = .ok (.getfield 27, 3) := by decide +kernel
theorem dX2_init_52 : decode cX2_init 52 = .ok (.iadd, 1) := by decide +kernel
theorem dX2_init_53 : decode cX2_init 53 = .ok (.putfield 34, 3) := by decide +kernel
theorem dX2_init_56 : decode cX2_init 56 = .ok (.aload_n 0, 1) := by decide +kernel
theorem dX2_init_57 : decode cX2_init 57 = .ok (.aload_n 0, 1) := by decide +kernel
theorem dX2_init_58 : decode cX2_init 58 = .ok (.getfield 11, 3) := by decide +kernel
theorem dX2_init_61 : decode cX2_init 61 = .ok (.ifCond .eq 11, 3) := by decide +kernel
theorem dX2_init_64 : decode cX2_init 64 = .ok (.aload_n 0, 1) := by decide +kernel
theorem dX2_init_65 : decode cX2_init 65 = .ok (.getfield 11, 3) := by decide +kernel
theorem dX2_init_68 : decode cX2_init 68 = .ok (.iconst 1, 1) := by decide +kernel
theorem dX2_init_69 : decode cX2_init 69 = .ok (.if_icmp .ne 7, 3) := by decide +kernel
theorem dX2_init_72 : decode cX2_init 72 = .ok (.iconst 1, 1) := by decide +kernel
theorem dX2_init_73 : decode cX2_init 73 = .ok (.goto 4, 3) := by decide +kernel
theorem dX2_init_76 : decode cX2_init 76 = .ok (.iconst 0, 1) := by decide +kernel
theorem dX2_init_77 : decode cX2_init 77 = .ok (.putfield 37, 3) := by decide +kernel
theorem dX2_init_80 : decode cX2_init 80 = .ok (.aload_n 0, 1) := by decide +kernel
theorem dX2_init_81 : decode cX2_init 81 = .ok (.aload_n 0, 1) := by decide +kernel
theorem dX2_init_82 : decode cX2_init 82 = .ok (.getfield 37, 3) := by decide +kernel
theorem dX2_init_85 : decode cX2_init 85 = .ok (.ifCond .eq 7, 3) := by decide +kernel
theorem dX2_init_88 : decode cX2_init 88 = .ok (.iconst 2, 1) := by decide +kernel
theorem dX2_init_89 : decode cX2_init 89 = .ok (.goto 4, 3) := by decide +kernel
theorem dX2_init_92 : decode cX2_init 92 = .ok (.iconst 1, 1) := by decide +kernel
theorem dX2_init_93 : decode cX2_init 93 = .ok (.putfield 41, 3) := by decide +kernel
theorem dX2_init_96 : decode cX2_init 96 = .ok (.aload_n 0, 1) := by decide +kernel
theorem dX2_init_97 : decode cX2_init 97 = .ok (.aload_n 0, 1) := by decide +kernel
theorem dX2_init_98 : decode cX2_init 98 = .ok (.getfield 37, 3) := by decide +kernel
theorem dX2_init_101 : decode cX2_init 101 = .ok (.ifCond .eq 7, 3) := by decide +kernel
theorem dX2_init_104 : decode cX2_init 104 = .ok (.iconst 3, 1) := by decide +kernel
theorem dX2_init_105 : decode cX2_init 105 = .ok (.goto 5, 3) := by decide +kernel
theorem dX2_init_108 : decode cX2_init 108 = .ok (.bipush 6, 2) := by decide +kernel
theorem dX2_init_110 : decode cX2_init 110 = .ok (.putfield 44, 3) := by decide +kernel
theorem dX2_init_113 : decode cX2_init 113 = .ok (.aload_n 0, 1) := by decide +kernel
theorem dX2_init_114 : decode cX2_init 114 = .ok (.aload_n 0, 1) := by decide +kernel
theorem dX2_init_115 : decode cX2_init 115 = .ok (.getfield 37, 3) := by decide +kernel
theorem dX2_init_118 : decode cX2_init 118 = .ok (.ifCond .eq 7, 3) := by decide +kernel
theorem dX2_init_121 : decode cX2_init 121 = .ok (.iconst 3, 1) := by decide +kernel
theorem dX2_init_122 : decode cX2_init 122 = .ok (.goto 4, 3) := by decide +kernel
theorem dX2_init_125 : decode cX2_init 125 = .ok (.iconst 1, 1) := by decide +kernel
theorem dX2_init_126 : decode cX2_init 126 = .ok (.putfield 47, 3) := by decide +kernel
theorem dX2_init_129 : decode cX2_init 129 = .ok (.aload_n 0, 1) := by decide +kernel
theorem dX2_init_130 : decode cX2_init 130 = .ok (.aload_n 0, 1) := by decide +kernel
theorem dX2_init_131 : decode cX2_init 131 = .ok (.getfield 11, 3) := by decide +kernel
theorem dX2_init_134 : decode cX2_init 134 = .ok (.iconst 2, 1) := by decide +kernel
theorem dX2_init_135 : decode cX2_init 135 = .ok (.if_icmp .ne 9, 3) := by decide +kernel
theorem dX2_init_138 : decode cX2_init 138 = .ok (.sipush 144, 3) := by decide +kernel
theorem dX2_init_141 : decode cX2_init 141 = .ok (.goto 14, 3) := by decide +kernel
theorem dX2_init_144 : decode cX2_init 144 = .ok (.aload_n 0, 1) := by decide +kernel
theorem dX2_init_145 : decode cX2_init 145 = .ok (.getfield 34, 3) := by decide +kernel
theorem dX2_init_148 : decode cX2_init 148 = .ok (.aload_n 0, 1) := by decide +kernel
theorem dX2_init_149 : decode cX2_init 149 = .ok (.getfield 44, 3) := by decide +kernel
theorem dX2_init_152 : decode cX2_init 152 = .ok (.imul, 1) := by decide +kernel
theorem dX2_init_153 : decode cX2_init 153 = .ok (.iconst 4, 1) := by decide +kernel
theorem dX2_init_154 : decode cX2_init 154 = .ok (.iadd, 1) := by decide +kernel
theorem dX2_init_155 : decode cX2_init 155 = .ok (.putfield 52, 3) := by decide +kernel
theorem dX2_init_158 : decode cX2_init 158 = .ok (.aload_n 0, 1) := by decide +kernel
theorem dX2_init_159 : decode cX2_init 159 = .ok (.aload_n 0, 1) := by decide +kernel
theorem dX2_init_160 : decode cX2_init 160 = .ok (.getfield 11, 3) := by decide +kernel
theorem dX2_init_163 : decode cX2_init 163 = .ok (.iconst 3, 1) := by decide +kernel
theorem dX2_init_164 : decode cX2_init 164 = .ok (.if_icmp .ne 10, 3) := by decide +kernel
theorem dX2_init_167 : decode cX2_init 167 = .ok (.iload_n 1, 1) := by decide +kernel
theorem dX2_init_168 : decode cX2_init 168 = .ok (.bipush 64, 2) := by decide +kernel
theorem dX2_init_170 : decode cX2_init 170 = .ok (.irem, 1) := by decide +kernel
theorem dX2_init_171 : decode cX2_init 171 = .ok (.goto 4, 3) := by decide +kernel
theorem dX2_init_174 : decode cX2_init 174 = .ok (.iconst 0, 1) := by decide +kernel
theorem dX2_init_175 : decode cX2_init 175 = .ok (.putfield 55, 3) := by decide +kernel
theorem dX2_init_178 : decode cX2_init 178 = .ok (.return_, 1) := by decide +kernel
theorem dX2_widthsOf_0 : decode cX2_widthsOf 0 = .ok (.iload_n 0, 1) := by decide +kernel
theorem dX2_widthsOf_1 : decode cX2_widthsOf 1 = .ok (.tableswitch 39 0 2 #[27, 31, 35], 27) := by decide +kernel
theorem dX2_widthsOf_28 : decode cX2_widthsOf 28 = .ok (.getstatic 58, 3) := by decide +kernel
theorem dX2_widthsOf_31 : decode cX2_widthsOf 31 = .ok (.areturn, 1) := by decide +kernel
theorem dX2_widthsOf_32 : decode cX2_widthsOf 32 = .ok (.getstatic 61, 3) := by decide +kernel
theorem dX2_widthsOf_35 : decode cX2_widthsOf 35 = .ok (.areturn, 1) := by decide +kernel
theorem dX2_widthsOf_36 : decode cX2_widthsOf 36 = .ok (.getstatic 64, 3) := by decide +kernel
theorem dX2_widthsOf_39 : decode cX2_widthsOf 39 = .ok (.areturn, 1) := by decide +kernel
theorem dX2_widthsOf_40 : decode cX2_widthsOf 40 = .ok (.getstatic 67, 3) := by decide +kernel
theorem dX2_widthsOf_43 : decode cX2_widthsOf 43 = .ok (.areturn, 1) := by decide +kernel
theorem dX2_checksOf_0 : decode cX2_checksOf 0 = .ok (.iload_n 0, 1) := by decide +kernel
theorem dX2_checksOf_1 : decode cX2_checksOf 1 = .ok (.tableswitch 35 0 2 #[27, 29, 32], 27) := by decide +kernel
theorem dX2_checksOf_28 : decode cX2_checksOf 28 = .ok (.iconst 4, 1) := by decide +kernel
theorem dX2_checksOf_29 : decode cX2_checksOf 29 = .ok (.ireturn, 1) := by decide +kernel
theorem dX2_checksOf_30 : decode cX2_checksOf 30 = .ok (.bipush 6, 2) := by decide +kernel
theorem dX2_checksOf_32 : decode cX2_checksOf 32 = .ok (.ireturn, 1) := by decide +kernel
theorem dX2_checksOf_33 : decode cX2_checksOf 33 = .ok (.bipush 8, 2) := by decide +kernel
theorem dX2_checksOf_35 : decode cX2_checksOf 35 = .ok (.ireturn, 1) := by decide +kernel
theorem dX2_checksOf_36 : decode cX2_checksOf 36 = .ok (.iconst 2, 1) := by decide +kernel
theorem dX2_checksOf_37 : decode cX2_checksOf 37 = .ok (.ireturn, 1) := by decide +kernel
theorem dX2_dataSymbols_0 : decode cX2_dataSymbols 0 = .ok (.iconst 0, 1) := by decide +kernel
theorem dX2_dataSymbols_1 : decode cX2_dataSymbols 1 = .ok (.istore_n 1, 1) := by decide +kernel
theorem dX2_dataSymbols_2 : decode cX2_dataSymbols 2 = .ok (.aload_n 0, 1) := by decide +kernel
theorem dX2_dataSymbols_3 : decode cX2_dataSymbols 3 = .ok (.astore_n 2, 1) := by decide +kernel
theorem dX2_dataSymbols_4 : decode cX2_dataSymbols 4 = .ok (.aload_n 2, 1) := by decide +kernel
theorem dX2_dataSymbols_5 : decode cX2_dataSymbols 5 = .ok (.arraylength, 1) := by decide +kernel
theorem dX2_dataSymbols_6 : decode cX2_dataSymbols 6 = .ok (.istore_n 3, 1) := by decide +kernel
theorem dX2_dataSymbols_7 : decode cX2_dataSymbols 7 = .ok (.iconst 0, 1) := by decide +kernel
theorem dX2_dataSymbols_8 : decode cX2_dataSymbols 8 = .ok (.istore 4, 2) := by decide +kernel
theorem dX2_dataSymbols_10 : decode cX2_dataSymbols 10 = .ok (.iload 4, 2) := by decide +kernel
theorem dX2_dataSymbols_12 : decode cX2_dataSymbols 12 = .ok (.iload_n 3, 1) := by decide +kernel
theorem dX2_dataSymbols_13 : decode cX2_dataSymbols 13 = .ok (.if_icmp .ge 20, 3) := by decide +kernel
theorem dX2_dataSymbols_16 : decode cX2_dataSymbols 16 = .ok (.aload_n 2, 1) := by decide +kernel
theorem dX2_dataSymbols_17 : decode cX2_dataSymbols 17 = .ok (.iload 4, 2) := by decide +kernel
theorem dX2_dataSymbols_19 : decode cX2_dataSymbols 19 = .ok (.iaload, 1) := by decide +kernel
theorem dX2_dataSymbols_20 : decode cX2_dataSymbols 20 = .ok (.istore 5, 2) := by decide +kernel
theorem dX2_dataSymbols_22 : decode cX2_dataSymbols 22 = .ok (.iload_n 1, 1) := by decide +kernel
theorem dX2_dataSymbols_23 : decode cX2_dataSymbols 23 = .ok (.iload 5, 2) := by decide +kernel
theorem dX2_dataSymbols_25 : decode cX2_dataSymbols 25 = .ok (.iadd, 1) := by decide +kernel
theorem dX2_dataSymbols_26 : decode cX2_dataSymbols 26 = .ok (.istore_n 1, 1) := by decide +kernel
theorem dX2_dataSymbols_27 : decode cX2_dataSymbols 27 = .ok (.iinc 4 1, 3) := by decide +kernel
theorem dX2_dataSymbols_30 : decode cX2_dataSymbols 30 = .ok (.goto (-20), 3) := by decide +kernel
theorem dX2_dataSymbols_33 : decode cX2_dataSymbols 33 = .ok (.iload_n 1, 1) := by decide +kernel
theorem dX2_dataSymbols_34 : decode cX2_dataSymbols 34 = .ok (.bipush 6, 2) := by decide +kernel
theorem dX2_dataSymbols_36 : decode cX2_dataSymbols 36 = .ok (.idiv, 1) := by decide +kernel
theorem dX2_dataSymbols_37 : decode cX2_dataSymbols 37 = .ok (.ireturn, 1) := by decide +kernel
theorem dX2_putFields_0 : decode cX2_putFields 0 = .ok (.iconst 0, 1) := by decide +kernel
theorem dX2_putFields_1 : decode cX2_putFields 1 = .ok (.istore_n 3, 1) := by decide +kernel
theorem dX2_putFields_2 : decode cX2_putFields 2 = .ok (.iconst 0, 1) := by decide +kernel
theorem dX2_putFields_3 : decode cX2_putFields 3 = .ok (.istore 4, 2) := by decide +kernel
theorem dX2_putFields_5 : decode cX2_putFields 5 = .ok (.iload 4, 2) := by decide +kernel
theorem dX2_putFields_7 : decode cX2_putFields 7 = .ok (.aload_n 0, 1) := by decide +kernel
theorem dX2_putFields_8 : decode cX2_putFields 8 = .ok (.getfield 19, 3) := by decide +kernel
theorem dX2_putFields_11 : decode cX2_putFields 11 = .ok (.arraylength, 1) := by decide +kernel
theorem dX2_putFields_12 : decode cX2_putFields 12 = .ok (.if_icmp .ge 49, 3) := by decide +kernel
theorem dX2_putFields_15 : decode cX2_putFields 15 = .ok (.aload_n 0, 1) := by decide +kernel
theorem dX2_putFields_16 : decode cX2_putFields 16 = .ok (.getfield 19, 3) := by decide +kernel
theorem dX2_putFields_19 : decode cX2_putFields 19 = .ok (.iload 4, 2) := by decide +kernel
theorem dX2_putFields_21 : decode cX2_putFields 21 = .ok (.iaload, 1) := by decide +kernel
theorem dX2_putFields_22 : decode cX2_putFields 22 = .ok (.bipush 6, 2) := by decide +kernel
theorem dX2_putFields_24 : decode cX2_putFields 24 = .ok (.isub, 1) := by decide +kernel
theorem dX2_putFields_25 : decode cX2_putFields 25 = .ok (.istore 5, 2) := by decide +kernel
theorem dX2_putFields_27 : decode cX2_putFields 27 = .ok (.iload 5, 2) := by decide +kernel
theorem dX2_putFields_29 : decode cX2_putFields 29 = .ok (.ifCond .lt 26, 3) := by decide +kernel
theorem dX2_putFields_32 : decode cX2_putFields 32 = .ok (.aload_n 2, 1) := by decide +kernel
theorem dX2_putFields_33 : decode cX2_putFields 33 = .ok (.iload_n 3, 1) := by decide +kernel
theorem dX2_putFields_34 : decode cX2_putFields 34 = .ok (.aload_n 1, 1) := by decide +kernel
theorem dX2_putFields_35 : decode cX2_putFields 35 = .ok (.iload 4, 2) := by decide +kernel
theorem dX2_putFields_37 : decode cX2_putFields 37 = .ok (.laload, 1) := by decide +kernel
theorem dX2_putFields_38 : decode cX2_putFields 38 = .ok (.iload 5, 2) := by decide +kernel
theorem dX2_putFields_40 : decode cX2_putFields 40 = .ok (.lshr, 1) := by decide +kernel
theorem dX2_putFields_41 : decode cX2_putFields 41 = .ok (.l2i, 1) := by decide +kernel
theorem dX2_putFields_42 : decode cX2_putFields 42 = .ok (.bipush 63, 2) := by decide +kernel
theorem dX2_putFields_44 : decode cX2_putFields 44 = .ok (.iand, 1) := by decide +kernel
theorem dX2_putFields_45 : decode cX2_putFields 45 = .ok (.iastore, 1) := by decide +kernel
theorem dX2_putFields_46 : decode cX2_putFields 46 = .ok (.iinc 3 1, 3) := by decide +kernel
theorem dX2_putFields_49 : decode cX2_putFields 49 = .ok (.iinc 5 (-6), 3) := by decide +kernel
theorem dX2_putFields_52 : decode cX2_putFields 52 = .ok (.goto (-25), 3) := by decide +kernel
theorem dX2_putFields_55 : decode cX2_putFields 55 = .ok (.iinc 4 1, 3) := by decide +kernel
theorem dX2_putFields_58 : decode cX2_putFields 58 = .ok (.goto (-53), 3) := by decide +kernel
theorem dX2_putFields_61 : decode cX2_putFields 61 = .ok (.return_, 1) := by decide +kernel
theorem dX2_takeFields_0 : decode cX2_takeFields 0 = .ok (.iconst 0, 1) := by decide +kernel
theorem dX2_takeFields_1 : decode cX2_takeFields 1 = .ok (.istore_n 3, 1) := by decide +kernel
theorem dX2_takeFields_2 : decode cX2_takeFields 2 = .ok (.iconst 0, 1) := by decide +kernel
theorem dX2_takeFields_3 : decode cX2_takeFields 3 = .ok (.istore 4, 2) := by decide +kernel
theorem dX2_takeFields_5 : decode cX2_takeFields 5 = .ok (.iload 4, 2) := by decide +kernel
theorem dX2_takeFields_7 : decode cX2_takeFields 7 = .ok (.aload_n 0, 1) := by decide +kernel
theorem dX2_takeFields_8 : decode cX2_takeFields 8 = .ok (.getfield 19, 3) := by decide +kernel
theorem dX2_takeFields_11 : decode cX2_takeFields 11 = .ok (.arraylength, 1) := by decide +kernel
theorem dX2_takeFields_12 : decode cX2_takeFields 12 = .ok (.if_icmp .ge 54, 3) := by decide +kernel
theorem dX2_takeFields_15 : decode cX2_takeFields 15 = .ok (.lconst 0, 1) := by decide +kernel
theorem dX2_takeFields_16 : decode cX2_takeFields 16 = .ok (.lstore 5, 2) := by decide +kernel
theorem dX2_takeFields_18 : decode cX2_takeFields 18 = .ok (.iconst 0, 1) := by decide +kernel
theorem dX2_takeFields_19 : decode cX2_takeFields 19 = .ok (.istore 7, 2) := by decide +kernel
theorem dX2_takeFields_21 : decode cX2_takeFields 21 = .ok (.iload 7, 2) := by decide +kernel
theorem dX2_takeFields_23 : decode cX2_takeFields 23 = .ok (.aload_n 0, 1) := by decide +kernel
theorem dX2_takeFields_24 : decode cX2_takeFields 24 = .ok (.getfield 19, 3) := by decide +kernel
theorem dX2_takeFields_27 : decode cX2_takeFields 27 = .ok (.iload 4, 2) := by decide +kernel
theorem dX2_takeFields_29 : decode cX2_takeFields 29 = .ok (.iaload, 1) := by decide +kernel
theorem dX2_takeFields_30 : decode cX2_takeFields 30 = .ok (.if_icmp .ge 24, 3) := by decide +kernel
theorem dX2_takeFields_33 : decode cX2_takeFields 33 = .ok (.lload 5, 2) := by decide +kernel
theorem dX2_takeFields_35 : decode cX2_takeFields 35 = .ok (.bipush 6, 2) := by decide +kernel
theorem dX2_takeFields_37 : decode cX2_takeFields 37 = .ok (.lshl, 1) := by decide +kernel
theorem dX2_takeFields_38 : decode cX2_takeFields 38 = .ok (.aload_n 1, 1) := by decide +kernel
theorem dX2_takeFields_39 : decode cX2_takeFields 39 = .ok (.iload_n 3, 1) := by decide +kernel
theorem dX2_takeFields_40 : decode cX2_takeFields 40 = .ok (.iaload, 1) := by decide +kernel
theorem dX2_takeFields_41 : decode cX2_takeFields 41 = .ok (.i2l, 1) := by decide +kernel
theorem dX2_takeFields_42 : decode cX2_takeFields 42 = .ok (.lor, 1) := by decide +kernel
theorem dX2_takeFields_43 : decode cX2_takeFields 43 = .ok (.lstore 5, 2) := by decide +kernel
theorem dX2_takeFields_45 : decode cX2_takeFields 45 = .ok (.iinc 3 1, 3) := by decide +kernel
theorem dX2_takeFields_48 : decode cX2_takeFields 48 = .ok (.iinc 7 6, 3) := by decide +kernel
theorem dX2_takeFields_51 : decode cX2_takeFields 51 = .ok (.goto (-30), 3) := by decide +kernel
theorem dX2_takeFields_54 : decode cX2_takeFields 54 = .ok (.aload_n 2, 1) := by decide +kernel
theorem dX2_takeFields_55 : decode cX2_takeFields 55 = .ok (.iload 4, 2) := by decide +kernel
theorem dX2_takeFields_57 : decode cX2_takeFields 57 = .ok (.lload 5, 2) := by decide +kernel
theorem dX2_takeFields_59 : decode cX2_takeFields 59 = .ok (.lastore, 1) := by decide +kernel
theorem dX2_takeFields_60 : decode cX2_takeFields 60 = .ok (.iinc 4 1, 3) := by decide +kernel
theorem dX2_takeFields_63 : decode cX2_takeFields 63 = .ok (.goto (-58), 3) := by decide +kernel
theorem dX2_takeFields_66 : decode cX2_takeFields 66 = .ok (.return_, 1) := by decide +kernel
set_option maxRecDepth 20000 in
theorem ggX2_draw_X2_frameAt : GoodIn wsX2_draw wsX2_frameAt := goodIn_r _ [11, 6, 12, 13, 14, 1, 15, 16, 17, 18, 47, 48, 49, 50, 51, 52, 53, 54, 55, 56] (by decide +kernel) (by decide +kernel)
set_option maxRecDepth 20000 in
theorem gX2_draw_X2_frameAt : GoodIn wsX2_draw (wsV RX2 72 RX2 yX2_frameAt wsX2_frameAt) := goodIn_app (goodIn_of _ (by decide +kernel)) ggX2_draw_X2_frameAt
set_option maxRecDepth 20000 in
theorem ggX2_draw_X2_keyOf : GoodIn wsX2_draw wsX2_keyOf := goodIn_r _ [22, 2, 23, 24, 47, 48, 49, 50, 51, 52, 53, 54, 55, 56] (by decide +kernel) (by decide +kernel)
set_option maxRecDepth 20000 in
theorem gX2_draw_X2_keyOf : GoodIn wsX2_draw (wsV RX2 75 RX2 yX2_keyOf wsX2_keyOf) := goodIn_app (goodIn_of _ (by decide +kernel)) ggX2_draw_X2_keyOf
set_option maxRecDepth 20000 in
theorem ggX2_draw_X2_placeOf : GoodIn wsX2_draw wsX2_placeOf := goodIn_r _ [28, 6, 29, 30, 17, 31, 47, 48, 49, 50, 51, 52, 53, 54, 55, 56] (by decide +kernel) (by decide +kernel)
set_option maxRecDepth 20000 in
theorem gX2_draw_X2_placeOf : GoodIn wsX2_draw (wsV RX2 78 RX2 yX2_placeOf wsX2_placeOf) := goodIn_app (goodIn_of _ (by decide +kernel)) ggX2_draw_X2_placeOf
set_option maxRecDepth 20000 in
theorem ggX2_draw_X2_turnAt : GoodIn wsX2_draw wsX2_turnAt := goodIn_r _ [35, 6, 36, 37, 17, 38, 47, 48, 49, 50, 51, 52, 53, 54, 55, 56] (by decide +kernel) (by decide +kernel)
set_option maxRecDepth 20000 in
theorem gX2_draw_X2_turnAt : GoodIn wsX2_draw (wsV RX2 81 RX2 yX2_turnAt wsX2_turnAt) := goodIn_app (goodIn_of _ (by decide +kernel)) ggX2_draw_X2_turnAt
set_option maxRecDepth 20000 in
theorem ggX2_draw_X3_drawMask : GoodIn wsX2_draw wsX3_drawMask := goodIn_r _ [41, 42, 30, 17, 31, 43, 44, 45, 46] (by decide +kernel) (by decide +kernel)
set_option maxRecDepth 20000 in
theorem gX2_draw_X3_drawMask : GoodIn wsX2_draw (va_wsS RX2 85 yX3_drawMask wsX3_drawMask) := goodIn_app (goodIn_of _ (by decide +kernel)) ggX2_draw_X3_drawMask
theorem dX2_draw_0 : decode cX2_draw 0 = .ok (.iconst 0, 1) := by decide +kernel
theorem dX2_draw_1 : decode cX2_draw 1 = .ok (.istore 4, 2) := by decide +kernel
theorem dX2_draw_3 : decode cX2_draw 3 = .ok (.iload 4, 2) := by decide +kernel
theorem dX2_draw_5 : decode cX2_draw 5 = .ok (.aload_n 0, 1) := by decide +kernel
theorem dX2_draw_6 : decode cX2_draw 6 = .ok (.getfield 52, 3) := by decide +kernel
theorem dX2_draw_9 : decode cX2_draw 9 = .ok (.if_icmp .ge 19, 3) := by decide +kernel
theorem dX2_draw_12 : decode cX2_draw 12 = .ok (.aload_n 3, 1) := by decide +kernel
theorem dX2_draw_13 : decode cX2_draw 13 = .ok (.iload 4, 2) := by decide +kernel
theorem dX2_draw_15 : decode cX2_draw 15 = .ok (.aload_n 0, 1) := by decide +kernel
theorem dX2_draw_16 : decode cX2_draw 16 = .ok (.iload 4, 2) := by decide +kernel
theorem dX2_draw_18 : decode cX2_draw 18 = .ok (.invokevirtual 72, 3) := by decide +kernel
theorem dX2_draw_21 : decode cX2_draw 21 = .ok (.iastore, 1) := by decide +kernel
theorem dX2_draw_22 : decode cX2_draw 22 = .ok (.iinc 4 1, 3) := by decide +kernel
theorem dX2_draw_25 : decode cX2_draw 25 = .ok (.goto (-22), 3) := by decide +kernel
theorem dX2_draw_28 : decode cX2_draw 28 = .ok (.iconst 0, 1) := by decide +kernel
theorem dX2_draw_29 : decode cX2_draw 29 = .ok (.istore 4, 2) := by decide +kernel
theorem dX2_draw_31 : decode cX2_draw 31 = .ok (.iload 4, 2) := by decide +kernel
theorem dX2_draw_33 : decode cX2_draw 33 = .ok (.aload_n 0, 1) := by decide +kernel
theorem dX2_draw_34 : decode cX2_draw 34 = .ok (.getfield 34, 3) := by decide +kernel
theorem dX2_draw_37 : decode cX2_draw 37 = .ok (.if_icmp .ge 92, 3) := by decide +kernel
theorem dX2_draw_40 : decode cX2_draw 40 = .ok (.aload_n 1, 1) := by decide +kernel
theorem dX2_draw_41 : decode cX2_draw 41 = .ok (.iload 4, 2) := by decide +kernel
theorem dX2_draw_43 : decode cX2_draw 43 = .ok (.iaload, 1) := by decide +kernel
theorem dX2_draw_44 : decode cX2_draw 44 = .ok (.aload_n 0, 1) := by decide +kernel
theorem dX2_draw_45 : decode cX2_draw 45 = .ok (.iload 4, 2) := by decide +kernel
theorem dX2_draw_47 : decode cX2_draw 47 = .ok (.invokevirtual 75, 3) := by decide +kernel
theorem dX2_draw_50 : decode cX2_draw 50 = .ok (.ixor, 1) := by decide +kernel
theorem dX2_draw_51 : decode cX2_draw 51 = .ok (.istore 5, 2) := by decide +kernel
theorem dX2_draw_53 : decode cX2_draw 53 = .ok (.iconst 0, 1) := by decide +kernel
theorem dX2_draw_54 : decode cX2_draw 54 = .ok (.istore 6, 2) := by decide +kernel
theorem dX2_draw_56 : decode cX2_draw 56 = .ok (.iload 6, 2) := by decide +kernel
theorem dX2_draw_58 : decode cX2_draw 58 = .ok (.aload_n 0, 1) := by decide +kernel
theorem dX2_draw_59 : decode cX2_draw 59 = .ok (.getfield 44, 3) := by decide +kernel
theorem dX2_draw_62 : decode cX2_draw 62 = .ok (.if_icmp .ge 61, 3) := by decide +kernel
theorem dX2_draw_65 : decode cX2_draw 65 = .ok (.aload_n 0, 1) := by decide +kernel
theorem dX2_draw_66 : decode cX2_draw 66 = .ok (.iload 4, 2) := by decide +kernel
theorem dX2_draw_68 : decode cX2_draw 68 = .ok (.aload_n 0, 1) := by decide +kernel
theorem dX2_draw_69 : decode cX2_draw 69 = .ok (.getfield 44, 3) := by decide +kernel
theorem dX2_draw_72 : decode cX2_draw 72 = .ok (.imul, 1) := by decide +kernel
theorem dX2_draw_73 : decode cX2_draw 73 = .ok (.iload 6, 2) := by decide +kernel
theorem dX2_draw_75 : decode cX2_draw 75 = .ok (.iadd, 1) := by decide +kernel
theorem dX2_draw_76 : decode cX2_draw 76 = .ok (.invokevirtual 78, 3) := by decide +kernel
theorem dX2_draw_79 : decode cX2_draw 79 = .ok (.istore 7, 2) := by decide +kernel
theorem dX2_draw_81 : decode cX2_draw 81 = .ok (.bipush 6, 2) := by decide +kernel
theorem dX2_draw_83 : decode cX2_draw 83 = .ok (.iload 6, 2) := by decide +kernel
theorem dX2_draw_85 : decode cX2_draw 85 = .ok (.iconst 1, 1) := by decide +kernel
theorem dX2_draw_86 : decode cX2_draw 86 = .ok (.iadd, 1) := by decide +kernel
theorem dX2_draw_87 : decode cX2_draw 87 = .ok (.aload_n 0, 1) := by decide +kernel
theorem dX2_draw_88 : decode cX2_draw 88 = .ok (.getfield 41, 3) := by decide +kernel
theorem dX2_draw_91 : decode cX2_draw 91 = .ok (.imul, 1) := by decide +kernel
theorem dX2_draw_92 : decode cX2_draw 92 = .ok (.isub, 1) := by decide +kernel
theorem dX2_draw_93 : decode cX2_draw 93 = .ok (.istore 8, 2) := by decide +kernel
theorem dX2_draw_95 : decode cX2_draw 95 = .ok (.aload_n 3, 1) := by decide +kernel
theorem dX2_draw_96 : decode cX2_draw 96 = .ok (.iload 7, 2) := by decide +kernel
theorem dX2_draw_98 : decode cX2_draw 98 = .ok (.iload 5, 2) := by decide +kernel
theorem dX2_draw_100 : decode cX2_draw 100 = .ok (.iload 8, 2) := by decide +kernel
theorem dX2_draw_102 : decode cX2_draw 102 = .ok (.ishr, 1) := by decide +kernel
theorem dX2_draw_103 : decode cX2_draw 103 = .ok (.aload_n 0, 1) := by decide +kernel
theorem dX2_draw_104 : decode cX2_draw 104 = .ok (.getfield 47, 3) := by decide +kernel
theorem dX2_draw_107 : decode cX2_draw 107 = .ok (.iand, 1) := by decide +kernel
theorem dX2_draw_108 : decode cX2_draw 108 = .ok (.aload_n 0, 1) := by decide +kernel
theorem dX2_draw_109 : decode cX2_draw 109 = .ok (.iload 7, 2) := by decide +kernel
theorem dX2_draw_111 : decode cX2_draw 111 = .ok (.iload_n 2, 1) := by decide +kernel
theorem dX2_draw_112 : decode cX2_draw 112 = .ok (.invokevirtual 81, 3) := by decide +kernel
theorem dX2_draw_115 : decode cX2_draw 115 = .ok (.ixor, 1) := by decide +kernel
theorem dX2_draw_116 : decode cX2_draw 116 = .ok (.iastore, 1) := by decide +kernel
theorem dX2_draw_117 : decode cX2_draw 117 = .ok (.iinc 6 1, 3) := by decide +kernel
theorem dX2_draw_120 : decode cX2_draw 120 = .ok (.goto (-64), 3) := by decide +kernel
theorem dX2_draw_123 : decode cX2_draw 123 = .ok (.iinc 4 1, 3) := by decide +kernel
theorem dX2_draw_126 : decode cX2_draw 126 = .ok (.goto (-95), 3) := by decide +kernel
theorem dX2_draw_129 : decode cX2_draw 129 = .ok (.aload_n 0, 1) := by decide +kernel
theorem dX2_draw_130 : decode cX2_draw 130 = .ok (.getfield 11, 3) := by decide +kernel
theorem dX2_draw_133 : decode cX2_draw 133 = .ok (.iconst 2, 1) := by decide +kernel
theorem dX2_draw_134 : decode cX2_draw 134 = .ok (.if_icmp .ne 8, 3) := by decide +kernel
theorem dX2_draw_137 : decode cX2_draw 137 = .ok (.iload_n 2, 1) := by decide +kernel
theorem dX2_draw_138 : decode cX2_draw 138 = .ok (.aload_n 3, 1) := by decide +kernel
theorem dX2_draw_139 : decode cX2_draw 139 = .ok (.invokestatic 85, 3) := by decide +kernel
theorem dX2_draw_142 : decode cX2_draw 142 = .ok (.return_, 1) := by decide +kernel
set_option maxRecDepth 20000 in
theorem ggX2_takeWord_X2_placeOf : GoodIn wsX2_takeWord wsX2_placeOf := goodIn_r _ [8, 9, 10, 11, 12, 13, 27, 28, 29, 30, 31, 32, 33, 34, 35, 36] (by decide +kernel) (by decide +kernel)
set_option maxRecDepth 20000 in
theorem gX2_takeWord_X2_placeOf : GoodIn wsX2_takeWord (wsV RX2 78 RX2 yX2_placeOf wsX2_placeOf) := goodIn_app (goodIn_of _ (by decide +kernel)) ggX2_takeWord_X2_placeOf
set_option maxRecDepth 20000 in
theorem ggX2_takeWord_X2_turnAt : GoodIn wsX2_takeWord wsX2_turnAt := goodIn_r _ [17, 9, 18, 19, 12, 20, 27, 28, 29, 30, 31, 32, 33, 34, 35, 36] (by decide +kernel) (by decide +kernel)
set_option maxRecDepth 20000 in
theorem gX2_takeWord_X2_turnAt : GoodIn wsX2_takeWord (wsV RX2 81 RX2 yX2_turnAt wsX2_turnAt) := goodIn_app (goodIn_of _ (by decide +kernel)) ggX2_takeWord_X2_turnAt
set_option maxRecDepth 20000 in
theorem ggX2_takeWord_X2_keyOf : GoodIn wsX2_takeWord wsX2_keyOf := goodIn_r _ [24, 1, 25, 26, 27, 28, 29, 30, 31, 32, 33, 34, 35, 36] (by decide +kernel) (by decide +kernel)
set_option maxRecDepth 20000 in
theorem gX2_takeWord_X2_keyOf : GoodIn wsX2_takeWord (wsV RX2 75 RX2 yX2_keyOf wsX2_keyOf) := goodIn_app (goodIn_of _ (by decide +kernel)) ggX2_takeWord_X2_keyOf
theorem dX2_takeWord_0 : decode cX2_takeWord 0 = .ok (.iconst 0, 1) := by decide +kernel
theorem dX2_takeWord_1 : decode cX2_takeWord 1 = .ok (.istore 5, 2) := by decide +kernel
theorem dX2_takeWord_3 : decode cX2_takeWord 3 = .ok (.iload 5, 2) := by decide +kernel
theorem dX2_takeWord_5 : decode cX2_takeWord 5 = .ok (.aload_n 0, 1) := by decide +kernel
theorem dX2_takeWord_6 : decode cX2_takeWord 6 = .ok (.getfield 34, 3) := by decide +kernel
theorem dX2_takeWord_9 : decode cX2_takeWord 9 = .ok (.if_icmp .ge 124, 3) := by decide +kernel
theorem dX2_takeWord_12 : decode cX2_takeWord 12 = .ok (.iconst 0, 1) := by decide +kernel
theorem dX2_takeWord_13 : decode cX2_takeWord 13 = .ok (.istore 6, 2) := by decide +kernel
theorem dX2_takeWord_15 : decode cX2_takeWord 15 = .ok (.aload 4, 2) := by decide +kernel
theorem dX2_takeWord_17 : decode cX2_takeWord 17 = .ok (.iload 5, 2) := by decide +kernel
theorem dX2_takeWord_19 : decode cX2_takeWord 19 = .ok (.iconst 0, 1) := by decide +kernel
theorem dX2_takeWord_20 : decode cX2_takeWord 20 = .ok (.bastore, 1) := by decide +kernel
theorem dX2_takeWord_21 : decode cX2_takeWord 21 = .ok (.iconst 0, 1) := by decide +kernel
theorem dX2_takeWord_22 : decode cX2_takeWord 22 = .ok (.istore 7, 2) := by decide +kernel
theorem dX2_takeWord_24 : decode cX2_takeWord 24 = .ok (.iload 7, 2) := by decide +kernel
theorem dX2_takeWord_26 : decode cX2_takeWord 26 = .ok (.aload_n 0, 1) := by decide +kernel
theorem dX2_takeWord_27 : decode cX2_takeWord 27 = .ok (.getfield 44, 3) := by decide +kernel
theorem dX2_takeWord_30 : decode cX2_takeWord 30 = .ok (.if_icmp .ge 72, 3) := by decide +kernel
theorem dX2_takeWord_33 : decode cX2_takeWord 33 = .ok (.aload_n 0, 1) := by decide +kernel
theorem dX2_takeWord_34 : decode cX2_takeWord 34 = .ok (.iload 5, 2) := by decide +kernel
theorem dX2_takeWord_36 : decode cX2_takeWord 36 = .ok (.aload_n 0, 1) := by decide +kernel
theorem dX2_takeWord_37 : decode cX2_takeWord 37 = .ok (.getfield 44, 3) := by decide +kernel
theorem dX2_takeWord_40 : decode cX2_takeWord 40 = .ok (.imul, 1) := by decide +kernel
theorem dX2_takeWord_41 : decode cX2_takeWord 41 = .ok (.iload 7, 2) := by decide +kernel
theorem dX2_takeWord_43 : decode cX2_takeWord 43 = .ok (.iadd, 1) := by decide +kernel
theorem dX2_takeWord_44 : decode cX2_takeWord 44 = .ok (.invokevirtual 78, 3) := by decide +kernel
theorem dX2_takeWord_47 : decode cX2_takeWord 47 = .ok (.istore 8, 2) := by decide +kernel
theorem dX2_takeWord_49 : decode cX2_takeWord 49 = .ok (.aload_n 1, 1) := by decide +kernel
theorem dX2_takeWord_50 : decode cX2_takeWord 50 = .ok (.iload 8, 2) := by decide +kernel
theorem dX2_takeWord_52 : decode cX2_takeWord 52 = .ok (.iaload, 1) := by decide +kernel
theorem dX2_takeWord_53 : decode cX2_takeWord 53 = .ok (.iconst (-1), 1) := by decide +kernel
theorem dX2_takeWord_54 : decode cX2_takeWord 54 = .ok (.if_icmp .ne 12, 3) := by decide +kernel
theorem dX2_takeWord_57 : decode cX2_takeWord 57 = .ok (.aload 4, 2) := by decide +kernel
theorem dX2_takeWord_59 : decode cX2_takeWord 59 = .ok (.iload 5, 2) := by decide +kernel
theorem dX2_takeWord_61 : decode cX2_takeWord 61 = .ok (.iconst 1, 1) := by decide +kernel
theorem dX2_takeWord_62 : decode cX2_takeWord 62 = .ok (.bastore, 1) := by decide +kernel
theorem dX2_takeWord_63 : decode cX2_takeWord 63 = .ok (.goto 33, 3) := by decide +kernel
theorem dX2_takeWord_66 : decode cX2_takeWord 66 = .ok (.iload 6, 2) := by decide +kernel
theorem dX2_takeWord_68 : decode cX2_takeWord 68 = .ok (.aload_n 1, 1) := by decide +kernel
theorem dX2_takeWord_69 : decode cX2_takeWord 69 = .ok (.iload 8, 2) := by decide +kernel
theorem dX2_takeWord_71 : decode cX2_takeWord 71 = .ok (.iaload, 1) := by decide +kernel
theorem dX2_takeWord_72 : decode cX2_takeWord 72 = .ok (.aload_n 0, 1) := by decide +kernel
theorem dX2_takeWord_73 : decode cX2_takeWord 73 = .ok (.iload 8, 2) := by decide +kernel
theorem dX2_takeWord_75 : decode cX2_takeWord 75 = .ok (.iload_n 2, 1) := by decide +kernel
theorem dX2_takeWord_76 : decode cX2_takeWord 76 = .ok (.invokevirtual 81, 3) := by decide +kernel
theorem dX2_takeWord_79 : decode cX2_takeWord 79 = .ok (.ixor, 1) := by decide +kernel
theorem dX2_takeWord_80 : decode cX2_takeWord 80 = .ok (.bipush 6, 2) := by decide +kernel
theorem dX2_takeWord_82 : decode cX2_takeWord 82 = .ok (.iload 7, 2) := by decide +kernel
theorem dX2_takeWord_84 : decode cX2_takeWord 84 = .ok (.iconst 1, 1) := by decide +kernel
theorem dX2_takeWord_85 : decode cX2_takeWord 85 = .ok (.iadd, 1) := by decide +kernel
theorem dX2_takeWord_86 : decode cX2_takeWord 86 = .ok (.aload_n 0, 1) := by decide +kernel
theorem dX2_takeWord_87 : decode cX2_takeWord 87 = .ok (.getfield 41, 3) := by decide +kernel
theorem dX2_takeWord_90 : decode cX2_takeWord 90 = .ok (.imul, 1) := by decide +kernel
theorem dX2_takeWord_91 : decode cX2_takeWord 91 = .ok (.isub, 1) := by decide +kernel
theorem dX2_takeWord_92 : decode cX2_takeWord 92 = .ok (.ishl, 1) := by decide +kernel
theorem dX2_takeWord_93 : decode cX2_takeWord 93 = .ok (.ior, 1) := by decide +kernel
theorem dX2_takeWord_94 : decode cX2_takeWord 94 = .ok (.istore 6, 2) := by decide +kernel
theorem dX2_takeWord_96 : decode cX2_takeWord 96 = .ok (.iinc 7 1, 3) := by decide +kernel
theorem dX2_takeWord_99 : decode cX2_takeWord 99 = .ok (.goto (-75), 3) := by decide +kernel
theorem dX2_takeWord_102 : decode cX2_takeWord 102 = .ok (.aload_n 3, 1) := by decide +kernel
theorem dX2_takeWord_103 : decode cX2_takeWord 103 = .ok (.iload 5, 2) := by decide +kernel
theorem dX2_takeWord_105 : decode cX2_takeWord 105 = .ok (.aload 4, 2) := by decide +kernel
theorem dX2_takeWord_107 : decode cX2_takeWord 107 = .ok (.iload 5, 2) := by decide +kernel
theorem dX2_takeWord_109 : decode cX2_takeWord 109 = .ok (.baload, 1) := by decide +kernel
theorem dX2_takeWord_110 : decode cX2_takeWord 110 = .ok (.ifCond .eq 7, 3) := by decide +kernel
theorem dX2_takeWord_113 : decode cX2_takeWord 113 = .ok (.iconst 0, 1) := by decide +kernel
theorem dX2_takeWord_114 : decode cX2_takeWord 114 = .ok (.goto 12, 3) := by decide +kernel
theorem dX2_takeWord_117 : decode cX2_takeWord 117 = .ok (.iload 6, 2) := by decide +kernel
theorem dX2_takeWord_119 : decode cX2_takeWord 119 = .ok (.aload_n 0, 1) := by decide +kernel
theorem dX2_takeWord_120 : decode cX2_takeWord 120 = .ok (.iload 5, 2) := by decide +kernel
theorem dX2_takeWord_122 : decode cX2_takeWord 122 = .ok (.invokevirtual 75, 3) := by decide +kernel
theorem dX2_takeWord_125 : decode cX2_takeWord 125 = .ok (.ixor, 1) := by decide +kernel
theorem dX2_takeWord_126 : decode cX2_takeWord 126 = .ok (.iastore, 1) := by decide +kernel
theorem dX2_takeWord_127 : decode cX2_takeWord 127 = .ok (.iinc 5 1, 3) := by decide +kernel
theorem dX2_takeWord_130 : decode cX2_takeWord 130 = .ok (.goto (-127), 3) := by decide +kernel
theorem dX2_takeWord_133 : decode cX2_takeWord 133 = .ok (.return_, 1) := by decide +kernel
set_option maxRecDepth 20000 in
theorem ggX2_looksTurned_X2_frameAt : GoodIn wsX2_looksTurned wsX2_frameAt := goodIn_r _ [6, 7, 8, 9, 10, 1, 11, 12, 13, 14, 19, 20, 21, 22, 23, 24, 25, 26, 27, 28] (by decide +kernel) (by decide +kernel)
set_option maxRecDepth 20000 in
theorem gX2_looksTurned_X2_frameAt : GoodIn wsX2_looksTurned (wsV RX2 72 RX2 yX2_frameAt wsX2_frameAt) := goodIn_app (goodIn_of _ (by decide +kernel)) ggX2_looksTurned_X2_frameAt
set_option maxRecDepth 20000 in
theorem ggX2_looksTurned_X2_fromOtherSide : GoodIn wsX2_looksTurned wsX2_fromOtherSide := goodIn_r _ [18, 8, 19, 20, 21, 22, 23, 24, 25, 26, 27, 28] (by decide +kernel) (by decide +kernel)
set_option maxRecDepth 20000 in
theorem gX2_looksTurned_X2_fromOtherSide : GoodIn wsX2_looksTurned (wsV RX2 89 RX2 yX2_fromOtherSide wsX2_fromOtherSide) := goodIn_app (goodIn_of _ (by decide +kernel)) ggX2_looksTurned_X2_fromOtherSide
theorem dX2_looksTurned_0 : decode cX2_looksTurned 0 = .ok (.iconst 0, 1) := by decide +kernel
theorem dX2_looksTurned_1 : decode cX2_looksTurned 1 = .ok (.istore_n 2, 1) := by decide +kernel
theorem dX2_looksTurned_2 : decode cX2_looksTurned 2 = .ok (.iconst 0, 1) := by decide +kernel
theorem dX2_looksTurned_3 : decode cX2_looksTurned 3 = .ok (.istore_n 3, 1) := by decide +kernel
theorem dX2_looksTurned_4 : decode cX2_looksTurned 4 = .ok (.iconst 0, 1) := by decide +kernel
theorem dX2_looksTurned_5 : decode cX2_looksTurned 5 = .ok (.istore 4, 2) := by decide +kernel
theorem dX2_looksTurned_7 : decode cX2_looksTurned 7 = .ok (.iload 4, 2) := by decide +kernel
theorem dX2_looksTurned_9 : decode cX2_looksTurned 9 = .ok (.aload_n 0, 1) := by decide +kernel
theorem dX2_looksTurned_10 : decode cX2_looksTurned 10 = .ok (.getfield 52, 3) := by decide +kernel
theorem dX2_looksTurned_13 : decode cX2_looksTurned 13 = .ok (.if_icmp .ge 68, 3) := by decide +kernel
theorem dX2_looksTurned_16 : decode cX2_looksTurned 16 = .ok (.aload_n 0, 1) := by decide +kernel
theorem dX2_looksTurned_17 : decode cX2_looksTurned 17 = .ok (.iload 4, 2) := by decide +kernel
theorem dX2_looksTurned_19 : decode cX2_looksTurned 19 = .ok (.invokevirtual 72, 3) := by decide +kernel
theorem dX2_looksTurned_22 : decode cX2_looksTurned 22 = .ok (.istore 5, 2) := by decide +kernel
theorem dX2_looksTurned_24 : decode cX2_looksTurned 24 = .ok (.iload 5, 2) := by decide +kernel
theorem dX2_looksTurned_26 : decode cX2_looksTurned 26 = .ok (.iconst (-1), 1) := by decide +kernel
theorem dX2_looksTurned_27 : decode cX2_looksTurned 27 = .ok (.if_icmp .eq 48, 3) := by decide +kernel
theorem dX2_looksTurned_30 : decode cX2_looksTurned 30 = .ok (.iload_n 2, 1) := by decide +kernel
theorem dX2_looksTurned_31 : decode cX2_looksTurned 31 = .ok (.aload_n 1, 1) := by decide +kernel
theorem dX2_looksTurned_32 : decode cX2_looksTurned 32 = .ok (.iload 4, 2) := by decide +kernel
theorem dX2_looksTurned_34 : decode cX2_looksTurned 34 = .ok (.iaload, 1) := by decide +kernel
theorem dX2_looksTurned_35 : decode cX2_looksTurned 35 = .ok (.iload 5, 2) := by decide +kernel
theorem dX2_looksTurned_37 : decode cX2_looksTurned 37 = .ok (.if_icmp .ne 7, 3) := by decide +kernel
theorem dX2_looksTurned_40 : decode cX2_looksTurned 40 = .ok (.iconst 1, 1) := by decide +kernel
theorem dX2_looksTurned_41 : decode cX2_looksTurned 41 = .ok (.goto 4, 3) := by decide +kernel
theorem dX2_looksTurned_44 : decode cX2_looksTurned 44 = .ok (.iconst 0, 1) := by decide +kernel
theorem dX2_looksTurned_45 : decode cX2_looksTurned 45 = .ok (.iadd, 1) := by decide +kernel
theorem dX2_looksTurned_46 : decode cX2_looksTurned 46 = .ok (.istore_n 2, 1) := by decide +kernel
theorem dX2_looksTurned_47 : decode cX2_looksTurned 47 = .ok (.iload_n 3, 1) := by decide +kernel
theorem dX2_looksTurned_48 : decode cX2_looksTurned 48 = .ok (.aload_n 0, 1) := by decide +kernel
theorem dX2_looksTurned_49 : decode cX2_looksTurned 49 = .ok (.aload_n 1, 1) := by decide +kernel
theorem dX2_looksTurned_50 : decode cX2_looksTurned 50 = .ok (.aload_n 0, 1) := by decide +kernel
theorem dX2_looksTurned_51 : decode cX2_looksTurned 51 = .ok (.getfield 52, 3) := by decide +kernel
theorem dX2_looksTurned_54 : decode cX2_looksTurned 54 = .ok (.iconst 1, 1) := by decide +kernel
theorem dX2_looksTurned_55 : decode cX2_looksTurned 55 = .ok (.isub, 1) := by decide +kernel
theorem dX2_looksTurned_56 : decode cX2_looksTurned 56 = .ok (.iload 4, 2) := by decide +kernel
theorem dX2_looksTurned_58 : decode cX2_looksTurned 58 = .ok (.isub, 1) := by decide +kernel
