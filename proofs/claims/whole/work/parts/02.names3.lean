theorem dX5_field_56 : decode cX5_field 56 = .ok (.lload_n 2, 1) := by decide +kernel
theorem dX5_field_57 : decode cX5_field 57 = .ok (.lastore, 1) := by decide +kernel
theorem dX5_field_58 : decode cX5_field 58 = .ok (.aload_n 0, 1) := by decide +kernel
theorem dX5_field_59 : decode cX5_field 59 = .ok (.getfield 17, 3) := by decide +kernel
theorem dX5_field_62 : decode cX5_field 62 = .ok (.iload_n 1, 1) := by decide +kernel
theorem dX5_field_63 : decode cX5_field 63 = .ok (.iconst 1, 1) := by decide +kernel
theorem dX5_field_64 : decode cX5_field 64 = .ok (.bastore, 1) := by decide +kernel
theorem dX5_field_65 : decode cX5_field 65 = .ok (.return_, 1) := by decide +kernel
theorem dX5_isWhole_0 : decode cX5_isWhole 0 = .ok (.iconst 1, 1) := by decide +kernel
theorem dX5_isWhole_1 : decode cX5_isWhole 1 = .ok (.istore_n 1, 1) := by decide +kernel
theorem dX5_isWhole_2 : decode cX5_isWhole 2 = .ok (.iconst 0, 1) := by decide +kernel
theorem dX5_isWhole_3 : decode cX5_isWhole 3 = .ok (.istore_n 2, 1) := by decide +kernel
theorem dX5_isWhole_4 : decode cX5_isWhole 4 = .ok (.iload_n 2, 1) := by decide +kernel
theorem dX5_isWhole_5 : decode cX5_isWhole 5 = .ok (.aload_n 0, 1) := by decide +kernel
theorem dX5_isWhole_6 : decode cX5_isWhole 6 = .ok (.getfield 59, 3) := by decide +kernel
theorem dX5_isWhole_9 : decode cX5_isWhole 9 = .ok (.if_icmp .ge 28, 3) := by decide +kernel
theorem dX5_isWhole_12 : decode cX5_isWhole 12 = .ok (.iload_n 1, 1) := by decide +kernel
theorem dX5_isWhole_13 : decode cX5_isWhole 13 = .ok (.ifCond .eq 16, 3) := by decide +kernel
theorem dX5_isWhole_16 : decode cX5_isWhole 16 = .ok (.aload_n 0, 1) := by decide +kernel
theorem dX5_isWhole_17 : decode cX5_isWhole 17 = .ok (.getfield 17, 3) := by decide +kernel
theorem dX5_isWhole_20 : decode cX5_isWhole 20 = .ok (.iload_n 2, 1) := by decide +kernel
theorem dX5_isWhole_21 : decode cX5_isWhole 21 = .ok (.baload, 1) := by decide +kernel
theorem dX5_isWhole_22 : decode cX5_isWhole 22 = .ok (.ifCond .eq 7, 3) := by decide +kernel
theorem dX5_isWhole_25 : decode cX5_isWhole 25 = .ok (.iconst 1, 1) := by decide +kernel
theorem dX5_isWhole_26 : decode cX5_isWhole 26 = .ok (.goto 4, 3) := by decide +kernel
theorem dX5_isWhole_29 : decode cX5_isWhole 29 = .ok (.iconst 0, 1) := by decide +kernel
theorem dX5_isWhole_30 : decode cX5_isWhole 30 = .ok (.istore_n 1, 1) := by decide +kernel
theorem dX5_isWhole_31 : decode cX5_isWhole 31 = .ok (.iinc 2 1, 3) := by decide +kernel
theorem dX5_isWhole_34 : decode cX5_isWhole 34 = .ok (.goto (-30), 3) := by decide +kernel
theorem dX5_isWhole_37 : decode cX5_isWhole 37 = .ok (.iload_n 1, 1) := by decide +kernel
theorem dX5_isWhole_38 : decode cX5_isWhole 38 = .ok (.ireturn, 1) := by decide +kernel
theorem dX5_pack_0 : decode cX5_pack 0 = .ok (.iconst 0, 1) := by decide +kernel
theorem dX5_pack_1 : decode cX5_pack 1 = .ok (.istore_n 1, 1) := by decide +kernel
theorem dX5_pack_2 : decode cX5_pack 2 = .ok (.iload_n 1, 1) := by decide +kernel
theorem dX5_pack_3 : decode cX5_pack 3 = .ok (.aload_n 0, 1) := by decide +kernel
theorem dX5_pack_4 : decode cX5_pack 4 = .ok (.getfield 65, 3) := by decide +kernel
theorem dX5_pack_7 : decode cX5_pack 7 = .ok (.if_icmp .ge 40, 3) := by decide +kernel
theorem dX5_pack_10 : decode cX5_pack 10 = .ok (.aload_n 0, 1) := by decide +kernel
theorem dX5_pack_11 : decode cX5_pack 11 = .ok (.getfield 37, 3) := by decide +kernel
theorem dX5_pack_14 : decode cX5_pack 14 = .ok (.iload_n 1, 1) := by decide +kernel
theorem dX5_pack_15 : decode cX5_pack 15 = .ok (.iconst 0, 1) := by decide +kernel
theorem dX5_pack_16 : decode cX5_pack 16 = .ok (.iastore, 1) := by decide +kernel
theorem dX5_pack_17 : decode cX5_pack 17 = .ok (.aload_n 0, 1) := by decide +kernel
theorem dX5_pack_18 : decode cX5_pack 18 = .ok (.getfield 40, 3) := by decide +kernel
theorem dX5_pack_21 : decode cX5_pack 21 = .ok (.iload_n 1, 1) := by decide +kernel
theorem dX5_pack_22 : decode cX5_pack 22 = .ok (.iload_n 1, 1) := by decide +kernel
theorem dX5_pack_23 : decode cX5_pack 23 = .ok (.aload_n 0, 1) := by decide +kernel
theorem dX5_pack_24 : decode cX5_pack 24 = .ok (.getfield 65, 3) := by decide +kernel
theorem dX5_pack_27 : decode cX5_pack 27 = .ok (.aload_n 0, 1) := by decide +kernel
theorem dX5_pack_28 : decode cX5_pack 28 = .ok (.getfield 62, 3) := by decide +kernel
theorem dX5_pack_31 : decode cX5_pack 31 = .ok (.isub, 1) := by decide +kernel
theorem dX5_pack_32 : decode cX5_pack 32 = .ok (.if_icmp .lt 7, 3) := by decide +kernel
theorem dX5_pack_35 : decode cX5_pack 35 = .ok (.iconst 1, 1) := by decide +kernel
theorem dX5_pack_36 : decode cX5_pack 36 = .ok (.goto 4, 3) := by decide +kernel
theorem dX5_pack_39 : decode cX5_pack 39 = .ok (.iconst 0, 1) := by decide +kernel
theorem dX5_pack_40 : decode cX5_pack 40 = .ok (.bastore, 1) := by decide +kernel
theorem dX5_pack_41 : decode cX5_pack 41 = .ok (.iinc 1 1, 3) := by decide +kernel
theorem dX5_pack_44 : decode cX5_pack 44 = .ok (.goto (-42), 3) := by decide +kernel
theorem dX5_pack_47 : decode cX5_pack 47 = .ok (.iconst 0, 1) := by decide +kernel
theorem dX5_pack_48 : decode cX5_pack 48 = .ok (.istore_n 1, 1) := by decide +kernel
theorem dX5_pack_49 : decode cX5_pack 49 = .ok (.iconst 0, 1) := by decide +kernel
theorem dX5_pack_50 : decode cX5_pack 50 = .ok (.istore_n 2, 1) := by decide +kernel
theorem dX5_pack_51 : decode cX5_pack 51 = .ok (.iload_n 2, 1) := by decide +kernel
theorem dX5_pack_52 : decode cX5_pack 52 = .ok (.aload_n 0, 1) := by decide +kernel
theorem dX5_pack_53 : decode cX5_pack 53 = .ok (.getfield 59, 3) := by decide +kernel
theorem dX5_pack_56 : decode cX5_pack 56 = .ok (.if_icmp .ge 63, 3) := by decide +kernel
theorem dX5_pack_59 : decode cX5_pack 59 = .ok (.aload_n 0, 1) := by decide +kernel
theorem dX5_pack_60 : decode cX5_pack 60 = .ok (.getfield 7, 3) := by decide +kernel
theorem dX5_pack_63 : decode cX5_pack 63 = .ok (.iload_n 2, 1) := by decide +kernel
theorem dX5_pack_64 : decode cX5_pack 64 = .ok (.iaload, 1) := by decide +kernel
theorem dX5_pack_65 : decode cX5_pack 65 = .ok (.iconst 1, 1) := by decide +kernel
theorem dX5_pack_66 : decode cX5_pack 66 = .ok (.isub, 1) := by decide +kernel
theorem dX5_pack_67 : decode cX5_pack 67 = .ok (.istore_n 3, 1) := by decide +kernel
theorem dX5_pack_68 : decode cX5_pack 68 = .ok (.iload_n 3, 1) := by decide +kernel
theorem dX5_pack_69 : decode cX5_pack 69 = .ok (.ifCond .lt 44, 3) := by decide +kernel
theorem dX5_pack_72 : decode cX5_pack 72 = .ok (.aload_n 0, 1) := by decide +kernel
theorem dX5_pack_73 : decode cX5_pack 73 = .ok (.getfield 37, 3) := by decide +kernel
theorem dX5_pack_76 : decode cX5_pack 76 = .ok (.iload_n 1, 1) := by decide +kernel
theorem dX5_pack_77 : decode cX5_pack 77 = .ok (.bipush 6, 2) := by decide +kernel
theorem dX5_pack_79 : decode cX5_pack 79 = .ok (.idiv, 1) := by decide +kernel
theorem dX5_pack_80 : decode cX5_pack 80 = .ok (.aload_n 0, 1) := by decide +kernel
theorem dX5_pack_81 : decode cX5_pack 81 = .ok (.getfield 37, 3) := by decide +kernel
theorem dX5_pack_84 : decode cX5_pack 84 = .ok (.iload_n 1, 1) := by decide +kernel
theorem dX5_pack_85 : decode cX5_pack 85 = .ok (.bipush 6, 2) := by decide +kernel
theorem dX5_pack_87 : decode cX5_pack 87 = .ok (.idiv, 1) := by decide +kernel
theorem dX5_pack_88 : decode cX5_pack 88 = .ok (.iaload, 1) := by decide +kernel
theorem dX5_pack_89 : decode cX5_pack 89 = .ok (.iconst 2, 1) := by decide +kernel
theorem dX5_pack_90 : decode cX5_pack 90 = .ok (.imul, 1) := by decide +kernel
theorem dX5_pack_91 : decode cX5_pack 91 = .ok (.aload_n 0, 1) := by decide +kernel
theorem dX5_pack_92 : decode cX5_pack 92 = .ok (.getfield 13, 3) := by decide +kernel
theorem dX5_pack_95 : decode cX5_pack 95 = .ok (.iload_n 2, 1) := by decide +kernel
theorem dX5_pack_96 : decode cX5_pack 96 = .ok (.laload, 1) := by decide +kernel
theorem dX5_pack_97 : decode cX5_pack 97 = .ok (.iload_n 3, 1) := by decide +kernel
theorem dX5_pack_98 : decode cX5_pack 98 = .ok (.lshr, 1) := by decide +kernel
theorem dX5_pack_99 : decode cX5_pack 99 = .ok (.lconst 1, 1) := by decide +kernel
theorem dX5_pack_100 : decode cX5_pack 100 = .ok (.land, 1) := by decide +kernel
theorem dX5_pack_101 : decode cX5_pack 101 = .ok (.l2i, 1) := by decide +kernel
theorem dX5_pack_102 : decode cX5_pack 102 = .ok (.iadd, 1) := by decide +kernel
theorem dX5_pack_103 : decode cX5_pack 103 = .ok (.iastore, 1) := by decide +kernel
theorem dX5_pack_104 : decode cX5_pack 104 = .ok (.iinc 1 1, 3) := by decide +kernel
theorem dX5_pack_107 : decode cX5_pack 107 = .ok (.iinc 3 (-1), 3) := by decide +kernel
theorem dX5_pack_110 : decode cX5_pack 110 = .ok (.goto (-42), 3) := by decide +kernel
theorem dX5_pack_113 : decode cX5_pack 113 = .ok (.iinc 2 1, 3) := by decide +kernel
theorem dX5_pack_116 : decode cX5_pack 116 = .ok (.goto (-65), 3) := by decide +kernel
theorem dX5_pack_119 : decode cX5_pack 119 = .ok (.return_, 1) := by decide +kernel
set_option maxRecDepth 20000 in
theorem ggX5_sumAt_X5_power : GoodIn wsX5_sumAt wsX5_power := goodIn_r _ [6, 7, 8, 5, 9] (by decide +kernel) (by decide +kernel)
set_option maxRecDepth 20000 in
theorem gX5_sumAt_X5_power : GoodIn wsX5_sumAt (va_wsS RX5 79 yX5_power wsX5_power) := goodIn_app (goodIn_of _ (by decide +kernel)) ggX5_sumAt_X5_power
set_option maxRecDepth 20000 in
theorem ggX5_sumAt_X5_times : GoodIn wsX5_sumAt wsX5_times := goodIn_r _ [9] (by decide +kernel) (by decide +kernel)
set_option maxRecDepth 20000 in
theorem gX5_sumAt_X5_times : GoodIn wsX5_sumAt (va_wsS RX5 71 yX5_times wsX5_times) := goodIn_app (goodIn_of _ (by decide +kernel)) ggX5_sumAt_X5_times
theorem dX5_sumAt_0 : decode cX5_sumAt 0 = .ok (.iload_n 1, 1) := by decide +kernel
theorem dX5_sumAt_1 : decode cX5_sumAt 1 = .ok (.invokestatic 79, 3) := by decide +kernel
theorem dX5_sumAt_4 : decode cX5_sumAt 4 = .ok (.istore_n 2, 1) := by decide +kernel
theorem dX5_sumAt_5 : decode cX5_sumAt 5 = .ok (.iconst 0, 1) := by decide +kernel
theorem dX5_sumAt_6 : decode cX5_sumAt 6 = .ok (.istore_n 3, 1) := by decide +kernel
theorem dX5_sumAt_7 : decode cX5_sumAt 7 = .ok (.iconst 0, 1) := by decide +kernel
theorem dX5_sumAt_8 : decode cX5_sumAt 8 = .ok (.istore 4, 2) := by decide +kernel
theorem dX5_sumAt_10 : decode cX5_sumAt 10 = .ok (.iload 4, 2) := by decide +kernel
theorem dX5_sumAt_12 : decode cX5_sumAt 12 = .ok (.aload_n 0, 1) := by decide +kernel
theorem dX5_sumAt_13 : decode cX5_sumAt 13 = .ok (.getfield 65, 3) := by decide +kernel
theorem dX5_sumAt_16 : decode cX5_sumAt 16 = .ok (.if_icmp .ge 23, 3) := by decide +kernel
theorem dX5_sumAt_19 : decode cX5_sumAt 19 = .ok (.iload_n 3, 1) := by decide +kernel
theorem dX5_sumAt_20 : decode cX5_sumAt 20 = .ok (.iload_n 2, 1) := by decide +kernel
theorem dX5_sumAt_21 : decode cX5_sumAt 21 = .ok (.invokestatic 71, 3) := by decide +kernel
theorem dX5_sumAt_24 : decode cX5_sumAt 24 = .ok (.aload_n 0, 1) := by decide +kernel
theorem dX5_sumAt_25 : decode cX5_sumAt 25 = .ok (.getfield 37, 3) := by decide +kernel
theorem dX5_sumAt_28 : decode cX5_sumAt 28 = .ok (.iload 4, 2) := by decide +kernel
theorem dX5_sumAt_30 : decode cX5_sumAt 30 = .ok (.iaload, 1) := by decide +kernel
theorem dX5_sumAt_31 : decode cX5_sumAt 31 = .ok (.ixor, 1) := by decide +kernel
theorem dX5_sumAt_32 : decode cX5_sumAt 32 = .ok (.istore_n 3, 1) := by decide +kernel
theorem dX5_sumAt_33 : decode cX5_sumAt 33 = .ok (.iinc 4 1, 3) := by decide +kernel
theorem dX5_sumAt_36 : decode cX5_sumAt 36 = .ok (.goto (-26), 3) := by decide +kernel
theorem dX5_sumAt_39 : decode cX5_sumAt 39 = .ok (.iload_n 3, 1) := by decide +kernel
theorem dX5_sumAt_40 : decode cX5_sumAt 40 = .ok (.ireturn, 1) := by decide +kernel
set_option maxRecDepth 20000 in
theorem ggX5_write_X5_power : GoodIn wsX5_write wsX5_power := goodIn_r _ [8, 9, 10, 7, 11] (by decide +kernel) (by decide +kernel)
set_option maxRecDepth 20000 in
theorem gX5_write_X5_power : GoodIn wsX5_write (va_wsS RX5 79 yX5_power wsX5_power) := goodIn_app (goodIn_of _ (by decide +kernel)) ggX5_write_X5_power
set_option maxRecDepth 20000 in
theorem ggX5_write_X5_sumAt : GoodIn wsX5_write wsX5_sumAt := goodIn_r _ [15, 3, 16, 5, 6, 7, 8, 9, 10, 11, 17, 18, 19, 20, 21, 22, 23, 24, 25, 26, 27, 28, 29, 30, 31, 32, 33, 34, 35, 36, 37, 38, 39] (by decide +kernel) (by decide +kernel)
set_option maxRecDepth 20000 in
theorem gX5_write_X5_sumAt : GoodIn wsX5_write (wsV RX5 82 RX5 yX5_sumAt wsX5_sumAt) := goodIn_app (goodIn_of _ (by decide +kernel)) ggX5_write_X5_sumAt
theorem dX5_write_0 : decode cX5_write 0 = .ok (.iconst 0, 1) := by decide +kernel
theorem dX5_write_1 : decode cX5_write 1 = .ok (.istore_n 2, 1) := by decide +kernel
theorem dX5_write_2 : decode cX5_write 2 = .ok (.iload_n 2, 1) := by decide +kernel
theorem dX5_write_3 : decode cX5_write 3 = .ok (.aload_n 0, 1) := by decide +kernel
theorem dX5_write_4 : decode cX5_write 4 = .ok (.getfield 62, 3) := by decide +kernel
theorem dX5_write_7 : decode cX5_write 7 = .ok (.if_icmp .ge 74, 3) := by decide +kernel
theorem dX5_write_10 : decode cX5_write 10 = .ok (.iconst 0, 1) := by decide +kernel
theorem dX5_write_11 : decode cX5_write 11 = .ok (.istore_n 3, 1) := by decide +kernel
theorem dX5_write_12 : decode cX5_write 12 = .ok (.iload_n 3, 1) := by decide +kernel
theorem dX5_write_13 : decode cX5_write 13 = .ok (.iload_n 1, 1) := by decide +kernel
theorem dX5_write_14 : decode cX5_write 14 = .ok (.if_icmp .ge 43, 3) := by decide +kernel
theorem dX5_write_17 : decode cX5_write 17 = .ok (.aload_n 0, 1) := by decide +kernel
theorem dX5_write_18 : decode cX5_write 18 = .ok (.getfield 43, 3) := by decide +kernel
theorem dX5_write_21 : decode cX5_write 21 = .ok (.bipush 9, 2) := by decide +kernel
theorem dX5_write_23 : decode cX5_write 23 = .ok (.iload_n 2, 1) := by decide +kernel
theorem dX5_write_24 : decode cX5_write 24 = .ok (.imul, 1) := by decide +kernel
theorem dX5_write_25 : decode cX5_write 25 = .ok (.iload_n 3, 1) := by decide +kernel
theorem dX5_write_26 : decode cX5_write 26 = .ok (.iadd, 1) := by decide +kernel
theorem dX5_write_27 : decode cX5_write 27 = .ok (.aload_n 0, 1) := by decide +kernel
theorem dX5_write_28 : decode cX5_write 28 = .ok (.getfield 65, 3) := by decide +kernel
theorem dX5_write_31 : decode cX5_write 31 = .ok (.iconst 1, 1) := by decide +kernel
theorem dX5_write_32 : decode cX5_write 32 = .ok (.isub, 1) := by decide +kernel
theorem dX5_write_33 : decode cX5_write 33 = .ok (.aload_n 0, 1) := by decide +kernel
theorem dX5_write_34 : decode cX5_write 34 = .ok (.getfield 46, 3) := by decide +kernel
theorem dX5_write_37 : decode cX5_write 37 = .ok (.iload_n 3, 1) := by decide +kernel
theorem dX5_write_38 : decode cX5_write 38 = .ok (.iaload, 1) := by decide +kernel
theorem dX5_write_39 : decode cX5_write 39 = .ok (.isub, 1) := by decide +kernel
theorem dX5_write_40 : decode cX5_write 40 = .ok (.iload_n 2, 1) := by decide +kernel
theorem dX5_write_41 : decode cX5_write 41 = .ok (.iconst 1, 1) := by decide +kernel
theorem dX5_write_42 : decode cX5_write 42 = .ok (.iadd, 1) := by decide +kernel
theorem dX5_write_43 : decode cX5_write 43 = .ok (.imul, 1) := by decide +kernel
theorem dX5_write_44 : decode cX5_write 44 = .ok (.bipush 63, 2) := by decide +kernel
theorem dX5_write_46 : decode cX5_write 46 = .ok (.irem, 1) := by decide +kernel
theorem dX5_write_47 : decode cX5_write 47 = .ok (.invokestatic 79, 3) := by decide +kernel
theorem dX5_write_50 : decode cX5_write 50 = .ok (.iastore, 1) := by decide +kernel
theorem dX5_write_51 : decode cX5_write 51 = .ok (.iinc 3 1, 3) := by decide +kernel
theorem dX5_write_54 : decode cX5_write 54 = .ok (.goto (-42), 3) := by decide +kernel
theorem dX5_write_57 : decode cX5_write 57 = .ok (.aload_n 0, 1) := by decide +kernel
theorem dX5_write_58 : decode cX5_write 58 = .ok (.getfield 43, 3) := by decide +kernel
theorem dX5_write_61 : decode cX5_write 61 = .ok (.bipush 9, 2) := by decide +kernel
theorem dX5_write_63 : decode cX5_write 63 = .ok (.iload_n 2, 1) := by decide +kernel
theorem dX5_write_64 : decode cX5_write 64 = .ok (.imul, 1) := by decide +kernel
theorem dX5_write_65 : decode cX5_write 65 = .ok (.iload_n 1, 1) := by decide +kernel
theorem dX5_write_66 : decode cX5_write 66 = .ok (.iadd, 1) := by decide +kernel
theorem dX5_write_67 : decode cX5_write 67 = .ok (.aload_n 0, 1) := by decide +kernel
theorem dX5_write_68 : decode cX5_write 68 = .ok (.iload_n 2, 1) := by decide +kernel
theorem dX5_write_69 : decode cX5_write 69 = .ok (.iconst 1, 1) := by decide +kernel
theorem dX5_write_70 : decode cX5_write 70 = .ok (.iadd, 1) := by decide +kernel
theorem dX5_write_71 : decode cX5_write 71 = .ok (.invokevirtual 82, 3) := by decide +kernel
theorem dX5_write_74 : decode cX5_write 74 = .ok (.iastore, 1) := by decide +kernel
theorem dX5_write_75 : decode cX5_write 75 = .ok (.iinc 2 1, 3) := by decide +kernel
theorem dX5_write_78 : decode cX5_write 78 = .ok (.goto (-76), 3) := by decide +kernel
theorem dX5_write_81 : decode cX5_write 81 = .ok (.return_, 1) := by decide +kernel
theorem dX5_exchange_0 : decode cX5_exchange 0 = .ok (.iconst 0, 1) := by decide +kernel
theorem dX5_exchange_1 : decode cX5_exchange 1 = .ok (.istore_n 3, 1) := by decide +kernel
theorem dX5_exchange_2 : decode cX5_exchange 2 = .ok (.iload_n 3, 1) := by decide +kernel
theorem dX5_exchange_3 : decode cX5_exchange 3 = .ok (.bipush 9, 2) := by decide +kernel
theorem dX5_exchange_5 : decode cX5_exchange 5 = .ok (.if_icmp .ge 57, 3) := by decide +kernel
theorem dX5_exchange_8 : decode cX5_exchange 8 = .ok (.aload_n 0, 1) := by decide +kernel
theorem dX5_exchange_9 : decode cX5_exchange 9 = .ok (.getfield 43, 3) := by decide +kernel
theorem dX5_exchange_12 : decode cX5_exchange 12 = .ok (.bipush 9, 2) := by decide +kernel
theorem dX5_exchange_14 : decode cX5_exchange 14 = .ok (.iload_n 1, 1) := by decide +kernel
theorem dX5_exchange_15 : decode cX5_exchange 15 = .ok (.imul, 1) := by decide +kernel
theorem dX5_exchange_16 : decode cX5_exchange 16 = .ok (.iload_n 3, 1) := by decide +kernel
theorem dX5_exchange_17 : decode cX5_exchange 17 = .ok (.iadd, 1) := by decide +kernel
theorem dX5_exchange_18 : decode cX5_exchange 18 = .ok (.iaload, 1) := by decide +kernel
theorem dX5_exchange_19 : decode cX5_exchange 19 = .ok (.istore 4, 2) := by decide +kernel
theorem dX5_exchange_21 : decode cX5_exchange 21 = .ok (.aload_n 0, 1) := by decide +kernel
theorem dX5_exchange_22 : decode cX5_exchange 22 = .ok (.getfield 43, 3) := by decide +kernel
theorem dX5_exchange_25 : decode cX5_exchange 25 = .ok (.bipush 9, 2) := by decide +kernel
theorem dX5_exchange_27 : decode cX5_exchange 27 = .ok (.iload_n 1, 1) := by decide +kernel
theorem dX5_exchange_28 : decode cX5_exchange 28 = .ok (.imul, 1) := by decide +kernel
theorem dX5_exchange_29 : decode cX5_exchange 29 = .ok (.iload_n 3, 1) := by decide +kernel
theorem dX5_exchange_30 : decode cX5_exchange 30 = .ok (.iadd, 1) := by decide +kernel
theorem dX5_exchange_31 : decode cX5_exchange 31 = .ok (.aload_n 0, 1) := by decide +kernel
theorem dX5_exchange_32 : decode cX5_exchange 32 = .ok (.getfield 43, 3) := by decide +kernel
theorem dX5_exchange_35 : decode cX5_exchange 35 = .ok (.bipush 9, 2) := by decide +kernel
theorem dX5_exchange_37 : decode cX5_exchange 37 = .ok (.iload_n 2, 1) := by decide +kernel
theorem dX5_exchange_38 : decode cX5_exchange 38 = .ok (.imul, 1) := by decide +kernel
theorem dX5_exchange_39 : decode cX5_exchange 39 = .ok (.iload_n 3, 1) := by decide +kernel
theorem dX5_exchange_40 : decode cX5_exchange 40 = .ok (.iadd, 1) := by decide +kernel
theorem dX5_exchange_41 : decode cX5_exchange 41 = .ok (.iaload, 1) := by decide +kernel
theorem dX5_exchange_42 : decode cX5_exchange 42 = .ok (.iastore, 1) := by decide +kernel
theorem dX5_exchange_43 : decode cX5_exchange 43 = .ok (.aload_n 0, 1) := by decide +kernel
theorem dX5_exchange_44 : decode cX5_exchange 44 = .ok (.getfield 43, 3) := by decide +kernel
theorem dX5_exchange_47 : decode cX5_exchange 47 = .ok (.bipush 9, 2) := by decide +kernel
theorem dX5_exchange_49 : decode cX5_exchange 49 = .ok (.iload_n 2, 1) := by decide +kernel
theorem dX5_exchange_50 : decode cX5_exchange 50 = .ok (.imul, 1) := by decide +kernel
theorem dX5_exchange_51 : decode cX5_exchange 51 = .ok (.iload_n 3, 1) := by decide +kernel
theorem dX5_exchange_52 : decode cX5_exchange 52 = .ok (.iadd, 1) := by decide +kernel
theorem dX5_exchange_53 : decode cX5_exchange 53 = .ok (.iload 4, 2) := by decide +kernel
theorem dX5_exchange_55 : decode cX5_exchange 55 = .ok (.iastore, 1) := by decide +kernel
theorem dX5_exchange_56 : decode cX5_exchange 56 = .ok (.iinc 3 1, 3) := by decide +kernel
theorem dX5_exchange_59 : decode cX5_exchange 59 = .ok (.goto (-57), 3) := by decide +kernel
theorem dX5_exchange_62 : decode cX5_exchange 62 = .ok (.return_, 1) := by decide +kernel
set_option maxRecDepth 20000 in
theorem ggX5_solve_X5_write : GoodIn wsX5_solve wsX5_write := goodIn_r _ [7, 1, 2, 8, 9, 10, 11, 6, 12, 13, 14, 15, 16, 17, 18, 19, 20, 28, 29, 30, 31, 32, 33, 34, 35, 36, 37, 38, 39, 40, 41, 42, 43, 44, 45, 46, 47, 48, 49, 50] (by decide +kernel) (by decide +kernel)
set_option maxRecDepth 20000 in
theorem gX5_solve_X5_write : GoodIn wsX5_solve (wsV RX5 85 RX5 yX5_write wsX5_write) := goodIn_app (goodIn_of _ (by decide +kernel)) ggX5_solve_X5_write
set_option maxRecDepth 20000 in
theorem ggX5_solve_X5_exchange : GoodIn wsX5_solve wsX5_exchange := goodIn_r _ [24, 2, 28, 29, 30, 31, 32, 33, 34, 35, 36, 37, 38, 39, 40, 41, 42, 43, 44, 45, 46, 47, 48, 49, 50] (by decide +kernel) (by decide +kernel)
set_option maxRecDepth 20000 in
theorem gX5_solve_X5_exchange : GoodIn wsX5_solve (wsV RX5 89 RX5 yX5_exchange wsX5_exchange) := goodIn_app (goodIn_of _ (by decide +kernel)) ggX5_solve_X5_exchange
set_option maxRecDepth 20000 in
theorem ggX5_solve_X5_inverse : GoodIn wsX5_solve wsX5_inverse := goodIn_r _ [27, 13, 14, 6, 15] (by decide +kernel) (by decide +kernel)
set_option maxRecDepth 20000 in
theorem gX5_solve_X5_inverse : GoodIn wsX5_solve (va_wsS RX5 75 yX5_inverse wsX5_inverse) := goodIn_app (goodIn_of _ (by decide +kernel)) ggX5_solve_X5_inverse
set_option maxRecDepth 20000 in
theorem ggX5_solve_X5_times : GoodIn wsX5_solve wsX5_times := goodIn_r _ [15] (by decide +kernel) (by decide +kernel)
set_option maxRecDepth 20000 in
theorem gX5_solve_X5_times : GoodIn wsX5_solve (va_wsS RX5 71 yX5_times wsX5_times) := goodIn_app (goodIn_of _ (by decide +kernel)) ggX5_solve_X5_times
theorem dX5_solve_0 : decode cX5_solve 0 = .ok (.aload_n 0, 1) := by decide +kernel
theorem dX5_solve_1 : decode cX5_solve 1 = .ok (.iload_n 1, 1) := by decide +kernel
theorem dX5_solve_2 : decode cX5_solve 2 = .ok (.invokevirtual 85, 3) := by decide +kernel
theorem dX5_solve_5 : decode cX5_solve 5 = .ok (.iconst 0, 1) := by decide +kernel
theorem dX5_solve_6 : decode cX5_solve 6 = .ok (.istore_n 2, 1) := by decide +kernel
theorem dX5_solve_7 : decode cX5_solve 7 = .ok (.iload_n 2, 1) := by decide +kernel
theorem dX5_solve_8 : decode cX5_solve 8 = .ok (.iload_n 1, 1) := by decide +kernel
theorem dX5_solve_9 : decode cX5_solve 9 = .ok (.if_icmp .ge 216, 3) := by decide +kernel
theorem dX5_solve_12 : decode cX5_solve 12 = .ok (.iload_n 2, 1) := by decide +kernel
theorem dX5_solve_13 : decode cX5_solve 13 = .ok (.istore_n 3, 1) := by decide +kernel
theorem dX5_solve_14 : decode cX5_solve 14 = .ok (.iload_n 3, 1) := by decide +kernel
theorem dX5_solve_15 : decode cX5_solve 15 = .ok (.aload_n 0, 1) := by decide +kernel
theorem dX5_solve_16 : decode cX5_solve 16 = .ok (.getfield 62, 3) := by decide +kernel
theorem dX5_solve_19 : decode cX5_solve 19 = .ok (.if_icmp .ge 23, 3) := by decide +kernel
theorem dX5_solve_22 : decode cX5_solve 22 = .ok (.aload_n 0, 1) := by decide +kernel
theorem dX5_solve_23 : decode cX5_solve 23 = .ok (.getfield 43, 3) := by decide +kernel
theorem dX5_solve_26 : decode cX5_solve 26 = .ok (.bipush 9, 2) := by decide +kernel
theorem dX5_solve_28 : decode cX5_solve 28 = .ok (.iload_n 3, 1) := by decide +kernel
theorem dX5_solve_29 : decode cX5_solve 29 = .ok (.imul, 1) := by decide +kernel
theorem dX5_solve_30 : decode cX5_solve 30 = .ok (.iload_n 2, 1) := by decide +kernel
theorem dX5_solve_31 : decode cX5_solve 31 = .ok (.iadd, 1) := by decide +kernel
theorem dX5_solve_32 : decode cX5_solve 32 = .ok (.iaload, 1) := by decide +kernel
theorem dX5_solve_33 : decode cX5_solve 33 = .ok (.ifCond .ne 9, 3) := by decide +kernel
theorem dX5_solve_36 : decode cX5_solve 36 = .ok (.iinc 3 1, 3) := by decide +kernel
theorem dX5_solve_39 : decode cX5_solve 39 = .ok (.goto (-25), 3) := by decide +kernel
theorem dX5_solve_42 : decode cX5_solve 42 = .ok (.iload_n 3, 1) := by decide +kernel
theorem dX5_solve_43 : decode cX5_solve 43 = .ok (.aload_n 0, 1) := by decide +kernel
theorem dX5_solve_44 : decode cX5_solve 44 = .ok (.getfield 62, 3) := by decide +kernel
theorem dX5_solve_47 : decode cX5_solve 47 = .ok (.if_icmp .ne 5, 3) := by decide +kernel
theorem dX5_solve_50 : decode cX5_solve 50 = .ok (.iconst 0, 1) := by decide +kernel
theorem dX5_solve_51 : decode cX5_solve 51 = .ok (.ireturn, 1) := by decide +kernel
theorem dX5_solve_52 : decode cX5_solve 52 = .ok (.aload_n 0, 1) := by decide +kernel
theorem dX5_solve_53 : decode cX5_solve 53 = .ok (.iload_n 3, 1) := by decide +kernel
theorem dX5_solve_54 : decode cX5_solve 54 = .ok (.iload_n 2, 1) := by decide +kernel
theorem dX5_solve_55 : decode cX5_solve 55 = .ok (.invokevirtual 89, 3) := by decide +kernel
theorem dX5_solve_58 : decode cX5_solve 58 = .ok (.aload_n 0, 1) := by decide +kernel
theorem dX5_solve_59 : decode cX5_solve 59 = .ok (.getfield 43, 3) := by decide +kernel
theorem dX5_solve_62 : decode cX5_solve 62 = .ok (.bipush 9, 2) := by decide +kernel
theorem dX5_solve_64 : decode cX5_solve 64 = .ok (.iload_n 2, 1) := by decide +kernel
theorem dX5_solve_65 : decode cX5_solve 65 = .ok (.imul, 1) := by decide +kernel
theorem dX5_solve_66 : decode cX5_solve 66 = .ok (.iload_n 2, 1) := by decide +kernel
theorem dX5_solve_67 : decode cX5_solve 67 = .ok (.iadd, 1) := by decide +kernel
theorem dX5_solve_68 : decode cX5_solve 68 = .ok (.iaload, 1) := by decide +kernel
theorem dX5_solve_69 : decode cX5_solve 69 = .ok (.invokestatic 75, 3) := by decide +kernel
theorem dX5_solve_72 : decode cX5_solve 72 = .ok (.istore 4, 2) := by decide +kernel
theorem dX5_solve_74 : decode cX5_solve 74 = .ok (.iconst 0, 1) := by decide +kernel
theorem dX5_solve_75 : decode cX5_solve 75 = .ok (.istore 5, 2) := by decide +kernel
theorem dX5_solve_77 : decode cX5_solve 77 = .ok (.iload 5, 2) := by decide +kernel
theorem dX5_solve_79 : decode cX5_solve 79 = .ok (.iload_n 1, 1) := by decide +kernel
theorem dX5_solve_80 : decode cX5_solve 80 = .ok (.if_icmp .gt 38, 3) := by decide +kernel
theorem dX5_solve_83 : decode cX5_solve 83 = .ok (.aload_n 0, 1) := by decide +kernel
theorem dX5_solve_84 : decode cX5_solve 84 = .ok (.getfield 43, 3) := by decide +kernel
theorem dX5_solve_87 : decode cX5_solve 87 = .ok (.bipush 9, 2) := by decide +kernel
theorem dX5_solve_89 : decode cX5_solve 89 = .ok (.iload_n 2, 1) := by decide +kernel
theorem dX5_solve_90 : decode cX5_solve 90 = .ok (.imul, 1) := by decide +kernel
theorem dX5_solve_91 : decode cX5_solve 91 = .ok (.iload 5, 2) := by decide +kernel
theorem dX5_solve_93 : decode cX5_solve 93 = .ok (.iadd, 1) := by decide +kernel
theorem dX5_solve_94 : decode cX5_solve 94 = .ok (.aload_n 0, 1) := by decide +kernel
theorem dX5_solve_95 : decode cX5_solve 95 = .ok (.getfield 43, 3) := by decide +kernel
theorem dX5_solve_98 : decode cX5_solve 98 = .ok (.bipush 9, 2) := by decide +kernel
theorem dX5_solve_100 : decode cX5_solve 100 = .ok (.iload_n 2, 1) := by decide +kernel
theorem dX5_solve_101 : decode cX5_solve 101 = .ok (.imul, 1) := by decide +kernel
theorem dX5_solve_102 : decode cX5_solve 102 = .ok (.iload 5, 2) := by decide +kernel
theorem dX5_solve_104 : decode cX5_solve 104 = .ok (.iadd, 1) := by decide +kernel
theorem dX5_solve_105 : decode cX5_solve 105 = .ok (.iaload, 1) := by decide +kernel
theorem dX5_solve_106 : decode cX5_solve 106 = .ok (.iload 4, 2) := by decide +kernel
theorem dX5_solve_108 : decode cX5_solve 108 = .ok (.invokestatic 71, 3) := by decide +kernel
theorem dX5_solve_111 : decode cX5_solve 111 = .ok (.iastore, 1) := by decide +kernel
theorem dX5_solve_112 : decode cX5_solve 112 = .ok (.iinc 5 1, 3) := by decide +kernel
theorem dX5_solve_115 : decode cX5_solve 115 = .ok (.goto (-38), 3) := by decide +kernel
theorem dX5_solve_118 : decode cX5_solve 118 = .ok (.iconst 0, 1) := by decide +kernel
theorem dX5_solve_119 : decode cX5_solve 119 = .ok (.istore 5, 2) := by decide +kernel
theorem dX5_solve_121 : decode cX5_solve 121 = .ok (.iload 5, 2) := by decide +kernel
theorem dX5_solve_123 : decode cX5_solve 123 = .ok (.aload_n 0, 1) := by decide +kernel
theorem dX5_solve_124 : decode cX5_solve 124 = .ok (.getfield 62, 3) := by decide +kernel
theorem dX5_solve_127 : decode cX5_solve 127 = .ok (.if_icmp .ge 92, 3) := by decide +kernel
theorem dX5_solve_130 : decode cX5_solve 130 = .ok (.iload 5, 2) := by decide +kernel
theorem dX5_solve_132 : decode cX5_solve 132 = .ok (.iload_n 2, 1) := by decide +kernel
theorem dX5_solve_133 : decode cX5_solve 133 = .ok (.if_icmp .ne 7, 3) := by decide +kernel
theorem dX5_solve_136 : decode cX5_solve 136 = .ok (.iconst 0, 1) := by decide +kernel
theorem dX5_solve_137 : decode cX5_solve 137 = .ok (.goto 15, 3) := by decide +kernel
theorem dX5_solve_140 : decode cX5_solve 140 = .ok (.aload_n 0, 1) := by decide +kernel
theorem dX5_solve_141 : decode cX5_solve 141 = .ok (.getfield 43, 3) := by decide +kernel
theorem dX5_solve_144 : decode cX5_solve 144 = .ok (.bipush 9, 2) := by decide +kernel
theorem dX5_solve_146 : decode cX5_solve 146 = .ok (.iload 5, 2) := by decide +kernel
theorem dX5_solve_148 : decode cX5_solve 148 = .ok (.imul, 1) := by decide +kernel
theorem dX5_solve_149 : decode cX5_solve 149 = .ok (.iload_n 2, 1) := by decide +kernel
theorem dX5_solve_150 : decode cX5_solve 150 = .ok (.iadd, 1) := by decide +kernel
theorem dX5_solve_151 : decode cX5_solve 151 = .ok (.iaload, 1) := by decide +kernel
theorem dX5_solve_152 : decode cX5_solve 152 = .ok (.istore 6, 2) := by decide +kernel
theorem dX5_solve_154 : decode cX5_solve 154 = .ok (.iconst 0, 1) := by decide +kernel
theorem dX5_solve_155 : decode cX5_solve 155 = .ok (.istore 7, 2) := by decide +kernel
theorem dX5_solve_157 : decode cX5_solve 157 = .ok (.iload 7, 2) := by decide +kernel
theorem dX5_solve_159 : decode cX5_solve 159 = .ok (.iload_n 1, 1) := by decide +kernel
theorem dX5_solve_160 : decode cX5_solve 160 = .ok (.if_icmp .gt 53, 3) := by decide +kernel
theorem dX5_solve_163 : decode cX5_solve 163 = .ok (.aload_n 0, 1) := by decide +kernel
theorem dX5_solve_164 : decode cX5_solve 164 = .ok (.getfield 43, 3) := by decide +kernel
theorem dX5_solve_167 : decode cX5_solve 167 = .ok (.bipush 9, 2) := by decide +kernel
theorem dX5_solve_169 : decode cX5_solve 169 = .ok (.iload 5, 2) := by decide +kernel
theorem dX5_solve_171 : decode cX5_solve 171 = .ok (.imul, 1) := by decide +kernel
theorem dX5_solve_172 : decode cX5_solve 172 = .ok (.iload 7, 2) := by decide +kernel
theorem dX5_solve_174 : decode cX5_solve 174 = .ok (.iadd, 1) := by decide +kernel
theorem dX5_solve_175 : decode cX5_solve 175 = .ok (.aload_n 0, 1) := by decide +kernel
theorem dX5_solve_176 : decode cX5_solve 176 = .ok (.getfield 43, 3) := by decide +kernel
theorem dX5_solve_179 : decode cX5_solve 179 = .ok (.bipush 9, 2) := by decide +kernel
theorem dX5_solve_181 : decode cX5_solve 181 = .ok (.iload 5, 2) := by decide +kernel
theorem dX5_solve_183 : decode cX5_solve 183 = .ok (.imul, 1) := by decide +kernel
theorem dX5_solve_184 : decode cX5_solve 184 = .ok (.iload 7, 2) := by decide +kernel
theorem dX5_solve_186 : decode cX5_solve 186 = .ok (.iadd, 1) := by decide +kernel
theorem dX5_solve_187 : decode cX5_solve 187 = .ok (.iaload, 1) := by decide +kernel
theorem dX5_solve_188 : decode cX5_solve 188 = .ok (.iload 6, 2) := by decide +kernel
theorem dX5_solve_190 : decode cX5_solve 190 = .ok (.aload_n 0, 1) := by decide +kernel
theorem dX5_solve_191 : decode cX5_solve 191 = .ok (.getfield 43, 3) := by decide +kernel
theorem dX5_solve_194 : decode cX5_solve 194 = .ok (.bipush 9, 2) := by decide +kernel
theorem dX5_solve_196 : decode cX5_solve 196 = .ok (.iload_n 2, 1) := by decide +kernel
theorem dX5_solve_197 : decode cX5_solve 197 = .ok (.imul, 1) := by decide +kernel
theorem dX5_solve_198 : decode cX5_solve 198 = .ok (.iload 7, 2) := by decide +kernel
theorem dX5_solve_200 : decode cX5_solve 200 = .ok (.iadd, 1) := by decide +kernel
theorem dX5_solve_201 : decode cX5_solve 201 = .ok (.iaload, 1) := by decide +kernel
theorem dX5_solve_202 : decode cX5_solve 202 = .ok (.invokestatic 71, 3) := by decide +kernel
theorem dX5_solve_205 : decode cX5_solve 205 = .ok (.ixor, 1) := by decide +kernel
theorem dX5_solve_206 : decode cX5_solve 206 = .ok (.iastore, 1) := by decide +kernel
theorem dX5_solve_207 : decode cX5_solve 207 = .ok (.iinc 7 1, 3) := by decide +kernel
theorem dX5_solve_210 : decode cX5_solve 210 = .ok (.goto (-53), 3) := by decide +kernel
theorem dX5_solve_213 : decode cX5_solve 213 = .ok (.iinc 5 1, 3) := by decide +kernel
theorem dX5_solve_216 : decode cX5_solve 216 = .ok (.goto (-95), 3) := by decide +kernel
theorem dX5_solve_219 : decode cX5_solve 219 = .ok (.iinc 2 1, 3) := by decide +kernel
theorem dX5_solve_222 : decode cX5_solve 222 = .ok (.goto (-215), 3) := by decide +kernel
theorem dX5_solve_225 : decode cX5_solve 225 = .ok (.iload_n 1, 1) := by decide +kernel
theorem dX5_solve_226 : decode cX5_solve 226 = .ok (.istore_n 2, 1) := by decide +kernel
theorem dX5_solve_227 : decode cX5_solve 227 = .ok (.iload_n 2, 1) := by decide +kernel
theorem dX5_solve_228 : decode cX5_solve 228 = .ok (.aload_n 0, 1) := by decide +kernel
theorem dX5_solve_229 : decode cX5_solve 229 = .ok (.getfield 62, 3) := by decide +kernel
theorem dX5_solve_232 : decode cX5_solve 232 = .ok (.if_icmp .ge 25, 3) := by decide +kernel
theorem dX5_solve_235 : decode cX5_solve 235 = .ok (.aload_n 0, 1) := by decide +kernel
theorem dX5_solve_236 : decode cX5_solve 236 = .ok (.getfield 43, 3) := by decide +kernel
theorem dX5_solve_239 : decode cX5_solve 239 = .ok (.bipush 9, 2) := by decide +kernel
theorem dX5_solve_241 : decode cX5_solve 241 = .ok (.iload_n 2, 1) := by decide +kernel
theorem dX5_solve_242 : decode cX5_solve 242 = .ok (.imul, 1) := by decide +kernel
theorem dX5_solve_243 : decode cX5_solve 243 = .ok (.iload_n 1, 1) := by decide +kernel
theorem dX5_solve_244 : decode cX5_solve 244 = .ok (.iadd, 1) := by decide +kernel
theorem dX5_solve_245 : decode cX5_solve 245 = .ok (.iaload, 1) := by decide +kernel
theorem dX5_solve_246 : decode cX5_solve 246 = .ok (.ifCond .eq 5, 3) := by decide +kernel
theorem dX5_solve_249 : decode cX5_solve 249 = .ok (.iconst 0, 1) := by decide +kernel
theorem dX5_solve_250 : decode cX5_solve 250 = .ok (.ireturn, 1) := by decide +kernel
theorem dX5_solve_251 : decode cX5_solve 251 = .ok (.iinc 2 1, 3) := by decide +kernel
theorem dX5_solve_254 : decode cX5_solve 254 = .ok (.goto (-27), 3) := by decide +kernel
theorem dX5_solve_257 : decode cX5_solve 257 = .ok (.iconst 1, 1) := by decide +kernel
theorem dX5_solve_258 : decode cX5_solve 258 = .ok (.ireturn, 1) := by decide +kernel
theorem dX5_lost_0 : decode cX5_lost 0 = .ok (.iconst 0, 1) := by decide +kernel
theorem dX5_lost_1 : decode cX5_lost 1 = .ok (.istore_n 1, 1) := by decide +kernel
theorem dX5_lost_2 : decode cX5_lost 2 = .ok (.iconst 0, 1) := by decide +kernel
theorem dX5_lost_3 : decode cX5_lost 3 = .ok (.istore_n 2, 1) := by decide +kernel
theorem dX5_lost_4 : decode cX5_lost 4 = .ok (.iload_n 2, 1) := by decide +kernel
theorem dX5_lost_5 : decode cX5_lost 5 = .ok (.aload_n 0, 1) := by decide +kernel
theorem dX5_lost_6 : decode cX5_lost 6 = .ok (.getfield 65, 3) := by decide +kernel
theorem dX5_lost_9 : decode cX5_lost 9 = .ok (.if_icmp .ge 26, 3) := by decide +kernel
theorem dX5_lost_12 : decode cX5_lost 12 = .ok (.aload_n 0, 1) := by decide +kernel
theorem dX5_lost_13 : decode cX5_lost 13 = .ok (.getfield 40, 3) := by decide +kernel
theorem dX5_lost_16 : decode cX5_lost 16 = .ok (.iload_n 2, 1) := by decide +kernel
theorem dX5_lost_17 : decode cX5_lost 17 = .ok (.baload, 1) := by decide +kernel
theorem dX5_lost_18 : decode cX5_lost 18 = .ok (.ifCond .eq 9, 3) := by decide +kernel
theorem dX5_lost_21 : decode cX5_lost 21 = .ok (.iload_n 1, 1) := by decide +kernel
theorem dX5_lost_22 : decode cX5_lost 22 = .ok (.iconst 1, 1) := by decide +kernel
theorem dX5_lost_23 : decode cX5_lost 23 = .ok (.iadd, 1) := by decide +kernel
theorem dX5_lost_24 : decode cX5_lost 24 = .ok (.goto 4, 3) := by decide +kernel
theorem dX5_lost_27 : decode cX5_lost 27 = .ok (.iload_n 1, 1) := by decide +kernel
theorem dX5_lost_28 : decode cX5_lost 28 = .ok (.istore_n 1, 1) := by decide +kernel
theorem dX5_lost_29 : decode cX5_lost 29 = .ok (.iinc 2 1, 3) := by decide +kernel
theorem dX5_lost_32 : decode cX5_lost 32 = .ok (.goto (-28), 3) := by decide +kernel
theorem dX5_lost_35 : decode cX5_lost 35 = .ok (.iload_n 1, 1) := by decide +kernel
theorem dX5_lost_36 : decode cX5_lost 36 = .ok (.ireturn, 1) := by decide +kernel
theorem dX5_begin_0 : decode cX5_begin 0 = .ok (.iconst 0, 1) := by decide +kernel
theorem dX5_begin_1 : decode cX5_begin 1 = .ok (.istore_n 3, 1) := by decide +kernel
theorem dX5_begin_2 : decode cX5_begin 2 = .ok (.iconst 0, 1) := by decide +kernel
theorem dX5_begin_3 : decode cX5_begin 3 = .ok (.istore 4, 2) := by decide +kernel
theorem dX5_begin_5 : decode cX5_begin 5 = .ok (.iload 4, 2) := by decide +kernel
theorem dX5_begin_7 : decode cX5_begin 7 = .ok (.aload_n 0, 1) := by decide +kernel
theorem dX5_begin_8 : decode cX5_begin 8 = .ok (.getfield 65, 3) := by decide +kernel
theorem dX5_begin_11 : decode cX5_begin 11 = .ok (.if_icmp .ge 30, 3) := by decide +kernel
theorem dX5_begin_14 : decode cX5_begin 14 = .ok (.aload_n 0, 1) := by decide +kernel
theorem dX5_begin_15 : decode cX5_begin 15 = .ok (.getfield 40, 3) := by decide +kernel
theorem dX5_begin_18 : decode cX5_begin 18 = .ok (.iload 4, 2) := by decide +kernel
theorem dX5_begin_20 : decode cX5_begin 20 = .ok (.baload, 1) := by decide +kernel
theorem dX5_begin_21 : decode cX5_begin 21 = .ok (.ifCond .eq 14, 3) := by decide +kernel
theorem dX5_begin_24 : decode cX5_begin 24 = .ok (.aload_n 0, 1) := by decide +kernel
theorem dX5_begin_25 : decode cX5_begin 25 = .ok (.getfield 46, 3) := by decide +kernel
theorem dX5_begin_28 : decode cX5_begin 28 = .ok (.iload_n 3, 1) := by decide +kernel
theorem dX5_begin_29 : decode cX5_begin 29 = .ok (.iload 4, 2) := by decide +kernel
theorem dX5_begin_31 : decode cX5_begin 31 = .ok (.iastore, 1) := by decide +kernel
theorem dX5_begin_32 : decode cX5_begin 32 = .ok (.iinc 3 1, 3) := by decide +kernel
theorem dX5_begin_35 : decode cX5_begin 35 = .ok (.iinc 4 1, 3) := by decide +kernel
theorem dX5_begin_38 : decode cX5_begin 38 = .ok (.goto (-33), 3) := by decide +kernel
theorem dX5_begin_41 : decode cX5_begin 41 = .ok (.iconst 0, 1) := by decide +kernel
theorem dX5_begin_42 : decode cX5_begin 42 = .ok (.istore 4, 2) := by decide +kernel
theorem dX5_begin_44 : decode cX5_begin 44 = .ok (.iload_n 3, 1) := by decide +kernel
theorem dX5_begin_45 : decode cX5_begin 45 = .ok (.iload_n 1, 1) := by decide +kernel
theorem dX5_begin_46 : decode cX5_begin 46 = .ok (.iload_n 2, 1) := by decide +kernel
theorem dX5_begin_47 : decode cX5_begin 47 = .ok (.iadd, 1) := by decide +kernel
theorem dX5_begin_48 : decode cX5_begin 48 = .ok (.if_icmp .ge 30, 3) := by decide +kernel
theorem dX5_begin_51 : decode cX5_begin 51 = .ok (.aload_n 0, 1) := by decide +kernel
theorem dX5_begin_52 : decode cX5_begin 52 = .ok (.getfield 40, 3) := by decide +kernel
theorem dX5_begin_55 : decode cX5_begin 55 = .ok (.iload 4, 2) := by decide +kernel
theorem dX5_begin_57 : decode cX5_begin 57 = .ok (.baload, 1) := by decide +kernel
theorem dX5_begin_58 : decode cX5_begin 58 = .ok (.ifCond .ne 14, 3) := by decide +kernel
theorem dX5_begin_61 : decode cX5_begin 61 = .ok (.aload_n 0, 1) := by decide +kernel
theorem dX5_begin_62 : decode cX5_begin 62 = .ok (.getfield 46, 3) := by decide +kernel
theorem dX5_begin_65 : decode cX5_begin 65 = .ok (.iload_n 3, 1) := by decide +kernel
theorem dX5_begin_66 : decode cX5_begin 66 = .ok (.iload 4, 2) := by decide +kernel
theorem dX5_begin_68 : decode cX5_begin 68 = .ok (.iastore, 1) := by decide +kernel
theorem dX5_begin_69 : decode cX5_begin 69 = .ok (.iinc 3 1, 3) := by decide +kernel
theorem dX5_begin_72 : decode cX5_begin 72 = .ok (.iinc 4 1, 3) := by decide +kernel
theorem dX5_begin_75 : decode cX5_begin 75 = .ok (.goto (-31), 3) := by decide +kernel
theorem dX5_begin_78 : decode cX5_begin 78 = .ok (.return_, 1) := by decide +kernel
theorem dX5_behind_0 : decode cX5_behind 0 = .ok (.iload_n 1, 1) := by decide +kernel
theorem dX5_behind_1 : decode cX5_behind 1 = .ok (.iconst 1, 1) := by decide +kernel
theorem dX5_behind_2 : decode cX5_behind 2 = .ok (.iadd, 1) := by decide +kernel
theorem dX5_behind_3 : decode cX5_behind 3 = .ok (.istore_n 2, 1) := by decide +kernel
theorem dX5_behind_4 : decode cX5_behind 4 = .ok (.iload_n 2, 1) := by decide +kernel
theorem dX5_behind_5 : decode cX5_behind 5 = .ok (.aload_n 0, 1) := by decide +kernel
theorem dX5_behind_6 : decode cX5_behind 6 = .ok (.getfield 65, 3) := by decide +kernel
theorem dX5_behind_9 : decode cX5_behind 9 = .ok (.if_icmp .ge 18, 3) := by decide +kernel
theorem dX5_behind_12 : decode cX5_behind 12 = .ok (.aload_n 0, 1) := by decide +kernel
theorem dX5_behind_13 : decode cX5_behind 13 = .ok (.getfield 40, 3) := by decide +kernel
theorem dX5_behind_16 : decode cX5_behind 16 = .ok (.iload_n 2, 1) := by decide +kernel
theorem dX5_behind_17 : decode cX5_behind 17 = .ok (.baload, 1) := by decide +kernel
theorem dX5_behind_18 : decode cX5_behind 18 = .ok (.ifCond .eq 9, 3) := by decide +kernel
theorem dX5_behind_21 : decode cX5_behind 21 = .ok (.iinc 2 1, 3) := by decide +kernel
theorem dX5_behind_24 : decode cX5_behind 24 = .ok (.goto (-20), 3) := by decide +kernel
theorem dX5_behind_27 : decode cX5_behind 27 = .ok (.iload_n 2, 1) := by decide +kernel
theorem dX5_behind_28 : decode cX5_behind 28 = .ok (.ireturn, 1) := by decide +kernel
set_option maxRecDepth 20000 in
theorem ggX5_next_X5_behind : GoodIn wsX5_next wsX5_behind := goodIn_r _ [7, 2, 8, 9, 10, 11, 12, 13, 14, 15, 16, 17, 18, 19, 20, 21, 22, 23, 24, 25, 26, 27, 28, 29, 30, 31] (by decide +kernel) (by decide +kernel)
set_option maxRecDepth 20000 in
theorem gX5_next_X5_behind : GoodIn wsX5_next (wsV RX5 93 RX5 yX5_behind wsX5_behind) := goodIn_app (goodIn_of _ (by decide +kernel)) ggX5_next_X5_behind
theorem dX5_next_0 : decode cX5_next 0 = .ok (.iload_n 1, 1) := by decide +kernel
theorem dX5_next_1 : decode cX5_next 1 = .ok (.iload_n 2, 1) := by decide +kernel
theorem dX5_next_2 : decode cX5_next 2 = .ok (.iadd, 1) := by decide +kernel
theorem dX5_next_3 : decode cX5_next 3 = .ok (.iconst 1, 1) := by decide +kernel
theorem dX5_next_4 : decode cX5_next 4 = .ok (.isub, 1) := by decide +kernel
theorem dX5_next_5 : decode cX5_next 5 = .ok (.istore_n 3, 1) := by decide +kernel
theorem dX5_next_6 : decode cX5_next 6 = .ok (.iconst 0, 1) := by decide +kernel
theorem dX5_next_7 : decode cX5_next 7 = .ok (.istore 4, 2) := by decide +kernel
theorem dX5_next_9 : decode cX5_next 9 = .ok (.iload_n 3, 1) := by decide +kernel
theorem dX5_next_10 : decode cX5_next 10 = .ok (.iload_n 1, 1) := by decide +kernel
theorem dX5_next_11 : decode cX5_next 11 = .ok (.if_icmp .lt 84, 3) := by decide +kernel
theorem dX5_next_14 : decode cX5_next 14 = .ok (.iload 4, 2) := by decide +kernel
theorem dX5_next_16 : decode cX5_next 16 = .ok (.ifCond .ne 79, 3) := by decide +kernel
theorem dX5_next_19 : decode cX5_next 19 = .ok (.aload_n 0, 1) := by decide +kernel
theorem dX5_next_20 : decode cX5_next 20 = .ok (.aload_n 0, 1) := by decide +kernel
theorem dX5_next_21 : decode cX5_next 21 = .ok (.getfield 46, 3) := by decide +kernel
theorem dX5_next_24 : decode cX5_next 24 = .ok (.iload_n 3, 1) := by decide +kernel
theorem dX5_next_25 : decode cX5_next 25 = .ok (.iaload, 1) := by decide +kernel
theorem dX5_next_26 : decode cX5_next 26 = .ok (.invokevirtual 93, 3) := by decide +kernel
theorem dX5_next_29 : decode cX5_next 29 = .ok (.istore 5, 2) := by decide +kernel
theorem dX5_next_31 : decode cX5_next 31 = .ok (.iload_n 3, 1) := by decide +kernel
theorem dX5_next_32 : decode cX5_next 32 = .ok (.istore 6, 2) := by decide +kernel
theorem dX5_next_34 : decode cX5_next 34 = .ok (.iload 6, 2) := by decide +kernel
theorem dX5_next_36 : decode cX5_next 36 = .ok (.iload_n 1, 1) := by decide +kernel
theorem dX5_next_37 : decode cX5_next 37 = .ok (.iload_n 2, 1) := by decide +kernel
theorem dX5_next_38 : decode cX5_next 38 = .ok (.iadd, 1) := by decide +kernel
theorem dX5_next_39 : decode cX5_next 39 = .ok (.if_icmp .ge 35, 3) := by decide +kernel
theorem dX5_next_42 : decode cX5_next 42 = .ok (.iload 5, 2) := by decide +kernel
theorem dX5_next_44 : decode cX5_next 44 = .ok (.aload_n 0, 1) := by decide +kernel
theorem dX5_next_45 : decode cX5_next 45 = .ok (.getfield 65, 3) := by decide +kernel
theorem dX5_next_48 : decode cX5_next 48 = .ok (.if_icmp .ge 26, 3) := by decide +kernel
theorem dX5_next_51 : decode cX5_next 51 = .ok (.aload_n 0, 1) := by decide +kernel
theorem dX5_next_52 : decode cX5_next 52 = .ok (.getfield 46, 3) := by decide +kernel
theorem dX5_next_55 : decode cX5_next 55 = .ok (.iload 6, 2) := by decide +kernel
theorem dX5_next_57 : decode cX5_next 57 = .ok (.iload 5, 2) := by decide +kernel
theorem dX5_next_59 : decode cX5_next 59 = .ok (.iastore, 1) := by decide +kernel
theorem dX5_next_60 : decode cX5_next 60 = .ok (.aload_n 0, 1) := by decide +kernel
theorem dX5_next_61 : decode cX5_next 61 = .ok (.iload 5, 2) := by decide +kernel
theorem dX5_next_63 : decode cX5_next 63 = .ok (.invokevirtual 93, 3) := by decide +kernel
theorem dX5_next_66 : decode cX5_next 66 = .ok (.istore 5, 2) := by decide +kernel
theorem dX5_next_68 : decode cX5_next 68 = .ok (.iinc 6 1, 3) := by decide +kernel
theorem dX5_next_71 : decode cX5_next 71 = .ok (.goto (-37), 3) := by decide +kernel
theorem dX5_next_74 : decode cX5_next 74 = .ok (.iload 6, 2) := by decide +kernel
theorem dX5_next_76 : decode cX5_next 76 = .ok (.iload_n 1, 1) := by decide +kernel
theorem dX5_next_77 : decode cX5_next 77 = .ok (.iload_n 2, 1) := by decide +kernel
theorem dX5_next_78 : decode cX5_next 78 = .ok (.iadd, 1) := by decide +kernel
theorem dX5_next_79 : decode cX5_next 79 = .ok (.if_icmp .ne 7, 3) := by decide +kernel
theorem dX5_next_82 : decode cX5_next 82 = .ok (.iconst 1, 1) := by decide +kernel
theorem dX5_next_83 : decode cX5_next 83 = .ok (.goto 4, 3) := by decide +kernel
theorem dX5_next_86 : decode cX5_next 86 = .ok (.iconst 0, 1) := by decide +kernel
theorem dX5_next_87 : decode cX5_next 87 = .ok (.istore 4, 2) := by decide +kernel
theorem dX5_next_89 : decode cX5_next 89 = .ok (.iinc 3 (-1), 3) := by decide +kernel
theorem dX5_next_92 : decode cX5_next 92 = .ok (.goto (-83), 3) := by decide +kernel
theorem dX5_next_95 : decode cX5_next 95 = .ok (.iload 4, 2) := by decide +kernel
theorem dX5_next_97 : decode cX5_next 97 = .ok (.ireturn, 1) := by decide +kernel
set_option maxRecDepth 20000 in
theorem ggX5_mend_X5_lost : GoodIn wsX5_mend wsX5_lost := goodIn_r _ [10, 2, 11, 49, 50, 51, 52, 53, 54, 55, 56, 57, 58, 59, 60, 61, 62, 63, 64, 65, 66, 67, 68, 69, 70, 71] (by decide +kernel) (by decide +kernel)
set_option maxRecDepth 20000 in
theorem gX5_mend_X5_lost : GoodIn wsX5_mend (wsV RX5 96 RX5 yX5_lost wsX5_lost) := goodIn_app (goodIn_of _ (by decide +kernel)) ggX5_mend_X5_lost
set_option maxRecDepth 20000 in
theorem ggX5_mend_X5_begin : GoodIn wsX5_mend wsX5_begin := goodIn_r _ [15, 2, 11, 5, 49, 50, 51, 52, 53, 54, 55, 56, 57, 58, 59, 60, 61, 62, 63, 64, 65, 66, 67, 68, 69, 70, 71] (by decide +kernel) (by decide +kernel)
set_option maxRecDepth 20000 in
theorem gX5_mend_X5_begin : GoodIn wsX5_mend (wsV RX5 100 RX5 yX5_begin wsX5_begin) := goodIn_app (goodIn_of _ (by decide +kernel)) ggX5_mend_X5_begin
set_option maxRecDepth 20000 in
theorem ggX5_mend_X5_solve : GoodIn wsX5_mend wsX5_solve := goodIn_r _ [19, 1, 3, 20, 21, 22, 9, 23, 2, 5, 24, 25, 26, 27, 28, 29, 30, 31, 32, 33, 4, 34, 35, 36, 37, 38, 39, 40, 49, 50, 51, 52, 53, 54, 55, 56, 57, 58, 59, 60, 61, 62, 63, 64, 65, 66, 67, 68, 69, 70, 71] (by decide +kernel) (by decide +kernel)
set_option maxRecDepth 20000 in
theorem gX5_mend_X5_solve : GoodIn wsX5_mend (wsV RX5 103 RX5 yX5_solve wsX5_solve) := goodIn_app (goodIn_of _ (by decide +kernel)) ggX5_mend_X5_solve
set_option maxRecDepth 20000 in
theorem ggX5_mend_X5_next : GoodIn wsX5_mend wsX5_next := goodIn_r _ [44, 5, 2, 45, 46, 47, 9, 48, 11, 49, 50, 51, 52, 53, 54, 55, 56, 57, 58, 59, 60, 61, 62, 63, 64, 65, 66, 67, 68, 69, 70, 71] (by decide +kernel) (by decide +kernel)
set_option maxRecDepth 20000 in
theorem gX5_mend_X5_next : GoodIn wsX5_mend (wsV RX5 107 RX5 yX5_next wsX5_next) := goodIn_app (goodIn_of _ (by decide +kernel)) ggX5_mend_X5_next
theorem dX5_mend_0 : decode cX5_mend 0 = .ok (.aload_n 0, 1) := by decide +kernel
theorem dX5_mend_1 : decode cX5_mend 1 = .ok (.invokevirtual 96, 3) := by decide +kernel
theorem dX5_mend_4 : decode cX5_mend 4 = .ok (.istore_n 1, 1) := by decide +kernel
theorem dX5_mend_5 : decode cX5_mend 5 = .ok (.iload_n 1, 1) := by decide +kernel
theorem dX5_mend_6 : decode cX5_mend 6 = .ok (.aload_n 0, 1) := by decide +kernel
theorem dX5_mend_7 : decode cX5_mend 7 = .ok (.getfield 62, 3) := by decide +kernel
theorem dX5_mend_10 : decode cX5_mend 10 = .ok (.if_icmp .le 5, 3) := by decide +kernel
theorem dX5_mend_13 : decode cX5_mend 13 = .ok (.iconst (-1), 1) := by decide +kernel
theorem dX5_mend_14 : decode cX5_mend 14 = .ok (.ireturn, 1) := by decide +kernel
theorem dX5_mend_15 : decode cX5_mend 15 = .ok (.aload_n 0, 1) := by decide +kernel
theorem dX5_mend_16 : decode cX5_mend 16 = .ok (.getfield 62, 3) := by decide +kernel
theorem dX5_mend_19 : decode cX5_mend 19 = .ok (.iload_n 1, 1) := by decide +kernel
theorem dX5_mend_20 : decode cX5_mend 20 = .ok (.isub, 1) := by decide +kernel
theorem dX5_mend_21 : decode cX5_mend 21 = .ok (.iconst 2, 1) := by decide +kernel
theorem dX5_mend_22 : decode cX5_mend 22 = .ok (.idiv, 1) := by decide +kernel
theorem dX5_mend_23 : decode cX5_mend 23 = .ok (.istore_n 2, 1) := by decide +kernel
theorem dX5_mend_24 : decode cX5_mend 24 = .ok (.iload_n 2, 1) := by decide +kernel
theorem dX5_mend_25 : decode cX5_mend 25 = .ok (.aload_n 0, 1) := by decide +kernel
theorem dX5_mend_26 : decode cX5_mend 26 = .ok (.getfield 65, 3) := by decide +kernel
theorem dX5_mend_29 : decode cX5_mend 29 = .ok (.iload_n 1, 1) := by decide +kernel
theorem dX5_mend_30 : decode cX5_mend 30 = .ok (.isub, 1) := by decide +kernel
theorem dX5_mend_31 : decode cX5_mend 31 = .ok (.if_icmp .le 12, 3) := by decide +kernel
theorem dX5_mend_34 : decode cX5_mend 34 = .ok (.aload_n 0, 1) := by decide +kernel
theorem dX5_mend_35 : decode cX5_mend 35 = .ok (.getfield 65, 3) := by decide +kernel
theorem dX5_mend_38 : decode cX5_mend 38 = .ok (.iload_n 1, 1) := by decide +kernel
theorem dX5_mend_39 : decode cX5_mend 39 = .ok (.isub, 1) := by decide +kernel
theorem dX5_mend_40 : decode cX5_mend 40 = .ok (.goto 4, 3) := by decide +kernel
theorem dX5_mend_43 : decode cX5_mend 43 = .ok (.iload_n 2, 1) := by decide +kernel
theorem dX5_mend_44 : decode cX5_mend 44 = .ok (.istore_n 2, 1) := by decide +kernel
theorem dX5_mend_45 : decode cX5_mend 45 = .ok (.aload_n 0, 1) := by decide +kernel
theorem dX5_mend_46 : decode cX5_mend 46 = .ok (.iload_n 1, 1) := by decide +kernel
theorem dX5_mend_47 : decode cX5_mend 47 = .ok (.iload_n 2, 1) := by decide +kernel
theorem dX5_mend_48 : decode cX5_mend 48 = .ok (.invokevirtual 100, 3) := by decide +kernel
theorem dX5_mend_51 : decode cX5_mend 51 = .ok (.aload_n 0, 1) := by decide +kernel
theorem dX5_mend_52 : decode cX5_mend 52 = .ok (.iload_n 1, 1) := by decide +kernel
theorem dX5_mend_53 : decode cX5_mend 53 = .ok (.iload_n 2, 1) := by decide +kernel
theorem dX5_mend_54 : decode cX5_mend 54 = .ok (.iadd, 1) := by decide +kernel
theorem dX5_mend_55 : decode cX5_mend 55 = .ok (.invokevirtual 103, 3) := by decide +kernel
theorem dX5_mend_58 : decode cX5_mend 58 = .ok (.istore_n 3, 1) := by decide +kernel
theorem dX5_mend_59 : decode cX5_mend 59 = .ok (.iload_n 3, 1) := by decide +kernel
theorem dX5_mend_60 : decode cX5_mend 60 = .ok (.ifCond .ne 27, 3) := by decide +kernel
theorem dX5_mend_63 : decode cX5_mend 63 = .ok (.iload_n 2, 1) := by decide +kernel
theorem dX5_mend_64 : decode cX5_mend 64 = .ok (.ifCond .le 23, 3) := by decide +kernel
theorem dX5_mend_67 : decode cX5_mend 67 = .ok (.aload_n 0, 1) := by decide +kernel
theorem dX5_mend_68 : decode cX5_mend 68 = .ok (.iload_n 1, 1) := by decide +kernel
theorem dX5_mend_69 : decode cX5_mend 69 = .ok (.iload_n 2, 1) := by decide +kernel
theorem dX5_mend_70 : decode cX5_mend 70 = .ok (.invokevirtual 107, 3) := by decide +kernel
theorem dX5_mend_73 : decode cX5_mend 73 = .ok (.ifCond .eq 14, 3) := by decide +kernel
theorem dX5_mend_76 : decode cX5_mend 76 = .ok (.aload_n 0, 1) := by decide +kernel
theorem dX5_mend_77 : decode cX5_mend 77 = .ok (.iload_n 1, 1) := by decide +kernel
theorem dX5_mend_78 : decode cX5_mend 78 = .ok (.iload_n 2, 1) := by decide +kernel
theorem dX5_mend_79 : decode cX5_mend 79 = .ok (.iadd, 1) := by decide +kernel
theorem dX5_mend_80 : decode cX5_mend 80 = .ok (.invokevirtual 103, 3) := by decide +kernel
theorem dX5_mend_83 : decode cX5_mend 83 = .ok (.istore_n 3, 1) := by decide +kernel
theorem dX5_mend_84 : decode cX5_mend 84 = .ok (.goto (-25), 3) := by decide +kernel
theorem dX5_mend_87 : decode cX5_mend 87 = .ok (.iload_n 3, 1) := by decide +kernel
theorem dX5_mend_88 : decode cX5_mend 88 = .ok (.ifCond .ne 5, 3) := by decide +kernel
theorem dX5_mend_91 : decode cX5_mend 91 = .ok (.iconst (-1), 1) := by decide +kernel
theorem dX5_mend_92 : decode cX5_mend 92 = .ok (.ireturn, 1) := by decide +kernel
theorem dX5_mend_93 : decode cX5_mend 93 = .ok (.iload_n 1, 1) := by decide +kernel
theorem dX5_mend_94 : decode cX5_mend 94 = .ok (.istore 4, 2) := by decide +kernel
theorem dX5_mend_96 : decode cX5_mend 96 = .ok (.iconst 0, 1) := by decide +kernel
theorem dX5_mend_97 : decode cX5_mend 97 = .ok (.istore 5, 2) := by decide +kernel
theorem dX5_mend_99 : decode cX5_mend 99 = .ok (.iload 5, 2) := by decide +kernel
theorem dX5_mend_101 : decode cX5_mend 101 = .ok (.iload_n 1, 1) := by decide +kernel
theorem dX5_mend_102 : decode cX5_mend 102 = .ok (.iload_n 2, 1) := by decide +kernel
theorem dX5_mend_103 : decode cX5_mend 103 = .ok (.iadd, 1) := by decide +kernel
theorem dX5_mend_104 : decode cX5_mend 104 = .ok (.if_icmp .ge 74, 3) := by decide +kernel
theorem dX5_mend_107 : decode cX5_mend 107 = .ok (.aload_n 0, 1) := by decide +kernel
theorem dX5_mend_108 : decode cX5_mend 108 = .ok (.getfield 43, 3) := by decide +kernel
theorem dX5_mend_111 : decode cX5_mend 111 = .ok (.bipush 9, 2) := by decide +kernel
theorem dX5_mend_113 : decode cX5_mend 113 = .ok (.iload 5, 2) := by decide +kernel
theorem dX5_mend_115 : decode cX5_mend 115 = .ok (.imul, 1) := by decide +kernel
theorem dX5_mend_116 : decode cX5_mend 116 = .ok (.iload_n 1, 1) := by decide +kernel
theorem dX5_mend_117 : decode cX5_mend 117 = .ok (.iadd, 1) := by decide +kernel
theorem dX5_mend_118 : decode cX5_mend 118 = .ok (.iload_n 2, 1) := by decide +kernel
theorem dX5_mend_119 : decode cX5_mend 119 = .ok (.iadd, 1) := by decide +kernel
theorem dX5_mend_120 : decode cX5_mend 120 = .ok (.iaload, 1) := by decide +kernel
theorem dX5_mend_121 : decode cX5_mend 121 = .ok (.istore 6, 2) := by decide +kernel
theorem dX5_mend_123 : decode cX5_mend 123 = .ok (.aload_n 0, 1) := by decide +kernel
theorem dX5_mend_124 : decode cX5_mend 124 = .ok (.getfield 37, 3) := by decide +kernel
theorem dX5_mend_127 : decode cX5_mend 127 = .ok (.aload_n 0, 1) := by decide +kernel
theorem dX5_mend_128 : decode cX5_mend 128 = .ok (.getfield 46, 3) := by decide +kernel
theorem dX5_mend_131 : decode cX5_mend 131 = .ok (.iload 5, 2) := by decide +kernel
theorem dX5_mend_133 : decode cX5_mend 133 = .ok (.iaload, 1) := by decide +kernel
theorem dX5_mend_134 : decode cX5_mend 134 = .ok (.aload_n 0, 1) := by decide +kernel
theorem dX5_mend_135 : decode cX5_mend 135 = .ok (.getfield 37, 3) := by decide +kernel
theorem dX5_mend_138 : decode cX5_mend 138 = .ok (.aload_n 0, 1) := by decide +kernel
theorem dX5_mend_139 : decode cX5_mend 139 = .ok (.getfield 46, 3) := by decide +kernel
theorem dX5_mend_142 : decode cX5_mend 142 = .ok (.iload 5, 2) := by decide +kernel
theorem dX5_mend_144 : decode cX5_mend 144 = .ok (.iaload, 1) := by decide +kernel
theorem dX5_mend_145 : decode cX5_mend 145 = .ok (.iaload, 1) := by decide +kernel
theorem dX5_mend_146 : decode cX5_mend 146 = .ok (.iload 6, 2) := by decide +kernel
theorem dX5_mend_148 : decode cX5_mend 148 = .ok (.ixor, 1) := by decide +kernel
theorem dX5_mend_149 : decode cX5_mend 149 = .ok (.iastore, 1) := by decide +kernel
theorem dX5_mend_150 : decode cX5_mend 150 = .ok (.iload 5, 2) := by decide +kernel
theorem dX5_mend_152 : decode cX5_mend 152 = .ok (.iload_n 1, 1) := by decide +kernel
theorem dX5_mend_153 : decode cX5_mend 153 = .ok (.if_icmp .lt 15, 3) := by decide +kernel
theorem dX5_mend_156 : decode cX5_mend 156 = .ok (.iload 6, 2) := by decide +kernel
theorem dX5_mend_158 : decode cX5_mend 158 = .ok (.ifCond .eq 10, 3) := by decide +kernel
theorem dX5_mend_161 : decode cX5_mend 161 = .ok (.iload 4, 2) := by decide +kernel
theorem dX5_mend_163 : decode cX5_mend 163 = .ok (.iconst 1, 1) := by decide +kernel
theorem dX5_mend_164 : decode cX5_mend 164 = .ok (.iadd, 1) := by decide +kernel
theorem dX5_mend_165 : decode cX5_mend 165 = .ok (.goto 5, 3) := by decide +kernel
theorem dX5_mend_168 : decode cX5_mend 168 = .ok (.iload 4, 2) := by decide +kernel
theorem dX5_mend_170 : decode cX5_mend 170 = .ok (.istore 4, 2) := by decide +kernel
theorem dX5_mend_172 : decode cX5_mend 172 = .ok (.iinc 5 1, 3) := by decide +kernel
theorem dX5_mend_175 : decode cX5_mend 175 = .ok (.goto (-76), 3) := by decide +kernel
theorem dX5_mend_178 : decode cX5_mend 178 = .ok (.iload 4, 2) := by decide +kernel
theorem dX5_mend_180 : decode cX5_mend 180 = .ok (.ireturn, 1) := by decide +kernel
theorem dX5_length_0 : decode cX5_length 0 = .ok (.aload_n 0, 1) := by decide +kernel
theorem dX5_length_1 : decode cX5_length 1 = .ok (.getfield 56, 3) := by decide +kernel
theorem dX5_length_4 : decode cX5_length 4 = .ok (.iconst 2, 1) := by decide +kernel
theorem dX5_length_5 : decode cX5_length 5 = .ok (.if_icmp .ne 9, 3) := by decide +kernel
theorem dX5_length_8 : decode cX5_length 8 = .ok (.sipush 144, 3) := by decide +kernel
theorem dX5_length_11 : decode cX5_length 11 = .ok (.goto 31, 3) := by decide +kernel
theorem dX5_length_14 : decode cX5_length 14 = .ok (.aload_n 0, 1) := by decide +kernel
theorem dX5_length_15 : decode cX5_length 15 = .ok (.getfield 56, 3) := by decide +kernel
theorem dX5_length_18 : decode cX5_length 18 = .ok (.iconst 3, 1) := by decide +kernel
theorem dX5_length_19 : decode cX5_length 19 = .ok (.if_icmp .ne 15, 3) := by decide +kernel
theorem dX5_length_22 : decode cX5_length 22 = .ok (.bipush 6, 2) := by decide +kernel
theorem dX5_length_24 : decode cX5_length 24 = .ok (.aload_n 0, 1) := by decide +kernel
theorem dX5_length_25 : decode cX5_length 25 = .ok (.getfield 65, 3) := by decide +kernel
theorem dX5_length_28 : decode cX5_length 28 = .ok (.imul, 1) := by decide +kernel
theorem dX5_length_29 : decode cX5_length 29 = .ok (.iconst 4, 1) := by decide +kernel
theorem dX5_length_30 : decode cX5_length 30 = .ok (.iadd, 1) := by decide +kernel
theorem dX5_length_31 : decode cX5_length 31 = .ok (.goto 11, 3) := by decide +kernel
theorem dX5_length_34 : decode cX5_length 34 = .ok (.iconst 3, 1) := by decide +kernel
theorem dX5_length_35 : decode cX5_length 35 = .ok (.aload_n 0, 1) := by decide +kernel
theorem dX5_length_36 : decode cX5_length 36 = .ok (.getfield 65, 3) := by decide +kernel
theorem dX5_length_39 : decode cX5_length 39 = .ok (.imul, 1) := by decide +kernel
theorem dX5_length_40 : decode cX5_length 40 = .ok (.iconst 4, 1) := by decide +kernel
theorem dX5_length_41 : decode cX5_length 41 = .ok (.iadd, 1) := by decide +kernel
theorem dX5_length_42 : decode cX5_length 42 = .ok (.ireturn, 1) := by decide +kernel
set_option maxRecDepth 20000 in
theorem ggX5_frame_X5_length : GoodIn wsX5_frame wsX5_length := goodIn_r _ [6, 1, 7, 8, 9, 10, 11, 12, 13, 14, 15, 16, 17, 18, 19, 20, 21, 22, 23, 24, 25, 26, 27, 28, 29, 30] (by decide +kernel) (by decide +kernel)
set_option maxRecDepth 20000 in
theorem gX5_frame_X5_length : GoodIn wsX5_frame (wsV RX5 111 RX5 yX5_length wsX5_length) := goodIn_app (goodIn_of _ (by decide +kernel)) ggX5_frame_X5_length
theorem dX5_frame_0 : decode cX5_frame 0 = .ok (.aload_n 0, 1) := by decide +kernel
theorem dX5_frame_1 : decode cX5_frame 1 = .ok (.getfield 56, 3) := by decide +kernel
theorem dX5_frame_4 : decode cX5_frame 4 = .ok (.iconst 2, 1) := by decide +kernel
theorem dX5_frame_5 : decode cX5_frame 5 = .ok (.if_icmp .ne 55, 3) := by decide +kernel
theorem dX5_frame_8 : decode cX5_frame 8 = .ok (.iload_n 1, 1) := by decide +kernel
theorem dX5_frame_9 : decode cX5_frame 9 = .ok (.bipush 12, 2) := by decide +kernel
theorem dX5_frame_11 : decode cX5_frame 11 = .ok (.irem, 1) := by decide +kernel
theorem dX5_frame_12 : decode cX5_frame 12 = .ok (.istore_n 2, 1) := by decide +kernel
theorem dX5_frame_13 : decode cX5_frame 13 = .ok (.iload_n 1, 1) := by decide +kernel
theorem dX5_frame_14 : decode cX5_frame 14 = .ok (.bipush 12, 2) := by decide +kernel
theorem dX5_frame_16 : decode cX5_frame 16 = .ok (.idiv, 1) := by decide +kernel
theorem dX5_frame_17 : decode cX5_frame 17 = .ok (.istore_n 3, 1) := by decide +kernel
theorem dX5_frame_18 : decode cX5_frame 18 = .ok (.iload_n 2, 1) := by decide +kernel
theorem dX5_frame_19 : decode cX5_frame 19 = .ok (.ifCond .eq 9, 3) := by decide +kernel
theorem dX5_frame_22 : decode cX5_frame 22 = .ok (.iload_n 3, 1) := by decide +kernel
theorem dX5_frame_23 : decode cX5_frame 23 = .ok (.bipush 11, 2) := by decide +kernel
theorem dX5_frame_25 : decode cX5_frame 25 = .ok (.if_icmp .ne 7, 3) := by decide +kernel
theorem dX5_frame_28 : decode cX5_frame 28 = .ok (.iconst 1, 1) := by decide +kernel
theorem dX5_frame_29 : decode cX5_frame 29 = .ok (.goto 30, 3) := by decide +kernel
theorem dX5_frame_32 : decode cX5_frame 32 = .ok (.iload_n 3, 1) := by decide +kernel
theorem dX5_frame_33 : decode cX5_frame 33 = .ok (.ifCond .ne 11, 3) := by decide +kernel
theorem dX5_frame_36 : decode cX5_frame 36 = .ok (.iconst 1, 1) := by decide +kernel
theorem dX5_frame_37 : decode cX5_frame 37 = .ok (.iload_n 2, 1) := by decide +kernel
theorem dX5_frame_38 : decode cX5_frame 38 = .ok (.iconst 2, 1) := by decide +kernel
theorem dX5_frame_39 : decode cX5_frame 39 = .ok (.irem, 1) := by decide +kernel
theorem dX5_frame_40 : decode cX5_frame 40 = .ok (.isub, 1) := by decide +kernel
theorem dX5_frame_41 : decode cX5_frame 41 = .ok (.goto 18, 3) := by decide +kernel
theorem dX5_frame_44 : decode cX5_frame 44 = .ok (.iload_n 2, 1) := by decide +kernel
theorem dX5_frame_45 : decode cX5_frame 45 = .ok (.bipush 11, 2) := by decide +kernel
theorem dX5_frame_47 : decode cX5_frame 47 = .ok (.if_icmp .ne 11, 3) := by decide +kernel
theorem dX5_frame_50 : decode cX5_frame 50 = .ok (.iconst 1, 1) := by decide +kernel
theorem dX5_frame_51 : decode cX5_frame 51 = .ok (.iload_n 3, 1) := by decide +kernel
theorem dX5_frame_52 : decode cX5_frame 52 = .ok (.iconst 2, 1) := by decide +kernel
theorem dX5_frame_53 : decode cX5_frame 53 = .ok (.irem, 1) := by decide +kernel
theorem dX5_frame_54 : decode cX5_frame 54 = .ok (.isub, 1) := by decide +kernel
theorem dX5_frame_55 : decode cX5_frame 55 = .ok (.goto 4, 3) := by decide +kernel
theorem dX5_frame_58 : decode cX5_frame 58 = .ok (.iconst (-1), 1) := by decide +kernel
theorem dX5_frame_59 : decode cX5_frame 59 = .ok (.ireturn, 1) := by decide +kernel
theorem dX5_frame_60 : decode cX5_frame 60 = .ok (.aload_n 0, 1) := by decide +kernel
theorem dX5_frame_61 : decode cX5_frame 61 = .ok (.invokevirtual 111, 3) := by decide +kernel
theorem dX5_frame_64 : decode cX5_frame 64 = .ok (.istore_n 2, 1) := by decide +kernel
theorem dX5_frame_65 : decode cX5_frame 65 = .ok (.aload_n 0, 1) := by decide +kernel
theorem dX5_frame_66 : decode cX5_frame 66 = .ok (.getfield 56, 3) := by decide +kernel
theorem dX5_frame_69 : decode cX5_frame 69 = .ok (.iconst 3, 1) := by decide +kernel
theorem dX5_frame_70 : decode cX5_frame 70 = .ok (.if_icmp .ne 29, 3) := by decide +kernel
theorem dX5_frame_73 : decode cX5_frame 73 = .ok (.iload_n 1, 1) := by decide +kernel
theorem dX5_frame_74 : decode cX5_frame 74 = .ok (.ifCond .eq 10, 3) := by decide +kernel
theorem dX5_frame_77 : decode cX5_frame 77 = .ok (.iload_n 1, 1) := by decide +kernel
theorem dX5_frame_78 : decode cX5_frame 78 = .ok (.iload_n 2, 1) := by decide +kernel
theorem dX5_frame_79 : decode cX5_frame 79 = .ok (.iconst 2, 1) := by decide +kernel
theorem dX5_frame_80 : decode cX5_frame 80 = .ok (.isub, 1) := by decide +kernel
theorem dX5_frame_81 : decode cX5_frame 81 = .ok (.if_icmp .lt 7, 3) := by decide +kernel
theorem dX5_frame_84 : decode cX5_frame 84 = .ok (.iconst 1, 1) := by decide +kernel
theorem dX5_frame_85 : decode cX5_frame 85 = .ok (.goto 13, 3) := by decide +kernel
theorem dX5_frame_88 : decode cX5_frame 88 = .ok (.iload_n 1, 1) := by decide +kernel
theorem dX5_frame_89 : decode cX5_frame 89 = .ok (.iconst 1, 1) := by decide +kernel
theorem dX5_frame_90 : decode cX5_frame 90 = .ok (.if_icmp .ne 7, 3) := by decide +kernel
theorem dX5_frame_93 : decode cX5_frame 93 = .ok (.iconst 0, 1) := by decide +kernel
theorem dX5_frame_94 : decode cX5_frame 94 = .ok (.goto 4, 3) := by decide +kernel
theorem dX5_frame_97 : decode cX5_frame 97 = .ok (.iconst (-1), 1) := by decide +kernel
theorem dX5_frame_98 : decode cX5_frame 98 = .ok (.ireturn, 1) := by decide +kernel
theorem dX5_frame_99 : decode cX5_frame 99 = .ok (.iload_n 1, 1) := by decide +kernel
theorem dX5_frame_100 : decode cX5_frame 100 = .ok (.ifCond .ne 7, 3) := by decide +kernel
theorem dX5_frame_103 : decode cX5_frame 103 = .ok (.iconst 1, 1) := by decide +kernel
theorem dX5_frame_104 : decode cX5_frame 104 = .ok (.goto 35, 3) := by decide +kernel
theorem dX5_frame_107 : decode cX5_frame 107 = .ok (.iload_n 1, 1) := by decide +kernel
theorem dX5_frame_108 : decode cX5_frame 108 = .ok (.iconst 1, 1) := by decide +kernel
theorem dX5_frame_109 : decode cX5_frame 109 = .ok (.if_icmp .ne 7, 3) := by decide +kernel
theorem dX5_frame_112 : decode cX5_frame 112 = .ok (.iconst 3, 1) := by decide +kernel
theorem dX5_frame_113 : decode cX5_frame 113 = .ok (.goto 26, 3) := by decide +kernel
theorem dX5_frame_116 : decode cX5_frame 116 = .ok (.iload_n 1, 1) := by decide +kernel
theorem dX5_frame_117 : decode cX5_frame 117 = .ok (.iload_n 2, 1) := by decide +kernel
theorem dX5_frame_118 : decode cX5_frame 118 = .ok (.iconst 2, 1) := by decide +kernel
theorem dX5_frame_119 : decode cX5_frame 119 = .ok (.isub, 1) := by decide +kernel
theorem dX5_frame_120 : decode cX5_frame 120 = .ok (.if_icmp .ne 7, 3) := by decide +kernel
theorem dX5_frame_123 : decode cX5_frame 123 = .ok (.iconst 0, 1) := by decide +kernel
theorem dX5_frame_124 : decode cX5_frame 124 = .ok (.goto 15, 3) := by decide +kernel
theorem dX5_frame_127 : decode cX5_frame 127 = .ok (.iload_n 1, 1) := by decide +kernel
theorem dX5_frame_128 : decode cX5_frame 128 = .ok (.iload_n 2, 1) := by decide +kernel
theorem dX5_frame_129 : decode cX5_frame 129 = .ok (.iconst 1, 1) := by decide +kernel
theorem dX5_frame_130 : decode cX5_frame 130 = .ok (.isub, 1) := by decide +kernel
theorem dX5_frame_131 : decode cX5_frame 131 = .ok (.if_icmp .ne 7, 3) := by decide +kernel
theorem dX5_frame_134 : decode cX5_frame 134 = .ok (.iconst 1, 1) := by decide +kernel
theorem dX5_frame_135 : decode cX5_frame 135 = .ok (.goto 4, 3) := by decide +kernel
theorem dX5_frame_138 : decode cX5_frame 138 = .ok (.iconst (-1), 1) := by decide +kernel
theorem dX5_frame_139 : decode cX5_frame 139 = .ok (.ireturn, 1) := by decide +kernel
theorem dX5_isMasked_0 : decode cX5_isMasked 0 = .ok (.iload_n 0, 1) := by decide +kernel
theorem dX5_isMasked_1 : decode cX5_isMasked 1 = .ok (.ifCond .ne 19, 3) := by decide +kernel
theorem dX5_isMasked_4 : decode cX5_isMasked 4 = .ok (.iload_n 1, 1) := by decide +kernel
theorem dX5_isMasked_5 : decode cX5_isMasked 5 = .ok (.iload_n 2, 1) := by decide +kernel
theorem dX5_isMasked_6 : decode cX5_isMasked 6 = .ok (.iadd, 1) := by decide +kernel
theorem dX5_isMasked_7 : decode cX5_isMasked 7 = .ok (.iconst 2, 1) := by decide +kernel
theorem dX5_isMasked_8 : decode cX5_isMasked 8 = .ok (.irem, 1) := by decide +kernel
theorem dX5_isMasked_9 : decode cX5_isMasked 9 = .ok (.ifCond .ne 7, 3) := by decide +kernel
theorem dX5_isMasked_12 : decode cX5_isMasked 12 = .ok (.iconst 1, 1) := by decide +kernel
theorem dX5_isMasked_13 : decode cX5_isMasked 13 = .ok (.goto 58, 3) := by decide +kernel
theorem dX5_isMasked_16 : decode cX5_isMasked 16 = .ok (.iconst 0, 1) := by decide +kernel
theorem dX5_isMasked_17 : decode cX5_isMasked 17 = .ok (.goto 54, 3) := by decide +kernel
theorem dX5_isMasked_20 : decode cX5_isMasked 20 = .ok (.iload_n 0, 1) := by decide +kernel
theorem dX5_isMasked_21 : decode cX5_isMasked 21 = .ok (.iconst 1, 1) := by decide +kernel
theorem dX5_isMasked_22 : decode cX5_isMasked 22 = .ok (.if_icmp .ne 17, 3) := by decide +kernel
theorem dX5_isMasked_25 : decode cX5_isMasked 25 = .ok (.iload_n 2, 1) := by decide +kernel
theorem dX5_isMasked_26 : decode cX5_isMasked 26 = .ok (.iconst 2, 1) := by decide +kernel
theorem dX5_isMasked_27 : decode cX5_isMasked 27 = .ok (.irem, 1) := by decide +kernel
theorem dX5_isMasked_28 : decode cX5_isMasked 28 = .ok (.ifCond .ne 7, 3) := by decide +kernel
theorem dX5_isMasked_31 : decode cX5_isMasked 31 = .ok (.iconst 1, 1) := by decide +kernel
theorem dX5_isMasked_32 : decode cX5_isMasked 32 = .ok (.goto 39, 3) := by decide +kernel
theorem dX5_isMasked_35 : decode cX5_isMasked 35 = .ok (.iconst 0, 1) := by decide +kernel
theorem dX5_isMasked_36 : decode cX5_isMasked 36 = .ok (.goto 35, 3) := by decide +kernel
theorem dX5_isMasked_39 : decode cX5_isMasked 39 = .ok (.iload_n 0, 1) := by decide +kernel
theorem dX5_isMasked_40 : decode cX5_isMasked 40 = .ok (.iconst 2, 1) := by decide +kernel
theorem dX5_isMasked_41 : decode cX5_isMasked 41 = .ok (.if_icmp .ne 17, 3) := by decide +kernel
theorem dX5_isMasked_44 : decode cX5_isMasked 44 = .ok (.iload_n 1, 1) := by decide +kernel
theorem dX5_isMasked_45 : decode cX5_isMasked 45 = .ok (.iconst 3, 1) := by decide +kernel
theorem dX5_isMasked_46 : decode cX5_isMasked 46 = .ok (.irem, 1) := by decide +kernel
theorem dX5_isMasked_47 : decode cX5_isMasked 47 = .ok (.ifCond .ne 7, 3) := by decide +kernel
theorem dX5_isMasked_50 : decode cX5_isMasked 50 = .ok (.iconst 1, 1) := by decide +kernel
theorem dX5_isMasked_51 : decode cX5_isMasked 51 = .ok (.goto 20, 3) := by decide +kernel
theorem dX5_isMasked_54 : decode cX5_isMasked 54 = .ok (.iconst 0, 1) := by decide +kernel
theorem dX5_isMasked_55 : decode cX5_isMasked 55 = .ok (.goto 16, 3) := by decide +kernel
theorem dX5_isMasked_58 : decode cX5_isMasked 58 = .ok (.iload_n 1, 1) := by decide +kernel
theorem dX5_isMasked_59 : decode cX5_isMasked 59 = .ok (.iload_n 2, 1) := by decide +kernel
theorem dX5_isMasked_60 : decode cX5_isMasked 60 = .ok (.imul, 1) := by decide +kernel
theorem dX5_isMasked_61 : decode cX5_isMasked 61 = .ok (.iconst 3, 1) := by decide +kernel
theorem dX5_isMasked_62 : decode cX5_isMasked 62 = .ok (.irem, 1) := by decide +kernel
theorem dX5_isMasked_63 : decode cX5_isMasked 63 = .ok (.ifCond .ne 7, 3) := by decide +kernel
theorem dX5_isMasked_66 : decode cX5_isMasked 66 = .ok (.iconst 1, 1) := by decide +kernel
theorem dX5_isMasked_67 : decode cX5_isMasked 67 = .ok (.goto 4, 3) := by decide +kernel
theorem dX5_isMasked_70 : decode cX5_isMasked 70 = .ok (.iconst 0, 1) := by decide +kernel
theorem dX5_isMasked_71 : decode cX5_isMasked 71 = .ok (.ireturn, 1) := by decide +kernel
theorem dX5_maskBit_0 : decode cX5_maskBit 0 = .ok (.iload_n 0, 1) := by decide +kernel
theorem dX5_maskBit_1 : decode cX5_maskBit 1 = .ok (.ifCond .ne 7, 3) := by decide +kernel
theorem dX5_maskBit_4 : decode cX5_maskBit 4 = .ok (.iconst 0, 1) := by decide +kernel
theorem dX5_maskBit_5 : decode cX5_maskBit 5 = .ok (.goto 25, 3) := by decide +kernel
theorem dX5_maskBit_8 : decode cX5_maskBit 8 = .ok (.iload_n 0, 1) := by decide +kernel
theorem dX5_maskBit_9 : decode cX5_maskBit 9 = .ok (.iconst 1, 1) := by decide +kernel
theorem dX5_maskBit_10 : decode cX5_maskBit 10 = .ok (.if_icmp .ne 8, 3) := by decide +kernel
theorem dX5_maskBit_13 : decode cX5_maskBit 13 = .ok (.bipush 7, 2) := by decide +kernel
theorem dX5_maskBit_15 : decode cX5_maskBit 15 = .ok (.goto 15, 3) := by decide +kernel
theorem dX5_maskBit_18 : decode cX5_maskBit 18 = .ok (.iload_n 0, 1) := by decide +kernel
theorem dX5_maskBit_19 : decode cX5_maskBit 19 = .ok (.iconst 2, 1) := by decide +kernel
theorem dX5_maskBit_20 : decode cX5_maskBit 20 = .ok (.if_icmp .ne 8, 3) := by decide +kernel
theorem dX5_maskBit_23 : decode cX5_maskBit 23 = .ok (.bipush 11, 2) := by decide +kernel
theorem dX5_maskBit_25 : decode cX5_maskBit 25 = .ok (.goto 5, 3) := by decide +kernel
theorem dX5_maskBit_28 : decode cX5_maskBit 28 = .ok (.bipush 12, 2) := by decide +kernel
theorem dX5_maskBit_30 : decode cX5_maskBit 30 = .ok (.istore_n 2, 1) := by decide +kernel
theorem dX5_maskBit_31 : decode cX5_maskBit 31 = .ok (.iload_n 2, 1) := by decide +kernel
theorem dX5_maskBit_32 : decode cX5_maskBit 32 = .ok (.iconst 3, 1) := by decide +kernel
theorem dX5_maskBit_33 : decode cX5_maskBit 33 = .ok (.iload_n 1, 1) := by decide +kernel
theorem dX5_maskBit_34 : decode cX5_maskBit 34 = .ok (.isub, 1) := by decide +kernel
theorem dX5_maskBit_35 : decode cX5_maskBit 35 = .ok (.ishr, 1) := by decide +kernel
theorem dX5_maskBit_36 : decode cX5_maskBit 36 = .ok (.iconst 1, 1) := by decide +kernel
theorem dX5_maskBit_37 : decode cX5_maskBit 37 = .ok (.iand, 1) := by decide +kernel
theorem dX5_maskBit_38 : decode cX5_maskBit 38 = .ok (.ireturn, 1) := by decide +kernel
theorem dX5_cell_0 : decode cX5_cell 0 = .ok (.bipush 12, 2) := by decide +kernel
theorem dX5_cell_2 : decode cX5_cell 2 = .ok (.iload_n 0, 1) := by decide +kernel
theorem dX5_cell_3 : decode cX5_cell 3 = .ok (.bipush 10, 2) := by decide +kernel
theorem dX5_cell_5 : decode cX5_cell 5 = .ok (.idiv, 1) := by decide +kernel
theorem dX5_cell_6 : decode cX5_cell 6 = .ok (.iconst 1, 1) := by decide +kernel
theorem dX5_cell_7 : decode cX5_cell 7 = .ok (.iadd, 1) := by decide +kernel
theorem dX5_cell_8 : decode cX5_cell 8 = .ok (.imul, 1) := by decide +kernel
theorem dX5_cell_9 : decode cX5_cell 9 = .ok (.iload_n 0, 1) := by decide +kernel
theorem dX5_cell_10 : decode cX5_cell 10 = .ok (.bipush 10, 2) := by decide +kernel
theorem dX5_cell_12 : decode cX5_cell 12 = .ok (.irem, 1) := by decide +kernel
theorem dX5_cell_13 : decode cX5_cell 13 = .ok (.iadd, 1) := by decide +kernel
theorem dX5_cell_14 : decode cX5_cell 14 = .ok (.iconst 1, 1) := by decide +kernel
theorem dX5_cell_15 : decode cX5_cell 15 = .ok (.iadd, 1) := by decide +kernel
theorem dX5_cell_16 : decode cX5_cell 16 = .ok (.ireturn, 1) := by decide +kernel
theorem dX5_wordBit_0 : decode cX5_wordBit 0 = .ok (.aload_n 0, 1) := by decide +kernel
theorem dX5_wordBit_1 : decode cX5_wordBit 1 = .ok (.getfield 37, 3) := by decide +kernel
theorem dX5_wordBit_4 : decode cX5_wordBit 4 = .ok (.iload_n 1, 1) := by decide +kernel
theorem dX5_wordBit_5 : decode cX5_wordBit 5 = .ok (.bipush 6, 2) := by decide +kernel
theorem dX5_wordBit_7 : decode cX5_wordBit 7 = .ok (.idiv, 1) := by decide +kernel
theorem dX5_wordBit_8 : decode cX5_wordBit 8 = .ok (.iaload, 1) := by decide +kernel
theorem dX5_wordBit_9 : decode cX5_wordBit 9 = .ok (.iconst 5, 1) := by decide +kernel
theorem dX5_wordBit_10 : decode cX5_wordBit 10 = .ok (.iload_n 1, 1) := by decide +kernel
theorem dX5_wordBit_11 : decode cX5_wordBit 11 = .ok (.bipush 6, 2) := by decide +kernel
theorem dX5_wordBit_13 : decode cX5_wordBit 13 = .ok (.irem, 1) := by decide +kernel
theorem dX5_wordBit_14 : decode cX5_wordBit 14 = .ok (.isub, 1) := by decide +kernel
theorem dX5_wordBit_15 : decode cX5_wordBit 15 = .ok (.ishr, 1) := by decide +kernel
theorem dX5_wordBit_16 : decode cX5_wordBit 16 = .ok (.iconst 1, 1) := by decide +kernel
theorem dX5_wordBit_17 : decode cX5_wordBit 17 = .ok (.iand, 1) := by decide +kernel
theorem dX5_wordBit_18 : decode cX5_wordBit 18 = .ok (.ireturn, 1) := by decide +kernel
set_option maxRecDepth 20000 in
theorem ggX5_paint_X5_frame : GoodIn wsX5_paint wsX5_frame := goodIn_r _ [6, 7, 8, 9, 10, 5, 11, 12, 27, 28, 29, 30, 31, 32, 33, 34, 35, 36, 37, 38, 39, 40, 41, 42, 43, 44, 45, 46, 47, 48, 49] (by decide +kernel) (by decide +kernel)
set_option maxRecDepth 20000 in
theorem gX5_paint_X5_frame : GoodIn wsX5_paint (wsV RX5 114 RX5 yX5_frame wsX5_frame) := goodIn_app (goodIn_of _ (by decide +kernel)) ggX5_paint_X5_frame
set_option maxRecDepth 20000 in
theorem ggX5_paint_X5_cell : GoodIn wsX5_paint wsX5_cell := goodIn_r _ [15] (by decide +kernel) (by decide +kernel)
set_option maxRecDepth 20000 in
theorem gX5_paint_X5_cell : GoodIn wsX5_paint (va_wsS RX5 117 yX5_cell wsX5_cell) := goodIn_app (goodIn_of _ (by decide +kernel)) ggX5_paint_X5_cell
set_option maxRecDepth 20000 in
theorem ggX5_paint_X5_maskBit : GoodIn wsX5_paint wsX5_maskBit := goodIn_r _ [18] (by decide +kernel) (by decide +kernel)
set_option maxRecDepth 20000 in
theorem gX5_paint_X5_maskBit : GoodIn wsX5_paint (va_wsS RX5 120 yX5_maskBit wsX5_maskBit) := goodIn_app (goodIn_of _ (by decide +kernel)) ggX5_paint_X5_maskBit
set_option maxRecDepth 20000 in
theorem ggX5_paint_X5_isMasked : GoodIn wsX5_paint wsX5_isMasked := goodIn_r _ [21] (by decide +kernel) (by decide +kernel)
set_option maxRecDepth 20000 in
theorem gX5_paint_X5_isMasked : GoodIn wsX5_paint (va_wsS RX5 123 yX5_isMasked wsX5_isMasked) := goodIn_app (goodIn_of _ (by decide +kernel)) ggX5_paint_X5_isMasked
set_option maxRecDepth 20000 in
theorem ggX5_paint_X5_wordBit : GoodIn wsX5_paint wsX5_wordBit := goodIn_r _ [25, 26, 27, 28, 29, 30, 31, 32, 33, 34, 35, 36, 37, 38, 39, 40, 41, 42, 43, 44, 45, 46, 47, 48, 49] (by decide +kernel) (by decide +kernel)
set_option maxRecDepth 20000 in
theorem gX5_paint_X5_wordBit : GoodIn wsX5_paint (wsV RX5 127 RX5 yX5_wordBit wsX5_wordBit) := goodIn_app (goodIn_of _ (by decide +kernel)) ggX5_paint_X5_wordBit
theorem dX5_paint_0 : decode cX5_paint 0 = .ok (.iconst 0, 1) := by decide +kernel
theorem dX5_paint_1 : decode cX5_paint 1 = .ok (.istore_n 2, 1) := by decide +kernel
theorem dX5_paint_2 : decode cX5_paint 2 = .ok (.iload_n 2, 1) := by decide +kernel
theorem dX5_paint_3 : decode cX5_paint 3 = .ok (.sipush 144, 3) := by decide +kernel
theorem dX5_paint_6 : decode cX5_paint 6 = .ok (.if_icmp .ge 20, 3) := by decide +kernel
theorem dX5_paint_9 : decode cX5_paint 9 = .ok (.aload_n 0, 1) := by decide +kernel
theorem dX5_paint_10 : decode cX5_paint 10 = .ok (.getfield 49, 3) := by decide +kernel
theorem dX5_paint_13 : decode cX5_paint 13 = .ok (.iload_n 2, 1) := by decide +kernel
theorem dX5_paint_14 : decode cX5_paint 14 = .ok (.aload_n 0, 1) := by decide +kernel
theorem dX5_paint_15 : decode cX5_paint 15 = .ok (.iload_n 2, 1) := by decide +kernel
theorem dX5_paint_16 : decode cX5_paint 16 = .ok (.invokevirtual 114, 3) := by decide +kernel
theorem dX5_paint_19 : decode cX5_paint 19 = .ok (.iastore, 1) := by decide +kernel
theorem dX5_paint_20 : decode cX5_paint 20 = .ok (.iinc 2 1, 3) := by decide +kernel
theorem dX5_paint_23 : decode cX5_paint 23 = .ok (.goto (-21), 3) := by decide +kernel
theorem dX5_paint_26 : decode cX5_paint 26 = .ok (.iconst 0, 1) := by decide +kernel
theorem dX5_paint_27 : decode cX5_paint 27 = .ok (.istore_n 2, 1) := by decide +kernel
theorem dX5_paint_28 : decode cX5_paint 28 = .ok (.iload_n 2, 1) := by decide +kernel
theorem dX5_paint_29 : decode cX5_paint 29 = .ok (.bipush 100, 2) := by decide +kernel
theorem dX5_paint_31 : decode cX5_paint 31 = .ok (.if_icmp .ge 67, 3) := by decide +kernel
theorem dX5_paint_34 : decode cX5_paint 34 = .ok (.iload_n 2, 1) := by decide +kernel
theorem dX5_paint_35 : decode cX5_paint 35 = .ok (.invokestatic 117, 3) := by decide +kernel
theorem dX5_paint_38 : decode cX5_paint 38 = .ok (.istore_n 3, 1) := by decide +kernel
theorem dX5_paint_39 : decode cX5_paint 39 = .ok (.aload_n 0, 1) := by decide +kernel
theorem dX5_paint_40 : decode cX5_paint 40 = .ok (.getfield 49, 3) := by decide +kernel
theorem dX5_paint_43 : decode cX5_paint 43 = .ok (.iload_n 3, 1) := by decide +kernel
theorem dX5_paint_44 : decode cX5_paint 44 = .ok (.iload_n 2, 1) := by decide +kernel
theorem dX5_paint_45 : decode cX5_paint 45 = .ok (.bipush 95, 2) := by decide +kernel
theorem dX5_paint_47 : decode cX5_paint 47 = .ok (.if_icmp .le 14, 3) := by decide +kernel
theorem dX5_paint_50 : decode cX5_paint 50 = .ok (.iload_n 1, 1) := by decide +kernel
theorem dX5_paint_51 : decode cX5_paint 51 = .ok (.iload_n 2, 1) := by decide +kernel
theorem dX5_paint_52 : decode cX5_paint 52 = .ok (.bipush 96, 2) := by decide +kernel
theorem dX5_paint_54 : decode cX5_paint 54 = .ok (.isub, 1) := by decide +kernel
theorem dX5_paint_55 : decode cX5_paint 55 = .ok (.invokestatic 120, 3) := by decide +kernel
theorem dX5_paint_58 : decode cX5_paint 58 = .ok (.goto 33, 3) := by decide +kernel
theorem dX5_paint_61 : decode cX5_paint 61 = .ok (.iload_n 1, 1) := by decide +kernel
theorem dX5_paint_62 : decode cX5_paint 62 = .ok (.iload_n 3, 1) := by decide +kernel
theorem dX5_paint_63 : decode cX5_paint 63 = .ok (.bipush 12, 2) := by decide +kernel
theorem dX5_paint_65 : decode cX5_paint 65 = .ok (.irem, 1) := by decide +kernel
theorem dX5_paint_66 : decode cX5_paint 66 = .ok (.iload_n 3, 1) := by decide +kernel
theorem dX5_paint_67 : decode cX5_paint 67 = .ok (.bipush 12, 2) := by decide +kernel
theorem dX5_paint_69 : decode cX5_paint 69 = .ok (.idiv, 1) := by decide +kernel
theorem dX5_paint_70 : decode cX5_paint 70 = .ok (.invokestatic 123, 3) := by decide +kernel
theorem dX5_paint_73 : decode cX5_paint 73 = .ok (.ifCond .eq 13, 3) := by decide +kernel
theorem dX5_paint_76 : decode cX5_paint 76 = .ok (.iconst 1, 1) := by decide +kernel
theorem dX5_paint_77 : decode cX5_paint 77 = .ok (.aload_n 0, 1) := by decide +kernel
theorem dX5_paint_78 : decode cX5_paint 78 = .ok (.iload_n 2, 1) := by decide +kernel
theorem dX5_paint_79 : decode cX5_paint 79 = .ok (.invokevirtual 127, 3) := by decide +kernel
theorem dX5_paint_82 : decode cX5_paint 82 = .ok (.isub, 1) := by decide +kernel
theorem dX5_paint_83 : decode cX5_paint 83 = .ok (.goto 8, 3) := by decide +kernel
theorem dX5_paint_86 : decode cX5_paint 86 = .ok (.aload_n 0, 1) := by decide +kernel
theorem dX5_paint_87 : decode cX5_paint 87 = .ok (.iload_n 2, 1) := by decide +kernel
theorem dX5_paint_88 : decode cX5_paint 88 = .ok (.invokevirtual 127, 3) := by decide +kernel
theorem dX5_paint_91 : decode cX5_paint 91 = .ok (.iastore, 1) := by decide +kernel
theorem dX5_paint_92 : decode cX5_paint 92 = .ok (.iinc 2 1, 3) := by decide +kernel
theorem dX5_paint_95 : decode cX5_paint 95 = .ok (.goto (-67), 3) := by decide +kernel
theorem dX5_paint_98 : decode cX5_paint 98 = .ok (.return_, 1) := by decide +kernel
theorem dX5_runs_0 : decode cX5_runs 0 = .ok (.iconst 0, 1) := by decide +kernel
theorem dX5_runs_1 : decode cX5_runs 1 = .ok (.istore_n 3, 1) := by decide +kernel
theorem dX5_runs_2 : decode cX5_runs 2 = .ok (.iconst 0, 1) := by decide +kernel
theorem dX5_runs_3 : decode cX5_runs 3 = .ok (.istore 4, 2) := by decide +kernel
theorem dX5_runs_5 : decode cX5_runs 5 = .ok (.iload 4, 2) := by decide +kernel
theorem dX5_runs_7 : decode cX5_runs 7 = .ok (.bipush 12, 2) := by decide +kernel
theorem dX5_runs_9 : decode cX5_runs 9 = .ok (.if_icmp .ge 75, 3) := by decide +kernel
theorem dX5_runs_12 : decode cX5_runs 12 = .ok (.iload 4, 2) := by decide +kernel
theorem dX5_runs_14 : decode cX5_runs 14 = .ok (.istore 5, 2) := by decide +kernel
theorem dX5_runs_16 : decode cX5_runs 16 = .ok (.iload 5, 2) := by decide +kernel
theorem dX5_runs_18 : decode cX5_runs 18 = .ok (.bipush 12, 2) := by decide +kernel
theorem dX5_runs_20 : decode cX5_runs 20 = .ok (.if_icmp .ge 34, 3) := by decide +kernel
theorem dX5_runs_23 : decode cX5_runs 23 = .ok (.aload_n 0, 1) := by decide +kernel
theorem dX5_runs_24 : decode cX5_runs 24 = .ok (.getfield 49, 3) := by decide +kernel
theorem dX5_runs_27 : decode cX5_runs 27 = .ok (.iload_n 1, 1) := by decide +kernel
theorem dX5_runs_28 : decode cX5_runs 28 = .ok (.iload 5, 2) := by decide +kernel
theorem dX5_runs_30 : decode cX5_runs 30 = .ok (.iload_n 2, 1) := by decide +kernel
theorem dX5_runs_31 : decode cX5_runs 31 = .ok (.imul, 1) := by decide +kernel
theorem dX5_runs_32 : decode cX5_runs 32 = .ok (.iadd, 1) := by decide +kernel
theorem dX5_runs_33 : decode cX5_runs 33 = .ok (.iaload, 1) := by decide +kernel
theorem dX5_runs_34 : decode cX5_runs 34 = .ok (.aload_n 0, 1) := by decide +kernel
theorem dX5_runs_35 : decode cX5_runs 35 = .ok (.getfield 49, 3) := by decide +kernel
theorem dX5_runs_38 : decode cX5_runs 38 = .ok (.iload_n 1, 1) := by decide +kernel
theorem dX5_runs_39 : decode cX5_runs 39 = .ok (.iload 4, 2) := by decide +kernel
theorem dX5_runs_41 : decode cX5_runs 41 = .ok (.iload_n 2, 1) := by decide +kernel
theorem dX5_runs_42 : decode cX5_runs 42 = .ok (.imul, 1) := by decide +kernel
theorem dX5_runs_43 : decode cX5_runs 43 = .ok (.iadd, 1) := by decide +kernel
theorem dX5_runs_44 : decode cX5_runs 44 = .ok (.iaload, 1) := by decide +kernel
theorem dX5_runs_45 : decode cX5_runs 45 = .ok (.if_icmp .ne 9, 3) := by decide +kernel
theorem dX5_runs_48 : decode cX5_runs 48 = .ok (.iinc 5 1, 3) := by decide +kernel
theorem dX5_runs_51 : decode cX5_runs 51 = .ok (.goto (-35), 3) := by decide +kernel
theorem dX5_runs_54 : decode cX5_runs 54 = .ok (.iload 5, 2) := by decide +kernel
theorem dX5_runs_56 : decode cX5_runs 56 = .ok (.iload 4, 2) := by decide +kernel
theorem dX5_runs_58 : decode cX5_runs 58 = .ok (.isub, 1) := by decide +kernel
theorem dX5_runs_59 : decode cX5_runs 59 = .ok (.iconst 3, 1) := by decide +kernel
theorem dX5_runs_60 : decode cX5_runs 60 = .ok (.if_icmp .le 15, 3) := by decide +kernel
theorem dX5_runs_63 : decode cX5_runs 63 = .ok (.iload_n 3, 1) := by decide +kernel
theorem dX5_runs_64 : decode cX5_runs 64 = .ok (.iload 5, 2) := by decide +kernel
theorem dX5_runs_66 : decode cX5_runs 66 = .ok (.iadd, 1) := by decide +kernel
theorem dX5_runs_67 : decode cX5_runs 67 = .ok (.iload 4, 2) := by decide +kernel
theorem dX5_runs_69 : decode cX5_runs 69 = .ok (.isub, 1) := by decide +kernel
theorem dX5_runs_70 : decode cX5_runs 70 = .ok (.iconst 2, 1) := by decide +kernel
theorem dX5_runs_71 : decode cX5_runs 71 = .ok (.isub, 1) := by decide +kernel
theorem dX5_runs_72 : decode cX5_runs 72 = .ok (.goto 4, 3) := by decide +kernel
theorem dX5_runs_75 : decode cX5_runs 75 = .ok (.iload_n 3, 1) := by decide +kernel
theorem dX5_runs_76 : decode cX5_runs 76 = .ok (.istore_n 3, 1) := by decide +kernel
theorem dX5_runs_77 : decode cX5_runs 77 = .ok (.iload 5, 2) := by decide +kernel
theorem dX5_runs_79 : decode cX5_runs 79 = .ok (.istore 4, 2) := by decide +kernel
theorem dX5_runs_81 : decode cX5_runs 81 = .ok (.goto (-76), 3) := by decide +kernel
theorem dX5_runs_84 : decode cX5_runs 84 = .ok (.iload_n 3, 1) := by decide +kernel
theorem dX5_runs_85 : decode cX5_runs 85 = .ok (.ireturn, 1) := by decide +kernel
set_option maxRecDepth 20000 in
theorem ggX5_penalty_X5_runs : GoodIn wsX5_penalty wsX5_runs := goodIn_r _ [6, 1, 7, 8, 9, 10, 11, 12, 13, 14, 15, 16, 17, 18, 19, 20, 21, 22, 23, 24, 25, 26, 27, 28, 29] (by decide +kernel) (by decide +kernel)
set_option maxRecDepth 20000 in
theorem gX5_penalty_X5_runs : GoodIn wsX5_penalty (wsV RX5 130 RX5 yX5_runs wsX5_runs) := goodIn_app (goodIn_of _ (by decide +kernel)) ggX5_penalty_X5_runs
theorem dX5_penalty_0 : decode cX5_penalty 0 = .ok (.iconst 0, 1) := by decide +kernel
theorem dX5_penalty_1 : decode cX5_penalty 1 = .ok (.istore_n 1, 1) := by decide +kernel
theorem dX5_penalty_2 : decode cX5_penalty 2 = .ok (.iconst 0, 1) := by decide +kernel
theorem dX5_penalty_3 : decode cX5_penalty 3 = .ok (.istore_n 2, 1) := by decide +kernel
theorem dX5_penalty_4 : decode cX5_penalty 4 = .ok (.iconst 0, 1) := by decide +kernel
theorem dX5_penalty_5 : decode cX5_penalty 5 = .ok (.istore_n 3, 1) := by decide +kernel
theorem dX5_penalty_6 : decode cX5_penalty 6 = .ok (.iload_n 3, 1) := by decide +kernel
theorem dX5_penalty_7 : decode cX5_penalty 7 = .ok (.bipush 12, 2) := by decide +kernel
theorem dX5_penalty_9 : decode cX5_penalty 9 = .ok (.if_icmp .ge 29, 3) := by decide +kernel
theorem dX5_penalty_12 : decode cX5_penalty 12 = .ok (.iload_n 1, 1) := by decide +kernel
theorem dX5_penalty_13 : decode cX5_penalty 13 = .ok (.aload_n 0, 1) := by decide +kernel
theorem dX5_penalty_14 : decode cX5_penalty 14 = .ok (.bipush 12, 2) := by decide +kernel
theorem dX5_penalty_16 : decode cX5_penalty 16 = .ok (.iload_n 3, 1) := by decide +kernel
theorem dX5_penalty_17 : decode cX5_penalty 17 = .ok (.imul, 1) := by decide +kernel
theorem dX5_penalty_18 : decode cX5_penalty 18 = .ok (.iconst 1, 1) := by decide +kernel
theorem dX5_penalty_19 : decode cX5_penalty 19 = .ok (.invokevirtual 130, 3) := by decide +kernel
theorem dX5_penalty_22 : decode cX5_penalty 22 = .ok (.iadd, 1) := by decide +kernel
theorem dX5_penalty_23 : decode cX5_penalty 23 = .ok (.aload_n 0, 1) := by decide +kernel
theorem dX5_penalty_24 : decode cX5_penalty 24 = .ok (.iload_n 3, 1) := by decide +kernel
theorem dX5_penalty_25 : decode cX5_penalty 25 = .ok (.bipush 12, 2) := by decide +kernel
theorem dX5_penalty_27 : decode cX5_penalty 27 = .ok (.invokevirtual 130, 3) := by decide +kernel
theorem dX5_penalty_30 : decode cX5_penalty 30 = .ok (.iadd, 1) := by decide +kernel
theorem dX5_penalty_31 : decode cX5_penalty 31 = .ok (.istore_n 1, 1) := by decide +kernel
theorem dX5_penalty_32 : decode cX5_penalty 32 = .ok (.iinc 3 1, 3) := by decide +kernel
theorem dX5_penalty_35 : decode cX5_penalty 35 = .ok (.goto (-29), 3) := by decide +kernel
theorem dX5_penalty_38 : decode cX5_penalty 38 = .ok (.iconst 0, 1) := by decide +kernel
theorem dX5_penalty_39 : decode cX5_penalty 39 = .ok (.istore_n 3, 1) := by decide +kernel
theorem dX5_penalty_40 : decode cX5_penalty 40 = .ok (.iload_n 3, 1) := by decide +kernel
theorem dX5_penalty_41 : decode cX5_penalty 41 = .ok (.sipush 144, 3) := by decide +kernel
theorem dX5_penalty_44 : decode cX5_penalty 44 = .ok (.if_icmp .ge 107, 3) := by decide +kernel
theorem dX5_penalty_47 : decode cX5_penalty 47 = .ok (.iload_n 2, 1) := by decide +kernel
theorem dX5_penalty_48 : decode cX5_penalty 48 = .ok (.aload_n 0, 1) := by decide +kernel
theorem dX5_penalty_49 : decode cX5_penalty 49 = .ok (.getfield 49, 3) := by decide +kernel
theorem dX5_penalty_52 : decode cX5_penalty 52 = .ok (.iload_n 3, 1) := by decide +kernel
theorem dX5_penalty_53 : decode cX5_penalty 53 = .ok (.iaload, 1) := by decide +kernel
theorem dX5_penalty_54 : decode cX5_penalty 54 = .ok (.iadd, 1) := by decide +kernel
theorem dX5_penalty_55 : decode cX5_penalty 55 = .ok (.istore_n 2, 1) := by decide +kernel
theorem dX5_penalty_56 : decode cX5_penalty 56 = .ok (.iload_n 3, 1) := by decide +kernel
theorem dX5_penalty_57 : decode cX5_penalty 57 = .ok (.bipush 12, 2) := by decide +kernel
theorem dX5_penalty_59 : decode cX5_penalty 59 = .ok (.irem, 1) := by decide +kernel
theorem dX5_penalty_60 : decode cX5_penalty 60 = .ok (.bipush 11, 2) := by decide +kernel
theorem dX5_penalty_62 : decode cX5_penalty 62 = .ok (.if_icmp .ge 67, 3) := by decide +kernel
theorem dX5_penalty_65 : decode cX5_penalty 65 = .ok (.iload_n 3, 1) := by decide +kernel
theorem dX5_penalty_66 : decode cX5_penalty 66 = .ok (.sipush 132, 3) := by decide +kernel
theorem dX5_penalty_69 : decode cX5_penalty 69 = .ok (.if_icmp .ge 60, 3) := by decide +kernel
theorem dX5_penalty_72 : decode cX5_penalty 72 = .ok (.aload_n 0, 1) := by decide +kernel
theorem dX5_penalty_73 : decode cX5_penalty 73 = .ok (.getfield 49, 3) := by decide +kernel
theorem dX5_penalty_76 : decode cX5_penalty 76 = .ok (.iload_n 3, 1) := by decide +kernel
theorem dX5_penalty_77 : decode cX5_penalty 77 = .ok (.iaload, 1) := by decide +kernel
theorem dX5_penalty_78 : decode cX5_penalty 78 = .ok (.aload_n 0, 1) := by decide +kernel
theorem dX5_penalty_79 : decode cX5_penalty 79 = .ok (.getfield 49, 3) := by decide +kernel
theorem dX5_penalty_82 : decode cX5_penalty 82 = .ok (.iload_n 3, 1) := by decide +kernel
theorem dX5_penalty_83 : decode cX5_penalty 83 = .ok (.iconst 1, 1) := by decide +kernel
theorem dX5_penalty_84 : decode cX5_penalty 84 = .ok (.iadd, 1) := by decide +kernel
theorem dX5_penalty_85 : decode cX5_penalty 85 = .ok (.iaload, 1) := by decide +kernel
theorem dX5_penalty_86 : decode cX5_penalty 86 = .ok (.if_icmp .ne 43, 3) := by decide +kernel
theorem dX5_penalty_89 : decode cX5_penalty 89 = .ok (.aload_n 0, 1) := by decide +kernel
theorem dX5_penalty_90 : decode cX5_penalty 90 = .ok (.getfield 49, 3) := by decide +kernel
theorem dX5_penalty_93 : decode cX5_penalty 93 = .ok (.iload_n 3, 1) := by decide +kernel
theorem dX5_penalty_94 : decode cX5_penalty 94 = .ok (.iaload, 1) := by decide +kernel
theorem dX5_penalty_95 : decode cX5_penalty 95 = .ok (.aload_n 0, 1) := by decide +kernel
theorem dX5_penalty_96 : decode cX5_penalty 96 = .ok (.getfield 49, 3) := by decide +kernel
theorem dX5_penalty_99 : decode cX5_penalty 99 = .ok (.iload_n 3, 1) := by decide +kernel
theorem dX5_penalty_100 : decode cX5_penalty 100 = .ok (.bipush 12, 2) := by decide +kernel
theorem dX5_penalty_102 : decode cX5_penalty 102 = .ok (.iadd, 1) := by decide +kernel
theorem dX5_penalty_103 : decode cX5_penalty 103 = .ok (.iaload, 1) := by decide +kernel
theorem dX5_penalty_104 : decode cX5_penalty 104 = .ok (.if_icmp .ne 25, 3) := by decide +kernel
theorem dX5_penalty_107 : decode cX5_penalty 107 = .ok (.aload_n 0, 1) := by decide +kernel
theorem dX5_penalty_108 : decode cX5_penalty 108 = .ok (.getfield 49, 3) := by decide +kernel
theorem dX5_penalty_111 : decode cX5_penalty 111 = .ok (.iload_n 3, 1) := by decide +kernel
theorem dX5_penalty_112 : decode cX5_penalty 112 = .ok (.iaload, 1) := by decide +kernel
theorem dX5_penalty_113 : decode cX5_penalty 113 = .ok (.aload_n 0, 1) := by decide +kernel
theorem dX5_penalty_114 : decode cX5_penalty 114 = .ok (.getfield 49, 3) := by decide +kernel
theorem dX5_penalty_117 : decode cX5_penalty 117 = .ok (.iload_n 3, 1) := by decide +kernel
theorem dX5_penalty_118 : decode cX5_penalty 118 = .ok (.bipush 13, 2) := by decide +kernel
theorem dX5_penalty_120 : decode cX5_penalty 120 = .ok (.iadd, 1) := by decide +kernel
theorem dX5_penalty_121 : decode cX5_penalty 121 = .ok (.iaload, 1) := by decide +kernel
theorem dX5_penalty_122 : decode cX5_penalty 122 = .ok (.if_icmp .ne 7, 3) := by decide +kernel
theorem dX5_penalty_125 : decode cX5_penalty 125 = .ok (.iconst 1, 1) := by decide +kernel
theorem dX5_penalty_126 : decode cX5_penalty 126 = .ok (.goto 4, 3) := by decide +kernel
theorem dX5_penalty_129 : decode cX5_penalty 129 = .ok (.iconst 0, 1) := by decide +kernel
theorem dX5_penalty_130 : decode cX5_penalty 130 = .ok (.istore 4, 2) := by decide +kernel
theorem dX5_penalty_132 : decode cX5_penalty 132 = .ok (.iload 4, 2) := by decide +kernel
theorem dX5_penalty_134 : decode cX5_penalty 134 = .ok (.ifCond .eq 9, 3) := by decide +kernel
theorem dX5_penalty_137 : decode cX5_penalty 137 = .ok (.iload_n 1, 1) := by decide +kernel
theorem dX5_penalty_138 : decode cX5_penalty 138 = .ok (.iconst 3, 1) := by decide +kernel
theorem dX5_penalty_139 : decode cX5_penalty 139 = .ok (.iadd, 1) := by decide +kernel
theorem dX5_penalty_140 : decode cX5_penalty 140 = .ok (.goto 4, 3) := by decide +kernel
theorem dX5_penalty_143 : decode cX5_penalty 143 = .ok (.iload_n 1, 1) := by decide +kernel
theorem dX5_penalty_144 : decode cX5_penalty 144 = .ok (.istore_n 1, 1) := by decide +kernel
theorem dX5_penalty_145 : decode cX5_penalty 145 = .ok (.iinc 3 1, 3) := by decide +kernel
theorem dX5_penalty_148 : decode cX5_penalty 148 = .ok (.goto (-108), 3) := by decide +kernel
theorem dX5_penalty_151 : decode cX5_penalty 151 = .ok (.sipush 144, 3) := by decide +kernel
theorem dX5_penalty_154 : decode cX5_penalty 154 = .ok (.iconst 2, 1) := by decide +kernel
theorem dX5_penalty_155 : decode cX5_penalty 155 = .ok (.iload_n 2, 1) := by decide +kernel
theorem dX5_penalty_156 : decode cX5_penalty 156 = .ok (.imul, 1) := by decide +kernel
theorem dX5_penalty_157 : decode cX5_penalty 157 = .ok (.isub, 1) := by decide +kernel
theorem dX5_penalty_158 : decode cX5_penalty 158 = .ok (.istore_n 3, 1) := by decide +kernel
theorem dX5_penalty_159 : decode cX5_penalty 159 = .ok (.iload_n 1, 1) := by decide +kernel
theorem dX5_penalty_160 : decode cX5_penalty 160 = .ok (.iload_n 3, 1) := by decide +kernel
theorem dX5_penalty_161 : decode cX5_penalty 161 = .ok (.ifCond .ge 8, 3) := by decide +kernel
theorem dX5_penalty_164 : decode cX5_penalty 164 = .ok (.iload_n 3, 1) := by decide +kernel
theorem dX5_penalty_165 : decode cX5_penalty 165 = .ok (.ineg, 1) := by decide +kernel
theorem dX5_penalty_166 : decode cX5_penalty 166 = .ok (.goto 4, 3) := by decide +kernel
theorem dX5_penalty_169 : decode cX5_penalty 169 = .ok (.iload_n 3, 1) := by decide +kernel
theorem dX5_penalty_170 : decode cX5_penalty 170 = .ok (.iconst 2, 1) := by decide +kernel
theorem dX5_penalty_171 : decode cX5_penalty 171 = .ok (.idiv, 1) := by decide +kernel
theorem dX5_penalty_172 : decode cX5_penalty 172 = .ok (.iadd, 1) := by decide +kernel
theorem dX5_penalty_173 : decode cX5_penalty 173 = .ok (.ireturn, 1) := by decide +kernel
set_option maxRecDepth 20000 in
theorem ggX5_draw_X5_paint : GoodIn wsX5_draw wsX5_paint := goodIn_r _ [9, 4, 10, 11, 12, 8, 13, 14, 15, 16, 17, 18, 19, 20, 21, 22, 23, 24, 25, 26, 27, 28, 29, 30, 31, 32, 33, 42, 43, 44, 45, 46, 47, 48, 49, 50, 51, 52, 53, 54, 55, 56, 57, 58, 59, 60, 61, 62, 63, 64] (by decide +kernel) (by decide +kernel)
set_option maxRecDepth 20000 in
theorem gX5_draw_X5_paint : GoodIn wsX5_draw (wsV RX5 134 RX5 yX5_paint wsX5_paint) := goodIn_app (goodIn_of _ (by decide +kernel)) ggX5_draw_X5_paint
set_option maxRecDepth 20000 in
theorem ggX5_draw_X5_penalty : GoodIn wsX5_draw wsX5_penalty := goodIn_r _ [37, 4, 38, 39, 40, 8, 41, 42, 43, 44, 45, 46, 47, 48, 49, 50, 51, 52, 53, 54, 55, 56, 57, 58, 59, 60, 61, 62, 63, 64] (by decide +kernel) (by decide +kernel)
set_option maxRecDepth 20000 in
theorem gX5_draw_X5_penalty : GoodIn wsX5_draw (wsV RX5 137 RX5 yX5_penalty wsX5_penalty) := goodIn_app (goodIn_of _ (by decide +kernel)) ggX5_draw_X5_penalty
theorem dX5_draw_0 : decode cX5_draw 0 = .ok (.iconst 0, 1) := by decide +kernel
theorem dX5_draw_1 : decode cX5_draw 1 = .ok (.istore_n 1, 1) := by decide +kernel
theorem dX5_draw_2 : decode cX5_draw 2 = .ok (.ldc 133, 2) := by decide +kernel
theorem dX5_draw_4 : decode cX5_draw 4 = .ok (.istore_n 2, 1) := by decide +kernel
theorem dX5_draw_5 : decode cX5_draw 5 = .ok (.iconst 0, 1) := by decide +kernel
theorem dX5_draw_6 : decode cX5_draw 6 = .ok (.istore_n 3, 1) := by decide +kernel
theorem dX5_draw_7 : decode cX5_draw 7 = .ok (.iload_n 3, 1) := by decide +kernel
theorem dX5_draw_8 : decode cX5_draw 8 = .ok (.iconst 4, 1) := by decide +kernel
theorem dX5_draw_9 : decode cX5_draw 9 = .ok (.if_icmp .ge 45, 3) := by decide +kernel
theorem dX5_draw_12 : decode cX5_draw 12 = .ok (.aload_n 0, 1) := by decide +kernel
theorem dX5_draw_13 : decode cX5_draw 13 = .ok (.iload_n 3, 1) := by decide +kernel
theorem dX5_draw_14 : decode cX5_draw 14 = .ok (.invokevirtual 134, 3) := by decide +kernel
theorem dX5_draw_17 : decode cX5_draw 17 = .ok (.aload_n 0, 1) := by decide +kernel
theorem dX5_draw_18 : decode cX5_draw 18 = .ok (.invokevirtual 137, 3) := by decide +kernel
theorem dX5_draw_21 : decode cX5_draw 21 = .ok (.istore 4, 2) := by decide +kernel
theorem dX5_draw_23 : decode cX5_draw 23 = .ok (.iload 4, 2) := by decide +kernel
theorem dX5_draw_25 : decode cX5_draw 25 = .ok (.iload_n 2, 1) := by decide +kernel
theorem dX5_draw_26 : decode cX5_draw 26 = .ok (.if_icmp .ge 7, 3) := by decide +kernel
theorem dX5_draw_29 : decode cX5_draw 29 = .ok (.iload_n 3, 1) := by decide +kernel
theorem dX5_draw_30 : decode cX5_draw 30 = .ok (.goto 4, 3) := by decide +kernel
theorem dX5_draw_33 : decode cX5_draw 33 = .ok (.iload_n 1, 1) := by decide +kernel
theorem dX5_draw_34 : decode cX5_draw 34 = .ok (.istore_n 1, 1) := by decide +kernel
theorem dX5_draw_35 : decode cX5_draw 35 = .ok (.iload 4, 2) := by decide +kernel
theorem dX5_draw_37 : decode cX5_draw 37 = .ok (.iload_n 2, 1) := by decide +kernel
theorem dX5_draw_38 : decode cX5_draw 38 = .ok (.if_icmp .ge 8, 3) := by decide +kernel
theorem dX5_draw_41 : decode cX5_draw 41 = .ok (.iload 4, 2) := by decide +kernel
theorem dX5_draw_43 : decode cX5_draw 43 = .ok (.goto 4, 3) := by decide +kernel
theorem dX5_draw_46 : decode cX5_draw 46 = .ok (.iload_n 2, 1) := by decide +kernel
theorem dX5_draw_47 : decode cX5_draw 47 = .ok (.istore_n 2, 1) := by decide +kernel
theorem dX5_draw_48 : decode cX5_draw 48 = .ok (.iinc 3 1, 3) := by decide +kernel
theorem dX5_draw_51 : decode cX5_draw 51 = .ok (.goto (-44), 3) := by decide +kernel
theorem dX5_draw_54 : decode cX5_draw 54 = .ok (.aload_n 0, 1) := by decide +kernel
theorem dX5_draw_55 : decode cX5_draw 55 = .ok (.iload_n 1, 1) := by decide +kernel
theorem dX5_draw_56 : decode cX5_draw 56 = .ok (.invokevirtual 134, 3) := by decide +kernel
theorem dX5_draw_59 : decode cX5_draw 59 = .ok (.aload_n 0, 1) := by decide +kernel
theorem dX5_draw_60 : decode cX5_draw 60 = .ok (.iload_n 1, 1) := by decide +kernel
theorem dX5_draw_61 : decode cX5_draw 61 = .ok (.putfield 34, 3) := by decide +kernel
theorem dX5_draw_64 : decode cX5_draw 64 = .ok (.iconst 0, 1) := by decide +kernel
theorem dX5_draw_65 : decode cX5_draw 65 = .ok (.istore_n 3, 1) := by decide +kernel
theorem dX5_draw_66 : decode cX5_draw 66 = .ok (.iload_n 3, 1) := by decide +kernel
theorem dX5_draw_67 : decode cX5_draw 67 = .ok (.sipush 144, 3) := by decide +kernel
theorem dX5_draw_70 : decode cX5_draw 70 = .ok (.if_icmp .ge 21, 3) := by decide +kernel
theorem dX5_draw_73 : decode cX5_draw 73 = .ok (.aload_n 0, 1) := by decide +kernel
theorem dX5_draw_74 : decode cX5_draw 74 = .ok (.getfield 21, 3) := by decide +kernel
theorem dX5_draw_77 : decode cX5_draw 77 = .ok (.iload_n 3, 1) := by decide +kernel
theorem dX5_draw_78 : decode cX5_draw 78 = .ok (.aload_n 0, 1) := by decide +kernel
theorem dX5_draw_79 : decode cX5_draw 79 = .ok (.getfield 49, 3) := by decide +kernel
theorem dX5_draw_82 : decode cX5_draw 82 = .ok (.iload_n 3, 1) := by decide +kernel
theorem dX5_draw_83 : decode cX5_draw 83 = .ok (.iaload, 1) := by decide +kernel
theorem dX5_draw_84 : decode cX5_draw 84 = .ok (.iastore, 1) := by decide +kernel
theorem dX5_draw_85 : decode cX5_draw 85 = .ok (.iinc 3 1, 3) := by decide +kernel
theorem dX5_draw_88 : decode cX5_draw 88 = .ok (.goto (-22), 3) := by decide +kernel
theorem dX5_draw_91 : decode cX5_draw 91 = .ok (.return_, 1) := by decide +kernel
theorem dX5_signed_0 : decode cX5_signed 0 = .ok (.aload_n 0, 1) := by decide +kernel
theorem dX5_signed_1 : decode cX5_signed 1 = .ok (.getfield 56, 3) := by decide +kernel
theorem dX5_signed_4 : decode cX5_signed 4 = .ok (.iconst 3, 1) := by decide +kernel
theorem dX5_signed_5 : decode cX5_signed 5 = .ok (.if_icmp .ne 33, 3) := by decide +kernel
theorem dX5_signed_8 : decode cX5_signed 8 = .ok (.iload_n 1, 1) := by decide +kernel
theorem dX5_signed_9 : decode cX5_signed 9 = .ok (.aload_n 0, 1) := by decide +kernel
theorem dX5_signed_10 : decode cX5_signed 10 = .ok (.getfield 65, 3) := by decide +kernel
theorem dX5_signed_13 : decode cX5_signed 13 = .ok (.aload_n 0, 1) := by decide +kernel
theorem dX5_signed_14 : decode cX5_signed 14 = .ok (.getfield 62, 3) := by decide +kernel
theorem dX5_signed_17 : decode cX5_signed 17 = .ok (.isub, 1) := by decide +kernel
theorem dX5_signed_18 : decode cX5_signed 18 = .ok (.if_icmp .lt 20, 3) := by decide +kernel
theorem dX5_signed_21 : decode cX5_signed 21 = .ok (.aload_n 0, 1) := by decide +kernel
theorem dX5_signed_22 : decode cX5_signed 22 = .ok (.getfield 37, 3) := by decide +kernel
theorem dX5_signed_25 : decode cX5_signed 25 = .ok (.iload_n 1, 1) := by decide +kernel
theorem dX5_signed_26 : decode cX5_signed 26 = .ok (.iaload, 1) := by decide +kernel
theorem dX5_signed_27 : decode cX5_signed 27 = .ok (.aload_n 0, 1) := by decide +kernel
theorem dX5_signed_28 : decode cX5_signed 28 = .ok (.getfield 53, 3) := by decide +kernel
theorem dX5_signed_31 : decode cX5_signed 31 = .ok (.bipush 63, 2) := by decide +kernel
theorem dX5_signed_33 : decode cX5_signed 33 = .ok (.iand, 1) := by decide +kernel
theorem dX5_signed_34 : decode cX5_signed 34 = .ok (.ixor, 1) := by decide +kernel
theorem dX5_signed_35 : decode cX5_signed 35 = .ok (.goto 9, 3) := by decide +kernel
theorem dX5_signed_38 : decode cX5_signed 38 = .ok (.aload_n 0, 1) := by decide +kernel
theorem dX5_signed_39 : decode cX5_signed 39 = .ok (.getfield 37, 3) := by decide +kernel
theorem dX5_signed_42 : decode cX5_signed 42 = .ok (.iload_n 1, 1) := by decide +kernel
theorem dX5_signed_43 : decode cX5_signed 43 = .ok (.iaload, 1) := by decide +kernel
theorem dX5_signed_44 : decode cX5_signed 44 = .ok (.ireturn, 1) := by decide +kernel
set_option maxRecDepth 20000 in
theorem ggX5_make_X5_isWhole : GoodIn wsX5_make wsX5_isWhole := goodIn_r _ [10, 11, 12, 114, 115, 116, 117, 118, 119, 120, 121, 122, 123, 124, 125, 126, 127, 128, 129, 130, 131, 132, 133, 134, 135, 136] (by decide +kernel) (by decide +kernel)
set_option maxRecDepth 20000 in
theorem gX5_make_X5_isWhole : GoodIn wsX5_make (wsV RX5 140 RX5 yX5_isWhole wsX5_isWhole) := goodIn_app (goodIn_of _ (by decide +kernel)) ggX5_make_X5_isWhole
set_option maxRecDepth 20000 in
theorem ggX5_make_X5_pack : GoodIn wsX5_make wsX5_pack := goodIn_r _ [16, 17, 4, 18, 19, 11, 20, 21, 114, 115, 116, 117, 118, 119, 120, 121, 122, 123, 124, 125, 126, 127, 128, 129, 130, 131, 132, 133, 134, 135, 136] (by decide +kernel) (by decide +kernel)
set_option maxRecDepth 20000 in
theorem gX5_make_X5_pack : GoodIn wsX5_make (wsV RX5 144 RX5 yX5_pack wsX5_pack) := goodIn_app (goodIn_of _ (by decide +kernel)) ggX5_make_X5_pack
set_option maxRecDepth 20000 in
theorem ggX5_make_X5_mend : GoodIn wsX5_make wsX5_mend := goodIn_r _ [25, 19, 17, 26, 4, 27, 28, 29, 30, 9, 31, 18, 32, 33, 34, 35, 36, 37, 38, 39, 40, 41, 42, 43, 44, 45, 46, 47, 48, 49, 50, 51, 52, 53, 54, 55, 56, 57, 58, 59, 60, 61, 62, 63, 64, 65, 66, 67, 68, 114, 115, 116, 117, 118, 119, 120, 121, 122, 123, 124, 125, 126, 127, 128, 129, 130, 131, 132, 133, 134, 135, 136] (by decide +kernel) (by decide +kernel)
set_option maxRecDepth 20000 in
theorem gX5_make_X5_mend : GoodIn wsX5_make (wsV RX5 147 RX5 yX5_mend wsX5_mend) := goodIn_app (goodIn_of _ (by decide +kernel)) ggX5_make_X5_mend
set_option maxRecDepth 20000 in
theorem ggX5_make_X5_length : GoodIn wsX5_make wsX5_length := goodIn_r _ [72, 3, 17, 114, 115, 116, 117, 118, 119, 120, 121, 122, 123, 124, 125, 126, 127, 128, 129, 130, 131, 132, 133, 134, 135, 136] (by decide +kernel) (by decide +kernel)
set_option maxRecDepth 20000 in
theorem gX5_make_X5_length : GoodIn wsX5_make (wsV RX5 111 RX5 yX5_length wsX5_length) := goodIn_app (goodIn_of _ (by decide +kernel)) ggX5_make_X5_length
set_option maxRecDepth 20000 in
theorem ggX5_make_X5_draw : GoodIn wsX5_make wsX5_draw := goodIn_r _ [76, 77, 78, 5, 79, 80, 81, 82, 9, 83, 84, 85, 86, 87, 3, 69, 70, 71, 72, 17, 88, 89, 90, 91, 92, 93, 94, 95, 96, 97, 98, 99, 100, 4, 101, 102, 103, 104, 105, 106, 107, 108, 114, 115, 116, 117, 118, 119, 120, 121, 122, 123, 124, 125, 126, 127, 128, 129, 130, 131, 132, 133, 134, 135, 136] (by decide +kernel) (by decide +kernel)
set_option maxRecDepth 20000 in
theorem gX5_make_X5_draw : GoodIn wsX5_make (wsV RX5 153 RX5 yX5_draw wsX5_draw) := goodIn_app (goodIn_of _ (by decide +kernel)) ggX5_make_X5_draw
set_option maxRecDepth 20000 in
theorem ggX5_make_X5_frame : GoodIn wsX5_make wsX5_frame := goodIn_r _ [87, 3, 69, 70, 71, 9, 72, 17, 114, 115, 116, 117, 118, 119, 120, 121, 122, 123, 124, 125, 126, 127, 128, 129, 130, 131, 132, 133, 134, 135, 136] (by decide +kernel) (by decide +kernel)
set_option maxRecDepth 20000 in
theorem gX5_make_X5_frame : GoodIn wsX5_make (wsV RX5 114 RX5 yX5_frame wsX5_frame) := goodIn_app (goodIn_of _ (by decide +kernel)) ggX5_make_X5_frame
set_option maxRecDepth 20000 in
theorem ggX5_make_X5_signed : GoodIn wsX5_make wsX5_signed := goodIn_r _ [112, 3, 17, 19, 4, 113, 114, 115, 116, 117, 118, 119, 120, 121, 122, 123, 124, 125, 126, 127, 128, 129, 130, 131, 132, 133, 134, 135, 136] (by decide +kernel) (by decide +kernel)
set_option maxRecDepth 20000 in
theorem gX5_make_X5_signed : GoodIn wsX5_make (wsV RX5 156 RX5 yX5_signed wsX5_signed) := goodIn_app (goodIn_of _ (by decide +kernel)) ggX5_make_X5_signed
theorem dX5_make_0 : decode cX5_make 0 = .ok (.aload_n 0, 1) := by decide +kernel
theorem dX5_make_1 : decode cX5_make 1 = .ok (.iconst 0, 1) := by decide +kernel
theorem dX5_make_2 : decode cX5_make 2 = .ok (.putfield 68, 3) := by decide +kernel
theorem dX5_make_5 : decode cX5_make 5 = .ok (.aload_n 0, 1) := by decide +kernel
theorem dX5_make_6 : decode cX5_make 6 = .ok (.invokevirtual 140, 3) := by decide +kernel
theorem dX5_make_9 : decode cX5_make 9 = .ok (.ifCond .ne 5, 3) := by decide +kernel
theorem dX5_make_12 : decode cX5_make 12 = .ok (.iconst (-1), 1) := by decide +kernel
theorem dX5_make_13 : decode cX5_make 13 = .ok (.ireturn, 1) := by decide +kernel
theorem dX5_make_14 : decode cX5_make 14 = .ok (.aload_n 0, 1) := by decide +kernel
theorem dX5_make_15 : decode cX5_make 15 = .ok (.invokevirtual 144, 3) := by decide +kernel
theorem dX5_make_18 : decode cX5_make 18 = .ok (.aload_n 0, 1) := by decide +kernel
theorem dX5_make_19 : decode cX5_make 19 = .ok (.invokevirtual 147, 3) := by decide +kernel
theorem dX5_make_22 : decode cX5_make 22 = .ok (.istore_n 1, 1) := by decide +kernel
theorem dX5_make_23 : decode cX5_make 23 = .ok (.aload_n 0, 1) := by decide +kernel
theorem dX5_make_24 : decode cX5_make 24 = .ok (.aload_n 0, 1) := by decide +kernel
theorem dX5_make_25 : decode cX5_make 25 = .ok (.invokevirtual 111, 3) := by decide +kernel
theorem dX5_make_28 : decode cX5_make 28 = .ok (.putfield 150, 3) := by decide +kernel
theorem dX5_make_31 : decode cX5_make 31 = .ok (.aload_n 0, 1) := by decide +kernel
theorem dX5_make_32 : decode cX5_make 32 = .ok (.getfield 56, 3) := by decide +kernel
theorem dX5_make_35 : decode cX5_make 35 = .ok (.iconst 2, 1) := by decide +kernel
theorem dX5_make_36 : decode cX5_make 36 = .ok (.if_icmp .ne 12, 3) := by decide +kernel
theorem dX5_make_39 : decode cX5_make 39 = .ok (.aload_n 0, 1) := by decide +kernel
theorem dX5_make_40 : decode cX5_make 40 = .ok (.invokevirtual 153, 3) := by decide +kernel
theorem dX5_make_43 : decode cX5_make 43 = .ok (.aload_n 0, 1) := by decide +kernel
theorem dX5_make_44 : decode cX5_make 44 = .ok (.getfield 150, 3) := by decide +kernel
theorem dX5_make_47 : decode cX5_make 47 = .ok (.ireturn, 1) := by decide +kernel
theorem dX5_make_48 : decode cX5_make 48 = .ok (.iconst 0, 1) := by decide +kernel
theorem dX5_make_49 : decode cX5_make 49 = .ok (.istore_n 2, 1) := by decide +kernel
theorem dX5_make_50 : decode cX5_make 50 = .ok (.iload_n 2, 1) := by decide +kernel
theorem dX5_make_51 : decode cX5_make 51 = .ok (.aload_n 0, 1) := by decide +kernel
theorem dX5_make_52 : decode cX5_make 52 = .ok (.getfield 150, 3) := by decide +kernel
theorem dX5_make_55 : decode cX5_make 55 = .ok (.if_icmp .ge 86, 3) := by decide +kernel
theorem dX5_make_58 : decode cX5_make 58 = .ok (.iload_n 2, 1) := by decide +kernel
theorem dX5_make_59 : decode cX5_make 59 = .ok (.iconst 2, 1) := by decide +kernel
theorem dX5_make_60 : decode cX5_make 60 = .ok (.isub, 1) := by decide +kernel
theorem dX5_make_61 : decode cX5_make 61 = .ok (.istore_n 3, 1) := by decide +kernel
theorem dX5_make_62 : decode cX5_make 62 = .ok (.aload_n 0, 1) := by decide +kernel
theorem dX5_make_63 : decode cX5_make 63 = .ok (.iload_n 2, 1) := by decide +kernel
theorem dX5_make_64 : decode cX5_make 64 = .ok (.invokevirtual 114, 3) := by decide +kernel
theorem dX5_make_67 : decode cX5_make 67 = .ok (.iconst (-1), 1) := by decide +kernel
theorem dX5_make_68 : decode cX5_make 68 = .ok (.if_icmp .eq 11, 3) := by decide +kernel
theorem dX5_make_71 : decode cX5_make 71 = .ok (.aload_n 0, 1) := by decide +kernel
theorem dX5_make_72 : decode cX5_make 72 = .ok (.iload_n 2, 1) := by decide +kernel
theorem dX5_make_73 : decode cX5_make 73 = .ok (.invokevirtual 114, 3) := by decide +kernel
theorem dX5_make_76 : decode cX5_make 76 = .ok (.goto 49, 3) := by decide +kernel
theorem dX5_make_79 : decode cX5_make 79 = .ok (.aload_n 0, 1) := by decide +kernel
theorem dX5_make_80 : decode cX5_make 80 = .ok (.getfield 56, 3) := by decide +kernel
theorem dX5_make_83 : decode cX5_make 83 = .ok (.iconst 3, 1) := by decide +kernel
theorem dX5_make_84 : decode cX5_make 84 = .ok (.if_icmp .ne 23, 3) := by decide +kernel
theorem dX5_make_87 : decode cX5_make 87 = .ok (.aload_n 0, 1) := by decide +kernel
theorem dX5_make_88 : decode cX5_make 88 = .ok (.iload_n 3, 1) := by decide +kernel
theorem dX5_make_89 : decode cX5_make 89 = .ok (.bipush 6, 2) := by decide +kernel
theorem dX5_make_91 : decode cX5_make 91 = .ok (.idiv, 1) := by decide +kernel
theorem dX5_make_92 : decode cX5_make 92 = .ok (.invokevirtual 156, 3) := by decide +kernel
theorem dX5_make_95 : decode cX5_make 95 = .ok (.iconst 5, 1) := by decide +kernel
theorem dX5_make_96 : decode cX5_make 96 = .ok (.iload_n 3, 1) := by decide +kernel
theorem dX5_make_97 : decode cX5_make 97 = .ok (.bipush 6, 2) := by decide +kernel
theorem dX5_make_99 : decode cX5_make 99 = .ok (.irem, 1) := by decide +kernel
theorem dX5_make_100 : decode cX5_make 100 = .ok (.isub, 1) := by decide +kernel
theorem dX5_make_101 : decode cX5_make 101 = .ok (.ishr, 1) := by decide +kernel
theorem dX5_make_102 : decode cX5_make 102 = .ok (.iconst 1, 1) := by decide +kernel
theorem dX5_make_103 : decode cX5_make 103 = .ok (.iand, 1) := by decide +kernel
theorem dX5_make_104 : decode cX5_make 104 = .ok (.goto 21, 3) := by decide +kernel
theorem dX5_make_107 : decode cX5_make 107 = .ok (.aload_n 0, 1) := by decide +kernel
theorem dX5_make_108 : decode cX5_make 108 = .ok (.getfield 37, 3) := by decide +kernel
theorem dX5_make_111 : decode cX5_make 111 = .ok (.iload_n 3, 1) := by decide +kernel
theorem dX5_make_112 : decode cX5_make 112 = .ok (.iconst 3, 1) := by decide +kernel
theorem dX5_make_113 : decode cX5_make 113 = .ok (.idiv, 1) := by decide +kernel
theorem dX5_make_114 : decode cX5_make 114 = .ok (.iaload, 1) := by decide +kernel
theorem dX5_make_115 : decode cX5_make 115 = .ok (.iconst 4, 1) := by decide +kernel
theorem dX5_make_116 : decode cX5_make 116 = .ok (.iload_n 3, 1) := by decide +kernel
theorem dX5_make_117 : decode cX5_make 117 = .ok (.iconst 3, 1) := by decide +kernel
theorem dX5_make_118 : decode cX5_make 118 = .ok (.irem, 1) := by decide +kernel
theorem dX5_make_119 : decode cX5_make 119 = .ok (.iconst 2, 1) := by decide +kernel
theorem dX5_make_120 : decode cX5_make 120 = .ok (.imul, 1) := by decide +kernel
theorem dX5_make_121 : decode cX5_make 121 = .ok (.isub, 1) := by decide +kernel
theorem dX5_make_122 : decode cX5_make 122 = .ok (.ishr, 1) := by decide +kernel
theorem dX5_make_123 : decode cX5_make 123 = .ok (.iconst 3, 1) := by decide +kernel
theorem dX5_make_124 : decode cX5_make 124 = .ok (.iand, 1) := by decide +kernel
theorem dX5_make_125 : decode cX5_make 125 = .ok (.istore 4, 2) := by decide +kernel
theorem dX5_make_127 : decode cX5_make 127 = .ok (.aload_n 0, 1) := by decide +kernel
theorem dX5_make_128 : decode cX5_make 128 = .ok (.getfield 21, 3) := by decide +kernel
theorem dX5_make_131 : decode cX5_make 131 = .ok (.iload_n 2, 1) := by decide +kernel
theorem dX5_make_132 : decode cX5_make 132 = .ok (.iload 4, 2) := by decide +kernel
theorem dX5_make_134 : decode cX5_make 134 = .ok (.iastore, 1) := by decide +kernel
theorem dX5_make_135 : decode cX5_make 135 = .ok (.iinc 2 1, 3) := by decide +kernel
theorem dX5_make_138 : decode cX5_make 138 = .ok (.goto (-88), 3) := by decide +kernel
theorem dX5_make_141 : decode cX5_make 141 = .ok (.aload_n 0, 1) := by decide +kernel
theorem dX5_make_142 : decode cX5_make 142 = .ok (.getfield 150, 3) := by decide +kernel
theorem dX5_make_145 : decode cX5_make 145 = .ok (.ireturn, 1) := by decide +kernel
theorem dX5_bar_0 : decode cX5_bar 0 = .ok (.aload_n 0, 1) := by decide +kernel
theorem dX5_bar_1 : decode cX5_bar 1 = .ok (.iload_n 1, 1) := by decide +kernel
theorem dX5_bar_2 : decode cX5_bar 2 = .ok (.ifCond .lt 11, 3) := by decide +kernel
theorem dX5_bar_5 : decode cX5_bar 5 = .ok (.iload_n 1, 1) := by decide +kernel
theorem dX5_bar_6 : decode cX5_bar 6 = .ok (.aload_n 0, 1) := by decide +kernel
theorem dX5_bar_7 : decode cX5_bar 7 = .ok (.getfield 150, 3) := by decide +kernel
theorem dX5_bar_10 : decode cX5_bar 10 = .ok (.if_icmp .lt 7, 3) := by decide +kernel
theorem dX5_bar_13 : decode cX5_bar 13 = .ok (.iconst 1, 1) := by decide +kernel
theorem dX5_bar_14 : decode cX5_bar 14 = .ok (.goto 4, 3) := by decide +kernel
theorem dX5_bar_17 : decode cX5_bar 17 = .ok (.iconst 0, 1) := by decide +kernel
theorem dX5_bar_18 : decode cX5_bar 18 = .ok (.putfield 68, 3) := by decide +kernel
theorem dX5_bar_21 : decode cX5_bar 21 = .ok (.aload_n 0, 1) := by decide +kernel
theorem dX5_bar_22 : decode cX5_bar 22 = .ok (.getfield 68, 3) := by decide +kernel
theorem dX5_bar_25 : decode cX5_bar 25 = .ok (.ifCond .le 7, 3) := by decide +kernel
theorem dX5_bar_28 : decode cX5_bar 28 = .ok (.iconst 0, 1) := by decide +kernel
theorem dX5_bar_29 : decode cX5_bar 29 = .ok (.goto 9, 3) := by decide +kernel
theorem dX5_bar_32 : decode cX5_bar 32 = .ok (.aload_n 0, 1) := by decide +kernel
theorem dX5_bar_33 : decode cX5_bar 33 = .ok (.getfield 21, 3) := by decide +kernel
theorem dX5_bar_36 : decode cX5_bar 36 = .ok (.iload_n 1, 1) := by decide +kernel
theorem dX5_bar_37 : decode cX5_bar 37 = .ok (.iaload, 1) := by decide +kernel
theorem dX5_bar_38 : decode cX5_bar 38 = .ok (.ireturn, 1) := by decide +kernel
theorem dX5_read_0 : decode cX5_read 0 = .ok (.aload_n 0, 1) := by decide +kernel
theorem dX5_read_1 : decode cX5_read 1 = .ok (.getfield 56, 3) := by decide +kernel
theorem dX5_read_4 : decode cX5_read 4 = .ok (.iconst 2, 1) := by decide +kernel
theorem dX5_read_5 : decode cX5_read 5 = .ok (.if_icmp .eq 11, 3) := by decide +kernel
theorem dX5_read_8 : decode cX5_read 8 = .ok (.aload_n 0, 1) := by decide +kernel
theorem dX5_read_9 : decode cX5_read 9 = .ok (.getfield 56, 3) := by decide +kernel
theorem dX5_read_12 : decode cX5_read 12 = .ok (.iconst 3, 1) := by decide +kernel
theorem dX5_read_13 : decode cX5_read 13 = .ok (.if_icmp .ne 7, 3) := by decide +kernel
theorem dX5_read_16 : decode cX5_read 16 = .ok (.iconst 1, 1) := by decide +kernel
theorem dX5_read_17 : decode cX5_read 17 = .ok (.goto 4, 3) := by decide +kernel
theorem dX5_read_20 : decode cX5_read 20 = .ok (.iconst 3, 1) := by decide +kernel
theorem dX5_read_21 : decode cX5_read 21 = .ok (.istore_n 2, 1) := by decide +kernel
theorem dX5_read_22 : decode cX5_read 22 = .ok (.aload_n 0, 1) := by decide +kernel
