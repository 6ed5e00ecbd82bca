theorem dX2_looksTurned_59 : decode cX2_looksTurned 59 = .ok (.iaload, 1) := by decide +kernel
theorem dX2_looksTurned_60 : decode cX2_looksTurned 60 = .ok (.invokevirtual 89, 3) := by decide +kernel
theorem dX2_looksTurned_63 : decode cX2_looksTurned 63 = .ok (.iload 5, 2) := by decide +kernel
theorem dX2_looksTurned_65 : decode cX2_looksTurned 65 = .ok (.if_icmp .ne 7, 3) := by decide +kernel
theorem dX2_looksTurned_68 : decode cX2_looksTurned 68 = .ok (.iconst 1, 1) := by decide +kernel
theorem dX2_looksTurned_69 : decode cX2_looksTurned 69 = .ok (.goto 4, 3) := by decide +kernel
theorem dX2_looksTurned_72 : decode cX2_looksTurned 72 = .ok (.iconst 0, 1) := by decide +kernel
theorem dX2_looksTurned_73 : decode cX2_looksTurned 73 = .ok (.iadd, 1) := by decide +kernel
theorem dX2_looksTurned_74 : decode cX2_looksTurned 74 = .ok (.istore_n 3, 1) := by decide +kernel
theorem dX2_looksTurned_75 : decode cX2_looksTurned 75 = .ok (.iinc 4 1, 3) := by decide +kernel
theorem dX2_looksTurned_78 : decode cX2_looksTurned 78 = .ok (.goto (-71), 3) := by decide +kernel
theorem dX2_looksTurned_81 : decode cX2_looksTurned 81 = .ok (.iload_n 3, 1) := by decide +kernel
theorem dX2_looksTurned_82 : decode cX2_looksTurned 82 = .ok (.iload_n 2, 1) := by decide +kernel
theorem dX2_looksTurned_83 : decode cX2_looksTurned 83 = .ok (.if_icmp .le 7, 3) := by decide +kernel
theorem dX2_looksTurned_86 : decode cX2_looksTurned 86 = .ok (.iconst 1, 1) := by decide +kernel
theorem dX2_looksTurned_87 : decode cX2_looksTurned 87 = .ok (.goto 4, 3) := by decide +kernel
theorem dX2_looksTurned_90 : decode cX2_looksTurned 90 = .ok (.iconst 0, 1) := by decide +kernel
theorem dX2_looksTurned_91 : decode cX2_looksTurned 91 = .ok (.ireturn, 1) := by decide +kernel
set_option maxRecDepth 20000 in
theorem ggX2_turn_X2_fromOtherSide : GoodIn wsX2_turn wsX2_fromOtherSide := goodIn_r _ [6, 7, 8, 9, 10, 11, 12, 13, 14, 15, 16, 17] (by decide +kernel) (by decide +kernel)
set_option maxRecDepth 20000 in
theorem gX2_turn_X2_fromOtherSide : GoodIn wsX2_turn (wsV RX2 89 RX2 yX2_fromOtherSide wsX2_fromOtherSide) := goodIn_app (goodIn_of _ (by decide +kernel)) ggX2_turn_X2_fromOtherSide
theorem dX2_turn_0 : decode cX2_turn 0 = .ok (.iconst 0, 1) := by decide +kernel
theorem dX2_turn_1 : decode cX2_turn 1 = .ok (.istore_n 2, 1) := by decide +kernel
theorem dX2_turn_2 : decode cX2_turn 2 = .ok (.aload_n 0, 1) := by decide +kernel
theorem dX2_turn_3 : decode cX2_turn 3 = .ok (.getfield 52, 3) := by decide +kernel
theorem dX2_turn_6 : decode cX2_turn 6 = .ok (.iconst 1, 1) := by decide +kernel
theorem dX2_turn_7 : decode cX2_turn 7 = .ok (.isub, 1) := by decide +kernel
theorem dX2_turn_8 : decode cX2_turn 8 = .ok (.istore_n 3, 1) := by decide +kernel
theorem dX2_turn_9 : decode cX2_turn 9 = .ok (.iload_n 2, 1) := by decide +kernel
theorem dX2_turn_10 : decode cX2_turn 10 = .ok (.iload_n 3, 1) := by decide +kernel
theorem dX2_turn_11 : decode cX2_turn 11 = .ok (.if_icmp .gt 36, 3) := by decide +kernel
theorem dX2_turn_14 : decode cX2_turn 14 = .ok (.aload_n 1, 1) := by decide +kernel
theorem dX2_turn_15 : decode cX2_turn 15 = .ok (.iload_n 2, 1) := by decide +kernel
theorem dX2_turn_16 : decode cX2_turn 16 = .ok (.iaload, 1) := by decide +kernel
theorem dX2_turn_17 : decode cX2_turn 17 = .ok (.istore 4, 2) := by decide +kernel
theorem dX2_turn_19 : decode cX2_turn 19 = .ok (.aload_n 1, 1) := by decide +kernel
theorem dX2_turn_20 : decode cX2_turn 20 = .ok (.iload_n 2, 1) := by decide +kernel
theorem dX2_turn_21 : decode cX2_turn 21 = .ok (.aload_n 0, 1) := by decide +kernel
theorem dX2_turn_22 : decode cX2_turn 22 = .ok (.aload_n 1, 1) := by decide +kernel
theorem dX2_turn_23 : decode cX2_turn 23 = .ok (.iload_n 3, 1) := by decide +kernel
theorem dX2_turn_24 : decode cX2_turn 24 = .ok (.iaload, 1) := by decide +kernel
theorem dX2_turn_25 : decode cX2_turn 25 = .ok (.invokevirtual 89, 3) := by decide +kernel
theorem dX2_turn_28 : decode cX2_turn 28 = .ok (.iastore, 1) := by decide +kernel
theorem dX2_turn_29 : decode cX2_turn 29 = .ok (.aload_n 1, 1) := by decide +kernel
theorem dX2_turn_30 : decode cX2_turn 30 = .ok (.iload_n 3, 1) := by decide +kernel
theorem dX2_turn_31 : decode cX2_turn 31 = .ok (.aload_n 0, 1) := by decide +kernel
theorem dX2_turn_32 : decode cX2_turn 32 = .ok (.iload 4, 2) := by decide +kernel
theorem dX2_turn_34 : decode cX2_turn 34 = .ok (.invokevirtual 89, 3) := by decide +kernel
theorem dX2_turn_37 : decode cX2_turn 37 = .ok (.iastore, 1) := by decide +kernel
theorem dX2_turn_38 : decode cX2_turn 38 = .ok (.iinc 2 1, 3) := by decide +kernel
theorem dX2_turn_41 : decode cX2_turn 41 = .ok (.iinc 3 (-1), 3) := by decide +kernel
theorem dX2_turn_44 : decode cX2_turn 44 = .ok (.goto (-35), 3) := by decide +kernel
theorem dX2_turn_47 : decode cX2_turn 47 = .ok (.return_, 1) := by decide +kernel
theorem dX2_fromOtherSide_0 : decode cX2_fromOtherSide 0 = .ok (.aload_n 0, 1) := by decide +kernel
theorem dX2_fromOtherSide_1 : decode cX2_fromOtherSide 1 = .ok (.getfield 37, 3) := by decide +kernel
theorem dX2_fromOtherSide_4 : decode cX2_fromOtherSide 4 = .ok (.ifCond .eq 17, 3) := by decide +kernel
theorem dX2_fromOtherSide_7 : decode cX2_fromOtherSide 7 = .ok (.iload_n 1, 1) := by decide +kernel
theorem dX2_fromOtherSide_8 : decode cX2_fromOtherSide 8 = .ok (.iconst 1, 1) := by decide +kernel
theorem dX2_fromOtherSide_9 : decode cX2_fromOtherSide 9 = .ok (.if_icmp .eq 8, 3) := by decide +kernel
theorem dX2_fromOtherSide_12 : decode cX2_fromOtherSide 12 = .ok (.iload_n 1, 1) := by decide +kernel
theorem dX2_fromOtherSide_13 : decode cX2_fromOtherSide 13 = .ok (.iconst 2, 1) := by decide +kernel
theorem dX2_fromOtherSide_14 : decode cX2_fromOtherSide 14 = .ok (.if_icmp .ne 7, 3) := by decide +kernel
theorem dX2_fromOtherSide_17 : decode cX2_fromOtherSide 17 = .ok (.iconst 3, 1) := by decide +kernel
theorem dX2_fromOtherSide_18 : decode cX2_fromOtherSide 18 = .ok (.iload_n 1, 1) := by decide +kernel
theorem dX2_fromOtherSide_19 : decode cX2_fromOtherSide 19 = .ok (.isub, 1) := by decide +kernel
theorem dX2_fromOtherSide_20 : decode cX2_fromOtherSide 20 = .ok (.ireturn, 1) := by decide +kernel
theorem dX2_fromOtherSide_21 : decode cX2_fromOtherSide 21 = .ok (.iload_n 1, 1) := by decide +kernel
theorem dX2_fromOtherSide_22 : decode cX2_fromOtherSide 22 = .ok (.ireturn, 1) := by decide +kernel
theorem dX2_keyOf_0 : decode cX2_keyOf 0 = .ok (.iload_n 1, 1) := by decide +kernel
theorem dX2_keyOf_1 : decode cX2_keyOf 1 = .ok (.aload_n 0, 1) := by decide +kernel
theorem dX2_keyOf_2 : decode cX2_keyOf 2 = .ok (.getfield 34, 3) := by decide +kernel
theorem dX2_keyOf_5 : decode cX2_keyOf 5 = .ok (.aload_n 0, 1) := by decide +kernel
theorem dX2_keyOf_6 : decode cX2_keyOf 6 = .ok (.getfield 27, 3) := by decide +kernel
theorem dX2_keyOf_9 : decode cX2_keyOf 9 = .ok (.isub, 1) := by decide +kernel
theorem dX2_keyOf_10 : decode cX2_keyOf 10 = .ok (.if_icmp .ge 7, 3) := by decide +kernel
theorem dX2_keyOf_13 : decode cX2_keyOf 13 = .ok (.iconst 0, 1) := by decide +kernel
theorem dX2_keyOf_14 : decode cX2_keyOf 14 = .ok (.goto 7, 3) := by decide +kernel
theorem dX2_keyOf_17 : decode cX2_keyOf 17 = .ok (.aload_n 0, 1) := by decide +kernel
theorem dX2_keyOf_18 : decode cX2_keyOf 18 = .ok (.getfield 55, 3) := by decide +kernel
theorem dX2_keyOf_21 : decode cX2_keyOf 21 = .ok (.ireturn, 1) := by decide +kernel
set_option maxRecDepth 20000 in
theorem ggX2_placeOf_X3_placeOf : GoodIn wsX2_placeOf wsX3_placeOf := goodIn_r _ [5] (by decide +kernel) (by decide +kernel)
set_option maxRecDepth 20000 in
theorem gX2_placeOf_X3_placeOf : GoodIn wsX2_placeOf (va_wsS RX2 92 yX3_placeOf wsX3_placeOf) := goodIn_app (goodIn_of _ (by decide +kernel)) ggX2_placeOf_X3_placeOf
theorem dX2_placeOf_0 : decode cX2_placeOf 0 = .ok (.aload_n 0, 1) := by decide +kernel
theorem dX2_placeOf_1 : decode cX2_placeOf 1 = .ok (.getfield 11, 3) := by decide +kernel
theorem dX2_placeOf_4 : decode cX2_placeOf 4 = .ok (.iconst 2, 1) := by decide +kernel
theorem dX2_placeOf_5 : decode cX2_placeOf 5 = .ok (.if_icmp .ne 10, 3) := by decide +kernel
theorem dX2_placeOf_8 : decode cX2_placeOf 8 = .ok (.iload_n 1, 1) := by decide +kernel
theorem dX2_placeOf_9 : decode cX2_placeOf 9 = .ok (.invokestatic 92, 3) := by decide +kernel
theorem dX2_placeOf_12 : decode cX2_placeOf 12 = .ok (.goto 6, 3) := by decide +kernel
theorem dX2_placeOf_15 : decode cX2_placeOf 15 = .ok (.iconst 2, 1) := by decide +kernel
theorem dX2_placeOf_16 : decode cX2_placeOf 16 = .ok (.iload_n 1, 1) := by decide +kernel
theorem dX2_placeOf_17 : decode cX2_placeOf 17 = .ok (.iadd, 1) := by decide +kernel
theorem dX2_placeOf_18 : decode cX2_placeOf 18 = .ok (.ireturn, 1) := by decide +kernel
set_option maxRecDepth 20000 in
theorem ggX2_turnAt_X3_isTurned : GoodIn wsX2_turnAt wsX3_isTurned := goodIn_r _ [5] (by decide +kernel) (by decide +kernel)
set_option maxRecDepth 20000 in
theorem gX2_turnAt_X3_isTurned : GoodIn wsX2_turnAt (va_wsS RX2 93 yX3_isTurned wsX3_isTurned) := goodIn_app (goodIn_of _ (by decide +kernel)) ggX2_turnAt_X3_isTurned
theorem dX2_turnAt_0 : decode cX2_turnAt 0 = .ok (.aload_n 0, 1) := by decide +kernel
theorem dX2_turnAt_1 : decode cX2_turnAt 1 = .ok (.getfield 11, 3) := by decide +kernel
theorem dX2_turnAt_4 : decode cX2_turnAt 4 = .ok (.iconst 2, 1) := by decide +kernel
theorem dX2_turnAt_5 : decode cX2_turnAt 5 = .ok (.if_icmp .ne 15, 3) := by decide +kernel
theorem dX2_turnAt_8 : decode cX2_turnAt 8 = .ok (.iload_n 1, 1) := by decide +kernel
theorem dX2_turnAt_9 : decode cX2_turnAt 9 = .ok (.iload_n 2, 1) := by decide +kernel
theorem dX2_turnAt_10 : decode cX2_turnAt 10 = .ok (.invokestatic 93, 3) := by decide +kernel
theorem dX2_turnAt_13 : decode cX2_turnAt 13 = .ok (.ifCond .eq 7, 3) := by decide +kernel
theorem dX2_turnAt_16 : decode cX2_turnAt 16 = .ok (.iconst 1, 1) := by decide +kernel
theorem dX2_turnAt_17 : decode cX2_turnAt 17 = .ok (.goto 4, 3) := by decide +kernel
theorem dX2_turnAt_20 : decode cX2_turnAt 20 = .ok (.iconst 0, 1) := by decide +kernel
theorem dX2_turnAt_21 : decode cX2_turnAt 21 = .ok (.ireturn, 1) := by decide +kernel
set_option maxRecDepth 20000 in
theorem ggX2_frameAt_X3_frameAt : GoodIn wsX2_frameAt wsX3_frameAt := goodIn_r _ [9] (by decide +kernel) (by decide +kernel)
set_option maxRecDepth 20000 in
theorem gX2_frameAt_X3_frameAt : GoodIn wsX2_frameAt (va_wsS RX2 97 yX3_frameAt wsX3_frameAt) := goodIn_app (goodIn_of _ (by decide +kernel)) ggX2_frameAt_X3_frameAt
theorem dX2_frameAt_0 : decode cX2_frameAt 0 = .ok (.aload_n 0, 1) := by decide +kernel
theorem dX2_frameAt_1 : decode cX2_frameAt 1 = .ok (.getfield 11, 3) := by decide +kernel
theorem dX2_frameAt_4 : decode cX2_frameAt 4 = .ok (.iconst 2, 1) := by decide +kernel
theorem dX2_frameAt_5 : decode cX2_frameAt 5 = .ok (.if_icmp .ne 8, 3) := by decide +kernel
theorem dX2_frameAt_8 : decode cX2_frameAt 8 = .ok (.iload_n 1, 1) := by decide +kernel
theorem dX2_frameAt_9 : decode cX2_frameAt 9 = .ok (.invokestatic 97, 3) := by decide +kernel
theorem dX2_frameAt_12 : decode cX2_frameAt 12 = .ok (.ireturn, 1) := by decide +kernel
theorem dX2_frameAt_13 : decode cX2_frameAt 13 = .ok (.aload_n 0, 1) := by decide +kernel
theorem dX2_frameAt_14 : decode cX2_frameAt 14 = .ok (.getfield 37, 3) := by decide +kernel
theorem dX2_frameAt_17 : decode cX2_frameAt 17 = .ok (.ifCond .eq 9, 3) := by decide +kernel
theorem dX2_frameAt_20 : decode cX2_frameAt 20 = .ok (.getstatic 98, 3) := by decide +kernel
theorem dX2_frameAt_23 : decode cX2_frameAt 23 = .ok (.goto 6, 3) := by decide +kernel
theorem dX2_frameAt_26 : decode cX2_frameAt 26 = .ok (.getstatic 101, 3) := by decide +kernel
theorem dX2_frameAt_29 : decode cX2_frameAt 29 = .ok (.astore_n 2, 1) := by decide +kernel
theorem dX2_frameAt_30 : decode cX2_frameAt 30 = .ok (.iload_n 1, 1) := by decide +kernel
theorem dX2_frameAt_31 : decode cX2_frameAt 31 = .ok (.iconst 2, 1) := by decide +kernel
theorem dX2_frameAt_32 : decode cX2_frameAt 32 = .ok (.if_icmp .ge 7, 3) := by decide +kernel
theorem dX2_frameAt_35 : decode cX2_frameAt 35 = .ok (.aload_n 2, 1) := by decide +kernel
theorem dX2_frameAt_36 : decode cX2_frameAt 36 = .ok (.iload_n 1, 1) := by decide +kernel
theorem dX2_frameAt_37 : decode cX2_frameAt 37 = .ok (.iaload, 1) := by decide +kernel
theorem dX2_frameAt_38 : decode cX2_frameAt 38 = .ok (.ireturn, 1) := by decide +kernel
theorem dX2_frameAt_39 : decode cX2_frameAt 39 = .ok (.aload_n 0, 1) := by decide +kernel
theorem dX2_frameAt_40 : decode cX2_frameAt 40 = .ok (.getfield 52, 3) := by decide +kernel
theorem dX2_frameAt_43 : decode cX2_frameAt 43 = .ok (.iconst 2, 1) := by decide +kernel
theorem dX2_frameAt_44 : decode cX2_frameAt 44 = .ok (.isub, 1) := by decide +kernel
theorem dX2_frameAt_45 : decode cX2_frameAt 45 = .ok (.istore_n 3, 1) := by decide +kernel
theorem dX2_frameAt_46 : decode cX2_frameAt 46 = .ok (.iload_n 1, 1) := by decide +kernel
theorem dX2_frameAt_47 : decode cX2_frameAt 47 = .ok (.iload_n 3, 1) := by decide +kernel
theorem dX2_frameAt_48 : decode cX2_frameAt 48 = .ok (.if_icmp .ge 7, 3) := by decide +kernel
theorem dX2_frameAt_51 : decode cX2_frameAt 51 = .ok (.iconst (-1), 1) := by decide +kernel
theorem dX2_frameAt_52 : decode cX2_frameAt 52 = .ok (.goto 10, 3) := by decide +kernel
theorem dX2_frameAt_55 : decode cX2_frameAt 55 = .ok (.aload_n 2, 1) := by decide +kernel
theorem dX2_frameAt_56 : decode cX2_frameAt 56 = .ok (.iconst 2, 1) := by decide +kernel
theorem dX2_frameAt_57 : decode cX2_frameAt 57 = .ok (.iload_n 1, 1) := by decide +kernel
theorem dX2_frameAt_58 : decode cX2_frameAt 58 = .ok (.iadd, 1) := by decide +kernel
theorem dX2_frameAt_59 : decode cX2_frameAt 59 = .ok (.iload_n 3, 1) := by decide +kernel
theorem dX2_frameAt_60 : decode cX2_frameAt 60 = .ok (.isub, 1) := by decide +kernel
theorem dX2_frameAt_61 : decode cX2_frameAt 61 = .ok (.iaload, 1) := by decide +kernel
theorem dX2_frameAt_62 : decode cX2_frameAt 62 = .ok (.ireturn, 1) := by decide +kernel
theorem dX3_frameAt_0 : decode cX3_frameAt 0 = .ok (.iload_n 0, 1) := by decide +kernel
theorem dX3_frameAt_1 : decode cX3_frameAt 1 = .ok (.bipush 12, 2) := by decide +kernel
theorem dX3_frameAt_3 : decode cX3_frameAt 3 = .ok (.idiv, 1) := by decide +kernel
theorem dX3_frameAt_4 : decode cX3_frameAt 4 = .ok (.istore_n 1, 1) := by decide +kernel
theorem dX3_frameAt_5 : decode cX3_frameAt 5 = .ok (.iload_n 0, 1) := by decide +kernel
theorem dX3_frameAt_6 : decode cX3_frameAt 6 = .ok (.bipush 12, 2) := by decide +kernel
theorem dX3_frameAt_8 : decode cX3_frameAt 8 = .ok (.irem, 1) := by decide +kernel
theorem dX3_frameAt_9 : decode cX3_frameAt 9 = .ok (.istore_n 2, 1) := by decide +kernel
theorem dX3_frameAt_10 : decode cX3_frameAt 10 = .ok (.iload_n 2, 1) := by decide +kernel
theorem dX3_frameAt_11 : decode cX3_frameAt 11 = .ok (.ifCond .eq 9, 3) := by decide +kernel
theorem dX3_frameAt_14 : decode cX3_frameAt 14 = .ok (.iload_n 1, 1) := by decide +kernel
theorem dX3_frameAt_15 : decode cX3_frameAt 15 = .ok (.bipush 11, 2) := by decide +kernel
theorem dX3_frameAt_17 : decode cX3_frameAt 17 = .ok (.if_icmp .ne 5, 3) := by decide +kernel
theorem dX3_frameAt_20 : decode cX3_frameAt 20 = .ok (.iconst 1, 1) := by decide +kernel
theorem dX3_frameAt_21 : decode cX3_frameAt 21 = .ok (.ireturn, 1) := by decide +kernel
theorem dX3_frameAt_22 : decode cX3_frameAt 22 = .ok (.iload_n 1, 1) := by decide +kernel
theorem dX3_frameAt_23 : decode cX3_frameAt 23 = .ok (.ifCond .ne 9, 3) := by decide +kernel
theorem dX3_frameAt_26 : decode cX3_frameAt 26 = .ok (.iconst 1, 1) := by decide +kernel
theorem dX3_frameAt_27 : decode cX3_frameAt 27 = .ok (.iload_n 2, 1) := by decide +kernel
theorem dX3_frameAt_28 : decode cX3_frameAt 28 = .ok (.iconst 2, 1) := by decide +kernel
theorem dX3_frameAt_29 : decode cX3_frameAt 29 = .ok (.irem, 1) := by decide +kernel
theorem dX3_frameAt_30 : decode cX3_frameAt 30 = .ok (.isub, 1) := by decide +kernel
theorem dX3_frameAt_31 : decode cX3_frameAt 31 = .ok (.ireturn, 1) := by decide +kernel
theorem dX3_frameAt_32 : decode cX3_frameAt 32 = .ok (.iload_n 2, 1) := by decide +kernel
theorem dX3_frameAt_33 : decode cX3_frameAt 33 = .ok (.bipush 11, 2) := by decide +kernel
theorem dX3_frameAt_35 : decode cX3_frameAt 35 = .ok (.if_icmp .ne 11, 3) := by decide +kernel
theorem dX3_frameAt_38 : decode cX3_frameAt 38 = .ok (.iconst 1, 1) := by decide +kernel
theorem dX3_frameAt_39 : decode cX3_frameAt 39 = .ok (.iload_n 1, 1) := by decide +kernel
theorem dX3_frameAt_40 : decode cX3_frameAt 40 = .ok (.iconst 2, 1) := by decide +kernel
theorem dX3_frameAt_41 : decode cX3_frameAt 41 = .ok (.irem, 1) := by decide +kernel
theorem dX3_frameAt_42 : decode cX3_frameAt 42 = .ok (.isub, 1) := by decide +kernel
theorem dX3_frameAt_43 : decode cX3_frameAt 43 = .ok (.goto 4, 3) := by decide +kernel
theorem dX3_frameAt_46 : decode cX3_frameAt 46 = .ok (.iconst (-1), 1) := by decide +kernel
theorem dX3_frameAt_47 : decode cX3_frameAt 47 = .ok (.ireturn, 1) := by decide +kernel
theorem dX3_placeOf_0 : decode cX3_placeOf 0 = .ok (.iconst 1, 1) := by decide +kernel
theorem dX3_placeOf_1 : decode cX3_placeOf 1 = .ok (.iload_n 0, 1) := by decide +kernel
theorem dX3_placeOf_2 : decode cX3_placeOf 2 = .ok (.bipush 10, 2) := by decide +kernel
theorem dX3_placeOf_4 : decode cX3_placeOf 4 = .ok (.idiv, 1) := by decide +kernel
theorem dX3_placeOf_5 : decode cX3_placeOf 5 = .ok (.iadd, 1) := by decide +kernel
theorem dX3_placeOf_6 : decode cX3_placeOf 6 = .ok (.bipush 12, 2) := by decide +kernel
theorem dX3_placeOf_8 : decode cX3_placeOf 8 = .ok (.imul, 1) := by decide +kernel
theorem dX3_placeOf_9 : decode cX3_placeOf 9 = .ok (.iconst 1, 1) := by decide +kernel
theorem dX3_placeOf_10 : decode cX3_placeOf 10 = .ok (.iadd, 1) := by decide +kernel
theorem dX3_placeOf_11 : decode cX3_placeOf 11 = .ok (.iload_n 0, 1) := by decide +kernel
theorem dX3_placeOf_12 : decode cX3_placeOf 12 = .ok (.bipush 10, 2) := by decide +kernel
theorem dX3_placeOf_14 : decode cX3_placeOf 14 = .ok (.irem, 1) := by decide +kernel
theorem dX3_placeOf_15 : decode cX3_placeOf 15 = .ok (.iadd, 1) := by decide +kernel
theorem dX3_placeOf_16 : decode cX3_placeOf 16 = .ok (.ireturn, 1) := by decide +kernel
theorem dX3_isTurned_0 : decode cX3_isTurned 0 = .ok (.iload_n 0, 1) := by decide +kernel
theorem dX3_isTurned_1 : decode cX3_isTurned 1 = .ok (.bipush 12, 2) := by decide +kernel
theorem dX3_isTurned_3 : decode cX3_isTurned 3 = .ok (.idiv, 1) := by decide +kernel
theorem dX3_isTurned_4 : decode cX3_isTurned 4 = .ok (.istore_n 2, 1) := by decide +kernel
theorem dX3_isTurned_5 : decode cX3_isTurned 5 = .ok (.iload_n 0, 1) := by decide +kernel
theorem dX3_isTurned_6 : decode cX3_isTurned 6 = .ok (.bipush 12, 2) := by decide +kernel
theorem dX3_isTurned_8 : decode cX3_isTurned 8 = .ok (.irem, 1) := by decide +kernel
theorem dX3_isTurned_9 : decode cX3_isTurned 9 = .ok (.istore_n 3, 1) := by decide +kernel
theorem dX3_isTurned_10 : decode cX3_isTurned 10 = .ok (.iload_n 1, 1) := by decide +kernel
theorem dX3_isTurned_11 : decode cX3_isTurned 11 = .ok (.tableswitch 63 0 2 #[25, 39, 51], 25) := by decide +kernel
theorem dX3_isTurned_36 : decode cX3_isTurned 36 = .ok (.iload_n 3, 1) := by decide +kernel
theorem dX3_isTurned_37 : decode cX3_isTurned 37 = .ok (.iload_n 2, 1) := by decide +kernel
theorem dX3_isTurned_38 : decode cX3_isTurned 38 = .ok (.iadd, 1) := by decide +kernel
theorem dX3_isTurned_39 : decode cX3_isTurned 39 = .ok (.iconst 2, 1) := by decide +kernel
theorem dX3_isTurned_40 : decode cX3_isTurned 40 = .ok (.irem, 1) := by decide +kernel
theorem dX3_isTurned_41 : decode cX3_isTurned 41 = .ok (.ifCond .ne 7, 3) := by decide +kernel
theorem dX3_isTurned_44 : decode cX3_isTurned 44 = .ok (.iconst 1, 1) := by decide +kernel
theorem dX3_isTurned_45 : decode cX3_isTurned 45 = .ok (.goto 4, 3) := by decide +kernel
theorem dX3_isTurned_48 : decode cX3_isTurned 48 = .ok (.iconst 0, 1) := by decide +kernel
theorem dX3_isTurned_49 : decode cX3_isTurned 49 = .ok (.ireturn, 1) := by decide +kernel
theorem dX3_isTurned_50 : decode cX3_isTurned 50 = .ok (.iload_n 2, 1) := by decide +kernel
theorem dX3_isTurned_51 : decode cX3_isTurned 51 = .ok (.iconst 2, 1) := by decide +kernel
theorem dX3_isTurned_52 : decode cX3_isTurned 52 = .ok (.irem, 1) := by decide +kernel
theorem dX3_isTurned_53 : decode cX3_isTurned 53 = .ok (.ifCond .ne 7, 3) := by decide +kernel
theorem dX3_isTurned_56 : decode cX3_isTurned 56 = .ok (.iconst 1, 1) := by decide +kernel
theorem dX3_isTurned_57 : decode cX3_isTurned 57 = .ok (.goto 4, 3) := by decide +kernel
theorem dX3_isTurned_60 : decode cX3_isTurned 60 = .ok (.iconst 0, 1) := by decide +kernel
theorem dX3_isTurned_61 : decode cX3_isTurned 61 = .ok (.ireturn, 1) := by decide +kernel
theorem dX3_isTurned_62 : decode cX3_isTurned 62 = .ok (.iload_n 3, 1) := by decide +kernel
theorem dX3_isTurned_63 : decode cX3_isTurned 63 = .ok (.iconst 3, 1) := by decide +kernel
theorem dX3_isTurned_64 : decode cX3_isTurned 64 = .ok (.irem, 1) := by decide +kernel
theorem dX3_isTurned_65 : decode cX3_isTurned 65 = .ok (.ifCond .ne 7, 3) := by decide +kernel
theorem dX3_isTurned_68 : decode cX3_isTurned 68 = .ok (.iconst 1, 1) := by decide +kernel
theorem dX3_isTurned_69 : decode cX3_isTurned 69 = .ok (.goto 4, 3) := by decide +kernel
theorem dX3_isTurned_72 : decode cX3_isTurned 72 = .ok (.iconst 0, 1) := by decide +kernel
theorem dX3_isTurned_73 : decode cX3_isTurned 73 = .ok (.ireturn, 1) := by decide +kernel
theorem dX3_isTurned_74 : decode cX3_isTurned 74 = .ok (.iload_n 3, 1) := by decide +kernel
theorem dX3_isTurned_75 : decode cX3_isTurned 75 = .ok (.iload_n 2, 1) := by decide +kernel
theorem dX3_isTurned_76 : decode cX3_isTurned 76 = .ok (.imul, 1) := by decide +kernel
theorem dX3_isTurned_77 : decode cX3_isTurned 77 = .ok (.iconst 3, 1) := by decide +kernel
theorem dX3_isTurned_78 : decode cX3_isTurned 78 = .ok (.irem, 1) := by decide +kernel
theorem dX3_isTurned_79 : decode cX3_isTurned 79 = .ok (.ifCond .ne 7, 3) := by decide +kernel
theorem dX3_isTurned_82 : decode cX3_isTurned 82 = .ok (.iconst 1, 1) := by decide +kernel
theorem dX3_isTurned_83 : decode cX3_isTurned 83 = .ok (.goto 4, 3) := by decide +kernel
theorem dX3_isTurned_86 : decode cX3_isTurned 86 = .ok (.iconst 0, 1) := by decide +kernel
theorem dX3_isTurned_87 : decode cX3_isTurned 87 = .ok (.ireturn, 1) := by decide +kernel
set_option maxRecDepth 20000 in
theorem ggX3_drawMask_X3_placeOf : GoodIn wsX3_drawMask wsX3_placeOf := goodIn_r _ [4] (by decide +kernel) (by decide +kernel)
set_option maxRecDepth 20000 in
theorem gX3_drawMask_X3_placeOf : GoodIn wsX3_drawMask (va_wsS RX3 11 yX3_placeOf wsX3_placeOf) := goodIn_app (goodIn_of _ (by decide +kernel)) ggX3_drawMask_X3_placeOf
set_option maxRecDepth 20000 in
theorem ggX3_drawMask_X3_signBit : GoodIn wsX3_drawMask wsX3_signBit := goodIn_r _ [7, 8] (by decide +kernel) (by decide +kernel)
set_option maxRecDepth 20000 in
theorem gX3_drawMask_X3_signBit : GoodIn wsX3_drawMask (va_wsS RX3 15 yX3_signBit wsX3_signBit) := goodIn_app (goodIn_of _ (by decide +kernel)) ggX3_drawMask_X3_signBit
theorem dX3_drawMask_0 : decode cX3_drawMask 0 = .ok (.iconst 0, 1) := by decide +kernel
theorem dX3_drawMask_1 : decode cX3_drawMask 1 = .ok (.istore_n 2, 1) := by decide +kernel
theorem dX3_drawMask_2 : decode cX3_drawMask 2 = .ok (.iload_n 2, 1) := by decide +kernel
theorem dX3_drawMask_3 : decode cX3_drawMask 3 = .ok (.iconst 4, 1) := by decide +kernel
theorem dX3_drawMask_4 : decode cX3_drawMask 4 = .ok (.if_icmp .ge 23, 3) := by decide +kernel
theorem dX3_drawMask_7 : decode cX3_drawMask 7 = .ok (.aload_n 1, 1) := by decide +kernel
theorem dX3_drawMask_8 : decode cX3_drawMask 8 = .ok (.bipush 96, 2) := by decide +kernel
theorem dX3_drawMask_10 : decode cX3_drawMask 10 = .ok (.iload_n 2, 1) := by decide +kernel
theorem dX3_drawMask_11 : decode cX3_drawMask 11 = .ok (.iadd, 1) := by decide +kernel
theorem dX3_drawMask_12 : decode cX3_drawMask 12 = .ok (.invokestatic 11, 3) := by decide +kernel
theorem dX3_drawMask_15 : decode cX3_drawMask 15 = .ok (.iload_n 0, 1) := by decide +kernel
theorem dX3_drawMask_16 : decode cX3_drawMask 16 = .ok (.iload_n 2, 1) := by decide +kernel
theorem dX3_drawMask_17 : decode cX3_drawMask 17 = .ok (.invokestatic 15, 3) := by decide +kernel
theorem dX3_drawMask_20 : decode cX3_drawMask 20 = .ok (.iastore, 1) := by decide +kernel
theorem dX3_drawMask_21 : decode cX3_drawMask 21 = .ok (.iinc 2 1, 3) := by decide +kernel
theorem dX3_drawMask_24 : decode cX3_drawMask 24 = .ok (.goto (-22), 3) := by decide +kernel
theorem dX3_drawMask_27 : decode cX3_drawMask 27 = .ok (.return_, 1) := by decide +kernel
set_option maxRecDepth 20000 in
theorem ggX3_nearestMask_X3_placeOf : GoodIn wsX3_nearestMask wsX3_placeOf := goodIn_r _ [4] (by decide +kernel) (by decide +kernel)
set_option maxRecDepth 20000 in
theorem gX3_nearestMask_X3_placeOf : GoodIn wsX3_nearestMask (va_wsS RX3 11 yX3_placeOf wsX3_placeOf) := goodIn_app (goodIn_of _ (by decide +kernel)) ggX3_nearestMask_X3_placeOf
set_option maxRecDepth 20000 in
theorem ggX3_nearestMask_X3_signBit : GoodIn wsX3_nearestMask wsX3_signBit := goodIn_r _ [7, 8] (by decide +kernel) (by decide +kernel)
set_option maxRecDepth 20000 in
theorem gX3_nearestMask_X3_signBit : GoodIn wsX3_nearestMask (va_wsS RX3 15 yX3_signBit wsX3_signBit) := goodIn_app (goodIn_of _ (by decide +kernel)) ggX3_nearestMask_X3_signBit
theorem dX3_nearestMask_0 : decode cX3_nearestMask 0 = .ok (.iconst 0, 1) := by decide +kernel
theorem dX3_nearestMask_1 : decode cX3_nearestMask 1 = .ok (.istore_n 1, 1) := by decide +kernel
theorem dX3_nearestMask_2 : decode cX3_nearestMask 2 = .ok (.iconst 5, 1) := by decide +kernel
theorem dX3_nearestMask_3 : decode cX3_nearestMask 3 = .ok (.istore_n 2, 1) := by decide +kernel
theorem dX3_nearestMask_4 : decode cX3_nearestMask 4 = .ok (.iconst 0, 1) := by decide +kernel
theorem dX3_nearestMask_5 : decode cX3_nearestMask 5 = .ok (.istore_n 3, 1) := by decide +kernel
theorem dX3_nearestMask_6 : decode cX3_nearestMask 6 = .ok (.iload_n 3, 1) := by decide +kernel
theorem dX3_nearestMask_7 : decode cX3_nearestMask 7 = .ok (.iconst 4, 1) := by decide +kernel
theorem dX3_nearestMask_8 : decode cX3_nearestMask 8 = .ok (.if_icmp .ge 77, 3) := by decide +kernel
theorem dX3_nearestMask_11 : decode cX3_nearestMask 11 = .ok (.iconst 0, 1) := by decide +kernel
theorem dX3_nearestMask_12 : decode cX3_nearestMask 12 = .ok (.istore 4, 2) := by decide +kernel
theorem dX3_nearestMask_14 : decode cX3_nearestMask 14 = .ok (.iconst 0, 1) := by decide +kernel
theorem dX3_nearestMask_15 : decode cX3_nearestMask 15 = .ok (.istore 5, 2) := by decide +kernel
theorem dX3_nearestMask_17 : decode cX3_nearestMask 17 = .ok (.iload 5, 2) := by decide +kernel
theorem dX3_nearestMask_19 : decode cX3_nearestMask 19 = .ok (.iconst 4, 1) := by decide +kernel
theorem dX3_nearestMask_20 : decode cX3_nearestMask 20 = .ok (.if_icmp .ge 48, 3) := by decide +kernel
theorem dX3_nearestMask_23 : decode cX3_nearestMask 23 = .ok (.aload_n 0, 1) := by decide +kernel
theorem dX3_nearestMask_24 : decode cX3_nearestMask 24 = .ok (.bipush 96, 2) := by decide +kernel
theorem dX3_nearestMask_26 : decode cX3_nearestMask 26 = .ok (.iload 5, 2) := by decide +kernel
theorem dX3_nearestMask_28 : decode cX3_nearestMask 28 = .ok (.iadd, 1) := by decide +kernel
theorem dX3_nearestMask_29 : decode cX3_nearestMask 29 = .ok (.invokestatic 11, 3) := by decide +kernel
theorem dX3_nearestMask_32 : decode cX3_nearestMask 32 = .ok (.iaload, 1) := by decide +kernel
theorem dX3_nearestMask_33 : decode cX3_nearestMask 33 = .ok (.istore 6, 2) := by decide +kernel
theorem dX3_nearestMask_35 : decode cX3_nearestMask 35 = .ok (.iload 4, 2) := by decide +kernel
theorem dX3_nearestMask_37 : decode cX3_nearestMask 37 = .ok (.iload 6, 2) := by decide +kernel
theorem dX3_nearestMask_39 : decode cX3_nearestMask 39 = .ok (.iconst (-1), 1) := by decide +kernel
theorem dX3_nearestMask_40 : decode cX3_nearestMask 40 = .ok (.if_icmp .eq 18, 3) := by decide +kernel
theorem dX3_nearestMask_43 : decode cX3_nearestMask 43 = .ok (.iload 6, 2) := by decide +kernel
theorem dX3_nearestMask_45 : decode cX3_nearestMask 45 = .ok (.iload_n 3, 1) := by decide +kernel
theorem dX3_nearestMask_46 : decode cX3_nearestMask 46 = .ok (.iload 5, 2) := by decide +kernel
theorem dX3_nearestMask_48 : decode cX3_nearestMask 48 = .ok (.invokestatic 15, 3) := by decide +kernel
theorem dX3_nearestMask_51 : decode cX3_nearestMask 51 = .ok (.if_icmp .eq 7, 3) := by decide +kernel
theorem dX3_nearestMask_54 : decode cX3_nearestMask 54 = .ok (.iconst 1, 1) := by decide +kernel
theorem dX3_nearestMask_55 : decode cX3_nearestMask 55 = .ok (.goto 4, 3) := by decide +kernel
theorem dX3_nearestMask_58 : decode cX3_nearestMask 58 = .ok (.iconst 0, 1) := by decide +kernel
theorem dX3_nearestMask_59 : decode cX3_nearestMask 59 = .ok (.iadd, 1) := by decide +kernel
theorem dX3_nearestMask_60 : decode cX3_nearestMask 60 = .ok (.istore 4, 2) := by decide +kernel
theorem dX3_nearestMask_62 : decode cX3_nearestMask 62 = .ok (.iinc 5 1, 3) := by decide +kernel
theorem dX3_nearestMask_65 : decode cX3_nearestMask 65 = .ok (.goto (-48), 3) := by decide +kernel
theorem dX3_nearestMask_68 : decode cX3_nearestMask 68 = .ok (.iload 4, 2) := by decide +kernel
theorem dX3_nearestMask_70 : decode cX3_nearestMask 70 = .ok (.iload_n 2, 1) := by decide +kernel
theorem dX3_nearestMask_71 : decode cX3_nearestMask 71 = .ok (.if_icmp .ge 8, 3) := by decide +kernel
theorem dX3_nearestMask_74 : decode cX3_nearestMask 74 = .ok (.iload 4, 2) := by decide +kernel
theorem dX3_nearestMask_76 : decode cX3_nearestMask 76 = .ok (.istore_n 2, 1) := by decide +kernel
theorem dX3_nearestMask_77 : decode cX3_nearestMask 77 = .ok (.iload_n 3, 1) := by decide +kernel
theorem dX3_nearestMask_78 : decode cX3_nearestMask 78 = .ok (.istore_n 1, 1) := by decide +kernel
theorem dX3_nearestMask_79 : decode cX3_nearestMask 79 = .ok (.iinc 3 1, 3) := by decide +kernel
theorem dX3_nearestMask_82 : decode cX3_nearestMask 82 = .ok (.goto (-76), 3) := by decide +kernel
theorem dX3_nearestMask_85 : decode cX3_nearestMask 85 = .ok (.iload_n 1, 1) := by decide +kernel
theorem dX3_nearestMask_86 : decode cX3_nearestMask 86 = .ok (.ireturn, 1) := by decide +kernel
theorem dX3_signBit_0 : decode cX3_signBit 0 = .ok (.iload_n 0, 1) := by decide +kernel
theorem dX3_signBit_1 : decode cX3_signBit 1 = .ok (.ifCond .lt 8, 3) := by decide +kernel
theorem dX3_signBit_4 : decode cX3_signBit 4 = .ok (.iload_n 0, 1) := by decide +kernel
theorem dX3_signBit_5 : decode cX3_signBit 5 = .ok (.iconst 4, 1) := by decide +kernel
theorem dX3_signBit_6 : decode cX3_signBit 6 = .ok (.if_icmp .lt 7, 3) := by decide +kernel
theorem dX3_signBit_9 : decode cX3_signBit 9 = .ok (.iconst 0, 1) := by decide +kernel
theorem dX3_signBit_10 : decode cX3_signBit 10 = .ok (.goto 14, 3) := by decide +kernel
theorem dX3_signBit_13 : decode cX3_signBit 13 = .ok (.getstatic 21, 3) := by decide +kernel
theorem dX3_signBit_16 : decode cX3_signBit 16 = .ok (.iload_n 0, 1) := by decide +kernel
theorem dX3_signBit_17 : decode cX3_signBit 17 = .ok (.iaload, 1) := by decide +kernel
theorem dX3_signBit_18 : decode cX3_signBit 18 = .ok (.iconst 3, 1) := by decide +kernel
theorem dX3_signBit_19 : decode cX3_signBit 19 = .ok (.iload_n 1, 1) := by decide +kernel
theorem dX3_signBit_20 : decode cX3_signBit 20 = .ok (.isub, 1) := by decide +kernel
theorem dX3_signBit_21 : decode cX3_signBit 21 = .ok (.ishr, 1) := by decide +kernel
theorem dX3_signBit_22 : decode cX3_signBit 22 = .ok (.iconst 1, 1) := by decide +kernel
theorem dX3_signBit_23 : decode cX3_signBit 23 = .ok (.iand, 1) := by decide +kernel
theorem dX3_signBit_24 : decode cX3_signBit 24 = .ok (.ireturn, 1) := by decide +kernel
set_option maxRecDepth 20000 in
theorem ggX3_penalty_X3_runPenalty : GoodIn wsX3_penalty wsX3_runPenalty := goodIn_r _ [8] (by decide +kernel) (by decide +kernel)
set_option maxRecDepth 20000 in
theorem gX3_penalty_X3_runPenalty : GoodIn wsX3_penalty (va_wsS RX3 25 yX3_runPenalty wsX3_runPenalty) := goodIn_app (goodIn_of _ (by decide +kernel)) ggX3_penalty_X3_runPenalty
set_option maxRecDepth 20000 in
theorem ggX3_penalty_X3_startsBlock : GoodIn wsX3_penalty wsX3_startsBlock := goodIn_r _ [11] (by decide +kernel) (by decide +kernel)
set_option maxRecDepth 20000 in
theorem gX3_penalty_X3_startsBlock : GoodIn wsX3_penalty (va_wsS RX3 29 yX3_startsBlock wsX3_startsBlock) := goodIn_app (goodIn_of _ (by decide +kernel)) ggX3_penalty_X3_startsBlock
theorem dX3_penalty_0 : decode cX3_penalty 0 = .ok (.iconst 0, 1) := by decide +kernel
theorem dX3_penalty_1 : decode cX3_penalty 1 = .ok (.istore_n 1, 1) := by decide +kernel
theorem dX3_penalty_2 : decode cX3_penalty 2 = .ok (.iconst 0, 1) := by decide +kernel
theorem dX3_penalty_3 : decode cX3_penalty 3 = .ok (.istore_n 2, 1) := by decide +kernel
theorem dX3_penalty_4 : decode cX3_penalty 4 = .ok (.iconst 0, 1) := by decide +kernel
theorem dX3_penalty_5 : decode cX3_penalty 5 = .ok (.istore_n 3, 1) := by decide +kernel
theorem dX3_penalty_6 : decode cX3_penalty 6 = .ok (.iload_n 3, 1) := by decide +kernel
theorem dX3_penalty_7 : decode cX3_penalty 7 = .ok (.bipush 12, 2) := by decide +kernel
theorem dX3_penalty_9 : decode cX3_penalty 9 = .ok (.if_icmp .ge 29, 3) := by decide +kernel
theorem dX3_penalty_12 : decode cX3_penalty 12 = .ok (.iload_n 1, 1) := by decide +kernel
theorem dX3_penalty_13 : decode cX3_penalty 13 = .ok (.aload_n 0, 1) := by decide +kernel
theorem dX3_penalty_14 : decode cX3_penalty 14 = .ok (.iload_n 3, 1) := by decide +kernel
theorem dX3_penalty_15 : decode cX3_penalty 15 = .ok (.bipush 12, 2) := by decide +kernel
theorem dX3_penalty_17 : decode cX3_penalty 17 = .ok (.imul, 1) := by decide +kernel
theorem dX3_penalty_18 : decode cX3_penalty 18 = .ok (.iconst 1, 1) := by decide +kernel
theorem dX3_penalty_19 : decode cX3_penalty 19 = .ok (.invokestatic 25, 3) := by decide +kernel
theorem dX3_penalty_22 : decode cX3_penalty 22 = .ok (.aload_n 0, 1) := by decide +kernel
theorem dX3_penalty_23 : decode cX3_penalty 23 = .ok (.iload_n 3, 1) := by decide +kernel
theorem dX3_penalty_24 : decode cX3_penalty 24 = .ok (.bipush 12, 2) := by decide +kernel
theorem dX3_penalty_26 : decode cX3_penalty 26 = .ok (.invokestatic 25, 3) := by decide +kernel
theorem dX3_penalty_29 : decode cX3_penalty 29 = .ok (.iadd, 1) := by decide +kernel
theorem dX3_penalty_30 : decode cX3_penalty 30 = .ok (.iadd, 1) := by decide +kernel
theorem dX3_penalty_31 : decode cX3_penalty 31 = .ok (.istore_n 1, 1) := by decide +kernel
theorem dX3_penalty_32 : decode cX3_penalty 32 = .ok (.iinc 3 1, 3) := by decide +kernel
theorem dX3_penalty_35 : decode cX3_penalty 35 = .ok (.goto (-29), 3) := by decide +kernel
theorem dX3_penalty_38 : decode cX3_penalty 38 = .ok (.iconst 0, 1) := by decide +kernel
theorem dX3_penalty_39 : decode cX3_penalty 39 = .ok (.istore_n 3, 1) := by decide +kernel
theorem dX3_penalty_40 : decode cX3_penalty 40 = .ok (.iload_n 3, 1) := by decide +kernel
theorem dX3_penalty_41 : decode cX3_penalty 41 = .ok (.sipush 144, 3) := by decide +kernel
theorem dX3_penalty_44 : decode cX3_penalty 44 = .ok (.if_icmp .ge 31, 3) := by decide +kernel
theorem dX3_penalty_47 : decode cX3_penalty 47 = .ok (.iload_n 1, 1) := by decide +kernel
theorem dX3_penalty_48 : decode cX3_penalty 48 = .ok (.aload_n 0, 1) := by decide +kernel
theorem dX3_penalty_49 : decode cX3_penalty 49 = .ok (.iload_n 3, 1) := by decide +kernel
theorem dX3_penalty_50 : decode cX3_penalty 50 = .ok (.invokestatic 29, 3) := by decide +kernel
theorem dX3_penalty_53 : decode cX3_penalty 53 = .ok (.ifCond .eq 7, 3) := by decide +kernel
theorem dX3_penalty_56 : decode cX3_penalty 56 = .ok (.iconst 3, 1) := by decide +kernel
theorem dX3_penalty_57 : decode cX3_penalty 57 = .ok (.goto 4, 3) := by decide +kernel
theorem dX3_penalty_60 : decode cX3_penalty 60 = .ok (.iconst 0, 1) := by decide +kernel
theorem dX3_penalty_61 : decode cX3_penalty 61 = .ok (.iadd, 1) := by decide +kernel
theorem dX3_penalty_62 : decode cX3_penalty 62 = .ok (.istore_n 1, 1) := by decide +kernel
theorem dX3_penalty_63 : decode cX3_penalty 63 = .ok (.iload_n 2, 1) := by decide +kernel
theorem dX3_penalty_64 : decode cX3_penalty 64 = .ok (.aload_n 0, 1) := by decide +kernel
theorem dX3_penalty_65 : decode cX3_penalty 65 = .ok (.iload_n 3, 1) := by decide +kernel
theorem dX3_penalty_66 : decode cX3_penalty 66 = .ok (.iaload, 1) := by decide +kernel
theorem dX3_penalty_67 : decode cX3_penalty 67 = .ok (.iadd, 1) := by decide +kernel
theorem dX3_penalty_68 : decode cX3_penalty 68 = .ok (.istore_n 2, 1) := by decide +kernel
theorem dX3_penalty_69 : decode cX3_penalty 69 = .ok (.iinc 3 1, 3) := by decide +kernel
theorem dX3_penalty_72 : decode cX3_penalty 72 = .ok (.goto (-32), 3) := by decide +kernel
theorem dX3_penalty_75 : decode cX3_penalty 75 = .ok (.iload_n 1, 1) := by decide +kernel
theorem dX3_penalty_76 : decode cX3_penalty 76 = .ok (.sipush 144, 3) := by decide +kernel
theorem dX3_penalty_79 : decode cX3_penalty 79 = .ok (.iconst 2, 1) := by decide +kernel
theorem dX3_penalty_80 : decode cX3_penalty 80 = .ok (.iload_n 2, 1) := by decide +kernel
theorem dX3_penalty_81 : decode cX3_penalty 81 = .ok (.imul, 1) := by decide +kernel
theorem dX3_penalty_82 : decode cX3_penalty 82 = .ok (.isub, 1) := by decide +kernel
theorem dX3_penalty_83 : decode cX3_penalty 83 = .ok (.invokestatic 33, 3) := by decide +kernel
theorem dX3_penalty_86 : decode cX3_penalty 86 = .ok (.iconst 2, 1) := by decide +kernel
theorem dX3_penalty_87 : decode cX3_penalty 87 = .ok (.idiv, 1) := by decide +kernel
theorem dX3_penalty_88 : decode cX3_penalty 88 = .ok (.iadd, 1) := by decide +kernel
theorem dX3_penalty_89 : decode cX3_penalty 89 = .ok (.ireturn, 1) := by decide +kernel
theorem dX3_runPenalty_0 : decode cX3_runPenalty 0 = .ok (.iconst 0, 1) := by decide +kernel
theorem dX3_runPenalty_1 : decode cX3_runPenalty 1 = .ok (.istore_n 3, 1) := by decide +kernel
theorem dX3_runPenalty_2 : decode cX3_runPenalty 2 = .ok (.iconst 0, 1) := by decide +kernel
theorem dX3_runPenalty_3 : decode cX3_runPenalty 3 = .ok (.istore 4, 2) := by decide +kernel
theorem dX3_runPenalty_5 : decode cX3_runPenalty 5 = .ok (.iconst 0, 1) := by decide +kernel
theorem dX3_runPenalty_6 : decode cX3_runPenalty 6 = .ok (.istore 5, 2) := by decide +kernel
theorem dX3_runPenalty_8 : decode cX3_runPenalty 8 = .ok (.iload 5, 2) := by decide +kernel
theorem dX3_runPenalty_10 : decode cX3_runPenalty 10 = .ok (.bipush 12, 2) := by decide +kernel
theorem dX3_runPenalty_12 : decode cX3_runPenalty 12 = .ok (.if_icmp .ge 72, 3) := by decide +kernel
theorem dX3_runPenalty_15 : decode cX3_runPenalty 15 = .ok (.iinc 4 1, 3) := by decide +kernel
theorem dX3_runPenalty_18 : decode cX3_runPenalty 18 = .ok (.iload_n 1, 1) := by decide +kernel
theorem dX3_runPenalty_19 : decode cX3_runPenalty 19 = .ok (.iload 5, 2) := by decide +kernel
theorem dX3_runPenalty_21 : decode cX3_runPenalty 21 = .ok (.iload_n 2, 1) := by decide +kernel
theorem dX3_runPenalty_22 : decode cX3_runPenalty 22 = .ok (.imul, 1) := by decide +kernel
theorem dX3_runPenalty_23 : decode cX3_runPenalty 23 = .ok (.iadd, 1) := by decide +kernel
theorem dX3_runPenalty_24 : decode cX3_runPenalty 24 = .ok (.istore 6, 2) := by decide +kernel
theorem dX3_runPenalty_26 : decode cX3_runPenalty 26 = .ok (.iload 5, 2) := by decide +kernel
theorem dX3_runPenalty_28 : decode cX3_runPenalty 28 = .ok (.bipush 11, 2) := by decide +kernel
theorem dX3_runPenalty_30 : decode cX3_runPenalty 30 = .ok (.if_icmp .eq 16, 3) := by decide +kernel
theorem dX3_runPenalty_33 : decode cX3_runPenalty 33 = .ok (.aload_n 0, 1) := by decide +kernel
theorem dX3_runPenalty_34 : decode cX3_runPenalty 34 = .ok (.iload 6, 2) := by decide +kernel
theorem dX3_runPenalty_36 : decode cX3_runPenalty 36 = .ok (.iaload, 1) := by decide +kernel
theorem dX3_runPenalty_37 : decode cX3_runPenalty 37 = .ok (.aload_n 0, 1) := by decide +kernel
theorem dX3_runPenalty_38 : decode cX3_runPenalty 38 = .ok (.iload 6, 2) := by decide +kernel
theorem dX3_runPenalty_40 : decode cX3_runPenalty 40 = .ok (.iload_n 2, 1) := by decide +kernel
theorem dX3_runPenalty_41 : decode cX3_runPenalty 41 = .ok (.iadd, 1) := by decide +kernel
theorem dX3_runPenalty_42 : decode cX3_runPenalty 42 = .ok (.iaload, 1) := by decide +kernel
theorem dX3_runPenalty_43 : decode cX3_runPenalty 43 = .ok (.if_icmp .eq 7, 3) := by decide +kernel
theorem dX3_runPenalty_46 : decode cX3_runPenalty 46 = .ok (.iconst 1, 1) := by decide +kernel
theorem dX3_runPenalty_47 : decode cX3_runPenalty 47 = .ok (.goto 4, 3) := by decide +kernel
theorem dX3_runPenalty_50 : decode cX3_runPenalty 50 = .ok (.iconst 0, 1) := by decide +kernel
theorem dX3_runPenalty_51 : decode cX3_runPenalty 51 = .ok (.istore 7, 2) := by decide +kernel
theorem dX3_runPenalty_53 : decode cX3_runPenalty 53 = .ok (.iload 7, 2) := by decide +kernel
theorem dX3_runPenalty_55 : decode cX3_runPenalty 55 = .ok (.ifCond .eq 23, 3) := by decide +kernel
theorem dX3_runPenalty_58 : decode cX3_runPenalty 58 = .ok (.iload_n 3, 1) := by decide +kernel
theorem dX3_runPenalty_59 : decode cX3_runPenalty 59 = .ok (.iload 4, 2) := by decide +kernel
theorem dX3_runPenalty_61 : decode cX3_runPenalty 61 = .ok (.iconst 4, 1) := by decide +kernel
theorem dX3_runPenalty_62 : decode cX3_runPenalty 62 = .ok (.if_icmp .lt 10, 3) := by decide +kernel
theorem dX3_runPenalty_65 : decode cX3_runPenalty 65 = .ok (.iload 4, 2) := by decide +kernel
theorem dX3_runPenalty_67 : decode cX3_runPenalty 67 = .ok (.iconst 2, 1) := by decide +kernel
theorem dX3_runPenalty_68 : decode cX3_runPenalty 68 = .ok (.isub, 1) := by decide +kernel
theorem dX3_runPenalty_69 : decode cX3_runPenalty 69 = .ok (.goto 4, 3) := by decide +kernel
theorem dX3_runPenalty_72 : decode cX3_runPenalty 72 = .ok (.iconst 0, 1) := by decide +kernel
theorem dX3_runPenalty_73 : decode cX3_runPenalty 73 = .ok (.iadd, 1) := by decide +kernel
theorem dX3_runPenalty_74 : decode cX3_runPenalty 74 = .ok (.istore_n 3, 1) := by decide +kernel
theorem dX3_runPenalty_75 : decode cX3_runPenalty 75 = .ok (.iconst 0, 1) := by decide +kernel
theorem dX3_runPenalty_76 : decode cX3_runPenalty 76 = .ok (.istore 4, 2) := by decide +kernel
theorem dX3_runPenalty_78 : decode cX3_runPenalty 78 = .ok (.iinc 5 1, 3) := by decide +kernel
theorem dX3_runPenalty_81 : decode cX3_runPenalty 81 = .ok (.goto (-73), 3) := by decide +kernel
theorem dX3_runPenalty_84 : decode cX3_runPenalty 84 = .ok (.iload_n 3, 1) := by decide +kernel
theorem dX3_runPenalty_85 : decode cX3_runPenalty 85 = .ok (.ireturn, 1) := by decide +kernel
theorem dX3_startsBlock_0 : decode cX3_startsBlock 0 = .ok (.iload_n 1, 1) := by decide +kernel
theorem dX3_startsBlock_1 : decode cX3_startsBlock 1 = .ok (.bipush 12, 2) := by decide +kernel
theorem dX3_startsBlock_3 : decode cX3_startsBlock 3 = .ok (.irem, 1) := by decide +kernel
theorem dX3_startsBlock_4 : decode cX3_startsBlock 4 = .ok (.bipush 11, 2) := by decide +kernel
theorem dX3_startsBlock_6 : decode cX3_startsBlock 6 = .ok (.if_icmp .eq 12, 3) := by decide +kernel
theorem dX3_startsBlock_9 : decode cX3_startsBlock 9 = .ok (.iload_n 1, 1) := by decide +kernel
theorem dX3_startsBlock_10 : decode cX3_startsBlock 10 = .ok (.bipush 12, 2) := by decide +kernel
theorem dX3_startsBlock_12 : decode cX3_startsBlock 12 = .ok (.idiv, 1) := by decide +kernel
theorem dX3_startsBlock_13 : decode cX3_startsBlock 13 = .ok (.bipush 11, 2) := by decide +kernel
theorem dX3_startsBlock_15 : decode cX3_startsBlock 15 = .ok (.if_icmp .ne 5, 3) := by decide +kernel
theorem dX3_startsBlock_18 : decode cX3_startsBlock 18 = .ok (.iconst 0, 1) := by decide +kernel
theorem dX3_startsBlock_19 : decode cX3_startsBlock 19 = .ok (.ireturn, 1) := by decide +kernel
theorem dX3_startsBlock_20 : decode cX3_startsBlock 20 = .ok (.aload_n 0, 1) := by decide +kernel
theorem dX3_startsBlock_21 : decode cX3_startsBlock 21 = .ok (.iload_n 1, 1) := by decide +kernel
theorem dX3_startsBlock_22 : decode cX3_startsBlock 22 = .ok (.iaload, 1) := by decide +kernel
theorem dX3_startsBlock_23 : decode cX3_startsBlock 23 = .ok (.istore_n 2, 1) := by decide +kernel
theorem dX3_startsBlock_24 : decode cX3_startsBlock 24 = .ok (.iload_n 2, 1) := by decide +kernel
theorem dX3_startsBlock_25 : decode cX3_startsBlock 25 = .ok (.aload_n 0, 1) := by decide +kernel
theorem dX3_startsBlock_26 : decode cX3_startsBlock 26 = .ok (.iload_n 1, 1) := by decide +kernel
theorem dX3_startsBlock_27 : decode cX3_startsBlock 27 = .ok (.iconst 1, 1) := by decide +kernel
theorem dX3_startsBlock_28 : decode cX3_startsBlock 28 = .ok (.iadd, 1) := by decide +kernel
theorem dX3_startsBlock_29 : decode cX3_startsBlock 29 = .ok (.iaload, 1) := by decide +kernel
theorem dX3_startsBlock_30 : decode cX3_startsBlock 30 = .ok (.if_icmp .ne 29, 3) := by decide +kernel
theorem dX3_startsBlock_33 : decode cX3_startsBlock 33 = .ok (.iload_n 2, 1) := by decide +kernel
theorem dX3_startsBlock_34 : decode cX3_startsBlock 34 = .ok (.aload_n 0, 1) := by decide +kernel
theorem dX3_startsBlock_35 : decode cX3_startsBlock 35 = .ok (.iload_n 1, 1) := by decide +kernel
theorem dX3_startsBlock_36 : decode cX3_startsBlock 36 = .ok (.bipush 12, 2) := by decide +kernel
theorem dX3_startsBlock_38 : decode cX3_startsBlock 38 = .ok (.iadd, 1) := by decide +kernel
theorem dX3_startsBlock_39 : decode cX3_startsBlock 39 = .ok (.iaload, 1) := by decide +kernel
theorem dX3_startsBlock_40 : decode cX3_startsBlock 40 = .ok (.if_icmp .ne 19, 3) := by decide +kernel
theorem dX3_startsBlock_43 : decode cX3_startsBlock 43 = .ok (.iload_n 2, 1) := by decide +kernel
theorem dX3_startsBlock_44 : decode cX3_startsBlock 44 = .ok (.aload_n 0, 1) := by decide +kernel
theorem dX3_startsBlock_45 : decode cX3_startsBlock 45 = .ok (.iload_n 1, 1) := by decide +kernel
theorem dX3_startsBlock_46 : decode cX3_startsBlock 46 = .ok (.bipush 12, 2) := by decide +kernel
theorem dX3_startsBlock_48 : decode cX3_startsBlock 48 = .ok (.iadd, 1) := by decide +kernel
theorem dX3_startsBlock_49 : decode cX3_startsBlock 49 = .ok (.iconst 1, 1) := by decide +kernel
theorem dX3_startsBlock_50 : decode cX3_startsBlock 50 = .ok (.iadd, 1) := by decide +kernel
theorem dX3_startsBlock_51 : decode cX3_startsBlock 51 = .ok (.iaload, 1) := by decide +kernel
theorem dX3_startsBlock_52 : decode cX3_startsBlock 52 = .ok (.if_icmp .ne 7, 3) := by decide +kernel
theorem dX3_startsBlock_55 : decode cX3_startsBlock 55 = .ok (.iconst 1, 1) := by decide +kernel
theorem dX3_startsBlock_56 : decode cX3_startsBlock 56 = .ok (.goto 4, 3) := by decide +kernel
theorem dX3_startsBlock_59 : decode cX3_startsBlock 59 = .ok (.iconst 0, 1) := by decide +kernel
theorem dX3_startsBlock_60 : decode cX3_startsBlock 60 = .ok (.ireturn, 1) := by decide +kernel
set_option maxRecDepth 20000 in
theorem ggX4_init_X4_formNumber : GoodIn wsX4_init wsX4_formNumber := goodIn_r _ [34, 35, 36] (by decide +kernel) (by decide +kernel)
set_option maxRecDepth 20000 in
theorem gX4_init_X4_formNumber : GoodIn wsX4_init (va_wsS RX4 32 yX4_formNumber wsX4_formNumber) := goodIn_app (goodIn_of _ (by decide +kernel)) ggX4_init_X4_formNumber
set_option maxRecDepth 20000 in
theorem ggX4_init_X2_init : GoodIn wsX4_init wsX2_init := goodIn_r _ [39, 40, 2, 3, 41, 42, 43, 44, 45, 46, 47, 48, 49, 50, 51, 52, 13, 53, 54, 55, 56, 57, 58, 59, 60, 61, 62, 63, 107, 108, 109, 110, 111, 112, 113, 114, 115, 116] (by decide +kernel) (by decide +kernel)
set_option maxRecDepth 20000 in
theorem gX4_init_X2_init : GoodIn wsX4_init (wsX2_init) := ggX4_init_X2_init
set_option maxRecDepth 20000 in
theorem ggX4_init_X0_init : GoodIn wsX4_init wsX0_init := goodIn_r _ [66, 67, 2, 3, 68, 69, 5, 70, 71, 72, 73, 74, 75, 76, 77, 78, 79, 80, 17, 81, 82, 83, 84, 85, 86, 87, 88, 89, 117, 118, 119, 120, 121, 122, 123, 124, 125, 126] (by decide +kernel) (by decide +kernel)
set_option maxRecDepth 20000 in
theorem gX4_init_X0_init : GoodIn wsX4_init (wsX0_init) := ggX4_init_X0_init
set_option maxRecDepth 20000 in
theorem ggX4_init_J7_fill_d0a16 : GoodIn wsX4_init wsJ7_fill_d0a16 := goodIn_r _ [93] (by decide +kernel) (by decide +kernel)
set_option maxRecDepth 20000 in
theorem gX4_init_J7_fill_d0a16 : GoodIn wsX4_init (va_wsS RX4 70 yJ7_fill_d0a16 wsJ7_fill_d0a16) := goodIn_app (goodIn_of _ (by decide +kernel)) ggX4_init_J7_fill_d0a16
theorem dX4_init_0 : decode cX4_init 0 = .ok (.aload_n 0, 1) := by decide +kernel
theorem dX4_init_1 : decode cX4_init 1 = .ok (.invokespecial 1, 3) := by decide +kernel
theorem dX4_init_4 : decode cX4_init 4 = .ok (.aload_n 0, 1) := by decide +kernel
theorem dX4_init_5 : decode cX4_init 5 = .ok (.iconst 0, 1) := by decide +kernel
theorem dX4_init_6 : decode cX4_init 6 = .ok (.putfield 7, 3) := by decide +kernel
theorem dX4_init_9 : decode cX4_init 9 = .ok (.aload_n 0, 1) := by decide +kernel
theorem dX4_init_10 : decode cX4_init 10 = .ok (.sipush 200, 3) := by decide +kernel
theorem dX4_init_13 : decode cX4_init 13 = .ok (.newarray .int, 2) := by decide +kernel
theorem dX4_init_15 : decode cX4_init 15 = .ok (.putfield 13, 3) := by decide +kernel
theorem dX4_init_18 : decode cX4_init 18 = .ok (.aload_n 0, 1) := by decide +kernel
theorem dX4_init_19 : decode cX4_init 19 = .ok (.iconst 0, 1) := by decide +kernel
theorem dX4_init_20 : decode cX4_init 20 = .ok (.putfield 17, 3) := by decide +kernel
theorem dX4_init_23 : decode cX4_init 23 = .ok (.aload_n 0, 1) := by decide +kernel
theorem dX4_init_24 : decode cX4_init 24 = .ok (.iconst (-1), 1) := by decide +kernel
theorem dX4_init_25 : decode cX4_init 25 = .ok (.putfield 21, 3) := by decide +kernel
theorem dX4_init_28 : decode cX4_init 28 = .ok (.aload_n 0, 1) := by decide +kernel
theorem dX4_init_29 : decode cX4_init 29 = .ok (.iconst 0, 1) := by decide +kernel
theorem dX4_init_30 : decode cX4_init 30 = .ok (.putfield 24, 3) := by decide +kernel
theorem dX4_init_33 : decode cX4_init 33 = .ok (.aload_n 0, 1) := by decide +kernel
theorem dX4_init_34 : decode cX4_init 34 = .ok (.iconst (-1), 1) := by decide +kernel
theorem dX4_init_35 : decode cX4_init 35 = .ok (.putfield 27, 3) := by decide +kernel
theorem dX4_init_38 : decode cX4_init 38 = .ok (.aload_n 0, 1) := by decide +kernel
theorem dX4_init_39 : decode cX4_init 39 = .ok (.new 30, 3) := by decide +kernel
theorem dX4_init_42 : decode cX4_init 42 = .ok (.dup, 1) := by decide +kernel
theorem dX4_init_43 : decode cX4_init 43 = .ok (.iload_n 1, 1) := by decide +kernel
theorem dX4_init_44 : decode cX4_init 44 = .ok (.invokestatic 32, 3) := by decide +kernel
theorem dX4_init_47 : decode cX4_init 47 = .ok (.invokespecial 36, 3) := by decide +kernel
theorem dX4_init_50 : decode cX4_init 50 = .ok (.putfield 39, 3) := by decide +kernel
theorem dX4_init_53 : decode cX4_init 53 = .ok (.aload_n 0, 1) := by decide +kernel
theorem dX4_init_54 : decode cX4_init 54 = .ok (.new 43, 3) := by decide +kernel
theorem dX4_init_57 : decode cX4_init 57 = .ok (.dup, 1) := by decide +kernel
theorem dX4_init_58 : decode cX4_init 58 = .ok (.aload_n 0, 1) := by decide +kernel
theorem dX4_init_59 : decode cX4_init 59 = .ok (.getfield 39, 3) := by decide +kernel
theorem dX4_init_62 : decode cX4_init 62 = .ok (.getfield 45, 3) := by decide +kernel
theorem dX4_init_65 : decode cX4_init 65 = .ok (.aload_n 0, 1) := by decide +kernel
theorem dX4_init_66 : decode cX4_init 66 = .ok (.getfield 39, 3) := by decide +kernel
theorem dX4_init_69 : decode cX4_init 69 = .ok (.getfield 48, 3) := by decide +kernel
theorem dX4_init_72 : decode cX4_init 72 = .ok (.invokespecial 51, 3) := by decide +kernel
theorem dX4_init_75 : decode cX4_init 75 = .ok (.putfield 54, 3) := by decide +kernel
theorem dX4_init_78 : decode cX4_init 78 = .ok (.aload_n 0, 1) := by decide +kernel
theorem dX4_init_79 : decode cX4_init 79 = .ok (.aload_n 0, 1) := by decide +kernel
theorem dX4_init_80 : decode cX4_init 80 = .ok (.getfield 39, 3) := by decide +kernel
theorem dX4_init_83 : decode cX4_init 83 = .ok (.getfield 58, 3) := by decide +kernel
theorem dX4_init_86 : decode cX4_init 86 = .ok (.arraylength, 1) := by decide +kernel
theorem dX4_init_87 : decode cX4_init 87 = .ok (.newarray .long, 2) := by decide +kernel
theorem dX4_init_89 : decode cX4_init 89 = .ok (.putfield 61, 3) := by decide +kernel
theorem dX4_init_92 : decode cX4_init 92 = .ok (.aload_n 0, 1) := by decide +kernel
theorem dX4_init_93 : decode cX4_init 93 = .ok (.aload_n 0, 1) := by decide +kernel
theorem dX4_init_94 : decode cX4_init 94 = .ok (.getfield 39, 3) := by decide +kernel
theorem dX4_init_97 : decode cX4_init 97 = .ok (.getfield 58, 3) := by decide +kernel
theorem dX4_init_100 : decode cX4_init 100 = .ok (.arraylength, 1) := by decide +kernel
theorem dX4_init_101 : decode cX4_init 101 = .ok (.newarray .long, 2) := by decide +kernel
theorem dX4_init_103 : decode cX4_init 103 = .ok (.putfield 65, 3) := by decide +kernel
theorem dX4_init_106 : decode cX4_init 106 = .ok (.aload_n 0, 1) := by decide +kernel
theorem dX4_init_107 : decode cX4_init 107 = .ok (.getfield 61, 3) := by decide +kernel
theorem dX4_init_110 : decode cX4_init 110 = .ok (.ldc2_w 68, 3) := by decide +kernel
theorem dX4_init_113 : decode cX4_init 113 = .ok (.invokestatic 70, 3) := by decide +kernel
theorem dX4_init_116 : decode cX4_init 116 = .ok (.aload_n 0, 1) := by decide +kernel
theorem dX4_init_117 : decode cX4_init 117 = .ok (.getfield 65, 3) := by decide +kernel
theorem dX4_init_120 : decode cX4_init 120 = .ok (.ldc2_w 68, 3) := by decide +kernel
theorem dX4_init_123 : decode cX4_init 123 = .ok (.invokestatic 70, 3) := by decide +kernel
theorem dX4_init_126 : decode cX4_init 126 = .ok (.aload_n 0, 1) := by decide +kernel
theorem dX4_init_127 : decode cX4_init 127 = .ok (.aload_n 0, 1) := by decide +kernel
theorem dX4_init_128 : decode cX4_init 128 = .ok (.getfield 39, 3) := by decide +kernel
theorem dX4_init_131 : decode cX4_init 131 = .ok (.getfield 76, 3) := by decide +kernel
theorem dX4_init_134 : decode cX4_init 134 = .ok (.newarray .int, 2) := by decide +kernel
theorem dX4_init_136 : decode cX4_init 136 = .ok (.putfield 79, 3) := by decide +kernel
theorem dX4_init_139 : decode cX4_init 139 = .ok (.aload_n 0, 1) := by decide +kernel
theorem dX4_init_140 : decode cX4_init 140 = .ok (.aload_n 0, 1) := by decide +kernel
theorem dX4_init_141 : decode cX4_init 141 = .ok (.getfield 39, 3) := by decide +kernel
theorem dX4_init_144 : decode cX4_init 144 = .ok (.getfield 45, 3) := by decide +kernel
theorem dX4_init_147 : decode cX4_init 147 = .ok (.newarray .int, 2) := by decide +kernel
theorem dX4_init_149 : decode cX4_init 149 = .ok (.putfield 82, 3) := by decide +kernel
theorem dX4_init_152 : decode cX4_init 152 = .ok (.aload_n 0, 1) := by decide +kernel
theorem dX4_init_153 : decode cX4_init 153 = .ok (.aload_n 0, 1) := by decide +kernel
theorem dX4_init_154 : decode cX4_init 154 = .ok (.getfield 39, 3) := by decide +kernel
theorem dX4_init_157 : decode cX4_init 157 = .ok (.getfield 45, 3) := by decide +kernel
theorem dX4_init_160 : decode cX4_init 160 = .ok (.newarray .boolean, 2) := by decide +kernel
theorem dX4_init_162 : decode cX4_init 162 = .ok (.putfield 85, 3) := by decide +kernel
theorem dX4_init_165 : decode cX4_init 165 = .ok (.return_, 1) := by decide +kernel
theorem dX4_field_0 : decode cX4_field 0 = .ok (.iload_n 1, 1) := by decide +kernel
theorem dX4_field_1 : decode cX4_field 1 = .ok (.ifCond .lt 12, 3) := by decide +kernel
theorem dX4_field_4 : decode cX4_field 4 = .ok (.iload_n 1, 1) := by decide +kernel
theorem dX4_field_5 : decode cX4_field 5 = .ok (.aload_n 0, 1) := by decide +kernel
theorem dX4_field_6 : decode cX4_field 6 = .ok (.getfield 61, 3) := by decide +kernel
theorem dX4_field_9 : decode cX4_field 9 = .ok (.arraylength, 1) := by decide +kernel
theorem dX4_field_10 : decode cX4_field 10 = .ok (.if_icmp .lt 13, 3) := by decide +kernel
theorem dX4_field_13 : decode cX4_field 13 = .ok (.new 89, 3) := by decide +kernel
theorem dX4_field_16 : decode cX4_field 16 = .ok (.dup, 1) := by decide +kernel
theorem dX4_field_17 : decode cX4_field 17 = .ok (.ldc 91, 2) := by decide +kernel
theorem dX4_field_19 : decode cX4_field 19 = .ok (.invokespecial 93, 3) := by decide +kernel
theorem dX4_field_22 : decode cX4_field 22 = .ok (.athrow, 1) := by decide +kernel
theorem dX4_field_23 : decode cX4_field 23 = .ok (.lload_n 2, 1) := by decide +kernel
theorem dX4_field_24 : decode cX4_field 24 = .ok (.lconst 0, 1) := by decide +kernel
theorem dX4_field_25 : decode cX4_field 25 = .ok (.lcmp, 1) := by decide +kernel
theorem dX4_field_26 : decode cX4_field 26 = .ok (.ifCond .lt 19, 3) := by decide +kernel
theorem dX4_field_29 : decode cX4_field 29 = .ok (.lload_n 2, 1) := by decide +kernel
theorem dX4_field_30 : decode cX4_field 30 = .ok (.aload_n 0, 1) := by decide +kernel
theorem dX4_field_31 : decode cX4_field 31 = .ok (.getfield 39, 3) := by decide +kernel
theorem dX4_field_34 : decode cX4_field 34 = .ok (.getfield 58, 3) := by decide +kernel
theorem dX4_field_37 : decode cX4_field 37 = .ok (.iload_n 1, 1) := by decide +kernel
theorem dX4_field_38 : decode cX4_field 38 = .ok (.iaload, 1) := by decide +kernel
theorem dX4_field_39 : decode cX4_field 39 = .ok (.lshr, 1) := by decide +kernel
theorem dX4_field_40 : decode cX4_field 40 = .ok (.lconst 0, 1) := by decide +kernel
theorem dX4_field_41 : decode cX4_field 41 = .ok (.lcmp, 1) := by decide +kernel
theorem dX4_field_42 : decode cX4_field 42 = .ok (.ifCond .eq 13, 3) := by decide +kernel
theorem dX4_field_45 : decode cX4_field 45 = .ok (.new 96, 3) := by decide +kernel
theorem dX4_field_48 : decode cX4_field 48 = .ok (.dup, 1) := by decide +kernel
theorem dX4_field_49 : decode cX4_field 49 = .ok (.ldc 98, 2) := by decide +kernel
theorem dX4_field_51 : decode cX4_field 51 = .ok (.invokespecial 100, 3) := by decide +kernel
theorem dX4_field_54 : decode cX4_field 54 = .ok (.athrow, 1) := by decide +kernel
theorem dX4_field_55 : decode cX4_field 55 = .ok (.aload_n 0, 1) := by decide +kernel
theorem dX4_field_56 : decode cX4_field 56 = .ok (.getfield 61, 3) := by decide +kernel
theorem dX4_field_59 : decode cX4_field 59 = .ok (.iload_n 1, 1) := by decide +kernel
theorem dX4_field_60 : decode cX4_field 60 = .ok (.lload_n 2, 1) := by decide +kernel
theorem dX4_field_61 : decode cX4_field 61 = .ok (.lastore, 1) := by decide +kernel
theorem dX4_field_62 : decode cX4_field 62 = .ok (.return_, 1) := by decide +kernel
set_option maxRecDepth 20000 in
theorem ggX4_make_X2_putFields : GoodIn wsX4_make wsX2_putFields := goodIn_r _ [14, 15, 108, 109, 110, 111, 112, 113, 114, 115, 116, 117] (by decide +kernel) (by decide +kernel)
set_option maxRecDepth 20000 in
theorem gX4_make_X2_putFields : GoodIn wsX4_make (wsV RX4 101 RX2 yX2_putFields wsX2_putFields) := goodIn_app (goodIn_of _ (by decide +kernel)) ggX4_make_X2_putFields
set_option maxRecDepth 20000 in
theorem ggX4_make_X0_complete : GoodIn wsX4_make wsX0_complete := goodIn_r _ [20, 21, 22, 23, 24, 25, 26, 27, 118, 119, 120, 121, 122, 123, 124, 125, 126, 127] (by decide +kernel) (by decide +kernel)
set_option maxRecDepth 20000 in
theorem gX4_make_X0_complete : GoodIn wsX4_make (wsV RX4 105 RX0 yX0_complete wsX0_complete) := goodIn_app (goodIn_of _ (by decide +kernel)) ggX4_make_X0_complete
set_option maxRecDepth 20000 in
theorem ggX4_make_X4_bestMask : GoodIn wsX4_make wsX4_bestMask := goodIn_r _ [32, 3, 4, 8, 33, 34, 35, 13, 36, 37, 38, 39, 40, 41, 42, 43, 44, 45, 46, 47, 48, 49, 50, 51, 52, 53, 54, 55, 56, 57, 58, 59, 60, 61, 62, 63, 64, 65, 66, 67, 68, 69, 70, 71, 72, 73, 74, 75, 76, 77, 78, 79, 80, 81, 82, 83, 84, 85, 86, 87, 88, 89, 90, 91, 92, 93, 94, 95, 96, 97, 98, 99, 100, 101, 102, 103, 104, 105, 106, 107, 108, 109, 110, 111, 112, 113, 114, 115, 116, 117] (by decide +kernel) (by decide +kernel)
set_option maxRecDepth 20000 in
theorem gX4_make_X4_bestMask : GoodIn wsX4_make (wsV RX4 112 RX4 yX4_bestMask wsX4_bestMask) := goodIn_app (goodIn_of _ (by decide +kernel)) ggX4_make_X4_bestMask
set_option maxRecDepth 20000 in
theorem ggX4_make_X2_draw : GoodIn wsX4_make wsX2_draw := goodIn_r _ [36, 37, 38, 39, 40, 41, 42, 43, 44, 45, 13, 46, 47, 48, 49, 50, 51, 52, 53, 54, 55, 56, 57, 58, 59, 60, 61, 62, 63, 64, 65, 66, 67, 68, 69, 70, 71, 72, 73, 74, 75, 76, 77, 78, 79, 80, 81, 108, 109, 110, 111, 112, 113, 114, 115, 116, 117] (by decide +kernel) (by decide +kernel)
set_option maxRecDepth 20000 in
theorem gX4_make_X2_draw : GoodIn wsX4_make (wsV RX4 116 RX2 yX2_draw wsX2_draw) := goodIn_app (goodIn_of _ (by decide +kernel)) ggX4_make_X2_draw
theorem dX4_make_0 : decode cX4_make 0 = .ok (.iconst 0, 1) := by decide +kernel
theorem dX4_make_1 : decode cX4_make 1 = .ok (.istore_n 1, 1) := by decide +kernel
theorem dX4_make_2 : decode cX4_make 2 = .ok (.iload_n 1, 1) := by decide +kernel
theorem dX4_make_3 : decode cX4_make 3 = .ok (.aload_n 0, 1) := by decide +kernel
theorem dX4_make_4 : decode cX4_make 4 = .ok (.getfield 61, 3) := by decide +kernel
theorem dX4_make_7 : decode cX4_make 7 = .ok (.arraylength, 1) := by decide +kernel
theorem dX4_make_8 : decode cX4_make 8 = .ok (.if_icmp .ge 24, 3) := by decide +kernel
theorem dX4_make_11 : decode cX4_make 11 = .ok (.aload_n 0, 1) := by decide +kernel
theorem dX4_make_12 : decode cX4_make 12 = .ok (.getfield 61, 3) := by decide +kernel
theorem dX4_make_15 : decode cX4_make 15 = .ok (.iload_n 1, 1) := by decide +kernel
theorem dX4_make_16 : decode cX4_make 16 = .ok (.laload, 1) := by decide +kernel
theorem dX4_make_17 : decode cX4_make 17 = .ok (.ldc2_w 68, 3) := by decide +kernel
theorem dX4_make_20 : decode cX4_make 20 = .ok (.lcmp, 1) := by decide +kernel
theorem dX4_make_21 : decode cX4_make 21 = .ok (.ifCond .ne 5, 3) := by decide +kernel
theorem dX4_make_24 : decode cX4_make 24 = .ok (.iconst (-1), 1) := by decide +kernel
theorem dX4_make_25 : decode cX4_make 25 = .ok (.ireturn, 1) := by decide +kernel
theorem dX4_make_26 : decode cX4_make 26 = .ok (.iinc 1 1, 3) := by decide +kernel
theorem dX4_make_29 : decode cX4_make 29 = .ok (.goto (-27), 3) := by decide +kernel
theorem dX4_make_32 : decode cX4_make 32 = .ok (.aload_n 0, 1) := by decide +kernel
theorem dX4_make_33 : decode cX4_make 33 = .ok (.getfield 39, 3) := by decide +kernel
theorem dX4_make_36 : decode cX4_make 36 = .ok (.aload_n 0, 1) := by decide +kernel
theorem dX4_make_37 : decode cX4_make 37 = .ok (.getfield 61, 3) := by decide +kernel
theorem dX4_make_40 : decode cX4_make 40 = .ok (.aload_n 0, 1) := by decide +kernel
theorem dX4_make_41 : decode cX4_make 41 = .ok (.getfield 82, 3) := by decide +kernel
theorem dX4_make_44 : decode cX4_make 44 = .ok (.invokevirtual 101, 3) := by decide +kernel
theorem dX4_make_47 : decode cX4_make 47 = .ok (.aload_n 0, 1) := by decide +kernel
theorem dX4_make_48 : decode cX4_make 48 = .ok (.getfield 54, 3) := by decide +kernel
theorem dX4_make_51 : decode cX4_make 51 = .ok (.aload_n 0, 1) := by decide +kernel
theorem dX4_make_52 : decode cX4_make 52 = .ok (.getfield 82, 3) := by decide +kernel
theorem dX4_make_55 : decode cX4_make 55 = .ok (.invokevirtual 105, 3) := by decide +kernel
theorem dX4_make_58 : decode cX4_make 58 = .ok (.aload_n 0, 1) := by decide +kernel
theorem dX4_make_59 : decode cX4_make 59 = .ok (.getfield 39, 3) := by decide +kernel
theorem dX4_make_62 : decode cX4_make 62 = .ok (.getfield 109, 3) := by decide +kernel
theorem dX4_make_65 : decode cX4_make 65 = .ok (.iconst 2, 1) := by decide +kernel
theorem dX4_make_66 : decode cX4_make 66 = .ok (.if_icmp .ne 11, 3) := by decide +kernel
theorem dX4_make_69 : decode cX4_make 69 = .ok (.aload_n 0, 1) := by decide +kernel
theorem dX4_make_70 : decode cX4_make 70 = .ok (.aload_n 0, 1) := by decide +kernel
theorem dX4_make_71 : decode cX4_make 71 = .ok (.invokevirtual 112, 3) := by decide +kernel
theorem dX4_make_74 : decode cX4_make 74 = .ok (.putfield 27, 3) := by decide +kernel
theorem dX4_make_77 : decode cX4_make 77 = .ok (.aload_n 0, 1) := by decide +kernel
theorem dX4_make_78 : decode cX4_make 78 = .ok (.getfield 39, 3) := by decide +kernel
theorem dX4_make_81 : decode cX4_make 81 = .ok (.aload_n 0, 1) := by decide +kernel
theorem dX4_make_82 : decode cX4_make 82 = .ok (.getfield 82, 3) := by decide +kernel
theorem dX4_make_85 : decode cX4_make 85 = .ok (.aload_n 0, 1) := by decide +kernel
theorem dX4_make_86 : decode cX4_make 86 = .ok (.getfield 27, 3) := by decide +kernel
theorem dX4_make_89 : decode cX4_make 89 = .ok (.aload_n 0, 1) := by decide +kernel
theorem dX4_make_90 : decode cX4_make 90 = .ok (.getfield 79, 3) := by decide +kernel
theorem dX4_make_93 : decode cX4_make 93 = .ok (.invokevirtual 116, 3) := by decide +kernel
theorem dX4_make_96 : decode cX4_make 96 = .ok (.aload_n 0, 1) := by decide +kernel
theorem dX4_make_97 : decode cX4_make 97 = .ok (.iconst 1, 1) := by decide +kernel
theorem dX4_make_98 : decode cX4_make 98 = .ok (.putfield 7, 3) := by decide +kernel
theorem dX4_make_101 : decode cX4_make 101 = .ok (.aload_n 0, 1) := by decide +kernel
theorem dX4_make_102 : decode cX4_make 102 = .ok (.getfield 79, 3) := by decide +kernel
theorem dX4_make_105 : decode cX4_make 105 = .ok (.arraylength, 1) := by decide +kernel
theorem dX4_make_106 : decode cX4_make 106 = .ok (.ireturn, 1) := by decide +kernel
theorem dX4_bar_0 : decode cX4_bar 0 = .ok (.aload_n 0, 1) := by decide +kernel
theorem dX4_bar_1 : decode cX4_bar 1 = .ok (.getfield 7, 3) := by decide +kernel
theorem dX4_bar_4 : decode cX4_bar 4 = .ok (.ifCond .eq 16, 3) := by decide +kernel
theorem dX4_bar_7 : decode cX4_bar 7 = .ok (.iload_n 1, 1) := by decide +kernel
theorem dX4_bar_8 : decode cX4_bar 8 = .ok (.ifCond .lt 12, 3) := by decide +kernel
theorem dX4_bar_11 : decode cX4_bar 11 = .ok (.iload_n 1, 1) := by decide +kernel
theorem dX4_bar_12 : decode cX4_bar 12 = .ok (.aload_n 0, 1) := by decide +kernel
theorem dX4_bar_13 : decode cX4_bar 13 = .ok (.getfield 79, 3) := by decide +kernel
theorem dX4_bar_16 : decode cX4_bar 16 = .ok (.arraylength, 1) := by decide +kernel
theorem dX4_bar_17 : decode cX4_bar 17 = .ok (.if_icmp .lt 13, 3) := by decide +kernel
theorem dX4_bar_20 : decode cX4_bar 20 = .ok (.new 120, 3) := by decide +kernel
theorem dX4_bar_23 : decode cX4_bar 23 = .ok (.dup, 1) := by decide +kernel
theorem dX4_bar_24 : decode cX4_bar 24 = .ok (.ldc 122, 2) := by decide +kernel
theorem dX4_bar_26 : decode cX4_bar 26 = .ok (.invokespecial 124, 3) := by decide +kernel
theorem dX4_bar_29 : decode cX4_bar 29 = .ok (.athrow, 1) := by decide +kernel
theorem dX4_bar_30 : decode cX4_bar 30 = .ok (.aload_n 0, 1) := by decide +kernel
theorem dX4_bar_31 : decode cX4_bar 31 = .ok (.getfield 79, 3) := by decide +kernel
theorem dX4_bar_34 : decode cX4_bar 34 = .ok (.iload_n 1, 1) := by decide +kernel
theorem dX4_bar_35 : decode cX4_bar 35 = .ok (.iaload, 1) := by decide +kernel
theorem dX4_bar_36 : decode cX4_bar 36 = .ok (.ireturn, 1) := by decide +kernel
theorem dX4_read_0 : decode cX4_read 0 = .ok (.iload_n 1, 1) := by decide +kernel
theorem dX4_read_1 : decode cX4_read 1 = .ok (.ifCond .lt 14, 3) := by decide +kernel
theorem dX4_read_4 : decode cX4_read 4 = .ok (.iload_n 1, 1) := by decide +kernel
theorem dX4_read_5 : decode cX4_read 5 = .ok (.aload_n 0, 1) := by decide +kernel
theorem dX4_read_6 : decode cX4_read 6 = .ok (.getfield 39, 3) := by decide +kernel
theorem dX4_read_9 : decode cX4_read 9 = .ok (.getfield 125, 3) := by decide +kernel
theorem dX4_read_12 : decode cX4_read 12 = .ok (.if_icmp .le 13, 3) := by decide +kernel
theorem dX4_read_15 : decode cX4_read 15 = .ok (.new 96, 3) := by decide +kernel
theorem dX4_read_18 : decode cX4_read 18 = .ok (.dup, 1) := by decide +kernel
theorem dX4_read_19 : decode cX4_read 19 = .ok (.ldc 128, 2) := by decide +kernel
theorem dX4_read_21 : decode cX4_read 21 = .ok (.invokespecial 100, 3) := by decide +kernel
theorem dX4_read_24 : decode cX4_read 24 = .ok (.athrow, 1) := by decide +kernel
theorem dX4_read_25 : decode cX4_read 25 = .ok (.aload_n 0, 1) := by decide +kernel
theorem dX4_read_26 : decode cX4_read 26 = .ok (.getfield 17, 3) := by decide +kernel
theorem dX4_read_29 : decode cX4_read 29 = .ok (.sipush 200, 3) := by decide +kernel
theorem dX4_read_32 : decode cX4_read 32 = .ok (.if_icmp .lt 13, 3) := by decide +kernel
theorem dX4_read_35 : decode cX4_read 35 = .ok (.new 130, 3) := by decide +kernel
theorem dX4_read_38 : decode cX4_read 38 = .ok (.dup, 1) := by decide +kernel
theorem dX4_read_39 : decode cX4_read 39 = .ok (.ldc 132, 2) := by decide +kernel
theorem dX4_read_41 : decode cX4_read 41 = .ok (.invokespecial 134, 3) := by decide +kernel
theorem dX4_read_44 : decode cX4_read 44 = .ok (.athrow, 1) := by decide +kernel
theorem dX4_read_45 : decode cX4_read 45 = .ok (.aload_n 0, 1) := by decide +kernel
theorem dX4_read_46 : decode cX4_read 46 = .ok (.getfield 13, 3) := by decide +kernel
theorem dX4_read_49 : decode cX4_read 49 = .ok (.aload_n 0, 1) := by decide +kernel
theorem dX4_read_50 : decode cX4_read 50 = .ok (.getfield 17, 3) := by decide +kernel
theorem dX4_read_53 : decode cX4_read 53 = .ok (.iload_n 1, 1) := by decide +kernel
theorem dX4_read_54 : decode cX4_read 54 = .ok (.iastore, 1) := by decide +kernel
theorem dX4_read_55 : decode cX4_read 55 = .ok (.aload_n 0, 1) := by decide +kernel
theorem dX4_read_56 : decode cX4_read 56 = .ok (.dup, 1) := by decide +kernel
theorem dX4_read_57 : decode cX4_read 57 = .ok (.getfield 17, 3) := by decide +kernel
theorem dX4_read_60 : decode cX4_read 60 = .ok (.iconst 1, 1) := by decide +kernel
theorem dX4_read_61 : decode cX4_read 61 = .ok (.iadd, 1) := by decide +kernel
theorem dX4_read_62 : decode cX4_read 62 = .ok (.putfield 17, 3) := by decide +kernel
theorem dX4_read_65 : decode cX4_read 65 = .ok (.return_, 1) := by decide +kernel
theorem dX4_erased_0 : decode cX4_erased 0 = .ok (.aload_n 0, 1) := by decide +kernel
theorem dX4_erased_1 : decode cX4_erased 1 = .ok (.getfield 17, 3) := by decide +kernel
theorem dX4_erased_4 : decode cX4_erased 4 = .ok (.sipush 200, 3) := by decide +kernel
theorem dX4_erased_7 : decode cX4_erased 7 = .ok (.if_icmp .lt 13, 3) := by decide +kernel
theorem dX4_erased_10 : decode cX4_erased 10 = .ok (.new 130, 3) := by decide +kernel
theorem dX4_erased_13 : decode cX4_erased 13 = .ok (.dup, 1) := by decide +kernel
theorem dX4_erased_14 : decode cX4_erased 14 = .ok (.ldc 132, 2) := by decide +kernel
theorem dX4_erased_16 : decode cX4_erased 16 = .ok (.invokespecial 134, 3) := by decide +kernel
theorem dX4_erased_19 : decode cX4_erased 19 = .ok (.athrow, 1) := by decide +kernel
theorem dX4_erased_20 : decode cX4_erased 20 = .ok (.aload_n 0, 1) := by decide +kernel
theorem dX4_erased_21 : decode cX4_erased 21 = .ok (.getfield 13, 3) := by decide +kernel
theorem dX4_erased_24 : decode cX4_erased 24 = .ok (.aload_n 0, 1) := by decide +kernel
theorem dX4_erased_25 : decode cX4_erased 25 = .ok (.getfield 17, 3) := by decide +kernel
theorem dX4_erased_28 : decode cX4_erased 28 = .ok (.iconst (-1), 1) := by decide +kernel
theorem dX4_erased_29 : decode cX4_erased 29 = .ok (.iastore, 1) := by decide +kernel
theorem dX4_erased_30 : decode cX4_erased 30 = .ok (.aload_n 0, 1) := by decide +kernel
theorem dX4_erased_31 : decode cX4_erased 31 = .ok (.dup, 1) := by decide +kernel
theorem dX4_erased_32 : decode cX4_erased 32 = .ok (.getfield 17, 3) := by decide +kernel
theorem dX4_erased_35 : decode cX4_erased 35 = .ok (.iconst 1, 1) := by decide +kernel
theorem dX4_erased_36 : decode cX4_erased 36 = .ok (.iadd, 1) := by decide +kernel
theorem dX4_erased_37 : decode cX4_erased 37 = .ok (.putfield 17, 3) := by decide +kernel
theorem dX4_erased_40 : decode cX4_erased 40 = .ok (.return_, 1) := by decide +kernel
set_option maxRecDepth 20000 in
theorem ggX4_parse_X2_looksTurned : GoodIn wsX4_parse wsX2_looksTurned := goodIn_r _ [17, 18, 19, 20, 21, 16, 22, 23, 24, 25, 26, 27, 28, 29, 30, 31, 32, 33, 34, 168, 169, 170, 171, 172, 173, 174, 175, 176, 177] (by decide +kernel) (by decide +kernel)
set_option maxRecDepth 20000 in
theorem gX4_parse_X2_looksTurned : GoodIn wsX4_parse (wsV RX4 135 RX2 yX2_looksTurned wsX2_looksTurned) := goodIn_app (goodIn_of _ (by decide +kernel)) ggX4_parse_X2_looksTurned
set_option maxRecDepth 20000 in
theorem ggX4_parse_X2_turn : GoodIn wsX4_parse wsX2_turn := goodIn_r _ [38, 18, 31, 32, 33, 16, 34, 24, 168, 169, 170, 171, 172, 173, 174, 175, 176, 177] (by decide +kernel) (by decide +kernel)
set_option maxRecDepth 20000 in
theorem gX4_parse_X2_turn : GoodIn wsX4_parse (wsV RX4 139 RX2 yX2_turn wsX2_turn) := goodIn_app (goodIn_of _ (by decide +kernel)) ggX4_parse_X2_turn
set_option maxRecDepth 20000 in
theorem ggX4_parse_X3_nearestMask : GoodIn wsX4_parse wsX3_nearestMask := goodIn_r _ [41, 42, 43, 29, 44, 45, 46, 47, 48] (by decide +kernel) (by decide +kernel)
set_option maxRecDepth 20000 in
theorem gX4_parse_X3_nearestMask : GoodIn wsX4_parse (va_wsS RX4 142 yX3_nearestMask wsX3_nearestMask) := goodIn_app (goodIn_of _ (by decide +kernel)) ggX4_parse_X3_nearestMask
set_option maxRecDepth 20000 in
theorem ggX4_parse_X2_takeWord : GoodIn wsX4_parse wsX2_takeWord := goodIn_r _ [52, 53, 54, 55, 56, 57, 58, 16, 59, 23, 60, 43, 29, 44, 61, 62, 63, 64, 65, 66, 67, 68, 69, 70, 71, 72, 73, 168, 169, 170, 171, 172, 173, 174, 175, 176, 177] (by decide +kernel) (by decide +kernel)
set_option maxRecDepth 20000 in
theorem gX4_parse_X2_takeWord : GoodIn wsX4_parse (wsV RX4 148 RX2 yX2_takeWord wsX2_takeWord) := goodIn_app (goodIn_of _ (by decide +kernel)) ggX4_parse_X2_takeWord
set_option maxRecDepth 20000 in
theorem ggX4_parse_X0_mend : GoodIn wsX4_parse wsX0_mend := goodIn_r _ [78, 79, 80, 81, 82, 83, 77, 84, 85, 86, 87, 88, 89, 90, 91, 92, 93, 94, 95, 96, 97, 98, 99, 100, 101, 102, 103, 104, 105, 106, 107, 108, 109, 110, 111, 112, 113, 114, 115, 116, 117, 118, 119, 120, 121, 122, 123, 124, 125, 126, 127, 128, 129, 130, 131, 132, 133, 134, 135, 136, 137, 138, 139, 140, 141, 142, 143, 144, 145, 146, 147, 148, 149, 178, 179, 180, 181, 182, 183, 184, 185, 186, 187] (by decide +kernel) (by decide +kernel)
set_option maxRecDepth 20000 in
theorem gX4_parse_X0_mend : GoodIn wsX4_parse (wsV RX4 152 RX0 yX0_mend wsX0_mend) := goodIn_app (goodIn_of _ (by decide +kernel)) ggX4_parse_X0_mend
set_option maxRecDepth 20000 in
theorem ggX4_parse_X2_takeFields : GoodIn wsX4_parse wsX2_takeFields := goodIn_r _ [153, 154, 168, 169, 170, 171, 172, 173, 174, 175, 176, 177] (by decide +kernel) (by decide +kernel)
set_option maxRecDepth 20000 in
theorem gX4_parse_X2_takeFields : GoodIn wsX4_parse (wsV RX4 156 RX2 yX2_takeFields wsX2_takeFields) := goodIn_app (goodIn_of _ (by decide +kernel)) ggX4_parse_X2_takeFields
theorem dX4_parse_0 : decode cX4_parse 0 = .ok (.aload_n 0, 1) := by decide +kernel
theorem dX4_parse_1 : decode cX4_parse 1 = .ok (.getfield 17, 3) := by decide +kernel
theorem dX4_parse_4 : decode cX4_parse 4 = .ok (.istore_n 1, 1) := by decide +kernel
theorem dX4_parse_5 : decode cX4_parse 5 = .ok (.aload_n 0, 1) := by decide +kernel
theorem dX4_parse_6 : decode cX4_parse 6 = .ok (.iconst 0, 1) := by decide +kernel
theorem dX4_parse_7 : decode cX4_parse 7 = .ok (.putfield 17, 3) := by decide +kernel
theorem dX4_parse_10 : decode cX4_parse 10 = .ok (.iload_n 1, 1) := by decide +kernel
theorem dX4_parse_11 : decode cX4_parse 11 = .ok (.aload_n 0, 1) := by decide +kernel
theorem dX4_parse_12 : decode cX4_parse 12 = .ok (.getfield 39, 3) := by decide +kernel
theorem dX4_parse_15 : decode cX4_parse 15 = .ok (.getfield 76, 3) := by decide +kernel
theorem dX4_parse_18 : decode cX4_parse 18 = .ok (.if_icmp .eq 5, 3) := by decide +kernel
theorem dX4_parse_21 : decode cX4_parse 21 = .ok (.iconst (-1), 1) := by decide +kernel
theorem dX4_parse_22 : decode cX4_parse 22 = .ok (.ireturn, 1) := by decide +kernel
theorem dX4_parse_23 : decode cX4_parse 23 = .ok (.aload_n 0, 1) := by decide +kernel
theorem dX4_parse_24 : decode cX4_parse 24 = .ok (.getfield 39, 3) := by decide +kernel
theorem dX4_parse_27 : decode cX4_parse 27 = .ok (.aload_n 0, 1) := by decide +kernel
theorem dX4_parse_28 : decode cX4_parse 28 = .ok (.getfield 13, 3) := by decide +kernel
theorem dX4_parse_31 : decode cX4_parse 31 = .ok (.invokevirtual 135, 3) := by decide +kernel
theorem dX4_parse_34 : decode cX4_parse 34 = .ok (.istore_n 2, 1) := by decide +kernel
theorem dX4_parse_35 : decode cX4_parse 35 = .ok (.iload_n 2, 1) := by decide +kernel
theorem dX4_parse_36 : decode cX4_parse 36 = .ok (.ifCond .eq 14, 3) := by decide +kernel
theorem dX4_parse_39 : decode cX4_parse 39 = .ok (.aload_n 0, 1) := by decide +kernel
theorem dX4_parse_40 : decode cX4_parse 40 = .ok (.getfield 39, 3) := by decide +kernel
theorem dX4_parse_43 : decode cX4_parse 43 = .ok (.aload_n 0, 1) := by decide +kernel
theorem dX4_parse_44 : decode cX4_parse 44 = .ok (.getfield 13, 3) := by decide +kernel
theorem dX4_parse_47 : decode cX4_parse 47 = .ok (.invokevirtual 139, 3) := by decide +kernel
theorem dX4_parse_50 : decode cX4_parse 50 = .ok (.aload_n 0, 1) := by decide +kernel
theorem dX4_parse_51 : decode cX4_parse 51 = .ok (.getfield 39, 3) := by decide +kernel
theorem dX4_parse_54 : decode cX4_parse 54 = .ok (.getfield 109, 3) := by decide +kernel
theorem dX4_parse_57 : decode cX4_parse 57 = .ok (.iconst 2, 1) := by decide +kernel
theorem dX4_parse_58 : decode cX4_parse 58 = .ok (.if_icmp .ne 13, 3) := by decide +kernel
theorem dX4_parse_61 : decode cX4_parse 61 = .ok (.aload_n 0, 1) := by decide +kernel
theorem dX4_parse_62 : decode cX4_parse 62 = .ok (.getfield 13, 3) := by decide +kernel
theorem dX4_parse_65 : decode cX4_parse 65 = .ok (.invokestatic 142, 3) := by decide +kernel
theorem dX4_parse_68 : decode cX4_parse 68 = .ok (.goto 4, 3) := by decide +kernel
theorem dX4_parse_71 : decode cX4_parse 71 = .ok (.iconst (-1), 1) := by decide +kernel
theorem dX4_parse_72 : decode cX4_parse 72 = .ok (.istore_n 3, 1) := by decide +kernel
theorem dX4_parse_73 : decode cX4_parse 73 = .ok (.aload_n 0, 1) := by decide +kernel
theorem dX4_parse_74 : decode cX4_parse 74 = .ok (.getfield 39, 3) := by decide +kernel
theorem dX4_parse_77 : decode cX4_parse 77 = .ok (.aload_n 0, 1) := by decide +kernel
theorem dX4_parse_78 : decode cX4_parse 78 = .ok (.getfield 13, 3) := by decide +kernel
theorem dX4_parse_81 : decode cX4_parse 81 = .ok (.iload_n 3, 1) := by decide +kernel
theorem dX4_parse_82 : decode cX4_parse 82 = .ok (.aload_n 0, 1) := by decide +kernel
theorem dX4_parse_83 : decode cX4_parse 83 = .ok (.getfield 82, 3) := by decide +kernel
theorem dX4_parse_86 : decode cX4_parse 86 = .ok (.aload_n 0, 1) := by decide +kernel
theorem dX4_parse_87 : decode cX4_parse 87 = .ok (.getfield 85, 3) := by decide +kernel
theorem dX4_parse_90 : decode cX4_parse 90 = .ok (.invokevirtual 148, 3) := by decide +kernel
theorem dX4_parse_93 : decode cX4_parse 93 = .ok (.aload_n 0, 1) := by decide +kernel
theorem dX4_parse_94 : decode cX4_parse 94 = .ok (.getfield 54, 3) := by decide +kernel
theorem dX4_parse_97 : decode cX4_parse 97 = .ok (.aload_n 0, 1) := by decide +kernel
theorem dX4_parse_98 : decode cX4_parse 98 = .ok (.getfield 82, 3) := by decide +kernel
theorem dX4_parse_101 : decode cX4_parse 101 = .ok (.aload_n 0, 1) := by decide +kernel
theorem dX4_parse_102 : decode cX4_parse 102 = .ok (.getfield 85, 3) := by decide +kernel
theorem dX4_parse_105 : decode cX4_parse 105 = .ok (.invokevirtual 152, 3) := by decide +kernel
theorem dX4_parse_108 : decode cX4_parse 108 = .ok (.istore 4, 2) := by decide +kernel
theorem dX4_parse_110 : decode cX4_parse 110 = .ok (.iload 4, 2) := by decide +kernel
theorem dX4_parse_112 : decode cX4_parse 112 = .ok (.iconst (-1), 1) := by decide +kernel
theorem dX4_parse_113 : decode cX4_parse 113 = .ok (.if_icmp .ne 5, 3) := by decide +kernel
theorem dX4_parse_116 : decode cX4_parse 116 = .ok (.iconst (-1), 1) := by decide +kernel
theorem dX4_parse_117 : decode cX4_parse 117 = .ok (.ireturn, 1) := by decide +kernel
theorem dX4_parse_118 : decode cX4_parse 118 = .ok (.aload_n 0, 1) := by decide +kernel
theorem dX4_parse_119 : decode cX4_parse 119 = .ok (.getfield 39, 3) := by decide +kernel
theorem dX4_parse_122 : decode cX4_parse 122 = .ok (.aload_n 0, 1) := by decide +kernel
theorem dX4_parse_123 : decode cX4_parse 123 = .ok (.getfield 82, 3) := by decide +kernel
theorem dX4_parse_126 : decode cX4_parse 126 = .ok (.aload_n 0, 1) := by decide +kernel
theorem dX4_parse_127 : decode cX4_parse 127 = .ok (.getfield 65, 3) := by decide +kernel
theorem dX4_parse_130 : decode cX4_parse 130 = .ok (.invokevirtual 156, 3) := by decide +kernel
theorem dX4_parse_133 : decode cX4_parse 133 = .ok (.aload_n 0, 1) := by decide +kernel
theorem dX4_parse_134 : decode cX4_parse 134 = .ok (.iload 4, 2) := by decide +kernel
theorem dX4_parse_136 : decode cX4_parse 136 = .ok (.putfield 21, 3) := by decide +kernel
theorem dX4_parse_139 : decode cX4_parse 139 = .ok (.aload_n 0, 1) := by decide +kernel
theorem dX4_parse_140 : decode cX4_parse 140 = .ok (.iload_n 2, 1) := by decide +kernel
theorem dX4_parse_141 : decode cX4_parse 141 = .ok (.putfield 24, 3) := by decide +kernel
theorem dX4_parse_144 : decode cX4_parse 144 = .ok (.aload_n 0, 1) := by decide +kernel
theorem dX4_parse_145 : decode cX4_parse 145 = .ok (.iload_n 3, 1) := by decide +kernel
theorem dX4_parse_146 : decode cX4_parse 146 = .ok (.putfield 27, 3) := by decide +kernel
theorem dX4_parse_149 : decode cX4_parse 149 = .ok (.aload_n 0, 1) := by decide +kernel
theorem dX4_parse_150 : decode cX4_parse 150 = .ok (.getfield 65, 3) := by decide +kernel
theorem dX4_parse_153 : decode cX4_parse 153 = .ok (.arraylength, 1) := by decide +kernel
theorem dX4_parse_154 : decode cX4_parse 154 = .ok (.ireturn, 1) := by decide +kernel
theorem dX4_value_0 : decode cX4_value 0 = .ok (.iload_n 1, 1) := by decide +kernel
theorem dX4_value_1 : decode cX4_value 1 = .ok (.ifCond .lt 12, 3) := by decide +kernel
theorem dX4_value_4 : decode cX4_value 4 = .ok (.iload_n 1, 1) := by decide +kernel
theorem dX4_value_5 : decode cX4_value 5 = .ok (.aload_n 0, 1) := by decide +kernel
theorem dX4_value_6 : decode cX4_value 6 = .ok (.getfield 65, 3) := by decide +kernel
theorem dX4_value_9 : decode cX4_value 9 = .ok (.arraylength, 1) := by decide +kernel
theorem dX4_value_10 : decode cX4_value 10 = .ok (.if_icmp .lt 13, 3) := by decide +kernel
theorem dX4_value_13 : decode cX4_value 13 = .ok (.new 89, 3) := by decide +kernel
theorem dX4_value_16 : decode cX4_value 16 = .ok (.dup, 1) := by decide +kernel
theorem dX4_value_17 : decode cX4_value 17 = .ok (.ldc 91, 2) := by decide +kernel
theorem dX4_value_19 : decode cX4_value 19 = .ok (.invokespecial 93, 3) := by decide +kernel
theorem dX4_value_22 : decode cX4_value 22 = .ok (.athrow, 1) := by decide +kernel
theorem dX4_value_23 : decode cX4_value 23 = .ok (.aload_n 0, 1) := by decide +kernel
theorem dX4_value_24 : decode cX4_value 24 = .ok (.getfield 65, 3) := by decide +kernel
theorem dX4_value_27 : decode cX4_value 27 = .ok (.iload_n 1, 1) := by decide +kernel
theorem dX4_value_28 : decode cX4_value 28 = .ok (.laload, 1) := by decide +kernel
theorem dX4_value_29 : decode cX4_value 29 = .ok (.lreturn, 1) := by decide +kernel
theorem dX4_mended_0 : decode cX4_mended 0 = .ok (.aload_n 0, 1) := by decide +kernel
theorem dX4_mended_1 : decode cX4_mended 1 = .ok (.getfield 21, 3) := by decide +kernel
theorem dX4_mended_4 : decode cX4_mended 4 = .ok (.ireturn, 1) := by decide +kernel
theorem dX4_mask_0 : decode cX4_mask 0 = .ok (.aload_n 0, 1) := by decide +kernel
theorem dX4_mask_1 : decode cX4_mask 1 = .ok (.getfield 27, 3) := by decide +kernel
theorem dX4_mask_4 : decode cX4_mask 4 = .ok (.ireturn, 1) := by decide +kernel
set_option maxRecDepth 20000 in
theorem ggX4_over_X1_inverse : GoodIn wsX4_over wsX1_inverse := goodIn_r _ [6, 7, 8, 5, 9] (by decide +kernel) (by decide +kernel)
set_option maxRecDepth 20000 in
theorem gX4_over_X1_inverse : GoodIn wsX4_over (va_wsS RX4 167 yX1_inverse wsX1_inverse) := goodIn_app (goodIn_of _ (by decide +kernel)) ggX4_over_X1_inverse
set_option maxRecDepth 20000 in
theorem ggX4_over_X1_product : GoodIn wsX4_over wsX1_product := goodIn_r _ [9] (by decide +kernel) (by decide +kernel)
set_option maxRecDepth 20000 in
theorem gX4_over_X1_product : GoodIn wsX4_over (va_wsS RX4 170 yX1_product wsX1_product) := goodIn_app (goodIn_of _ (by decide +kernel)) ggX4_over_X1_product
theorem dX4_over_0 : decode cX4_over 0 = .ok (.iload_n 2, 1) := by decide +kernel
theorem dX4_over_1 : decode cX4_over 1 = .ok (.bipush 63, 2) := by decide +kernel
theorem dX4_over_3 : decode cX4_over 3 = .ok (.iand, 1) := by decide +kernel
theorem dX4_over_4 : decode cX4_over 4 = .ok (.istore_n 3, 1) := by decide +kernel
theorem dX4_over_5 : decode cX4_over 5 = .ok (.iload_n 3, 1) := by decide +kernel
theorem dX4_over_6 : decode cX4_over 6 = .ok (.ifCond .ne 13, 3) := by decide +kernel
theorem dX4_over_9 : decode cX4_over 9 = .ok (.new 162, 3) := by decide +kernel
theorem dX4_over_12 : decode cX4_over 12 = .ok (.dup, 1) := by decide +kernel
theorem dX4_over_13 : decode cX4_over 13 = .ok (.ldc 164, 2) := by decide +kernel
theorem dX4_over_15 : decode cX4_over 15 = .ok (.invokespecial 166, 3) := by decide +kernel
theorem dX4_over_18 : decode cX4_over 18 = .ok (.athrow, 1) := by decide +kernel
theorem dX4_over_19 : decode cX4_over 19 = .ok (.iload_n 1, 1) := by decide +kernel
theorem dX4_over_20 : decode cX4_over 20 = .ok (.bipush 63, 2) := by decide +kernel
theorem dX4_over_22 : decode cX4_over 22 = .ok (.iand, 1) := by decide +kernel
theorem dX4_over_23 : decode cX4_over 23 = .ok (.iload_n 3, 1) := by decide +kernel
theorem dX4_over_24 : decode cX4_over 24 = .ok (.invokestatic 167, 3) := by decide +kernel
theorem dX4_over_27 : decode cX4_over 27 = .ok (.invokestatic 170, 3) := by decide +kernel
theorem dX4_over_30 : decode cX4_over 30 = .ok (.ireturn, 1) := by decide +kernel
theorem dX4_turned_0 : decode cX4_turned 0 = .ok (.aload_n 0, 1) := by decide +kernel
theorem dX4_turned_1 : decode cX4_turned 1 = .ok (.getfield 24, 3) := by decide +kernel
theorem dX4_turned_4 : decode cX4_turned 4 = .ok (.ireturn, 1) := by decide +kernel
theorem dX4_formNumber_0 : decode cX4_formNumber 0 = .ok (.iload_n 0, 1) := by decide +kernel
theorem dX4_formNumber_1 : decode cX4_formNumber 1 = .ok (.ifCond .ge 5, 3) := by decide +kernel
theorem dX4_formNumber_4 : decode cX4_formNumber 4 = .ok (.iconst 0, 1) := by decide +kernel
theorem dX4_formNumber_5 : decode cX4_formNumber 5 = .ok (.ireturn, 1) := by decide +kernel
theorem dX4_formNumber_6 : decode cX4_formNumber 6 = .ok (.iload_n 0, 1) := by decide +kernel
theorem dX4_formNumber_7 : decode cX4_formNumber 7 = .ok (.ldc 174, 2) := by decide +kernel
theorem dX4_formNumber_9 : decode cX4_formNumber 9 = .ok (.if_icmp .le 10, 3) := by decide +kernel
theorem dX4_formNumber_12 : decode cX4_formNumber 12 = .ok (.iload_n 0, 1) := by decide +kernel
theorem dX4_formNumber_13 : decode cX4_formNumber 13 = .ok (.ldc 175, 2) := by decide +kernel
theorem dX4_formNumber_15 : decode cX4_formNumber 15 = .ok (.irem, 1) := by decide +kernel
theorem dX4_formNumber_16 : decode cX4_formNumber 16 = .ok (.goto 4, 3) := by decide +kernel
theorem dX4_formNumber_19 : decode cX4_formNumber 19 = .ok (.iload_n 0, 1) := by decide +kernel
theorem dX4_formNumber_20 : decode cX4_formNumber 20 = .ok (.ireturn, 1) := by decide +kernel
set_option maxRecDepth 20000 in
theorem ggX4_bestMask_X2_draw : GoodIn wsX4_bestMask wsX2_draw := goodIn_r _ [8, 9, 10, 11, 12, 13, 14, 15, 16, 17, 7, 18, 19, 20, 21, 22, 23, 24, 25, 26, 27, 28, 29, 30, 31, 32, 33, 34, 35, 36, 37, 38, 39, 40, 41, 42, 43, 44, 45, 46, 47, 48, 49, 50, 51, 52, 53, 80, 81, 82, 83, 84, 85, 86, 87, 88, 89] (by decide +kernel) (by decide +kernel)
set_option maxRecDepth 20000 in
theorem gX4_bestMask_X2_draw : GoodIn wsX4_bestMask (wsV RX4 116 RX2 yX2_draw wsX2_draw) := goodIn_app (goodIn_of _ (by decide +kernel)) ggX4_bestMask_X2_draw
set_option maxRecDepth 20000 in
theorem ggX4_bestMask_X3_penalty : GoodIn wsX4_bestMask wsX3_penalty := goodIn_r _ [56, 57, 58, 59, 60, 61, 62, 24, 63, 64, 65, 66] (by decide +kernel) (by decide +kernel)
set_option maxRecDepth 20000 in
theorem gX4_bestMask_X3_penalty : GoodIn wsX4_bestMask (va_wsS RX4 176 yX3_penalty wsX3_penalty) := goodIn_app (goodIn_of _ (by decide +kernel)) ggX4_bestMask_X3_penalty
theorem dX4_bestMask_0 : decode cX4_bestMask 0 = .ok (.iconst (-1), 1) := by decide +kernel
theorem dX4_bestMask_1 : decode cX4_bestMask 1 = .ok (.istore_n 1, 1) := by decide +kernel
theorem dX4_bestMask_2 : decode cX4_bestMask 2 = .ok (.iconst 0, 1) := by decide +kernel
theorem dX4_bestMask_3 : decode cX4_bestMask 3 = .ok (.istore_n 2, 1) := by decide +kernel
theorem dX4_bestMask_4 : decode cX4_bestMask 4 = .ok (.iconst 0, 1) := by decide +kernel
theorem dX4_bestMask_5 : decode cX4_bestMask 5 = .ok (.istore_n 3, 1) := by decide +kernel
theorem dX4_bestMask_6 : decode cX4_bestMask 6 = .ok (.iload_n 3, 1) := by decide +kernel
theorem dX4_bestMask_7 : decode cX4_bestMask 7 = .ok (.iconst 4, 1) := by decide +kernel
theorem dX4_bestMask_8 : decode cX4_bestMask 8 = .ok (.if_icmp .ge 50, 3) := by decide +kernel
theorem dX4_bestMask_11 : decode cX4_bestMask 11 = .ok (.aload_n 0, 1) := by decide +kernel
theorem dX4_bestMask_12 : decode cX4_bestMask 12 = .ok (.getfield 39, 3) := by decide +kernel
theorem dX4_bestMask_15 : decode cX4_bestMask 15 = .ok (.aload_n 0, 1) := by decide +kernel
theorem dX4_bestMask_16 : decode cX4_bestMask 16 = .ok (.getfield 82, 3) := by decide +kernel
theorem dX4_bestMask_19 : decode cX4_bestMask 19 = .ok (.iload_n 3, 1) := by decide +kernel
theorem dX4_bestMask_20 : decode cX4_bestMask 20 = .ok (.aload_n 0, 1) := by decide +kernel
theorem dX4_bestMask_21 : decode cX4_bestMask 21 = .ok (.getfield 79, 3) := by decide +kernel
theorem dX4_bestMask_24 : decode cX4_bestMask 24 = .ok (.invokevirtual 116, 3) := by decide +kernel
theorem dX4_bestMask_27 : decode cX4_bestMask 27 = .ok (.aload_n 0, 1) := by decide +kernel
theorem dX4_bestMask_28 : decode cX4_bestMask 28 = .ok (.getfield 79, 3) := by decide +kernel
theorem dX4_bestMask_31 : decode cX4_bestMask 31 = .ok (.invokestatic 176, 3) := by decide +kernel
theorem dX4_bestMask_34 : decode cX4_bestMask 34 = .ok (.istore 4, 2) := by decide +kernel
theorem dX4_bestMask_36 : decode cX4_bestMask 36 = .ok (.iload_n 1, 1) := by decide +kernel
theorem dX4_bestMask_37 : decode cX4_bestMask 37 = .ok (.iconst (-1), 1) := by decide +kernel
theorem dX4_bestMask_38 : decode cX4_bestMask 38 = .ok (.if_icmp .eq 9, 3) := by decide +kernel
theorem dX4_bestMask_41 : decode cX4_bestMask 41 = .ok (.iload 4, 2) := by decide +kernel
theorem dX4_bestMask_43 : decode cX4_bestMask 43 = .ok (.iload_n 2, 1) := by decide +kernel
theorem dX4_bestMask_44 : decode cX4_bestMask 44 = .ok (.if_icmp .ge 8, 3) := by decide +kernel
theorem dX4_bestMask_47 : decode cX4_bestMask 47 = .ok (.iload 4, 2) := by decide +kernel
theorem dX4_bestMask_49 : decode cX4_bestMask 49 = .ok (.istore_n 2, 1) := by decide +kernel
theorem dX4_bestMask_50 : decode cX4_bestMask 50 = .ok (.iload_n 3, 1) := by decide +kernel
theorem dX4_bestMask_51 : decode cX4_bestMask 51 = .ok (.istore_n 1, 1) := by decide +kernel
theorem dX4_bestMask_52 : decode cX4_bestMask 52 = .ok (.iinc 3 1, 3) := by decide +kernel
theorem dX4_bestMask_55 : decode cX4_bestMask 55 = .ok (.goto (-49), 3) := by decide +kernel
theorem dX4_bestMask_58 : decode cX4_bestMask 58 = .ok (.iload_n 1, 1) := by decide +kernel
theorem dX4_bestMask_59 : decode cX4_bestMask 59 = .ok (.ireturn, 1) := by decide +kernel
theorem dX5_init_0 : decode cX5_init 0 = .ok (.aload_n 0, 1) := by decide +kernel
theorem dX5_init_1 : decode cX5_init 1 = .ok (.invokespecial 1, 3) := by decide +kernel
theorem dX5_init_4 : decode cX5_init 4 = .ok (.aload_n 0, 1) := by decide +kernel
theorem dX5_init_5 : decode cX5_init 5 = .ok (.iconst 4, 1) := by decide +kernel
theorem dX5_init_6 : decode cX5_init 6 = .ok (.newarray .int, 2) := by decide +kernel
theorem dX5_init_8 : decode cX5_init 8 = .ok (.putfield 7, 3) := by decide +kernel
theorem dX5_init_11 : decode cX5_init 11 = .ok (.aload_n 0, 1) := by decide +kernel
theorem dX5_init_12 : decode cX5_init 12 = .ok (.iconst 4, 1) := by decide +kernel
theorem dX5_init_13 : decode cX5_init 13 = .ok (.newarray .long, 2) := by decide +kernel
theorem dX5_init_15 : decode cX5_init 15 = .ok (.putfield 13, 3) := by decide +kernel
theorem dX5_init_18 : decode cX5_init 18 = .ok (.aload_n 0, 1) := by decide +kernel
theorem dX5_init_19 : decode cX5_init 19 = .ok (.iconst 4, 1) := by decide +kernel
theorem dX5_init_20 : decode cX5_init 20 = .ok (.newarray .boolean, 2) := by decide +kernel
theorem dX5_init_22 : decode cX5_init 22 = .ok (.putfield 17, 3) := by decide +kernel
theorem dX5_init_25 : decode cX5_init 25 = .ok (.aload_n 0, 1) := by decide +kernel
theorem dX5_init_26 : decode cX5_init 26 = .ok (.sipush 144, 3) := by decide +kernel
theorem dX5_init_29 : decode cX5_init 29 = .ok (.newarray .int, 2) := by decide +kernel
theorem dX5_init_31 : decode cX5_init 31 = .ok (.putfield 21, 3) := by decide +kernel
theorem dX5_init_34 : decode cX5_init 34 = .ok (.aload_n 0, 1) := by decide +kernel
theorem dX5_init_35 : decode cX5_init 35 = .ok (.sipush 200, 3) := by decide +kernel
theorem dX5_init_38 : decode cX5_init 38 = .ok (.newarray .int, 2) := by decide +kernel
theorem dX5_init_40 : decode cX5_init 40 = .ok (.putfield 24, 3) := by decide +kernel
theorem dX5_init_43 : decode cX5_init 43 = .ok (.aload_n 0, 1) := by decide +kernel
theorem dX5_init_44 : decode cX5_init 44 = .ok (.iconst 4, 1) := by decide +kernel
theorem dX5_init_45 : decode cX5_init 45 = .ok (.newarray .long, 2) := by decide +kernel
theorem dX5_init_47 : decode cX5_init 47 = .ok (.putfield 27, 3) := by decide +kernel
theorem dX5_init_50 : decode cX5_init 50 = .ok (.aload_n 0, 1) := by decide +kernel
theorem dX5_init_51 : decode cX5_init 51 = .ok (.iconst (-1), 1) := by decide +kernel
theorem dX5_init_52 : decode cX5_init 52 = .ok (.putfield 30, 3) := by decide +kernel
theorem dX5_init_55 : decode cX5_init 55 = .ok (.aload_n 0, 1) := by decide +kernel
theorem dX5_init_56 : decode cX5_init 56 = .ok (.iconst (-1), 1) := by decide +kernel
theorem dX5_init_57 : decode cX5_init 57 = .ok (.putfield 34, 3) := by decide +kernel
theorem dX5_init_60 : decode cX5_init 60 = .ok (.aload_n 0, 1) := by decide +kernel
theorem dX5_init_61 : decode cX5_init 61 = .ok (.bipush 22, 2) := by decide +kernel
theorem dX5_init_63 : decode cX5_init 63 = .ok (.newarray .int, 2) := by decide +kernel
theorem dX5_init_65 : decode cX5_init 65 = .ok (.putfield 37, 3) := by decide +kernel
theorem dX5_init_68 : decode cX5_init 68 = .ok (.aload_n 0, 1) := by decide +kernel
theorem dX5_init_69 : decode cX5_init 69 = .ok (.bipush 22, 2) := by decide +kernel
theorem dX5_init_71 : decode cX5_init 71 = .ok (.newarray .boolean, 2) := by decide +kernel
theorem dX5_init_73 : decode cX5_init 73 = .ok (.putfield 40, 3) := by decide +kernel
theorem dX5_init_76 : decode cX5_init 76 = .ok (.aload_n 0, 1) := by decide +kernel
theorem dX5_init_77 : decode cX5_init 77 = .ok (.bipush 72, 2) := by decide +kernel
theorem dX5_init_79 : decode cX5_init 79 = .ok (.newarray .int, 2) := by decide +kernel
theorem dX5_init_81 : decode cX5_init 81 = .ok (.putfield 43, 3) := by decide +kernel
theorem dX5_init_84 : decode cX5_init 84 = .ok (.aload_n 0, 1) := by decide +kernel
theorem dX5_init_85 : decode cX5_init 85 = .ok (.bipush 8, 2) := by decide +kernel
theorem dX5_init_87 : decode cX5_init 87 = .ok (.newarray .int, 2) := by decide +kernel
theorem dX5_init_89 : decode cX5_init 89 = .ok (.putfield 46, 3) := by decide +kernel
theorem dX5_init_92 : decode cX5_init 92 = .ok (.aload_n 0, 1) := by decide +kernel
theorem dX5_init_93 : decode cX5_init 93 = .ok (.sipush 144, 3) := by decide +kernel
theorem dX5_init_96 : decode cX5_init 96 = .ok (.newarray .int, 2) := by decide +kernel
theorem dX5_init_98 : decode cX5_init 98 = .ok (.putfield 49, 3) := by decide +kernel
theorem dX5_init_101 : decode cX5_init 101 = .ok (.aload_n 0, 1) := by decide +kernel
theorem dX5_init_102 : decode cX5_init 102 = .ok (.iload_n 1, 1) := by decide +kernel
theorem dX5_init_103 : decode cX5_init 103 = .ok (.ifCond .ge 7, 3) := by decide +kernel
theorem dX5_init_106 : decode cX5_init 106 = .ok (.iconst 0, 1) := by decide +kernel
theorem dX5_init_107 : decode cX5_init 107 = .ok (.goto 7, 3) := by decide +kernel
theorem dX5_init_110 : decode cX5_init 110 = .ok (.iload_n 1, 1) := by decide +kernel
theorem dX5_init_111 : decode cX5_init 111 = .ok (.ldc 52, 2) := by decide +kernel
theorem dX5_init_113 : decode cX5_init 113 = .ok (.irem, 1) := by decide +kernel
theorem dX5_init_114 : decode cX5_init 114 = .ok (.putfield 53, 3) := by decide +kernel
theorem dX5_init_117 : decode cX5_init 117 = .ok (.aload_n 0, 1) := by decide +kernel
theorem dX5_init_118 : decode cX5_init 118 = .ok (.aload_n 0, 1) := by decide +kernel
theorem dX5_init_119 : decode cX5_init 119 = .ok (.getfield 53, 3) := by decide +kernel
theorem dX5_init_122 : decode cX5_init 122 = .ok (.ifCond .ne 7, 3) := by decide +kernel
theorem dX5_init_125 : decode cX5_init 125 = .ok (.iconst 0, 1) := by decide +kernel
theorem dX5_init_126 : decode cX5_init 126 = .ok (.goto 28, 3) := by decide +kernel
theorem dX5_init_129 : decode cX5_init 129 = .ok (.aload_n 0, 1) := by decide +kernel
theorem dX5_init_130 : decode cX5_init 130 = .ok (.getfield 53, 3) := by decide +kernel
theorem dX5_init_133 : decode cX5_init 133 = .ok (.iconst 1, 1) := by decide +kernel
theorem dX5_init_134 : decode cX5_init 134 = .ok (.if_icmp .ne 7, 3) := by decide +kernel
theorem dX5_init_137 : decode cX5_init 137 = .ok (.iconst 1, 1) := by decide +kernel
theorem dX5_init_138 : decode cX5_init 138 = .ok (.goto 16, 3) := by decide +kernel
theorem dX5_init_141 : decode cX5_init 141 = .ok (.aload_n 0, 1) := by decide +kernel
theorem dX5_init_142 : decode cX5_init 142 = .ok (.getfield 53, 3) := by decide +kernel
theorem dX5_init_145 : decode cX5_init 145 = .ok (.iconst 2, 1) := by decide +kernel
theorem dX5_init_146 : decode cX5_init 146 = .ok (.if_icmp .ne 7, 3) := by decide +kernel
theorem dX5_init_149 : decode cX5_init 149 = .ok (.iconst 2, 1) := by decide +kernel
theorem dX5_init_150 : decode cX5_init 150 = .ok (.goto 4, 3) := by decide +kernel
theorem dX5_init_153 : decode cX5_init 153 = .ok (.iconst 3, 1) := by decide +kernel
theorem dX5_init_154 : decode cX5_init 154 = .ok (.putfield 56, 3) := by decide +kernel
theorem dX5_init_157 : decode cX5_init 157 = .ok (.aload_n 0, 1) := by decide +kernel
theorem dX5_init_158 : decode cX5_init 158 = .ok (.aload_n 0, 1) := by decide +kernel
theorem dX5_init_159 : decode cX5_init 159 = .ok (.getfield 56, 3) := by decide +kernel
theorem dX5_init_162 : decode cX5_init 162 = .ok (.ifCond .ne 7, 3) := by decide +kernel
theorem dX5_init_165 : decode cX5_init 165 = .ok (.iconst 3, 1) := by decide +kernel
theorem dX5_init_166 : decode cX5_init 166 = .ok (.goto 28, 3) := by decide +kernel
theorem dX5_init_169 : decode cX5_init 169 = .ok (.aload_n 0, 1) := by decide +kernel
theorem dX5_init_170 : decode cX5_init 170 = .ok (.getfield 56, 3) := by decide +kernel
theorem dX5_init_173 : decode cX5_init 173 = .ok (.iconst 1, 1) := by decide +kernel
theorem dX5_init_174 : decode cX5_init 174 = .ok (.if_icmp .ne 7, 3) := by decide +kernel
theorem dX5_init_177 : decode cX5_init 177 = .ok (.iconst 4, 1) := by decide +kernel
theorem dX5_init_178 : decode cX5_init 178 = .ok (.goto 16, 3) := by decide +kernel
theorem dX5_init_181 : decode cX5_init 181 = .ok (.aload_n 0, 1) := by decide +kernel
theorem dX5_init_182 : decode cX5_init 182 = .ok (.getfield 56, 3) := by decide +kernel
theorem dX5_init_185 : decode cX5_init 185 = .ok (.iconst 2, 1) := by decide +kernel
theorem dX5_init_186 : decode cX5_init 186 = .ok (.if_icmp .ne 7, 3) := by decide +kernel
theorem dX5_init_189 : decode cX5_init 189 = .ok (.iconst 2, 1) := by decide +kernel
theorem dX5_init_190 : decode cX5_init 190 = .ok (.goto 4, 3) := by decide +kernel
theorem dX5_init_193 : decode cX5_init 193 = .ok (.iconst 1, 1) := by decide +kernel
theorem dX5_init_194 : decode cX5_init 194 = .ok (.putfield 59, 3) := by decide +kernel
theorem dX5_init_197 : decode cX5_init 197 = .ok (.aload_n 0, 1) := by decide +kernel
theorem dX5_init_198 : decode cX5_init 198 = .ok (.getfield 7, 3) := by decide +kernel
theorem dX5_init_201 : decode cX5_init 201 = .ok (.iconst 0, 1) := by decide +kernel
theorem dX5_init_202 : decode cX5_init 202 = .ok (.aload_n 0, 1) := by decide +kernel
theorem dX5_init_203 : decode cX5_init 203 = .ok (.getfield 56, 3) := by decide +kernel
theorem dX5_init_206 : decode cX5_init 206 = .ok (.iconst 2, 1) := by decide +kernel
theorem dX5_init_207 : decode cX5_init 207 = .ok (.if_icmp .ne 8, 3) := by decide +kernel
theorem dX5_init_210 : decode cX5_init 210 = .ok (.bipush 12, 2) := by decide +kernel
theorem dX5_init_212 : decode cX5_init 212 = .ok (.goto 18, 3) := by decide +kernel
theorem dX5_init_215 : decode cX5_init 215 = .ok (.aload_n 0, 1) := by decide +kernel
theorem dX5_init_216 : decode cX5_init 216 = .ok (.getfield 56, 3) := by decide +kernel
theorem dX5_init_219 : decode cX5_init 219 = .ok (.iconst 3, 1) := by decide +kernel
theorem dX5_init_220 : decode cX5_init 220 = .ok (.if_icmp .ne 8, 3) := by decide +kernel
theorem dX5_init_223 : decode cX5_init 223 = .ok (.bipush 18, 2) := by decide +kernel
theorem dX5_init_225 : decode cX5_init 225 = .ok (.goto 5, 3) := by decide +kernel
theorem dX5_init_228 : decode cX5_init 228 = .ok (.bipush 6, 2) := by decide +kernel
theorem dX5_init_230 : decode cX5_init 230 = .ok (.iastore, 1) := by decide +kernel
theorem dX5_init_231 : decode cX5_init 231 = .ok (.aload_n 0, 1) := by decide +kernel
theorem dX5_init_232 : decode cX5_init 232 = .ok (.getfield 7, 3) := by decide +kernel
theorem dX5_init_235 : decode cX5_init 235 = .ok (.iconst 1, 1) := by decide +kernel
theorem dX5_init_236 : decode cX5_init 236 = .ok (.aload_n 0, 1) := by decide +kernel
theorem dX5_init_237 : decode cX5_init 237 = .ok (.getfield 56, 3) := by decide +kernel
theorem dX5_init_240 : decode cX5_init 240 = .ok (.iconst 2, 1) := by decide +kernel
theorem dX5_init_241 : decode cX5_init 241 = .ok (.if_icmp .ne 8, 3) := by decide +kernel
theorem dX5_init_244 : decode cX5_init 244 = .ok (.bipush 36, 2) := by decide +kernel
theorem dX5_init_246 : decode cX5_init 246 = .ok (.goto 5, 3) := by decide +kernel
theorem dX5_init_249 : decode cX5_init 249 = .ok (.bipush 24, 2) := by decide +kernel
theorem dX5_init_251 : decode cX5_init 251 = .ok (.iastore, 1) := by decide +kernel
theorem dX5_init_252 : decode cX5_init 252 = .ok (.aload_n 0, 1) := by decide +kernel
theorem dX5_init_253 : decode cX5_init 253 = .ok (.getfield 7, 3) := by decide +kernel
theorem dX5_init_256 : decode cX5_init 256 = .ok (.iconst 2, 1) := by decide +kernel
theorem dX5_init_257 : decode cX5_init 257 = .ok (.aload_n 0, 1) := by decide +kernel
theorem dX5_init_258 : decode cX5_init 258 = .ok (.getfield 56, 3) := by decide +kernel
theorem dX5_init_261 : decode cX5_init 261 = .ok (.ifCond .ne 8, 3) := by decide +kernel
theorem dX5_init_264 : decode cX5_init 264 = .ok (.bipush 18, 2) := by decide +kernel
theorem dX5_init_266 : decode cX5_init 266 = .ok (.goto 5, 3) := by decide +kernel
theorem dX5_init_269 : decode cX5_init 269 = .ok (.bipush 30, 2) := by decide +kernel
theorem dX5_init_271 : decode cX5_init 271 = .ok (.iastore, 1) := by decide +kernel
theorem dX5_init_272 : decode cX5_init 272 = .ok (.aload_n 0, 1) := by decide +kernel
theorem dX5_init_273 : decode cX5_init 273 = .ok (.getfield 7, 3) := by decide +kernel
theorem dX5_init_276 : decode cX5_init 276 = .ok (.iconst 3, 1) := by decide +kernel
theorem dX5_init_277 : decode cX5_init 277 = .ok (.bipush 36, 2) := by decide +kernel
theorem dX5_init_279 : decode cX5_init 279 = .ok (.iastore, 1) := by decide +kernel
theorem dX5_init_280 : decode cX5_init 280 = .ok (.aload_n 0, 1) := by decide +kernel
theorem dX5_init_281 : decode cX5_init 281 = .ok (.aload_n 0, 1) := by decide +kernel
theorem dX5_init_282 : decode cX5_init 282 = .ok (.getfield 56, 3) := by decide +kernel
theorem dX5_init_285 : decode cX5_init 285 = .ok (.ifCond .ne 7, 3) := by decide +kernel
theorem dX5_init_288 : decode cX5_init 288 = .ok (.iconst 4, 1) := by decide +kernel
theorem dX5_init_289 : decode cX5_init 289 = .ok (.goto 30, 3) := by decide +kernel
theorem dX5_init_292 : decode cX5_init 292 = .ok (.aload_n 0, 1) := by decide +kernel
theorem dX5_init_293 : decode cX5_init 293 = .ok (.getfield 56, 3) := by decide +kernel
theorem dX5_init_296 : decode cX5_init 296 = .ok (.iconst 1, 1) := by decide +kernel
theorem dX5_init_297 : decode cX5_init 297 = .ok (.if_icmp .ne 8, 3) := by decide +kernel
theorem dX5_init_300 : decode cX5_init 300 = .ok (.bipush 6, 2) := by decide +kernel
theorem dX5_init_302 : decode cX5_init 302 = .ok (.goto 17, 3) := by decide +kernel
theorem dX5_init_305 : decode cX5_init 305 = .ok (.aload_n 0, 1) := by decide +kernel
theorem dX5_init_306 : decode cX5_init 306 = .ok (.getfield 56, 3) := by decide +kernel
theorem dX5_init_309 : decode cX5_init 309 = .ok (.iconst 2, 1) := by decide +kernel
theorem dX5_init_310 : decode cX5_init 310 = .ok (.if_icmp .ne 8, 3) := by decide +kernel
theorem dX5_init_313 : decode cX5_init 313 = .ok (.bipush 8, 2) := by decide +kernel
theorem dX5_init_315 : decode cX5_init 315 = .ok (.goto 4, 3) := by decide +kernel
theorem dX5_init_318 : decode cX5_init 318 = .ok (.iconst 2, 1) := by decide +kernel
theorem dX5_init_319 : decode cX5_init 319 = .ok (.putfield 62, 3) := by decide +kernel
theorem dX5_init_322 : decode cX5_init 322 = .ok (.aload_n 0, 1) := by decide +kernel
theorem dX5_init_323 : decode cX5_init 323 = .ok (.aload_n 0, 1) := by decide +kernel
theorem dX5_init_324 : decode cX5_init 324 = .ok (.getfield 62, 3) := by decide +kernel
theorem dX5_init_327 : decode cX5_init 327 = .ok (.aload_n 0, 1) := by decide +kernel
theorem dX5_init_328 : decode cX5_init 328 = .ok (.getfield 56, 3) := by decide +kernel
theorem dX5_init_331 : decode cX5_init 331 = .ok (.iconst 1, 1) := by decide +kernel
theorem dX5_init_332 : decode cX5_init 332 = .ok (.if_icmp .ne 8, 3) := by decide +kernel
theorem dX5_init_335 : decode cX5_init 335 = .ok (.bipush 16, 2) := by decide +kernel
theorem dX5_init_337 : decode cX5_init 337 = .ok (.goto 17, 3) := by decide +kernel
theorem dX5_init_340 : decode cX5_init 340 = .ok (.aload_n 0, 1) := by decide +kernel
theorem dX5_init_341 : decode cX5_init 341 = .ok (.getfield 56, 3) := by decide +kernel
theorem dX5_init_344 : decode cX5_init 344 = .ok (.iconst 3, 1) := by decide +kernel
theorem dX5_init_345 : decode cX5_init 345 = .ok (.if_icmp .ne 7, 3) := by decide +kernel
theorem dX5_init_348 : decode cX5_init 348 = .ok (.iconst 3, 1) := by decide +kernel
theorem dX5_init_349 : decode cX5_init 349 = .ok (.goto 5, 3) := by decide +kernel
theorem dX5_init_352 : decode cX5_init 352 = .ok (.bipush 8, 2) := by decide +kernel
theorem dX5_init_354 : decode cX5_init 354 = .ok (.iadd, 1) := by decide +kernel
theorem dX5_init_355 : decode cX5_init 355 = .ok (.putfield 65, 3) := by decide +kernel
theorem dX5_init_358 : decode cX5_init 358 = .ok (.return_, 1) := by decide +kernel
theorem dX5_thrown_0 : decode cX5_thrown 0 = .ok (.aload_n 0, 1) := by decide +kernel
theorem dX5_thrown_1 : decode cX5_thrown 1 = .ok (.getfield 68, 3) := by decide +kernel
theorem dX5_thrown_4 : decode cX5_thrown 4 = .ok (.ireturn, 1) := by decide +kernel
theorem dX5_times_0 : decode cX5_times 0 = .ok (.iconst 0, 1) := by decide +kernel
theorem dX5_times_1 : decode cX5_times 1 = .ok (.istore_n 2, 1) := by decide +kernel
theorem dX5_times_2 : decode cX5_times 2 = .ok (.iconst 0, 1) := by decide +kernel
theorem dX5_times_3 : decode cX5_times 3 = .ok (.istore_n 3, 1) := by decide +kernel
theorem dX5_times_4 : decode cX5_times 4 = .ok (.iload_n 3, 1) := by decide +kernel
theorem dX5_times_5 : decode cX5_times 5 = .ok (.bipush 6, 2) := by decide +kernel
theorem dX5_times_7 : decode cX5_times 7 = .ok (.if_icmp .ge 28, 3) := by decide +kernel
theorem dX5_times_10 : decode cX5_times 10 = .ok (.iload_n 1, 1) := by decide +kernel
theorem dX5_times_11 : decode cX5_times 11 = .ok (.iload_n 3, 1) := by decide +kernel
theorem dX5_times_12 : decode cX5_times 12 = .ok (.ishr, 1) := by decide +kernel
theorem dX5_times_13 : decode cX5_times 13 = .ok (.iconst 1, 1) := by decide +kernel
theorem dX5_times_14 : decode cX5_times 14 = .ok (.iand, 1) := by decide +kernel
theorem dX5_times_15 : decode cX5_times 15 = .ok (.iconst 1, 1) := by decide +kernel
theorem dX5_times_16 : decode cX5_times 16 = .ok (.if_icmp .ne 11, 3) := by decide +kernel
theorem dX5_times_19 : decode cX5_times 19 = .ok (.iload_n 2, 1) := by decide +kernel
theorem dX5_times_20 : decode cX5_times 20 = .ok (.iload_n 0, 1) := by decide +kernel
theorem dX5_times_21 : decode cX5_times 21 = .ok (.iload_n 3, 1) := by decide +kernel
theorem dX5_times_22 : decode cX5_times 22 = .ok (.ishl, 1) := by decide +kernel
theorem dX5_times_23 : decode cX5_times 23 = .ok (.ixor, 1) := by decide +kernel
theorem dX5_times_24 : decode cX5_times 24 = .ok (.goto 4, 3) := by decide +kernel
theorem dX5_times_27 : decode cX5_times 27 = .ok (.iload_n 2, 1) := by decide +kernel
theorem dX5_times_28 : decode cX5_times 28 = .ok (.istore_n 2, 1) := by decide +kernel
theorem dX5_times_29 : decode cX5_times 29 = .ok (.iinc 3 1, 3) := by decide +kernel
theorem dX5_times_32 : decode cX5_times 32 = .ok (.goto (-28), 3) := by decide +kernel
theorem dX5_times_35 : decode cX5_times 35 = .ok (.bipush 10, 2) := by decide +kernel
theorem dX5_times_37 : decode cX5_times 37 = .ok (.istore_n 3, 1) := by decide +kernel
theorem dX5_times_38 : decode cX5_times 38 = .ok (.iload_n 3, 1) := by decide +kernel
theorem dX5_times_39 : decode cX5_times 39 = .ok (.iconst 5, 1) := by decide +kernel
theorem dX5_times_40 : decode cX5_times 40 = .ok (.if_icmp .le 32, 3) := by decide +kernel
theorem dX5_times_43 : decode cX5_times 43 = .ok (.iload_n 2, 1) := by decide +kernel
theorem dX5_times_44 : decode cX5_times 44 = .ok (.iload_n 3, 1) := by decide +kernel
theorem dX5_times_45 : decode cX5_times 45 = .ok (.ishr, 1) := by decide +kernel
theorem dX5_times_46 : decode cX5_times 46 = .ok (.iconst 1, 1) := by decide +kernel
theorem dX5_times_47 : decode cX5_times 47 = .ok (.iand, 1) := by decide +kernel
theorem dX5_times_48 : decode cX5_times 48 = .ok (.iconst 1, 1) := by decide +kernel
theorem dX5_times_49 : decode cX5_times 49 = .ok (.if_icmp .ne 15, 3) := by decide +kernel
theorem dX5_times_52 : decode cX5_times 52 = .ok (.iload_n 2, 1) := by decide +kernel
theorem dX5_times_53 : decode cX5_times 53 = .ok (.bipush 67, 2) := by decide +kernel
theorem dX5_times_55 : decode cX5_times 55 = .ok (.iload_n 3, 1) := by decide +kernel
theorem dX5_times_56 : decode cX5_times 56 = .ok (.bipush 6, 2) := by decide +kernel
theorem dX5_times_58 : decode cX5_times 58 = .ok (.isub, 1) := by decide +kernel
theorem dX5_times_59 : decode cX5_times 59 = .ok (.ishl, 1) := by decide +kernel
theorem dX5_times_60 : decode cX5_times 60 = .ok (.ixor, 1) := by decide +kernel
theorem dX5_times_61 : decode cX5_times 61 = .ok (.goto 4, 3) := by decide +kernel
theorem dX5_times_64 : decode cX5_times 64 = .ok (.iload_n 2, 1) := by decide +kernel
theorem dX5_times_65 : decode cX5_times 65 = .ok (.istore_n 2, 1) := by decide +kernel
theorem dX5_times_66 : decode cX5_times 66 = .ok (.iinc 3 (-1), 3) := by decide +kernel
theorem dX5_times_69 : decode cX5_times 69 = .ok (.goto (-31), 3) := by decide +kernel
theorem dX5_times_72 : decode cX5_times 72 = .ok (.iload_n 2, 1) := by decide +kernel
theorem dX5_times_73 : decode cX5_times 73 = .ok (.ireturn, 1) := by decide +kernel
set_option maxRecDepth 20000 in
theorem ggX5_inverse_X5_times : GoodIn wsX5_inverse wsX5_times := goodIn_r _ [4] (by decide +kernel) (by decide +kernel)
set_option maxRecDepth 20000 in
theorem gX5_inverse_X5_times : GoodIn wsX5_inverse (va_wsS RX5 71 yX5_times wsX5_times) := goodIn_app (goodIn_of _ (by decide +kernel)) ggX5_inverse_X5_times
theorem dX5_inverse_0 : decode cX5_inverse 0 = .ok (.iconst 1, 1) := by decide +kernel
theorem dX5_inverse_1 : decode cX5_inverse 1 = .ok (.istore_n 1, 1) := by decide +kernel
theorem dX5_inverse_2 : decode cX5_inverse 2 = .ok (.iload_n 0, 1) := by decide +kernel
theorem dX5_inverse_3 : decode cX5_inverse 3 = .ok (.iload_n 1, 1) := by decide +kernel
theorem dX5_inverse_4 : decode cX5_inverse 4 = .ok (.invokestatic 71, 3) := by decide +kernel
theorem dX5_inverse_7 : decode cX5_inverse 7 = .ok (.iconst 1, 1) := by decide +kernel
theorem dX5_inverse_8 : decode cX5_inverse 8 = .ok (.if_icmp .eq 9, 3) := by decide +kernel
theorem dX5_inverse_11 : decode cX5_inverse 11 = .ok (.iinc 1 1, 3) := by decide +kernel
theorem dX5_inverse_14 : decode cX5_inverse 14 = .ok (.goto (-12), 3) := by decide +kernel
theorem dX5_inverse_17 : decode cX5_inverse 17 = .ok (.iload_n 1, 1) := by decide +kernel
theorem dX5_inverse_18 : decode cX5_inverse 18 = .ok (.ireturn, 1) := by decide +kernel
set_option maxRecDepth 20000 in
theorem ggX5_power_X5_times : GoodIn wsX5_power wsX5_times := goodIn_r _ [4] (by decide +kernel) (by decide +kernel)
set_option maxRecDepth 20000 in
theorem gX5_power_X5_times : GoodIn wsX5_power (va_wsS RX5 71 yX5_times wsX5_times) := goodIn_app (goodIn_of _ (by decide +kernel)) ggX5_power_X5_times
theorem dX5_power_0 : decode cX5_power 0 = .ok (.iconst 1, 1) := by decide +kernel
theorem dX5_power_1 : decode cX5_power 1 = .ok (.istore_n 1, 1) := by decide +kernel
theorem dX5_power_2 : decode cX5_power 2 = .ok (.iconst 0, 1) := by decide +kernel
theorem dX5_power_3 : decode cX5_power 3 = .ok (.istore_n 2, 1) := by decide +kernel
theorem dX5_power_4 : decode cX5_power 4 = .ok (.iload_n 2, 1) := by decide +kernel
theorem dX5_power_5 : decode cX5_power 5 = .ok (.iload_n 0, 1) := by decide +kernel
theorem dX5_power_6 : decode cX5_power 6 = .ok (.if_icmp .ge 15, 3) := by decide +kernel
theorem dX5_power_9 : decode cX5_power 9 = .ok (.iload_n 1, 1) := by decide +kernel
theorem dX5_power_10 : decode cX5_power 10 = .ok (.iconst 2, 1) := by decide +kernel
theorem dX5_power_11 : decode cX5_power 11 = .ok (.invokestatic 71, 3) := by decide +kernel
theorem dX5_power_14 : decode cX5_power 14 = .ok (.istore_n 1, 1) := by decide +kernel
theorem dX5_power_15 : decode cX5_power 15 = .ok (.iinc 2 1, 3) := by decide +kernel
theorem dX5_power_18 : decode cX5_power 18 = .ok (.goto (-14), 3) := by decide +kernel
theorem dX5_power_21 : decode cX5_power 21 = .ok (.iload_n 1, 1) := by decide +kernel
theorem dX5_power_22 : decode cX5_power 22 = .ok (.ireturn, 1) := by decide +kernel
set_option maxRecDepth 20000 in
theorem ggX5_over_X5_inverse : GoodIn wsX5_over wsX5_inverse := goodIn_r _ [5, 6, 7, 4, 8] (by decide +kernel) (by decide +kernel)
set_option maxRecDepth 20000 in
theorem gX5_over_X5_inverse : GoodIn wsX5_over (va_wsS RX5 75 yX5_inverse wsX5_inverse) := goodIn_app (goodIn_of _ (by decide +kernel)) ggX5_over_X5_inverse
set_option maxRecDepth 20000 in
theorem ggX5_over_X5_times : GoodIn wsX5_over wsX5_times := goodIn_r _ [8] (by decide +kernel) (by decide +kernel)
set_option maxRecDepth 20000 in
theorem gX5_over_X5_times : GoodIn wsX5_over (va_wsS RX5 71 yX5_times wsX5_times) := goodIn_app (goodIn_of _ (by decide +kernel)) ggX5_over_X5_times
theorem dX5_over_0 : decode cX5_over 0 = .ok (.aload_n 0, 1) := by decide +kernel
theorem dX5_over_1 : decode cX5_over 1 = .ok (.iload_n 2, 1) := by decide +kernel
theorem dX5_over_2 : decode cX5_over 2 = .ok (.bipush 63, 2) := by decide +kernel
theorem dX5_over_4 : decode cX5_over 4 = .ok (.iand, 1) := by decide +kernel
theorem dX5_over_5 : decode cX5_over 5 = .ok (.ifCond .ne 7, 3) := by decide +kernel
theorem dX5_over_8 : decode cX5_over 8 = .ok (.iconst 1, 1) := by decide +kernel
theorem dX5_over_9 : decode cX5_over 9 = .ok (.goto 4, 3) := by decide +kernel
theorem dX5_over_12 : decode cX5_over 12 = .ok (.iconst 0, 1) := by decide +kernel
theorem dX5_over_13 : decode cX5_over 13 = .ok (.putfield 68, 3) := by decide +kernel
theorem dX5_over_16 : decode cX5_over 16 = .ok (.aload_n 0, 1) := by decide +kernel
theorem dX5_over_17 : decode cX5_over 17 = .ok (.getfield 68, 3) := by decide +kernel
theorem dX5_over_20 : decode cX5_over 20 = .ok (.ifCond .le 7, 3) := by decide +kernel
theorem dX5_over_23 : decode cX5_over 23 = .ok (.iconst 0, 1) := by decide +kernel
theorem dX5_over_24 : decode cX5_over 24 = .ok (.goto 17, 3) := by decide +kernel
theorem dX5_over_27 : decode cX5_over 27 = .ok (.iload_n 1, 1) := by decide +kernel
theorem dX5_over_28 : decode cX5_over 28 = .ok (.bipush 63, 2) := by decide +kernel
theorem dX5_over_30 : decode cX5_over 30 = .ok (.iand, 1) := by decide +kernel
theorem dX5_over_31 : decode cX5_over 31 = .ok (.iload_n 2, 1) := by decide +kernel
theorem dX5_over_32 : decode cX5_over 32 = .ok (.bipush 63, 2) := by decide +kernel
theorem dX5_over_34 : decode cX5_over 34 = .ok (.iand, 1) := by decide +kernel
theorem dX5_over_35 : decode cX5_over 35 = .ok (.invokestatic 75, 3) := by decide +kernel
theorem dX5_over_38 : decode cX5_over 38 = .ok (.invokestatic 71, 3) := by decide +kernel
theorem dX5_over_41 : decode cX5_over 41 = .ok (.ireturn, 1) := by decide +kernel
theorem dX5_field_0 : decode cX5_field 0 = .ok (.aload_n 0, 1) := by decide +kernel
theorem dX5_field_1 : decode cX5_field 1 = .ok (.iload_n 1, 1) := by decide +kernel
theorem dX5_field_2 : decode cX5_field 2 = .ok (.ifCond .lt 11, 3) := by decide +kernel
theorem dX5_field_5 : decode cX5_field 5 = .ok (.iload_n 1, 1) := by decide +kernel
theorem dX5_field_6 : decode cX5_field 6 = .ok (.aload_n 0, 1) := by decide +kernel
theorem dX5_field_7 : decode cX5_field 7 = .ok (.getfield 59, 3) := by decide +kernel
theorem dX5_field_10 : decode cX5_field 10 = .ok (.if_icmp .lt 7, 3) := by decide +kernel
theorem dX5_field_13 : decode cX5_field 13 = .ok (.iconst 1, 1) := by decide +kernel
theorem dX5_field_14 : decode cX5_field 14 = .ok (.goto 27, 3) := by decide +kernel
theorem dX5_field_17 : decode cX5_field 17 = .ok (.lload_n 2, 1) := by decide +kernel
theorem dX5_field_18 : decode cX5_field 18 = .ok (.lconst 0, 1) := by decide +kernel
theorem dX5_field_19 : decode cX5_field 19 = .ok (.lcmp, 1) := by decide +kernel
theorem dX5_field_20 : decode cX5_field 20 = .ok (.ifCond .lt 16, 3) := by decide +kernel
theorem dX5_field_23 : decode cX5_field 23 = .ok (.lload_n 2, 1) := by decide +kernel
theorem dX5_field_24 : decode cX5_field 24 = .ok (.aload_n 0, 1) := by decide +kernel
theorem dX5_field_25 : decode cX5_field 25 = .ok (.getfield 7, 3) := by decide +kernel
theorem dX5_field_28 : decode cX5_field 28 = .ok (.iload_n 1, 1) := by decide +kernel
theorem dX5_field_29 : decode cX5_field 29 = .ok (.iaload, 1) := by decide +kernel
theorem dX5_field_30 : decode cX5_field 30 = .ok (.lshr, 1) := by decide +kernel
theorem dX5_field_31 : decode cX5_field 31 = .ok (.lconst 0, 1) := by decide +kernel
theorem dX5_field_32 : decode cX5_field 32 = .ok (.lcmp, 1) := by decide +kernel
theorem dX5_field_33 : decode cX5_field 33 = .ok (.ifCond .eq 7, 3) := by decide +kernel
theorem dX5_field_36 : decode cX5_field 36 = .ok (.iconst 2, 1) := by decide +kernel
theorem dX5_field_37 : decode cX5_field 37 = .ok (.goto 4, 3) := by decide +kernel
theorem dX5_field_40 : decode cX5_field 40 = .ok (.iconst 0, 1) := by decide +kernel
theorem dX5_field_41 : decode cX5_field 41 = .ok (.putfield 68, 3) := by decide +kernel
theorem dX5_field_44 : decode cX5_field 44 = .ok (.aload_n 0, 1) := by decide +kernel
theorem dX5_field_45 : decode cX5_field 45 = .ok (.getfield 68, 3) := by decide +kernel
theorem dX5_field_48 : decode cX5_field 48 = .ok (.ifCond .ne 17, 3) := by decide +kernel
theorem dX5_field_51 : decode cX5_field 51 = .ok (.aload_n 0, 1) := by decide +kernel
theorem dX5_field_52 : decode cX5_field 52 = .ok (.getfield 13, 3) := by decide +kernel
theorem dX5_field_55 : decode cX5_field 55 = .ok (.iload_n 1, 1) := by decide +kernel
