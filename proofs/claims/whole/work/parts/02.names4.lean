theorem dX5_read_23 : decode cX5_read 23 = .ok (.iload_n 1, 1) := by decide +kernel
theorem dX5_read_24 : decode cX5_read 24 = .ok (.ifCond .lt 8, 3) := by decide +kernel
theorem dX5_read_27 : decode cX5_read 27 = .ok (.iload_n 1, 1) := by decide +kernel
theorem dX5_read_28 : decode cX5_read 28 = .ok (.iload_n 2, 1) := by decide +kernel
theorem dX5_read_29 : decode cX5_read 29 = .ok (.if_icmp .le 7, 3) := by decide +kernel
theorem dX5_read_32 : decode cX5_read 32 = .ok (.iconst 1, 1) := by decide +kernel
theorem dX5_read_33 : decode cX5_read 33 = .ok (.goto 18, 3) := by decide +kernel
theorem dX5_read_36 : decode cX5_read 36 = .ok (.aload_n 0, 1) := by decide +kernel
theorem dX5_read_37 : decode cX5_read 37 = .ok (.getfield 159, 3) := by decide +kernel
theorem dX5_read_40 : decode cX5_read 40 = .ok (.sipush 200, 3) := by decide +kernel
theorem dX5_read_43 : decode cX5_read 43 = .ok (.if_icmp .ne 7, 3) := by decide +kernel
theorem dX5_read_46 : decode cX5_read 46 = .ok (.iconst 2, 1) := by decide +kernel
theorem dX5_read_47 : decode cX5_read 47 = .ok (.goto 4, 3) := by decide +kernel
theorem dX5_read_50 : decode cX5_read 50 = .ok (.iconst 0, 1) := by decide +kernel
theorem dX5_read_51 : decode cX5_read 51 = .ok (.putfield 68, 3) := by decide +kernel
theorem dX5_read_54 : decode cX5_read 54 = .ok (.aload_n 0, 1) := by decide +kernel
theorem dX5_read_55 : decode cX5_read 55 = .ok (.getfield 68, 3) := by decide +kernel
theorem dX5_read_58 : decode cX5_read 58 = .ok (.ifCond .ne 23, 3) := by decide +kernel
theorem dX5_read_61 : decode cX5_read 61 = .ok (.aload_n 0, 1) := by decide +kernel
theorem dX5_read_62 : decode cX5_read 62 = .ok (.getfield 24, 3) := by decide +kernel
theorem dX5_read_65 : decode cX5_read 65 = .ok (.aload_n 0, 1) := by decide +kernel
theorem dX5_read_66 : decode cX5_read 66 = .ok (.getfield 159, 3) := by decide +kernel
theorem dX5_read_69 : decode cX5_read 69 = .ok (.iload_n 1, 1) := by decide +kernel
theorem dX5_read_70 : decode cX5_read 70 = .ok (.iastore, 1) := by decide +kernel
theorem dX5_read_71 : decode cX5_read 71 = .ok (.aload_n 0, 1) := by decide +kernel
theorem dX5_read_72 : decode cX5_read 72 = .ok (.dup, 1) := by decide +kernel
theorem dX5_read_73 : decode cX5_read 73 = .ok (.getfield 159, 3) := by decide +kernel
theorem dX5_read_76 : decode cX5_read 76 = .ok (.iconst 1, 1) := by decide +kernel
theorem dX5_read_77 : decode cX5_read 77 = .ok (.iadd, 1) := by decide +kernel
theorem dX5_read_78 : decode cX5_read 78 = .ok (.putfield 159, 3) := by decide +kernel
theorem dX5_read_81 : decode cX5_read 81 = .ok (.return_, 1) := by decide +kernel
theorem dX5_erased_0 : decode cX5_erased 0 = .ok (.aload_n 0, 1) := by decide +kernel
theorem dX5_erased_1 : decode cX5_erased 1 = .ok (.aload_n 0, 1) := by decide +kernel
theorem dX5_erased_2 : decode cX5_erased 2 = .ok (.getfield 159, 3) := by decide +kernel
theorem dX5_erased_5 : decode cX5_erased 5 = .ok (.sipush 200, 3) := by decide +kernel
theorem dX5_erased_8 : decode cX5_erased 8 = .ok (.if_icmp .ne 7, 3) := by decide +kernel
theorem dX5_erased_11 : decode cX5_erased 11 = .ok (.iconst 1, 1) := by decide +kernel
theorem dX5_erased_12 : decode cX5_erased 12 = .ok (.goto 4, 3) := by decide +kernel
theorem dX5_erased_15 : decode cX5_erased 15 = .ok (.iconst 0, 1) := by decide +kernel
theorem dX5_erased_16 : decode cX5_erased 16 = .ok (.putfield 68, 3) := by decide +kernel
theorem dX5_erased_19 : decode cX5_erased 19 = .ok (.aload_n 0, 1) := by decide +kernel
theorem dX5_erased_20 : decode cX5_erased 20 = .ok (.getfield 68, 3) := by decide +kernel
theorem dX5_erased_23 : decode cX5_erased 23 = .ok (.ifCond .ne 23, 3) := by decide +kernel
theorem dX5_erased_26 : decode cX5_erased 26 = .ok (.aload_n 0, 1) := by decide +kernel
theorem dX5_erased_27 : decode cX5_erased 27 = .ok (.getfield 24, 3) := by decide +kernel
theorem dX5_erased_30 : decode cX5_erased 30 = .ok (.aload_n 0, 1) := by decide +kernel
theorem dX5_erased_31 : decode cX5_erased 31 = .ok (.getfield 159, 3) := by decide +kernel
theorem dX5_erased_34 : decode cX5_erased 34 = .ok (.iconst (-1), 1) := by decide +kernel
theorem dX5_erased_35 : decode cX5_erased 35 = .ok (.iastore, 1) := by decide +kernel
theorem dX5_erased_36 : decode cX5_erased 36 = .ok (.aload_n 0, 1) := by decide +kernel
theorem dX5_erased_37 : decode cX5_erased 37 = .ok (.dup, 1) := by decide +kernel
theorem dX5_erased_38 : decode cX5_erased 38 = .ok (.getfield 159, 3) := by decide +kernel
theorem dX5_erased_41 : decode cX5_erased 41 = .ok (.iconst 1, 1) := by decide +kernel
theorem dX5_erased_42 : decode cX5_erased 42 = .ok (.iadd, 1) := by decide +kernel
theorem dX5_erased_43 : decode cX5_erased 43 = .ok (.putfield 159, 3) := by decide +kernel
theorem dX5_erased_46 : decode cX5_erased 46 = .ok (.return_, 1) := by decide +kernel
set_option maxRecDepth 20000 in
theorem ggX5_at_X5_length : GoodIn wsX5_at wsX5_length := goodIn_r _ [7, 2, 8, 9, 10, 11, 12, 13, 14, 15, 16, 17, 18, 19, 20, 21, 22, 23, 24, 25, 26, 27, 28, 29, 30, 31] (by decide +kernel) (by decide +kernel)
set_option maxRecDepth 20000 in
theorem gX5_at_X5_length : GoodIn wsX5_at (wsV RX5 111 RX5 yX5_length wsX5_length) := goodIn_app (goodIn_of _ (by decide +kernel)) ggX5_at_X5_length
theorem dX5_at_0 : decode cX5_at 0 = .ok (.aload_n 0, 1) := by decide +kernel
theorem dX5_at_1 : decode cX5_at 1 = .ok (.getfield 24, 3) := by decide +kernel
theorem dX5_at_4 : decode cX5_at 4 = .ok (.iload_n 2, 1) := by decide +kernel
theorem dX5_at_5 : decode cX5_at 5 = .ok (.ifCond .eq 14, 3) := by decide +kernel
theorem dX5_at_8 : decode cX5_at 8 = .ok (.aload_n 0, 1) := by decide +kernel
theorem dX5_at_9 : decode cX5_at 9 = .ok (.invokevirtual 111, 3) := by decide +kernel
theorem dX5_at_12 : decode cX5_at 12 = .ok (.iconst 1, 1) := by decide +kernel
theorem dX5_at_13 : decode cX5_at 13 = .ok (.isub, 1) := by decide +kernel
theorem dX5_at_14 : decode cX5_at 14 = .ok (.iload_n 1, 1) := by decide +kernel
theorem dX5_at_15 : decode cX5_at 15 = .ok (.isub, 1) := by decide +kernel
theorem dX5_at_16 : decode cX5_at 16 = .ok (.goto 4, 3) := by decide +kernel
theorem dX5_at_19 : decode cX5_at 19 = .ok (.iload_n 1, 1) := by decide +kernel
theorem dX5_at_20 : decode cX5_at 20 = .ok (.iaload, 1) := by decide +kernel
theorem dX5_at_21 : decode cX5_at 21 = .ok (.istore_n 3, 1) := by decide +kernel
theorem dX5_at_22 : decode cX5_at 22 = .ok (.aload_n 0, 1) := by decide +kernel
theorem dX5_at_23 : decode cX5_at 23 = .ok (.getfield 56, 3) := by decide +kernel
theorem dX5_at_26 : decode cX5_at 26 = .ok (.ifCond .eq 11, 3) := by decide +kernel
theorem dX5_at_29 : decode cX5_at 29 = .ok (.aload_n 0, 1) := by decide +kernel
theorem dX5_at_30 : decode cX5_at 30 = .ok (.getfield 56, 3) := by decide +kernel
theorem dX5_at_33 : decode cX5_at 33 = .ok (.iconst 1, 1) := by decide +kernel
theorem dX5_at_34 : decode cX5_at 34 = .ok (.if_icmp .ne 7, 3) := by decide +kernel
theorem dX5_at_37 : decode cX5_at 37 = .ok (.iconst 1, 1) := by decide +kernel
theorem dX5_at_38 : decode cX5_at 38 = .ok (.goto 4, 3) := by decide +kernel
theorem dX5_at_41 : decode cX5_at 41 = .ok (.iconst 0, 1) := by decide +kernel
theorem dX5_at_42 : decode cX5_at 42 = .ok (.istore 4, 2) := by decide +kernel
theorem dX5_at_44 : decode cX5_at 44 = .ok (.iload_n 2, 1) := by decide +kernel
theorem dX5_at_45 : decode cX5_at 45 = .ok (.ifCond .eq 24, 3) := by decide +kernel
theorem dX5_at_48 : decode cX5_at 48 = .ok (.iload 4, 2) := by decide +kernel
theorem dX5_at_50 : decode cX5_at 50 = .ok (.ifCond .eq 19, 3) := by decide +kernel
theorem dX5_at_53 : decode cX5_at 53 = .ok (.iload_n 3, 1) := by decide +kernel
theorem dX5_at_54 : decode cX5_at 54 = .ok (.iconst 1, 1) := by decide +kernel
theorem dX5_at_55 : decode cX5_at 55 = .ok (.if_icmp .eq 8, 3) := by decide +kernel
theorem dX5_at_58 : decode cX5_at 58 = .ok (.iload_n 3, 1) := by decide +kernel
theorem dX5_at_59 : decode cX5_at 59 = .ok (.iconst 2, 1) := by decide +kernel
theorem dX5_at_60 : decode cX5_at 60 = .ok (.if_icmp .ne 9, 3) := by decide +kernel
theorem dX5_at_63 : decode cX5_at 63 = .ok (.iconst 3, 1) := by decide +kernel
theorem dX5_at_64 : decode cX5_at 64 = .ok (.iload_n 3, 1) := by decide +kernel
theorem dX5_at_65 : decode cX5_at 65 = .ok (.isub, 1) := by decide +kernel
theorem dX5_at_66 : decode cX5_at 66 = .ok (.goto 4, 3) := by decide +kernel
theorem dX5_at_69 : decode cX5_at 69 = .ok (.iload_n 3, 1) := by decide +kernel
theorem dX5_at_70 : decode cX5_at 70 = .ok (.ireturn, 1) := by decide +kernel
set_option maxRecDepth 20000 in
theorem ggX5_frames_X5_length : GoodIn wsX5_frames wsX5_length := goodIn_r _ [5, 6, 7, 17, 18, 19, 20, 21, 22, 23, 24, 25, 26, 27, 28, 29, 30, 31, 32, 33, 34, 35, 36, 37, 38, 39] (by decide +kernel) (by decide +kernel)
set_option maxRecDepth 20000 in
theorem gX5_frames_X5_length : GoodIn wsX5_frames (wsV RX5 111 RX5 yX5_length wsX5_length) := goodIn_app (goodIn_of _ (by decide +kernel)) ggX5_frames_X5_length
set_option maxRecDepth 20000 in
theorem ggX5_frames_X5_frame : GoodIn wsX5_frames wsX5_frame := goodIn_r _ [11, 6, 1, 2, 3, 4, 5, 7, 17, 18, 19, 20, 21, 22, 23, 24, 25, 26, 27, 28, 29, 30, 31, 32, 33, 34, 35, 36, 37, 38, 39] (by decide +kernel) (by decide +kernel)
set_option maxRecDepth 20000 in
theorem gX5_frames_X5_frame : GoodIn wsX5_frames (wsV RX5 114 RX5 yX5_frame wsX5_frame) := goodIn_app (goodIn_of _ (by decide +kernel)) ggX5_frames_X5_frame
set_option maxRecDepth 20000 in
theorem ggX5_frames_X5_at : GoodIn wsX5_frames wsX5_at := goodIn_r _ [15, 16, 6, 1, 2, 3, 4, 5, 7, 17, 18, 19, 20, 21, 22, 23, 24, 25, 26, 27, 28, 29, 30, 31, 32, 33, 34, 35, 36, 37, 38, 39] (by decide +kernel) (by decide +kernel)
set_option maxRecDepth 20000 in
theorem gX5_frames_X5_at : GoodIn wsX5_frames (wsV RX5 162 RX5 yX5_at wsX5_at) := goodIn_app (goodIn_of _ (by decide +kernel)) ggX5_frames_X5_at
theorem dX5_frames_0 : decode cX5_frames 0 = .ok (.iconst 0, 1) := by decide +kernel
theorem dX5_frames_1 : decode cX5_frames 1 = .ok (.istore_n 2, 1) := by decide +kernel
theorem dX5_frames_2 : decode cX5_frames 2 = .ok (.iconst 0, 1) := by decide +kernel
theorem dX5_frames_3 : decode cX5_frames 3 = .ok (.istore_n 3, 1) := by decide +kernel
theorem dX5_frames_4 : decode cX5_frames 4 = .ok (.iload_n 3, 1) := by decide +kernel
theorem dX5_frames_5 : decode cX5_frames 5 = .ok (.aload_n 0, 1) := by decide +kernel
theorem dX5_frames_6 : decode cX5_frames 6 = .ok (.invokevirtual 111, 3) := by decide +kernel
theorem dX5_frames_9 : decode cX5_frames 9 = .ok (.if_icmp .ge 40, 3) := by decide +kernel
theorem dX5_frames_12 : decode cX5_frames 12 = .ok (.aload_n 0, 1) := by decide +kernel
theorem dX5_frames_13 : decode cX5_frames 13 = .ok (.iload_n 3, 1) := by decide +kernel
theorem dX5_frames_14 : decode cX5_frames 14 = .ok (.invokevirtual 114, 3) := by decide +kernel
theorem dX5_frames_17 : decode cX5_frames 17 = .ok (.iconst (-1), 1) := by decide +kernel
theorem dX5_frames_18 : decode cX5_frames 18 = .ok (.if_icmp .eq 23, 3) := by decide +kernel
theorem dX5_frames_21 : decode cX5_frames 21 = .ok (.aload_n 0, 1) := by decide +kernel
theorem dX5_frames_22 : decode cX5_frames 22 = .ok (.iload_n 3, 1) := by decide +kernel
theorem dX5_frames_23 : decode cX5_frames 23 = .ok (.iload_n 1, 1) := by decide +kernel
theorem dX5_frames_24 : decode cX5_frames 24 = .ok (.invokevirtual 162, 3) := by decide +kernel
theorem dX5_frames_27 : decode cX5_frames 27 = .ok (.aload_n 0, 1) := by decide +kernel
theorem dX5_frames_28 : decode cX5_frames 28 = .ok (.iload_n 3, 1) := by decide +kernel
theorem dX5_frames_29 : decode cX5_frames 29 = .ok (.invokevirtual 114, 3) := by decide +kernel
theorem dX5_frames_32 : decode cX5_frames 32 = .ok (.if_icmp .ne 9, 3) := by decide +kernel
theorem dX5_frames_35 : decode cX5_frames 35 = .ok (.iload_n 2, 1) := by decide +kernel
theorem dX5_frames_36 : decode cX5_frames 36 = .ok (.iconst 1, 1) := by decide +kernel
theorem dX5_frames_37 : decode cX5_frames 37 = .ok (.iadd, 1) := by decide +kernel
theorem dX5_frames_38 : decode cX5_frames 38 = .ok (.goto 4, 3) := by decide +kernel
theorem dX5_frames_41 : decode cX5_frames 41 = .ok (.iload_n 2, 1) := by decide +kernel
theorem dX5_frames_42 : decode cX5_frames 42 = .ok (.istore_n 2, 1) := by decide +kernel
theorem dX5_frames_43 : decode cX5_frames 43 = .ok (.iinc 3 1, 3) := by decide +kernel
theorem dX5_frames_46 : decode cX5_frames 46 = .ok (.goto (-42), 3) := by decide +kernel
theorem dX5_frames_49 : decode cX5_frames 49 = .ok (.iload_n 2, 1) := by decide +kernel
theorem dX5_frames_50 : decode cX5_frames 50 = .ok (.ireturn, 1) := by decide +kernel
set_option maxRecDepth 20000 in
theorem ggX5_maskOf_X5_cell : GoodIn wsX5_maskOf wsX5_cell := goodIn_r _ [4] (by decide +kernel) (by decide +kernel)
set_option maxRecDepth 20000 in
theorem gX5_maskOf_X5_cell : GoodIn wsX5_maskOf (va_wsS RX5 117 yX5_cell wsX5_cell) := goodIn_app (goodIn_of _ (by decide +kernel)) ggX5_maskOf_X5_cell
set_option maxRecDepth 20000 in
theorem ggX5_maskOf_X5_at : GoodIn wsX5_maskOf wsX5_at := goodIn_r _ [8, 9, 10, 11, 12, 13, 3, 14, 15, 19, 20, 21, 22, 23, 24, 25, 26, 27, 28, 29, 30, 31, 32, 33, 34, 35, 36, 37, 38, 39, 40, 41] (by decide +kernel) (by decide +kernel)
set_option maxRecDepth 20000 in
theorem gX5_maskOf_X5_at : GoodIn wsX5_maskOf (wsV RX5 162 RX5 yX5_at wsX5_at) := goodIn_app (goodIn_of _ (by decide +kernel)) ggX5_maskOf_X5_at
set_option maxRecDepth 20000 in
theorem ggX5_maskOf_X5_maskBit : GoodIn wsX5_maskOf wsX5_maskBit := goodIn_r _ [18] (by decide +kernel) (by decide +kernel)
set_option maxRecDepth 20000 in
theorem gX5_maskOf_X5_maskBit : GoodIn wsX5_maskOf (va_wsS RX5 120 yX5_maskBit wsX5_maskBit) := goodIn_app (goodIn_of _ (by decide +kernel)) ggX5_maskOf_X5_maskBit
theorem dX5_maskOf_0 : decode cX5_maskOf 0 = .ok (.iconst 0, 1) := by decide +kernel
theorem dX5_maskOf_1 : decode cX5_maskOf 1 = .ok (.istore_n 2, 1) := by decide +kernel
theorem dX5_maskOf_2 : decode cX5_maskOf 2 = .ok (.bipush 9, 2) := by decide +kernel
theorem dX5_maskOf_4 : decode cX5_maskOf 4 = .ok (.istore_n 3, 1) := by decide +kernel
theorem dX5_maskOf_5 : decode cX5_maskOf 5 = .ok (.iconst 0, 1) := by decide +kernel
theorem dX5_maskOf_6 : decode cX5_maskOf 6 = .ok (.istore 4, 2) := by decide +kernel
theorem dX5_maskOf_8 : decode cX5_maskOf 8 = .ok (.iload 4, 2) := by decide +kernel
theorem dX5_maskOf_10 : decode cX5_maskOf 10 = .ok (.iconst 4, 1) := by decide +kernel
theorem dX5_maskOf_11 : decode cX5_maskOf 11 = .ok (.if_icmp .ge 97, 3) := by decide +kernel
theorem dX5_maskOf_14 : decode cX5_maskOf 14 = .ok (.iconst 0, 1) := by decide +kernel
theorem dX5_maskOf_15 : decode cX5_maskOf 15 = .ok (.istore 5, 2) := by decide +kernel
theorem dX5_maskOf_17 : decode cX5_maskOf 17 = .ok (.iconst 0, 1) := by decide +kernel
theorem dX5_maskOf_18 : decode cX5_maskOf 18 = .ok (.istore 6, 2) := by decide +kernel
theorem dX5_maskOf_20 : decode cX5_maskOf 20 = .ok (.iload 6, 2) := by decide +kernel
theorem dX5_maskOf_22 : decode cX5_maskOf 22 = .ok (.iconst 4, 1) := by decide +kernel
theorem dX5_maskOf_23 : decode cX5_maskOf 23 = .ok (.if_icmp .ge 53, 3) := by decide +kernel
theorem dX5_maskOf_26 : decode cX5_maskOf 26 = .ok (.aload_n 0, 1) := by decide +kernel
theorem dX5_maskOf_27 : decode cX5_maskOf 27 = .ok (.bipush 96, 2) := by decide +kernel
theorem dX5_maskOf_29 : decode cX5_maskOf 29 = .ok (.iload 6, 2) := by decide +kernel
theorem dX5_maskOf_31 : decode cX5_maskOf 31 = .ok (.iadd, 1) := by decide +kernel
theorem dX5_maskOf_32 : decode cX5_maskOf 32 = .ok (.invokestatic 117, 3) := by decide +kernel
theorem dX5_maskOf_35 : decode cX5_maskOf 35 = .ok (.iload_n 1, 1) := by decide +kernel
theorem dX5_maskOf_36 : decode cX5_maskOf 36 = .ok (.invokevirtual 162, 3) := by decide +kernel
theorem dX5_maskOf_39 : decode cX5_maskOf 39 = .ok (.istore 7, 2) := by decide +kernel
theorem dX5_maskOf_41 : decode cX5_maskOf 41 = .ok (.iload 7, 2) := by decide +kernel
theorem dX5_maskOf_43 : decode cX5_maskOf 43 = .ok (.iconst (-1), 1) := by decide +kernel
theorem dX5_maskOf_44 : decode cX5_maskOf 44 = .ok (.if_icmp .eq 22, 3) := by decide +kernel
theorem dX5_maskOf_47 : decode cX5_maskOf 47 = .ok (.iload 7, 2) := by decide +kernel
theorem dX5_maskOf_49 : decode cX5_maskOf 49 = .ok (.iload 4, 2) := by decide +kernel
theorem dX5_maskOf_51 : decode cX5_maskOf 51 = .ok (.iload 6, 2) := by decide +kernel
theorem dX5_maskOf_53 : decode cX5_maskOf 53 = .ok (.invokestatic 120, 3) := by decide +kernel
theorem dX5_maskOf_56 : decode cX5_maskOf 56 = .ok (.if_icmp .eq 10, 3) := by decide +kernel
theorem dX5_maskOf_59 : decode cX5_maskOf 59 = .ok (.iload 5, 2) := by decide +kernel
theorem dX5_maskOf_61 : decode cX5_maskOf 61 = .ok (.iconst 1, 1) := by decide +kernel
theorem dX5_maskOf_62 : decode cX5_maskOf 62 = .ok (.iadd, 1) := by decide +kernel
theorem dX5_maskOf_63 : decode cX5_maskOf 63 = .ok (.goto 5, 3) := by decide +kernel
theorem dX5_maskOf_66 : decode cX5_maskOf 66 = .ok (.iload 5, 2) := by decide +kernel
theorem dX5_maskOf_68 : decode cX5_maskOf 68 = .ok (.istore 5, 2) := by decide +kernel
theorem dX5_maskOf_70 : decode cX5_maskOf 70 = .ok (.iinc 6 1, 3) := by decide +kernel
theorem dX5_maskOf_73 : decode cX5_maskOf 73 = .ok (.goto (-53), 3) := by decide +kernel
theorem dX5_maskOf_76 : decode cX5_maskOf 76 = .ok (.iload 5, 2) := by decide +kernel
theorem dX5_maskOf_78 : decode cX5_maskOf 78 = .ok (.iload_n 3, 1) := by decide +kernel
theorem dX5_maskOf_79 : decode cX5_maskOf 79 = .ok (.if_icmp .ge 8, 3) := by decide +kernel
theorem dX5_maskOf_82 : decode cX5_maskOf 82 = .ok (.iload 4, 2) := by decide +kernel
theorem dX5_maskOf_84 : decode cX5_maskOf 84 = .ok (.goto 4, 3) := by decide +kernel
theorem dX5_maskOf_87 : decode cX5_maskOf 87 = .ok (.iload_n 2, 1) := by decide +kernel
theorem dX5_maskOf_88 : decode cX5_maskOf 88 = .ok (.istore_n 2, 1) := by decide +kernel
theorem dX5_maskOf_89 : decode cX5_maskOf 89 = .ok (.iload 5, 2) := by decide +kernel
theorem dX5_maskOf_91 : decode cX5_maskOf 91 = .ok (.iload_n 3, 1) := by decide +kernel
theorem dX5_maskOf_92 : decode cX5_maskOf 92 = .ok (.if_icmp .ge 8, 3) := by decide +kernel
theorem dX5_maskOf_95 : decode cX5_maskOf 95 = .ok (.iload 5, 2) := by decide +kernel
theorem dX5_maskOf_97 : decode cX5_maskOf 97 = .ok (.goto 4, 3) := by decide +kernel
theorem dX5_maskOf_100 : decode cX5_maskOf 100 = .ok (.iload_n 3, 1) := by decide +kernel
theorem dX5_maskOf_101 : decode cX5_maskOf 101 = .ok (.istore_n 3, 1) := by decide +kernel
theorem dX5_maskOf_102 : decode cX5_maskOf 102 = .ok (.iinc 4 1, 3) := by decide +kernel
theorem dX5_maskOf_105 : decode cX5_maskOf 105 = .ok (.goto (-97), 3) := by decide +kernel
theorem dX5_maskOf_108 : decode cX5_maskOf 108 = .ok (.iload_n 2, 1) := by decide +kernel
theorem dX5_maskOf_109 : decode cX5_maskOf 109 = .ok (.ireturn, 1) := by decide +kernel
theorem dX5_take_0 : decode cX5_take 0 = .ok (.iload_n 2, 1) := by decide +kernel
theorem dX5_take_1 : decode cX5_take 1 = .ok (.iconst (-1), 1) := by decide +kernel
theorem dX5_take_2 : decode cX5_take 2 = .ok (.if_icmp .ne 10, 3) := by decide +kernel
theorem dX5_take_5 : decode cX5_take 5 = .ok (.aload_n 0, 1) := by decide +kernel
theorem dX5_take_6 : decode cX5_take 6 = .ok (.getfield 40, 3) := by decide +kernel
theorem dX5_take_9 : decode cX5_take 9 = .ok (.iload_n 1, 1) := by decide +kernel
theorem dX5_take_10 : decode cX5_take 10 = .ok (.iconst 1, 1) := by decide +kernel
theorem dX5_take_11 : decode cX5_take 11 = .ok (.bastore, 1) := by decide +kernel
theorem dX5_take_12 : decode cX5_take 12 = .ok (.aload_n 0, 1) := by decide +kernel
theorem dX5_take_13 : decode cX5_take 13 = .ok (.getfield 37, 3) := by decide +kernel
theorem dX5_take_16 : decode cX5_take 16 = .ok (.iload_n 1, 1) := by decide +kernel
theorem dX5_take_17 : decode cX5_take 17 = .ok (.aload_n 0, 1) := by decide +kernel
theorem dX5_take_18 : decode cX5_take 18 = .ok (.getfield 37, 3) := by decide +kernel
theorem dX5_take_21 : decode cX5_take 21 = .ok (.iload_n 1, 1) := by decide +kernel
theorem dX5_take_22 : decode cX5_take 22 = .ok (.iaload, 1) := by decide +kernel
theorem dX5_take_23 : decode cX5_take 23 = .ok (.iload_n 3, 1) := by decide +kernel
theorem dX5_take_24 : decode cX5_take 24 = .ok (.ishl, 1) := by decide +kernel
theorem dX5_take_25 : decode cX5_take 25 = .ok (.iload_n 2, 1) := by decide +kernel
theorem dX5_take_26 : decode cX5_take 26 = .ok (.iconst (-1), 1) := by decide +kernel
theorem dX5_take_27 : decode cX5_take 27 = .ok (.if_icmp .ne 7, 3) := by decide +kernel
theorem dX5_take_30 : decode cX5_take 30 = .ok (.iconst 0, 1) := by decide +kernel
theorem dX5_take_31 : decode cX5_take 31 = .ok (.goto 4, 3) := by decide +kernel
theorem dX5_take_34 : decode cX5_take 34 = .ok (.iload_n 2, 1) := by decide +kernel
theorem dX5_take_35 : decode cX5_take 35 = .ok (.iadd, 1) := by decide +kernel
theorem dX5_take_36 : decode cX5_take 36 = .ok (.iastore, 1) := by decide +kernel
theorem dX5_take_37 : decode cX5_take 37 = .ok (.return_, 1) := by decide +kernel
set_option maxRecDepth 20000 in
theorem ggX5_takeAll_X5_cell : GoodIn wsX5_takeAll wsX5_cell := goodIn_r _ [8] (by decide +kernel) (by decide +kernel)
set_option maxRecDepth 20000 in
theorem gX5_takeAll_X5_cell : GoodIn wsX5_takeAll (va_wsS RX5 117 yX5_cell wsX5_cell) := goodIn_app (goodIn_of _ (by decide +kernel)) ggX5_takeAll_X5_cell
set_option maxRecDepth 20000 in
theorem ggX5_takeAll_X5_at : GoodIn wsX5_takeAll wsX5_at := goodIn_r _ [12, 13, 4, 14, 15, 16, 7, 17, 1, 31, 32, 33, 34, 35, 36, 37, 38, 39, 40, 41, 42, 43, 44, 45, 46, 47, 48, 49, 50, 51, 52, 53] (by decide +kernel) (by decide +kernel)
set_option maxRecDepth 20000 in
theorem gX5_takeAll_X5_at : GoodIn wsX5_takeAll (wsV RX5 162 RX5 yX5_at wsX5_at) := goodIn_app (goodIn_of _ (by decide +kernel)) ggX5_takeAll_X5_at
set_option maxRecDepth 20000 in
theorem ggX5_takeAll_X5_isMasked : GoodIn wsX5_takeAll wsX5_isMasked := goodIn_r _ [20] (by decide +kernel) (by decide +kernel)
set_option maxRecDepth 20000 in
theorem gX5_takeAll_X5_isMasked : GoodIn wsX5_takeAll (va_wsS RX5 123 yX5_isMasked wsX5_isMasked) := goodIn_app (goodIn_of _ (by decide +kernel)) ggX5_takeAll_X5_isMasked
set_option maxRecDepth 20000 in
theorem ggX5_takeAll_X5_take : GoodIn wsX5_takeAll wsX5_take := goodIn_r _ [24, 3, 2, 31, 32, 33, 34, 35, 36, 37, 38, 39, 40, 41, 42, 43, 44, 45, 46, 47, 48, 49, 50, 51, 52, 53] (by decide +kernel) (by decide +kernel)
set_option maxRecDepth 20000 in
theorem gX5_takeAll_X5_take : GoodIn wsX5_takeAll (wsV RX5 166 RX5 yX5_take wsX5_take) := goodIn_app (goodIn_of _ (by decide +kernel)) ggX5_takeAll_X5_take
set_option maxRecDepth 20000 in
theorem ggX5_takeAll_X5_signed : GoodIn wsX5_takeAll wsX5_signed := goodIn_r _ [28, 4, 1, 29, 2, 30, 31, 32, 33, 34, 35, 36, 37, 38, 39, 40, 41, 42, 43, 44, 45, 46, 47, 48, 49, 50, 51, 52, 53] (by decide +kernel) (by decide +kernel)
set_option maxRecDepth 20000 in
theorem gX5_takeAll_X5_signed : GoodIn wsX5_takeAll (wsV RX5 156 RX5 yX5_signed wsX5_signed) := goodIn_app (goodIn_of _ (by decide +kernel)) ggX5_takeAll_X5_signed
theorem dX5_takeAll_0 : decode cX5_takeAll 0 = .ok (.iconst 0, 1) := by decide +kernel
theorem dX5_takeAll_1 : decode cX5_takeAll 1 = .ok (.istore_n 3, 1) := by decide +kernel
theorem dX5_takeAll_2 : decode cX5_takeAll 2 = .ok (.iload_n 3, 1) := by decide +kernel
theorem dX5_takeAll_3 : decode cX5_takeAll 3 = .ok (.aload_n 0, 1) := by decide +kernel
theorem dX5_takeAll_4 : decode cX5_takeAll 4 = .ok (.getfield 65, 3) := by decide +kernel
theorem dX5_takeAll_7 : decode cX5_takeAll 7 = .ok (.if_icmp .ge 23, 3) := by decide +kernel
theorem dX5_takeAll_10 : decode cX5_takeAll 10 = .ok (.aload_n 0, 1) := by decide +kernel
theorem dX5_takeAll_11 : decode cX5_takeAll 11 = .ok (.getfield 37, 3) := by decide +kernel
theorem dX5_takeAll_14 : decode cX5_takeAll 14 = .ok (.iload_n 3, 1) := by decide +kernel
theorem dX5_takeAll_15 : decode cX5_takeAll 15 = .ok (.iconst 0, 1) := by decide +kernel
theorem dX5_takeAll_16 : decode cX5_takeAll 16 = .ok (.iastore, 1) := by decide +kernel
theorem dX5_takeAll_17 : decode cX5_takeAll 17 = .ok (.aload_n 0, 1) := by decide +kernel
theorem dX5_takeAll_18 : decode cX5_takeAll 18 = .ok (.getfield 40, 3) := by decide +kernel
theorem dX5_takeAll_21 : decode cX5_takeAll 21 = .ok (.iload_n 3, 1) := by decide +kernel
theorem dX5_takeAll_22 : decode cX5_takeAll 22 = .ok (.iconst 0, 1) := by decide +kernel
theorem dX5_takeAll_23 : decode cX5_takeAll 23 = .ok (.bastore, 1) := by decide +kernel
theorem dX5_takeAll_24 : decode cX5_takeAll 24 = .ok (.iinc 3 1, 3) := by decide +kernel
theorem dX5_takeAll_27 : decode cX5_takeAll 27 = .ok (.goto (-25), 3) := by decide +kernel
theorem dX5_takeAll_30 : decode cX5_takeAll 30 = .ok (.aload_n 0, 1) := by decide +kernel
theorem dX5_takeAll_31 : decode cX5_takeAll 31 = .ok (.getfield 56, 3) := by decide +kernel
theorem dX5_takeAll_34 : decode cX5_takeAll 34 = .ok (.iconst 2, 1) := by decide +kernel
theorem dX5_takeAll_35 : decode cX5_takeAll 35 = .ok (.if_icmp .ne 76, 3) := by decide +kernel
theorem dX5_takeAll_38 : decode cX5_takeAll 38 = .ok (.iconst 0, 1) := by decide +kernel
theorem dX5_takeAll_39 : decode cX5_takeAll 39 = .ok (.istore_n 3, 1) := by decide +kernel
theorem dX5_takeAll_40 : decode cX5_takeAll 40 = .ok (.iload_n 3, 1) := by decide +kernel
theorem dX5_takeAll_41 : decode cX5_takeAll 41 = .ok (.bipush 96, 2) := by decide +kernel
theorem dX5_takeAll_43 : decode cX5_takeAll 43 = .ok (.if_icmp .ge 65, 3) := by decide +kernel
theorem dX5_takeAll_46 : decode cX5_takeAll 46 = .ok (.iload_n 3, 1) := by decide +kernel
theorem dX5_takeAll_47 : decode cX5_takeAll 47 = .ok (.invokestatic 117, 3) := by decide +kernel
theorem dX5_takeAll_50 : decode cX5_takeAll 50 = .ok (.istore 4, 2) := by decide +kernel
theorem dX5_takeAll_52 : decode cX5_takeAll 52 = .ok (.aload_n 0, 1) := by decide +kernel
theorem dX5_takeAll_53 : decode cX5_takeAll 53 = .ok (.iload 4, 2) := by decide +kernel
theorem dX5_takeAll_55 : decode cX5_takeAll 55 = .ok (.iload_n 1, 1) := by decide +kernel
theorem dX5_takeAll_56 : decode cX5_takeAll 56 = .ok (.invokevirtual 162, 3) := by decide +kernel
theorem dX5_takeAll_59 : decode cX5_takeAll 59 = .ok (.istore 5, 2) := by decide +kernel
theorem dX5_takeAll_61 : decode cX5_takeAll 61 = .ok (.aload_n 0, 1) := by decide +kernel
theorem dX5_takeAll_62 : decode cX5_takeAll 62 = .ok (.iload_n 3, 1) := by decide +kernel
theorem dX5_takeAll_63 : decode cX5_takeAll 63 = .ok (.bipush 6, 2) := by decide +kernel
theorem dX5_takeAll_65 : decode cX5_takeAll 65 = .ok (.idiv, 1) := by decide +kernel
theorem dX5_takeAll_66 : decode cX5_takeAll 66 = .ok (.iload 5, 2) := by decide +kernel
theorem dX5_takeAll_68 : decode cX5_takeAll 68 = .ok (.iconst (-1), 1) := by decide +kernel
theorem dX5_takeAll_69 : decode cX5_takeAll 69 = .ok (.if_icmp .eq 27, 3) := by decide +kernel
theorem dX5_takeAll_72 : decode cX5_takeAll 72 = .ok (.iload_n 2, 1) := by decide +kernel
theorem dX5_takeAll_73 : decode cX5_takeAll 73 = .ok (.iload 4, 2) := by decide +kernel
theorem dX5_takeAll_75 : decode cX5_takeAll 75 = .ok (.bipush 12, 2) := by decide +kernel
theorem dX5_takeAll_77 : decode cX5_takeAll 77 = .ok (.irem, 1) := by decide +kernel
theorem dX5_takeAll_78 : decode cX5_takeAll 78 = .ok (.iload 4, 2) := by decide +kernel
theorem dX5_takeAll_80 : decode cX5_takeAll 80 = .ok (.bipush 12, 2) := by decide +kernel
theorem dX5_takeAll_82 : decode cX5_takeAll 82 = .ok (.idiv, 1) := by decide +kernel
theorem dX5_takeAll_83 : decode cX5_takeAll 83 = .ok (.invokestatic 123, 3) := by decide +kernel
theorem dX5_takeAll_86 : decode cX5_takeAll 86 = .ok (.ifCond .eq 10, 3) := by decide +kernel
theorem dX5_takeAll_89 : decode cX5_takeAll 89 = .ok (.iconst 1, 1) := by decide +kernel
theorem dX5_takeAll_90 : decode cX5_takeAll 90 = .ok (.iload 5, 2) := by decide +kernel
theorem dX5_takeAll_92 : decode cX5_takeAll 92 = .ok (.isub, 1) := by decide +kernel
theorem dX5_takeAll_93 : decode cX5_takeAll 93 = .ok (.goto 5, 3) := by decide +kernel
theorem dX5_takeAll_96 : decode cX5_takeAll 96 = .ok (.iload 5, 2) := by decide +kernel
theorem dX5_takeAll_98 : decode cX5_takeAll 98 = .ok (.iconst 1, 1) := by decide +kernel
theorem dX5_takeAll_99 : decode cX5_takeAll 99 = .ok (.invokevirtual 166, 3) := by decide +kernel
theorem dX5_takeAll_102 : decode cX5_takeAll 102 = .ok (.iinc 3 1, 3) := by decide +kernel
theorem dX5_takeAll_105 : decode cX5_takeAll 105 = .ok (.goto (-65), 3) := by decide +kernel
theorem dX5_takeAll_108 : decode cX5_takeAll 108 = .ok (.goto 84, 3) := by decide +kernel
theorem dX5_takeAll_111 : decode cX5_takeAll 111 = .ok (.aload_n 0, 1) := by decide +kernel
theorem dX5_takeAll_112 : decode cX5_takeAll 112 = .ok (.getfield 56, 3) := by decide +kernel
theorem dX5_takeAll_115 : decode cX5_takeAll 115 = .ok (.iconst 3, 1) := by decide +kernel
theorem dX5_takeAll_116 : decode cX5_takeAll 116 = .ok (.if_icmp .ne 42, 3) := by decide +kernel
theorem dX5_takeAll_119 : decode cX5_takeAll 119 = .ok (.iconst 0, 1) := by decide +kernel
theorem dX5_takeAll_120 : decode cX5_takeAll 120 = .ok (.istore_n 3, 1) := by decide +kernel
theorem dX5_takeAll_121 : decode cX5_takeAll 121 = .ok (.iload_n 3, 1) := by decide +kernel
theorem dX5_takeAll_122 : decode cX5_takeAll 122 = .ok (.bipush 6, 2) := by decide +kernel
theorem dX5_takeAll_124 : decode cX5_takeAll 124 = .ok (.aload_n 0, 1) := by decide +kernel
theorem dX5_takeAll_125 : decode cX5_takeAll 125 = .ok (.getfield 65, 3) := by decide +kernel
theorem dX5_takeAll_128 : decode cX5_takeAll 128 = .ok (.imul, 1) := by decide +kernel
theorem dX5_takeAll_129 : decode cX5_takeAll 129 = .ok (.if_icmp .ge 26, 3) := by decide +kernel
theorem dX5_takeAll_132 : decode cX5_takeAll 132 = .ok (.aload_n 0, 1) := by decide +kernel
theorem dX5_takeAll_133 : decode cX5_takeAll 133 = .ok (.iload_n 3, 1) := by decide +kernel
theorem dX5_takeAll_134 : decode cX5_takeAll 134 = .ok (.bipush 6, 2) := by decide +kernel
theorem dX5_takeAll_136 : decode cX5_takeAll 136 = .ok (.idiv, 1) := by decide +kernel
theorem dX5_takeAll_137 : decode cX5_takeAll 137 = .ok (.aload_n 0, 1) := by decide +kernel
theorem dX5_takeAll_138 : decode cX5_takeAll 138 = .ok (.iload_n 3, 1) := by decide +kernel
theorem dX5_takeAll_139 : decode cX5_takeAll 139 = .ok (.iconst 2, 1) := by decide +kernel
theorem dX5_takeAll_140 : decode cX5_takeAll 140 = .ok (.iadd, 1) := by decide +kernel
theorem dX5_takeAll_141 : decode cX5_takeAll 141 = .ok (.iload_n 1, 1) := by decide +kernel
theorem dX5_takeAll_142 : decode cX5_takeAll 142 = .ok (.invokevirtual 162, 3) := by decide +kernel
theorem dX5_takeAll_145 : decode cX5_takeAll 145 = .ok (.iconst 1, 1) := by decide +kernel
theorem dX5_takeAll_146 : decode cX5_takeAll 146 = .ok (.invokevirtual 166, 3) := by decide +kernel
theorem dX5_takeAll_149 : decode cX5_takeAll 149 = .ok (.iinc 3 1, 3) := by decide +kernel
theorem dX5_takeAll_152 : decode cX5_takeAll 152 = .ok (.goto (-31), 3) := by decide +kernel
theorem dX5_takeAll_155 : decode cX5_takeAll 155 = .ok (.goto 37, 3) := by decide +kernel
theorem dX5_takeAll_158 : decode cX5_takeAll 158 = .ok (.iconst 0, 1) := by decide +kernel
theorem dX5_takeAll_159 : decode cX5_takeAll 159 = .ok (.istore_n 3, 1) := by decide +kernel
theorem dX5_takeAll_160 : decode cX5_takeAll 160 = .ok (.iload_n 3, 1) := by decide +kernel
theorem dX5_takeAll_161 : decode cX5_takeAll 161 = .ok (.iconst 3, 1) := by decide +kernel
theorem dX5_takeAll_162 : decode cX5_takeAll 162 = .ok (.aload_n 0, 1) := by decide +kernel
theorem dX5_takeAll_163 : decode cX5_takeAll 163 = .ok (.getfield 65, 3) := by decide +kernel
theorem dX5_takeAll_166 : decode cX5_takeAll 166 = .ok (.imul, 1) := by decide +kernel
theorem dX5_takeAll_167 : decode cX5_takeAll 167 = .ok (.if_icmp .ge 25, 3) := by decide +kernel
theorem dX5_takeAll_170 : decode cX5_takeAll 170 = .ok (.aload_n 0, 1) := by decide +kernel
theorem dX5_takeAll_171 : decode cX5_takeAll 171 = .ok (.iload_n 3, 1) := by decide +kernel
theorem dX5_takeAll_172 : decode cX5_takeAll 172 = .ok (.iconst 3, 1) := by decide +kernel
theorem dX5_takeAll_173 : decode cX5_takeAll 173 = .ok (.idiv, 1) := by decide +kernel
theorem dX5_takeAll_174 : decode cX5_takeAll 174 = .ok (.aload_n 0, 1) := by decide +kernel
theorem dX5_takeAll_175 : decode cX5_takeAll 175 = .ok (.iload_n 3, 1) := by decide +kernel
theorem dX5_takeAll_176 : decode cX5_takeAll 176 = .ok (.iconst 2, 1) := by decide +kernel
theorem dX5_takeAll_177 : decode cX5_takeAll 177 = .ok (.iadd, 1) := by decide +kernel
theorem dX5_takeAll_178 : decode cX5_takeAll 178 = .ok (.iload_n 1, 1) := by decide +kernel
theorem dX5_takeAll_179 : decode cX5_takeAll 179 = .ok (.invokevirtual 162, 3) := by decide +kernel
theorem dX5_takeAll_182 : decode cX5_takeAll 182 = .ok (.iconst 2, 1) := by decide +kernel
theorem dX5_takeAll_183 : decode cX5_takeAll 183 = .ok (.invokevirtual 166, 3) := by decide +kernel
theorem dX5_takeAll_186 : decode cX5_takeAll 186 = .ok (.iinc 3 1, 3) := by decide +kernel
theorem dX5_takeAll_189 : decode cX5_takeAll 189 = .ok (.goto (-29), 3) := by decide +kernel
theorem dX5_takeAll_192 : decode cX5_takeAll 192 = .ok (.iconst 0, 1) := by decide +kernel
theorem dX5_takeAll_193 : decode cX5_takeAll 193 = .ok (.istore_n 3, 1) := by decide +kernel
theorem dX5_takeAll_194 : decode cX5_takeAll 194 = .ok (.iload_n 3, 1) := by decide +kernel
theorem dX5_takeAll_195 : decode cX5_takeAll 195 = .ok (.aload_n 0, 1) := by decide +kernel
theorem dX5_takeAll_196 : decode cX5_takeAll 196 = .ok (.getfield 65, 3) := by decide +kernel
theorem dX5_takeAll_199 : decode cX5_takeAll 199 = .ok (.if_icmp .ge 33, 3) := by decide +kernel
theorem dX5_takeAll_202 : decode cX5_takeAll 202 = .ok (.aload_n 0, 1) := by decide +kernel
theorem dX5_takeAll_203 : decode cX5_takeAll 203 = .ok (.getfield 37, 3) := by decide +kernel
theorem dX5_takeAll_206 : decode cX5_takeAll 206 = .ok (.iload_n 3, 1) := by decide +kernel
theorem dX5_takeAll_207 : decode cX5_takeAll 207 = .ok (.aload_n 0, 1) := by decide +kernel
theorem dX5_takeAll_208 : decode cX5_takeAll 208 = .ok (.getfield 40, 3) := by decide +kernel
theorem dX5_takeAll_211 : decode cX5_takeAll 211 = .ok (.iload_n 3, 1) := by decide +kernel
theorem dX5_takeAll_212 : decode cX5_takeAll 212 = .ok (.baload, 1) := by decide +kernel
theorem dX5_takeAll_213 : decode cX5_takeAll 213 = .ok (.ifCond .eq 7, 3) := by decide +kernel
theorem dX5_takeAll_216 : decode cX5_takeAll 216 = .ok (.iconst 0, 1) := by decide +kernel
theorem dX5_takeAll_217 : decode cX5_takeAll 217 = .ok (.goto 8, 3) := by decide +kernel
theorem dX5_takeAll_220 : decode cX5_takeAll 220 = .ok (.aload_n 0, 1) := by decide +kernel
theorem dX5_takeAll_221 : decode cX5_takeAll 221 = .ok (.iload_n 3, 1) := by decide +kernel
theorem dX5_takeAll_222 : decode cX5_takeAll 222 = .ok (.invokevirtual 156, 3) := by decide +kernel
theorem dX5_takeAll_225 : decode cX5_takeAll 225 = .ok (.iastore, 1) := by decide +kernel
theorem dX5_takeAll_226 : decode cX5_takeAll 226 = .ok (.iinc 3 1, 3) := by decide +kernel
theorem dX5_takeAll_229 : decode cX5_takeAll 229 = .ok (.goto (-35), 3) := by decide +kernel
theorem dX5_takeAll_232 : decode cX5_takeAll 232 = .ok (.return_, 1) := by decide +kernel
set_option maxRecDepth 20000 in
theorem ggX5_parse_X5_length : GoodIn wsX5_parse wsX5_length := goodIn_r _ [16, 3, 17, 111, 112, 113, 114, 115, 116, 117, 118, 119, 120, 121, 122, 123, 124, 125, 126, 127, 128, 129, 130, 131, 132, 133] (by decide +kernel) (by decide +kernel)
set_option maxRecDepth 20000 in
theorem gX5_parse_X5_length : GoodIn wsX5_parse (wsV RX5 111 RX5 yX5_length wsX5_length) := goodIn_app (goodIn_of _ (by decide +kernel)) ggX5_parse_X5_length
set_option maxRecDepth 20000 in
theorem ggX5_parse_X5_frames : GoodIn wsX5_parse wsX5_frames := goodIn_r _ [21, 12, 13, 14, 15, 16, 3, 17, 22, 23, 24, 25, 26, 27, 28, 29, 30, 111, 112, 113, 114, 115, 116, 117, 118, 119, 120, 121, 122, 123, 124, 125, 126, 127, 128, 129, 130, 131, 132, 133] (by decide +kernel) (by decide +kernel)
set_option maxRecDepth 20000 in
theorem gX5_parse_X5_frames : GoodIn wsX5_parse (wsV RX5 170 RX5 yX5_frames wsX5_frames) := goodIn_app (goodIn_of _ (by decide +kernel)) ggX5_parse_X5_frames
set_option maxRecDepth 20000 in
theorem ggX5_parse_X5_maskOf : GoodIn wsX5_parse wsX5_maskOf := goodIn_r _ [34, 35, 36, 15, 37, 26, 27, 28, 29, 30, 3, 12, 13, 14, 16, 17, 38, 39, 40, 111, 112, 113, 114, 115, 116, 117, 118, 119, 120, 121, 122, 123, 124, 125, 126, 127, 128, 129, 130, 131, 132, 133] (by decide +kernel) (by decide +kernel)
set_option maxRecDepth 20000 in
theorem gX5_parse_X5_maskOf : GoodIn wsX5_parse (wsV RX5 174 RX5 yX5_maskOf wsX5_maskOf) := goodIn_app (goodIn_of _ (by decide +kernel)) ggX5_parse_X5_maskOf
set_option maxRecDepth 20000 in
theorem ggX5_parse_X5_takeAll : GoodIn wsX5_parse wsX5_takeAll := goodIn_r _ [44, 17, 45, 46, 3, 35, 36, 15, 37, 26, 27, 28, 29, 30, 12, 13, 14, 16, 47, 48, 49, 50, 51, 52, 53, 54, 55, 56, 57, 58, 59, 111, 112, 113, 114, 115, 116, 117, 118, 119, 120, 121, 122, 123, 124, 125, 126, 127, 128, 129, 130, 131, 132, 133] (by decide +kernel) (by decide +kernel)
set_option maxRecDepth 20000 in
theorem gX5_parse_X5_takeAll : GoodIn wsX5_parse (wsV RX5 177 RX5 yX5_takeAll wsX5_takeAll) := goodIn_app (goodIn_of _ (by decide +kernel)) ggX5_parse_X5_takeAll
set_option maxRecDepth 20000 in
theorem ggX5_parse_X5_mend : GoodIn wsX5_parse wsX5_mend := goodIn_r _ [63, 58, 17, 64, 45, 65, 66, 67, 68, 15, 69, 46, 70, 71, 72, 73, 74, 75, 76, 77, 78, 79, 80, 81, 82, 83, 84, 85, 86, 87, 88, 89, 90, 91, 92, 93, 94, 95, 96, 97, 98, 99, 100, 101, 102, 103, 104, 105, 106, 111, 112, 113, 114, 115, 116, 117, 118, 119, 120, 121, 122, 123, 124, 125, 126, 127, 128, 129, 130, 131, 132, 133] (by decide +kernel) (by decide +kernel)
set_option maxRecDepth 20000 in
theorem gX5_parse_X5_mend : GoodIn wsX5_parse (wsV RX5 147 RX5 yX5_mend wsX5_mend) := goodIn_app (goodIn_of _ (by decide +kernel)) ggX5_parse_X5_mend
set_option maxRecDepth 20000 in
theorem ggX5_parse_X5_wordBit : GoodIn wsX5_parse wsX5_wordBit := goodIn_r _ [110, 45, 111, 112, 113, 114, 115, 116, 117, 118, 119, 120, 121, 122, 123, 124, 125, 126, 127, 128, 129, 130, 131, 132, 133] (by decide +kernel) (by decide +kernel)
set_option maxRecDepth 20000 in
theorem gX5_parse_X5_wordBit : GoodIn wsX5_parse (wsV RX5 127 RX5 yX5_wordBit wsX5_wordBit) := goodIn_app (goodIn_of _ (by decide +kernel)) ggX5_parse_X5_wordBit
theorem dX5_parse_0 : decode cX5_parse 0 = .ok (.aload_n 0, 1) := by decide +kernel
theorem dX5_parse_1 : decode cX5_parse 1 = .ok (.iconst 0, 1) := by decide +kernel
theorem dX5_parse_2 : decode cX5_parse 2 = .ok (.putfield 68, 3) := by decide +kernel
theorem dX5_parse_5 : decode cX5_parse 5 = .ok (.aload_n 0, 1) := by decide +kernel
theorem dX5_parse_6 : decode cX5_parse 6 = .ok (.getfield 159, 3) := by decide +kernel
theorem dX5_parse_9 : decode cX5_parse 9 = .ok (.aload_n 0, 1) := by decide +kernel
theorem dX5_parse_10 : decode cX5_parse 10 = .ok (.invokevirtual 111, 3) := by decide +kernel
theorem dX5_parse_13 : decode cX5_parse 13 = .ok (.if_icmp .ne 7, 3) := by decide +kernel
theorem dX5_parse_16 : decode cX5_parse 16 = .ok (.iconst 1, 1) := by decide +kernel
theorem dX5_parse_17 : decode cX5_parse 17 = .ok (.goto 4, 3) := by decide +kernel
theorem dX5_parse_20 : decode cX5_parse 20 = .ok (.iconst 0, 1) := by decide +kernel
theorem dX5_parse_21 : decode cX5_parse 21 = .ok (.istore_n 1, 1) := by decide +kernel
theorem dX5_parse_22 : decode cX5_parse 22 = .ok (.aload_n 0, 1) := by decide +kernel
theorem dX5_parse_23 : decode cX5_parse 23 = .ok (.iconst 0, 1) := by decide +kernel
theorem dX5_parse_24 : decode cX5_parse 24 = .ok (.putfield 159, 3) := by decide +kernel
theorem dX5_parse_27 : decode cX5_parse 27 = .ok (.iload_n 1, 1) := by decide +kernel
theorem dX5_parse_28 : decode cX5_parse 28 = .ok (.ifCond .ne 5, 3) := by decide +kernel
theorem dX5_parse_31 : decode cX5_parse 31 = .ok (.iconst (-1), 1) := by decide +kernel
theorem dX5_parse_32 : decode cX5_parse 32 = .ok (.ireturn, 1) := by decide +kernel
theorem dX5_parse_33 : decode cX5_parse 33 = .ok (.aload_n 0, 1) := by decide +kernel
theorem dX5_parse_34 : decode cX5_parse 34 = .ok (.iconst 1, 1) := by decide +kernel
theorem dX5_parse_35 : decode cX5_parse 35 = .ok (.invokevirtual 170, 3) := by decide +kernel
theorem dX5_parse_38 : decode cX5_parse 38 = .ok (.aload_n 0, 1) := by decide +kernel
theorem dX5_parse_39 : decode cX5_parse 39 = .ok (.iconst 0, 1) := by decide +kernel
theorem dX5_parse_40 : decode cX5_parse 40 = .ok (.invokevirtual 170, 3) := by decide +kernel
theorem dX5_parse_43 : decode cX5_parse 43 = .ok (.if_icmp .le 7, 3) := by decide +kernel
theorem dX5_parse_46 : decode cX5_parse 46 = .ok (.iconst 1, 1) := by decide +kernel
theorem dX5_parse_47 : decode cX5_parse 47 = .ok (.goto 4, 3) := by decide +kernel
theorem dX5_parse_50 : decode cX5_parse 50 = .ok (.iconst 0, 1) := by decide +kernel
theorem dX5_parse_51 : decode cX5_parse 51 = .ok (.istore_n 2, 1) := by decide +kernel
theorem dX5_parse_52 : decode cX5_parse 52 = .ok (.aload_n 0, 1) := by decide +kernel
theorem dX5_parse_53 : decode cX5_parse 53 = .ok (.getfield 56, 3) := by decide +kernel
theorem dX5_parse_56 : decode cX5_parse 56 = .ok (.iconst 2, 1) := by decide +kernel
theorem dX5_parse_57 : decode cX5_parse 57 = .ok (.if_icmp .ne 11, 3) := by decide +kernel
theorem dX5_parse_60 : decode cX5_parse 60 = .ok (.aload_n 0, 1) := by decide +kernel
theorem dX5_parse_61 : decode cX5_parse 61 = .ok (.iload_n 2, 1) := by decide +kernel
theorem dX5_parse_62 : decode cX5_parse 62 = .ok (.invokevirtual 174, 3) := by decide +kernel
theorem dX5_parse_65 : decode cX5_parse 65 = .ok (.goto 4, 3) := by decide +kernel
theorem dX5_parse_68 : decode cX5_parse 68 = .ok (.iconst 0, 1) := by decide +kernel
theorem dX5_parse_69 : decode cX5_parse 69 = .ok (.istore_n 3, 1) := by decide +kernel
theorem dX5_parse_70 : decode cX5_parse 70 = .ok (.aload_n 0, 1) := by decide +kernel
theorem dX5_parse_71 : decode cX5_parse 71 = .ok (.iload_n 2, 1) := by decide +kernel
theorem dX5_parse_72 : decode cX5_parse 72 = .ok (.iload_n 3, 1) := by decide +kernel
theorem dX5_parse_73 : decode cX5_parse 73 = .ok (.invokevirtual 177, 3) := by decide +kernel
theorem dX5_parse_76 : decode cX5_parse 76 = .ok (.aload_n 0, 1) := by decide +kernel
theorem dX5_parse_77 : decode cX5_parse 77 = .ok (.invokevirtual 147, 3) := by decide +kernel
theorem dX5_parse_80 : decode cX5_parse 80 = .ok (.istore 4, 2) := by decide +kernel
theorem dX5_parse_82 : decode cX5_parse 82 = .ok (.iload 4, 2) := by decide +kernel
theorem dX5_parse_84 : decode cX5_parse 84 = .ok (.iconst (-1), 1) := by decide +kernel
theorem dX5_parse_85 : decode cX5_parse 85 = .ok (.if_icmp .ne 5, 3) := by decide +kernel
theorem dX5_parse_88 : decode cX5_parse 88 = .ok (.iconst (-1), 1) := by decide +kernel
theorem dX5_parse_89 : decode cX5_parse 89 = .ok (.ireturn, 1) := by decide +kernel
theorem dX5_parse_90 : decode cX5_parse 90 = .ok (.aload_n 0, 1) := by decide +kernel
theorem dX5_parse_91 : decode cX5_parse 91 = .ok (.iconst 1, 1) := by decide +kernel
theorem dX5_parse_92 : decode cX5_parse 92 = .ok (.putfield 181, 3) := by decide +kernel
theorem dX5_parse_95 : decode cX5_parse 95 = .ok (.aload_n 0, 1) := by decide +kernel
theorem dX5_parse_96 : decode cX5_parse 96 = .ok (.iload 4, 2) := by decide +kernel
theorem dX5_parse_98 : decode cX5_parse 98 = .ok (.putfield 30, 3) := by decide +kernel
theorem dX5_parse_101 : decode cX5_parse 101 = .ok (.aload_n 0, 1) := by decide +kernel
theorem dX5_parse_102 : decode cX5_parse 102 = .ok (.iload_n 2, 1) := by decide +kernel
theorem dX5_parse_103 : decode cX5_parse 103 = .ok (.putfield 185, 3) := by decide +kernel
theorem dX5_parse_106 : decode cX5_parse 106 = .ok (.aload_n 0, 1) := by decide +kernel
theorem dX5_parse_107 : decode cX5_parse 107 = .ok (.aload_n 0, 1) := by decide +kernel
theorem dX5_parse_108 : decode cX5_parse 108 = .ok (.getfield 56, 3) := by decide +kernel
theorem dX5_parse_111 : decode cX5_parse 111 = .ok (.iconst 2, 1) := by decide +kernel
theorem dX5_parse_112 : decode cX5_parse 112 = .ok (.if_icmp .ne 7, 3) := by decide +kernel
theorem dX5_parse_115 : decode cX5_parse 115 = .ok (.iload_n 3, 1) := by decide +kernel
theorem dX5_parse_116 : decode cX5_parse 116 = .ok (.goto 7, 3) := by decide +kernel
theorem dX5_parse_119 : decode cX5_parse 119 = .ok (.aload_n 0, 1) := by decide +kernel
theorem dX5_parse_120 : decode cX5_parse 120 = .ok (.getfield 34, 3) := by decide +kernel
theorem dX5_parse_123 : decode cX5_parse 123 = .ok (.putfield 34, 3) := by decide +kernel
theorem dX5_parse_126 : decode cX5_parse 126 = .ok (.iconst 0, 1) := by decide +kernel
theorem dX5_parse_127 : decode cX5_parse 127 = .ok (.istore 5, 2) := by decide +kernel
theorem dX5_parse_129 : decode cX5_parse 129 = .ok (.iconst 0, 1) := by decide +kernel
theorem dX5_parse_130 : decode cX5_parse 130 = .ok (.istore 6, 2) := by decide +kernel
theorem dX5_parse_132 : decode cX5_parse 132 = .ok (.iload 6, 2) := by decide +kernel
theorem dX5_parse_134 : decode cX5_parse 134 = .ok (.aload_n 0, 1) := by decide +kernel
theorem dX5_parse_135 : decode cX5_parse 135 = .ok (.getfield 59, 3) := by decide +kernel
theorem dX5_parse_138 : decode cX5_parse 138 = .ok (.if_icmp .ge 67, 3) := by decide +kernel
theorem dX5_parse_141 : decode cX5_parse 141 = .ok (.aload_n 0, 1) := by decide +kernel
theorem dX5_parse_142 : decode cX5_parse 142 = .ok (.getfield 27, 3) := by decide +kernel
theorem dX5_parse_145 : decode cX5_parse 145 = .ok (.iload 6, 2) := by decide +kernel
theorem dX5_parse_147 : decode cX5_parse 147 = .ok (.lconst 0, 1) := by decide +kernel
theorem dX5_parse_148 : decode cX5_parse 148 = .ok (.lastore, 1) := by decide +kernel
theorem dX5_parse_149 : decode cX5_parse 149 = .ok (.iconst 0, 1) := by decide +kernel
theorem dX5_parse_150 : decode cX5_parse 150 = .ok (.istore 7, 2) := by decide +kernel
theorem dX5_parse_152 : decode cX5_parse 152 = .ok (.iload 7, 2) := by decide +kernel
theorem dX5_parse_154 : decode cX5_parse 154 = .ok (.aload_n 0, 1) := by decide +kernel
theorem dX5_parse_155 : decode cX5_parse 155 = .ok (.getfield 7, 3) := by decide +kernel
theorem dX5_parse_158 : decode cX5_parse 158 = .ok (.iload 6, 2) := by decide +kernel
theorem dX5_parse_160 : decode cX5_parse 160 = .ok (.iaload, 1) := by decide +kernel
theorem dX5_parse_161 : decode cX5_parse 161 = .ok (.if_icmp .ge 38, 3) := by decide +kernel
theorem dX5_parse_164 : decode cX5_parse 164 = .ok (.aload_n 0, 1) := by decide +kernel
theorem dX5_parse_165 : decode cX5_parse 165 = .ok (.getfield 27, 3) := by decide +kernel
theorem dX5_parse_168 : decode cX5_parse 168 = .ok (.iload 6, 2) := by decide +kernel
theorem dX5_parse_170 : decode cX5_parse 170 = .ok (.ldc2_w 188, 3) := by decide +kernel
theorem dX5_parse_173 : decode cX5_parse 173 = .ok (.aload_n 0, 1) := by decide +kernel
theorem dX5_parse_174 : decode cX5_parse 174 = .ok (.getfield 27, 3) := by decide +kernel
theorem dX5_parse_177 : decode cX5_parse 177 = .ok (.iload 6, 2) := by decide +kernel
theorem dX5_parse_179 : decode cX5_parse 179 = .ok (.laload, 1) := by decide +kernel
theorem dX5_parse_180 : decode cX5_parse 180 = .ok (.lmul, 1) := by decide +kernel
theorem dX5_parse_181 : decode cX5_parse 181 = .ok (.aload_n 0, 1) := by decide +kernel
theorem dX5_parse_182 : decode cX5_parse 182 = .ok (.iload 5, 2) := by decide +kernel
theorem dX5_parse_184 : decode cX5_parse 184 = .ok (.invokevirtual 127, 3) := by decide +kernel
theorem dX5_parse_187 : decode cX5_parse 187 = .ok (.i2l, 1) := by decide +kernel
theorem dX5_parse_188 : decode cX5_parse 188 = .ok (.ladd, 1) := by decide +kernel
theorem dX5_parse_189 : decode cX5_parse 189 = .ok (.lastore, 1) := by decide +kernel
theorem dX5_parse_190 : decode cX5_parse 190 = .ok (.iinc 5 1, 3) := by decide +kernel
theorem dX5_parse_193 : decode cX5_parse 193 = .ok (.iinc 7 1, 3) := by decide +kernel
theorem dX5_parse_196 : decode cX5_parse 196 = .ok (.goto (-44), 3) := by decide +kernel
theorem dX5_parse_199 : decode cX5_parse 199 = .ok (.iinc 6 1, 3) := by decide +kernel
theorem dX5_parse_202 : decode cX5_parse 202 = .ok (.goto (-70), 3) := by decide +kernel
theorem dX5_parse_205 : decode cX5_parse 205 = .ok (.aload_n 0, 1) := by decide +kernel
theorem dX5_parse_206 : decode cX5_parse 206 = .ok (.getfield 59, 3) := by decide +kernel
theorem dX5_parse_209 : decode cX5_parse 209 = .ok (.ireturn, 1) := by decide +kernel
theorem dX5_value_0 : decode cX5_value 0 = .ok (.aload_n 0, 1) := by decide +kernel
theorem dX5_value_1 : decode cX5_value 1 = .ok (.iload_n 1, 1) := by decide +kernel
theorem dX5_value_2 : decode cX5_value 2 = .ok (.ifCond .lt 11, 3) := by decide +kernel
theorem dX5_value_5 : decode cX5_value 5 = .ok (.iload_n 1, 1) := by decide +kernel
theorem dX5_value_6 : decode cX5_value 6 = .ok (.aload_n 0, 1) := by decide +kernel
theorem dX5_value_7 : decode cX5_value 7 = .ok (.getfield 59, 3) := by decide +kernel
theorem dX5_value_10 : decode cX5_value 10 = .ok (.if_icmp .lt 7, 3) := by decide +kernel
theorem dX5_value_13 : decode cX5_value 13 = .ok (.iconst 1, 1) := by decide +kernel
theorem dX5_value_14 : decode cX5_value 14 = .ok (.goto 4, 3) := by decide +kernel
theorem dX5_value_17 : decode cX5_value 17 = .ok (.iconst 0, 1) := by decide +kernel
theorem dX5_value_18 : decode cX5_value 18 = .ok (.putfield 68, 3) := by decide +kernel
theorem dX5_value_21 : decode cX5_value 21 = .ok (.aload_n 0, 1) := by decide +kernel
theorem dX5_value_22 : decode cX5_value 22 = .ok (.getfield 68, 3) := by decide +kernel
theorem dX5_value_25 : decode cX5_value 25 = .ok (.ifCond .le 7, 3) := by decide +kernel
theorem dX5_value_28 : decode cX5_value 28 = .ok (.lconst 0, 1) := by decide +kernel
theorem dX5_value_29 : decode cX5_value 29 = .ok (.goto 22, 3) := by decide +kernel
theorem dX5_value_32 : decode cX5_value 32 = .ok (.aload_n 0, 1) := by decide +kernel
theorem dX5_value_33 : decode cX5_value 33 = .ok (.getfield 181, 3) := by decide +kernel
theorem dX5_value_36 : decode cX5_value 36 = .ok (.ifCond .eq 12, 3) := by decide +kernel
theorem dX5_value_39 : decode cX5_value 39 = .ok (.aload_n 0, 1) := by decide +kernel
theorem dX5_value_40 : decode cX5_value 40 = .ok (.getfield 27, 3) := by decide +kernel
theorem dX5_value_43 : decode cX5_value 43 = .ok (.iload_n 1, 1) := by decide +kernel
theorem dX5_value_44 : decode cX5_value 44 = .ok (.laload, 1) := by decide +kernel
theorem dX5_value_45 : decode cX5_value 45 = .ok (.goto 6, 3) := by decide +kernel
theorem dX5_value_48 : decode cX5_value 48 = .ok (.ldc2_w 190, 3) := by decide +kernel
theorem dX5_value_51 : decode cX5_value 51 = .ok (.lreturn, 1) := by decide +kernel
theorem dX5_mended_0 : decode cX5_mended 0 = .ok (.aload_n 0, 1) := by decide +kernel
theorem dX5_mended_1 : decode cX5_mended 1 = .ok (.iconst 0, 1) := by decide +kernel
theorem dX5_mended_2 : decode cX5_mended 2 = .ok (.putfield 68, 3) := by decide +kernel
theorem dX5_mended_5 : decode cX5_mended 5 = .ok (.aload_n 0, 1) := by decide +kernel
theorem dX5_mended_6 : decode cX5_mended 6 = .ok (.getfield 30, 3) := by decide +kernel
theorem dX5_mended_9 : decode cX5_mended 9 = .ok (.ireturn, 1) := by decide +kernel
theorem dX5_mask_0 : decode cX5_mask 0 = .ok (.aload_n 0, 1) := by decide +kernel
theorem dX5_mask_1 : decode cX5_mask 1 = .ok (.iconst 0, 1) := by decide +kernel
theorem dX5_mask_2 : decode cX5_mask 2 = .ok (.putfield 68, 3) := by decide +kernel
theorem dX5_mask_5 : decode cX5_mask 5 = .ok (.aload_n 0, 1) := by decide +kernel
theorem dX5_mask_6 : decode cX5_mask 6 = .ok (.getfield 34, 3) := by decide +kernel
theorem dX5_mask_9 : decode cX5_mask 9 = .ok (.ireturn, 1) := by decide +kernel
theorem dX5_turned_0 : decode cX5_turned 0 = .ok (.aload_n 0, 1) := by decide +kernel
theorem dX5_turned_1 : decode cX5_turned 1 = .ok (.iconst 0, 1) := by decide +kernel
theorem dX5_turned_2 : decode cX5_turned 2 = .ok (.putfield 68, 3) := by decide +kernel
theorem dX5_turned_5 : decode cX5_turned 5 = .ok (.aload_n 0, 1) := by decide +kernel
theorem dX5_turned_6 : decode cX5_turned 6 = .ok (.getfield 185, 3) := by decide +kernel
theorem dX5_turned_9 : decode cX5_turned 9 = .ok (.ireturn, 1) := by decide +kernel
theorem dJx00060_init_a7421_0 : decode cJx00060_init_a7421 0 = .ok (.aload_n 0, 1) := by decide +kernel
theorem dJx00060_init_a7421_1 : decode cJx00060_init_a7421 1 = .ok (.aload_n 1, 1) := by decide +kernel
theorem dJx00060_init_a7421_2 : decode cJx00060_init_a7421 2 = .ok (.invokespecial 7, 3) := by decide +kernel
theorem dJx00060_init_a7421_5 : decode cJx00060_init_a7421 5 = .ok (.return_, 1) := by decide +kernel
theorem dJ9_abs_0f7a4_0 : decode cJ9_abs_0f7a4 0 = .ok (.iload_n 0, 1) := by decide +kernel
theorem dJ9_abs_0f7a4_1 : decode cJ9_abs_0f7a4 1 = .ok (.ifCond .ge 8, 3) := by decide +kernel
theorem dJ9_abs_0f7a4_4 : decode cJ9_abs_0f7a4 4 = .ok (.iload_n 0, 1) := by decide +kernel
theorem dJ9_abs_0f7a4_5 : decode cJ9_abs_0f7a4 5 = .ok (.ineg, 1) := by decide +kernel
theorem dJ9_abs_0f7a4_6 : decode cJ9_abs_0f7a4 6 = .ok (.goto 4, 3) := by decide +kernel
theorem dJ9_abs_0f7a4_9 : decode cJ9_abs_0f7a4 9 = .ok (.iload_n 0, 1) := by decide +kernel
theorem dJ9_abs_0f7a4_10 : decode cJ9_abs_0f7a4 10 = .ok (.ireturn, 1) := by decide +kernel
theorem dJ7_fill_d0a16_0 : decode cJ7_fill_d0a16 0 = .ok (.iconst 0, 1) := by decide +kernel
theorem dJ7_fill_d0a16_1 : decode cJ7_fill_d0a16 1 = .ok (.istore_n 3, 1) := by decide +kernel
theorem dJ7_fill_d0a16_2 : decode cJ7_fill_d0a16 2 = .ok (.aload_n 0, 1) := by decide +kernel
theorem dJ7_fill_d0a16_3 : decode cJ7_fill_d0a16 3 = .ok (.arraylength, 1) := by decide +kernel
theorem dJ7_fill_d0a16_4 : decode cJ7_fill_d0a16 4 = .ok (.istore 4, 2) := by decide +kernel
theorem dJ7_fill_d0a16_6 : decode cJ7_fill_d0a16 6 = .ok (.iload_n 3, 1) := by decide +kernel
theorem dJ7_fill_d0a16_7 : decode cJ7_fill_d0a16 7 = .ok (.iload 4, 2) := by decide +kernel
theorem dJ7_fill_d0a16_9 : decode cJ7_fill_d0a16 9 = .ok (.if_icmp .ge 13, 3) := by decide +kernel
theorem dJ7_fill_d0a16_12 : decode cJ7_fill_d0a16 12 = .ok (.aload_n 0, 1) := by decide +kernel
theorem dJ7_fill_d0a16_13 : decode cJ7_fill_d0a16 13 = .ok (.iload_n 3, 1) := by decide +kernel
theorem dJ7_fill_d0a16_14 : decode cJ7_fill_d0a16 14 = .ok (.lload_n 1, 1) := by decide +kernel
theorem dJ7_fill_d0a16_15 : decode cJ7_fill_d0a16 15 = .ok (.lastore, 1) := by decide +kernel
theorem dJ7_fill_d0a16_16 : decode cJ7_fill_d0a16 16 = .ok (.iinc 3 1, 3) := by decide +kernel
theorem dJ7_fill_d0a16_19 : decode cJ7_fill_d0a16 19 = .ok (.goto (-13), 3) := by decide +kernel
theorem dJ7_fill_d0a16_22 : decode cJ7_fill_d0a16 22 = .ok (.return_, 1) := by decide +kernel
theorem dJ7_fill_53178_0 : decode cJ7_fill_53178 0 = .ok (.iconst 0, 1) := by decide +kernel
theorem dJ7_fill_53178_1 : decode cJ7_fill_53178 1 = .ok (.istore_n 2, 1) := by decide +kernel
theorem dJ7_fill_53178_2 : decode cJ7_fill_53178 2 = .ok (.aload_n 0, 1) := by decide +kernel
theorem dJ7_fill_53178_3 : decode cJ7_fill_53178 3 = .ok (.arraylength, 1) := by decide +kernel
theorem dJ7_fill_53178_4 : decode cJ7_fill_53178 4 = .ok (.istore_n 3, 1) := by decide +kernel
theorem dJ7_fill_53178_5 : decode cJ7_fill_53178 5 = .ok (.iload_n 2, 1) := by decide +kernel
theorem dJ7_fill_53178_6 : decode cJ7_fill_53178 6 = .ok (.iload_n 3, 1) := by decide +kernel
theorem dJ7_fill_53178_7 : decode cJ7_fill_53178 7 = .ok (.if_icmp .ge 13, 3) := by decide +kernel
theorem dJ7_fill_53178_10 : decode cJ7_fill_53178 10 = .ok (.aload_n 0, 1) := by decide +kernel
theorem dJ7_fill_53178_11 : decode cJ7_fill_53178 11 = .ok (.iload_n 2, 1) := by decide +kernel
theorem dJ7_fill_53178_12 : decode cJ7_fill_53178 12 = .ok (.iload_n 1, 1) := by decide +kernel
theorem dJ7_fill_53178_13 : decode cJ7_fill_53178 13 = .ok (.iastore, 1) := by decide +kernel
theorem dJ7_fill_53178_14 : decode cJ7_fill_53178 14 = .ok (.iinc 2 1, 3) := by decide +kernel
theorem dJ7_fill_53178_17 : decode cJ7_fill_53178 17 = .ok (.goto (-12), 3) := by decide +kernel
theorem dJ7_fill_53178_20 : decode cJ7_fill_53178 20 = .ok (.return_, 1) := by decide +kernel
theorem dL_cell_0 : decode cL_cell 0 = .ok (.iload_n 1, 1) := by decide +kernel
theorem dL_cell_1 : decode cL_cell 1 = .ok (.aload_n 0, 1) := by decide +kernel
theorem dL_cell_2 : decode cL_cell 2 = .ok (.arraylength, 1) := by decide +kernel
theorem dL_cell_3 : decode cL_cell 3 = .ok (.if_icmp .ge 9, 3) := by decide +kernel
theorem dL_cell_6 : decode cL_cell 6 = .ok (.aload_n 0, 1) := by decide +kernel
theorem dL_cell_7 : decode cL_cell 7 = .ok (.iload_n 1, 1) := by decide +kernel
theorem dL_cell_8 : decode cL_cell 8 = .ok (.iaload, 1) := by decide +kernel
theorem dL_cell_9 : decode cL_cell 9 = .ok (.goto 4, 3) := by decide +kernel
theorem dL_cell_12 : decode cL_cell 12 = .ok (.iconst 0, 1) := by decide +kernel
theorem dL_cell_13 : decode cL_cell 13 = .ok (.ireturn, 1) := by decide +kernel
set_option maxRecDepth 20000 in
theorem ggL_field_X4_field : GoodIn wsL_field wsX4_field := goodIn_ca (goodIn_ca (goodIn_r _ [7, 8, 9, 10, 11, 12, 13, 14, 15, 16, 17, 18, 19, 20, 21, 22, 23, 24, 25, 26, 27, 28, 29, 30, 31, 32, 33, 34, 35, 36, 37] (by decide +kernel) (by decide +kernel)) (goodIn_sub (fun _ h => List.mem_cons_of_mem _ (List.mem_append_left _ (List.mem_append_right _ h))) (by decide +kernel))) (goodIn_sub (fun _ h => List.mem_cons_of_mem _ (List.mem_append_right _ h)) (by decide +kernel))
set_option maxRecDepth 20000 in
theorem gL_field_X4_field : GoodIn wsL_field (wsV RL 7 RX4 yX4_field wsX4_field) := goodIn_app (goodIn_of _ (by decide +kernel)) ggL_field_X4_field
theorem dL_field_0 : decode cL_field 0 = .ok (.aload_n 0, 1) := by decide +kernel
theorem dL_field_1 : decode cL_field 1 = .ok (.iload_n 1, 1) := by decide +kernel
theorem dL_field_2 : decode cL_field 2 = .ok (.lload_n 2, 1) := by decide +kernel
theorem dL_field_3 : decode cL_field 3 = .ok (.invokevirtual 7, 3) := by decide +kernel
theorem dL_field_6 : decode cL_field 6 = .ok (.goto 11, 3) := by decide +kernel
theorem dL_field_9 : decode cL_field 9 = .ok (.astore 4, 2) := by decide +kernel
theorem dL_field_11 : decode cL_field 11 = .ok (.iconst 1, 1) := by decide +kernel
theorem dL_field_12 : decode cL_field 12 = .ok (.ireturn, 1) := by decide +kernel
theorem dL_field_13 : decode cL_field 13 = .ok (.astore 4, 2) := by decide +kernel
theorem dL_field_15 : decode cL_field 15 = .ok (.iconst 2, 1) := by decide +kernel
theorem dL_field_16 : decode cL_field 16 = .ok (.ireturn, 1) := by decide +kernel
theorem dL_field_17 : decode cL_field 17 = .ok (.iconst 0, 1) := by decide +kernel
theorem dL_field_18 : decode cL_field 18 = .ok (.ireturn, 1) := by decide +kernel
set_option maxRecDepth 20000 in
theorem ggL_bar_X4_bar : GoodIn wsL_bar wsX4_bar := goodIn_r _ [5, 6, 7, 8, 9, 10, 11, 12, 13, 14, 15, 16, 17, 18, 19, 20, 21, 22, 23, 24, 25, 26, 27, 28, 29] (by decide +kernel) (by decide +kernel)
set_option maxRecDepth 20000 in
theorem gL_bar_X4_bar : GoodIn wsL_bar (wsV RL 17 RX4 yX4_bar wsX4_bar) := goodIn_app (goodIn_of _ (by decide +kernel)) ggL_bar_X4_bar
theorem dL_bar_0 : decode cL_bar 0 = .ok (.aload_n 2, 1) := by decide +kernel
theorem dL_bar_1 : decode cL_bar 1 = .ok (.iconst 0, 1) := by decide +kernel
theorem dL_bar_2 : decode cL_bar 2 = .ok (.aload_n 0, 1) := by decide +kernel
theorem dL_bar_3 : decode cL_bar 3 = .ok (.iload_n 1, 1) := by decide +kernel
theorem dL_bar_4 : decode cL_bar 4 = .ok (.invokevirtual 17, 3) := by decide +kernel
theorem dL_bar_7 : decode cL_bar 7 = .ok (.i2l, 1) := by decide +kernel
theorem dL_bar_8 : decode cL_bar 8 = .ok (.lastore, 1) := by decide +kernel
theorem dL_bar_9 : decode cL_bar 9 = .ok (.goto 6, 3) := by decide +kernel
theorem dL_bar_12 : decode cL_bar 12 = .ok (.astore_n 3, 1) := by decide +kernel
theorem dL_bar_13 : decode cL_bar 13 = .ok (.iconst 1, 1) := by decide +kernel
theorem dL_bar_14 : decode cL_bar 14 = .ok (.ireturn, 1) := by decide +kernel
theorem dL_bar_15 : decode cL_bar 15 = .ok (.iconst 0, 1) := by decide +kernel
theorem dL_bar_16 : decode cL_bar 16 = .ok (.ireturn, 1) := by decide +kernel
set_option maxRecDepth 20000 in
theorem ggL_read_X4_read : GoodIn wsL_read wsX4_read := goodIn_ca (goodIn_ca (goodIn_r _ [7, 8, 9, 10, 11, 12, 13, 14, 15, 16, 17, 18, 19, 20, 21, 22, 23, 24, 25, 26, 27, 28, 29, 30, 31, 32, 33, 34, 35, 36, 37, 38] (by decide +kernel) (by decide +kernel)) (goodIn_sub (fun _ h => List.mem_cons_of_mem _ (List.mem_append_left _ (List.mem_append_right _ h))) (by decide +kernel))) (goodIn_sub (fun _ h => List.mem_cons_of_mem _ (List.mem_append_right _ h)) (by decide +kernel))
set_option maxRecDepth 20000 in
theorem gL_read_X4_read : GoodIn wsL_read (wsV RL 23 RX4 yX4_read wsX4_read) := goodIn_app (goodIn_of _ (by decide +kernel)) ggL_read_X4_read
theorem dL_read_0 : decode cL_read 0 = .ok (.aload_n 0, 1) := by decide +kernel
theorem dL_read_1 : decode cL_read 1 = .ok (.iload_n 1, 1) := by decide +kernel
theorem dL_read_2 : decode cL_read 2 = .ok (.invokevirtual 23, 3) := by decide +kernel
theorem dL_read_5 : decode cL_read 5 = .ok (.goto 9, 3) := by decide +kernel
theorem dL_read_8 : decode cL_read 8 = .ok (.astore_n 2, 1) := by decide +kernel
theorem dL_read_9 : decode cL_read 9 = .ok (.iconst 1, 1) := by decide +kernel
theorem dL_read_10 : decode cL_read 10 = .ok (.ireturn, 1) := by decide +kernel
theorem dL_read_11 : decode cL_read 11 = .ok (.astore_n 2, 1) := by decide +kernel
theorem dL_read_12 : decode cL_read 12 = .ok (.iconst 2, 1) := by decide +kernel
theorem dL_read_13 : decode cL_read 13 = .ok (.ireturn, 1) := by decide +kernel
theorem dL_read_14 : decode cL_read 14 = .ok (.iconst 0, 1) := by decide +kernel
theorem dL_read_15 : decode cL_read 15 = .ok (.ireturn, 1) := by decide +kernel
set_option maxRecDepth 20000 in
theorem ggL_erased_X4_erased : GoodIn wsL_erased wsX4_erased := goodIn_ca (goodIn_r _ [6, 7, 8, 9, 10, 11, 12, 13, 14, 15, 16, 17, 18, 19, 20, 21, 22, 23] (by decide +kernel) (by decide +kernel)) (goodIn_sub (fun _ h => List.mem_cons_of_mem _ (List.mem_append_right _ h)) (by decide +kernel))
set_option maxRecDepth 20000 in
theorem gL_erased_X4_erased : GoodIn wsL_erased (wsV RL 29 RX4 yX4_erased wsX4_erased) := goodIn_app (goodIn_of _ (by decide +kernel)) ggL_erased_X4_erased
theorem dL_erased_0 : decode cL_erased 0 = .ok (.aload_n 0, 1) := by decide +kernel
theorem dL_erased_1 : decode cL_erased 1 = .ok (.invokevirtual 29, 3) := by decide +kernel
theorem dL_erased_4 : decode cL_erased 4 = .ok (.goto 6, 3) := by decide +kernel
theorem dL_erased_7 : decode cL_erased 7 = .ok (.astore_n 1, 1) := by decide +kernel
theorem dL_erased_8 : decode cL_erased 8 = .ok (.iconst 1, 1) := by decide +kernel
theorem dL_erased_9 : decode cL_erased 9 = .ok (.ireturn, 1) := by decide +kernel
theorem dL_erased_10 : decode cL_erased 10 = .ok (.iconst 0, 1) := by decide +kernel
theorem dL_erased_11 : decode cL_erased 11 = .ok (.ireturn, 1) := by decide +kernel
set_option maxRecDepth 20000 in
theorem ggL_value_X4_value : GoodIn wsL_value wsX4_value := goodIn_ca (goodIn_r _ [6, 7, 8, 9, 10, 11, 12, 13, 14, 15, 16, 17, 18, 19, 20, 21, 22] (by decide +kernel) (by decide +kernel)) (goodIn_sub (fun _ h => List.mem_cons_of_mem _ (List.mem_append_right _ h)) (by decide +kernel))
set_option maxRecDepth 20000 in
theorem gL_value_X4_value : GoodIn wsL_value (wsV RL 32 RX4 yX4_value wsX4_value) := goodIn_app (goodIn_of _ (by decide +kernel)) ggL_value_X4_value
theorem dL_value_0 : decode cL_value 0 = .ok (.aload_n 2, 1) := by decide +kernel
theorem dL_value_1 : decode cL_value 1 = .ok (.iconst 0, 1) := by decide +kernel
theorem dL_value_2 : decode cL_value 2 = .ok (.aload_n 0, 1) := by decide +kernel
theorem dL_value_3 : decode cL_value 3 = .ok (.iload_n 1, 1) := by decide +kernel
theorem dL_value_4 : decode cL_value 4 = .ok (.invokevirtual 32, 3) := by decide +kernel
theorem dL_value_7 : decode cL_value 7 = .ok (.lastore, 1) := by decide +kernel
theorem dL_value_8 : decode cL_value 8 = .ok (.goto 6, 3) := by decide +kernel
theorem dL_value_11 : decode cL_value 11 = .ok (.astore_n 3, 1) := by decide +kernel
theorem dL_value_12 : decode cL_value 12 = .ok (.iconst 1, 1) := by decide +kernel
theorem dL_value_13 : decode cL_value 13 = .ok (.ireturn, 1) := by decide +kernel
theorem dL_value_14 : decode cL_value 14 = .ok (.iconst 0, 1) := by decide +kernel
theorem dL_value_15 : decode cL_value 15 = .ok (.ireturn, 1) := by decide +kernel
set_option maxRecDepth 20000 in
theorem ggL_over_X4_over : GoodIn wsL_over wsX4_over := goodIn_ca (goodIn_r _ [6, 7, 8, 9, 10, 11, 12, 13, 14, 15, 16] (by decide +kernel) (by decide +kernel)) (goodIn_sub (fun _ h => List.mem_cons_of_mem _ (List.mem_append_right _ h)) (by decide +kernel))
set_option maxRecDepth 20000 in
theorem gL_over_X4_over : GoodIn wsL_over (wsV RL 36 RX4 yX4_over wsX4_over) := goodIn_app (goodIn_of _ (by decide +kernel)) ggL_over_X4_over
theorem dL_over_0 : decode cL_over 0 = .ok (.aload_n 3, 1) := by decide +kernel
theorem dL_over_1 : decode cL_over 1 = .ok (.iconst 0, 1) := by decide +kernel
theorem dL_over_2 : decode cL_over 2 = .ok (.aload_n 0, 1) := by decide +kernel
theorem dL_over_3 : decode cL_over 3 = .ok (.iload_n 1, 1) := by decide +kernel
theorem dL_over_4 : decode cL_over 4 = .ok (.iload_n 2, 1) := by decide +kernel
theorem dL_over_5 : decode cL_over 5 = .ok (.invokevirtual 36, 3) := by decide +kernel
theorem dL_over_8 : decode cL_over 8 = .ok (.i2l, 1) := by decide +kernel
theorem dL_over_9 : decode cL_over 9 = .ok (.lastore, 1) := by decide +kernel
theorem dL_over_10 : decode cL_over 10 = .ok (.goto 7, 3) := by decide +kernel
theorem dL_over_13 : decode cL_over 13 = .ok (.astore 4, 2) := by decide +kernel
theorem dL_over_15 : decode cL_over 15 = .ok (.iconst 1, 1) := by decide +kernel
theorem dL_over_16 : decode cL_over 16 = .ok (.ireturn, 1) := by decide +kernel
theorem dL_over_17 : decode cL_over 17 = .ok (.iconst 0, 1) := by decide +kernel
theorem dL_over_18 : decode cL_over 18 = .ok (.ireturn, 1) := by decide +kernel
abbrev vwCl : List vw_C := [(RJx00060, TJx00060, 6), (RX0, TX0, 10), (RX2, TX2, 10), (RX4, TX4, 13), (RX5, TX5, 23)]

