theorem dX5_coverOf_56 : decode cX5_coverOf 56 = .ok (.iload 5, 2) := by decide +kernel
theorem dX5_coverOf_58 : decode cX5_coverOf 58 = .ok (.iadd, 1) := by decide +kernel
theorem dX5_coverOf_59 : decode cX5_coverOf 59 = .ok (.iaload, 1) := by decide +kernel
theorem dX5_coverOf_60 : decode cX5_coverOf 60 = .ok (.goto 4, 3) := by decide +kernel
theorem dX5_coverOf_63 : decode cX5_coverOf 63 = .ok (.iconst 0, 1) := by decide +kernel
theorem dX5_coverOf_64 : decode cX5_coverOf 64 = .ok (.iadd, 1) := by decide +kernel
theorem dX5_coverOf_65 : decode cX5_coverOf 65 = .ok (.istore_n 3, 1) := by decide +kernel
theorem dX5_coverOf_66 : decode cX5_coverOf 66 = .ok (.iinc 5 1, 3) := by decide +kernel
theorem dX5_coverOf_69 : decode cX5_coverOf 69 = .ok (.goto (-52), 3) := by decide +kernel
theorem dX5_coverOf_72 : decode cX5_coverOf 72 = .ok (.iinc 4 1, 3) := by decide +kernel
theorem dX5_coverOf_75 : decode cX5_coverOf 75 = .ok (.goto (-70), 3) := by decide +kernel
theorem dX5_coverOf_78 : decode cX5_coverOf 78 = .ok (.iload_n 3, 1) := by decide +kernel
theorem dX5_coverOf_79 : decode cX5_coverOf 79 = .ok (.ireturn, 1) := by decide +kernel
theorem dX5_caughtOf_0 : decode cX5_caughtOf 0 = .ok (.iconst 0, 1) := by decide +kernel
theorem dX5_caughtOf_1 : decode cX5_caughtOf 1 = .ok (.istore_n 3, 1) := by decide +kernel
theorem dX5_caughtOf_2 : decode cX5_caughtOf 2 = .ok (.iconst 0, 1) := by decide +kernel
theorem dX5_caughtOf_3 : decode cX5_caughtOf 3 = .ok (.istore 4, 2) := by decide +kernel
theorem dX5_caughtOf_5 : decode cX5_caughtOf 5 = .ok (.iload 4, 2) := by decide +kernel
theorem dX5_caughtOf_7 : decode cX5_caughtOf 7 = .ok (.aload_n 0, 1) := by decide +kernel
theorem dX5_caughtOf_8 : decode cX5_caughtOf 8 = .ok (.getfield 7, 3) := by decide +kernel
theorem dX5_caughtOf_11 : decode cX5_caughtOf 11 = .ok (.if_icmp .ge 72, 3) := by decide +kernel
theorem dX5_caughtOf_14 : decode cX5_caughtOf 14 = .ok (.iconst 0, 1) := by decide +kernel
theorem dX5_caughtOf_15 : decode cX5_caughtOf 15 = .ok (.istore 5, 2) := by decide +kernel
theorem dX5_caughtOf_17 : decode cX5_caughtOf 17 = .ok (.iload 5, 2) := by decide +kernel
theorem dX5_caughtOf_19 : decode cX5_caughtOf 19 = .ok (.aload_n 0, 1) := by decide +kernel
theorem dX5_caughtOf_20 : decode cX5_caughtOf 20 = .ok (.getfield 13, 3) := by decide +kernel
theorem dX5_caughtOf_23 : decode cX5_caughtOf 23 = .ok (.if_icmp .ge 54, 3) := by decide +kernel
theorem dX5_caughtOf_26 : decode cX5_caughtOf 26 = .ok (.iload_n 3, 1) := by decide +kernel
theorem dX5_caughtOf_27 : decode cX5_caughtOf 27 = .ok (.iload_n 1, 1) := by decide +kernel
theorem dX5_caughtOf_28 : decode cX5_caughtOf 28 = .ok (.iload 4, 2) := by decide +kernel
theorem dX5_caughtOf_30 : decode cX5_caughtOf 30 = .ok (.ishr, 1) := by decide +kernel
theorem dX5_caughtOf_31 : decode cX5_caughtOf 31 = .ok (.iconst 1, 1) := by decide +kernel
theorem dX5_caughtOf_32 : decode cX5_caughtOf 32 = .ok (.iand, 1) := by decide +kernel
theorem dX5_caughtOf_33 : decode cX5_caughtOf 33 = .ok (.iconst 1, 1) := by decide +kernel
theorem dX5_caughtOf_34 : decode cX5_caughtOf 34 = .ok (.if_icmp .ne 34, 3) := by decide +kernel
theorem dX5_caughtOf_37 : decode cX5_caughtOf 37 = .ok (.iload_n 2, 1) := by decide +kernel
theorem dX5_caughtOf_38 : decode cX5_caughtOf 38 = .ok (.iload 5, 2) := by decide +kernel
theorem dX5_caughtOf_40 : decode cX5_caughtOf 40 = .ok (.ishr, 1) := by decide +kernel
theorem dX5_caughtOf_41 : decode cX5_caughtOf 41 = .ok (.iconst 1, 1) := by decide +kernel
theorem dX5_caughtOf_42 : decode cX5_caughtOf 42 = .ok (.iand, 1) := by decide +kernel
theorem dX5_caughtOf_43 : decode cX5_caughtOf 43 = .ok (.iconst 1, 1) := by decide +kernel
theorem dX5_caughtOf_44 : decode cX5_caughtOf 44 = .ok (.if_icmp .ne 24, 3) := by decide +kernel
theorem dX5_caughtOf_47 : decode cX5_caughtOf 47 = .ok (.aload_n 0, 1) := by decide +kernel
theorem dX5_caughtOf_48 : decode cX5_caughtOf 48 = .ok (.getfield 39, 3) := by decide +kernel
theorem dX5_caughtOf_51 : decode cX5_caughtOf 51 = .ok (.bipush 8, 2) := by decide +kernel
theorem dX5_caughtOf_53 : decode cX5_caughtOf 53 = .ok (.iload 4, 2) := by decide +kernel
theorem dX5_caughtOf_55 : decode cX5_caughtOf 55 = .ok (.imul, 1) := by decide +kernel
theorem dX5_caughtOf_56 : decode cX5_caughtOf 56 = .ok (.iload 5, 2) := by decide +kernel
theorem dX5_caughtOf_58 : decode cX5_caughtOf 58 = .ok (.iadd, 1) := by decide +kernel
theorem dX5_caughtOf_59 : decode cX5_caughtOf 59 = .ok (.iaload, 1) := by decide +kernel
theorem dX5_caughtOf_60 : decode cX5_caughtOf 60 = .ok (.iconst 1, 1) := by decide +kernel
theorem dX5_caughtOf_61 : decode cX5_caughtOf 61 = .ok (.if_icmp .le 7, 3) := by decide +kernel
theorem dX5_caughtOf_64 : decode cX5_caughtOf 64 = .ok (.iconst 1, 1) := by decide +kernel
theorem dX5_caughtOf_65 : decode cX5_caughtOf 65 = .ok (.goto 4, 3) := by decide +kernel
theorem dX5_caughtOf_68 : decode cX5_caughtOf 68 = .ok (.iconst 0, 1) := by decide +kernel
theorem dX5_caughtOf_69 : decode cX5_caughtOf 69 = .ok (.iadd, 1) := by decide +kernel
theorem dX5_caughtOf_70 : decode cX5_caughtOf 70 = .ok (.istore_n 3, 1) := by decide +kernel
theorem dX5_caughtOf_71 : decode cX5_caughtOf 71 = .ok (.iinc 5 1, 3) := by decide +kernel
theorem dX5_caughtOf_74 : decode cX5_caughtOf 74 = .ok (.goto (-57), 3) := by decide +kernel
theorem dX5_caughtOf_77 : decode cX5_caughtOf 77 = .ok (.iinc 4 1, 3) := by decide +kernel
theorem dX5_caughtOf_80 : decode cX5_caughtOf 80 = .ok (.goto (-75), 3) := by decide +kernel
theorem dX5_caughtOf_83 : decode cX5_caughtOf 83 = .ok (.iload_n 3, 1) := by decide +kernel
theorem dX5_caughtOf_84 : decode cX5_caughtOf 84 = .ok (.ireturn, 1) := by decide +kernel
set_option maxRecDepth 20000 in
theorem ggX5_lookAtColumns_X5_highOf : GoodIn wsX5_lookAtColumns wsX5_highOf := goodIn_r _ [9, 10, 11, 12, 13, 8, 14, 15, 22, 23, 24, 25, 26, 27, 28, 29, 30, 31, 32, 33, 34, 35, 36, 37, 38] (by decide +kernel) (by decide +kernel)
set_option maxRecDepth 20000 in
theorem gX5_lookAtColumns_X5_highOf : GoodIn wsX5_lookAtColumns (wsV RX5 117 RX5 yX5_highOf wsX5_highOf) := goodIn_app (goodIn_of _ (by decide +kernel)) ggX5_lookAtColumns_X5_highOf
set_option maxRecDepth 20000 in
theorem ggX5_lookAtColumns_X5_findRuns : GoodIn wsX5_lookAtColumns wsX5_findRuns := goodIn_r _ [19, 10, 20, 21, 11, 12, 13, 8, 14, 15, 22, 23, 24, 25, 26, 27, 28, 29, 30, 31, 32, 33, 34, 35, 36, 37, 38] (by decide +kernel) (by decide +kernel)
set_option maxRecDepth 20000 in
theorem gX5_lookAtColumns_X5_findRuns : GoodIn wsX5_lookAtColumns (wsV RX5 78 RX5 yX5_findRuns wsX5_findRuns) := goodIn_app (goodIn_of _ (by decide +kernel)) ggX5_lookAtColumns_X5_findRuns
theorem dX5_lookAtColumns_0 : decode cX5_lookAtColumns 0 = .ok (.iconst 0, 1) := by decide +kernel
theorem dX5_lookAtColumns_1 : decode cX5_lookAtColumns 1 = .ok (.istore_n 1, 1) := by decide +kernel
theorem dX5_lookAtColumns_2 : decode cX5_lookAtColumns 2 = .ok (.iload_n 1, 1) := by decide +kernel
theorem dX5_lookAtColumns_3 : decode cX5_lookAtColumns 3 = .ok (.aload_n 0, 1) := by decide +kernel
theorem dX5_lookAtColumns_4 : decode cX5_lookAtColumns 4 = .ok (.getfield 7, 3) := by decide +kernel
theorem dX5_lookAtColumns_7 : decode cX5_lookAtColumns 7 = .ok (.if_icmp .ge 59, 3) := by decide +kernel
theorem dX5_lookAtColumns_10 : decode cX5_lookAtColumns 10 = .ok (.iconst 0, 1) := by decide +kernel
theorem dX5_lookAtColumns_11 : decode cX5_lookAtColumns 11 = .ok (.istore_n 2, 1) := by decide +kernel
theorem dX5_lookAtColumns_12 : decode cX5_lookAtColumns 12 = .ok (.iload_n 2, 1) := by decide +kernel
theorem dX5_lookAtColumns_13 : decode cX5_lookAtColumns 13 = .ok (.aload_n 0, 1) := by decide +kernel
theorem dX5_lookAtColumns_14 : decode cX5_lookAtColumns 14 = .ok (.getfield 13, 3) := by decide +kernel
theorem dX5_lookAtColumns_17 : decode cX5_lookAtColumns 17 = .ok (.if_icmp .ge 43, 3) := by decide +kernel
theorem dX5_lookAtColumns_20 : decode cX5_lookAtColumns 20 = .ok (.aload_n 0, 1) := by decide +kernel
theorem dX5_lookAtColumns_21 : decode cX5_lookAtColumns 21 = .ok (.getfield 36, 3) := by decide +kernel
theorem dX5_lookAtColumns_24 : decode cX5_lookAtColumns 24 = .ok (.bipush 8, 2) := by decide +kernel
theorem dX5_lookAtColumns_26 : decode cX5_lookAtColumns 26 = .ok (.iload_n 1, 1) := by decide +kernel
theorem dX5_lookAtColumns_27 : decode cX5_lookAtColumns 27 = .ok (.imul, 1) := by decide +kernel
theorem dX5_lookAtColumns_28 : decode cX5_lookAtColumns 28 = .ok (.iload_n 2, 1) := by decide +kernel
theorem dX5_lookAtColumns_29 : decode cX5_lookAtColumns 29 = .ok (.iadd, 1) := by decide +kernel
theorem dX5_lookAtColumns_30 : decode cX5_lookAtColumns 30 = .ok (.aload_n 0, 1) := by decide +kernel
theorem dX5_lookAtColumns_31 : decode cX5_lookAtColumns 31 = .ok (.iload_n 1, 1) := by decide +kernel
theorem dX5_lookAtColumns_32 : decode cX5_lookAtColumns 32 = .ok (.iload_n 2, 1) := by decide +kernel
theorem dX5_lookAtColumns_33 : decode cX5_lookAtColumns 33 = .ok (.invokevirtual 117, 3) := by decide +kernel
theorem dX5_lookAtColumns_36 : decode cX5_lookAtColumns 36 = .ok (.iastore, 1) := by decide +kernel
theorem dX5_lookAtColumns_37 : decode cX5_lookAtColumns 37 = .ok (.aload_n 0, 1) := by decide +kernel
theorem dX5_lookAtColumns_38 : decode cX5_lookAtColumns 38 = .ok (.getfield 39, 3) := by decide +kernel
theorem dX5_lookAtColumns_41 : decode cX5_lookAtColumns 41 = .ok (.bipush 8, 2) := by decide +kernel
theorem dX5_lookAtColumns_43 : decode cX5_lookAtColumns 43 = .ok (.iload_n 1, 1) := by decide +kernel
theorem dX5_lookAtColumns_44 : decode cX5_lookAtColumns 44 = .ok (.imul, 1) := by decide +kernel
theorem dX5_lookAtColumns_45 : decode cX5_lookAtColumns 45 = .ok (.iload_n 2, 1) := by decide +kernel
theorem dX5_lookAtColumns_46 : decode cX5_lookAtColumns 46 = .ok (.iadd, 1) := by decide +kernel
theorem dX5_lookAtColumns_47 : decode cX5_lookAtColumns 47 = .ok (.aload_n 0, 1) := by decide +kernel
theorem dX5_lookAtColumns_48 : decode cX5_lookAtColumns 48 = .ok (.iload_n 1, 1) := by decide +kernel
theorem dX5_lookAtColumns_49 : decode cX5_lookAtColumns 49 = .ok (.iload_n 2, 1) := by decide +kernel
theorem dX5_lookAtColumns_50 : decode cX5_lookAtColumns 50 = .ok (.invokevirtual 78, 3) := by decide +kernel
theorem dX5_lookAtColumns_53 : decode cX5_lookAtColumns 53 = .ok (.iastore, 1) := by decide +kernel
theorem dX5_lookAtColumns_54 : decode cX5_lookAtColumns 54 = .ok (.iinc 2 1, 3) := by decide +kernel
theorem dX5_lookAtColumns_57 : decode cX5_lookAtColumns 57 = .ok (.goto (-45), 3) := by decide +kernel
theorem dX5_lookAtColumns_60 : decode cX5_lookAtColumns 60 = .ok (.iinc 1 1, 3) := by decide +kernel
theorem dX5_lookAtColumns_63 : decode cX5_lookAtColumns 63 = .ok (.goto (-61), 3) := by decide +kernel
theorem dX5_lookAtColumns_66 : decode cX5_lookAtColumns 66 = .ok (.return_, 1) := by decide +kernel
set_option maxRecDepth 20000 in
theorem ggX5_cover_X5_lookAtColumns : GoodIn wsX5_cover wsX5_lookAtColumns := goodIn_r _ [6, 7, 8, 9, 10, 11, 12, 13, 5, 14, 15, 16, 17, 18, 19, 20, 21, 22, 23, 24, 25, 26, 31, 32, 33, 34, 35, 36, 37, 38, 39, 40, 41, 42, 43, 44, 45, 46, 47] (by decide +kernel) (by decide +kernel)
set_option maxRecDepth 20000 in
theorem gX5_cover_X5_lookAtColumns : GoodIn wsX5_cover (wsV RX5 120 RX5 yX5_lookAtColumns wsX5_lookAtColumns) := goodIn_app (goodIn_of _ (by decide +kernel)) ggX5_cover_X5_lookAtColumns
set_option maxRecDepth 20000 in
theorem ggX5_cover_X5_coverOf : GoodIn wsX5_cover wsX5_coverOf := goodIn_r _ [30, 7, 8, 9, 31, 32, 33, 34, 35, 36, 37, 38, 39, 40, 41, 42, 43, 44, 45, 46, 47] (by decide +kernel) (by decide +kernel)
set_option maxRecDepth 20000 in
theorem gX5_cover_X5_coverOf : GoodIn wsX5_cover (wsV RX5 123 RX5 yX5_coverOf wsX5_coverOf) := goodIn_app (goodIn_of _ (by decide +kernel)) ggX5_cover_X5_coverOf
theorem dX5_cover_0 : decode cX5_cover 0 = .ok (.aload_n 0, 1) := by decide +kernel
theorem dX5_cover_1 : decode cX5_cover 1 = .ok (.invokevirtual 120, 3) := by decide +kernel
theorem dX5_cover_4 : decode cX5_cover 4 = .ok (.aload_n 0, 1) := by decide +kernel
theorem dX5_cover_5 : decode cX5_cover 5 = .ok (.aload_n 0, 1) := by decide +kernel
theorem dX5_cover_6 : decode cX5_cover 6 = .ok (.getfield 23, 3) := by decide +kernel
theorem dX5_cover_9 : decode cX5_cover 9 = .ok (.iconst 0, 1) := by decide +kernel
theorem dX5_cover_10 : decode cX5_cover 10 = .ok (.iaload, 1) := by decide +kernel
theorem dX5_cover_11 : decode cX5_cover 11 = .ok (.aload_n 0, 1) := by decide +kernel
theorem dX5_cover_12 : decode cX5_cover 12 = .ok (.getfield 23, 3) := by decide +kernel
theorem dX5_cover_15 : decode cX5_cover 15 = .ok (.iconst 1, 1) := by decide +kernel
theorem dX5_cover_16 : decode cX5_cover 16 = .ok (.iaload, 1) := by decide +kernel
theorem dX5_cover_17 : decode cX5_cover 17 = .ok (.invokevirtual 123, 3) := by decide +kernel
theorem dX5_cover_20 : decode cX5_cover 20 = .ok (.ireturn, 1) := by decide +kernel
theorem dX5_ones_0 : decode cX5_ones 0 = .ok (.iconst 0, 1) := by decide +kernel
theorem dX5_ones_1 : decode cX5_ones 1 = .ok (.istore_n 1, 1) := by decide +kernel
theorem dX5_ones_2 : decode cX5_ones 2 = .ok (.iconst 0, 1) := by decide +kernel
theorem dX5_ones_3 : decode cX5_ones 3 = .ok (.istore_n 2, 1) := by decide +kernel
theorem dX5_ones_4 : decode cX5_ones 4 = .ok (.iload_n 2, 1) := by decide +kernel
theorem dX5_ones_5 : decode cX5_ones 5 = .ok (.bipush 8, 2) := by decide +kernel
theorem dX5_ones_7 : decode cX5_ones 7 = .ok (.if_icmp .ge 17, 3) := by decide +kernel
theorem dX5_ones_10 : decode cX5_ones 10 = .ok (.iload_n 1, 1) := by decide +kernel
theorem dX5_ones_11 : decode cX5_ones 11 = .ok (.iload_n 0, 1) := by decide +kernel
theorem dX5_ones_12 : decode cX5_ones 12 = .ok (.iload_n 2, 1) := by decide +kernel
theorem dX5_ones_13 : decode cX5_ones 13 = .ok (.ishr, 1) := by decide +kernel
theorem dX5_ones_14 : decode cX5_ones 14 = .ok (.iconst 1, 1) := by decide +kernel
theorem dX5_ones_15 : decode cX5_ones 15 = .ok (.iand, 1) := by decide +kernel
theorem dX5_ones_16 : decode cX5_ones 16 = .ok (.iadd, 1) := by decide +kernel
theorem dX5_ones_17 : decode cX5_ones 17 = .ok (.istore_n 1, 1) := by decide +kernel
theorem dX5_ones_18 : decode cX5_ones 18 = .ok (.iinc 2 1, 3) := by decide +kernel
theorem dX5_ones_21 : decode cX5_ones 21 = .ok (.goto (-17), 3) := by decide +kernel
theorem dX5_ones_24 : decode cX5_ones 24 = .ok (.iload_n 1, 1) := by decide +kernel
theorem dX5_ones_25 : decode cX5_ones 25 = .ok (.ireturn, 1) := by decide +kernel
set_option maxRecDepth 20000 in
theorem ggX5_best_X5_in : GoodIn wsX5_best wsX5_in := goodIn_r _ [8] (by decide +kernel) (by decide +kernel)
set_option maxRecDepth 20000 in
theorem gX5_best_X5_in : GoodIn wsX5_best (va_wsS RX5 48 yX5_in wsX5_in) := goodIn_app (goodIn_of _ (by decide +kernel)) ggX5_best_X5_in
set_option maxRecDepth 20000 in
theorem ggX5_best_X5_lookAtColumns : GoodIn wsX5_best wsX5_lookAtColumns := goodIn_r _ [12, 1, 2, 13, 14, 15, 16, 17, 7, 18, 19, 20, 21, 22, 23, 24, 25, 26, 27, 28, 29, 30, 42, 43, 44, 45, 46, 47, 48, 49, 50, 51, 52, 53, 54, 55, 56, 57, 58] (by decide +kernel) (by decide +kernel)
set_option maxRecDepth 20000 in
theorem gX5_best_X5_lookAtColumns : GoodIn wsX5_best (wsV RX5 120 RX5 yX5_lookAtColumns wsX5_lookAtColumns) := goodIn_app (goodIn_of _ (by decide +kernel)) ggX5_best_X5_lookAtColumns
set_option maxRecDepth 20000 in
theorem ggX5_best_X5_ones : GoodIn wsX5_best wsX5_ones := goodIn_r _ [33] (by decide +kernel) (by decide +kernel)
set_option maxRecDepth 20000 in
theorem gX5_best_X5_ones : GoodIn wsX5_best (va_wsS RX5 126 yX5_ones wsX5_ones) := goodIn_app (goodIn_of _ (by decide +kernel)) ggX5_best_X5_ones
set_option maxRecDepth 20000 in
theorem ggX5_best_X5_coverOf : GoodIn wsX5_best wsX5_coverOf := goodIn_r _ [37, 1, 2, 13, 42, 43, 44, 45, 46, 47, 48, 49, 50, 51, 52, 53, 54, 55, 56, 57, 58] (by decide +kernel) (by decide +kernel)
set_option maxRecDepth 20000 in
theorem gX5_best_X5_coverOf : GoodIn wsX5_best (wsV RX5 123 RX5 yX5_coverOf wsX5_coverOf) := goodIn_app (goodIn_of _ (by decide +kernel)) ggX5_best_X5_coverOf
set_option maxRecDepth 20000 in
theorem ggX5_best_X5_caughtOf : GoodIn wsX5_best wsX5_caughtOf := goodIn_r _ [41, 1, 2, 14, 42, 43, 44, 45, 46, 47, 48, 49, 50, 51, 52, 53, 54, 55, 56, 57, 58] (by decide +kernel) (by decide +kernel)
set_option maxRecDepth 20000 in
theorem gX5_best_X5_caughtOf : GoodIn wsX5_best (wsV RX5 129 RX5 yX5_caughtOf wsX5_caughtOf) := goodIn_app (goodIn_of _ (by decide +kernel)) ggX5_best_X5_caughtOf
theorem dX5_best_0 : decode cX5_best 0 = .ok (.iload_n 1, 1) := by decide +kernel
theorem dX5_best_1 : decode cX5_best 1 = .ok (.i2l, 1) := by decide +kernel
theorem dX5_best_2 : decode cX5_best 2 = .ok (.lconst 0, 1) := by decide +kernel
theorem dX5_best_3 : decode cX5_best 3 = .ok (.aload_n 0, 1) := by decide +kernel
theorem dX5_best_4 : decode cX5_best 4 = .ok (.getfield 7, 3) := by decide +kernel
theorem dX5_best_7 : decode cX5_best 7 = .ok (.i2l, 1) := by decide +kernel
theorem dX5_best_8 : decode cX5_best 8 = .ok (.invokestatic 48, 3) := by decide +kernel
theorem dX5_best_11 : decode cX5_best 11 = .ok (.ifCond .eq 17, 3) := by decide +kernel
theorem dX5_best_14 : decode cX5_best 14 = .ok (.iload_n 2, 1) := by decide +kernel
theorem dX5_best_15 : decode cX5_best 15 = .ok (.i2l, 1) := by decide +kernel
theorem dX5_best_16 : decode cX5_best 16 = .ok (.lconst 0, 1) := by decide +kernel
theorem dX5_best_17 : decode cX5_best 17 = .ok (.aload_n 0, 1) := by decide +kernel
theorem dX5_best_18 : decode cX5_best 18 = .ok (.getfield 13, 3) := by decide +kernel
theorem dX5_best_21 : decode cX5_best 21 = .ok (.i2l, 1) := by decide +kernel
theorem dX5_best_22 : decode cX5_best 22 = .ok (.invokestatic 48, 3) := by decide +kernel
theorem dX5_best_25 : decode cX5_best 25 = .ok (.ifCond .ne 6, 3) := by decide +kernel
theorem dX5_best_28 : decode cX5_best 28 = .ok (.bipush (-2), 2) := by decide +kernel
theorem dX5_best_30 : decode cX5_best 30 = .ok (.ireturn, 1) := by decide +kernel
theorem dX5_best_31 : decode cX5_best 31 = .ok (.aload_n 0, 1) := by decide +kernel
theorem dX5_best_32 : decode cX5_best 32 = .ok (.invokevirtual 120, 3) := by decide +kernel
theorem dX5_best_35 : decode cX5_best 35 = .ok (.iconst (-1), 1) := by decide +kernel
theorem dX5_best_36 : decode cX5_best 36 = .ok (.istore_n 3, 1) := by decide +kernel
theorem dX5_best_37 : decode cX5_best 37 = .ok (.iconst 0, 1) := by decide +kernel
theorem dX5_best_38 : decode cX5_best 38 = .ok (.istore 4, 2) := by decide +kernel
theorem dX5_best_40 : decode cX5_best 40 = .ok (.iconst 0, 1) := by decide +kernel
theorem dX5_best_41 : decode cX5_best 41 = .ok (.istore 5, 2) := by decide +kernel
theorem dX5_best_43 : decode cX5_best 43 = .ok (.iconst 0, 1) := by decide +kernel
theorem dX5_best_44 : decode cX5_best 44 = .ok (.istore 6, 2) := by decide +kernel
theorem dX5_best_46 : decode cX5_best 46 = .ok (.iconst 0, 1) := by decide +kernel
theorem dX5_best_47 : decode cX5_best 47 = .ok (.istore 7, 2) := by decide +kernel
theorem dX5_best_49 : decode cX5_best 49 = .ok (.iload 7, 2) := by decide +kernel
theorem dX5_best_51 : decode cX5_best 51 = .ok (.iconst 1, 1) := by decide +kernel
theorem dX5_best_52 : decode cX5_best 52 = .ok (.aload_n 0, 1) := by decide +kernel
theorem dX5_best_53 : decode cX5_best 53 = .ok (.getfield 7, 3) := by decide +kernel
theorem dX5_best_56 : decode cX5_best 56 = .ok (.ishl, 1) := by decide +kernel
theorem dX5_best_57 : decode cX5_best 57 = .ok (.if_icmp .ge 103, 3) := by decide +kernel
theorem dX5_best_60 : decode cX5_best 60 = .ok (.iconst 0, 1) := by decide +kernel
theorem dX5_best_61 : decode cX5_best 61 = .ok (.istore 8, 2) := by decide +kernel
theorem dX5_best_63 : decode cX5_best 63 = .ok (.iload 8, 2) := by decide +kernel
theorem dX5_best_65 : decode cX5_best 65 = .ok (.iconst 1, 1) := by decide +kernel
theorem dX5_best_66 : decode cX5_best 66 = .ok (.aload_n 0, 1) := by decide +kernel
theorem dX5_best_67 : decode cX5_best 67 = .ok (.getfield 13, 3) := by decide +kernel
theorem dX5_best_70 : decode cX5_best 70 = .ok (.ishl, 1) := by decide +kernel
theorem dX5_best_71 : decode cX5_best 71 = .ok (.if_icmp .ge 83, 3) := by decide +kernel
theorem dX5_best_74 : decode cX5_best 74 = .ok (.iload 7, 2) := by decide +kernel
theorem dX5_best_76 : decode cX5_best 76 = .ok (.invokestatic 126, 3) := by decide +kernel
theorem dX5_best_79 : decode cX5_best 79 = .ok (.iload_n 1, 1) := by decide +kernel
theorem dX5_best_80 : decode cX5_best 80 = .ok (.if_icmp .ne 74, 3) := by decide +kernel
theorem dX5_best_83 : decode cX5_best 83 = .ok (.iload 8, 2) := by decide +kernel
theorem dX5_best_85 : decode cX5_best 85 = .ok (.invokestatic 126, 3) := by decide +kernel
theorem dX5_best_88 : decode cX5_best 88 = .ok (.iload_n 2, 1) := by decide +kernel
theorem dX5_best_89 : decode cX5_best 89 = .ok (.if_icmp .ne 59, 3) := by decide +kernel
theorem dX5_best_92 : decode cX5_best 92 = .ok (.aload_n 0, 1) := by decide +kernel
theorem dX5_best_93 : decode cX5_best 93 = .ok (.iload 7, 2) := by decide +kernel
theorem dX5_best_95 : decode cX5_best 95 = .ok (.iload 8, 2) := by decide +kernel
theorem dX5_best_97 : decode cX5_best 97 = .ok (.invokevirtual 123, 3) := by decide +kernel
theorem dX5_best_100 : decode cX5_best 100 = .ok (.istore 9, 2) := by decide +kernel
theorem dX5_best_102 : decode cX5_best 102 = .ok (.iload 9, 2) := by decide +kernel
theorem dX5_best_104 : decode cX5_best 104 = .ok (.iload_n 3, 1) := by decide +kernel
theorem dX5_best_105 : decode cX5_best 105 = .ok (.if_icmp .gt 22, 3) := by decide +kernel
theorem dX5_best_108 : decode cX5_best 108 = .ok (.iload 9, 2) := by decide +kernel
theorem dX5_best_110 : decode cX5_best 110 = .ok (.iload_n 3, 1) := by decide +kernel
theorem dX5_best_111 : decode cX5_best 111 = .ok (.if_icmp .ne 37, 3) := by decide +kernel
theorem dX5_best_114 : decode cX5_best 114 = .ok (.aload_n 0, 1) := by decide +kernel
theorem dX5_best_115 : decode cX5_best 115 = .ok (.iload 7, 2) := by decide +kernel
theorem dX5_best_117 : decode cX5_best 117 = .ok (.iload 8, 2) := by decide +kernel
theorem dX5_best_119 : decode cX5_best 119 = .ok (.invokevirtual 129, 3) := by decide +kernel
theorem dX5_best_122 : decode cX5_best 122 = .ok (.iload 4, 2) := by decide +kernel
theorem dX5_best_124 : decode cX5_best 124 = .ok (.if_icmp .ge 24, 3) := by decide +kernel
theorem dX5_best_127 : decode cX5_best 127 = .ok (.iload 9, 2) := by decide +kernel
theorem dX5_best_129 : decode cX5_best 129 = .ok (.istore_n 3, 1) := by decide +kernel
theorem dX5_best_130 : decode cX5_best 130 = .ok (.aload_n 0, 1) := by decide +kernel
theorem dX5_best_131 : decode cX5_best 131 = .ok (.iload 7, 2) := by decide +kernel
theorem dX5_best_133 : decode cX5_best 133 = .ok (.iload 8, 2) := by decide +kernel
theorem dX5_best_135 : decode cX5_best 135 = .ok (.invokevirtual 129, 3) := by decide +kernel
theorem dX5_best_138 : decode cX5_best 138 = .ok (.istore 4, 2) := by decide +kernel
theorem dX5_best_140 : decode cX5_best 140 = .ok (.iload 7, 2) := by decide +kernel
theorem dX5_best_142 : decode cX5_best 142 = .ok (.istore 5, 2) := by decide +kernel
theorem dX5_best_144 : decode cX5_best 144 = .ok (.iload 8, 2) := by decide +kernel
theorem dX5_best_146 : decode cX5_best 146 = .ok (.istore 6, 2) := by decide +kernel
theorem dX5_best_148 : decode cX5_best 148 = .ok (.iinc 8 1, 3) := by decide +kernel
theorem dX5_best_151 : decode cX5_best 151 = .ok (.goto (-88), 3) := by decide +kernel
theorem dX5_best_154 : decode cX5_best 154 = .ok (.iinc 7 1, 3) := by decide +kernel
theorem dX5_best_157 : decode cX5_best 157 = .ok (.goto (-108), 3) := by decide +kernel
theorem dX5_best_160 : decode cX5_best 160 = .ok (.aload_n 0, 1) := by decide +kernel
theorem dX5_best_161 : decode cX5_best 161 = .ok (.getfield 23, 3) := by decide +kernel
theorem dX5_best_164 : decode cX5_best 164 = .ok (.iconst 0, 1) := by decide +kernel
theorem dX5_best_165 : decode cX5_best 165 = .ok (.iload 5, 2) := by decide +kernel
theorem dX5_best_167 : decode cX5_best 167 = .ok (.iastore, 1) := by decide +kernel
theorem dX5_best_168 : decode cX5_best 168 = .ok (.aload_n 0, 1) := by decide +kernel
theorem dX5_best_169 : decode cX5_best 169 = .ok (.getfield 23, 3) := by decide +kernel
theorem dX5_best_172 : decode cX5_best 172 = .ok (.iconst 1, 1) := by decide +kernel
theorem dX5_best_173 : decode cX5_best 173 = .ok (.iload 6, 2) := by decide +kernel
theorem dX5_best_175 : decode cX5_best 175 = .ok (.iastore, 1) := by decide +kernel
theorem dX5_best_176 : decode cX5_best 176 = .ok (.aload_n 0, 1) := by decide +kernel
theorem dX5_best_177 : decode cX5_best 177 = .ok (.iconst 0, 1) := by decide +kernel
theorem dX5_best_178 : decode cX5_best 178 = .ok (.putfield 54, 3) := by decide +kernel
theorem dX5_best_181 : decode cX5_best 181 = .ok (.iload_n 3, 1) := by decide +kernel
theorem dX5_best_182 : decode cX5_best 182 = .ok (.ireturn, 1) := by decide +kernel
set_option maxRecDepth 20000 in
theorem ggX5_told_X5_isChosen : GoodIn wsX5_told wsX5_isChosen := goodIn_r _ [11, 5, 55, 56, 57, 58, 59, 60, 61, 62, 63, 64, 65, 66, 67, 68, 69, 70, 71] (by decide +kernel) (by decide +kernel)
set_option maxRecDepth 20000 in
theorem gX5_told_X5_isChosen : GoodIn wsX5_told (wsV RX5 75 RX5 yX5_isChosen wsX5_isChosen) := goodIn_app (goodIn_of _ (by decide +kernel)) ggX5_told_X5_isChosen
set_option maxRecDepth 20000 in
theorem ggX5_told_X5_findParts : GoodIn wsX5_told wsX5_findParts := goodIn_r _ [15, 6, 3, 16, 17, 18, 19, 20, 10, 21, 1, 2, 22, 23, 24, 25, 26, 27, 28, 29, 30, 31, 32, 33, 4, 34, 35, 36, 37, 38, 39, 7, 8, 9, 11, 5, 40, 41, 42, 43, 44, 45, 46, 47, 48, 49, 50, 55, 56, 57, 58, 59, 60, 61, 62, 63, 64, 65, 66, 67, 68, 69, 70, 71] (by decide +kernel) (by decide +kernel)
set_option maxRecDepth 20000 in
theorem gX5_told_X5_findParts : GoodIn wsX5_told (wsV RX5 102 RX5 yX5_findParts wsX5_findParts) := goodIn_app (goodIn_of _ (by decide +kernel)) ggX5_told_X5_findParts
set_option maxRecDepth 20000 in
theorem ggX5_told_X5_looseOf : GoodIn wsX5_told wsX5_looseOf := goodIn_r _ [54, 16, 12, 13, 14, 10, 15, 6, 3, 17, 18, 19, 20, 21, 1, 2, 22, 23, 24, 25, 26, 27, 28, 29, 30, 31, 32, 33, 4, 34, 35, 36, 37, 38, 39, 7, 8, 9, 11, 5, 40, 41, 42, 43, 44, 45, 46, 47, 48, 49, 50, 55, 56, 57, 58, 59, 60, 61, 62, 63, 64, 65, 66, 67, 68, 69, 70, 71] (by decide +kernel) (by decide +kernel)
set_option maxRecDepth 20000 in
theorem gX5_told_X5_looseOf : GoodIn wsX5_told (wsV RX5 106 RX5 yX5_looseOf wsX5_looseOf) := goodIn_app (goodIn_of _ (by decide +kernel)) ggX5_told_X5_looseOf
theorem dX5_told_0 : decode cX5_told 0 = .ok (.iconst 0, 1) := by decide +kernel
theorem dX5_told_1 : decode cX5_told 1 = .ok (.istore_n 2, 1) := by decide +kernel
theorem dX5_told_2 : decode cX5_told 2 = .ok (.iload_n 1, 1) := by decide +kernel
theorem dX5_told_3 : decode cX5_told 3 = .ok (.tableswitch 209 0 7 #[45, 50, 55, 60, 94, 101, 108, 159], 45) := by decide +kernel
theorem dX5_told_48 : decode cX5_told 48 = .ok (.aload_n 0, 1) := by decide +kernel
theorem dX5_told_49 : decode cX5_told 49 = .ok (.getfield 7, 3) := by decide +kernel
theorem dX5_told_52 : decode cX5_told 52 = .ok (.ireturn, 1) := by decide +kernel
theorem dX5_told_53 : decode cX5_told 53 = .ok (.aload_n 0, 1) := by decide +kernel
theorem dX5_told_54 : decode cX5_told 54 = .ok (.getfield 13, 3) := by decide +kernel
theorem dX5_told_57 : decode cX5_told 57 = .ok (.ireturn, 1) := by decide +kernel
theorem dX5_told_58 : decode cX5_told 58 = .ok (.aload_n 0, 1) := by decide +kernel
theorem dX5_told_59 : decode cX5_told 59 = .ok (.getfield 16, 3) := by decide +kernel
theorem dX5_told_62 : decode cX5_told 62 = .ok (.ireturn, 1) := by decide +kernel
theorem dX5_told_63 : decode cX5_told 63 = .ok (.iconst 0, 1) := by decide +kernel
theorem dX5_told_64 : decode cX5_told 64 = .ok (.istore_n 3, 1) := by decide +kernel
theorem dX5_told_65 : decode cX5_told 65 = .ok (.iload_n 3, 1) := by decide +kernel
theorem dX5_told_66 : decode cX5_told 66 = .ok (.sipush 512, 3) := by decide +kernel
theorem dX5_told_69 : decode cX5_told 69 = .ok (.if_icmp .ge 26, 3) := by decide +kernel
theorem dX5_told_72 : decode cX5_told 72 = .ok (.iload_n 2, 1) := by decide +kernel
theorem dX5_told_73 : decode cX5_told 73 = .ok (.aload_n 0, 1) := by decide +kernel
theorem dX5_told_74 : decode cX5_told 74 = .ok (.getfield 19, 3) := by decide +kernel
theorem dX5_told_77 : decode cX5_told 77 = .ok (.iload_n 3, 1) := by decide +kernel
theorem dX5_told_78 : decode cX5_told 78 = .ok (.baload, 1) := by decide +kernel
theorem dX5_told_79 : decode cX5_told 79 = .ok (.ifCond .eq 7, 3) := by decide +kernel
theorem dX5_told_82 : decode cX5_told 82 = .ok (.iconst 1, 1) := by decide +kernel
theorem dX5_told_83 : decode cX5_told 83 = .ok (.goto 4, 3) := by decide +kernel
theorem dX5_told_86 : decode cX5_told 86 = .ok (.iconst 0, 1) := by decide +kernel
theorem dX5_told_87 : decode cX5_told 87 = .ok (.iadd, 1) := by decide +kernel
theorem dX5_told_88 : decode cX5_told 88 = .ok (.istore_n 2, 1) := by decide +kernel
theorem dX5_told_89 : decode cX5_told 89 = .ok (.iinc 3 1, 3) := by decide +kernel
theorem dX5_told_92 : decode cX5_told 92 = .ok (.goto (-27), 3) := by decide +kernel
theorem dX5_told_95 : decode cX5_told 95 = .ok (.iload_n 2, 1) := by decide +kernel
theorem dX5_told_96 : decode cX5_told 96 = .ok (.ireturn, 1) := by decide +kernel
theorem dX5_told_97 : decode cX5_told 97 = .ok (.aload_n 0, 1) := by decide +kernel
theorem dX5_told_98 : decode cX5_told 98 = .ok (.getfield 23, 3) := by decide +kernel
theorem dX5_told_101 : decode cX5_told 101 = .ok (.iconst 0, 1) := by decide +kernel
theorem dX5_told_102 : decode cX5_told 102 = .ok (.iaload, 1) := by decide +kernel
theorem dX5_told_103 : decode cX5_told 103 = .ok (.ireturn, 1) := by decide +kernel
theorem dX5_told_104 : decode cX5_told 104 = .ok (.aload_n 0, 1) := by decide +kernel
theorem dX5_told_105 : decode cX5_told 105 = .ok (.getfield 23, 3) := by decide +kernel
theorem dX5_told_108 : decode cX5_told 108 = .ok (.iconst 1, 1) := by decide +kernel
theorem dX5_told_109 : decode cX5_told 109 = .ok (.iaload, 1) := by decide +kernel
theorem dX5_told_110 : decode cX5_told 110 = .ok (.ireturn, 1) := by decide +kernel
theorem dX5_told_111 : decode cX5_told 111 = .ok (.iconst 0, 1) := by decide +kernel
theorem dX5_told_112 : decode cX5_told 112 = .ok (.istore_n 3, 1) := by decide +kernel
theorem dX5_told_113 : decode cX5_told 113 = .ok (.iload_n 3, 1) := by decide +kernel
theorem dX5_told_114 : decode cX5_told 114 = .ok (.bipush 16, 2) := by decide +kernel
theorem dX5_told_116 : decode cX5_told 116 = .ok (.if_icmp .ge 44, 3) := by decide +kernel
theorem dX5_told_119 : decode cX5_told 119 = .ok (.aload_n 0, 1) := by decide +kernel
theorem dX5_told_120 : decode cX5_told 120 = .ok (.iload_n 3, 1) := by decide +kernel
theorem dX5_told_121 : decode cX5_told 121 = .ok (.bipush 8, 2) := by decide +kernel
theorem dX5_told_123 : decode cX5_told 123 = .ok (.idiv, 1) := by decide +kernel
theorem dX5_told_124 : decode cX5_told 124 = .ok (.iload_n 3, 1) := by decide +kernel
theorem dX5_told_125 : decode cX5_told 125 = .ok (.bipush 8, 2) := by decide +kernel
theorem dX5_told_127 : decode cX5_told 127 = .ok (.irem, 1) := by decide +kernel
theorem dX5_told_128 : decode cX5_told 128 = .ok (.invokevirtual 75, 3) := by decide +kernel
theorem dX5_told_131 : decode cX5_told 131 = .ok (.ifCond .eq 23, 3) := by decide +kernel
theorem dX5_told_134 : decode cX5_told 134 = .ok (.aload_n 0, 1) := by decide +kernel
theorem dX5_told_135 : decode cX5_told 135 = .ok (.iload_n 3, 1) := by decide +kernel
theorem dX5_told_136 : decode cX5_told 136 = .ok (.bipush 8, 2) := by decide +kernel
theorem dX5_told_138 : decode cX5_told 138 = .ok (.idiv, 1) := by decide +kernel
theorem dX5_told_139 : decode cX5_told 139 = .ok (.iload_n 3, 1) := by decide +kernel
theorem dX5_told_140 : decode cX5_told 140 = .ok (.bipush 8, 2) := by decide +kernel
theorem dX5_told_142 : decode cX5_told 142 = .ok (.irem, 1) := by decide +kernel
theorem dX5_told_143 : decode cX5_told 143 = .ok (.iconst 1, 1) := by decide +kernel
theorem dX5_told_144 : decode cX5_told 144 = .ok (.invokevirtual 102, 3) := by decide +kernel
theorem dX5_told_147 : decode cX5_told 147 = .ok (.iload_n 2, 1) := by decide +kernel
theorem dX5_told_148 : decode cX5_told 148 = .ok (.aload_n 0, 1) := by decide +kernel
theorem dX5_told_149 : decode cX5_told 149 = .ok (.getfield 93, 3) := by decide +kernel
theorem dX5_told_152 : decode cX5_told 152 = .ok (.iadd, 1) := by decide +kernel
theorem dX5_told_153 : decode cX5_told 153 = .ok (.istore_n 2, 1) := by decide +kernel
theorem dX5_told_154 : decode cX5_told 154 = .ok (.iinc 3 1, 3) := by decide +kernel
theorem dX5_told_157 : decode cX5_told 157 = .ok (.goto (-44), 3) := by decide +kernel
theorem dX5_told_160 : decode cX5_told 160 = .ok (.iload_n 2, 1) := by decide +kernel
theorem dX5_told_161 : decode cX5_told 161 = .ok (.ireturn, 1) := by decide +kernel
theorem dX5_told_162 : decode cX5_told 162 = .ok (.iconst 0, 1) := by decide +kernel
theorem dX5_told_163 : decode cX5_told 163 = .ok (.istore_n 3, 1) := by decide +kernel
theorem dX5_told_164 : decode cX5_told 164 = .ok (.iload_n 3, 1) := by decide +kernel
theorem dX5_told_165 : decode cX5_told 165 = .ok (.bipush 16, 2) := by decide +kernel
theorem dX5_told_167 : decode cX5_told 167 = .ok (.if_icmp .ge 43, 3) := by decide +kernel
theorem dX5_told_170 : decode cX5_told 170 = .ok (.iload_n 2, 1) := by decide +kernel
theorem dX5_told_171 : decode cX5_told 171 = .ok (.aload_n 0, 1) := by decide +kernel
theorem dX5_told_172 : decode cX5_told 172 = .ok (.iload_n 3, 1) := by decide +kernel
theorem dX5_told_173 : decode cX5_told 173 = .ok (.bipush 8, 2) := by decide +kernel
theorem dX5_told_175 : decode cX5_told 175 = .ok (.idiv, 1) := by decide +kernel
theorem dX5_told_176 : decode cX5_told 176 = .ok (.iload_n 3, 1) := by decide +kernel
theorem dX5_told_177 : decode cX5_told 177 = .ok (.bipush 8, 2) := by decide +kernel
theorem dX5_told_179 : decode cX5_told 179 = .ok (.irem, 1) := by decide +kernel
theorem dX5_told_180 : decode cX5_told 180 = .ok (.invokevirtual 75, 3) := by decide +kernel
theorem dX5_told_183 : decode cX5_told 183 = .ok (.ifCond .eq 18, 3) := by decide +kernel
theorem dX5_told_186 : decode cX5_told 186 = .ok (.aload_n 0, 1) := by decide +kernel
theorem dX5_told_187 : decode cX5_told 187 = .ok (.iload_n 3, 1) := by decide +kernel
theorem dX5_told_188 : decode cX5_told 188 = .ok (.bipush 8, 2) := by decide +kernel
theorem dX5_told_190 : decode cX5_told 190 = .ok (.idiv, 1) := by decide +kernel
theorem dX5_told_191 : decode cX5_told 191 = .ok (.iload_n 3, 1) := by decide +kernel
theorem dX5_told_192 : decode cX5_told 192 = .ok (.bipush 8, 2) := by decide +kernel
theorem dX5_told_194 : decode cX5_told 194 = .ok (.irem, 1) := by decide +kernel
theorem dX5_told_195 : decode cX5_told 195 = .ok (.invokevirtual 106, 3) := by decide +kernel
theorem dX5_told_198 : decode cX5_told 198 = .ok (.goto 4, 3) := by decide +kernel
theorem dX5_told_201 : decode cX5_told 201 = .ok (.iconst 0, 1) := by decide +kernel
theorem dX5_told_202 : decode cX5_told 202 = .ok (.iadd, 1) := by decide +kernel
theorem dX5_told_203 : decode cX5_told 203 = .ok (.istore_n 2, 1) := by decide +kernel
theorem dX5_told_204 : decode cX5_told 204 = .ok (.iinc 3 1, 3) := by decide +kernel
theorem dX5_told_207 : decode cX5_told 207 = .ok (.goto (-43), 3) := by decide +kernel
theorem dX5_told_210 : decode cX5_told 210 = .ok (.iload_n 2, 1) := by decide +kernel
theorem dX5_told_211 : decode cX5_told 211 = .ok (.ireturn, 1) := by decide +kernel
theorem dX5_told_212 : decode cX5_told 212 = .ok (.bipush (-2), 2) := by decide +kernel
theorem dX5_told_214 : decode cX5_told 214 = .ok (.ireturn, 1) := by decide +kernel
theorem dX5_isAhead_0 : decode cX5_isAhead 0 = .ok (.aload_n 0, 1) := by decide +kernel
theorem dX5_isAhead_1 : decode cX5_isAhead 1 = .ok (.getfield 45, 3) := by decide +kernel
theorem dX5_isAhead_4 : decode cX5_isAhead 4 = .ok (.bipush 7, 2) := by decide +kernel
theorem dX5_isAhead_6 : decode cX5_isAhead 6 = .ok (.iload_n 1, 1) := by decide +kernel
theorem dX5_isAhead_7 : decode cX5_isAhead 7 = .ok (.imul, 1) := by decide +kernel
theorem dX5_isAhead_8 : decode cX5_isAhead 8 = .ok (.bipush 6, 2) := by decide +kernel
theorem dX5_isAhead_10 : decode cX5_isAhead 10 = .ok (.iadd, 1) := by decide +kernel
theorem dX5_isAhead_11 : decode cX5_isAhead 11 = .ok (.iaload, 1) := by decide +kernel
theorem dX5_isAhead_12 : decode cX5_isAhead 12 = .ok (.aload_n 0, 1) := by decide +kernel
theorem dX5_isAhead_13 : decode cX5_isAhead 13 = .ok (.getfield 45, 3) := by decide +kernel
theorem dX5_isAhead_16 : decode cX5_isAhead 16 = .ok (.bipush 7, 2) := by decide +kernel
theorem dX5_isAhead_18 : decode cX5_isAhead 18 = .ok (.iload_n 2, 1) := by decide +kernel
theorem dX5_isAhead_19 : decode cX5_isAhead 19 = .ok (.imul, 1) := by decide +kernel
theorem dX5_isAhead_20 : decode cX5_isAhead 20 = .ok (.bipush 6, 2) := by decide +kernel
theorem dX5_isAhead_22 : decode cX5_isAhead 22 = .ok (.iadd, 1) := by decide +kernel
theorem dX5_isAhead_23 : decode cX5_isAhead 23 = .ok (.iaload, 1) := by decide +kernel
theorem dX5_isAhead_24 : decode cX5_isAhead 24 = .ok (.if_icmp .eq 36, 3) := by decide +kernel
theorem dX5_isAhead_27 : decode cX5_isAhead 27 = .ok (.aload_n 0, 1) := by decide +kernel
theorem dX5_isAhead_28 : decode cX5_isAhead 28 = .ok (.getfield 45, 3) := by decide +kernel
theorem dX5_isAhead_31 : decode cX5_isAhead 31 = .ok (.bipush 7, 2) := by decide +kernel
theorem dX5_isAhead_33 : decode cX5_isAhead 33 = .ok (.iload_n 1, 1) := by decide +kernel
theorem dX5_isAhead_34 : decode cX5_isAhead 34 = .ok (.imul, 1) := by decide +kernel
theorem dX5_isAhead_35 : decode cX5_isAhead 35 = .ok (.bipush 6, 2) := by decide +kernel
theorem dX5_isAhead_37 : decode cX5_isAhead 37 = .ok (.iadd, 1) := by decide +kernel
theorem dX5_isAhead_38 : decode cX5_isAhead 38 = .ok (.iaload, 1) := by decide +kernel
theorem dX5_isAhead_39 : decode cX5_isAhead 39 = .ok (.aload_n 0, 1) := by decide +kernel
theorem dX5_isAhead_40 : decode cX5_isAhead 40 = .ok (.getfield 45, 3) := by decide +kernel
theorem dX5_isAhead_43 : decode cX5_isAhead 43 = .ok (.bipush 7, 2) := by decide +kernel
theorem dX5_isAhead_45 : decode cX5_isAhead 45 = .ok (.iload_n 2, 1) := by decide +kernel
theorem dX5_isAhead_46 : decode cX5_isAhead 46 = .ok (.imul, 1) := by decide +kernel
theorem dX5_isAhead_47 : decode cX5_isAhead 47 = .ok (.bipush 6, 2) := by decide +kernel
theorem dX5_isAhead_49 : decode cX5_isAhead 49 = .ok (.iadd, 1) := by decide +kernel
theorem dX5_isAhead_50 : decode cX5_isAhead 50 = .ok (.iaload, 1) := by decide +kernel
theorem dX5_isAhead_51 : decode cX5_isAhead 51 = .ok (.if_icmp .le 7, 3) := by decide +kernel
theorem dX5_isAhead_54 : decode cX5_isAhead 54 = .ok (.iconst 1, 1) := by decide +kernel
theorem dX5_isAhead_55 : decode cX5_isAhead 55 = .ok (.goto 4, 3) := by decide +kernel
theorem dX5_isAhead_58 : decode cX5_isAhead 58 = .ok (.iconst 0, 1) := by decide +kernel
theorem dX5_isAhead_59 : decode cX5_isAhead 59 = .ok (.ireturn, 1) := by decide +kernel
theorem dX5_isAhead_60 : decode cX5_isAhead 60 = .ok (.aload_n 0, 1) := by decide +kernel
theorem dX5_isAhead_61 : decode cX5_isAhead 61 = .ok (.getfield 45, 3) := by decide +kernel
theorem dX5_isAhead_64 : decode cX5_isAhead 64 = .ok (.bipush 7, 2) := by decide +kernel
theorem dX5_isAhead_66 : decode cX5_isAhead 66 = .ok (.iload_n 1, 1) := by decide +kernel
theorem dX5_isAhead_67 : decode cX5_isAhead 67 = .ok (.imul, 1) := by decide +kernel
theorem dX5_isAhead_68 : decode cX5_isAhead 68 = .ok (.iconst 5, 1) := by decide +kernel
theorem dX5_isAhead_69 : decode cX5_isAhead 69 = .ok (.iadd, 1) := by decide +kernel
theorem dX5_isAhead_70 : decode cX5_isAhead 70 = .ok (.iaload, 1) := by decide +kernel
theorem dX5_isAhead_71 : decode cX5_isAhead 71 = .ok (.aload_n 0, 1) := by decide +kernel
theorem dX5_isAhead_72 : decode cX5_isAhead 72 = .ok (.getfield 45, 3) := by decide +kernel
theorem dX5_isAhead_75 : decode cX5_isAhead 75 = .ok (.bipush 7, 2) := by decide +kernel
theorem dX5_isAhead_77 : decode cX5_isAhead 77 = .ok (.iload_n 2, 1) := by decide +kernel
theorem dX5_isAhead_78 : decode cX5_isAhead 78 = .ok (.imul, 1) := by decide +kernel
theorem dX5_isAhead_79 : decode cX5_isAhead 79 = .ok (.iconst 5, 1) := by decide +kernel
theorem dX5_isAhead_80 : decode cX5_isAhead 80 = .ok (.iadd, 1) := by decide +kernel
theorem dX5_isAhead_81 : decode cX5_isAhead 81 = .ok (.iaload, 1) := by decide +kernel
theorem dX5_isAhead_82 : decode cX5_isAhead 82 = .ok (.if_icmp .le 7, 3) := by decide +kernel
theorem dX5_isAhead_85 : decode cX5_isAhead 85 = .ok (.iconst 1, 1) := by decide +kernel
theorem dX5_isAhead_86 : decode cX5_isAhead 86 = .ok (.goto 4, 3) := by decide +kernel
theorem dX5_isAhead_89 : decode cX5_isAhead 89 = .ok (.iconst 0, 1) := by decide +kernel
theorem dX5_isAhead_90 : decode cX5_isAhead 90 = .ok (.ireturn, 1) := by decide +kernel
theorem dX5_exchange_0 : decode cX5_exchange 0 = .ok (.iconst 0, 1) := by decide +kernel
theorem dX5_exchange_1 : decode cX5_exchange 1 = .ok (.istore_n 3, 1) := by decide +kernel
theorem dX5_exchange_2 : decode cX5_exchange 2 = .ok (.iload_n 3, 1) := by decide +kernel
theorem dX5_exchange_3 : decode cX5_exchange 3 = .ok (.bipush 7, 2) := by decide +kernel
theorem dX5_exchange_5 : decode cX5_exchange 5 = .ok (.if_icmp .ge 57, 3) := by decide +kernel
theorem dX5_exchange_8 : decode cX5_exchange 8 = .ok (.aload_n 0, 1) := by decide +kernel
theorem dX5_exchange_9 : decode cX5_exchange 9 = .ok (.getfield 45, 3) := by decide +kernel
theorem dX5_exchange_12 : decode cX5_exchange 12 = .ok (.bipush 7, 2) := by decide +kernel
theorem dX5_exchange_14 : decode cX5_exchange 14 = .ok (.iload_n 1, 1) := by decide +kernel
theorem dX5_exchange_15 : decode cX5_exchange 15 = .ok (.imul, 1) := by decide +kernel
theorem dX5_exchange_16 : decode cX5_exchange 16 = .ok (.iload_n 3, 1) := by decide +kernel
theorem dX5_exchange_17 : decode cX5_exchange 17 = .ok (.iadd, 1) := by decide +kernel
theorem dX5_exchange_18 : decode cX5_exchange 18 = .ok (.iaload, 1) := by decide +kernel
theorem dX5_exchange_19 : decode cX5_exchange 19 = .ok (.istore 4, 2) := by decide +kernel
theorem dX5_exchange_21 : decode cX5_exchange 21 = .ok (.aload_n 0, 1) := by decide +kernel
theorem dX5_exchange_22 : decode cX5_exchange 22 = .ok (.getfield 45, 3) := by decide +kernel
theorem dX5_exchange_25 : decode cX5_exchange 25 = .ok (.bipush 7, 2) := by decide +kernel
theorem dX5_exchange_27 : decode cX5_exchange 27 = .ok (.iload_n 1, 1) := by decide +kernel
theorem dX5_exchange_28 : decode cX5_exchange 28 = .ok (.imul, 1) := by decide +kernel
theorem dX5_exchange_29 : decode cX5_exchange 29 = .ok (.iload_n 3, 1) := by decide +kernel
theorem dX5_exchange_30 : decode cX5_exchange 30 = .ok (.iadd, 1) := by decide +kernel
theorem dX5_exchange_31 : decode cX5_exchange 31 = .ok (.aload_n 0, 1) := by decide +kernel
theorem dX5_exchange_32 : decode cX5_exchange 32 = .ok (.getfield 45, 3) := by decide +kernel
theorem dX5_exchange_35 : decode cX5_exchange 35 = .ok (.bipush 7, 2) := by decide +kernel
theorem dX5_exchange_37 : decode cX5_exchange 37 = .ok (.iload_n 2, 1) := by decide +kernel
theorem dX5_exchange_38 : decode cX5_exchange 38 = .ok (.imul, 1) := by decide +kernel
theorem dX5_exchange_39 : decode cX5_exchange 39 = .ok (.iload_n 3, 1) := by decide +kernel
theorem dX5_exchange_40 : decode cX5_exchange 40 = .ok (.iadd, 1) := by decide +kernel
theorem dX5_exchange_41 : decode cX5_exchange 41 = .ok (.iaload, 1) := by decide +kernel
theorem dX5_exchange_42 : decode cX5_exchange 42 = .ok (.iastore, 1) := by decide +kernel
theorem dX5_exchange_43 : decode cX5_exchange 43 = .ok (.aload_n 0, 1) := by decide +kernel
theorem dX5_exchange_44 : decode cX5_exchange 44 = .ok (.getfield 45, 3) := by decide +kernel
theorem dX5_exchange_47 : decode cX5_exchange 47 = .ok (.bipush 7, 2) := by decide +kernel
theorem dX5_exchange_49 : decode cX5_exchange 49 = .ok (.iload_n 2, 1) := by decide +kernel
theorem dX5_exchange_50 : decode cX5_exchange 50 = .ok (.imul, 1) := by decide +kernel
theorem dX5_exchange_51 : decode cX5_exchange 51 = .ok (.iload_n 3, 1) := by decide +kernel
theorem dX5_exchange_52 : decode cX5_exchange 52 = .ok (.iadd, 1) := by decide +kernel
theorem dX5_exchange_53 : decode cX5_exchange 53 = .ok (.iload 4, 2) := by decide +kernel
theorem dX5_exchange_55 : decode cX5_exchange 55 = .ok (.iastore, 1) := by decide +kernel
theorem dX5_exchange_56 : decode cX5_exchange 56 = .ok (.iinc 3 1, 3) := by decide +kernel
theorem dX5_exchange_59 : decode cX5_exchange 59 = .ok (.goto (-57), 3) := by decide +kernel
theorem dX5_exchange_62 : decode cX5_exchange 62 = .ok (.return_, 1) := by decide +kernel
set_option maxRecDepth 20000 in
theorem ggX5_gather_X5_isChosen : GoodIn wsX5_gather wsX5_isChosen := goodIn_r _ [6, 7, 36, 37, 38, 39, 40, 41, 42, 43, 44, 45, 46, 47, 48, 49, 50, 51, 52] (by decide +kernel) (by decide +kernel)
set_option maxRecDepth 20000 in
theorem gX5_gather_X5_isChosen : GoodIn wsX5_gather (wsV RX5 75 RX5 yX5_isChosen wsX5_isChosen) := goodIn_app (goodIn_of _ (by decide +kernel)) ggX5_gather_X5_isChosen
set_option maxRecDepth 20000 in
theorem ggX5_gather_X5_spanOf : GoodIn wsX5_gather wsX5_spanOf := goodIn_r _ [11, 12, 13, 14, 15, 5, 16, 17, 18, 19, 20, 21, 22, 23, 24, 25, 26, 27, 36, 37, 38, 39, 40, 41, 42, 43, 44, 45, 46, 47, 48, 49, 50, 51, 52] (by decide +kernel) (by decide +kernel)
set_option maxRecDepth 20000 in
theorem gX5_gather_X5_spanOf : GoodIn wsX5_gather (wsV RX5 113 RX5 yX5_spanOf wsX5_spanOf) := goodIn_app (goodIn_of _ (by decide +kernel)) ggX5_gather_X5_spanOf
set_option maxRecDepth 20000 in
theorem ggX5_gather_X5_isAhead : GoodIn wsX5_gather wsX5_isAhead := goodIn_r _ [31, 1, 36, 37, 38, 39, 40, 41, 42, 43, 44, 45, 46, 47, 48, 49, 50, 51, 52] (by decide +kernel) (by decide +kernel)
set_option maxRecDepth 20000 in
theorem gX5_gather_X5_isAhead : GoodIn wsX5_gather (wsV RX5 132 RX5 yX5_isAhead wsX5_isAhead) := goodIn_app (goodIn_of _ (by decide +kernel)) ggX5_gather_X5_isAhead
set_option maxRecDepth 20000 in
theorem ggX5_gather_X5_exchange : GoodIn wsX5_gather wsX5_exchange := goodIn_r _ [35, 1, 36, 37, 38, 39, 40, 41, 42, 43, 44, 45, 46, 47, 48, 49, 50, 51, 52] (by decide +kernel) (by decide +kernel)
set_option maxRecDepth 20000 in
theorem gX5_gather_X5_exchange : GoodIn wsX5_gather (wsV RX5 135 RX5 yX5_exchange wsX5_exchange) := goodIn_app (goodIn_of _ (by decide +kernel)) ggX5_gather_X5_exchange
theorem dX5_gather_0 : decode cX5_gather 0 = .ok (.iconst 0, 1) := by decide +kernel
theorem dX5_gather_1 : decode cX5_gather 1 = .ok (.istore_n 2, 1) := by decide +kernel
theorem dX5_gather_2 : decode cX5_gather 2 = .ok (.iconst 0, 1) := by decide +kernel
theorem dX5_gather_3 : decode cX5_gather 3 = .ok (.istore_n 3, 1) := by decide +kernel
theorem dX5_gather_4 : decode cX5_gather 4 = .ok (.iload_n 3, 1) := by decide +kernel
theorem dX5_gather_5 : decode cX5_gather 5 = .ok (.bipush 16, 2) := by decide +kernel
theorem dX5_gather_7 : decode cX5_gather 7 = .ok (.if_icmp .ge 161, 3) := by decide +kernel
theorem dX5_gather_10 : decode cX5_gather 10 = .ok (.aload_n 0, 1) := by decide +kernel
theorem dX5_gather_11 : decode cX5_gather 11 = .ok (.iload_n 3, 1) := by decide +kernel
theorem dX5_gather_12 : decode cX5_gather 12 = .ok (.bipush 8, 2) := by decide +kernel
theorem dX5_gather_14 : decode cX5_gather 14 = .ok (.idiv, 1) := by decide +kernel
theorem dX5_gather_15 : decode cX5_gather 15 = .ok (.iload_n 3, 1) := by decide +kernel
theorem dX5_gather_16 : decode cX5_gather 16 = .ok (.bipush 8, 2) := by decide +kernel
theorem dX5_gather_18 : decode cX5_gather 18 = .ok (.irem, 1) := by decide +kernel
theorem dX5_gather_19 : decode cX5_gather 19 = .ok (.invokevirtual 75, 3) := by decide +kernel
theorem dX5_gather_22 : decode cX5_gather 22 = .ok (.ifCond .eq 140, 3) := by decide +kernel
theorem dX5_gather_25 : decode cX5_gather 25 = .ok (.aload_n 0, 1) := by decide +kernel
theorem dX5_gather_26 : decode cX5_gather 26 = .ok (.iload_n 3, 1) := by decide +kernel
theorem dX5_gather_27 : decode cX5_gather 27 = .ok (.bipush 8, 2) := by decide +kernel
theorem dX5_gather_29 : decode cX5_gather 29 = .ok (.idiv, 1) := by decide +kernel
theorem dX5_gather_30 : decode cX5_gather 30 = .ok (.iload_n 3, 1) := by decide +kernel
theorem dX5_gather_31 : decode cX5_gather 31 = .ok (.bipush 8, 2) := by decide +kernel
theorem dX5_gather_33 : decode cX5_gather 33 = .ok (.irem, 1) := by decide +kernel
theorem dX5_gather_34 : decode cX5_gather 34 = .ok (.iconst 0, 1) := by decide +kernel
theorem dX5_gather_35 : decode cX5_gather 35 = .ok (.invokevirtual 113, 3) := by decide +kernel
theorem dX5_gather_38 : decode cX5_gather 38 = .ok (.ifCond .le 124, 3) := by decide +kernel
theorem dX5_gather_41 : decode cX5_gather 41 = .ok (.aload_n 0, 1) := by decide +kernel
theorem dX5_gather_42 : decode cX5_gather 42 = .ok (.getfield 45, 3) := by decide +kernel
theorem dX5_gather_45 : decode cX5_gather 45 = .ok (.bipush 7, 2) := by decide +kernel
theorem dX5_gather_47 : decode cX5_gather 47 = .ok (.iload_n 2, 1) := by decide +kernel
theorem dX5_gather_48 : decode cX5_gather 48 = .ok (.imul, 1) := by decide +kernel
theorem dX5_gather_49 : decode cX5_gather 49 = .ok (.iload_n 3, 1) := by decide +kernel
theorem dX5_gather_50 : decode cX5_gather 50 = .ok (.bipush 8, 2) := by decide +kernel
theorem dX5_gather_52 : decode cX5_gather 52 = .ok (.idiv, 1) := by decide +kernel
theorem dX5_gather_53 : decode cX5_gather 53 = .ok (.iastore, 1) := by decide +kernel
theorem dX5_gather_54 : decode cX5_gather 54 = .ok (.aload_n 0, 1) := by decide +kernel
theorem dX5_gather_55 : decode cX5_gather 55 = .ok (.getfield 45, 3) := by decide +kernel
theorem dX5_gather_58 : decode cX5_gather 58 = .ok (.bipush 7, 2) := by decide +kernel
theorem dX5_gather_60 : decode cX5_gather 60 = .ok (.iload_n 2, 1) := by decide +kernel
theorem dX5_gather_61 : decode cX5_gather 61 = .ok (.imul, 1) := by decide +kernel
theorem dX5_gather_62 : decode cX5_gather 62 = .ok (.iconst 1, 1) := by decide +kernel
theorem dX5_gather_63 : decode cX5_gather 63 = .ok (.iadd, 1) := by decide +kernel
theorem dX5_gather_64 : decode cX5_gather 64 = .ok (.iload_n 3, 1) := by decide +kernel
theorem dX5_gather_65 : decode cX5_gather 65 = .ok (.bipush 8, 2) := by decide +kernel
theorem dX5_gather_67 : decode cX5_gather 67 = .ok (.irem, 1) := by decide +kernel
theorem dX5_gather_68 : decode cX5_gather 68 = .ok (.iastore, 1) := by decide +kernel
theorem dX5_gather_69 : decode cX5_gather 69 = .ok (.aload_n 0, 1) := by decide +kernel
theorem dX5_gather_70 : decode cX5_gather 70 = .ok (.getfield 45, 3) := by decide +kernel
theorem dX5_gather_73 : decode cX5_gather 73 = .ok (.bipush 7, 2) := by decide +kernel
theorem dX5_gather_75 : decode cX5_gather 75 = .ok (.iload_n 2, 1) := by decide +kernel
theorem dX5_gather_76 : decode cX5_gather 76 = .ok (.imul, 1) := by decide +kernel
theorem dX5_gather_77 : decode cX5_gather 77 = .ok (.iconst 5, 1) := by decide +kernel
theorem dX5_gather_78 : decode cX5_gather 78 = .ok (.iadd, 1) := by decide +kernel
theorem dX5_gather_79 : decode cX5_gather 79 = .ok (.aload_n 0, 1) := by decide +kernel
theorem dX5_gather_80 : decode cX5_gather 80 = .ok (.iload_n 3, 1) := by decide +kernel
theorem dX5_gather_81 : decode cX5_gather 81 = .ok (.bipush 8, 2) := by decide +kernel
theorem dX5_gather_83 : decode cX5_gather 83 = .ok (.idiv, 1) := by decide +kernel
theorem dX5_gather_84 : decode cX5_gather 84 = .ok (.iload_n 3, 1) := by decide +kernel
theorem dX5_gather_85 : decode cX5_gather 85 = .ok (.bipush 8, 2) := by decide +kernel
theorem dX5_gather_87 : decode cX5_gather 87 = .ok (.irem, 1) := by decide +kernel
theorem dX5_gather_88 : decode cX5_gather 88 = .ok (.iconst 0, 1) := by decide +kernel
theorem dX5_gather_89 : decode cX5_gather 89 = .ok (.invokevirtual 113, 3) := by decide +kernel
theorem dX5_gather_92 : decode cX5_gather 92 = .ok (.iload_n 1, 1) := by decide +kernel
theorem dX5_gather_93 : decode cX5_gather 93 = .ok (.iadd, 1) := by decide +kernel
theorem dX5_gather_94 : decode cX5_gather 94 = .ok (.iastore, 1) := by decide +kernel
theorem dX5_gather_95 : decode cX5_gather 95 = .ok (.aload_n 0, 1) := by decide +kernel
theorem dX5_gather_96 : decode cX5_gather 96 = .ok (.getfield 45, 3) := by decide +kernel
theorem dX5_gather_99 : decode cX5_gather 99 = .ok (.bipush 7, 2) := by decide +kernel
theorem dX5_gather_101 : decode cX5_gather 101 = .ok (.iload_n 2, 1) := by decide +kernel
theorem dX5_gather_102 : decode cX5_gather 102 = .ok (.imul, 1) := by decide +kernel
theorem dX5_gather_103 : decode cX5_gather 103 = .ok (.bipush 6, 2) := by decide +kernel
theorem dX5_gather_105 : decode cX5_gather 105 = .ok (.iadd, 1) := by decide +kernel
theorem dX5_gather_106 : decode cX5_gather 106 = .ok (.aload_n 0, 1) := by decide +kernel
theorem dX5_gather_107 : decode cX5_gather 107 = .ok (.iload_n 3, 1) := by decide +kernel
theorem dX5_gather_108 : decode cX5_gather 108 = .ok (.bipush 8, 2) := by decide +kernel
theorem dX5_gather_110 : decode cX5_gather 110 = .ok (.idiv, 1) := by decide +kernel
theorem dX5_gather_111 : decode cX5_gather 111 = .ok (.iload_n 3, 1) := by decide +kernel
theorem dX5_gather_112 : decode cX5_gather 112 = .ok (.bipush 8, 2) := by decide +kernel
theorem dX5_gather_114 : decode cX5_gather 114 = .ok (.irem, 1) := by decide +kernel
theorem dX5_gather_115 : decode cX5_gather 115 = .ok (.iconst 1, 1) := by decide +kernel
theorem dX5_gather_116 : decode cX5_gather 116 = .ok (.invokevirtual 113, 3) := by decide +kernel
theorem dX5_gather_119 : decode cX5_gather 119 = .ok (.iload_n 1, 1) := by decide +kernel
theorem dX5_gather_120 : decode cX5_gather 120 = .ok (.iadd, 1) := by decide +kernel
theorem dX5_gather_121 : decode cX5_gather 121 = .ok (.iastore, 1) := by decide +kernel
theorem dX5_gather_122 : decode cX5_gather 122 = .ok (.iload_n 2, 1) := by decide +kernel
theorem dX5_gather_123 : decode cX5_gather 123 = .ok (.istore 4, 2) := by decide +kernel
theorem dX5_gather_125 : decode cX5_gather 125 = .ok (.iload 4, 2) := by decide +kernel
theorem dX5_gather_127 : decode cX5_gather 127 = .ok (.ifCond .le 32, 3) := by decide +kernel
theorem dX5_gather_130 : decode cX5_gather 130 = .ok (.aload_n 0, 1) := by decide +kernel
theorem dX5_gather_131 : decode cX5_gather 131 = .ok (.iload 4, 2) := by decide +kernel
theorem dX5_gather_133 : decode cX5_gather 133 = .ok (.iload 4, 2) := by decide +kernel
theorem dX5_gather_135 : decode cX5_gather 135 = .ok (.iconst 1, 1) := by decide +kernel
theorem dX5_gather_136 : decode cX5_gather 136 = .ok (.isub, 1) := by decide +kernel
theorem dX5_gather_137 : decode cX5_gather 137 = .ok (.invokevirtual 132, 3) := by decide +kernel
theorem dX5_gather_140 : decode cX5_gather 140 = .ok (.ifCond .eq 19, 3) := by decide +kernel
theorem dX5_gather_143 : decode cX5_gather 143 = .ok (.aload_n 0, 1) := by decide +kernel
theorem dX5_gather_144 : decode cX5_gather 144 = .ok (.iload 4, 2) := by decide +kernel
theorem dX5_gather_146 : decode cX5_gather 146 = .ok (.iload 4, 2) := by decide +kernel
theorem dX5_gather_148 : decode cX5_gather 148 = .ok (.iconst 1, 1) := by decide +kernel
theorem dX5_gather_149 : decode cX5_gather 149 = .ok (.isub, 1) := by decide +kernel
theorem dX5_gather_150 : decode cX5_gather 150 = .ok (.invokevirtual 135, 3) := by decide +kernel
theorem dX5_gather_153 : decode cX5_gather 153 = .ok (.iinc 4 (-1), 3) := by decide +kernel
theorem dX5_gather_156 : decode cX5_gather 156 = .ok (.goto (-31), 3) := by decide +kernel
theorem dX5_gather_159 : decode cX5_gather 159 = .ok (.iinc 2 1, 3) := by decide +kernel
theorem dX5_gather_162 : decode cX5_gather 162 = .ok (.iinc 3 1, 3) := by decide +kernel
theorem dX5_gather_165 : decode cX5_gather 165 = .ok (.goto (-161), 3) := by decide +kernel
theorem dX5_gather_168 : decode cX5_gather 168 = .ok (.iload_n 2, 1) := by decide +kernel
theorem dX5_gather_169 : decode cX5_gather 169 = .ok (.ireturn, 1) := by decide +kernel
set_option maxRecDepth 20000 in
theorem ggX5_lay_X5_in : GoodIn wsX5_lay wsX5_in := goodIn_r _ [11] (by decide +kernel) (by decide +kernel)
set_option maxRecDepth 20000 in
theorem gX5_lay_X5_in : GoodIn wsX5_lay (va_wsS RX5 48 yX5_in wsX5_in) := goodIn_app (goodIn_of _ (by decide +kernel)) ggX5_lay_X5_in
set_option maxRecDepth 20000 in
theorem ggX5_lay_X5_gather : GoodIn wsX5_lay wsX5_gather := goodIn_r _ [15, 3, 16, 17, 18, 10, 19, 20, 21, 22, 23, 24, 25, 26, 27, 28, 29, 30, 31, 32, 33, 34, 35, 36, 37, 38, 39, 40, 41, 42, 43, 44, 45, 46, 47, 48, 49, 50, 51, 52, 53, 54, 55, 56, 57, 58, 59, 60, 61, 62, 63, 64, 65] (by decide +kernel) (by decide +kernel)
set_option maxRecDepth 20000 in
theorem gX5_lay_X5_gather : GoodIn wsX5_lay (wsV RX5 143 RX5 yX5_gather wsX5_gather) := goodIn_app (goodIn_of _ (by decide +kernel)) ggX5_lay_X5_gather
theorem dX5_lay_0 : decode cX5_lay 0 = .ok (.iload_n 1, 1) := by decide +kernel
theorem dX5_lay_1 : decode cX5_lay 1 = .ok (.i2l, 1) := by decide +kernel
theorem dX5_lay_2 : decode cX5_lay 2 = .ok (.lconst 1, 1) := by decide +kernel
theorem dX5_lay_3 : decode cX5_lay 3 = .ok (.ldc2_w 139, 3) := by decide +kernel
theorem dX5_lay_6 : decode cX5_lay 6 = .ok (.invokestatic 48, 3) := by decide +kernel
theorem dX5_lay_9 : decode cX5_lay 9 = .ok (.ifCond .eq 27, 3) := by decide +kernel
theorem dX5_lay_12 : decode cX5_lay 12 = .ok (.iload_n 2, 1) := by decide +kernel
theorem dX5_lay_13 : decode cX5_lay 13 = .ok (.i2l, 1) := by decide +kernel
theorem dX5_lay_14 : decode cX5_lay 14 = .ok (.lconst 1, 1) := by decide +kernel
theorem dX5_lay_15 : decode cX5_lay 15 = .ok (.ldc2_w 139, 3) := by decide +kernel
theorem dX5_lay_18 : decode cX5_lay 18 = .ok (.invokestatic 48, 3) := by decide +kernel
theorem dX5_lay_21 : decode cX5_lay 21 = .ok (.ifCond .eq 15, 3) := by decide +kernel
theorem dX5_lay_24 : decode cX5_lay 24 = .ok (.iload_n 3, 1) := by decide +kernel
theorem dX5_lay_25 : decode cX5_lay 25 = .ok (.i2l, 1) := by decide +kernel
theorem dX5_lay_26 : decode cX5_lay 26 = .ok (.lconst 0, 1) := by decide +kernel
theorem dX5_lay_27 : decode cX5_lay 27 = .ok (.ldc2_w 141, 3) := by decide +kernel
theorem dX5_lay_30 : decode cX5_lay 30 = .ok (.invokestatic 48, 3) := by decide +kernel
theorem dX5_lay_33 : decode cX5_lay 33 = .ok (.ifCond .ne 6, 3) := by decide +kernel
theorem dX5_lay_36 : decode cX5_lay 36 = .ok (.bipush (-2), 2) := by decide +kernel
theorem dX5_lay_38 : decode cX5_lay 38 = .ok (.ireturn, 1) := by decide +kernel
theorem dX5_lay_39 : decode cX5_lay 39 = .ok (.aload_n 0, 1) := by decide +kernel
theorem dX5_lay_40 : decode cX5_lay 40 = .ok (.iload_n 3, 1) := by decide +kernel
theorem dX5_lay_41 : decode cX5_lay 41 = .ok (.invokevirtual 143, 3) := by decide +kernel
theorem dX5_lay_44 : decode cX5_lay 44 = .ok (.istore 4, 2) := by decide +kernel
theorem dX5_lay_46 : decode cX5_lay 46 = .ok (.iconst 0, 1) := by decide +kernel
theorem dX5_lay_47 : decode cX5_lay 47 = .ok (.istore 5, 2) := by decide +kernel
theorem dX5_lay_49 : decode cX5_lay 49 = .ok (.iload 5, 2) := by decide +kernel
theorem dX5_lay_51 : decode cX5_lay 51 = .ok (.iload 4, 2) := by decide +kernel
theorem dX5_lay_53 : decode cX5_lay 53 = .ok (.if_icmp .ge 45, 3) := by decide +kernel
theorem dX5_lay_56 : decode cX5_lay 56 = .ok (.aload_n 0, 1) := by decide +kernel
theorem dX5_lay_57 : decode cX5_lay 57 = .ok (.getfield 45, 3) := by decide +kernel
theorem dX5_lay_60 : decode cX5_lay 60 = .ok (.bipush 7, 2) := by decide +kernel
theorem dX5_lay_62 : decode cX5_lay 62 = .ok (.iload 5, 2) := by decide +kernel
theorem dX5_lay_64 : decode cX5_lay 64 = .ok (.imul, 1) := by decide +kernel
theorem dX5_lay_65 : decode cX5_lay 65 = .ok (.iconst 5, 1) := by decide +kernel
theorem dX5_lay_66 : decode cX5_lay 66 = .ok (.iadd, 1) := by decide +kernel
theorem dX5_lay_67 : decode cX5_lay 67 = .ok (.iaload, 1) := by decide +kernel
theorem dX5_lay_68 : decode cX5_lay 68 = .ok (.iload_n 1, 1) := by decide +kernel
theorem dX5_lay_69 : decode cX5_lay 69 = .ok (.if_icmp .gt 20, 3) := by decide +kernel
theorem dX5_lay_72 : decode cX5_lay 72 = .ok (.aload_n 0, 1) := by decide +kernel
theorem dX5_lay_73 : decode cX5_lay 73 = .ok (.getfield 45, 3) := by decide +kernel
theorem dX5_lay_76 : decode cX5_lay 76 = .ok (.bipush 7, 2) := by decide +kernel
theorem dX5_lay_78 : decode cX5_lay 78 = .ok (.iload 5, 2) := by decide +kernel
theorem dX5_lay_80 : decode cX5_lay 80 = .ok (.imul, 1) := by decide +kernel
theorem dX5_lay_81 : decode cX5_lay 81 = .ok (.bipush 6, 2) := by decide +kernel
theorem dX5_lay_83 : decode cX5_lay 83 = .ok (.iadd, 1) := by decide +kernel
theorem dX5_lay_84 : decode cX5_lay 84 = .ok (.iaload, 1) := by decide +kernel
theorem dX5_lay_85 : decode cX5_lay 85 = .ok (.iload_n 2, 1) := by decide +kernel
theorem dX5_lay_86 : decode cX5_lay 86 = .ok (.if_icmp .le 6, 3) := by decide +kernel
theorem dX5_lay_89 : decode cX5_lay 89 = .ok (.bipush (-5), 2) := by decide +kernel
theorem dX5_lay_91 : decode cX5_lay 91 = .ok (.ireturn, 1) := by decide +kernel
theorem dX5_lay_92 : decode cX5_lay 92 = .ok (.iinc 5 1, 3) := by decide +kernel
theorem dX5_lay_95 : decode cX5_lay 95 = .ok (.goto (-46), 3) := by decide +kernel
theorem dX5_lay_98 : decode cX5_lay 98 = .ok (.iconst 0, 1) := by decide +kernel
theorem dX5_lay_99 : decode cX5_lay 99 = .ok (.istore 5, 2) := by decide +kernel
theorem dX5_lay_101 : decode cX5_lay 101 = .ok (.iconst 0, 1) := by decide +kernel
theorem dX5_lay_102 : decode cX5_lay 102 = .ok (.istore 6, 2) := by decide +kernel
theorem dX5_lay_104 : decode cX5_lay 104 = .ok (.iconst 0, 1) := by decide +kernel
theorem dX5_lay_105 : decode cX5_lay 105 = .ok (.istore 7, 2) := by decide +kernel
theorem dX5_lay_107 : decode cX5_lay 107 = .ok (.iconst 0, 1) := by decide +kernel
theorem dX5_lay_108 : decode cX5_lay 108 = .ok (.istore 8, 2) := by decide +kernel
theorem dX5_lay_110 : decode cX5_lay 110 = .ok (.iconst 0, 1) := by decide +kernel
theorem dX5_lay_111 : decode cX5_lay 111 = .ok (.istore 9, 2) := by decide +kernel
theorem dX5_lay_113 : decode cX5_lay 113 = .ok (.iconst 0, 1) := by decide +kernel
theorem dX5_lay_114 : decode cX5_lay 114 = .ok (.istore 10, 2) := by decide +kernel
theorem dX5_lay_116 : decode cX5_lay 116 = .ok (.iload 10, 2) := by decide +kernel
theorem dX5_lay_118 : decode cX5_lay 118 = .ok (.iload 4, 2) := by decide +kernel
theorem dX5_lay_120 : decode cX5_lay 120 = .ok (.if_icmp .ge 153, 3) := by decide +kernel
theorem dX5_lay_123 : decode cX5_lay 123 = .ok (.aload_n 0, 1) := by decide +kernel
theorem dX5_lay_124 : decode cX5_lay 124 = .ok (.getfield 45, 3) := by decide +kernel
theorem dX5_lay_127 : decode cX5_lay 127 = .ok (.bipush 7, 2) := by decide +kernel
theorem dX5_lay_129 : decode cX5_lay 129 = .ok (.iload 10, 2) := by decide +kernel
theorem dX5_lay_131 : decode cX5_lay 131 = .ok (.imul, 1) := by decide +kernel
theorem dX5_lay_132 : decode cX5_lay 132 = .ok (.iconst 5, 1) := by decide +kernel
theorem dX5_lay_133 : decode cX5_lay 133 = .ok (.iadd, 1) := by decide +kernel
theorem dX5_lay_134 : decode cX5_lay 134 = .ok (.iaload, 1) := by decide +kernel
theorem dX5_lay_135 : decode cX5_lay 135 = .ok (.istore 11, 2) := by decide +kernel
theorem dX5_lay_137 : decode cX5_lay 137 = .ok (.aload_n 0, 1) := by decide +kernel
theorem dX5_lay_138 : decode cX5_lay 138 = .ok (.getfield 45, 3) := by decide +kernel
theorem dX5_lay_141 : decode cX5_lay 141 = .ok (.bipush 7, 2) := by decide +kernel
theorem dX5_lay_143 : decode cX5_lay 143 = .ok (.iload 10, 2) := by decide +kernel
theorem dX5_lay_145 : decode cX5_lay 145 = .ok (.imul, 1) := by decide +kernel
theorem dX5_lay_146 : decode cX5_lay 146 = .ok (.bipush 6, 2) := by decide +kernel
theorem dX5_lay_148 : decode cX5_lay 148 = .ok (.iadd, 1) := by decide +kernel
theorem dX5_lay_149 : decode cX5_lay 149 = .ok (.iaload, 1) := by decide +kernel
theorem dX5_lay_150 : decode cX5_lay 150 = .ok (.istore 12, 2) := by decide +kernel
theorem dX5_lay_152 : decode cX5_lay 152 = .ok (.iload 10, 2) := by decide +kernel
theorem dX5_lay_154 : decode cX5_lay 154 = .ok (.ifCond .le 40, 3) := by decide +kernel
theorem dX5_lay_157 : decode cX5_lay 157 = .ok (.iload 6, 2) := by decide +kernel
theorem dX5_lay_159 : decode cX5_lay 159 = .ok (.iload 11, 2) := by decide +kernel
theorem dX5_lay_161 : decode cX5_lay 161 = .ok (.iadd, 1) := by decide +kernel
theorem dX5_lay_162 : decode cX5_lay 162 = .ok (.iload_n 1, 1) := by decide +kernel
theorem dX5_lay_163 : decode cX5_lay 163 = .ok (.if_icmp .le 31, 3) := by decide +kernel
theorem dX5_lay_166 : decode cX5_lay 166 = .ok (.iconst 0, 1) := by decide +kernel
theorem dX5_lay_167 : decode cX5_lay 167 = .ok (.istore 6, 2) := by decide +kernel
theorem dX5_lay_169 : decode cX5_lay 169 = .ok (.iload 7, 2) := by decide +kernel
theorem dX5_lay_171 : decode cX5_lay 171 = .ok (.iload 8, 2) := by decide +kernel
theorem dX5_lay_173 : decode cX5_lay 173 = .ok (.iadd, 1) := by decide +kernel
theorem dX5_lay_174 : decode cX5_lay 174 = .ok (.istore 7, 2) := by decide +kernel
theorem dX5_lay_176 : decode cX5_lay 176 = .ok (.iconst 0, 1) := by decide +kernel
theorem dX5_lay_177 : decode cX5_lay 177 = .ok (.istore 8, 2) := by decide +kernel
theorem dX5_lay_179 : decode cX5_lay 179 = .ok (.iload 7, 2) := by decide +kernel
theorem dX5_lay_181 : decode cX5_lay 181 = .ok (.iload 12, 2) := by decide +kernel
theorem dX5_lay_183 : decode cX5_lay 183 = .ok (.iadd, 1) := by decide +kernel
theorem dX5_lay_184 : decode cX5_lay 184 = .ok (.iload_n 2, 1) := by decide +kernel
theorem dX5_lay_185 : decode cX5_lay 185 = .ok (.if_icmp .le 9, 3) := by decide +kernel
theorem dX5_lay_188 : decode cX5_lay 188 = .ok (.iinc 5 1, 3) := by decide +kernel
theorem dX5_lay_191 : decode cX5_lay 191 = .ok (.iconst 0, 1) := by decide +kernel
theorem dX5_lay_192 : decode cX5_lay 192 = .ok (.istore 7, 2) := by decide +kernel
theorem dX5_lay_194 : decode cX5_lay 194 = .ok (.iload 6, 2) := by decide +kernel
theorem dX5_lay_196 : decode cX5_lay 196 = .ok (.ifCond .ne 8, 3) := by decide +kernel
theorem dX5_lay_199 : decode cX5_lay 199 = .ok (.iload 12, 2) := by decide +kernel
theorem dX5_lay_201 : decode cX5_lay 201 = .ok (.goto 5, 3) := by decide +kernel
theorem dX5_lay_204 : decode cX5_lay 204 = .ok (.iload 8, 2) := by decide +kernel
theorem dX5_lay_206 : decode cX5_lay 206 = .ok (.istore 8, 2) := by decide +kernel
theorem dX5_lay_208 : decode cX5_lay 208 = .ok (.aload_n 0, 1) := by decide +kernel
theorem dX5_lay_209 : decode cX5_lay 209 = .ok (.getfield 45, 3) := by decide +kernel
theorem dX5_lay_212 : decode cX5_lay 212 = .ok (.bipush 7, 2) := by decide +kernel
theorem dX5_lay_214 : decode cX5_lay 214 = .ok (.iload 10, 2) := by decide +kernel
theorem dX5_lay_216 : decode cX5_lay 216 = .ok (.imul, 1) := by decide +kernel
theorem dX5_lay_217 : decode cX5_lay 217 = .ok (.iconst 2, 1) := by decide +kernel
theorem dX5_lay_218 : decode cX5_lay 218 = .ok (.iadd, 1) := by decide +kernel
theorem dX5_lay_219 : decode cX5_lay 219 = .ok (.iload 5, 2) := by decide +kernel
theorem dX5_lay_221 : decode cX5_lay 221 = .ok (.iastore, 1) := by decide +kernel
theorem dX5_lay_222 : decode cX5_lay 222 = .ok (.aload_n 0, 1) := by decide +kernel
theorem dX5_lay_223 : decode cX5_lay 223 = .ok (.getfield 45, 3) := by decide +kernel
theorem dX5_lay_226 : decode cX5_lay 226 = .ok (.bipush 7, 2) := by decide +kernel
theorem dX5_lay_228 : decode cX5_lay 228 = .ok (.iload 10, 2) := by decide +kernel
theorem dX5_lay_230 : decode cX5_lay 230 = .ok (.imul, 1) := by decide +kernel
theorem dX5_lay_231 : decode cX5_lay 231 = .ok (.iconst 3, 1) := by decide +kernel
theorem dX5_lay_232 : decode cX5_lay 232 = .ok (.iadd, 1) := by decide +kernel
theorem dX5_lay_233 : decode cX5_lay 233 = .ok (.iload 6, 2) := by decide +kernel
theorem dX5_lay_235 : decode cX5_lay 235 = .ok (.iastore, 1) := by decide +kernel
theorem dX5_lay_236 : decode cX5_lay 236 = .ok (.aload_n 0, 1) := by decide +kernel
theorem dX5_lay_237 : decode cX5_lay 237 = .ok (.getfield 45, 3) := by decide +kernel
theorem dX5_lay_240 : decode cX5_lay 240 = .ok (.bipush 7, 2) := by decide +kernel
theorem dX5_lay_242 : decode cX5_lay 242 = .ok (.iload 10, 2) := by decide +kernel
theorem dX5_lay_244 : decode cX5_lay 244 = .ok (.imul, 1) := by decide +kernel
theorem dX5_lay_245 : decode cX5_lay 245 = .ok (.iconst 4, 1) := by decide +kernel
theorem dX5_lay_246 : decode cX5_lay 246 = .ok (.iadd, 1) := by decide +kernel
theorem dX5_lay_247 : decode cX5_lay 247 = .ok (.iload 7, 2) := by decide +kernel
theorem dX5_lay_249 : decode cX5_lay 249 = .ok (.iastore, 1) := by decide +kernel
theorem dX5_lay_250 : decode cX5_lay 250 = .ok (.iload 6, 2) := by decide +kernel
theorem dX5_lay_252 : decode cX5_lay 252 = .ok (.iload 11, 2) := by decide +kernel
theorem dX5_lay_254 : decode cX5_lay 254 = .ok (.iadd, 1) := by decide +kernel
theorem dX5_lay_255 : decode cX5_lay 255 = .ok (.istore 6, 2) := by decide +kernel
theorem dX5_lay_257 : decode cX5_lay 257 = .ok (.iload 9, 2) := by decide +kernel
theorem dX5_lay_259 : decode cX5_lay 259 = .ok (.iload 11, 2) := by decide +kernel
theorem dX5_lay_261 : decode cX5_lay 261 = .ok (.iload 12, 2) := by decide +kernel
theorem dX5_lay_263 : decode cX5_lay 263 = .ok (.imul, 1) := by decide +kernel
theorem dX5_lay_264 : decode cX5_lay 264 = .ok (.iadd, 1) := by decide +kernel
theorem dX5_lay_265 : decode cX5_lay 265 = .ok (.istore 9, 2) := by decide +kernel
theorem dX5_lay_267 : decode cX5_lay 267 = .ok (.iinc 10 1, 3) := by decide +kernel
theorem dX5_lay_270 : decode cX5_lay 270 = .ok (.goto (-154), 3) := by decide +kernel
theorem dX5_lay_273 : decode cX5_lay 273 = .ok (.iconst 0, 1) := by decide +kernel
theorem dX5_lay_274 : decode cX5_lay 274 = .ok (.istore 10, 2) := by decide +kernel
theorem dX5_lay_276 : decode cX5_lay 276 = .ok (.iload 10, 2) := by decide +kernel
theorem dX5_lay_278 : decode cX5_lay 278 = .ok (.bipush 7, 2) := by decide +kernel
theorem dX5_lay_280 : decode cX5_lay 280 = .ok (.iload 4, 2) := by decide +kernel
theorem dX5_lay_282 : decode cX5_lay 282 = .ok (.imul, 1) := by decide +kernel
theorem dX5_lay_283 : decode cX5_lay 283 = .ok (.if_icmp .ge 23, 3) := by decide +kernel
theorem dX5_lay_286 : decode cX5_lay 286 = .ok (.aload_n 0, 1) := by decide +kernel
theorem dX5_lay_287 : decode cX5_lay 287 = .ok (.getfield 42, 3) := by decide +kernel
theorem dX5_lay_290 : decode cX5_lay 290 = .ok (.iload 10, 2) := by decide +kernel
theorem dX5_lay_292 : decode cX5_lay 292 = .ok (.aload_n 0, 1) := by decide +kernel
theorem dX5_lay_293 : decode cX5_lay 293 = .ok (.getfield 45, 3) := by decide +kernel
theorem dX5_lay_296 : decode cX5_lay 296 = .ok (.iload 10, 2) := by decide +kernel
theorem dX5_lay_298 : decode cX5_lay 298 = .ok (.iaload, 1) := by decide +kernel
theorem dX5_lay_299 : decode cX5_lay 299 = .ok (.iastore, 1) := by decide +kernel
theorem dX5_lay_300 : decode cX5_lay 300 = .ok (.iinc 10 1, 3) := by decide +kernel
theorem dX5_lay_303 : decode cX5_lay 303 = .ok (.goto (-27), 3) := by decide +kernel
theorem dX5_lay_306 : decode cX5_lay 306 = .ok (.aload_n 0, 1) := by decide +kernel
theorem dX5_lay_307 : decode cX5_lay 307 = .ok (.iload 4, 2) := by decide +kernel
theorem dX5_lay_309 : decode cX5_lay 309 = .ok (.putfield 146, 3) := by decide +kernel
theorem dX5_lay_312 : decode cX5_lay 312 = .ok (.aload_n 0, 1) := by decide +kernel
theorem dX5_lay_313 : decode cX5_lay 313 = .ok (.iload 9, 2) := by decide +kernel
theorem dX5_lay_315 : decode cX5_lay 315 = .ok (.iload_n 1, 1) := by decide +kernel
theorem dX5_lay_316 : decode cX5_lay 316 = .ok (.iload_n 2, 1) := by decide +kernel
theorem dX5_lay_317 : decode cX5_lay 317 = .ok (.imul, 1) := by decide +kernel
theorem dX5_lay_318 : decode cX5_lay 318 = .ok (.iadd, 1) := by decide +kernel
theorem dX5_lay_319 : decode cX5_lay 319 = .ok (.iconst 1, 1) := by decide +kernel
theorem dX5_lay_320 : decode cX5_lay 320 = .ok (.isub, 1) := by decide +kernel
theorem dX5_lay_321 : decode cX5_lay 321 = .ok (.iload_n 1, 1) := by decide +kernel
theorem dX5_lay_322 : decode cX5_lay 322 = .ok (.iload_n 2, 1) := by decide +kernel
theorem dX5_lay_323 : decode cX5_lay 323 = .ok (.imul, 1) := by decide +kernel
theorem dX5_lay_324 : decode cX5_lay 324 = .ok (.idiv, 1) := by decide +kernel
theorem dX5_lay_325 : decode cX5_lay 325 = .ok (.putfield 149, 3) := by decide +kernel
theorem dX5_lay_328 : decode cX5_lay 328 = .ok (.aload_n 0, 1) := by decide +kernel
theorem dX5_lay_329 : decode cX5_lay 329 = .ok (.iconst 1, 1) := by decide +kernel
theorem dX5_lay_330 : decode cX5_lay 330 = .ok (.putfield 54, 3) := by decide +kernel
theorem dX5_lay_333 : decode cX5_lay 333 = .ok (.iload 4, 2) := by decide +kernel
theorem dX5_lay_335 : decode cX5_lay 335 = .ok (.ifCond .ne 7, 3) := by decide +kernel
theorem dX5_lay_338 : decode cX5_lay 338 = .ok (.iconst 0, 1) := by decide +kernel
theorem dX5_lay_339 : decode cX5_lay 339 = .ok (.goto 7, 3) := by decide +kernel
theorem dX5_lay_342 : decode cX5_lay 342 = .ok (.iload 5, 2) := by decide +kernel
theorem dX5_lay_344 : decode cX5_lay 344 = .ok (.iconst 1, 1) := by decide +kernel
theorem dX5_lay_345 : decode cX5_lay 345 = .ok (.iadd, 1) := by decide +kernel
theorem dX5_lay_346 : decode cX5_lay 346 = .ok (.ireturn, 1) := by decide +kernel
set_option maxRecDepth 20000 in
theorem ggX5_laid_X5_in : GoodIn wsX5_laid wsX5_in := goodIn_r _ [8] (by decide +kernel) (by decide +kernel)
set_option maxRecDepth 20000 in
theorem gX5_laid_X5_in : GoodIn wsX5_laid (va_wsS RX5 48 yX5_in wsX5_in) := goodIn_app (goodIn_of _ (by decide +kernel)) ggX5_laid_X5_in
theorem dX5_laid_0 : decode cX5_laid 0 = .ok (.aload_n 0, 1) := by decide +kernel
theorem dX5_laid_1 : decode cX5_laid 1 = .ok (.getfield 54, 3) := by decide +kernel
theorem dX5_laid_4 : decode cX5_laid 4 = .ok (.ifCond .ne 6, 3) := by decide +kernel
theorem dX5_laid_7 : decode cX5_laid 7 = .ok (.bipush (-3), 2) := by decide +kernel
theorem dX5_laid_9 : decode cX5_laid 9 = .ok (.ireturn, 1) := by decide +kernel
theorem dX5_laid_10 : decode cX5_laid 10 = .ok (.iload_n 2, 1) := by decide +kernel
theorem dX5_laid_11 : decode cX5_laid 11 = .ok (.i2l, 1) := by decide +kernel
theorem dX5_laid_12 : decode cX5_laid 12 = .ok (.lconst 0, 1) := by decide +kernel
theorem dX5_laid_13 : decode cX5_laid 13 = .ok (.ldc2_w 152, 3) := by decide +kernel
theorem dX5_laid_16 : decode cX5_laid 16 = .ok (.invokestatic 48, 3) := by decide +kernel
theorem dX5_laid_19 : decode cX5_laid 19 = .ok (.ifCond .ne 6, 3) := by decide +kernel
theorem dX5_laid_22 : decode cX5_laid 22 = .ok (.bipush (-2), 2) := by decide +kernel
theorem dX5_laid_24 : decode cX5_laid 24 = .ok (.ireturn, 1) := by decide +kernel
theorem dX5_laid_25 : decode cX5_laid 25 = .ok (.iload_n 1, 1) := by decide +kernel
theorem dX5_laid_26 : decode cX5_laid 26 = .ok (.i2l, 1) := by decide +kernel
theorem dX5_laid_27 : decode cX5_laid 27 = .ok (.lconst 0, 1) := by decide +kernel
theorem dX5_laid_28 : decode cX5_laid 28 = .ok (.aload_n 0, 1) := by decide +kernel
theorem dX5_laid_29 : decode cX5_laid 29 = .ok (.getfield 146, 3) := by decide +kernel
theorem dX5_laid_32 : decode cX5_laid 32 = .ok (.iconst 1, 1) := by decide +kernel
theorem dX5_laid_33 : decode cX5_laid 33 = .ok (.isub, 1) := by decide +kernel
theorem dX5_laid_34 : decode cX5_laid 34 = .ok (.i2l, 1) := by decide +kernel
theorem dX5_laid_35 : decode cX5_laid 35 = .ok (.invokestatic 48, 3) := by decide +kernel
theorem dX5_laid_38 : decode cX5_laid 38 = .ok (.ifCond .eq 17, 3) := by decide +kernel
theorem dX5_laid_41 : decode cX5_laid 41 = .ok (.aload_n 0, 1) := by decide +kernel
theorem dX5_laid_42 : decode cX5_laid 42 = .ok (.getfield 42, 3) := by decide +kernel
theorem dX5_laid_45 : decode cX5_laid 45 = .ok (.bipush 7, 2) := by decide +kernel
theorem dX5_laid_47 : decode cX5_laid 47 = .ok (.iload_n 1, 1) := by decide +kernel
theorem dX5_laid_48 : decode cX5_laid 48 = .ok (.imul, 1) := by decide +kernel
theorem dX5_laid_49 : decode cX5_laid 49 = .ok (.iload_n 2, 1) := by decide +kernel
theorem dX5_laid_50 : decode cX5_laid 50 = .ok (.iadd, 1) := by decide +kernel
theorem dX5_laid_51 : decode cX5_laid 51 = .ok (.iaload, 1) := by decide +kernel
theorem dX5_laid_52 : decode cX5_laid 52 = .ok (.goto 5, 3) := by decide +kernel
theorem dX5_laid_55 : decode cX5_laid 55 = .ok (.bipush (-6), 2) := by decide +kernel
theorem dX5_laid_57 : decode cX5_laid 57 = .ok (.ireturn, 1) := by decide +kernel
theorem dX5_least_0 : decode cX5_least 0 = .ok (.aload_n 0, 1) := by decide +kernel
theorem dX5_least_1 : decode cX5_least 1 = .ok (.getfield 54, 3) := by decide +kernel
theorem dX5_least_4 : decode cX5_least 4 = .ok (.ifCond .eq 10, 3) := by decide +kernel
theorem dX5_least_7 : decode cX5_least 7 = .ok (.aload_n 0, 1) := by decide +kernel
theorem dX5_least_8 : decode cX5_least 8 = .ok (.getfield 149, 3) := by decide +kernel
theorem dX5_least_11 : decode cX5_least 11 = .ok (.goto 5, 3) := by decide +kernel
theorem dX5_least_14 : decode cX5_least 14 = .ok (.bipush (-3), 2) := by decide +kernel
theorem dX5_least_16 : decode cX5_least 16 = .ok (.ireturn, 1) := by decide +kernel
theorem dJ6_bitCount_0f7a4_0 : decode cJ6_bitCount_0f7a4 0 = .ok (.iload_n 0, 1) := by decide +kernel
theorem dJ6_bitCount_0f7a4_1 : decode cJ6_bitCount_0f7a4 1 = .ok (.iload_n 0, 1) := by decide +kernel
theorem dJ6_bitCount_0f7a4_2 : decode cJ6_bitCount_0f7a4 2 = .ok (.iconst 1, 1) := by decide +kernel
theorem dJ6_bitCount_0f7a4_3 : decode cJ6_bitCount_0f7a4 3 = .ok (.iushr, 1) := by decide +kernel
theorem dJ6_bitCount_0f7a4_4 : decode cJ6_bitCount_0f7a4 4 = .ok (.ldc_w 265, 3) := by decide +kernel
theorem dJ6_bitCount_0f7a4_7 : decode cJ6_bitCount_0f7a4 7 = .ok (.iand, 1) := by decide +kernel
theorem dJ6_bitCount_0f7a4_8 : decode cJ6_bitCount_0f7a4 8 = .ok (.isub, 1) := by decide +kernel
theorem dJ6_bitCount_0f7a4_9 : decode cJ6_bitCount_0f7a4 9 = .ok (.istore_n 0, 1) := by decide +kernel
theorem dJ6_bitCount_0f7a4_10 : decode cJ6_bitCount_0f7a4 10 = .ok (.iload_n 0, 1) := by decide +kernel
theorem dJ6_bitCount_0f7a4_11 : decode cJ6_bitCount_0f7a4 11 = .ok (.ldc_w 266, 3) := by decide +kernel
theorem dJ6_bitCount_0f7a4_14 : decode cJ6_bitCount_0f7a4 14 = .ok (.iand, 1) := by decide +kernel
theorem dJ6_bitCount_0f7a4_15 : decode cJ6_bitCount_0f7a4 15 = .ok (.iload_n 0, 1) := by decide +kernel
theorem dJ6_bitCount_0f7a4_16 : decode cJ6_bitCount_0f7a4 16 = .ok (.iconst 2, 1) := by decide +kernel
theorem dJ6_bitCount_0f7a4_17 : decode cJ6_bitCount_0f7a4 17 = .ok (.iushr, 1) := by decide +kernel
theorem dJ6_bitCount_0f7a4_18 : decode cJ6_bitCount_0f7a4 18 = .ok (.ldc_w 266, 3) := by decide +kernel
theorem dJ6_bitCount_0f7a4_21 : decode cJ6_bitCount_0f7a4 21 = .ok (.iand, 1) := by decide +kernel
theorem dJ6_bitCount_0f7a4_22 : decode cJ6_bitCount_0f7a4 22 = .ok (.iadd, 1) := by decide +kernel
theorem dJ6_bitCount_0f7a4_23 : decode cJ6_bitCount_0f7a4 23 = .ok (.istore_n 0, 1) := by decide +kernel
theorem dJ6_bitCount_0f7a4_24 : decode cJ6_bitCount_0f7a4 24 = .ok (.iload_n 0, 1) := by decide +kernel
theorem dJ6_bitCount_0f7a4_25 : decode cJ6_bitCount_0f7a4 25 = .ok (.iload_n 0, 1) := by decide +kernel
theorem dJ6_bitCount_0f7a4_26 : decode cJ6_bitCount_0f7a4 26 = .ok (.iconst 4, 1) := by decide +kernel
theorem dJ6_bitCount_0f7a4_27 : decode cJ6_bitCount_0f7a4 27 = .ok (.iushr, 1) := by decide +kernel
theorem dJ6_bitCount_0f7a4_28 : decode cJ6_bitCount_0f7a4 28 = .ok (.iadd, 1) := by decide +kernel
theorem dJ6_bitCount_0f7a4_29 : decode cJ6_bitCount_0f7a4 29 = .ok (.ldc_w 267, 3) := by decide +kernel
theorem dJ6_bitCount_0f7a4_32 : decode cJ6_bitCount_0f7a4 32 = .ok (.iand, 1) := by decide +kernel
theorem dJ6_bitCount_0f7a4_33 : decode cJ6_bitCount_0f7a4 33 = .ok (.istore_n 0, 1) := by decide +kernel
theorem dJ6_bitCount_0f7a4_34 : decode cJ6_bitCount_0f7a4 34 = .ok (.iload_n 0, 1) := by decide +kernel
theorem dJ6_bitCount_0f7a4_35 : decode cJ6_bitCount_0f7a4 35 = .ok (.iload_n 0, 1) := by decide +kernel
theorem dJ6_bitCount_0f7a4_36 : decode cJ6_bitCount_0f7a4 36 = .ok (.bipush 8, 2) := by decide +kernel
theorem dJ6_bitCount_0f7a4_38 : decode cJ6_bitCount_0f7a4 38 = .ok (.iushr, 1) := by decide +kernel
theorem dJ6_bitCount_0f7a4_39 : decode cJ6_bitCount_0f7a4 39 = .ok (.iadd, 1) := by decide +kernel
theorem dJ6_bitCount_0f7a4_40 : decode cJ6_bitCount_0f7a4 40 = .ok (.istore_n 0, 1) := by decide +kernel
theorem dJ6_bitCount_0f7a4_41 : decode cJ6_bitCount_0f7a4 41 = .ok (.iload_n 0, 1) := by decide +kernel
theorem dJ6_bitCount_0f7a4_42 : decode cJ6_bitCount_0f7a4 42 = .ok (.iload_n 0, 1) := by decide +kernel
theorem dJ6_bitCount_0f7a4_43 : decode cJ6_bitCount_0f7a4 43 = .ok (.bipush 16, 2) := by decide +kernel
theorem dJ6_bitCount_0f7a4_45 : decode cJ6_bitCount_0f7a4 45 = .ok (.iushr, 1) := by decide +kernel
theorem dJ6_bitCount_0f7a4_46 : decode cJ6_bitCount_0f7a4 46 = .ok (.iadd, 1) := by decide +kernel
theorem dJ6_bitCount_0f7a4_47 : decode cJ6_bitCount_0f7a4 47 = .ok (.istore_n 0, 1) := by decide +kernel
theorem dJ6_bitCount_0f7a4_48 : decode cJ6_bitCount_0f7a4 48 = .ok (.iload_n 0, 1) := by decide +kernel
theorem dJ6_bitCount_0f7a4_49 : decode cJ6_bitCount_0f7a4 49 = .ok (.bipush 63, 2) := by decide +kernel
theorem dJ6_bitCount_0f7a4_51 : decode cJ6_bitCount_0f7a4 51 = .ok (.iand, 1) := by decide +kernel
theorem dJ6_bitCount_0f7a4_52 : decode cJ6_bitCount_0f7a4 52 = .ok (.ireturn, 1) := by decide +kernel
theorem dJ13_bitCount_95d88_0 : decode cJ13_bitCount_95d88 0 = .ok (.lload_n 0, 1) := by decide +kernel
theorem dJ13_bitCount_95d88_1 : decode cJ13_bitCount_95d88 1 = .ok (.lload_n 0, 1) := by decide +kernel
theorem dJ13_bitCount_95d88_2 : decode cJ13_bitCount_95d88 2 = .ok (.iconst 1, 1) := by decide +kernel
theorem dJ13_bitCount_95d88_3 : decode cJ13_bitCount_95d88 3 = .ok (.lushr, 1) := by decide +kernel
theorem dJ13_bitCount_95d88_4 : decode cJ13_bitCount_95d88 4 = .ok (.ldc2_w 314, 3) := by decide +kernel
theorem dJ13_bitCount_95d88_7 : decode cJ13_bitCount_95d88 7 = .ok (.land, 1) := by decide +kernel
theorem dJ13_bitCount_95d88_8 : decode cJ13_bitCount_95d88 8 = .ok (.lsub, 1) := by decide +kernel
theorem dJ13_bitCount_95d88_9 : decode cJ13_bitCount_95d88 9 = .ok (.lstore_n 0, 1) := by decide +kernel
theorem dJ13_bitCount_95d88_10 : decode cJ13_bitCount_95d88 10 = .ok (.lload_n 0, 1) := by decide +kernel
theorem dJ13_bitCount_95d88_11 : decode cJ13_bitCount_95d88 11 = .ok (.ldc2_w 316, 3) := by decide +kernel
theorem dJ13_bitCount_95d88_14 : decode cJ13_bitCount_95d88 14 = .ok (.land, 1) := by decide +kernel
theorem dJ13_bitCount_95d88_15 : decode cJ13_bitCount_95d88 15 = .ok (.lload_n 0, 1) := by decide +kernel
theorem dJ13_bitCount_95d88_16 : decode cJ13_bitCount_95d88 16 = .ok (.iconst 2, 1) := by decide +kernel
theorem dJ13_bitCount_95d88_17 : decode cJ13_bitCount_95d88 17 = .ok (.lushr, 1) := by decide +kernel
theorem dJ13_bitCount_95d88_18 : decode cJ13_bitCount_95d88 18 = .ok (.ldc2_w 316, 3) := by decide +kernel
theorem dJ13_bitCount_95d88_21 : decode cJ13_bitCount_95d88 21 = .ok (.land, 1) := by decide +kernel
theorem dJ13_bitCount_95d88_22 : decode cJ13_bitCount_95d88 22 = .ok (.ladd, 1) := by decide +kernel
theorem dJ13_bitCount_95d88_23 : decode cJ13_bitCount_95d88 23 = .ok (.lstore_n 0, 1) := by decide +kernel
theorem dJ13_bitCount_95d88_24 : decode cJ13_bitCount_95d88 24 = .ok (.lload_n 0, 1) := by decide +kernel
theorem dJ13_bitCount_95d88_25 : decode cJ13_bitCount_95d88 25 = .ok (.lload_n 0, 1) := by decide +kernel
theorem dJ13_bitCount_95d88_26 : decode cJ13_bitCount_95d88 26 = .ok (.iconst 4, 1) := by decide +kernel
theorem dJ13_bitCount_95d88_27 : decode cJ13_bitCount_95d88 27 = .ok (.lushr, 1) := by decide +kernel
theorem dJ13_bitCount_95d88_28 : decode cJ13_bitCount_95d88 28 = .ok (.ladd, 1) := by decide +kernel
theorem dJ13_bitCount_95d88_29 : decode cJ13_bitCount_95d88 29 = .ok (.ldc2_w 318, 3) := by decide +kernel
theorem dJ13_bitCount_95d88_32 : decode cJ13_bitCount_95d88 32 = .ok (.land, 1) := by decide +kernel
theorem dJ13_bitCount_95d88_33 : decode cJ13_bitCount_95d88 33 = .ok (.lstore_n 0, 1) := by decide +kernel
theorem dJ13_bitCount_95d88_34 : decode cJ13_bitCount_95d88 34 = .ok (.lload_n 0, 1) := by decide +kernel
theorem dJ13_bitCount_95d88_35 : decode cJ13_bitCount_95d88 35 = .ok (.lload_n 0, 1) := by decide +kernel
theorem dJ13_bitCount_95d88_36 : decode cJ13_bitCount_95d88 36 = .ok (.bipush 8, 2) := by decide +kernel
theorem dJ13_bitCount_95d88_38 : decode cJ13_bitCount_95d88 38 = .ok (.lushr, 1) := by decide +kernel
theorem dJ13_bitCount_95d88_39 : decode cJ13_bitCount_95d88 39 = .ok (.ladd, 1) := by decide +kernel
theorem dJ13_bitCount_95d88_40 : decode cJ13_bitCount_95d88 40 = .ok (.lstore_n 0, 1) := by decide +kernel
theorem dJ13_bitCount_95d88_41 : decode cJ13_bitCount_95d88 41 = .ok (.lload_n 0, 1) := by decide +kernel
theorem dJ13_bitCount_95d88_42 : decode cJ13_bitCount_95d88 42 = .ok (.lload_n 0, 1) := by decide +kernel
theorem dJ13_bitCount_95d88_43 : decode cJ13_bitCount_95d88 43 = .ok (.bipush 16, 2) := by decide +kernel
theorem dJ13_bitCount_95d88_45 : decode cJ13_bitCount_95d88 45 = .ok (.lushr, 1) := by decide +kernel
theorem dJ13_bitCount_95d88_46 : decode cJ13_bitCount_95d88 46 = .ok (.ladd, 1) := by decide +kernel
theorem dJ13_bitCount_95d88_47 : decode cJ13_bitCount_95d88 47 = .ok (.lstore_n 0, 1) := by decide +kernel
theorem dJ13_bitCount_95d88_48 : decode cJ13_bitCount_95d88 48 = .ok (.lload_n 0, 1) := by decide +kernel
theorem dJ13_bitCount_95d88_49 : decode cJ13_bitCount_95d88 49 = .ok (.lload_n 0, 1) := by decide +kernel
theorem dJ13_bitCount_95d88_50 : decode cJ13_bitCount_95d88 50 = .ok (.bipush 32, 2) := by decide +kernel
theorem dJ13_bitCount_95d88_52 : decode cJ13_bitCount_95d88 52 = .ok (.lushr, 1) := by decide +kernel
theorem dJ13_bitCount_95d88_53 : decode cJ13_bitCount_95d88 53 = .ok (.ladd, 1) := by decide +kernel
theorem dJ13_bitCount_95d88_54 : decode cJ13_bitCount_95d88 54 = .ok (.lstore_n 0, 1) := by decide +kernel
theorem dJ13_bitCount_95d88_55 : decode cJ13_bitCount_95d88 55 = .ok (.lload_n 0, 1) := by decide +kernel
theorem dJ13_bitCount_95d88_56 : decode cJ13_bitCount_95d88 56 = .ok (.l2i, 1) := by decide +kernel
theorem dJ13_bitCount_95d88_57 : decode cJ13_bitCount_95d88 57 = .ok (.bipush 127, 2) := by decide +kernel
theorem dJ13_bitCount_95d88_59 : decode cJ13_bitCount_95d88 59 = .ok (.iand, 1) := by decide +kernel
theorem dJ13_bitCount_95d88_60 : decode cJ13_bitCount_95d88 60 = .ok (.ireturn, 1) := by decide +kernel
theorem dJ9_max_7cf53_0 : decode cJ9_max_7cf53 0 = .ok (.iload_n 0, 1) := by decide +kernel
theorem dJ9_max_7cf53_1 : decode cJ9_max_7cf53 1 = .ok (.iload_n 1, 1) := by decide +kernel
theorem dJ9_max_7cf53_2 : decode cJ9_max_7cf53 2 = .ok (.if_icmp .lt 7, 3) := by decide +kernel
theorem dJ9_max_7cf53_5 : decode cJ9_max_7cf53 5 = .ok (.iload_n 0, 1) := by decide +kernel
theorem dJ9_max_7cf53_6 : decode cJ9_max_7cf53 6 = .ok (.goto 4, 3) := by decide +kernel
theorem dJ9_max_7cf53_9 : decode cJ9_max_7cf53 9 = .ok (.iload_n 1, 1) := by decide +kernel
theorem dJ9_max_7cf53_10 : decode cJ9_max_7cf53 10 = .ok (.ireturn, 1) := by decide +kernel
theorem dJ9_min_7cf53_0 : decode cJ9_min_7cf53 0 = .ok (.iload_n 0, 1) := by decide +kernel
theorem dJ9_min_7cf53_1 : decode cJ9_min_7cf53 1 = .ok (.iload_n 1, 1) := by decide +kernel
theorem dJ9_min_7cf53_2 : decode cJ9_min_7cf53 2 = .ok (.if_icmp .gt 7, 3) := by decide +kernel
theorem dJ9_min_7cf53_5 : decode cJ9_min_7cf53 5 = .ok (.iload_n 0, 1) := by decide +kernel
theorem dJ9_min_7cf53_6 : decode cJ9_min_7cf53 6 = .ok (.goto 4, 3) := by decide +kernel
theorem dJ9_min_7cf53_9 : decode cJ9_min_7cf53 9 = .ok (.iload_n 1, 1) := by decide +kernel
theorem dJ9_min_7cf53_10 : decode cJ9_min_7cf53 10 = .ok (.ireturn, 1) := by decide +kernel
set_option maxRecDepth 20000 in
theorem ggL_law_X4_init : GoodIn wsL_law wsX4_init := goodIn_r _ [8, 9, 10, 11, 12, 13, 14, 15, 16, 17, 18, 19, 20, 21, 22, 23, 24, 25, 26, 27, 28, 29, 30, 31, 32, 33, 34, 560, 561, 562, 563, 564, 565, 566, 541, 542, 567, 568, 569, 570, 571] (by decide +kernel) (by decide +kernel)
set_option maxRecDepth 20000 in
theorem gL_law_X4_init : GoodIn wsL_law (wsX4_init) := ggL_law_X4_init
set_option maxRecDepth 20000 in
theorem ggL_law_X5_init : GoodIn wsL_law wsX5_init := goodIn_r _ [37, 38, 10, 11, 39, 40, 41, 42, 43, 24, 44, 45, 46, 47, 48, 49, 50, 51, 543, 544, 545, 546, 547, 548, 549, 550, 551, 552, 553, 554, 555, 556, 557, 558, 559] (by decide +kernel) (by decide +kernel)
set_option maxRecDepth 20000 in
theorem gL_law_X5_init : GoodIn wsL_law (wsX5_init) := ggL_law_X5_init
set_option maxRecDepth 20000 in
theorem ggL_law_X4_space : GoodIn wsL_law wsX4_space := goodIn_r _ [55, 15, 19, 56, 57, 2, 58, 59, 60, 61, 14, 62, 25, 27, 28, 29, 63, 64, 65, 66, 67, 18, 68, 69, 541, 542, 560, 561, 562, 563, 564, 565, 566, 567, 568, 569, 570, 571] (by decide +kernel) (by decide +kernel)
set_option maxRecDepth 20000 in
theorem gL_law_X4_space : GoodIn wsL_law (wsV RL 13 RX4 yX4_space wsX4_space) := goodIn_app (goodIn_of _ (by decide +kernel)) ggL_law_X4_space
set_option maxRecDepth 20000 in
theorem ggL_law_X5_space : GoodIn wsL_law wsX5_space := goodIn_r _ [73, 74, 39, 40, 41, 43, 44, 75, 76, 77, 5, 78, 543, 544, 545, 546, 547, 548, 549, 550, 551, 552, 553, 554, 555, 556, 557, 558, 559] (by decide +kernel) (by decide +kernel)
set_option maxRecDepth 20000 in
theorem gL_law_X5_space : GoodIn wsL_law (wsV RL 17 RX5 yX5_space wsX5_space) := goodIn_app (goodIn_of _ (by decide +kernel)) ggL_law_X5_space
set_option maxRecDepth 20000 in
theorem ggL_law_X4_box : GoodIn wsL_law wsX4_box := goodIn_r _ [82, 15, 83, 84, 85, 86, 87, 88, 89, 90, 91, 92, 19, 93, 94, 2, 95, 56, 57, 58, 96, 97, 98, 99, 100, 101, 102, 103, 104, 14, 105, 25, 106, 107, 108, 109, 27, 28, 110, 111, 112, 113, 114, 115, 116, 117, 118, 119, 120, 65, 66, 67, 18, 68, 69, 541, 542, 560, 561, 562, 563, 564, 565, 566, 567, 568, 569, 570, 571] (by decide +kernel) (by decide +kernel)
set_option maxRecDepth 20000 in
theorem gL_law_X4_box : GoodIn wsL_law (wsV RL 18 RX4 yX4_box wsX4_box) := goodIn_app (goodIn_of _ (by decide +kernel)) ggL_law_X4_box
set_option maxRecDepth 20000 in
theorem ggL_law_X5_box : GoodIn wsL_law wsX5_box := goodIn_r _ [124, 125, 74, 43, 75, 76, 77, 5, 78, 126, 127, 128, 129, 39, 40, 41, 130, 131, 132, 133, 543, 544, 545, 546, 547, 548, 549, 550, 551, 552, 553, 554, 555, 556, 557, 558, 559] (by decide +kernel) (by decide +kernel)
set_option maxRecDepth 20000 in
theorem gL_law_X5_box : GoodIn wsL_law (wsV RL 22 RX5 yX5_box wsX5_box) := goodIn_app (goodIn_of _ (by decide +kernel)) ggL_law_X5_box
set_option maxRecDepth 20000 in
theorem ggL_law_X4_at : GoodIn wsL_law wsX4_at := goodIn_r _ [137, 15, 138, 107, 108, 14, 109, 27, 28, 139, 140, 141, 142, 29, 143, 111, 112, 113, 25, 106, 144, 145, 98, 146, 147, 148, 2, 149, 541, 542, 560, 561, 562, 563, 564, 565, 566] (by decide +kernel) (by decide +kernel)
set_option maxRecDepth 20000 in
theorem gL_law_X4_at : GoodIn wsL_law (wsV RL 23 RX4 yX4_at wsX4_at) := goodIn_app (goodIn_of _ (by decide +kernel)) ggL_law_X4_at
set_option maxRecDepth 20000 in
theorem ggL_law_X5_at : GoodIn wsL_law wsX5_at := goodIn_r _ [153, 126, 127, 128, 5, 129, 39, 40, 41, 76, 77, 78, 130, 131, 132, 133, 43, 543, 544, 545, 546, 547, 548, 549, 550, 551, 552, 553, 554, 555, 556, 557, 558, 559] (by decide +kernel) (by decide +kernel)
set_option maxRecDepth 20000 in
theorem gL_law_X5_at : GoodIn wsL_law (wsV RL 26 RX5 yX5_at wsX5_at) := goodIn_app (goodIn_of _ (by decide +kernel)) ggL_law_X5_at
set_option maxRecDepth 20000 in
theorem ggL_law_X4_rib : GoodIn wsL_law wsX4_rib := goodIn_r _ [157, 15, 19, 158, 159, 160, 14, 161, 162, 163, 164, 165, 27, 28, 166, 167, 168, 169, 170, 171, 172, 173, 63, 64, 174, 145, 98, 146, 175, 176, 177, 178, 179, 65, 66, 67, 18, 68, 69, 147, 148, 2, 149, 541, 542, 560, 561, 562, 563, 564, 565, 566, 567, 568, 569, 570, 571] (by decide +kernel) (by decide +kernel)
set_option maxRecDepth 20000 in
theorem gL_law_X4_rib : GoodIn wsL_law (wsV RL 27 RX4 yX4_rib wsX4_rib) := goodIn_app (goodIn_of _ (by decide +kernel)) ggL_law_X4_rib
set_option maxRecDepth 20000 in
theorem ggL_law_X5_rib : GoodIn wsL_law wsX5_rib := goodIn_r _ [183, 44, 75, 184, 185, 186, 5, 187, 76, 77, 78, 188, 189, 190, 191, 39, 40, 192, 193, 194, 195, 543, 544, 545, 546, 547, 548, 549, 550, 551, 552, 553, 554, 555, 556, 557, 558, 559] (by decide +kernel) (by decide +kernel)
set_option maxRecDepth 20000 in
theorem gL_law_X5_rib : GoodIn wsL_law (wsV RL 31 RX5 yX5_rib wsX5_rib) := goodIn_app (goodIn_of _ (by decide +kernel)) ggL_law_X5_rib
set_option maxRecDepth 20000 in
theorem ggL_law_X4_ribs : GoodIn wsL_law wsX4_ribs := goodIn_r _ [199, 15, 19, 200, 163, 164, 14, 165, 27, 28, 175, 171, 172, 173, 63, 64, 176, 177, 178, 179, 65, 66, 67, 18, 68, 69, 541, 542, 560, 561, 562, 563, 564, 565, 566, 567, 568, 569, 570, 571] (by decide +kernel) (by decide +kernel)
set_option maxRecDepth 20000 in
theorem gL_law_X4_ribs : GoodIn wsL_law (wsV RL 32 RX4 yX4_ribs wsX4_ribs) := goodIn_app (goodIn_of _ (by decide +kernel)) ggL_law_X4_ribs
set_option maxRecDepth 20000 in
theorem ggL_law_X5_ribs : GoodIn wsL_law wsX5_ribs := goodIn_r _ [204, 44, 75, 76, 77, 5, 78, 188, 189, 190, 191, 39, 40, 543, 544, 545, 546, 547, 548, 549, 550, 551, 552, 553, 554, 555, 556, 557, 558, 559] (by decide +kernel) (by decide +kernel)
set_option maxRecDepth 20000 in
theorem gL_law_X5_ribs : GoodIn wsL_law (wsV RL 36 RX5 yX5_ribs wsX5_ribs) := goodIn_app (goodIn_of _ (by decide +kernel)) ggL_law_X5_ribs
set_option maxRecDepth 20000 in
theorem ggL_law_X4_figure : GoodIn wsL_law wsX4_figure := goodIn_r _ [208, 15, 158, 159, 160, 14, 161, 162, 163, 164, 165, 27, 28, 139, 140, 141, 142, 29, 209, 210, 211, 212, 213, 214, 215, 216, 217, 167, 168, 169, 170, 171, 172, 173, 63, 64, 174, 145, 98, 146, 218, 219, 220, 221, 110, 111, 112, 113, 25, 106, 107, 108, 109, 222, 223, 224, 225, 226, 227, 228, 229, 230, 231, 232, 97, 99, 100, 91, 86, 92, 101, 85, 87, 233, 234, 235, 236, 237, 238, 239, 240, 241, 242, 243, 144, 147, 148, 2, 149, 541, 542, 560, 561, 562, 563, 564, 565, 566] (by decide +kernel) (by decide +kernel)
set_option maxRecDepth 20000 in
theorem gL_law_X4_figure : GoodIn wsL_law (wsV RL 37 RX4 yX4_figure wsX4_figure) := goodIn_app (goodIn_of _ (by decide +kernel)) ggL_law_X4_figure
set_option maxRecDepth 20000 in
theorem ggL_law_X5_figure : GoodIn wsL_law wsX5_figure := goodIn_r _ [247, 41, 184, 185, 186, 5, 187, 76, 77, 78, 188, 189, 190, 191, 39, 40, 248, 249, 250, 251, 252, 253, 254, 255, 130, 131, 132, 133, 43, 256, 257, 258, 259, 45, 46, 192, 193, 194, 195, 44, 260, 261, 262, 263, 543, 544, 545, 546, 547, 548, 549, 550, 551, 552, 553, 554, 555, 556, 557, 558, 559] (by decide +kernel) (by decide +kernel)
set_option maxRecDepth 20000 in
theorem gL_law_X5_figure : GoodIn wsL_law (wsV RL 41 RX5 yX5_figure wsX5_figure) := goodIn_app (goodIn_of _ (by decide +kernel)) ggL_law_X5_figure
set_option maxRecDepth 20000 in
theorem ggL_law_X4_about : GoodIn wsL_law wsX4_about := goodIn_r _ [267, 15, 158, 159, 160, 14, 161, 162, 163, 164, 165, 27, 28, 237, 238, 239, 240, 218, 219, 220, 221, 110, 111, 112, 113, 25, 106, 107, 108, 109, 233, 234, 235, 236, 268, 269, 270, 271, 272, 273, 274, 209, 210, 211, 212, 213, 214, 215, 216, 217, 167, 168, 169, 170, 171, 172, 173, 63, 64, 174, 145, 98, 146, 222, 223, 224, 225, 226, 227, 228, 229, 230, 231, 232, 97, 99, 100, 91, 86, 92, 101, 85, 87, 275, 276, 277, 278, 279, 280, 281, 282, 283, 284, 285, 286, 287, 288, 289, 290, 291, 292, 293, 294, 295, 296, 297, 298, 299, 300, 301, 302, 303, 304, 305, 306, 307, 115, 116, 117, 118, 119, 120, 308, 309, 310, 311, 242, 243, 312, 313, 314, 315, 316, 317, 541, 542, 560, 561, 562, 563, 564, 565, 566] (by decide +kernel) (by decide +kernel)
set_option maxRecDepth 20000 in
theorem gL_law_X4_about : GoodIn wsL_law (wsV RL 42 RX4 yX4_about wsX4_about) := goodIn_app (goodIn_of _ (by decide +kernel)) ggL_law_X4_about
set_option maxRecDepth 20000 in
theorem ggL_law_X5_about : GoodIn wsL_law wsX5_about := goodIn_r _ [321, 322, 323, 184, 185, 186, 5, 187, 76, 77, 78, 188, 189, 190, 191, 39, 40, 324, 325, 326, 327, 41, 47, 248, 249, 250, 251, 252, 253, 254, 255, 130, 131, 132, 133, 43, 256, 257, 258, 259, 45, 46, 192, 193, 194, 195, 44, 260, 261, 262, 263, 328, 329, 330, 331, 332, 333, 334, 335, 336, 337, 338, 339, 340, 341, 342, 343, 543, 544, 545, 546, 547, 548, 549, 550, 551, 552, 553, 554, 555, 556, 557, 558, 559] (by decide +kernel) (by decide +kernel)
set_option maxRecDepth 20000 in
theorem gL_law_X5_about : GoodIn wsL_law (wsV RL 45 RX5 yX5_about wsX5_about) := goodIn_app (goodIn_of _ (by decide +kernel)) ggL_law_X5_about
set_option maxRecDepth 20000 in
theorem ggL_law_X4_caught : GoodIn wsL_law wsX4_caught := goodIn_r _ [347, 15, 88, 89, 348, 214, 215, 14, 216, 217, 167, 168, 169, 170, 171, 172, 173, 63, 64, 174, 145, 98, 146, 144, 349, 350, 351, 352, 110, 111, 112, 113, 25, 106, 107, 108, 109, 27, 28, 304, 305, 306, 307, 115, 116, 117, 118, 119, 120, 541, 542, 560, 561, 562, 563, 564, 565, 566] (by decide +kernel) (by decide +kernel)
set_option maxRecDepth 20000 in
theorem gL_law_X4_caught : GoodIn wsL_law (wsV RL 46 RX4 yX4_caught wsX4_caught) := goodIn_app (goodIn_of _ (by decide +kernel)) ggL_law_X4_caught
set_option maxRecDepth 20000 in
theorem ggL_law_X5_caught : GoodIn wsL_law wsX5_caught := goodIn_r _ [356, 39, 40, 192, 193, 194, 5, 195, 44, 260, 261, 262, 263, 41, 45, 46, 130, 131, 132, 133, 43, 543, 544, 545, 546, 547, 548, 549, 550, 551, 552, 553, 554, 555, 556, 557, 558, 559] (by decide +kernel) (by decide +kernel)
set_option maxRecDepth 20000 in
theorem gL_law_X5_caught : GoodIn wsL_law (wsV RL 50 RX5 yX5_caught wsX5_caught) := goodIn_app (goodIn_of _ (by decide +kernel)) ggL_law_X5_caught
set_option maxRecDepth 20000 in
theorem ggL_law_X4_run : GoodIn wsL_law wsX4_run := goodIn_r _ [360, 15, 83, 138, 107, 108, 14, 109, 27, 28, 143, 111, 112, 113, 25, 106, 361, 226, 98, 227, 228, 145, 146, 362, 230, 231, 541, 542, 560, 561, 562, 563, 564, 565, 566] (by decide +kernel) (by decide +kernel)
set_option maxRecDepth 20000 in
theorem gL_law_X4_run : GoodIn wsL_law (wsV RL 51 RX4 yX4_run wsX4_run) := goodIn_app (goodIn_of _ (by decide +kernel)) ggL_law_X4_run
set_option maxRecDepth 20000 in
theorem ggL_law_X5_run : GoodIn wsL_law wsX5_run := goodIn_r _ [366, 39, 40, 45, 46, 76, 77, 5, 78, 260, 261, 262, 263, 41, 130, 131, 132, 133, 43, 543, 544, 545, 546, 547, 548, 549, 550, 551, 552, 553, 554, 555, 556, 557, 558, 559] (by decide +kernel) (by decide +kernel)
set_option maxRecDepth 20000 in
theorem gL_law_X5_run : GoodIn wsL_law (wsV RL 54 RX5 yX5_run wsX5_run) := goodIn_app (goodIn_of _ (by decide +kernel)) ggL_law_X5_run
set_option maxRecDepth 20000 in
theorem ggL_law_X4_cover : GoodIn wsL_law wsX4_cover := goodIn_r _ [370, 15, 371, 372, 373, 14, 374, 27, 28, 217, 167, 168, 169, 170, 171, 172, 173, 63, 64, 174, 145, 98, 146, 110, 111, 112, 113, 25, 106, 107, 108, 109, 114, 115, 116, 117, 118, 119, 120, 541, 542, 560, 561, 562, 563, 564, 565, 566] (by decide +kernel) (by decide +kernel)
set_option maxRecDepth 20000 in
theorem gL_law_X4_cover : GoodIn wsL_law (wsV RL 55 RX4 yX4_cover wsX4_cover) := goodIn_app (goodIn_of _ (by decide +kernel)) ggL_law_X4_cover
set_option maxRecDepth 20000 in
theorem ggL_law_X5_cover : GoodIn wsL_law wsX5_cover := goodIn_r _ [378, 44, 379, 380, 381, 5, 382, 39, 40, 48, 49, 383, 384, 385, 386, 41, 130, 131, 132, 133, 43, 260, 261, 262, 263, 45, 46, 387, 388, 389, 390, 543, 544, 545, 546, 547, 548, 549, 550, 551, 552, 553, 554, 555, 556, 557, 558, 559] (by decide +kernel) (by decide +kernel)
set_option maxRecDepth 20000 in
theorem gL_law_X5_cover : GoodIn wsL_law (wsV RL 59 RX5 yX5_cover wsX5_cover) := goodIn_app (goodIn_of _ (by decide +kernel)) ggL_law_X5_cover
set_option maxRecDepth 20000 in
theorem ggL_law_X4_best : GoodIn wsL_law wsX4_best := goodIn_r _ [394, 15, 88, 89, 19, 395, 396, 397, 14, 398, 27, 63, 64, 114, 115, 116, 117, 118, 119, 120, 399, 400, 401, 402, 28, 26, 174, 145, 98, 146, 110, 111, 112, 113, 25, 106, 107, 108, 109, 403, 350, 351, 352, 304, 305, 306, 307, 404, 405, 406, 407, 408, 409, 410, 411, 412, 238, 239, 240, 162, 163, 164, 165, 218, 219, 220, 221, 233, 234, 235, 236, 413, 269, 270, 271, 272, 273, 274, 414, 415, 416, 417, 65, 66, 67, 18, 68, 69, 371, 372, 373, 374, 217, 167, 168, 169, 170, 171, 172, 173, 541, 542, 560, 561, 562, 563, 564, 565, 566, 567, 568, 569, 570, 571] (by decide +kernel) (by decide +kernel)
set_option maxRecDepth 20000 in
theorem gL_law_X4_best : GoodIn wsL_law (wsV RL 60 RX4 yX4_best wsX4_best) := goodIn_app (goodIn_of _ (by decide +kernel)) ggL_law_X4_best
set_option maxRecDepth 20000 in
theorem ggL_law_X5_best : GoodIn wsL_law wsX5_best := goodIn_r _ [421, 39, 40, 44, 75, 76, 77, 5, 78, 379, 380, 381, 382, 48, 49, 383, 384, 385, 386, 41, 130, 131, 132, 133, 43, 260, 261, 262, 263, 45, 46, 422, 423, 424, 387, 388, 389, 390, 425, 426, 427, 428, 543, 544, 545, 546, 547, 548, 549, 550, 551, 552, 553, 554, 555, 556, 557, 558, 559] (by decide +kernel) (by decide +kernel)
set_option maxRecDepth 20000 in
theorem gL_law_X5_best : GoodIn wsL_law (wsV RL 63 RX5 yX5_best wsX5_best) := goodIn_app (goodIn_of _ (by decide +kernel)) ggL_law_X5_best
set_option maxRecDepth 20000 in
theorem ggL_law_X4_told : GoodIn wsL_law wsX4_told := goodIn_r _ [432, 15, 88, 89, 83, 433, 434, 435, 14, 436, 25, 114, 115, 116, 117, 118, 119, 120, 175, 171, 172, 173, 63, 64, 437, 438, 439, 440, 162, 163, 164, 165, 27, 28, 217, 167, 168, 169, 170, 174, 145, 98, 146, 294, 210, 211, 212, 213, 214, 215, 216, 218, 219, 220, 221, 110, 111, 112, 113, 106, 107, 108, 109, 222, 223, 224, 225, 226, 227, 228, 229, 230, 231, 232, 97, 99, 100, 91, 86, 92, 101, 85, 87, 233, 234, 235, 236, 413, 269, 270, 271, 272, 273, 274, 441, 442, 443, 444, 445, 291, 292, 293, 295, 279, 280, 281, 282, 283, 284, 285, 286, 287, 288, 289, 541, 542, 560, 561, 562, 563, 564, 565, 566] (by decide +kernel) (by decide +kernel)
set_option maxRecDepth 20000 in
theorem gL_law_X4_told : GoodIn wsL_law (wsV RL 64 RX4 yX4_told wsX4_told) := goodIn_app (goodIn_of _ (by decide +kernel)) ggL_law_X4_told
set_option maxRecDepth 20000 in
theorem ggL_law_X5_told : GoodIn wsL_law wsX5_told := goodIn_r _ [449, 39, 40, 41, 43, 44, 322, 192, 193, 194, 5, 195, 324, 325, 326, 327, 47, 323, 188, 189, 190, 191, 248, 249, 250, 251, 252, 253, 254, 255, 130, 131, 132, 133, 256, 257, 258, 259, 45, 46, 260, 261, 262, 263, 76, 77, 78, 328, 329, 330, 331, 332, 333, 334, 335, 543, 544, 545, 546, 547, 548, 549, 550, 551, 552, 553, 554, 555, 556, 557, 558, 559] (by decide +kernel) (by decide +kernel)
set_option maxRecDepth 20000 in
theorem gL_law_X5_told : GoodIn wsL_law (wsV RL 67 RX5 yX5_told wsX5_told) := goodIn_app (goodIn_of _ (by decide +kernel)) ggL_law_X5_told
set_option maxRecDepth 20000 in
theorem ggL_law_X4_lay : GoodIn wsL_law wsX4_lay := goodIn_r _ [453, 19, 15, 454, 455, 456, 457, 2, 458, 200, 163, 164, 14, 165, 27, 28, 459, 460, 461, 462, 217, 167, 168, 169, 170, 171, 172, 173, 63, 64, 174, 145, 98, 146, 412, 238, 239, 240, 162, 218, 219, 220, 221, 110, 111, 112, 113, 25, 106, 107, 108, 109, 233, 234, 235, 236, 308, 309, 310, 311, 242, 243, 312, 313, 314, 228, 315, 316, 317, 463, 464, 465, 18, 466, 467, 468, 469, 470, 471, 34, 472, 473, 474, 475, 476, 477, 478, 479, 480, 481, 482, 483, 484, 485, 486, 487, 488, 489, 490, 491, 492, 493, 494, 495, 496, 69, 497, 498, 499, 541, 542, 567, 568, 569, 570, 571, 560, 561, 562, 563, 564, 565, 566] (by decide +kernel) (by decide +kernel)
set_option maxRecDepth 20000 in
theorem gL_law_X4_lay : GoodIn wsL_law (wsV RL 68 RX4 yX4_lay wsX4_lay) := goodIn_app (goodIn_of _ (by decide +kernel)) ggL_law_X4_lay
set_option maxRecDepth 20000 in
theorem ggL_law_X5_lay : GoodIn wsL_law wsX5_lay := goodIn_r _ [503, 504, 505, 51, 50, 506, 507, 75, 76, 77, 5, 78, 508, 509, 510, 511, 192, 193, 194, 195, 44, 340, 341, 342, 343, 41, 188, 189, 190, 191, 39, 40, 252, 253, 254, 255, 130, 131, 132, 133, 43, 512, 513, 514, 515, 516, 517, 518, 519, 543, 544, 545, 546, 547, 548, 549, 550, 551, 552, 553, 554, 555, 556, 557, 558, 559] (by decide +kernel) (by decide +kernel)
set_option maxRecDepth 20000 in
theorem gL_law_X5_lay : GoodIn wsL_law (wsV RL 71 RX5 yX5_lay wsX5_lay) := goodIn_app (goodIn_of _ (by decide +kernel)) ggL_law_X5_lay
set_option maxRecDepth 20000 in
theorem ggL_law_X4_laid : GoodIn wsL_law wsX4_laid := goodIn_r _ [523, 19, 524, 525, 526, 481, 482, 18, 483, 34, 484, 485, 486, 541, 542, 567, 568, 569, 570, 571] (by decide +kernel) (by decide +kernel)
set_option maxRecDepth 20000 in
theorem gL_law_X4_laid : GoodIn wsL_law (wsV RL 72 RX4 yX4_laid wsX4_laid) := goodIn_app (goodIn_of _ (by decide +kernel)) ggL_law_X4_laid
set_option maxRecDepth 20000 in
theorem ggL_law_X5_laid : GoodIn wsL_law wsX5_laid := goodIn_r _ [530, 75, 531, 506, 50, 76, 77, 5, 78, 543, 544, 545, 546, 547, 548, 549, 550, 551, 552, 553, 554, 555, 556, 557, 558, 559] (by decide +kernel) (by decide +kernel)
set_option maxRecDepth 20000 in
theorem gL_law_X5_laid : GoodIn wsL_law (wsV RL 75 RX5 yX5_laid wsX5_laid) := goodIn_app (goodIn_of _ (by decide +kernel)) ggL_law_X5_laid
set_option maxRecDepth 20000 in
theorem ggL_law_X4_least : GoodIn wsL_law wsX4_least := goodIn_r _ [535, 19, 524, 536, 541, 542, 567, 568, 569, 570, 571] (by decide +kernel) (by decide +kernel)
set_option maxRecDepth 20000 in
theorem gL_law_X4_least : GoodIn wsL_law (wsV RL 76 RX4 yX4_least wsX4_least) := goodIn_app (goodIn_of _ (by decide +kernel)) ggL_law_X4_least
set_option maxRecDepth 20000 in
theorem ggL_law_X5_least : GoodIn wsL_law wsX5_least := goodIn_r _ [540, 75, 507, 543, 544, 545, 546, 547, 548, 549, 550, 551, 552, 553, 554, 555, 556, 557, 558, 559] (by decide +kernel) (by decide +kernel)
set_option maxRecDepth 20000 in
theorem gL_law_X5_least : GoodIn wsL_law (wsV RL 79 RX5 yX5_least wsX5_least) := goodIn_app (goodIn_of _ (by decide +kernel)) ggL_law_X5_least
