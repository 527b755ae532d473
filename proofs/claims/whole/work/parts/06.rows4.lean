theorem dX5_rib_60 : decode cX5_rib 60 = .ok (.iand, 1) := by decide +kernel
theorem dX5_rib_61 : decode cX5_rib 61 = .ok (.iastore, 1) := by decide +kernel
theorem dX5_rib_62 : decode cX5_rib 62 = .ok (.aload_n 0, 1) := by decide +kernel
theorem dX5_rib_63 : decode cX5_rib 63 = .ok (.iconst 0, 1) := by decide +kernel
theorem dX5_rib_64 : decode cX5_rib 64 = .ok (.putfield 54, 3) := by decide +kernel
theorem dX5_rib_67 : decode cX5_rib 67 = .ok (.iload 4, 2) := by decide +kernel
theorem dX5_rib_69 : decode cX5_rib 69 = .ok (.ireturn, 1) := by decide +kernel
set_option maxRecDepth 20000 in
theorem ggX5_ribs_X5_in : GoodIn wsX5_ribs wsX5_in := goodIn_r _ [6] (by decide +kernel) (by decide +kernel)
set_option maxRecDepth 20000 in
theorem gX5_ribs_X5_in : GoodIn wsX5_ribs (va_wsS RX5 48 yX5_in wsX5_in) := goodIn_app (goodIn_of _ (by decide +kernel)) ggX5_ribs_X5_in
set_option maxRecDepth 20000 in
theorem ggX5_ribs_X5_places : GoodIn wsX5_ribs wsX5_places := goodIn_r _ [10, 11, 12, 13, 14, 15, 16, 17, 18, 19, 20, 21, 22, 23, 24, 25, 26, 27, 28, 29] (by decide +kernel) (by decide +kernel)
set_option maxRecDepth 20000 in
theorem gX5_ribs_X5_places : GoodIn wsX5_ribs (wsV RX5 67 RX5 yX5_places wsX5_places) := goodIn_app (goodIn_of _ (by decide +kernel)) ggX5_ribs_X5_places
theorem dX5_ribs_0 : decode cX5_ribs 0 = .ok (.iload_n 1, 1) := by decide +kernel
theorem dX5_ribs_1 : decode cX5_ribs 1 = .ok (.i2l, 1) := by decide +kernel
theorem dX5_ribs_2 : decode cX5_ribs 2 = .ok (.lconst 0, 1) := by decide +kernel
theorem dX5_ribs_3 : decode cX5_ribs 3 = .ok (.lconst 1, 1) := by decide +kernel
theorem dX5_ribs_4 : decode cX5_ribs 4 = .ok (.invokestatic 48, 3) := by decide +kernel
theorem dX5_ribs_7 : decode cX5_ribs 7 = .ok (.ifCond .eq 22, 3) := by decide +kernel
theorem dX5_ribs_10 : decode cX5_ribs 10 = .ok (.iload_n 2, 1) := by decide +kernel
theorem dX5_ribs_11 : decode cX5_ribs 11 = .ok (.i2l, 1) := by decide +kernel
theorem dX5_ribs_12 : decode cX5_ribs 12 = .ok (.lconst 0, 1) := by decide +kernel
theorem dX5_ribs_13 : decode cX5_ribs 13 = .ok (.iconst 1, 1) := by decide +kernel
theorem dX5_ribs_14 : decode cX5_ribs 14 = .ok (.aload_n 0, 1) := by decide +kernel
theorem dX5_ribs_15 : decode cX5_ribs 15 = .ok (.iload_n 1, 1) := by decide +kernel
theorem dX5_ribs_16 : decode cX5_ribs 16 = .ok (.invokevirtual 67, 3) := by decide +kernel
theorem dX5_ribs_19 : decode cX5_ribs 19 = .ok (.ishl, 1) := by decide +kernel
theorem dX5_ribs_20 : decode cX5_ribs 20 = .ok (.iconst 1, 1) := by decide +kernel
theorem dX5_ribs_21 : decode cX5_ribs 21 = .ok (.isub, 1) := by decide +kernel
theorem dX5_ribs_22 : decode cX5_ribs 22 = .ok (.i2l, 1) := by decide +kernel
theorem dX5_ribs_23 : decode cX5_ribs 23 = .ok (.invokestatic 48, 3) := by decide +kernel
theorem dX5_ribs_26 : decode cX5_ribs 26 = .ok (.ifCond .ne 6, 3) := by decide +kernel
theorem dX5_ribs_29 : decode cX5_ribs 29 = .ok (.bipush (-2), 2) := by decide +kernel
theorem dX5_ribs_31 : decode cX5_ribs 31 = .ok (.ireturn, 1) := by decide +kernel
theorem dX5_ribs_32 : decode cX5_ribs 32 = .ok (.aload_n 0, 1) := by decide +kernel
theorem dX5_ribs_33 : decode cX5_ribs 33 = .ok (.getfield 23, 3) := by decide +kernel
theorem dX5_ribs_36 : decode cX5_ribs 36 = .ok (.iload_n 1, 1) := by decide +kernel
theorem dX5_ribs_37 : decode cX5_ribs 37 = .ok (.iaload, 1) := by decide +kernel
theorem dX5_ribs_38 : decode cX5_ribs 38 = .ok (.istore_n 3, 1) := by decide +kernel
theorem dX5_ribs_39 : decode cX5_ribs 39 = .ok (.aload_n 0, 1) := by decide +kernel
theorem dX5_ribs_40 : decode cX5_ribs 40 = .ok (.getfield 23, 3) := by decide +kernel
theorem dX5_ribs_43 : decode cX5_ribs 43 = .ok (.iload_n 1, 1) := by decide +kernel
theorem dX5_ribs_44 : decode cX5_ribs 44 = .ok (.iload_n 2, 1) := by decide +kernel
theorem dX5_ribs_45 : decode cX5_ribs 45 = .ok (.iastore, 1) := by decide +kernel
theorem dX5_ribs_46 : decode cX5_ribs 46 = .ok (.aload_n 0, 1) := by decide +kernel
theorem dX5_ribs_47 : decode cX5_ribs 47 = .ok (.iconst 0, 1) := by decide +kernel
theorem dX5_ribs_48 : decode cX5_ribs 48 = .ok (.putfield 54, 3) := by decide +kernel
theorem dX5_ribs_51 : decode cX5_ribs 51 = .ok (.iload_n 3, 1) := by decide +kernel
theorem dX5_ribs_52 : decode cX5_ribs 52 = .ok (.ireturn, 1) := by decide +kernel
set_option maxRecDepth 20000 in
theorem ggX5_hasIn_X5_has : GoodIn wsX5_hasIn wsX5_has := goodIn_r _ [5, 6, 7, 8, 9, 10, 11, 12, 13, 14, 15, 16, 17, 18, 19, 20, 21, 22, 23] (by decide +kernel) (by decide +kernel)
set_option maxRecDepth 20000 in
theorem gX5_hasIn_X5_has : GoodIn wsX5_hasIn (wsV RX5 64 RX5 yX5_has wsX5_has) := goodIn_app (goodIn_of _ (by decide +kernel)) ggX5_hasIn_X5_has
theorem dX5_hasIn_0 : decode cX5_hasIn 0 = .ok (.iload_n 1, 1) := by decide +kernel
theorem dX5_hasIn_1 : decode cX5_hasIn 1 = .ok (.ifCond .ne 14, 3) := by decide +kernel
theorem dX5_hasIn_4 : decode cX5_hasIn 4 = .ok (.aload_n 0, 1) := by decide +kernel
theorem dX5_hasIn_5 : decode cX5_hasIn 5 = .ok (.iload_n 2, 1) := by decide +kernel
theorem dX5_hasIn_6 : decode cX5_hasIn 6 = .ok (.iload_n 3, 1) := by decide +kernel
theorem dX5_hasIn_7 : decode cX5_hasIn 7 = .ok (.iload 4, 2) := by decide +kernel
theorem dX5_hasIn_9 : decode cX5_hasIn 9 = .ok (.invokevirtual 64, 3) := by decide +kernel
theorem dX5_hasIn_12 : decode cX5_hasIn 12 = .ok (.goto 11, 3) := by decide +kernel
theorem dX5_hasIn_15 : decode cX5_hasIn 15 = .ok (.aload_n 0, 1) := by decide +kernel
theorem dX5_hasIn_16 : decode cX5_hasIn 16 = .ok (.iload_n 3, 1) := by decide +kernel
theorem dX5_hasIn_17 : decode cX5_hasIn 17 = .ok (.iload_n 2, 1) := by decide +kernel
theorem dX5_hasIn_18 : decode cX5_hasIn 18 = .ok (.iload 4, 2) := by decide +kernel
theorem dX5_hasIn_20 : decode cX5_hasIn 20 = .ok (.invokevirtual 64, 3) := by decide +kernel
theorem dX5_hasIn_23 : decode cX5_hasIn 23 = .ok (.ireturn, 1) := by decide +kernel
set_option maxRecDepth 20000 in
theorem ggX5_findRuns_X5_has : GoodIn wsX5_findRuns wsX5_has := goodIn_r _ [8, 9, 10, 11, 12, 13, 14, 15, 16, 17, 18, 19, 20, 21, 22, 23, 24, 25, 26] (by decide +kernel) (by decide +kernel)
set_option maxRecDepth 20000 in
theorem gX5_findRuns_X5_has : GoodIn wsX5_findRuns (wsV RX5 64 RX5 yX5_has wsX5_has) := goodIn_app (goodIn_of _ (by decide +kernel)) ggX5_findRuns_X5_has
theorem dX5_findRuns_0 : decode cX5_findRuns 0 = .ok (.iconst 0, 1) := by decide +kernel
theorem dX5_findRuns_1 : decode cX5_findRuns 1 = .ok (.istore_n 3, 1) := by decide +kernel
theorem dX5_findRuns_2 : decode cX5_findRuns 2 = .ok (.iconst 0, 1) := by decide +kernel
theorem dX5_findRuns_3 : decode cX5_findRuns 3 = .ok (.istore 4, 2) := by decide +kernel
theorem dX5_findRuns_5 : decode cX5_findRuns 5 = .ok (.iload 4, 2) := by decide +kernel
theorem dX5_findRuns_7 : decode cX5_findRuns 7 = .ok (.aload_n 0, 1) := by decide +kernel
theorem dX5_findRuns_8 : decode cX5_findRuns 8 = .ok (.getfield 16, 3) := by decide +kernel
theorem dX5_findRuns_11 : decode cX5_findRuns 11 = .ok (.if_icmp .ge 68, 3) := by decide +kernel
theorem dX5_findRuns_14 : decode cX5_findRuns 14 = .ok (.aload_n 0, 1) := by decide +kernel
theorem dX5_findRuns_15 : decode cX5_findRuns 15 = .ok (.iload_n 1, 1) := by decide +kernel
theorem dX5_findRuns_16 : decode cX5_findRuns 16 = .ok (.iload_n 2, 1) := by decide +kernel
theorem dX5_findRuns_17 : decode cX5_findRuns 17 = .ok (.iload 4, 2) := by decide +kernel
theorem dX5_findRuns_19 : decode cX5_findRuns 19 = .ok (.invokevirtual 64, 3) := by decide +kernel
theorem dX5_findRuns_22 : decode cX5_findRuns 22 = .ok (.ifCond .eq 51, 3) := by decide +kernel
theorem dX5_findRuns_25 : decode cX5_findRuns 25 = .ok (.iload 4, 2) := by decide +kernel
theorem dX5_findRuns_27 : decode cX5_findRuns 27 = .ok (.ifCond .eq 16, 3) := by decide +kernel
theorem dX5_findRuns_30 : decode cX5_findRuns 30 = .ok (.aload_n 0, 1) := by decide +kernel
theorem dX5_findRuns_31 : decode cX5_findRuns 31 = .ok (.iload_n 1, 1) := by decide +kernel
theorem dX5_findRuns_32 : decode cX5_findRuns 32 = .ok (.iload_n 2, 1) := by decide +kernel
theorem dX5_findRuns_33 : decode cX5_findRuns 33 = .ok (.iload 4, 2) := by decide +kernel
theorem dX5_findRuns_35 : decode cX5_findRuns 35 = .ok (.iconst 1, 1) := by decide +kernel
theorem dX5_findRuns_36 : decode cX5_findRuns 36 = .ok (.isub, 1) := by decide +kernel
theorem dX5_findRuns_37 : decode cX5_findRuns 37 = .ok (.invokevirtual 64, 3) := by decide +kernel
theorem dX5_findRuns_40 : decode cX5_findRuns 40 = .ok (.ifCond .ne 21, 3) := by decide +kernel
theorem dX5_findRuns_43 : decode cX5_findRuns 43 = .ok (.aload_n 0, 1) := by decide +kernel
theorem dX5_findRuns_44 : decode cX5_findRuns 44 = .ok (.getfield 27, 3) := by decide +kernel
theorem dX5_findRuns_47 : decode cX5_findRuns 47 = .ok (.iload_n 3, 1) := by decide +kernel
theorem dX5_findRuns_48 : decode cX5_findRuns 48 = .ok (.iload 4, 2) := by decide +kernel
theorem dX5_findRuns_50 : decode cX5_findRuns 50 = .ok (.iastore, 1) := by decide +kernel
theorem dX5_findRuns_51 : decode cX5_findRuns 51 = .ok (.aload_n 0, 1) := by decide +kernel
theorem dX5_findRuns_52 : decode cX5_findRuns 52 = .ok (.getfield 30, 3) := by decide +kernel
theorem dX5_findRuns_55 : decode cX5_findRuns 55 = .ok (.iload_n 3, 1) := by decide +kernel
theorem dX5_findRuns_56 : decode cX5_findRuns 56 = .ok (.iconst 0, 1) := by decide +kernel
theorem dX5_findRuns_57 : decode cX5_findRuns 57 = .ok (.iastore, 1) := by decide +kernel
theorem dX5_findRuns_58 : decode cX5_findRuns 58 = .ok (.iinc 3 1, 3) := by decide +kernel
theorem dX5_findRuns_61 : decode cX5_findRuns 61 = .ok (.aload_n 0, 1) := by decide +kernel
theorem dX5_findRuns_62 : decode cX5_findRuns 62 = .ok (.getfield 30, 3) := by decide +kernel
theorem dX5_findRuns_65 : decode cX5_findRuns 65 = .ok (.iload_n 3, 1) := by decide +kernel
theorem dX5_findRuns_66 : decode cX5_findRuns 66 = .ok (.iconst 1, 1) := by decide +kernel
theorem dX5_findRuns_67 : decode cX5_findRuns 67 = .ok (.isub, 1) := by decide +kernel
theorem dX5_findRuns_68 : decode cX5_findRuns 68 = .ok (.dup2, 1) := by decide +kernel
theorem dX5_findRuns_69 : decode cX5_findRuns 69 = .ok (.iaload, 1) := by decide +kernel
theorem dX5_findRuns_70 : decode cX5_findRuns 70 = .ok (.iconst 1, 1) := by decide +kernel
theorem dX5_findRuns_71 : decode cX5_findRuns 71 = .ok (.iadd, 1) := by decide +kernel
theorem dX5_findRuns_72 : decode cX5_findRuns 72 = .ok (.iastore, 1) := by decide +kernel
theorem dX5_findRuns_73 : decode cX5_findRuns 73 = .ok (.iinc 4 1, 3) := by decide +kernel
theorem dX5_findRuns_76 : decode cX5_findRuns 76 = .ok (.goto (-71), 3) := by decide +kernel
theorem dX5_findRuns_79 : decode cX5_findRuns 79 = .ok (.iload_n 3, 1) := by decide +kernel
theorem dX5_findRuns_80 : decode cX5_findRuns 80 = .ok (.ireturn, 1) := by decide +kernel
set_option maxRecDepth 20000 in
theorem ggX5_loses_X5_isChosen : GoodIn wsX5_loses wsX5_isChosen := goodIn_r _ [7, 8, 22, 23, 24, 25, 26, 27, 28, 29, 30, 31, 32, 33, 34, 35, 36, 37, 38] (by decide +kernel) (by decide +kernel)
set_option maxRecDepth 20000 in
theorem gX5_loses_X5_isChosen : GoodIn wsX5_loses (wsV RX5 75 RX5 yX5_isChosen wsX5_isChosen) := goodIn_app (goodIn_of _ (by decide +kernel)) ggX5_loses_X5_isChosen
set_option maxRecDepth 20000 in
theorem ggX5_loses_X5_findRuns : GoodIn wsX5_loses wsX5_findRuns := goodIn_r _ [12, 13, 1, 2, 14, 15, 16, 6, 17, 18, 22, 23, 24, 25, 26, 27, 28, 29, 30, 31, 32, 33, 34, 35, 36, 37, 38] (by decide +kernel) (by decide +kernel)
set_option maxRecDepth 20000 in
theorem gX5_loses_X5_findRuns : GoodIn wsX5_loses (wsV RX5 78 RX5 yX5_findRuns wsX5_findRuns) := goodIn_app (goodIn_of _ (by decide +kernel)) ggX5_loses_X5_findRuns
set_option maxRecDepth 20000 in
theorem ggX5_loses_X5_in : GoodIn wsX5_loses wsX5_in := goodIn_r _ [21] (by decide +kernel) (by decide +kernel)
set_option maxRecDepth 20000 in
theorem gX5_loses_X5_in : GoodIn wsX5_loses (va_wsS RX5 48 yX5_in wsX5_in) := goodIn_app (goodIn_of _ (by decide +kernel)) ggX5_loses_X5_in
theorem dX5_loses_0 : decode cX5_loses 0 = .ok (.aload_n 0, 1) := by decide +kernel
theorem dX5_loses_1 : decode cX5_loses 1 = .ok (.iload_n 1, 1) := by decide +kernel
theorem dX5_loses_2 : decode cX5_loses 2 = .ok (.iload_n 2, 1) := by decide +kernel
theorem dX5_loses_3 : decode cX5_loses 3 = .ok (.invokevirtual 75, 3) := by decide +kernel
theorem dX5_loses_6 : decode cX5_loses 6 = .ok (.ifCond .eq 14, 3) := by decide +kernel
theorem dX5_loses_9 : decode cX5_loses 9 = .ok (.aload_n 0, 1) := by decide +kernel
theorem dX5_loses_10 : decode cX5_loses 10 = .ok (.iconst 1, 1) := by decide +kernel
theorem dX5_loses_11 : decode cX5_loses 11 = .ok (.iload_n 1, 1) := by decide +kernel
theorem dX5_loses_12 : decode cX5_loses 12 = .ok (.isub, 1) := by decide +kernel
theorem dX5_loses_13 : decode cX5_loses 13 = .ok (.iload_n 3, 1) := by decide +kernel
theorem dX5_loses_14 : decode cX5_loses 14 = .ok (.invokevirtual 75, 3) := by decide +kernel
theorem dX5_loses_17 : decode cX5_loses 17 = .ok (.ifCond .ne 5, 3) := by decide +kernel
theorem dX5_loses_20 : decode cX5_loses 20 = .ok (.iconst 0, 1) := by decide +kernel
theorem dX5_loses_21 : decode cX5_loses 21 = .ok (.ireturn, 1) := by decide +kernel
theorem dX5_loses_22 : decode cX5_loses 22 = .ok (.iload_n 1, 1) := by decide +kernel
theorem dX5_loses_23 : decode cX5_loses 23 = .ok (.ifCond .ne 12, 3) := by decide +kernel
theorem dX5_loses_26 : decode cX5_loses 26 = .ok (.aload_n 0, 1) := by decide +kernel
theorem dX5_loses_27 : decode cX5_loses 27 = .ok (.iload_n 2, 1) := by decide +kernel
theorem dX5_loses_28 : decode cX5_loses 28 = .ok (.iload_n 3, 1) := by decide +kernel
theorem dX5_loses_29 : decode cX5_loses 29 = .ok (.invokevirtual 78, 3) := by decide +kernel
theorem dX5_loses_32 : decode cX5_loses 32 = .ok (.goto 9, 3) := by decide +kernel
theorem dX5_loses_35 : decode cX5_loses 35 = .ok (.aload_n 0, 1) := by decide +kernel
theorem dX5_loses_36 : decode cX5_loses 36 = .ok (.iload_n 3, 1) := by decide +kernel
theorem dX5_loses_37 : decode cX5_loses 37 = .ok (.iload_n 2, 1) := by decide +kernel
theorem dX5_loses_38 : decode cX5_loses 38 = .ok (.invokevirtual 78, 3) := by decide +kernel
theorem dX5_loses_41 : decode cX5_loses 41 = .ok (.istore 5, 2) := by decide +kernel
theorem dX5_loses_43 : decode cX5_loses 43 = .ok (.iconst 0, 1) := by decide +kernel
theorem dX5_loses_44 : decode cX5_loses 44 = .ok (.istore 6, 2) := by decide +kernel
theorem dX5_loses_46 : decode cX5_loses 46 = .ok (.iload 6, 2) := by decide +kernel
theorem dX5_loses_48 : decode cX5_loses 48 = .ok (.iload 5, 2) := by decide +kernel
theorem dX5_loses_50 : decode cX5_loses 50 = .ok (.if_icmp .ge 101, 3) := by decide +kernel
theorem dX5_loses_53 : decode cX5_loses 53 = .ok (.iload 4, 2) := by decide +kernel
theorem dX5_loses_55 : decode cX5_loses 55 = .ok (.i2l, 1) := by decide +kernel
theorem dX5_loses_56 : decode cX5_loses 56 = .ok (.aload_n 0, 1) := by decide +kernel
theorem dX5_loses_57 : decode cX5_loses 57 = .ok (.getfield 27, 3) := by decide +kernel
theorem dX5_loses_60 : decode cX5_loses 60 = .ok (.iload 6, 2) := by decide +kernel
theorem dX5_loses_62 : decode cX5_loses 62 = .ok (.iaload, 1) := by decide +kernel
theorem dX5_loses_63 : decode cX5_loses 63 = .ok (.i2l, 1) := by decide +kernel
theorem dX5_loses_64 : decode cX5_loses 64 = .ok (.aload_n 0, 1) := by decide +kernel
theorem dX5_loses_65 : decode cX5_loses 65 = .ok (.getfield 27, 3) := by decide +kernel
theorem dX5_loses_68 : decode cX5_loses 68 = .ok (.iload 6, 2) := by decide +kernel
theorem dX5_loses_70 : decode cX5_loses 70 = .ok (.iaload, 1) := by decide +kernel
theorem dX5_loses_71 : decode cX5_loses 71 = .ok (.aload_n 0, 1) := by decide +kernel
theorem dX5_loses_72 : decode cX5_loses 72 = .ok (.getfield 30, 3) := by decide +kernel
theorem dX5_loses_75 : decode cX5_loses 75 = .ok (.iload 6, 2) := by decide +kernel
theorem dX5_loses_77 : decode cX5_loses 77 = .ok (.iaload, 1) := by decide +kernel
theorem dX5_loses_78 : decode cX5_loses 78 = .ok (.iadd, 1) := by decide +kernel
theorem dX5_loses_79 : decode cX5_loses 79 = .ok (.iconst 1, 1) := by decide +kernel
theorem dX5_loses_80 : decode cX5_loses 80 = .ok (.isub, 1) := by decide +kernel
theorem dX5_loses_81 : decode cX5_loses 81 = .ok (.i2l, 1) := by decide +kernel
theorem dX5_loses_82 : decode cX5_loses 82 = .ok (.invokestatic 48, 3) := by decide +kernel
theorem dX5_loses_85 : decode cX5_loses 85 = .ok (.ifCond .eq 60, 3) := by decide +kernel
theorem dX5_loses_88 : decode cX5_loses 88 = .ok (.iload 4, 2) := by decide +kernel
theorem dX5_loses_90 : decode cX5_loses 90 = .ok (.aload_n 0, 1) := by decide +kernel
theorem dX5_loses_91 : decode cX5_loses 91 = .ok (.getfield 27, 3) := by decide +kernel
theorem dX5_loses_94 : decode cX5_loses 94 = .ok (.iload 6, 2) := by decide +kernel
theorem dX5_loses_96 : decode cX5_loses 96 = .ok (.iaload, 1) := by decide +kernel
theorem dX5_loses_97 : decode cX5_loses 97 = .ok (.aload_n 0, 1) := by decide +kernel
theorem dX5_loses_98 : decode cX5_loses 98 = .ok (.getfield 30, 3) := by decide +kernel
theorem dX5_loses_101 : decode cX5_loses 101 = .ok (.iload 6, 2) := by decide +kernel
theorem dX5_loses_103 : decode cX5_loses 103 = .ok (.iaload, 1) := by decide +kernel
theorem dX5_loses_104 : decode cX5_loses 104 = .ok (.iadd, 1) := by decide +kernel
theorem dX5_loses_105 : decode cX5_loses 105 = .ok (.aload_n 0, 1) := by decide +kernel
theorem dX5_loses_106 : decode cX5_loses 106 = .ok (.getfield 30, 3) := by decide +kernel
theorem dX5_loses_109 : decode cX5_loses 109 = .ok (.iload 6, 2) := by decide +kernel
theorem dX5_loses_111 : decode cX5_loses 111 = .ok (.iaload, 1) := by decide +kernel
theorem dX5_loses_112 : decode cX5_loses 112 = .ok (.iconst 2, 1) := by decide +kernel
theorem dX5_loses_113 : decode cX5_loses 113 = .ok (.idiv, 1) := by decide +kernel
theorem dX5_loses_114 : decode cX5_loses 114 = .ok (.isub, 1) := by decide +kernel
theorem dX5_loses_115 : decode cX5_loses 115 = .ok (.if_icmp .lt 7, 3) := by decide +kernel
theorem dX5_loses_118 : decode cX5_loses 118 = .ok (.iconst 1, 1) := by decide +kernel
theorem dX5_loses_119 : decode cX5_loses 119 = .ok (.goto 4, 3) := by decide +kernel
theorem dX5_loses_122 : decode cX5_loses 122 = .ok (.iconst 0, 1) := by decide +kernel
theorem dX5_loses_123 : decode cX5_loses 123 = .ok (.istore 7, 2) := by decide +kernel
theorem dX5_loses_125 : decode cX5_loses 125 = .ok (.iload_n 1, 1) := by decide +kernel
theorem dX5_loses_126 : decode cX5_loses 126 = .ok (.ifCond .ne 8, 3) := by decide +kernel
theorem dX5_loses_129 : decode cX5_loses 129 = .ok (.iload 7, 2) := by decide +kernel
theorem dX5_loses_131 : decode cX5_loses 131 = .ok (.goto 13, 3) := by decide +kernel
theorem dX5_loses_134 : decode cX5_loses 134 = .ok (.iload 7, 2) := by decide +kernel
theorem dX5_loses_136 : decode cX5_loses 136 = .ok (.ifCond .ne 7, 3) := by decide +kernel
theorem dX5_loses_139 : decode cX5_loses 139 = .ok (.iconst 1, 1) := by decide +kernel
theorem dX5_loses_140 : decode cX5_loses 140 = .ok (.goto 4, 3) := by decide +kernel
theorem dX5_loses_143 : decode cX5_loses 143 = .ok (.iconst 0, 1) := by decide +kernel
theorem dX5_loses_144 : decode cX5_loses 144 = .ok (.ireturn, 1) := by decide +kernel
theorem dX5_loses_145 : decode cX5_loses 145 = .ok (.iinc 6 1, 3) := by decide +kernel
theorem dX5_loses_148 : decode cX5_loses 148 = .ok (.goto (-102), 3) := by decide +kernel
theorem dX5_loses_151 : decode cX5_loses 151 = .ok (.iconst 0, 1) := by decide +kernel
theorem dX5_loses_152 : decode cX5_loses 152 = .ok (.ireturn, 1) := by decide +kernel
set_option maxRecDepth 20000 in
theorem ggX5_isIn_X5_hasIn : GoodIn wsX5_isIn wsX5_hasIn := goodIn_r _ [5, 6, 7, 8, 4, 9, 10, 30, 31, 32, 33, 34, 35, 36, 37, 38, 39, 40, 41, 42, 43, 44, 45, 46] (by decide +kernel) (by decide +kernel)
set_option maxRecDepth 20000 in
theorem gX5_isIn_X5_hasIn : GoodIn wsX5_isIn (wsV RX5 82 RX5 yX5_hasIn wsX5_hasIn) := goodIn_app (goodIn_of _ (by decide +kernel)) ggX5_isIn_X5_hasIn
set_option maxRecDepth 20000 in
theorem ggX5_isIn_X5_loses : GoodIn wsX5_isIn wsX5_loses := goodIn_r _ [14, 15, 16, 17, 18, 19, 4, 20, 21, 22, 23, 24, 25, 26, 6, 7, 8, 9, 10, 27, 28, 29, 30, 31, 32, 33, 34, 35, 36, 37, 38, 39, 40, 41, 42, 43, 44, 45, 46] (by decide +kernel) (by decide +kernel)
set_option maxRecDepth 20000 in
theorem gX5_isIn_X5_loses : GoodIn wsX5_isIn (wsV RX5 86 RX5 yX5_loses wsX5_loses) := goodIn_app (goodIn_of _ (by decide +kernel)) ggX5_isIn_X5_loses
theorem dX5_isIn_0 : decode cX5_isIn 0 = .ok (.aload_n 0, 1) := by decide +kernel
theorem dX5_isIn_1 : decode cX5_isIn 1 = .ok (.iload_n 1, 1) := by decide +kernel
theorem dX5_isIn_2 : decode cX5_isIn 2 = .ok (.iload_n 2, 1) := by decide +kernel
theorem dX5_isIn_3 : decode cX5_isIn 3 = .ok (.iload_n 3, 1) := by decide +kernel
theorem dX5_isIn_4 : decode cX5_isIn 4 = .ok (.iload 4, 2) := by decide +kernel
theorem dX5_isIn_6 : decode cX5_isIn 6 = .ok (.invokevirtual 82, 3) := by decide +kernel
theorem dX5_isIn_9 : decode cX5_isIn 9 = .ok (.ifCond .eq 24, 3) := by decide +kernel
theorem dX5_isIn_12 : decode cX5_isIn 12 = .ok (.iload 5, 2) := by decide +kernel
theorem dX5_isIn_14 : decode cX5_isIn 14 = .ok (.ifCond .eq 15, 3) := by decide +kernel
theorem dX5_isIn_17 : decode cX5_isIn 17 = .ok (.aload_n 0, 1) := by decide +kernel
theorem dX5_isIn_18 : decode cX5_isIn 18 = .ok (.iload_n 1, 1) := by decide +kernel
theorem dX5_isIn_19 : decode cX5_isIn 19 = .ok (.iload_n 2, 1) := by decide +kernel
theorem dX5_isIn_20 : decode cX5_isIn 20 = .ok (.iload_n 3, 1) := by decide +kernel
theorem dX5_isIn_21 : decode cX5_isIn 21 = .ok (.iload 4, 2) := by decide +kernel
theorem dX5_isIn_23 : decode cX5_isIn 23 = .ok (.invokevirtual 86, 3) := by decide +kernel
theorem dX5_isIn_26 : decode cX5_isIn 26 = .ok (.ifCond .ne 7, 3) := by decide +kernel
theorem dX5_isIn_29 : decode cX5_isIn 29 = .ok (.iconst 1, 1) := by decide +kernel
theorem dX5_isIn_30 : decode cX5_isIn 30 = .ok (.goto 4, 3) := by decide +kernel
theorem dX5_isIn_33 : decode cX5_isIn 33 = .ok (.iconst 0, 1) := by decide +kernel
theorem dX5_isIn_34 : decode cX5_isIn 34 = .ok (.ireturn, 1) := by decide +kernel
set_option maxRecDepth 20000 in
theorem ggX5_figure_X5_isRib : GoodIn wsX5_figure wsX5_isRib := goodIn_r _ [6, 7, 8, 5, 9, 10, 11, 12, 13, 14, 15, 44, 45, 46, 47, 48, 49, 50, 51, 52, 53, 54, 55, 56, 57, 58, 59, 60] (by decide +kernel) (by decide +kernel)
set_option maxRecDepth 20000 in
theorem gX5_figure_X5_isRib : GoodIn wsX5_figure (wsV RX5 71 RX5 yX5_isRib wsX5_isRib) := goodIn_app (goodIn_of _ (by decide +kernel)) ggX5_figure_X5_isRib
set_option maxRecDepth 20000 in
theorem ggX5_figure_X5_places : GoodIn wsX5_figure wsX5_places := goodIn_r _ [13, 14, 15, 44, 45, 46, 47, 48, 49, 50, 51, 52, 53, 54, 55, 56, 57, 58, 59, 60] (by decide +kernel) (by decide +kernel)
set_option maxRecDepth 20000 in
theorem gX5_figure_X5_places : GoodIn wsX5_figure (wsV RX5 67 RX5 yX5_places wsX5_places) := goodIn_app (goodIn_of _ (by decide +kernel)) ggX5_figure_X5_places
set_option maxRecDepth 20000 in
theorem ggX5_figure_X5_in : GoodIn wsX5_figure wsX5_in := goodIn_r _ [9] (by decide +kernel) (by decide +kernel)
set_option maxRecDepth 20000 in
theorem gX5_figure_X5_in : GoodIn wsX5_figure (va_wsS RX5 48 yX5_in wsX5_in) := goodIn_app (goodIn_of _ (by decide +kernel)) ggX5_figure_X5_in
set_option maxRecDepth 20000 in
theorem ggX5_figure_X5_isIn : GoodIn wsX5_figure wsX5_isIn := goodIn_r _ [19, 20, 21, 22, 5, 23, 24, 25, 26, 27, 28, 29, 30, 31, 32, 33, 34, 35, 36, 37, 38, 39, 40, 41, 42, 43, 1, 7, 8, 9, 44, 45, 46, 47, 48, 49, 50, 51, 52, 53, 54, 55, 56, 57, 58, 59, 60] (by decide +kernel) (by decide +kernel)
set_option maxRecDepth 20000 in
theorem gX5_figure_X5_isIn : GoodIn wsX5_figure (wsV RX5 89 RX5 yX5_isIn wsX5_isIn) := goodIn_app (goodIn_of _ (by decide +kernel)) ggX5_figure_X5_isIn
theorem dX5_figure_0 : decode cX5_figure 0 = .ok (.aload_n 0, 1) := by decide +kernel
theorem dX5_figure_1 : decode cX5_figure 1 = .ok (.iload_n 1, 1) := by decide +kernel
theorem dX5_figure_2 : decode cX5_figure 2 = .ok (.iload_n 2, 1) := by decide +kernel
theorem dX5_figure_3 : decode cX5_figure 3 = .ok (.invokevirtual 71, 3) := by decide +kernel
theorem dX5_figure_6 : decode cX5_figure 6 = .ok (.ifCond .eq 39, 3) := by decide +kernel
theorem dX5_figure_9 : decode cX5_figure 9 = .ok (.iload_n 3, 1) := by decide +kernel
theorem dX5_figure_10 : decode cX5_figure 10 = .ok (.i2l, 1) := by decide +kernel
theorem dX5_figure_11 : decode cX5_figure 11 = .ok (.lconst 0, 1) := by decide +kernel
theorem dX5_figure_12 : decode cX5_figure 12 = .ok (.aload_n 0, 1) := by decide +kernel
theorem dX5_figure_13 : decode cX5_figure 13 = .ok (.iconst 1, 1) := by decide +kernel
theorem dX5_figure_14 : decode cX5_figure 14 = .ok (.iload_n 1, 1) := by decide +kernel
theorem dX5_figure_15 : decode cX5_figure 15 = .ok (.isub, 1) := by decide +kernel
theorem dX5_figure_16 : decode cX5_figure 16 = .ok (.invokevirtual 67, 3) := by decide +kernel
theorem dX5_figure_19 : decode cX5_figure 19 = .ok (.iconst 1, 1) := by decide +kernel
theorem dX5_figure_20 : decode cX5_figure 20 = .ok (.isub, 1) := by decide +kernel
theorem dX5_figure_21 : decode cX5_figure 21 = .ok (.i2l, 1) := by decide +kernel
theorem dX5_figure_22 : decode cX5_figure 22 = .ok (.invokestatic 48, 3) := by decide +kernel
theorem dX5_figure_25 : decode cX5_figure 25 = .ok (.ifCond .eq 20, 3) := by decide +kernel
theorem dX5_figure_28 : decode cX5_figure 28 = .ok (.iload 4, 2) := by decide +kernel
theorem dX5_figure_30 : decode cX5_figure 30 = .ok (.i2l, 1) := by decide +kernel
theorem dX5_figure_31 : decode cX5_figure 31 = .ok (.lconst 0, 1) := by decide +kernel
theorem dX5_figure_32 : decode cX5_figure 32 = .ok (.aload_n 0, 1) := by decide +kernel
theorem dX5_figure_33 : decode cX5_figure 33 = .ok (.getfield 16, 3) := by decide +kernel
theorem dX5_figure_36 : decode cX5_figure 36 = .ok (.iconst 1, 1) := by decide +kernel
theorem dX5_figure_37 : decode cX5_figure 37 = .ok (.isub, 1) := by decide +kernel
theorem dX5_figure_38 : decode cX5_figure 38 = .ok (.i2l, 1) := by decide +kernel
theorem dX5_figure_39 : decode cX5_figure 39 = .ok (.invokestatic 48, 3) := by decide +kernel
theorem dX5_figure_42 : decode cX5_figure 42 = .ok (.ifCond .ne 5, 3) := by decide +kernel
theorem dX5_figure_45 : decode cX5_figure 45 = .ok (.iconst (-1), 1) := by decide +kernel
theorem dX5_figure_46 : decode cX5_figure 46 = .ok (.ireturn, 1) := by decide +kernel
theorem dX5_figure_47 : decode cX5_figure 47 = .ok (.aload_n 0, 1) := by decide +kernel
theorem dX5_figure_48 : decode cX5_figure 48 = .ok (.iload_n 1, 1) := by decide +kernel
theorem dX5_figure_49 : decode cX5_figure 49 = .ok (.iload_n 2, 1) := by decide +kernel
theorem dX5_figure_50 : decode cX5_figure 50 = .ok (.iload_n 3, 1) := by decide +kernel
theorem dX5_figure_51 : decode cX5_figure 51 = .ok (.iload 4, 2) := by decide +kernel
theorem dX5_figure_53 : decode cX5_figure 53 = .ok (.iload 5, 2) := by decide +kernel
theorem dX5_figure_55 : decode cX5_figure 55 = .ok (.invokevirtual 89, 3) := by decide +kernel
theorem dX5_figure_58 : decode cX5_figure 58 = .ok (.ifCond .eq 7, 3) := by decide +kernel
theorem dX5_figure_61 : decode cX5_figure 61 = .ok (.iconst 1, 1) := by decide +kernel
theorem dX5_figure_62 : decode cX5_figure 62 = .ok (.goto 4, 3) := by decide +kernel
theorem dX5_figure_65 : decode cX5_figure 65 = .ok (.iconst 0, 1) := by decide +kernel
theorem dX5_figure_66 : decode cX5_figure 66 = .ok (.ireturn, 1) := by decide +kernel
set_option maxRecDepth 20000 in
theorem ggX5_findParts_X5_places : GoodIn wsX5_findParts wsX5_places := goodIn_r _ [9, 10, 11, 47, 48, 49, 50, 51, 52, 53, 54, 55, 56, 57, 58, 59, 60, 61, 62, 63] (by decide +kernel) (by decide +kernel)
set_option maxRecDepth 20000 in
theorem gX5_findParts_X5_places : GoodIn wsX5_findParts (wsV RX5 67 RX5 yX5_places wsX5_places) := goodIn_app (goodIn_of _ (by decide +kernel)) ggX5_findParts_X5_places
set_option maxRecDepth 20000 in
theorem ggX5_findParts_X5_isIn : GoodIn wsX5_findParts wsX5_isIn := goodIn_r _ [15, 16, 17, 18, 8, 19, 20, 21, 22, 23, 24, 25, 26, 27, 28, 29, 30, 31, 32, 33, 34, 35, 36, 37, 38, 39, 2, 40, 41, 42, 47, 48, 49, 50, 51, 52, 53, 54, 55, 56, 57, 58, 59, 60, 61, 62, 63] (by decide +kernel) (by decide +kernel)
set_option maxRecDepth 20000 in
theorem gX5_findParts_X5_isIn : GoodIn wsX5_findParts (wsV RX5 89 RX5 yX5_isIn wsX5_isIn) := goodIn_app (goodIn_of _ (by decide +kernel)) ggX5_findParts_X5_isIn
set_option maxRecDepth 20000 in
theorem ggX5_findParts_X5_meet : GoodIn wsX5_findParts wsX5_meet := goodIn_r _ [46, 3, 47, 48, 49, 50, 51, 52, 53, 54, 55, 56, 57, 58, 59, 60, 61, 62, 63] (by decide +kernel) (by decide +kernel)
set_option maxRecDepth 20000 in
theorem gX5_findParts_X5_meet : GoodIn wsX5_findParts (wsV RX5 96 RX5 yX5_meet wsX5_meet) := goodIn_app (goodIn_of _ (by decide +kernel)) ggX5_findParts_X5_meet
theorem dX5_findParts_0 : decode cX5_findParts 0 = .ok (.aload_n 0, 1) := by decide +kernel
theorem dX5_findParts_1 : decode cX5_findParts 1 = .ok (.iconst 0, 1) := by decide +kernel
theorem dX5_findParts_2 : decode cX5_findParts 2 = .ok (.putfield 93, 3) := by decide +kernel
theorem dX5_findParts_5 : decode cX5_findParts 5 = .ok (.iconst 0, 1) := by decide +kernel
theorem dX5_findParts_6 : decode cX5_findParts 6 = .ok (.istore 4, 2) := by decide +kernel
theorem dX5_findParts_8 : decode cX5_findParts 8 = .ok (.iload 4, 2) := by decide +kernel
theorem dX5_findParts_10 : decode cX5_findParts 10 = .ok (.bipush 8, 2) := by decide +kernel
theorem dX5_findParts_12 : decode cX5_findParts 12 = .ok (.if_icmp .ge 118, 3) := by decide +kernel
theorem dX5_findParts_15 : decode cX5_findParts 15 = .ok (.iconst 0, 1) := by decide +kernel
theorem dX5_findParts_16 : decode cX5_findParts 16 = .ok (.istore 5, 2) := by decide +kernel
theorem dX5_findParts_18 : decode cX5_findParts 18 = .ok (.iload 5, 2) := by decide +kernel
theorem dX5_findParts_20 : decode cX5_findParts 20 = .ok (.bipush 8, 2) := by decide +kernel
theorem dX5_findParts_22 : decode cX5_findParts 22 = .ok (.if_icmp .ge 102, 3) := by decide +kernel
theorem dX5_findParts_25 : decode cX5_findParts 25 = .ok (.iload 4, 2) := by decide +kernel
theorem dX5_findParts_27 : decode cX5_findParts 27 = .ok (.aload_n 0, 1) := by decide +kernel
theorem dX5_findParts_28 : decode cX5_findParts 28 = .ok (.iconst 1, 1) := by decide +kernel
theorem dX5_findParts_29 : decode cX5_findParts 29 = .ok (.iload_n 1, 1) := by decide +kernel
theorem dX5_findParts_30 : decode cX5_findParts 30 = .ok (.isub, 1) := by decide +kernel
theorem dX5_findParts_31 : decode cX5_findParts 31 = .ok (.invokevirtual 67, 3) := by decide +kernel
theorem dX5_findParts_34 : decode cX5_findParts 34 = .ok (.if_icmp .ge 30, 3) := by decide +kernel
theorem dX5_findParts_37 : decode cX5_findParts 37 = .ok (.iload 5, 2) := by decide +kernel
theorem dX5_findParts_39 : decode cX5_findParts 39 = .ok (.aload_n 0, 1) := by decide +kernel
theorem dX5_findParts_40 : decode cX5_findParts 40 = .ok (.getfield 16, 3) := by decide +kernel
theorem dX5_findParts_43 : decode cX5_findParts 43 = .ok (.if_icmp .ge 21, 3) := by decide +kernel
theorem dX5_findParts_46 : decode cX5_findParts 46 = .ok (.aload_n 0, 1) := by decide +kernel
theorem dX5_findParts_47 : decode cX5_findParts 47 = .ok (.iload_n 1, 1) := by decide +kernel
theorem dX5_findParts_48 : decode cX5_findParts 48 = .ok (.iload_n 2, 1) := by decide +kernel
theorem dX5_findParts_49 : decode cX5_findParts 49 = .ok (.iload 4, 2) := by decide +kernel
theorem dX5_findParts_51 : decode cX5_findParts 51 = .ok (.iload 5, 2) := by decide +kernel
theorem dX5_findParts_53 : decode cX5_findParts 53 = .ok (.iload_n 3, 1) := by decide +kernel
theorem dX5_findParts_54 : decode cX5_findParts 54 = .ok (.invokevirtual 89, 3) := by decide +kernel
theorem dX5_findParts_57 : decode cX5_findParts 57 = .ok (.ifCond .eq 7, 3) := by decide +kernel
theorem dX5_findParts_60 : decode cX5_findParts 60 = .ok (.iconst 1, 1) := by decide +kernel
theorem dX5_findParts_61 : decode cX5_findParts 61 = .ok (.goto 4, 3) := by decide +kernel
theorem dX5_findParts_64 : decode cX5_findParts 64 = .ok (.iconst 0, 1) := by decide +kernel
theorem dX5_findParts_65 : decode cX5_findParts 65 = .ok (.istore 6, 2) := by decide +kernel
theorem dX5_findParts_67 : decode cX5_findParts 67 = .ok (.aload_n 0, 1) := by decide +kernel
theorem dX5_findParts_68 : decode cX5_findParts 68 = .ok (.getfield 33, 3) := by decide +kernel
theorem dX5_findParts_71 : decode cX5_findParts 71 = .ok (.bipush 8, 2) := by decide +kernel
theorem dX5_findParts_73 : decode cX5_findParts 73 = .ok (.iload 4, 2) := by decide +kernel
theorem dX5_findParts_75 : decode cX5_findParts 75 = .ok (.imul, 1) := by decide +kernel
theorem dX5_findParts_76 : decode cX5_findParts 76 = .ok (.iload 5, 2) := by decide +kernel
theorem dX5_findParts_78 : decode cX5_findParts 78 = .ok (.iadd, 1) := by decide +kernel
theorem dX5_findParts_79 : decode cX5_findParts 79 = .ok (.iload 6, 2) := by decide +kernel
theorem dX5_findParts_81 : decode cX5_findParts 81 = .ok (.ifCond .eq 16, 3) := by decide +kernel
theorem dX5_findParts_84 : decode cX5_findParts 84 = .ok (.bipush 8, 2) := by decide +kernel
theorem dX5_findParts_86 : decode cX5_findParts 86 = .ok (.iload 4, 2) := by decide +kernel
theorem dX5_findParts_88 : decode cX5_findParts 88 = .ok (.imul, 1) := by decide +kernel
theorem dX5_findParts_89 : decode cX5_findParts 89 = .ok (.iload 5, 2) := by decide +kernel
theorem dX5_findParts_91 : decode cX5_findParts 91 = .ok (.iadd, 1) := by decide +kernel
theorem dX5_findParts_92 : decode cX5_findParts 92 = .ok (.iconst 1, 1) := by decide +kernel
theorem dX5_findParts_93 : decode cX5_findParts 93 = .ok (.iadd, 1) := by decide +kernel
theorem dX5_findParts_94 : decode cX5_findParts 94 = .ok (.goto 4, 3) := by decide +kernel
theorem dX5_findParts_97 : decode cX5_findParts 97 = .ok (.iconst 0, 1) := by decide +kernel
theorem dX5_findParts_98 : decode cX5_findParts 98 = .ok (.iastore, 1) := by decide +kernel
theorem dX5_findParts_99 : decode cX5_findParts 99 = .ok (.aload_n 0, 1) := by decide +kernel
theorem dX5_findParts_100 : decode cX5_findParts 100 = .ok (.dup, 1) := by decide +kernel
theorem dX5_findParts_101 : decode cX5_findParts 101 = .ok (.getfield 93, 3) := by decide +kernel
theorem dX5_findParts_104 : decode cX5_findParts 104 = .ok (.iload 6, 2) := by decide +kernel
theorem dX5_findParts_106 : decode cX5_findParts 106 = .ok (.ifCond .eq 7, 3) := by decide +kernel
theorem dX5_findParts_109 : decode cX5_findParts 109 = .ok (.iconst 1, 1) := by decide +kernel
theorem dX5_findParts_110 : decode cX5_findParts 110 = .ok (.goto 4, 3) := by decide +kernel
theorem dX5_findParts_113 : decode cX5_findParts 113 = .ok (.iconst 0, 1) := by decide +kernel
theorem dX5_findParts_114 : decode cX5_findParts 114 = .ok (.iadd, 1) := by decide +kernel
theorem dX5_findParts_115 : decode cX5_findParts 115 = .ok (.putfield 93, 3) := by decide +kernel
theorem dX5_findParts_118 : decode cX5_findParts 118 = .ok (.iinc 5 1, 3) := by decide +kernel
theorem dX5_findParts_121 : decode cX5_findParts 121 = .ok (.goto (-103), 3) := by decide +kernel
theorem dX5_findParts_124 : decode cX5_findParts 124 = .ok (.iinc 4 1, 3) := by decide +kernel
theorem dX5_findParts_127 : decode cX5_findParts 127 = .ok (.goto (-119), 3) := by decide +kernel
theorem dX5_findParts_130 : decode cX5_findParts 130 = .ok (.iconst 1, 1) := by decide +kernel
theorem dX5_findParts_131 : decode cX5_findParts 131 = .ok (.istore 4, 2) := by decide +kernel
theorem dX5_findParts_133 : decode cX5_findParts 133 = .ok (.iload 4, 2) := by decide +kernel
theorem dX5_findParts_135 : decode cX5_findParts 135 = .ok (.ifCond .eq 93, 3) := by decide +kernel
theorem dX5_findParts_138 : decode cX5_findParts 138 = .ok (.iconst 0, 1) := by decide +kernel
theorem dX5_findParts_139 : decode cX5_findParts 139 = .ok (.istore 4, 2) := by decide +kernel
theorem dX5_findParts_141 : decode cX5_findParts 141 = .ok (.iconst 0, 1) := by decide +kernel
theorem dX5_findParts_142 : decode cX5_findParts 142 = .ok (.istore 5, 2) := by decide +kernel
theorem dX5_findParts_144 : decode cX5_findParts 144 = .ok (.iload 5, 2) := by decide +kernel
theorem dX5_findParts_146 : decode cX5_findParts 146 = .ok (.bipush 64, 2) := by decide +kernel
theorem dX5_findParts_148 : decode cX5_findParts 148 = .ok (.if_icmp .ge 77, 3) := by decide +kernel
theorem dX5_findParts_151 : decode cX5_findParts 151 = .ok (.iload 5, 2) := by decide +kernel
theorem dX5_findParts_153 : decode cX5_findParts 153 = .ok (.bipush 8, 2) := by decide +kernel
theorem dX5_findParts_155 : decode cX5_findParts 155 = .ok (.irem, 1) := by decide +kernel
theorem dX5_findParts_156 : decode cX5_findParts 156 = .ok (.bipush 7, 2) := by decide +kernel
theorem dX5_findParts_158 : decode cX5_findParts 158 = .ok (.if_icmp .ge 16, 3) := by decide +kernel
theorem dX5_findParts_161 : decode cX5_findParts 161 = .ok (.aload_n 0, 1) := by decide +kernel
theorem dX5_findParts_162 : decode cX5_findParts 162 = .ok (.iload 5, 2) := by decide +kernel
theorem dX5_findParts_164 : decode cX5_findParts 164 = .ok (.iload 5, 2) := by decide +kernel
theorem dX5_findParts_166 : decode cX5_findParts 166 = .ok (.iconst 1, 1) := by decide +kernel
theorem dX5_findParts_167 : decode cX5_findParts 167 = .ok (.iadd, 1) := by decide +kernel
theorem dX5_findParts_168 : decode cX5_findParts 168 = .ok (.invokevirtual 96, 3) := by decide +kernel
theorem dX5_findParts_171 : decode cX5_findParts 171 = .ok (.ifCond .ne 8, 3) := by decide +kernel
theorem dX5_findParts_174 : decode cX5_findParts 174 = .ok (.iload 4, 2) := by decide +kernel
theorem dX5_findParts_176 : decode cX5_findParts 176 = .ok (.ifCond .eq 7, 3) := by decide +kernel
theorem dX5_findParts_179 : decode cX5_findParts 179 = .ok (.iconst 1, 1) := by decide +kernel
theorem dX5_findParts_180 : decode cX5_findParts 180 = .ok (.goto 4, 3) := by decide +kernel
theorem dX5_findParts_183 : decode cX5_findParts 183 = .ok (.iconst 0, 1) := by decide +kernel
theorem dX5_findParts_184 : decode cX5_findParts 184 = .ok (.istore 4, 2) := by decide +kernel
theorem dX5_findParts_186 : decode cX5_findParts 186 = .ok (.iload 5, 2) := by decide +kernel
theorem dX5_findParts_188 : decode cX5_findParts 188 = .ok (.bipush 56, 2) := by decide +kernel
theorem dX5_findParts_190 : decode cX5_findParts 190 = .ok (.if_icmp .ge 17, 3) := by decide +kernel
theorem dX5_findParts_193 : decode cX5_findParts 193 = .ok (.aload_n 0, 1) := by decide +kernel
theorem dX5_findParts_194 : decode cX5_findParts 194 = .ok (.iload 5, 2) := by decide +kernel
theorem dX5_findParts_196 : decode cX5_findParts 196 = .ok (.iload 5, 2) := by decide +kernel
theorem dX5_findParts_198 : decode cX5_findParts 198 = .ok (.bipush 8, 2) := by decide +kernel
theorem dX5_findParts_200 : decode cX5_findParts 200 = .ok (.iadd, 1) := by decide +kernel
theorem dX5_findParts_201 : decode cX5_findParts 201 = .ok (.invokevirtual 96, 3) := by decide +kernel
theorem dX5_findParts_204 : decode cX5_findParts 204 = .ok (.ifCond .ne 8, 3) := by decide +kernel
theorem dX5_findParts_207 : decode cX5_findParts 207 = .ok (.iload 4, 2) := by decide +kernel
theorem dX5_findParts_209 : decode cX5_findParts 209 = .ok (.ifCond .eq 7, 3) := by decide +kernel
theorem dX5_findParts_212 : decode cX5_findParts 212 = .ok (.iconst 1, 1) := by decide +kernel
theorem dX5_findParts_213 : decode cX5_findParts 213 = .ok (.goto 4, 3) := by decide +kernel
theorem dX5_findParts_216 : decode cX5_findParts 216 = .ok (.iconst 0, 1) := by decide +kernel
theorem dX5_findParts_217 : decode cX5_findParts 217 = .ok (.istore 4, 2) := by decide +kernel
theorem dX5_findParts_219 : decode cX5_findParts 219 = .ok (.iinc 5 1, 3) := by decide +kernel
theorem dX5_findParts_222 : decode cX5_findParts 222 = .ok (.goto (-78), 3) := by decide +kernel
theorem dX5_findParts_225 : decode cX5_findParts 225 = .ok (.goto (-92), 3) := by decide +kernel
theorem dX5_findParts_228 : decode cX5_findParts 228 = .ok (.aload_n 0, 1) := by decide +kernel
theorem dX5_findParts_229 : decode cX5_findParts 229 = .ok (.iconst 0, 1) := by decide +kernel
theorem dX5_findParts_230 : decode cX5_findParts 230 = .ok (.putfield 99, 3) := by decide +kernel
theorem dX5_findParts_233 : decode cX5_findParts 233 = .ok (.iconst 0, 1) := by decide +kernel
theorem dX5_findParts_234 : decode cX5_findParts 234 = .ok (.istore 5, 2) := by decide +kernel
theorem dX5_findParts_236 : decode cX5_findParts 236 = .ok (.iload 5, 2) := by decide +kernel
theorem dX5_findParts_238 : decode cX5_findParts 238 = .ok (.bipush 64, 2) := by decide +kernel
theorem dX5_findParts_240 : decode cX5_findParts 240 = .ok (.if_icmp .ge 37, 3) := by decide +kernel
theorem dX5_findParts_243 : decode cX5_findParts 243 = .ok (.aload_n 0, 1) := by decide +kernel
theorem dX5_findParts_244 : decode cX5_findParts 244 = .ok (.dup, 1) := by decide +kernel
theorem dX5_findParts_245 : decode cX5_findParts 245 = .ok (.getfield 99, 3) := by decide +kernel
theorem dX5_findParts_248 : decode cX5_findParts 248 = .ok (.aload_n 0, 1) := by decide +kernel
theorem dX5_findParts_249 : decode cX5_findParts 249 = .ok (.getfield 33, 3) := by decide +kernel
theorem dX5_findParts_252 : decode cX5_findParts 252 = .ok (.iload 5, 2) := by decide +kernel
theorem dX5_findParts_254 : decode cX5_findParts 254 = .ok (.iaload, 1) := by decide +kernel
theorem dX5_findParts_255 : decode cX5_findParts 255 = .ok (.iload 5, 2) := by decide +kernel
theorem dX5_findParts_257 : decode cX5_findParts 257 = .ok (.iconst 1, 1) := by decide +kernel
theorem dX5_findParts_258 : decode cX5_findParts 258 = .ok (.iadd, 1) := by decide +kernel
theorem dX5_findParts_259 : decode cX5_findParts 259 = .ok (.if_icmp .ne 7, 3) := by decide +kernel
theorem dX5_findParts_262 : decode cX5_findParts 262 = .ok (.iconst 1, 1) := by decide +kernel
theorem dX5_findParts_263 : decode cX5_findParts 263 = .ok (.goto 4, 3) := by decide +kernel
theorem dX5_findParts_266 : decode cX5_findParts 266 = .ok (.iconst 0, 1) := by decide +kernel
theorem dX5_findParts_267 : decode cX5_findParts 267 = .ok (.iadd, 1) := by decide +kernel
theorem dX5_findParts_268 : decode cX5_findParts 268 = .ok (.putfield 99, 3) := by decide +kernel
theorem dX5_findParts_271 : decode cX5_findParts 271 = .ok (.iinc 5 1, 3) := by decide +kernel
theorem dX5_findParts_274 : decode cX5_findParts 274 = .ok (.goto (-38), 3) := by decide +kernel
theorem dX5_findParts_277 : decode cX5_findParts 277 = .ok (.return_, 1) := by decide +kernel
theorem dX5_meet_0 : decode cX5_meet 0 = .ok (.aload_n 0, 1) := by decide +kernel
theorem dX5_meet_1 : decode cX5_meet 1 = .ok (.getfield 33, 3) := by decide +kernel
theorem dX5_meet_4 : decode cX5_meet 4 = .ok (.iload_n 1, 1) := by decide +kernel
theorem dX5_meet_5 : decode cX5_meet 5 = .ok (.iaload, 1) := by decide +kernel
theorem dX5_meet_6 : decode cX5_meet 6 = .ok (.ifCond .eq 27, 3) := by decide +kernel
theorem dX5_meet_9 : decode cX5_meet 9 = .ok (.aload_n 0, 1) := by decide +kernel
theorem dX5_meet_10 : decode cX5_meet 10 = .ok (.getfield 33, 3) := by decide +kernel
theorem dX5_meet_13 : decode cX5_meet 13 = .ok (.iload_n 2, 1) := by decide +kernel
theorem dX5_meet_14 : decode cX5_meet 14 = .ok (.iaload, 1) := by decide +kernel
theorem dX5_meet_15 : decode cX5_meet 15 = .ok (.ifCond .eq 18, 3) := by decide +kernel
theorem dX5_meet_18 : decode cX5_meet 18 = .ok (.aload_n 0, 1) := by decide +kernel
theorem dX5_meet_19 : decode cX5_meet 19 = .ok (.getfield 33, 3) := by decide +kernel
theorem dX5_meet_22 : decode cX5_meet 22 = .ok (.iload_n 1, 1) := by decide +kernel
theorem dX5_meet_23 : decode cX5_meet 23 = .ok (.iaload, 1) := by decide +kernel
theorem dX5_meet_24 : decode cX5_meet 24 = .ok (.aload_n 0, 1) := by decide +kernel
theorem dX5_meet_25 : decode cX5_meet 25 = .ok (.getfield 33, 3) := by decide +kernel
theorem dX5_meet_28 : decode cX5_meet 28 = .ok (.iload_n 2, 1) := by decide +kernel
theorem dX5_meet_29 : decode cX5_meet 29 = .ok (.iaload, 1) := by decide +kernel
theorem dX5_meet_30 : decode cX5_meet 30 = .ok (.if_icmp .ne 5, 3) := by decide +kernel
theorem dX5_meet_33 : decode cX5_meet 33 = .ok (.iconst 0, 1) := by decide +kernel
theorem dX5_meet_34 : decode cX5_meet 34 = .ok (.ireturn, 1) := by decide +kernel
theorem dX5_meet_35 : decode cX5_meet 35 = .ok (.aload_n 0, 1) := by decide +kernel
theorem dX5_meet_36 : decode cX5_meet 36 = .ok (.getfield 33, 3) := by decide +kernel
theorem dX5_meet_39 : decode cX5_meet 39 = .ok (.iload_n 1, 1) := by decide +kernel
theorem dX5_meet_40 : decode cX5_meet 40 = .ok (.iaload, 1) := by decide +kernel
theorem dX5_meet_41 : decode cX5_meet 41 = .ok (.aload_n 0, 1) := by decide +kernel
theorem dX5_meet_42 : decode cX5_meet 42 = .ok (.getfield 33, 3) := by decide +kernel
theorem dX5_meet_45 : decode cX5_meet 45 = .ok (.iload_n 2, 1) := by decide +kernel
theorem dX5_meet_46 : decode cX5_meet 46 = .ok (.iaload, 1) := by decide +kernel
theorem dX5_meet_47 : decode cX5_meet 47 = .ok (.if_icmp .ge 12, 3) := by decide +kernel
theorem dX5_meet_50 : decode cX5_meet 50 = .ok (.aload_n 0, 1) := by decide +kernel
theorem dX5_meet_51 : decode cX5_meet 51 = .ok (.getfield 33, 3) := by decide +kernel
theorem dX5_meet_54 : decode cX5_meet 54 = .ok (.iload_n 1, 1) := by decide +kernel
theorem dX5_meet_55 : decode cX5_meet 55 = .ok (.iaload, 1) := by decide +kernel
theorem dX5_meet_56 : decode cX5_meet 56 = .ok (.goto 9, 3) := by decide +kernel
theorem dX5_meet_59 : decode cX5_meet 59 = .ok (.aload_n 0, 1) := by decide +kernel
theorem dX5_meet_60 : decode cX5_meet 60 = .ok (.getfield 33, 3) := by decide +kernel
theorem dX5_meet_63 : decode cX5_meet 63 = .ok (.iload_n 2, 1) := by decide +kernel
theorem dX5_meet_64 : decode cX5_meet 64 = .ok (.iaload, 1) := by decide +kernel
theorem dX5_meet_65 : decode cX5_meet 65 = .ok (.istore_n 3, 1) := by decide +kernel
theorem dX5_meet_66 : decode cX5_meet 66 = .ok (.aload_n 0, 1) := by decide +kernel
theorem dX5_meet_67 : decode cX5_meet 67 = .ok (.getfield 33, 3) := by decide +kernel
theorem dX5_meet_70 : decode cX5_meet 70 = .ok (.iload_n 1, 1) := by decide +kernel
theorem dX5_meet_71 : decode cX5_meet 71 = .ok (.iload_n 3, 1) := by decide +kernel
theorem dX5_meet_72 : decode cX5_meet 72 = .ok (.iastore, 1) := by decide +kernel
theorem dX5_meet_73 : decode cX5_meet 73 = .ok (.aload_n 0, 1) := by decide +kernel
theorem dX5_meet_74 : decode cX5_meet 74 = .ok (.getfield 33, 3) := by decide +kernel
theorem dX5_meet_77 : decode cX5_meet 77 = .ok (.iload_n 2, 1) := by decide +kernel
theorem dX5_meet_78 : decode cX5_meet 78 = .ok (.iload_n 3, 1) := by decide +kernel
theorem dX5_meet_79 : decode cX5_meet 79 = .ok (.iastore, 1) := by decide +kernel
theorem dX5_meet_80 : decode cX5_meet 80 = .ok (.iconst 1, 1) := by decide +kernel
theorem dX5_meet_81 : decode cX5_meet 81 = .ok (.ireturn, 1) := by decide +kernel
set_option maxRecDepth 20000 in
theorem ggX5_looseOf_X5_findParts : GoodIn wsX5_looseOf wsX5_findParts := goodIn_r _ [6, 7, 8, 1, 9, 10, 11, 12, 5, 13, 14, 15, 16, 17, 18, 19, 20, 21, 22, 23, 24, 25, 26, 27, 28, 29, 30, 31, 32, 33, 34, 35, 36, 37, 38, 39, 40, 41, 42, 43, 44, 45, 46, 47, 48, 49, 50, 51, 52, 53, 54, 55, 56, 57, 58, 59, 60, 61, 62, 63, 64, 65, 66, 67] (by decide +kernel) (by decide +kernel)
set_option maxRecDepth 20000 in
theorem gX5_looseOf_X5_findParts : GoodIn wsX5_looseOf (wsV RX5 102 RX5 yX5_findParts wsX5_findParts) := goodIn_app (goodIn_of _ (by decide +kernel)) ggX5_looseOf_X5_findParts
set_option maxRecDepth 20000 in
theorem ggX5_looseOf_X5_isChosen : GoodIn wsX5_looseOf wsX5_isChosen := goodIn_r _ [38, 39, 51, 52, 53, 54, 55, 56, 57, 58, 59, 60, 61, 62, 63, 64, 65, 66, 67] (by decide +kernel) (by decide +kernel)
set_option maxRecDepth 20000 in
theorem gX5_looseOf_X5_isChosen : GoodIn wsX5_looseOf (wsV RX5 75 RX5 yX5_isChosen wsX5_isChosen) := goodIn_app (goodIn_of _ (by decide +kernel)) ggX5_looseOf_X5_isChosen
theorem dX5_looseOf_0 : decode cX5_looseOf 0 = .ok (.aload_n 0, 1) := by decide +kernel
theorem dX5_looseOf_1 : decode cX5_looseOf 1 = .ok (.iload_n 1, 1) := by decide +kernel
theorem dX5_looseOf_2 : decode cX5_looseOf 2 = .ok (.iload_n 2, 1) := by decide +kernel
theorem dX5_looseOf_3 : decode cX5_looseOf 3 = .ok (.iconst 1, 1) := by decide +kernel
theorem dX5_looseOf_4 : decode cX5_looseOf 4 = .ok (.invokevirtual 102, 3) := by decide +kernel
theorem dX5_looseOf_7 : decode cX5_looseOf 7 = .ok (.iconst 0, 1) := by decide +kernel
theorem dX5_looseOf_8 : decode cX5_looseOf 8 = .ok (.istore_n 3, 1) := by decide +kernel
theorem dX5_looseOf_9 : decode cX5_looseOf 9 = .ok (.iconst 0, 1) := by decide +kernel
theorem dX5_looseOf_10 : decode cX5_looseOf 10 = .ok (.istore 4, 2) := by decide +kernel
theorem dX5_looseOf_12 : decode cX5_looseOf 12 = .ok (.iload 4, 2) := by decide +kernel
theorem dX5_looseOf_14 : decode cX5_looseOf 14 = .ok (.bipush 64, 2) := by decide +kernel
theorem dX5_looseOf_16 : decode cX5_looseOf 16 = .ok (.if_icmp .ge 105, 3) := by decide +kernel
theorem dX5_looseOf_19 : decode cX5_looseOf 19 = .ok (.aload_n 0, 1) := by decide +kernel
theorem dX5_looseOf_20 : decode cX5_looseOf 20 = .ok (.getfield 33, 3) := by decide +kernel
theorem dX5_looseOf_23 : decode cX5_looseOf 23 = .ok (.iload 4, 2) := by decide +kernel
theorem dX5_looseOf_25 : decode cX5_looseOf 25 = .ok (.iaload, 1) := by decide +kernel
theorem dX5_looseOf_26 : decode cX5_looseOf 26 = .ok (.iload 4, 2) := by decide +kernel
theorem dX5_looseOf_28 : decode cX5_looseOf 28 = .ok (.iconst 1, 1) := by decide +kernel
theorem dX5_looseOf_29 : decode cX5_looseOf 29 = .ok (.iadd, 1) := by decide +kernel
theorem dX5_looseOf_30 : decode cX5_looseOf 30 = .ok (.if_icmp .ne 85, 3) := by decide +kernel
theorem dX5_looseOf_33 : decode cX5_looseOf 33 = .ok (.iconst 0, 1) := by decide +kernel
theorem dX5_looseOf_34 : decode cX5_looseOf 34 = .ok (.istore 5, 2) := by decide +kernel
theorem dX5_looseOf_36 : decode cX5_looseOf 36 = .ok (.iconst 0, 1) := by decide +kernel
theorem dX5_looseOf_37 : decode cX5_looseOf 37 = .ok (.istore 6, 2) := by decide +kernel
theorem dX5_looseOf_39 : decode cX5_looseOf 39 = .ok (.iload 6, 2) := by decide +kernel
theorem dX5_looseOf_41 : decode cX5_looseOf 41 = .ok (.bipush 64, 2) := by decide +kernel
theorem dX5_looseOf_43 : decode cX5_looseOf 43 = .ok (.if_icmp .ge 59, 3) := by decide +kernel
theorem dX5_looseOf_46 : decode cX5_looseOf 46 = .ok (.iload 5, 2) := by decide +kernel
theorem dX5_looseOf_48 : decode cX5_looseOf 48 = .ok (.ifCond .ne 41, 3) := by decide +kernel
theorem dX5_looseOf_51 : decode cX5_looseOf 51 = .ok (.aload_n 0, 1) := by decide +kernel
theorem dX5_looseOf_52 : decode cX5_looseOf 52 = .ok (.getfield 33, 3) := by decide +kernel
theorem dX5_looseOf_55 : decode cX5_looseOf 55 = .ok (.iload 6, 2) := by decide +kernel
theorem dX5_looseOf_57 : decode cX5_looseOf 57 = .ok (.iaload, 1) := by decide +kernel
theorem dX5_looseOf_58 : decode cX5_looseOf 58 = .ok (.iload 4, 2) := by decide +kernel
theorem dX5_looseOf_60 : decode cX5_looseOf 60 = .ok (.iconst 1, 1) := by decide +kernel
theorem dX5_looseOf_61 : decode cX5_looseOf 61 = .ok (.iadd, 1) := by decide +kernel
theorem dX5_looseOf_62 : decode cX5_looseOf 62 = .ok (.if_icmp .ne 31, 3) := by decide +kernel
theorem dX5_looseOf_65 : decode cX5_looseOf 65 = .ok (.aload_n 0, 1) := by decide +kernel
theorem dX5_looseOf_66 : decode cX5_looseOf 66 = .ok (.iload_n 1, 1) := by decide +kernel
theorem dX5_looseOf_67 : decode cX5_looseOf 67 = .ok (.iload_n 2, 1) := by decide +kernel
theorem dX5_looseOf_68 : decode cX5_looseOf 68 = .ok (.invokevirtual 75, 3) := by decide +kernel
theorem dX5_looseOf_71 : decode cX5_looseOf 71 = .ok (.ifCond .eq 22, 3) := by decide +kernel
theorem dX5_looseOf_74 : decode cX5_looseOf 74 = .ok (.aload_n 0, 1) := by decide +kernel
theorem dX5_looseOf_75 : decode cX5_looseOf 75 = .ok (.iconst 1, 1) := by decide +kernel
theorem dX5_looseOf_76 : decode cX5_looseOf 76 = .ok (.iload_n 1, 1) := by decide +kernel
theorem dX5_looseOf_77 : decode cX5_looseOf 77 = .ok (.isub, 1) := by decide +kernel
theorem dX5_looseOf_78 : decode cX5_looseOf 78 = .ok (.iload 6, 2) := by decide +kernel
theorem dX5_looseOf_80 : decode cX5_looseOf 80 = .ok (.bipush 8, 2) := by decide +kernel
theorem dX5_looseOf_82 : decode cX5_looseOf 82 = .ok (.idiv, 1) := by decide +kernel
theorem dX5_looseOf_83 : decode cX5_looseOf 83 = .ok (.invokevirtual 75, 3) := by decide +kernel
theorem dX5_looseOf_86 : decode cX5_looseOf 86 = .ok (.ifCond .eq 7, 3) := by decide +kernel
theorem dX5_looseOf_89 : decode cX5_looseOf 89 = .ok (.iconst 1, 1) := by decide +kernel
theorem dX5_looseOf_90 : decode cX5_looseOf 90 = .ok (.goto 4, 3) := by decide +kernel
theorem dX5_looseOf_93 : decode cX5_looseOf 93 = .ok (.iconst 0, 1) := by decide +kernel
theorem dX5_looseOf_94 : decode cX5_looseOf 94 = .ok (.istore 5, 2) := by decide +kernel
theorem dX5_looseOf_96 : decode cX5_looseOf 96 = .ok (.iinc 6 1, 3) := by decide +kernel
theorem dX5_looseOf_99 : decode cX5_looseOf 99 = .ok (.goto (-60), 3) := by decide +kernel
theorem dX5_looseOf_102 : decode cX5_looseOf 102 = .ok (.iload_n 3, 1) := by decide +kernel
theorem dX5_looseOf_103 : decode cX5_looseOf 103 = .ok (.iload 5, 2) := by decide +kernel
theorem dX5_looseOf_105 : decode cX5_looseOf 105 = .ok (.ifCond .eq 7, 3) := by decide +kernel
theorem dX5_looseOf_108 : decode cX5_looseOf 108 = .ok (.iconst 0, 1) := by decide +kernel
theorem dX5_looseOf_109 : decode cX5_looseOf 109 = .ok (.goto 4, 3) := by decide +kernel
theorem dX5_looseOf_112 : decode cX5_looseOf 112 = .ok (.iconst 1, 1) := by decide +kernel
theorem dX5_looseOf_113 : decode cX5_looseOf 113 = .ok (.iadd, 1) := by decide +kernel
theorem dX5_looseOf_114 : decode cX5_looseOf 114 = .ok (.istore_n 3, 1) := by decide +kernel
theorem dX5_looseOf_115 : decode cX5_looseOf 115 = .ok (.iinc 4 1, 3) := by decide +kernel
theorem dX5_looseOf_118 : decode cX5_looseOf 118 = .ok (.goto (-106), 3) := by decide +kernel
theorem dX5_looseOf_121 : decode cX5_looseOf 121 = .ok (.iload_n 3, 1) := by decide +kernel
theorem dX5_looseOf_122 : decode cX5_looseOf 122 = .ok (.ireturn, 1) := by decide +kernel
set_option maxRecDepth 20000 in
theorem ggX5_crossings_X5_places : GoodIn wsX5_crossings wsX5_places := goodIn_r _ [5, 6, 7, 25, 26, 27, 28, 29, 30, 31, 32, 33, 34, 35, 36, 37, 38, 39, 40, 41] (by decide +kernel) (by decide +kernel)
set_option maxRecDepth 20000 in
theorem gX5_crossings_X5_places : GoodIn wsX5_crossings (wsV RX5 67 RX5 yX5_places wsX5_places) := goodIn_app (goodIn_of _ (by decide +kernel)) ggX5_crossings_X5_places
set_option maxRecDepth 20000 in
theorem ggX5_crossings_X5_isChosen : GoodIn wsX5_crossings wsX5_isChosen := goodIn_r _ [11, 12, 25, 26, 27, 28, 29, 30, 31, 32, 33, 34, 35, 36, 37, 38, 39, 40, 41] (by decide +kernel) (by decide +kernel)
set_option maxRecDepth 20000 in
theorem gX5_crossings_X5_isChosen : GoodIn wsX5_crossings (wsV RX5 75 RX5 yX5_isChosen wsX5_isChosen) := goodIn_app (goodIn_of _ (by decide +kernel)) ggX5_crossings_X5_isChosen
set_option maxRecDepth 20000 in
theorem ggX5_crossings_X5_findRuns : GoodIn wsX5_crossings wsX5_findRuns := goodIn_r _ [16, 17, 18, 19, 20, 21, 22, 4, 23, 24, 25, 26, 27, 28, 29, 30, 31, 32, 33, 34, 35, 36, 37, 38, 39, 40, 41] (by decide +kernel) (by decide +kernel)
set_option maxRecDepth 20000 in
theorem gX5_crossings_X5_findRuns : GoodIn wsX5_crossings (wsV RX5 78 RX5 yX5_findRuns wsX5_findRuns) := goodIn_app (goodIn_of _ (by decide +kernel)) ggX5_crossings_X5_findRuns
theorem dX5_crossings_0 : decode cX5_crossings 0 = .ok (.iconst 0, 1) := by decide +kernel
theorem dX5_crossings_1 : decode cX5_crossings 1 = .ok (.istore 4, 2) := by decide +kernel
theorem dX5_crossings_3 : decode cX5_crossings 3 = .ok (.iconst 0, 1) := by decide +kernel
theorem dX5_crossings_4 : decode cX5_crossings 4 = .ok (.istore 5, 2) := by decide +kernel
theorem dX5_crossings_6 : decode cX5_crossings 6 = .ok (.iload 5, 2) := by decide +kernel
theorem dX5_crossings_8 : decode cX5_crossings 8 = .ok (.aload_n 0, 1) := by decide +kernel
theorem dX5_crossings_9 : decode cX5_crossings 9 = .ok (.iconst 1, 1) := by decide +kernel
theorem dX5_crossings_10 : decode cX5_crossings 10 = .ok (.iload_n 1, 1) := by decide +kernel
theorem dX5_crossings_11 : decode cX5_crossings 11 = .ok (.isub, 1) := by decide +kernel
theorem dX5_crossings_12 : decode cX5_crossings 12 = .ok (.invokevirtual 67, 3) := by decide +kernel
theorem dX5_crossings_15 : decode cX5_crossings 15 = .ok (.if_icmp .ge 77, 3) := by decide +kernel
theorem dX5_crossings_18 : decode cX5_crossings 18 = .ok (.aload_n 0, 1) := by decide +kernel
theorem dX5_crossings_19 : decode cX5_crossings 19 = .ok (.iload_n 1, 1) := by decide +kernel
theorem dX5_crossings_20 : decode cX5_crossings 20 = .ok (.iload_n 2, 1) := by decide +kernel
theorem dX5_crossings_21 : decode cX5_crossings 21 = .ok (.invokevirtual 75, 3) := by decide +kernel
theorem dX5_crossings_24 : decode cX5_crossings 24 = .ok (.ifCond .eq 68, 3) := by decide +kernel
theorem dX5_crossings_27 : decode cX5_crossings 27 = .ok (.aload_n 0, 1) := by decide +kernel
theorem dX5_crossings_28 : decode cX5_crossings 28 = .ok (.iconst 1, 1) := by decide +kernel
theorem dX5_crossings_29 : decode cX5_crossings 29 = .ok (.iload_n 1, 1) := by decide +kernel
theorem dX5_crossings_30 : decode cX5_crossings 30 = .ok (.isub, 1) := by decide +kernel
theorem dX5_crossings_31 : decode cX5_crossings 31 = .ok (.iload 5, 2) := by decide +kernel
theorem dX5_crossings_33 : decode cX5_crossings 33 = .ok (.invokevirtual 75, 3) := by decide +kernel
theorem dX5_crossings_36 : decode cX5_crossings 36 = .ok (.ifCond .eq 50, 3) := by decide +kernel
theorem dX5_crossings_39 : decode cX5_crossings 39 = .ok (.iload_n 1, 1) := by decide +kernel
theorem dX5_crossings_40 : decode cX5_crossings 40 = .ok (.ifCond .ne 13, 3) := by decide +kernel
theorem dX5_crossings_43 : decode cX5_crossings 43 = .ok (.aload_n 0, 1) := by decide +kernel
theorem dX5_crossings_44 : decode cX5_crossings 44 = .ok (.iload_n 2, 1) := by decide +kernel
theorem dX5_crossings_45 : decode cX5_crossings 45 = .ok (.iload 5, 2) := by decide +kernel
theorem dX5_crossings_47 : decode cX5_crossings 47 = .ok (.invokevirtual 78, 3) := by decide +kernel
theorem dX5_crossings_50 : decode cX5_crossings 50 = .ok (.goto 10, 3) := by decide +kernel
theorem dX5_crossings_53 : decode cX5_crossings 53 = .ok (.aload_n 0, 1) := by decide +kernel
theorem dX5_crossings_54 : decode cX5_crossings 54 = .ok (.iload 5, 2) := by decide +kernel
theorem dX5_crossings_56 : decode cX5_crossings 56 = .ok (.iload_n 2, 1) := by decide +kernel
theorem dX5_crossings_57 : decode cX5_crossings 57 = .ok (.invokevirtual 78, 3) := by decide +kernel
theorem dX5_crossings_60 : decode cX5_crossings 60 = .ok (.istore 6, 2) := by decide +kernel
theorem dX5_crossings_62 : decode cX5_crossings 62 = .ok (.iload 4, 2) := by decide +kernel
theorem dX5_crossings_64 : decode cX5_crossings 64 = .ok (.iload_n 3, 1) := by decide +kernel
theorem dX5_crossings_65 : decode cX5_crossings 65 = .ok (.ifCond .eq 8, 3) := by decide +kernel
theorem dX5_crossings_68 : decode cX5_crossings 68 = .ok (.iload 6, 2) := by decide +kernel
theorem dX5_crossings_70 : decode cX5_crossings 70 = .ok (.goto 13, 3) := by decide +kernel
theorem dX5_crossings_73 : decode cX5_crossings 73 = .ok (.iload 6, 2) := by decide +kernel
theorem dX5_crossings_75 : decode cX5_crossings 75 = .ok (.ifCond .le 7, 3) := by decide +kernel
theorem dX5_crossings_78 : decode cX5_crossings 78 = .ok (.iconst 1, 1) := by decide +kernel
theorem dX5_crossings_79 : decode cX5_crossings 79 = .ok (.goto 4, 3) := by decide +kernel
theorem dX5_crossings_82 : decode cX5_crossings 82 = .ok (.iconst 0, 1) := by decide +kernel
theorem dX5_crossings_83 : decode cX5_crossings 83 = .ok (.iadd, 1) := by decide +kernel
theorem dX5_crossings_84 : decode cX5_crossings 84 = .ok (.istore 4, 2) := by decide +kernel
theorem dX5_crossings_86 : decode cX5_crossings 86 = .ok (.iinc 5 1, 3) := by decide +kernel
theorem dX5_crossings_89 : decode cX5_crossings 89 = .ok (.goto (-83), 3) := by decide +kernel
theorem dX5_crossings_92 : decode cX5_crossings 92 = .ok (.iload 4, 2) := by decide +kernel
theorem dX5_crossings_94 : decode cX5_crossings 94 = .ok (.ireturn, 1) := by decide +kernel
set_option maxRecDepth 20000 in
theorem ggX5_spanOf_X5_places : GoodIn wsX5_spanOf wsX5_places := goodIn_r _ [6, 7, 8, 18, 19, 20, 21, 22, 23, 24, 25, 26, 27, 28, 29, 30, 31, 32, 33, 34] (by decide +kernel) (by decide +kernel)
set_option maxRecDepth 20000 in
theorem gX5_spanOf_X5_places : GoodIn wsX5_spanOf (wsV RX5 67 RX5 yX5_places wsX5_places) := goodIn_app (goodIn_of _ (by decide +kernel)) ggX5_spanOf_X5_places
set_option maxRecDepth 20000 in
theorem ggX5_spanOf_X5_hasIn : GoodIn wsX5_spanOf wsX5_hasIn := goodIn_r _ [12, 13, 14, 15, 5, 16, 17, 18, 19, 20, 21, 22, 23, 24, 25, 26, 27, 28, 29, 30, 31, 32, 33, 34] (by decide +kernel) (by decide +kernel)
set_option maxRecDepth 20000 in
theorem gX5_spanOf_X5_hasIn : GoodIn wsX5_spanOf (wsV RX5 82 RX5 yX5_hasIn wsX5_hasIn) := goodIn_app (goodIn_of _ (by decide +kernel)) ggX5_spanOf_X5_hasIn
theorem dX5_spanOf_0 : decode cX5_spanOf 0 = .ok (.bipush 8, 2) := by decide +kernel
theorem dX5_spanOf_2 : decode cX5_spanOf 2 = .ok (.istore 4, 2) := by decide +kernel
theorem dX5_spanOf_4 : decode cX5_spanOf 4 = .ok (.iconst (-1), 1) := by decide +kernel
theorem dX5_spanOf_5 : decode cX5_spanOf 5 = .ok (.istore 5, 2) := by decide +kernel
theorem dX5_spanOf_7 : decode cX5_spanOf 7 = .ok (.iconst 0, 1) := by decide +kernel
theorem dX5_spanOf_8 : decode cX5_spanOf 8 = .ok (.istore 6, 2) := by decide +kernel
theorem dX5_spanOf_10 : decode cX5_spanOf 10 = .ok (.iload 6, 2) := by decide +kernel
theorem dX5_spanOf_12 : decode cX5_spanOf 12 = .ok (.aload_n 0, 1) := by decide +kernel
theorem dX5_spanOf_13 : decode cX5_spanOf 13 = .ok (.iconst 1, 1) := by decide +kernel
theorem dX5_spanOf_14 : decode cX5_spanOf 14 = .ok (.iload_n 1, 1) := by decide +kernel
theorem dX5_spanOf_15 : decode cX5_spanOf 15 = .ok (.isub, 1) := by decide +kernel
theorem dX5_spanOf_16 : decode cX5_spanOf 16 = .ok (.invokevirtual 67, 3) := by decide +kernel
theorem dX5_spanOf_19 : decode cX5_spanOf 19 = .ok (.if_icmp .ge 85, 3) := by decide +kernel
theorem dX5_spanOf_22 : decode cX5_spanOf 22 = .ok (.iconst 0, 1) := by decide +kernel
theorem dX5_spanOf_23 : decode cX5_spanOf 23 = .ok (.istore 7, 2) := by decide +kernel
theorem dX5_spanOf_25 : decode cX5_spanOf 25 = .ok (.iload 7, 2) := by decide +kernel
theorem dX5_spanOf_27 : decode cX5_spanOf 27 = .ok (.aload_n 0, 1) := by decide +kernel
theorem dX5_spanOf_28 : decode cX5_spanOf 28 = .ok (.getfield 16, 3) := by decide +kernel
theorem dX5_spanOf_31 : decode cX5_spanOf 31 = .ok (.if_icmp .ge 67, 3) := by decide +kernel
theorem dX5_spanOf_34 : decode cX5_spanOf 34 = .ok (.aload_n 0, 1) := by decide +kernel
theorem dX5_spanOf_35 : decode cX5_spanOf 35 = .ok (.iload_n 1, 1) := by decide +kernel
theorem dX5_spanOf_36 : decode cX5_spanOf 36 = .ok (.iload_n 2, 1) := by decide +kernel
theorem dX5_spanOf_37 : decode cX5_spanOf 37 = .ok (.iload 6, 2) := by decide +kernel
theorem dX5_spanOf_39 : decode cX5_spanOf 39 = .ok (.iload 7, 2) := by decide +kernel
theorem dX5_spanOf_41 : decode cX5_spanOf 41 = .ok (.invokevirtual 82, 3) := by decide +kernel
theorem dX5_spanOf_44 : decode cX5_spanOf 44 = .ok (.ifCond .eq 48, 3) := by decide +kernel
theorem dX5_spanOf_47 : decode cX5_spanOf 47 = .ok (.iload_n 3, 1) := by decide +kernel
theorem dX5_spanOf_48 : decode cX5_spanOf 48 = .ok (.ifCond .ne 8, 3) := by decide +kernel
theorem dX5_spanOf_51 : decode cX5_spanOf 51 = .ok (.iload 6, 2) := by decide +kernel
theorem dX5_spanOf_53 : decode cX5_spanOf 53 = .ok (.goto 5, 3) := by decide +kernel
theorem dX5_spanOf_56 : decode cX5_spanOf 56 = .ok (.iload 7, 2) := by decide +kernel
theorem dX5_spanOf_58 : decode cX5_spanOf 58 = .ok (.istore 8, 2) := by decide +kernel
theorem dX5_spanOf_60 : decode cX5_spanOf 60 = .ok (.iload 8, 2) := by decide +kernel
theorem dX5_spanOf_62 : decode cX5_spanOf 62 = .ok (.iload 4, 2) := by decide +kernel
theorem dX5_spanOf_64 : decode cX5_spanOf 64 = .ok (.if_icmp .ge 8, 3) := by decide +kernel
theorem dX5_spanOf_67 : decode cX5_spanOf 67 = .ok (.iload 8, 2) := by decide +kernel
theorem dX5_spanOf_69 : decode cX5_spanOf 69 = .ok (.goto 5, 3) := by decide +kernel
theorem dX5_spanOf_72 : decode cX5_spanOf 72 = .ok (.iload 4, 2) := by decide +kernel
theorem dX5_spanOf_74 : decode cX5_spanOf 74 = .ok (.istore 4, 2) := by decide +kernel
theorem dX5_spanOf_76 : decode cX5_spanOf 76 = .ok (.iload 8, 2) := by decide +kernel
theorem dX5_spanOf_78 : decode cX5_spanOf 78 = .ok (.iload 5, 2) := by decide +kernel
theorem dX5_spanOf_80 : decode cX5_spanOf 80 = .ok (.if_icmp .le 8, 3) := by decide +kernel
theorem dX5_spanOf_83 : decode cX5_spanOf 83 = .ok (.iload 8, 2) := by decide +kernel
theorem dX5_spanOf_85 : decode cX5_spanOf 85 = .ok (.goto 5, 3) := by decide +kernel
theorem dX5_spanOf_88 : decode cX5_spanOf 88 = .ok (.iload 5, 2) := by decide +kernel
theorem dX5_spanOf_90 : decode cX5_spanOf 90 = .ok (.istore 5, 2) := by decide +kernel
theorem dX5_spanOf_92 : decode cX5_spanOf 92 = .ok (.iinc 7 1, 3) := by decide +kernel
theorem dX5_spanOf_95 : decode cX5_spanOf 95 = .ok (.goto (-70), 3) := by decide +kernel
theorem dX5_spanOf_98 : decode cX5_spanOf 98 = .ok (.iinc 6 1, 3) := by decide +kernel
theorem dX5_spanOf_101 : decode cX5_spanOf 101 = .ok (.goto (-91), 3) := by decide +kernel
theorem dX5_spanOf_104 : decode cX5_spanOf 104 = .ok (.iload 5, 2) := by decide +kernel
theorem dX5_spanOf_106 : decode cX5_spanOf 106 = .ok (.ifCond .ge 7, 3) := by decide +kernel
theorem dX5_spanOf_109 : decode cX5_spanOf 109 = .ok (.iconst 0, 1) := by decide +kernel
theorem dX5_spanOf_110 : decode cX5_spanOf 110 = .ok (.goto 10, 3) := by decide +kernel
theorem dX5_spanOf_113 : decode cX5_spanOf 113 = .ok (.iload 5, 2) := by decide +kernel
theorem dX5_spanOf_115 : decode cX5_spanOf 115 = .ok (.iload 4, 2) := by decide +kernel
theorem dX5_spanOf_117 : decode cX5_spanOf 117 = .ok (.isub, 1) := by decide +kernel
theorem dX5_spanOf_118 : decode cX5_spanOf 118 = .ok (.iconst 1, 1) := by decide +kernel
theorem dX5_spanOf_119 : decode cX5_spanOf 119 = .ok (.iadd, 1) := by decide +kernel
theorem dX5_spanOf_120 : decode cX5_spanOf 120 = .ok (.ireturn, 1) := by decide +kernel
set_option maxRecDepth 20000 in
theorem ggX5_about_X5_isRib : GoodIn wsX5_about wsX5_isRib := goodIn_r _ [7, 8, 9, 6, 10, 11, 12, 13, 14, 15, 16, 67, 68, 69, 70, 71, 72, 73, 74, 75, 76, 77, 78, 79, 80, 81, 82, 83] (by decide +kernel) (by decide +kernel)
set_option maxRecDepth 20000 in
theorem gX5_about_X5_isRib : GoodIn wsX5_about (wsV RX5 71 RX5 yX5_isRib wsX5_isRib) := goodIn_app (goodIn_of _ (by decide +kernel)) ggX5_about_X5_isRib
set_option maxRecDepth 20000 in
theorem ggX5_about_X5_findParts : GoodIn wsX5_about wsX5_findParts := goodIn_r _ [20, 1, 21, 22, 2, 11, 12, 13, 6, 14, 15, 16, 23, 24, 25, 26, 27, 28, 29, 30, 31, 32, 33, 34, 35, 36, 37, 38, 39, 40, 41, 42, 43, 44, 45, 46, 47, 48, 49, 50, 8, 9, 10, 51, 52, 53, 54, 67, 68, 69, 70, 71, 72, 73, 74, 75, 76, 77, 78, 79, 80, 81, 82, 83] (by decide +kernel) (by decide +kernel)
set_option maxRecDepth 20000 in
theorem gX5_about_X5_findParts : GoodIn wsX5_about (wsV RX5 102 RX5 yX5_findParts wsX5_findParts) := goodIn_app (goodIn_of _ (by decide +kernel)) ggX5_about_X5_findParts
set_option maxRecDepth 20000 in
theorem ggX5_about_X5_looseOf : GoodIn wsX5_about wsX5_looseOf := goodIn_r _ [58, 22, 17, 18, 19, 6, 20, 1, 21, 2, 11, 12, 13, 14, 15, 16, 23, 24, 25, 26, 27, 28, 29, 30, 31, 32, 33, 34, 35, 36, 37, 38, 39, 40, 41, 42, 43, 44, 45, 46, 47, 48, 49, 50, 8, 9, 10, 51, 52, 53, 54, 67, 68, 69, 70, 71, 72, 73, 74, 75, 76, 77, 78, 79, 80, 81, 82, 83] (by decide +kernel) (by decide +kernel)
set_option maxRecDepth 20000 in
theorem gX5_about_X5_looseOf : GoodIn wsX5_about (wsV RX5 106 RX5 yX5_looseOf wsX5_looseOf) := goodIn_app (goodIn_of _ (by decide +kernel)) ggX5_about_X5_looseOf
set_option maxRecDepth 20000 in
theorem ggX5_about_X5_crossings : GoodIn wsX5_about wsX5_crossings := goodIn_r _ [62, 11, 12, 13, 6, 14, 15, 16, 42, 43, 44, 45, 46, 47, 48, 49, 50, 21, 40, 41, 31, 32, 33, 34, 35, 67, 68, 69, 70, 71, 72, 73, 74, 75, 76, 77, 78, 79, 80, 81, 82, 83] (by decide +kernel) (by decide +kernel)
set_option maxRecDepth 20000 in
theorem gX5_about_X5_crossings : GoodIn wsX5_about (wsV RX5 109 RX5 yX5_crossings wsX5_crossings) := goodIn_app (goodIn_of _ (by decide +kernel)) ggX5_about_X5_crossings
set_option maxRecDepth 20000 in
theorem ggX5_about_X5_spanOf : GoodIn wsX5_about wsX5_spanOf := goodIn_r _ [66, 21, 11, 12, 13, 6, 14, 15, 16, 27, 28, 29, 30, 31, 32, 33, 34, 35, 67, 68, 69, 70, 71, 72, 73, 74, 75, 76, 77, 78, 79, 80, 81, 82, 83] (by decide +kernel) (by decide +kernel)
set_option maxRecDepth 20000 in
theorem gX5_about_X5_spanOf : GoodIn wsX5_about (wsV RX5 113 RX5 yX5_spanOf wsX5_spanOf) := goodIn_app (goodIn_of _ (by decide +kernel)) ggX5_about_X5_spanOf
theorem dX5_about_0 : decode cX5_about 0 = .ok (.aload_n 0, 1) := by decide +kernel
theorem dX5_about_1 : decode cX5_about 1 = .ok (.iload_n 1, 1) := by decide +kernel
theorem dX5_about_2 : decode cX5_about 2 = .ok (.iload_n 2, 1) := by decide +kernel
theorem dX5_about_3 : decode cX5_about 3 = .ok (.invokevirtual 71, 3) := by decide +kernel
theorem dX5_about_6 : decode cX5_about 6 = .ok (.ifCond .ne 5, 3) := by decide +kernel
theorem dX5_about_9 : decode cX5_about 9 = .ok (.iconst (-1), 1) := by decide +kernel
theorem dX5_about_10 : decode cX5_about 10 = .ok (.ireturn, 1) := by decide +kernel
theorem dX5_about_11 : decode cX5_about 11 = .ok (.iload_n 3, 1) := by decide +kernel
theorem dX5_about_12 : decode cX5_about 12 = .ok (.tableswitch 139 0 8 #[52, 64, 76, 88, 100, 107, 115, 123, 131], 52) := by decide +kernel
theorem dX5_about_64 : decode cX5_about 64 = .ok (.aload_n 0, 1) := by decide +kernel
theorem dX5_about_65 : decode cX5_about 65 = .ok (.iload_n 1, 1) := by decide +kernel
theorem dX5_about_66 : decode cX5_about 66 = .ok (.iload_n 2, 1) := by decide +kernel
theorem dX5_about_67 : decode cX5_about 67 = .ok (.iconst 0, 1) := by decide +kernel
theorem dX5_about_68 : decode cX5_about 68 = .ok (.invokevirtual 102, 3) := by decide +kernel
theorem dX5_about_71 : decode cX5_about 71 = .ok (.aload_n 0, 1) := by decide +kernel
theorem dX5_about_72 : decode cX5_about 72 = .ok (.getfield 93, 3) := by decide +kernel
theorem dX5_about_75 : decode cX5_about 75 = .ok (.ireturn, 1) := by decide +kernel
theorem dX5_about_76 : decode cX5_about 76 = .ok (.aload_n 0, 1) := by decide +kernel
theorem dX5_about_77 : decode cX5_about 77 = .ok (.iload_n 1, 1) := by decide +kernel
theorem dX5_about_78 : decode cX5_about 78 = .ok (.iload_n 2, 1) := by decide +kernel
theorem dX5_about_79 : decode cX5_about 79 = .ok (.iconst 1, 1) := by decide +kernel
theorem dX5_about_80 : decode cX5_about 80 = .ok (.invokevirtual 102, 3) := by decide +kernel
theorem dX5_about_83 : decode cX5_about 83 = .ok (.aload_n 0, 1) := by decide +kernel
theorem dX5_about_84 : decode cX5_about 84 = .ok (.getfield 93, 3) := by decide +kernel
theorem dX5_about_87 : decode cX5_about 87 = .ok (.ireturn, 1) := by decide +kernel
theorem dX5_about_88 : decode cX5_about 88 = .ok (.aload_n 0, 1) := by decide +kernel
theorem dX5_about_89 : decode cX5_about 89 = .ok (.iload_n 1, 1) := by decide +kernel
theorem dX5_about_90 : decode cX5_about 90 = .ok (.iload_n 2, 1) := by decide +kernel
theorem dX5_about_91 : decode cX5_about 91 = .ok (.iconst 0, 1) := by decide +kernel
theorem dX5_about_92 : decode cX5_about 92 = .ok (.invokevirtual 102, 3) := by decide +kernel
theorem dX5_about_95 : decode cX5_about 95 = .ok (.aload_n 0, 1) := by decide +kernel
theorem dX5_about_96 : decode cX5_about 96 = .ok (.getfield 99, 3) := by decide +kernel
theorem dX5_about_99 : decode cX5_about 99 = .ok (.ireturn, 1) := by decide +kernel
theorem dX5_about_100 : decode cX5_about 100 = .ok (.aload_n 0, 1) := by decide +kernel
theorem dX5_about_101 : decode cX5_about 101 = .ok (.iload_n 1, 1) := by decide +kernel
theorem dX5_about_102 : decode cX5_about 102 = .ok (.iload_n 2, 1) := by decide +kernel
theorem dX5_about_103 : decode cX5_about 103 = .ok (.iconst 1, 1) := by decide +kernel
theorem dX5_about_104 : decode cX5_about 104 = .ok (.invokevirtual 102, 3) := by decide +kernel
theorem dX5_about_107 : decode cX5_about 107 = .ok (.aload_n 0, 1) := by decide +kernel
theorem dX5_about_108 : decode cX5_about 108 = .ok (.getfield 99, 3) := by decide +kernel
theorem dX5_about_111 : decode cX5_about 111 = .ok (.ireturn, 1) := by decide +kernel
theorem dX5_about_112 : decode cX5_about 112 = .ok (.aload_n 0, 1) := by decide +kernel
theorem dX5_about_113 : decode cX5_about 113 = .ok (.iload_n 1, 1) := by decide +kernel
theorem dX5_about_114 : decode cX5_about 114 = .ok (.iload_n 2, 1) := by decide +kernel
theorem dX5_about_115 : decode cX5_about 115 = .ok (.invokevirtual 106, 3) := by decide +kernel
theorem dX5_about_118 : decode cX5_about 118 = .ok (.ireturn, 1) := by decide +kernel
theorem dX5_about_119 : decode cX5_about 119 = .ok (.aload_n 0, 1) := by decide +kernel
theorem dX5_about_120 : decode cX5_about 120 = .ok (.iload_n 1, 1) := by decide +kernel
theorem dX5_about_121 : decode cX5_about 121 = .ok (.iload_n 2, 1) := by decide +kernel
theorem dX5_about_122 : decode cX5_about 122 = .ok (.iconst 0, 1) := by decide +kernel
theorem dX5_about_123 : decode cX5_about 123 = .ok (.invokevirtual 109, 3) := by decide +kernel
theorem dX5_about_126 : decode cX5_about 126 = .ok (.ireturn, 1) := by decide +kernel
theorem dX5_about_127 : decode cX5_about 127 = .ok (.aload_n 0, 1) := by decide +kernel
theorem dX5_about_128 : decode cX5_about 128 = .ok (.iload_n 1, 1) := by decide +kernel
theorem dX5_about_129 : decode cX5_about 129 = .ok (.iload_n 2, 1) := by decide +kernel
theorem dX5_about_130 : decode cX5_about 130 = .ok (.iconst 1, 1) := by decide +kernel
theorem dX5_about_131 : decode cX5_about 131 = .ok (.invokevirtual 109, 3) := by decide +kernel
theorem dX5_about_134 : decode cX5_about 134 = .ok (.ireturn, 1) := by decide +kernel
theorem dX5_about_135 : decode cX5_about 135 = .ok (.aload_n 0, 1) := by decide +kernel
theorem dX5_about_136 : decode cX5_about 136 = .ok (.iload_n 1, 1) := by decide +kernel
theorem dX5_about_137 : decode cX5_about 137 = .ok (.iload_n 2, 1) := by decide +kernel
theorem dX5_about_138 : decode cX5_about 138 = .ok (.iconst 0, 1) := by decide +kernel
theorem dX5_about_139 : decode cX5_about 139 = .ok (.invokevirtual 113, 3) := by decide +kernel
theorem dX5_about_142 : decode cX5_about 142 = .ok (.ireturn, 1) := by decide +kernel
theorem dX5_about_143 : decode cX5_about 143 = .ok (.aload_n 0, 1) := by decide +kernel
theorem dX5_about_144 : decode cX5_about 144 = .ok (.iload_n 1, 1) := by decide +kernel
theorem dX5_about_145 : decode cX5_about 145 = .ok (.iload_n 2, 1) := by decide +kernel
theorem dX5_about_146 : decode cX5_about 146 = .ok (.iconst 1, 1) := by decide +kernel
theorem dX5_about_147 : decode cX5_about 147 = .ok (.invokevirtual 113, 3) := by decide +kernel
theorem dX5_about_150 : decode cX5_about 150 = .ok (.ireturn, 1) := by decide +kernel
theorem dX5_about_151 : decode cX5_about 151 = .ok (.bipush (-2), 2) := by decide +kernel
theorem dX5_about_153 : decode cX5_about 153 = .ok (.ireturn, 1) := by decide +kernel
set_option maxRecDepth 20000 in
theorem ggX5_caught_X5_isChosen : GoodIn wsX5_caught wsX5_isChosen := goodIn_r _ [7, 8, 21, 22, 23, 24, 25, 26, 27, 28, 29, 30, 31, 32, 33, 34, 35, 36, 37] (by decide +kernel) (by decide +kernel)
set_option maxRecDepth 20000 in
theorem gX5_caught_X5_isChosen : GoodIn wsX5_caught (wsV RX5 75 RX5 yX5_isChosen wsX5_isChosen) := goodIn_app (goodIn_of _ (by decide +kernel)) ggX5_caught_X5_isChosen
set_option maxRecDepth 20000 in
theorem ggX5_caught_X5_findRuns : GoodIn wsX5_caught wsX5_findRuns := goodIn_r _ [12, 13, 14, 15, 16, 17, 18, 6, 19, 20, 21, 22, 23, 24, 25, 26, 27, 28, 29, 30, 31, 32, 33, 34, 35, 36, 37] (by decide +kernel) (by decide +kernel)
set_option maxRecDepth 20000 in
theorem gX5_caught_X5_findRuns : GoodIn wsX5_caught (wsV RX5 78 RX5 yX5_findRuns wsX5_findRuns) := goodIn_app (goodIn_of _ (by decide +kernel)) ggX5_caught_X5_findRuns
theorem dX5_caught_0 : decode cX5_caught 0 = .ok (.iconst 0, 1) := by decide +kernel
theorem dX5_caught_1 : decode cX5_caught 1 = .ok (.istore_n 2, 1) := by decide +kernel
theorem dX5_caught_2 : decode cX5_caught 2 = .ok (.iconst 0, 1) := by decide +kernel
theorem dX5_caught_3 : decode cX5_caught 3 = .ok (.istore_n 3, 1) := by decide +kernel
theorem dX5_caught_4 : decode cX5_caught 4 = .ok (.iload_n 3, 1) := by decide +kernel
theorem dX5_caught_5 : decode cX5_caught 5 = .ok (.aload_n 0, 1) := by decide +kernel
theorem dX5_caught_6 : decode cX5_caught 6 = .ok (.getfield 7, 3) := by decide +kernel
theorem dX5_caught_9 : decode cX5_caught 9 = .ok (.if_icmp .ge 73, 3) := by decide +kernel
theorem dX5_caught_12 : decode cX5_caught 12 = .ok (.iconst 0, 1) := by decide +kernel
theorem dX5_caught_13 : decode cX5_caught 13 = .ok (.istore 4, 2) := by decide +kernel
theorem dX5_caught_15 : decode cX5_caught 15 = .ok (.iload 4, 2) := by decide +kernel
theorem dX5_caught_17 : decode cX5_caught 17 = .ok (.aload_n 0, 1) := by decide +kernel
theorem dX5_caught_18 : decode cX5_caught 18 = .ok (.getfield 13, 3) := by decide +kernel
theorem dX5_caught_21 : decode cX5_caught 21 = .ok (.if_icmp .ge 55, 3) := by decide +kernel
theorem dX5_caught_24 : decode cX5_caught 24 = .ok (.aload_n 0, 1) := by decide +kernel
theorem dX5_caught_25 : decode cX5_caught 25 = .ok (.iconst 0, 1) := by decide +kernel
theorem dX5_caught_26 : decode cX5_caught 26 = .ok (.iload_n 3, 1) := by decide +kernel
theorem dX5_caught_27 : decode cX5_caught 27 = .ok (.invokevirtual 75, 3) := by decide +kernel
theorem dX5_caught_30 : decode cX5_caught 30 = .ok (.ifCond .eq 40, 3) := by decide +kernel
theorem dX5_caught_33 : decode cX5_caught 33 = .ok (.aload_n 0, 1) := by decide +kernel
theorem dX5_caught_34 : decode cX5_caught 34 = .ok (.iconst 1, 1) := by decide +kernel
theorem dX5_caught_35 : decode cX5_caught 35 = .ok (.iload 4, 2) := by decide +kernel
theorem dX5_caught_37 : decode cX5_caught 37 = .ok (.invokevirtual 75, 3) := by decide +kernel
theorem dX5_caught_40 : decode cX5_caught 40 = .ok (.ifCond .eq 30, 3) := by decide +kernel
theorem dX5_caught_43 : decode cX5_caught 43 = .ok (.aload_n 0, 1) := by decide +kernel
theorem dX5_caught_44 : decode cX5_caught 44 = .ok (.iload_n 3, 1) := by decide +kernel
theorem dX5_caught_45 : decode cX5_caught 45 = .ok (.iload 4, 2) := by decide +kernel
theorem dX5_caught_47 : decode cX5_caught 47 = .ok (.invokevirtual 78, 3) := by decide +kernel
theorem dX5_caught_50 : decode cX5_caught 50 = .ok (.iconst 1, 1) := by decide +kernel
theorem dX5_caught_51 : decode cX5_caught 51 = .ok (.if_icmp .le 19, 3) := by decide +kernel
theorem dX5_caught_54 : decode cX5_caught 54 = .ok (.iload_n 2, 1) := by decide +kernel
theorem dX5_caught_55 : decode cX5_caught 55 = .ok (.iload_n 1, 1) := by decide +kernel
theorem dX5_caught_56 : decode cX5_caught 56 = .ok (.if_icmp .ne 11, 3) := by decide +kernel
theorem dX5_caught_59 : decode cX5_caught 59 = .ok (.bipush 10, 2) := by decide +kernel
theorem dX5_caught_61 : decode cX5_caught 61 = .ok (.iload_n 3, 1) := by decide +kernel
theorem dX5_caught_62 : decode cX5_caught 62 = .ok (.imul, 1) := by decide +kernel
theorem dX5_caught_63 : decode cX5_caught 63 = .ok (.iload 4, 2) := by decide +kernel
theorem dX5_caught_65 : decode cX5_caught 65 = .ok (.iadd, 1) := by decide +kernel
theorem dX5_caught_66 : decode cX5_caught 66 = .ok (.ireturn, 1) := by decide +kernel
theorem dX5_caught_67 : decode cX5_caught 67 = .ok (.iinc 2 1, 3) := by decide +kernel
theorem dX5_caught_70 : decode cX5_caught 70 = .ok (.iinc 4 1, 3) := by decide +kernel
theorem dX5_caught_73 : decode cX5_caught 73 = .ok (.goto (-58), 3) := by decide +kernel
theorem dX5_caught_76 : decode cX5_caught 76 = .ok (.iinc 3 1, 3) := by decide +kernel
theorem dX5_caught_79 : decode cX5_caught 79 = .ok (.goto (-75), 3) := by decide +kernel
theorem dX5_caught_82 : decode cX5_caught 82 = .ok (.iload_n 1, 1) := by decide +kernel
theorem dX5_caught_83 : decode cX5_caught 83 = .ok (.iconst (-1), 1) := by decide +kernel
theorem dX5_caught_84 : decode cX5_caught 84 = .ok (.if_icmp .ne 7, 3) := by decide +kernel
theorem dX5_caught_87 : decode cX5_caught 87 = .ok (.iload_n 2, 1) := by decide +kernel
theorem dX5_caught_88 : decode cX5_caught 88 = .ok (.goto 5, 3) := by decide +kernel
theorem dX5_caught_91 : decode cX5_caught 91 = .ok (.bipush (-6), 2) := by decide +kernel
theorem dX5_caught_93 : decode cX5_caught 93 = .ok (.ireturn, 1) := by decide +kernel
set_option maxRecDepth 20000 in
theorem ggX5_run_X5_in : GoodIn wsX5_run wsX5_in := goodIn_r _ [8] (by decide +kernel) (by decide +kernel)
set_option maxRecDepth 20000 in
theorem gX5_run_X5_in : GoodIn wsX5_run (va_wsS RX5 48 yX5_in wsX5_in) := goodIn_app (goodIn_of _ (by decide +kernel)) ggX5_run_X5_in
set_option maxRecDepth 20000 in
theorem ggX5_run_X5_findRuns : GoodIn wsX5_run wsX5_findRuns := goodIn_r _ [12, 13, 3, 4, 14, 15, 16, 7, 17, 18, 19, 20, 21, 22, 23, 24, 25, 26, 27, 28, 29, 30, 31, 32, 33, 34, 35] (by decide +kernel) (by decide +kernel)
set_option maxRecDepth 20000 in
theorem gX5_run_X5_findRuns : GoodIn wsX5_run (wsV RX5 78 RX5 yX5_findRuns wsX5_findRuns) := goodIn_app (goodIn_of _ (by decide +kernel)) ggX5_run_X5_findRuns
theorem dX5_run_0 : decode cX5_run 0 = .ok (.iload_n 1, 1) := by decide +kernel
theorem dX5_run_1 : decode cX5_run 1 = .ok (.i2l, 1) := by decide +kernel
theorem dX5_run_2 : decode cX5_run 2 = .ok (.lconst 0, 1) := by decide +kernel
theorem dX5_run_3 : decode cX5_run 3 = .ok (.aload_n 0, 1) := by decide +kernel
theorem dX5_run_4 : decode cX5_run 4 = .ok (.getfield 7, 3) := by decide +kernel
theorem dX5_run_7 : decode cX5_run 7 = .ok (.iconst 1, 1) := by decide +kernel
theorem dX5_run_8 : decode cX5_run 8 = .ok (.isub, 1) := by decide +kernel
theorem dX5_run_9 : decode cX5_run 9 = .ok (.i2l, 1) := by decide +kernel
theorem dX5_run_10 : decode cX5_run 10 = .ok (.invokestatic 48, 3) := by decide +kernel
theorem dX5_run_13 : decode cX5_run 13 = .ok (.ifCond .eq 19, 3) := by decide +kernel
theorem dX5_run_16 : decode cX5_run 16 = .ok (.iload_n 2, 1) := by decide +kernel
theorem dX5_run_17 : decode cX5_run 17 = .ok (.i2l, 1) := by decide +kernel
theorem dX5_run_18 : decode cX5_run 18 = .ok (.lconst 0, 1) := by decide +kernel
theorem dX5_run_19 : decode cX5_run 19 = .ok (.aload_n 0, 1) := by decide +kernel
theorem dX5_run_20 : decode cX5_run 20 = .ok (.getfield 13, 3) := by decide +kernel
theorem dX5_run_23 : decode cX5_run 23 = .ok (.iconst 1, 1) := by decide +kernel
theorem dX5_run_24 : decode cX5_run 24 = .ok (.isub, 1) := by decide +kernel
theorem dX5_run_25 : decode cX5_run 25 = .ok (.i2l, 1) := by decide +kernel
theorem dX5_run_26 : decode cX5_run 26 = .ok (.invokestatic 48, 3) := by decide +kernel
theorem dX5_run_29 : decode cX5_run 29 = .ok (.ifCond .ne 5, 3) := by decide +kernel
theorem dX5_run_32 : decode cX5_run 32 = .ok (.iconst (-1), 1) := by decide +kernel
theorem dX5_run_33 : decode cX5_run 33 = .ok (.ireturn, 1) := by decide +kernel
theorem dX5_run_34 : decode cX5_run 34 = .ok (.aload_n 0, 1) := by decide +kernel
theorem dX5_run_35 : decode cX5_run 35 = .ok (.iload_n 1, 1) := by decide +kernel
theorem dX5_run_36 : decode cX5_run 36 = .ok (.iload_n 2, 1) := by decide +kernel
theorem dX5_run_37 : decode cX5_run 37 = .ok (.invokevirtual 78, 3) := by decide +kernel
theorem dX5_run_40 : decode cX5_run 40 = .ok (.istore 4, 2) := by decide +kernel
theorem dX5_run_42 : decode cX5_run 42 = .ok (.iload_n 3, 1) := by decide +kernel
theorem dX5_run_43 : decode cX5_run 43 = .ok (.iconst (-1), 1) := by decide +kernel
theorem dX5_run_44 : decode cX5_run 44 = .ok (.if_icmp .ne 6, 3) := by decide +kernel
theorem dX5_run_47 : decode cX5_run 47 = .ok (.iload 4, 2) := by decide +kernel
theorem dX5_run_49 : decode cX5_run 49 = .ok (.ireturn, 1) := by decide +kernel
theorem dX5_run_50 : decode cX5_run 50 = .ok (.iload_n 3, 1) := by decide +kernel
theorem dX5_run_51 : decode cX5_run 51 = .ok (.i2l, 1) := by decide +kernel
theorem dX5_run_52 : decode cX5_run 52 = .ok (.lconst 0, 1) := by decide +kernel
theorem dX5_run_53 : decode cX5_run 53 = .ok (.iload 4, 2) := by decide +kernel
theorem dX5_run_55 : decode cX5_run 55 = .ok (.iconst 1, 1) := by decide +kernel
theorem dX5_run_56 : decode cX5_run 56 = .ok (.isub, 1) := by decide +kernel
theorem dX5_run_57 : decode cX5_run 57 = .ok (.i2l, 1) := by decide +kernel
theorem dX5_run_58 : decode cX5_run 58 = .ok (.invokestatic 48, 3) := by decide +kernel
theorem dX5_run_61 : decode cX5_run 61 = .ok (.ifCond .eq 22, 3) := by decide +kernel
theorem dX5_run_64 : decode cX5_run 64 = .ok (.bipush 10, 2) := by decide +kernel
theorem dX5_run_66 : decode cX5_run 66 = .ok (.aload_n 0, 1) := by decide +kernel
theorem dX5_run_67 : decode cX5_run 67 = .ok (.getfield 27, 3) := by decide +kernel
theorem dX5_run_70 : decode cX5_run 70 = .ok (.iload_n 3, 1) := by decide +kernel
theorem dX5_run_71 : decode cX5_run 71 = .ok (.iaload, 1) := by decide +kernel
theorem dX5_run_72 : decode cX5_run 72 = .ok (.imul, 1) := by decide +kernel
theorem dX5_run_73 : decode cX5_run 73 = .ok (.aload_n 0, 1) := by decide +kernel
theorem dX5_run_74 : decode cX5_run 74 = .ok (.getfield 30, 3) := by decide +kernel
theorem dX5_run_77 : decode cX5_run 77 = .ok (.iload_n 3, 1) := by decide +kernel
theorem dX5_run_78 : decode cX5_run 78 = .ok (.iaload, 1) := by decide +kernel
theorem dX5_run_79 : decode cX5_run 79 = .ok (.iadd, 1) := by decide +kernel
theorem dX5_run_80 : decode cX5_run 80 = .ok (.goto 5, 3) := by decide +kernel
theorem dX5_run_83 : decode cX5_run 83 = .ok (.bipush (-6), 2) := by decide +kernel
theorem dX5_run_85 : decode cX5_run 85 = .ok (.ireturn, 1) := by decide +kernel
set_option maxRecDepth 20000 in
theorem ggX5_highOf_X5_has : GoodIn wsX5_highOf wsX5_has := goodIn_r _ [6, 7, 8, 9, 10, 11, 12, 13, 14, 15, 16, 17, 18, 19, 20, 21, 22, 23, 24] (by decide +kernel) (by decide +kernel)
set_option maxRecDepth 20000 in
theorem gX5_highOf_X5_has : GoodIn wsX5_highOf (wsV RX5 64 RX5 yX5_has wsX5_has) := goodIn_app (goodIn_of _ (by decide +kernel)) ggX5_highOf_X5_has
theorem dX5_highOf_0 : decode cX5_highOf 0 = .ok (.iconst 0, 1) := by decide +kernel
theorem dX5_highOf_1 : decode cX5_highOf 1 = .ok (.istore_n 3, 1) := by decide +kernel
theorem dX5_highOf_2 : decode cX5_highOf 2 = .ok (.iconst 0, 1) := by decide +kernel
theorem dX5_highOf_3 : decode cX5_highOf 3 = .ok (.istore 4, 2) := by decide +kernel
theorem dX5_highOf_5 : decode cX5_highOf 5 = .ok (.iload 4, 2) := by decide +kernel
theorem dX5_highOf_7 : decode cX5_highOf 7 = .ok (.aload_n 0, 1) := by decide +kernel
theorem dX5_highOf_8 : decode cX5_highOf 8 = .ok (.getfield 16, 3) := by decide +kernel
theorem dX5_highOf_11 : decode cX5_highOf 11 = .ok (.if_icmp .ge 28, 3) := by decide +kernel
theorem dX5_highOf_14 : decode cX5_highOf 14 = .ok (.iload_n 3, 1) := by decide +kernel
theorem dX5_highOf_15 : decode cX5_highOf 15 = .ok (.aload_n 0, 1) := by decide +kernel
theorem dX5_highOf_16 : decode cX5_highOf 16 = .ok (.iload_n 1, 1) := by decide +kernel
theorem dX5_highOf_17 : decode cX5_highOf 17 = .ok (.iload_n 2, 1) := by decide +kernel
theorem dX5_highOf_18 : decode cX5_highOf 18 = .ok (.iload 4, 2) := by decide +kernel
theorem dX5_highOf_20 : decode cX5_highOf 20 = .ok (.invokevirtual 64, 3) := by decide +kernel
theorem dX5_highOf_23 : decode cX5_highOf 23 = .ok (.ifCond .eq 7, 3) := by decide +kernel
theorem dX5_highOf_26 : decode cX5_highOf 26 = .ok (.iconst 1, 1) := by decide +kernel
theorem dX5_highOf_27 : decode cX5_highOf 27 = .ok (.goto 4, 3) := by decide +kernel
theorem dX5_highOf_30 : decode cX5_highOf 30 = .ok (.iconst 0, 1) := by decide +kernel
theorem dX5_highOf_31 : decode cX5_highOf 31 = .ok (.iadd, 1) := by decide +kernel
theorem dX5_highOf_32 : decode cX5_highOf 32 = .ok (.istore_n 3, 1) := by decide +kernel
theorem dX5_highOf_33 : decode cX5_highOf 33 = .ok (.iinc 4 1, 3) := by decide +kernel
theorem dX5_highOf_36 : decode cX5_highOf 36 = .ok (.goto (-31), 3) := by decide +kernel
theorem dX5_highOf_39 : decode cX5_highOf 39 = .ok (.iload_n 3, 1) := by decide +kernel
theorem dX5_highOf_40 : decode cX5_highOf 40 = .ok (.ireturn, 1) := by decide +kernel
theorem dX5_coverOf_0 : decode cX5_coverOf 0 = .ok (.iconst 0, 1) := by decide +kernel
theorem dX5_coverOf_1 : decode cX5_coverOf 1 = .ok (.istore_n 3, 1) := by decide +kernel
theorem dX5_coverOf_2 : decode cX5_coverOf 2 = .ok (.iconst 0, 1) := by decide +kernel
theorem dX5_coverOf_3 : decode cX5_coverOf 3 = .ok (.istore 4, 2) := by decide +kernel
theorem dX5_coverOf_5 : decode cX5_coverOf 5 = .ok (.iload 4, 2) := by decide +kernel
theorem dX5_coverOf_7 : decode cX5_coverOf 7 = .ok (.aload_n 0, 1) := by decide +kernel
theorem dX5_coverOf_8 : decode cX5_coverOf 8 = .ok (.getfield 7, 3) := by decide +kernel
theorem dX5_coverOf_11 : decode cX5_coverOf 11 = .ok (.if_icmp .ge 67, 3) := by decide +kernel
theorem dX5_coverOf_14 : decode cX5_coverOf 14 = .ok (.iconst 0, 1) := by decide +kernel
theorem dX5_coverOf_15 : decode cX5_coverOf 15 = .ok (.istore 5, 2) := by decide +kernel
theorem dX5_coverOf_17 : decode cX5_coverOf 17 = .ok (.iload 5, 2) := by decide +kernel
theorem dX5_coverOf_19 : decode cX5_coverOf 19 = .ok (.aload_n 0, 1) := by decide +kernel
theorem dX5_coverOf_20 : decode cX5_coverOf 20 = .ok (.getfield 13, 3) := by decide +kernel
theorem dX5_coverOf_23 : decode cX5_coverOf 23 = .ok (.if_icmp .ge 49, 3) := by decide +kernel
theorem dX5_coverOf_26 : decode cX5_coverOf 26 = .ok (.iload_n 3, 1) := by decide +kernel
theorem dX5_coverOf_27 : decode cX5_coverOf 27 = .ok (.iload_n 1, 1) := by decide +kernel
theorem dX5_coverOf_28 : decode cX5_coverOf 28 = .ok (.iload 4, 2) := by decide +kernel
theorem dX5_coverOf_30 : decode cX5_coverOf 30 = .ok (.ishr, 1) := by decide +kernel
theorem dX5_coverOf_31 : decode cX5_coverOf 31 = .ok (.iconst 1, 1) := by decide +kernel
theorem dX5_coverOf_32 : decode cX5_coverOf 32 = .ok (.iand, 1) := by decide +kernel
theorem dX5_coverOf_33 : decode cX5_coverOf 33 = .ok (.iconst 1, 1) := by decide +kernel
theorem dX5_coverOf_34 : decode cX5_coverOf 34 = .ok (.if_icmp .eq 13, 3) := by decide +kernel
theorem dX5_coverOf_37 : decode cX5_coverOf 37 = .ok (.iload_n 2, 1) := by decide +kernel
theorem dX5_coverOf_38 : decode cX5_coverOf 38 = .ok (.iload 5, 2) := by decide +kernel
theorem dX5_coverOf_40 : decode cX5_coverOf 40 = .ok (.ishr, 1) := by decide +kernel
theorem dX5_coverOf_41 : decode cX5_coverOf 41 = .ok (.iconst 1, 1) := by decide +kernel
theorem dX5_coverOf_42 : decode cX5_coverOf 42 = .ok (.iand, 1) := by decide +kernel
theorem dX5_coverOf_43 : decode cX5_coverOf 43 = .ok (.iconst 1, 1) := by decide +kernel
theorem dX5_coverOf_44 : decode cX5_coverOf 44 = .ok (.if_icmp .ne 19, 3) := by decide +kernel
theorem dX5_coverOf_47 : decode cX5_coverOf 47 = .ok (.aload_n 0, 1) := by decide +kernel
theorem dX5_coverOf_48 : decode cX5_coverOf 48 = .ok (.getfield 36, 3) := by decide +kernel
theorem dX5_coverOf_51 : decode cX5_coverOf 51 = .ok (.bipush 8, 2) := by decide +kernel
theorem dX5_coverOf_53 : decode cX5_coverOf 53 = .ok (.iload 4, 2) := by decide +kernel
theorem dX5_coverOf_55 : decode cX5_coverOf 55 = .ok (.imul, 1) := by decide +kernel
