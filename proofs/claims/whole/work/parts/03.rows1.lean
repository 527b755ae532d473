theorem dX0_init_0 : decode cX0_init 0 = .ok (.aload_n 0, 1) := by decide +kernel
theorem dX0_init_1 : decode cX0_init 1 = .ok (.invokespecial 3, 3) := by decide +kernel
theorem dX0_init_4 : decode cX0_init 4 = .ok (.aload_n 0, 1) := by decide +kernel
theorem dX0_init_5 : decode cX0_init 5 = .ok (.bipush 112, 2) := by decide +kernel
theorem dX0_init_7 : decode cX0_init 7 = .ok (.newarray .int, 2) := by decide +kernel
theorem dX0_init_9 : decode cX0_init 9 = .ok (.putfield 11, 3) := by decide +kernel
theorem dX0_init_12 : decode cX0_init 12 = .ok (.return_, 1) := by decide +kernel
theorem dX0_forget_0 : decode cX0_forget 0 = .ok (.aload_n 0, 1) := by decide +kernel
theorem dX0_forget_1 : decode cX0_forget 1 = .ok (.iconst 0, 1) := by decide +kernel
theorem dX0_forget_2 : decode cX0_forget 2 = .ok (.putfield 15, 3) := by decide +kernel
theorem dX0_forget_5 : decode cX0_forget 5 = .ok (.return_, 1) := by decide +kernel
theorem dX0_clear_0 : decode cX0_clear 0 = .ok (.aload_n 0, 1) := by decide +kernel
theorem dX0_clear_1 : decode cX0_clear 1 = .ok (.iconst 0, 1) := by decide +kernel
theorem dX0_clear_2 : decode cX0_clear 2 = .ok (.putfield 19, 3) := by decide +kernel
theorem dX0_clear_5 : decode cX0_clear 5 = .ok (.return_, 1) := by decide +kernel
set_option maxRecDepth 20000 in
theorem ggX0_fact_X0_hasFact : GoodIn wsX0_fact wsX0_hasFact := goodIn_r _ [5] (by decide +kernel) (by decide +kernel)
set_option maxRecDepth 20000 in
theorem gX0_fact_X0_hasFact : GoodIn wsX0_fact (va_wsS RX0 23 yX0_hasFact wsX0_hasFact) := goodIn_app (goodIn_of _ (by decide +kernel)) ggX0_fact_X0_hasFact
theorem dX0_fact_0 : decode cX0_fact 0 = .ok (.iload_n 1, 1) := by decide +kernel
theorem dX0_fact_1 : decode cX0_fact 1 = .ok (.iload_n 2, 1) := by decide +kernel
theorem dX0_fact_2 : decode cX0_fact 2 = .ok (.invokestatic 23, 3) := by decide +kernel
theorem dX0_fact_5 : decode cX0_fact 5 = .ok (.ifCond .eq 17, 3) := by decide +kernel
theorem dX0_fact_8 : decode cX0_fact 8 = .ok (.aload_n 0, 1) := by decide +kernel
theorem dX0_fact_9 : decode cX0_fact 9 = .ok (.getfield 11, 3) := by decide +kernel
theorem dX0_fact_12 : decode cX0_fact 12 = .ok (.iload_n 1, 1) := by decide +kernel
theorem dX0_fact_13 : decode cX0_fact 13 = .ok (.bipush 7, 2) := by decide +kernel
theorem dX0_fact_15 : decode cX0_fact 15 = .ok (.imul, 1) := by decide +kernel
theorem dX0_fact_16 : decode cX0_fact 16 = .ok (.iload_n 2, 1) := by decide +kernel
theorem dX0_fact_17 : decode cX0_fact 17 = .ok (.iadd, 1) := by decide +kernel
theorem dX0_fact_18 : decode cX0_fact 18 = .ok (.iaload, 1) := by decide +kernel
theorem dX0_fact_19 : decode cX0_fact 19 = .ok (.goto 5, 3) := by decide +kernel
theorem dX0_fact_22 : decode cX0_fact 22 = .ok (.bipush (-6), 2) := by decide +kernel
theorem dX0_fact_24 : decode cX0_fact 24 = .ok (.ireturn, 1) := by decide +kernel
set_option maxRecDepth 20000 in
theorem ggX0_note_X0_hasFact : GoodIn wsX0_note wsX0_hasFact := goodIn_r _ [5] (by decide +kernel) (by decide +kernel)
set_option maxRecDepth 20000 in
theorem gX0_note_X0_hasFact : GoodIn wsX0_note (va_wsS RX0 23 yX0_hasFact wsX0_hasFact) := goodIn_app (goodIn_of _ (by decide +kernel)) ggX0_note_X0_hasFact
theorem dX0_note_0 : decode cX0_note 0 = .ok (.iload_n 1, 1) := by decide +kernel
theorem dX0_note_1 : decode cX0_note 1 = .ok (.iload_n 2, 1) := by decide +kernel
theorem dX0_note_2 : decode cX0_note 2 = .ok (.invokestatic 23, 3) := by decide +kernel
theorem dX0_note_5 : decode cX0_note 5 = .ok (.ifCond .eq 15, 3) := by decide +kernel
theorem dX0_note_8 : decode cX0_note 8 = .ok (.aload_n 0, 1) := by decide +kernel
theorem dX0_note_9 : decode cX0_note 9 = .ok (.getfield 11, 3) := by decide +kernel
theorem dX0_note_12 : decode cX0_note 12 = .ok (.iload_n 1, 1) := by decide +kernel
theorem dX0_note_13 : decode cX0_note 13 = .ok (.bipush 7, 2) := by decide +kernel
theorem dX0_note_15 : decode cX0_note 15 = .ok (.imul, 1) := by decide +kernel
theorem dX0_note_16 : decode cX0_note 16 = .ok (.iload_n 2, 1) := by decide +kernel
theorem dX0_note_17 : decode cX0_note 17 = .ok (.iadd, 1) := by decide +kernel
theorem dX0_note_18 : decode cX0_note 18 = .ok (.iload_n 3, 1) := by decide +kernel
theorem dX0_note_19 : decode cX0_note 19 = .ok (.iastore, 1) := by decide +kernel
theorem dX0_note_20 : decode cX0_note 20 = .ok (.return_, 1) := by decide +kernel
theorem dX0_hasFact_0 : decode cX0_hasFact 0 = .ok (.iload_n 0, 1) := by decide +kernel
theorem dX0_hasFact_1 : decode cX0_hasFact 1 = .ok (.ifCond .lt 23, 3) := by decide +kernel
theorem dX0_hasFact_4 : decode cX0_hasFact 4 = .ok (.iload_n 0, 1) := by decide +kernel
theorem dX0_hasFact_5 : decode cX0_hasFact 5 = .ok (.bipush 16, 2) := by decide +kernel
theorem dX0_hasFact_7 : decode cX0_hasFact 7 = .ok (.if_icmp .ge 17, 3) := by decide +kernel
theorem dX0_hasFact_10 : decode cX0_hasFact 10 = .ok (.iload_n 1, 1) := by decide +kernel
theorem dX0_hasFact_11 : decode cX0_hasFact 11 = .ok (.ifCond .lt 13, 3) := by decide +kernel
theorem dX0_hasFact_14 : decode cX0_hasFact 14 = .ok (.iload_n 1, 1) := by decide +kernel
theorem dX0_hasFact_15 : decode cX0_hasFact 15 = .ok (.bipush 7, 2) := by decide +kernel
theorem dX0_hasFact_17 : decode cX0_hasFact 17 = .ok (.if_icmp .ge 7, 3) := by decide +kernel
theorem dX0_hasFact_20 : decode cX0_hasFact 20 = .ok (.iconst 1, 1) := by decide +kernel
theorem dX0_hasFact_21 : decode cX0_hasFact 21 = .ok (.goto 4, 3) := by decide +kernel
theorem dX0_hasFact_24 : decode cX0_hasFact 24 = .ok (.iconst 0, 1) := by decide +kernel
theorem dX0_hasFact_25 : decode cX0_hasFact 25 = .ok (.ireturn, 1) := by decide +kernel
set_option maxRecDepth 20000 in
theorem ggX0_add_X0_isLess : GoodIn wsX0_add wsX0_isLess := goodIn_r _ [11, 12, 13, 14, 10, 15, 2, 16, 17, 18, 23, 24, 25, 26, 27] (by decide +kernel) (by decide +kernel)
set_option maxRecDepth 20000 in
theorem gX0_add_X0_isLess : GoodIn wsX0_add (wsV RX0 27 RX0 yX0_isLess wsX0_isLess) := goodIn_app (goodIn_of _ (by decide +kernel)) ggX0_add_X0_isLess
set_option maxRecDepth 20000 in
theorem ggX0_add_X0_note : GoodIn wsX0_add wsX0_note := goodIn_r _ [22, 2, 16, 17, 10, 18, 23, 24, 25, 26, 27] (by decide +kernel) (by decide +kernel)
set_option maxRecDepth 20000 in
theorem gX0_add_X0_note : GoodIn wsX0_add (wsV RX0 37 RX0 yX0_note wsX0_note) := goodIn_app (goodIn_of _ (by decide +kernel)) ggX0_add_X0_note
theorem dX0_add_0 : decode cX0_add 0 = .ok (.aload_n 0, 1) := by decide +kernel
theorem dX0_add_1 : decode cX0_add 1 = .ok (.getfield 19, 3) := by decide +kernel
theorem dX0_add_4 : decode cX0_add 4 = .ok (.bipush 16, 2) := by decide +kernel
theorem dX0_add_6 : decode cX0_add 6 = .ok (.if_icmp .lt 4, 3) := by decide +kernel
theorem dX0_add_9 : decode cX0_add 9 = .ok (.return_, 1) := by decide +kernel
theorem dX0_add_10 : decode cX0_add 10 = .ok (.aload_n 0, 1) := by decide +kernel
theorem dX0_add_11 : decode cX0_add 11 = .ok (.getfield 19, 3) := by decide +kernel
theorem dX0_add_14 : decode cX0_add 14 = .ok (.istore 5, 2) := by decide +kernel
theorem dX0_add_16 : decode cX0_add 16 = .ok (.iload 5, 2) := by decide +kernel
theorem dX0_add_18 : decode cX0_add 18 = .ok (.ifCond .le 23, 3) := by decide +kernel
theorem dX0_add_21 : decode cX0_add 21 = .ok (.aload_n 0, 1) := by decide +kernel
theorem dX0_add_22 : decode cX0_add 22 = .ok (.iload 5, 2) := by decide +kernel
theorem dX0_add_24 : decode cX0_add 24 = .ok (.iconst 1, 1) := by decide +kernel
theorem dX0_add_25 : decode cX0_add 25 = .ok (.isub, 1) := by decide +kernel
theorem dX0_add_26 : decode cX0_add 26 = .ok (.iload_n 3, 1) := by decide +kernel
theorem dX0_add_27 : decode cX0_add 27 = .ok (.iload 4, 2) := by decide +kernel
theorem dX0_add_29 : decode cX0_add 29 = .ok (.invokevirtual 27, 3) := by decide +kernel
theorem dX0_add_32 : decode cX0_add 32 = .ok (.ifCond .eq 9, 3) := by decide +kernel
theorem dX0_add_35 : decode cX0_add 35 = .ok (.iinc 5 (-1), 3) := by decide +kernel
theorem dX0_add_38 : decode cX0_add 38 = .ok (.goto (-22), 3) := by decide +kernel
theorem dX0_add_41 : decode cX0_add 41 = .ok (.aload_n 0, 1) := by decide +kernel
theorem dX0_add_42 : decode cX0_add 42 = .ok (.getfield 11, 3) := by decide +kernel
theorem dX0_add_45 : decode cX0_add 45 = .ok (.iload 5, 2) := by decide +kernel
theorem dX0_add_47 : decode cX0_add 47 = .ok (.bipush 7, 2) := by decide +kernel
theorem dX0_add_49 : decode cX0_add 49 = .ok (.imul, 1) := by decide +kernel
theorem dX0_add_50 : decode cX0_add 50 = .ok (.aload_n 0, 1) := by decide +kernel
theorem dX0_add_51 : decode cX0_add 51 = .ok (.getfield 11, 3) := by decide +kernel
theorem dX0_add_54 : decode cX0_add 54 = .ok (.iload 5, 2) := by decide +kernel
theorem dX0_add_56 : decode cX0_add 56 = .ok (.iconst 1, 1) := by decide +kernel
theorem dX0_add_57 : decode cX0_add 57 = .ok (.iadd, 1) := by decide +kernel
theorem dX0_add_58 : decode cX0_add 58 = .ok (.bipush 7, 2) := by decide +kernel
theorem dX0_add_60 : decode cX0_add 60 = .ok (.imul, 1) := by decide +kernel
theorem dX0_add_61 : decode cX0_add 61 = .ok (.aload_n 0, 1) := by decide +kernel
theorem dX0_add_62 : decode cX0_add 62 = .ok (.getfield 19, 3) := by decide +kernel
theorem dX0_add_65 : decode cX0_add 65 = .ok (.iload 5, 2) := by decide +kernel
theorem dX0_add_67 : decode cX0_add 67 = .ok (.isub, 1) := by decide +kernel
theorem dX0_add_68 : decode cX0_add 68 = .ok (.bipush 7, 2) := by decide +kernel
theorem dX0_add_70 : decode cX0_add 70 = .ok (.imul, 1) := by decide +kernel
theorem dX0_add_71 : decode cX0_add 71 = .ok (.invokestatic 31, 3) := by decide +kernel
theorem dX0_add_74 : decode cX0_add 74 = .ok (.aload_n 0, 1) := by decide +kernel
theorem dX0_add_75 : decode cX0_add 75 = .ok (.iload 5, 2) := by decide +kernel
theorem dX0_add_77 : decode cX0_add 77 = .ok (.iconst 0, 1) := by decide +kernel
theorem dX0_add_78 : decode cX0_add 78 = .ok (.iload_n 1, 1) := by decide +kernel
theorem dX0_add_79 : decode cX0_add 79 = .ok (.invokevirtual 37, 3) := by decide +kernel
theorem dX0_add_82 : decode cX0_add 82 = .ok (.aload_n 0, 1) := by decide +kernel
theorem dX0_add_83 : decode cX0_add 83 = .ok (.iload 5, 2) := by decide +kernel
theorem dX0_add_85 : decode cX0_add 85 = .ok (.iconst 1, 1) := by decide +kernel
theorem dX0_add_86 : decode cX0_add 86 = .ok (.iload_n 2, 1) := by decide +kernel
theorem dX0_add_87 : decode cX0_add 87 = .ok (.invokevirtual 37, 3) := by decide +kernel
theorem dX0_add_90 : decode cX0_add 90 = .ok (.aload_n 0, 1) := by decide +kernel
theorem dX0_add_91 : decode cX0_add 91 = .ok (.iload 5, 2) := by decide +kernel
theorem dX0_add_93 : decode cX0_add 93 = .ok (.iconst 5, 1) := by decide +kernel
theorem dX0_add_94 : decode cX0_add 94 = .ok (.iload_n 3, 1) := by decide +kernel
theorem dX0_add_95 : decode cX0_add 95 = .ok (.invokevirtual 37, 3) := by decide +kernel
theorem dX0_add_98 : decode cX0_add 98 = .ok (.aload_n 0, 1) := by decide +kernel
theorem dX0_add_99 : decode cX0_add 99 = .ok (.iload 5, 2) := by decide +kernel
theorem dX0_add_101 : decode cX0_add 101 = .ok (.bipush 6, 2) := by decide +kernel
theorem dX0_add_103 : decode cX0_add 103 = .ok (.iload 4, 2) := by decide +kernel
theorem dX0_add_105 : decode cX0_add 105 = .ok (.invokevirtual 37, 3) := by decide +kernel
theorem dX0_add_108 : decode cX0_add 108 = .ok (.aload_n 0, 1) := by decide +kernel
theorem dX0_add_109 : decode cX0_add 109 = .ok (.dup, 1) := by decide +kernel
theorem dX0_add_110 : decode cX0_add 110 = .ok (.getfield 19, 3) := by decide +kernel
theorem dX0_add_113 : decode cX0_add 113 = .ok (.iconst 1, 1) := by decide +kernel
theorem dX0_add_114 : decode cX0_add 114 = .ok (.iadd, 1) := by decide +kernel
theorem dX0_add_115 : decode cX0_add 115 = .ok (.putfield 19, 3) := by decide +kernel
theorem dX0_add_118 : decode cX0_add 118 = .ok (.return_, 1) := by decide +kernel
set_option maxRecDepth 20000 in
theorem ggX0_isLess_X0_fact : GoodIn wsX0_isLess wsX0_fact := goodIn_r _ [5, 6, 7, 8, 4, 9, 10, 11, 12, 13, 14] (by decide +kernel) (by decide +kernel)
set_option maxRecDepth 20000 in
theorem gX0_isLess_X0_fact : GoodIn wsX0_isLess (wsV RX0 41 RX0 yX0_fact wsX0_fact) := goodIn_app (goodIn_of _ (by decide +kernel)) ggX0_isLess_X0_fact
theorem dX0_isLess_0 : decode cX0_isLess 0 = .ok (.aload_n 0, 1) := by decide +kernel
theorem dX0_isLess_1 : decode cX0_isLess 1 = .ok (.iload_n 1, 1) := by decide +kernel
theorem dX0_isLess_2 : decode cX0_isLess 2 = .ok (.bipush 6, 2) := by decide +kernel
theorem dX0_isLess_4 : decode cX0_isLess 4 = .ok (.invokevirtual 41, 3) := by decide +kernel
theorem dX0_isLess_7 : decode cX0_isLess 7 = .ok (.istore 4, 2) := by decide +kernel
theorem dX0_isLess_9 : decode cX0_isLess 9 = .ok (.iload 4, 2) := by decide +kernel
theorem dX0_isLess_11 : decode cX0_isLess 11 = .ok (.iload_n 3, 1) := by decide +kernel
theorem dX0_isLess_12 : decode cX0_isLess 12 = .ok (.if_icmp .lt 19, 3) := by decide +kernel
theorem dX0_isLess_15 : decode cX0_isLess 15 = .ok (.iload 4, 2) := by decide +kernel
theorem dX0_isLess_17 : decode cX0_isLess 17 = .ok (.iload_n 3, 1) := by decide +kernel
theorem dX0_isLess_18 : decode cX0_isLess 18 = .ok (.if_icmp .ne 17, 3) := by decide +kernel
theorem dX0_isLess_21 : decode cX0_isLess 21 = .ok (.aload_n 0, 1) := by decide +kernel
theorem dX0_isLess_22 : decode cX0_isLess 22 = .ok (.iload_n 1, 1) := by decide +kernel
theorem dX0_isLess_23 : decode cX0_isLess 23 = .ok (.iconst 5, 1) := by decide +kernel
theorem dX0_isLess_24 : decode cX0_isLess 24 = .ok (.invokevirtual 41, 3) := by decide +kernel
theorem dX0_isLess_27 : decode cX0_isLess 27 = .ok (.iload_n 2, 1) := by decide +kernel
theorem dX0_isLess_28 : decode cX0_isLess 28 = .ok (.if_icmp .ge 7, 3) := by decide +kernel
theorem dX0_isLess_31 : decode cX0_isLess 31 = .ok (.iconst 1, 1) := by decide +kernel
theorem dX0_isLess_32 : decode cX0_isLess 32 = .ok (.goto 4, 3) := by decide +kernel
theorem dX0_isLess_35 : decode cX0_isLess 35 = .ok (.iconst 0, 1) := by decide +kernel
theorem dX0_isLess_36 : decode cX0_isLess 36 = .ok (.ireturn, 1) := by decide +kernel
set_option maxRecDepth 20000 in
theorem ggX0_layInRows_X0_fact : GoodIn wsX0_layInRows wsX0_fact := goodIn_r _ [9, 10, 11, 12, 8, 13, 21, 22, 23, 24, 25] (by decide +kernel) (by decide +kernel)
set_option maxRecDepth 20000 in
theorem gX0_layInRows_X0_fact : GoodIn wsX0_layInRows (wsV RX0 41 RX0 yX0_fact wsX0_fact) := goodIn_app (goodIn_of _ (by decide +kernel)) ggX0_layInRows_X0_fact
set_option maxRecDepth 20000 in
theorem ggX0_layInRows_X0_note : GoodIn wsX0_layInRows wsX0_note := goodIn_r _ [17, 10, 11, 12, 8, 13, 21, 22, 23, 24, 25] (by decide +kernel) (by decide +kernel)
set_option maxRecDepth 20000 in
theorem gX0_layInRows_X0_note : GoodIn wsX0_layInRows (wsV RX0 37 RX0 yX0_note wsX0_note) := goodIn_app (goodIn_of _ (by decide +kernel)) ggX0_layInRows_X0_note
set_option maxRecDepth 20000 in
theorem ggX0_layInRows_X0_quotientCutUp : GoodIn wsX0_layInRows wsX0_quotientCutUp := goodIn_r _ [20] (by decide +kernel) (by decide +kernel)
set_option maxRecDepth 20000 in
theorem gX0_layInRows_X0_quotientCutUp : GoodIn wsX0_layInRows (va_wsS RX0 48 yX0_quotientCutUp wsX0_quotientCutUp) := goodIn_app (goodIn_of _ (by decide +kernel)) ggX0_layInRows_X0_quotientCutUp
theorem dX0_layInRows_0 : decode cX0_layInRows 0 = .ok (.iconst 0, 1) := by decide +kernel
theorem dX0_layInRows_1 : decode cX0_layInRows 1 = .ok (.istore_n 3, 1) := by decide +kernel
theorem dX0_layInRows_2 : decode cX0_layInRows 2 = .ok (.iconst 0, 1) := by decide +kernel
theorem dX0_layInRows_3 : decode cX0_layInRows 3 = .ok (.istore 4, 2) := by decide +kernel
theorem dX0_layInRows_5 : decode cX0_layInRows 5 = .ok (.iconst 0, 1) := by decide +kernel
theorem dX0_layInRows_6 : decode cX0_layInRows 6 = .ok (.istore 5, 2) := by decide +kernel
theorem dX0_layInRows_8 : decode cX0_layInRows 8 = .ok (.iload_n 1, 1) := by decide +kernel
theorem dX0_layInRows_9 : decode cX0_layInRows 9 = .ok (.istore 6, 2) := by decide +kernel
theorem dX0_layInRows_11 : decode cX0_layInRows 11 = .ok (.iconst 0, 1) := by decide +kernel
theorem dX0_layInRows_12 : decode cX0_layInRows 12 = .ok (.istore 7, 2) := by decide +kernel
theorem dX0_layInRows_14 : decode cX0_layInRows 14 = .ok (.iconst 0, 1) := by decide +kernel
theorem dX0_layInRows_15 : decode cX0_layInRows 15 = .ok (.istore 8, 2) := by decide +kernel
theorem dX0_layInRows_17 : decode cX0_layInRows 17 = .ok (.iload 8, 2) := by decide +kernel
theorem dX0_layInRows_19 : decode cX0_layInRows 19 = .ok (.aload_n 0, 1) := by decide +kernel
theorem dX0_layInRows_20 : decode cX0_layInRows 20 = .ok (.getfield 19, 3) := by decide +kernel
theorem dX0_layInRows_23 : decode cX0_layInRows 23 = .ok (.if_icmp .ge 109, 3) := by decide +kernel
theorem dX0_layInRows_26 : decode cX0_layInRows 26 = .ok (.aload_n 0, 1) := by decide +kernel
theorem dX0_layInRows_27 : decode cX0_layInRows 27 = .ok (.iload 8, 2) := by decide +kernel
theorem dX0_layInRows_29 : decode cX0_layInRows 29 = .ok (.iconst 5, 1) := by decide +kernel
theorem dX0_layInRows_30 : decode cX0_layInRows 30 = .ok (.invokevirtual 41, 3) := by decide +kernel
theorem dX0_layInRows_33 : decode cX0_layInRows 33 = .ok (.istore 9, 2) := by decide +kernel
theorem dX0_layInRows_35 : decode cX0_layInRows 35 = .ok (.aload_n 0, 1) := by decide +kernel
theorem dX0_layInRows_36 : decode cX0_layInRows 36 = .ok (.iload 8, 2) := by decide +kernel
theorem dX0_layInRows_38 : decode cX0_layInRows 38 = .ok (.bipush 6, 2) := by decide +kernel
theorem dX0_layInRows_40 : decode cX0_layInRows 40 = .ok (.invokevirtual 41, 3) := by decide +kernel
theorem dX0_layInRows_43 : decode cX0_layInRows 43 = .ok (.istore 10, 2) := by decide +kernel
theorem dX0_layInRows_45 : decode cX0_layInRows 45 = .ok (.iload 6, 2) := by decide +kernel
theorem dX0_layInRows_47 : decode cX0_layInRows 47 = .ok (.iload 9, 2) := by decide +kernel
theorem dX0_layInRows_49 : decode cX0_layInRows 49 = .ok (.iadd, 1) := by decide +kernel
theorem dX0_layInRows_50 : decode cX0_layInRows 50 = .ok (.iload_n 1, 1) := by decide +kernel
theorem dX0_layInRows_51 : decode cX0_layInRows 51 = .ok (.if_icmp .le 32, 3) := by decide +kernel
theorem dX0_layInRows_54 : decode cX0_layInRows 54 = .ok (.iconst 0, 1) := by decide +kernel
theorem dX0_layInRows_55 : decode cX0_layInRows 55 = .ok (.istore 6, 2) := by decide +kernel
theorem dX0_layInRows_57 : decode cX0_layInRows 57 = .ok (.iload 4, 2) := by decide +kernel
theorem dX0_layInRows_59 : decode cX0_layInRows 59 = .ok (.iload 5, 2) := by decide +kernel
theorem dX0_layInRows_61 : decode cX0_layInRows 61 = .ok (.iadd, 1) := by decide +kernel
theorem dX0_layInRows_62 : decode cX0_layInRows 62 = .ok (.istore 4, 2) := by decide +kernel
theorem dX0_layInRows_64 : decode cX0_layInRows 64 = .ok (.iload 10, 2) := by decide +kernel
theorem dX0_layInRows_66 : decode cX0_layInRows 66 = .ok (.istore 5, 2) := by decide +kernel
theorem dX0_layInRows_68 : decode cX0_layInRows 68 = .ok (.iload 4, 2) := by decide +kernel
theorem dX0_layInRows_70 : decode cX0_layInRows 70 = .ok (.iload 10, 2) := by decide +kernel
theorem dX0_layInRows_72 : decode cX0_layInRows 72 = .ok (.iadd, 1) := by decide +kernel
theorem dX0_layInRows_73 : decode cX0_layInRows 73 = .ok (.iload_n 2, 1) := by decide +kernel
theorem dX0_layInRows_74 : decode cX0_layInRows 74 = .ok (.if_icmp .le 9, 3) := by decide +kernel
theorem dX0_layInRows_77 : decode cX0_layInRows 77 = .ok (.iconst 0, 1) := by decide +kernel
theorem dX0_layInRows_78 : decode cX0_layInRows 78 = .ok (.istore 4, 2) := by decide +kernel
theorem dX0_layInRows_80 : decode cX0_layInRows 80 = .ok (.iinc 3 1, 3) := by decide +kernel
theorem dX0_layInRows_83 : decode cX0_layInRows 83 = .ok (.aload_n 0, 1) := by decide +kernel
theorem dX0_layInRows_84 : decode cX0_layInRows 84 = .ok (.iload 8, 2) := by decide +kernel
theorem dX0_layInRows_86 : decode cX0_layInRows 86 = .ok (.iconst 2, 1) := by decide +kernel
theorem dX0_layInRows_87 : decode cX0_layInRows 87 = .ok (.iload_n 3, 1) := by decide +kernel
theorem dX0_layInRows_88 : decode cX0_layInRows 88 = .ok (.invokevirtual 37, 3) := by decide +kernel
theorem dX0_layInRows_91 : decode cX0_layInRows 91 = .ok (.aload_n 0, 1) := by decide +kernel
theorem dX0_layInRows_92 : decode cX0_layInRows 92 = .ok (.iload 8, 2) := by decide +kernel
theorem dX0_layInRows_94 : decode cX0_layInRows 94 = .ok (.iconst 3, 1) := by decide +kernel
theorem dX0_layInRows_95 : decode cX0_layInRows 95 = .ok (.iload 6, 2) := by decide +kernel
theorem dX0_layInRows_97 : decode cX0_layInRows 97 = .ok (.invokevirtual 37, 3) := by decide +kernel
theorem dX0_layInRows_100 : decode cX0_layInRows 100 = .ok (.aload_n 0, 1) := by decide +kernel
theorem dX0_layInRows_101 : decode cX0_layInRows 101 = .ok (.iload 8, 2) := by decide +kernel
theorem dX0_layInRows_103 : decode cX0_layInRows 103 = .ok (.iconst 4, 1) := by decide +kernel
theorem dX0_layInRows_104 : decode cX0_layInRows 104 = .ok (.iload 4, 2) := by decide +kernel
theorem dX0_layInRows_106 : decode cX0_layInRows 106 = .ok (.invokevirtual 37, 3) := by decide +kernel
theorem dX0_layInRows_109 : decode cX0_layInRows 109 = .ok (.iload 6, 2) := by decide +kernel
theorem dX0_layInRows_111 : decode cX0_layInRows 111 = .ok (.iload 9, 2) := by decide +kernel
theorem dX0_layInRows_113 : decode cX0_layInRows 113 = .ok (.iadd, 1) := by decide +kernel
theorem dX0_layInRows_114 : decode cX0_layInRows 114 = .ok (.istore 6, 2) := by decide +kernel
theorem dX0_layInRows_116 : decode cX0_layInRows 116 = .ok (.iload 7, 2) := by decide +kernel
theorem dX0_layInRows_118 : decode cX0_layInRows 118 = .ok (.iload 9, 2) := by decide +kernel
theorem dX0_layInRows_120 : decode cX0_layInRows 120 = .ok (.iload 10, 2) := by decide +kernel
theorem dX0_layInRows_122 : decode cX0_layInRows 122 = .ok (.imul, 1) := by decide +kernel
theorem dX0_layInRows_123 : decode cX0_layInRows 123 = .ok (.iadd, 1) := by decide +kernel
theorem dX0_layInRows_124 : decode cX0_layInRows 124 = .ok (.istore 7, 2) := by decide +kernel
theorem dX0_layInRows_126 : decode cX0_layInRows 126 = .ok (.iinc 8 1, 3) := by decide +kernel
theorem dX0_layInRows_129 : decode cX0_layInRows 129 = .ok (.goto (-112), 3) := by decide +kernel
theorem dX0_layInRows_132 : decode cX0_layInRows 132 = .ok (.aload_n 0, 1) := by decide +kernel
theorem dX0_layInRows_133 : decode cX0_layInRows 133 = .ok (.aload_n 0, 1) := by decide +kernel
theorem dX0_layInRows_134 : decode cX0_layInRows 134 = .ok (.getfield 19, 3) := by decide +kernel
theorem dX0_layInRows_137 : decode cX0_layInRows 137 = .ok (.ifCond .ne 7, 3) := by decide +kernel
theorem dX0_layInRows_140 : decode cX0_layInRows 140 = .ok (.iconst 0, 1) := by decide +kernel
theorem dX0_layInRows_141 : decode cX0_layInRows 141 = .ok (.goto 6, 3) := by decide +kernel
theorem dX0_layInRows_144 : decode cX0_layInRows 144 = .ok (.iload_n 3, 1) := by decide +kernel
theorem dX0_layInRows_145 : decode cX0_layInRows 145 = .ok (.iconst 1, 1) := by decide +kernel
theorem dX0_layInRows_146 : decode cX0_layInRows 146 = .ok (.iadd, 1) := by decide +kernel
theorem dX0_layInRows_147 : decode cX0_layInRows 147 = .ok (.putfield 45, 3) := by decide +kernel
theorem dX0_layInRows_150 : decode cX0_layInRows 150 = .ok (.aload_n 0, 1) := by decide +kernel
theorem dX0_layInRows_151 : decode cX0_layInRows 151 = .ok (.iload 7, 2) := by decide +kernel
theorem dX0_layInRows_153 : decode cX0_layInRows 153 = .ok (.iload_n 1, 1) := by decide +kernel
theorem dX0_layInRows_154 : decode cX0_layInRows 154 = .ok (.iload_n 2, 1) := by decide +kernel
theorem dX0_layInRows_155 : decode cX0_layInRows 155 = .ok (.imul, 1) := by decide +kernel
theorem dX0_layInRows_156 : decode cX0_layInRows 156 = .ok (.invokestatic 48, 3) := by decide +kernel
theorem dX0_layInRows_159 : decode cX0_layInRows 159 = .ok (.putfield 51, 3) := by decide +kernel
theorem dX0_layInRows_162 : decode cX0_layInRows 162 = .ok (.aload_n 0, 1) := by decide +kernel
theorem dX0_layInRows_163 : decode cX0_layInRows 163 = .ok (.iconst 1, 1) := by decide +kernel
theorem dX0_layInRows_164 : decode cX0_layInRows 164 = .ok (.putfield 15, 3) := by decide +kernel
theorem dX0_layInRows_167 : decode cX0_layInRows 167 = .ok (.return_, 1) := by decide +kernel
theorem dX0_quotientCutUp_0 : decode cX0_quotientCutUp 0 = .ok (.iload_n 1, 1) := by decide +kernel
theorem dX0_quotientCutUp_1 : decode cX0_quotientCutUp 1 = .ok (.iconst 1, 1) := by decide +kernel
theorem dX0_quotientCutUp_2 : decode cX0_quotientCutUp 2 = .ok (.if_icmp .ge 7, 3) := by decide +kernel
theorem dX0_quotientCutUp_5 : decode cX0_quotientCutUp 5 = .ok (.iconst 0, 1) := by decide +kernel
theorem dX0_quotientCutUp_6 : decode cX0_quotientCutUp 6 = .ok (.goto 10, 3) := by decide +kernel
theorem dX0_quotientCutUp_9 : decode cX0_quotientCutUp 9 = .ok (.iload_n 0, 1) := by decide +kernel
theorem dX0_quotientCutUp_10 : decode cX0_quotientCutUp 10 = .ok (.iload_n 1, 1) := by decide +kernel
theorem dX0_quotientCutUp_11 : decode cX0_quotientCutUp 11 = .ok (.iadd, 1) := by decide +kernel
theorem dX0_quotientCutUp_12 : decode cX0_quotientCutUp 12 = .ok (.iconst 1, 1) := by decide +kernel
theorem dX0_quotientCutUp_13 : decode cX0_quotientCutUp 13 = .ok (.isub, 1) := by decide +kernel
theorem dX0_quotientCutUp_14 : decode cX0_quotientCutUp 14 = .ok (.iload_n 1, 1) := by decide +kernel
theorem dX0_quotientCutUp_15 : decode cX0_quotientCutUp 15 = .ok (.idiv, 1) := by decide +kernel
theorem dX0_quotientCutUp_16 : decode cX0_quotientCutUp 16 = .ok (.ireturn, 1) := by decide +kernel
theorem dX1_hasBit_0 : decode cX1_hasBit 0 = .ok (.iload_n 1, 1) := by decide +kernel
theorem dX1_hasBit_1 : decode cX1_hasBit 1 = .ok (.ifCond .lt 22, 3) := by decide +kernel
theorem dX1_hasBit_4 : decode cX1_hasBit 4 = .ok (.iload_n 1, 1) := by decide +kernel
theorem dX1_hasBit_5 : decode cX1_hasBit 5 = .ok (.bipush 8, 2) := by decide +kernel
theorem dX1_hasBit_7 : decode cX1_hasBit 7 = .ok (.if_icmp .ge 16, 3) := by decide +kernel
theorem dX1_hasBit_10 : decode cX1_hasBit 10 = .ok (.iload_n 0, 1) := by decide +kernel
theorem dX1_hasBit_11 : decode cX1_hasBit 11 = .ok (.iload_n 1, 1) := by decide +kernel
theorem dX1_hasBit_12 : decode cX1_hasBit 12 = .ok (.ishr, 1) := by decide +kernel
theorem dX1_hasBit_13 : decode cX1_hasBit 13 = .ok (.iconst 1, 1) := by decide +kernel
theorem dX1_hasBit_14 : decode cX1_hasBit 14 = .ok (.iand, 1) := by decide +kernel
theorem dX1_hasBit_15 : decode cX1_hasBit 15 = .ok (.iconst 1, 1) := by decide +kernel
theorem dX1_hasBit_16 : decode cX1_hasBit 16 = .ok (.if_icmp .ne 7, 3) := by decide +kernel
theorem dX1_hasBit_19 : decode cX1_hasBit 19 = .ok (.iconst 1, 1) := by decide +kernel
theorem dX1_hasBit_20 : decode cX1_hasBit 20 = .ok (.goto 4, 3) := by decide +kernel
theorem dX1_hasBit_23 : decode cX1_hasBit 23 = .ok (.iconst 0, 1) := by decide +kernel
theorem dX1_hasBit_24 : decode cX1_hasBit 24 = .ok (.ireturn, 1) := by decide +kernel
theorem dX1_bitsBetween_0 : decode cX1_bitsBetween 0 = .ok (.iconst 0, 1) := by decide +kernel
theorem dX1_bitsBetween_1 : decode cX1_bitsBetween 1 = .ok (.istore_n 2, 1) := by decide +kernel
theorem dX1_bitsBetween_2 : decode cX1_bitsBetween 2 = .ok (.iload_n 0, 1) := by decide +kernel
theorem dX1_bitsBetween_3 : decode cX1_bitsBetween 3 = .ok (.iconst 0, 1) := by decide +kernel
theorem dX1_bitsBetween_4 : decode cX1_bitsBetween 4 = .ok (.invokestatic 11, 3) := by decide +kernel
theorem dX1_bitsBetween_7 : decode cX1_bitsBetween 7 = .ok (.istore_n 3, 1) := by decide +kernel
theorem dX1_bitsBetween_8 : decode cX1_bitsBetween 8 = .ok (.iload_n 3, 1) := by decide +kernel
theorem dX1_bitsBetween_9 : decode cX1_bitsBetween 9 = .ok (.iload_n 1, 1) := by decide +kernel
theorem dX1_bitsBetween_10 : decode cX1_bitsBetween 10 = .ok (.bipush 8, 2) := by decide +kernel
theorem dX1_bitsBetween_12 : decode cX1_bitsBetween 12 = .ok (.invokestatic 17, 3) := by decide +kernel
theorem dX1_bitsBetween_15 : decode cX1_bitsBetween 15 = .ok (.if_icmp .ge 15, 3) := by decide +kernel
theorem dX1_bitsBetween_18 : decode cX1_bitsBetween 18 = .ok (.iload_n 2, 1) := by decide +kernel
theorem dX1_bitsBetween_19 : decode cX1_bitsBetween 19 = .ok (.iconst 1, 1) := by decide +kernel
theorem dX1_bitsBetween_20 : decode cX1_bitsBetween 20 = .ok (.iload_n 3, 1) := by decide +kernel
theorem dX1_bitsBetween_21 : decode cX1_bitsBetween 21 = .ok (.ishl, 1) := by decide +kernel
theorem dX1_bitsBetween_22 : decode cX1_bitsBetween 22 = .ok (.ior, 1) := by decide +kernel
theorem dX1_bitsBetween_23 : decode cX1_bitsBetween 23 = .ok (.istore_n 2, 1) := by decide +kernel
theorem dX1_bitsBetween_24 : decode cX1_bitsBetween 24 = .ok (.iinc 3 1, 3) := by decide +kernel
theorem dX1_bitsBetween_27 : decode cX1_bitsBetween 27 = .ok (.goto (-19), 3) := by decide +kernel
theorem dX1_bitsBetween_30 : decode cX1_bitsBetween 30 = .ok (.iload_n 2, 1) := by decide +kernel
theorem dX1_bitsBetween_31 : decode cX1_bitsBetween 31 = .ok (.ireturn, 1) := by decide +kernel
set_option maxRecDepth 20000 in
theorem ggX1_beginsRun_X1_hasBit : GoodIn wsX1_beginsRun wsX1_hasBit := goodIn_r _ [4] (by decide +kernel) (by decide +kernel)
set_option maxRecDepth 20000 in
theorem gX1_beginsRun_X1_hasBit : GoodIn wsX1_beginsRun (va_wsS RX1 20 yX1_hasBit wsX1_hasBit) := goodIn_app (goodIn_of _ (by decide +kernel)) ggX1_beginsRun_X1_hasBit
theorem dX1_beginsRun_0 : decode cX1_beginsRun 0 = .ok (.iload_n 0, 1) := by decide +kernel
theorem dX1_beginsRun_1 : decode cX1_beginsRun 1 = .ok (.iload_n 1, 1) := by decide +kernel
theorem dX1_beginsRun_2 : decode cX1_beginsRun 2 = .ok (.invokestatic 20, 3) := by decide +kernel
theorem dX1_beginsRun_5 : decode cX1_beginsRun 5 = .ok (.ifCond .eq 17, 3) := by decide +kernel
theorem dX1_beginsRun_8 : decode cX1_beginsRun 8 = .ok (.iload_n 0, 1) := by decide +kernel
theorem dX1_beginsRun_9 : decode cX1_beginsRun 9 = .ok (.iload_n 1, 1) := by decide +kernel
theorem dX1_beginsRun_10 : decode cX1_beginsRun 10 = .ok (.iconst 1, 1) := by decide +kernel
theorem dX1_beginsRun_11 : decode cX1_beginsRun 11 = .ok (.isub, 1) := by decide +kernel
theorem dX1_beginsRun_12 : decode cX1_beginsRun 12 = .ok (.invokestatic 20, 3) := by decide +kernel
theorem dX1_beginsRun_15 : decode cX1_beginsRun 15 = .ok (.ifCond .ne 7, 3) := by decide +kernel
theorem dX1_beginsRun_18 : decode cX1_beginsRun 18 = .ok (.iconst 1, 1) := by decide +kernel
theorem dX1_beginsRun_19 : decode cX1_beginsRun 19 = .ok (.goto 4, 3) := by decide +kernel
theorem dX1_beginsRun_22 : decode cX1_beginsRun 22 = .ok (.iconst 0, 1) := by decide +kernel
theorem dX1_beginsRun_23 : decode cX1_beginsRun 23 = .ok (.ireturn, 1) := by decide +kernel
set_option maxRecDepth 20000 in
theorem ggX1_runCount_J6_bitCount_0f7a4 : GoodIn wsX1_runCount wsJ6_bitCount_0f7a4 := goodIn_r _ [4, 5, 6, 7] (by decide +kernel) (by decide +kernel)
set_option maxRecDepth 20000 in
theorem gX1_runCount_J6_bitCount_0f7a4 : GoodIn wsX1_runCount (va_wsS RX1 24 yJ6_bitCount_0f7a4 wsJ6_bitCount_0f7a4) := goodIn_app (goodIn_of _ (by decide +kernel)) ggX1_runCount_J6_bitCount_0f7a4
theorem dX1_runCount_0 : decode cX1_runCount 0 = .ok (.iload_n 0, 1) := by decide +kernel
theorem dX1_runCount_1 : decode cX1_runCount 1 = .ok (.iload_n 0, 1) := by decide +kernel
theorem dX1_runCount_2 : decode cX1_runCount 2 = .ok (.iconst 1, 1) := by decide +kernel
theorem dX1_runCount_3 : decode cX1_runCount 3 = .ok (.ishl, 1) := by decide +kernel
theorem dX1_runCount_4 : decode cX1_runCount 4 = .ok (.iconst (-1), 1) := by decide +kernel
theorem dX1_runCount_5 : decode cX1_runCount 5 = .ok (.ixor, 1) := by decide +kernel
theorem dX1_runCount_6 : decode cX1_runCount 6 = .ok (.iand, 1) := by decide +kernel
theorem dX1_runCount_7 : decode cX1_runCount 7 = .ok (.invokestatic 24, 3) := by decide +kernel
theorem dX1_runCount_10 : decode cX1_runCount 10 = .ok (.ireturn, 1) := by decide +kernel
set_option maxRecDepth 20000 in
theorem ggX1_runLength_X1_hasBit : GoodIn wsX1_runLength wsX1_hasBit := goodIn_r _ [4] (by decide +kernel) (by decide +kernel)
set_option maxRecDepth 20000 in
theorem gX1_runLength_X1_hasBit : GoodIn wsX1_runLength (va_wsS RX1 20 yX1_hasBit wsX1_hasBit) := goodIn_app (goodIn_of _ (by decide +kernel)) ggX1_runLength_X1_hasBit
theorem dX1_runLength_0 : decode cX1_runLength 0 = .ok (.iconst 0, 1) := by decide +kernel
theorem dX1_runLength_1 : decode cX1_runLength 1 = .ok (.istore_n 2, 1) := by decide +kernel
theorem dX1_runLength_2 : decode cX1_runLength 2 = .ok (.iload_n 2, 1) := by decide +kernel
theorem dX1_runLength_3 : decode cX1_runLength 3 = .ok (.bipush 8, 2) := by decide +kernel
theorem dX1_runLength_5 : decode cX1_runLength 5 = .ok (.if_icmp .ge 19, 3) := by decide +kernel
theorem dX1_runLength_8 : decode cX1_runLength 8 = .ok (.iload_n 0, 1) := by decide +kernel
theorem dX1_runLength_9 : decode cX1_runLength 9 = .ok (.iload_n 1, 1) := by decide +kernel
theorem dX1_runLength_10 : decode cX1_runLength 10 = .ok (.iload_n 2, 1) := by decide +kernel
theorem dX1_runLength_11 : decode cX1_runLength 11 = .ok (.iadd, 1) := by decide +kernel
theorem dX1_runLength_12 : decode cX1_runLength 12 = .ok (.invokestatic 20, 3) := by decide +kernel
theorem dX1_runLength_15 : decode cX1_runLength 15 = .ok (.ifCond .eq 9, 3) := by decide +kernel
theorem dX1_runLength_18 : decode cX1_runLength 18 = .ok (.iinc 2 1, 3) := by decide +kernel
theorem dX1_runLength_21 : decode cX1_runLength 21 = .ok (.goto (-19), 3) := by decide +kernel
theorem dX1_runLength_24 : decode cX1_runLength 24 = .ok (.iload_n 2, 1) := by decide +kernel
theorem dX1_runLength_25 : decode cX1_runLength 25 = .ok (.ireturn, 1) := by decide +kernel
set_option maxRecDepth 20000 in
theorem ggX1_upperHalves_X1_beginsRun : GoodIn wsX1_upperHalves wsX1_beginsRun := goodIn_r _ [4, 5, 6, 3, 7] (by decide +kernel) (by decide +kernel)
set_option maxRecDepth 20000 in
theorem gX1_upperHalves_X1_beginsRun : GoodIn wsX1_upperHalves (va_wsS RX1 30 yX1_beginsRun wsX1_beginsRun) := goodIn_app (goodIn_of _ (by decide +kernel)) ggX1_upperHalves_X1_beginsRun
set_option maxRecDepth 20000 in
theorem ggX1_upperHalves_X1_runLength : GoodIn wsX1_upperHalves wsX1_runLength := goodIn_r _ [10, 5, 6, 3, 7] (by decide +kernel) (by decide +kernel)
set_option maxRecDepth 20000 in
theorem gX1_upperHalves_X1_runLength : GoodIn wsX1_upperHalves (va_wsS RX1 33 yX1_runLength wsX1_runLength) := goodIn_app (goodIn_of _ (by decide +kernel)) ggX1_upperHalves_X1_runLength
set_option maxRecDepth 20000 in
theorem ggX1_upperHalves_X1_bitsBetween : GoodIn wsX1_upperHalves wsX1_bitsBetween := goodIn_r _ [13, 14, 15, 16, 17, 18, 19, 20] (by decide +kernel) (by decide +kernel)
set_option maxRecDepth 20000 in
theorem gX1_upperHalves_X1_bitsBetween : GoodIn wsX1_upperHalves (va_wsS RX1 36 yX1_bitsBetween wsX1_bitsBetween) := goodIn_app (goodIn_of _ (by decide +kernel)) ggX1_upperHalves_X1_bitsBetween
theorem dX1_upperHalves_0 : decode cX1_upperHalves 0 = .ok (.iconst 0, 1) := by decide +kernel
theorem dX1_upperHalves_1 : decode cX1_upperHalves 1 = .ok (.istore_n 1, 1) := by decide +kernel
theorem dX1_upperHalves_2 : decode cX1_upperHalves 2 = .ok (.iconst 0, 1) := by decide +kernel
theorem dX1_upperHalves_3 : decode cX1_upperHalves 3 = .ok (.istore_n 2, 1) := by decide +kernel
theorem dX1_upperHalves_4 : decode cX1_upperHalves 4 = .ok (.iload_n 2, 1) := by decide +kernel
theorem dX1_upperHalves_5 : decode cX1_upperHalves 5 = .ok (.bipush 8, 2) := by decide +kernel
theorem dX1_upperHalves_7 : decode cX1_upperHalves 7 = .ok (.if_icmp .ge 39, 3) := by decide +kernel
theorem dX1_upperHalves_10 : decode cX1_upperHalves 10 = .ok (.iload_n 0, 1) := by decide +kernel
theorem dX1_upperHalves_11 : decode cX1_upperHalves 11 = .ok (.iload_n 2, 1) := by decide +kernel
theorem dX1_upperHalves_12 : decode cX1_upperHalves 12 = .ok (.invokestatic 30, 3) := by decide +kernel
theorem dX1_upperHalves_15 : decode cX1_upperHalves 15 = .ok (.ifCond .eq 25, 3) := by decide +kernel
theorem dX1_upperHalves_18 : decode cX1_upperHalves 18 = .ok (.iload_n 0, 1) := by decide +kernel
theorem dX1_upperHalves_19 : decode cX1_upperHalves 19 = .ok (.iload_n 2, 1) := by decide +kernel
theorem dX1_upperHalves_20 : decode cX1_upperHalves 20 = .ok (.invokestatic 33, 3) := by decide +kernel
theorem dX1_upperHalves_23 : decode cX1_upperHalves 23 = .ok (.istore_n 3, 1) := by decide +kernel
theorem dX1_upperHalves_24 : decode cX1_upperHalves 24 = .ok (.iload_n 1, 1) := by decide +kernel
theorem dX1_upperHalves_25 : decode cX1_upperHalves 25 = .ok (.iload_n 2, 1) := by decide +kernel
theorem dX1_upperHalves_26 : decode cX1_upperHalves 26 = .ok (.iload_n 3, 1) := by decide +kernel
theorem dX1_upperHalves_27 : decode cX1_upperHalves 27 = .ok (.iadd, 1) := by decide +kernel
theorem dX1_upperHalves_28 : decode cX1_upperHalves 28 = .ok (.iload_n 3, 1) := by decide +kernel
theorem dX1_upperHalves_29 : decode cX1_upperHalves 29 = .ok (.iconst 2, 1) := by decide +kernel
theorem dX1_upperHalves_30 : decode cX1_upperHalves 30 = .ok (.idiv, 1) := by decide +kernel
theorem dX1_upperHalves_31 : decode cX1_upperHalves 31 = .ok (.isub, 1) := by decide +kernel
theorem dX1_upperHalves_32 : decode cX1_upperHalves 32 = .ok (.iload_n 2, 1) := by decide +kernel
theorem dX1_upperHalves_33 : decode cX1_upperHalves 33 = .ok (.iload_n 3, 1) := by decide +kernel
theorem dX1_upperHalves_34 : decode cX1_upperHalves 34 = .ok (.iadd, 1) := by decide +kernel
theorem dX1_upperHalves_35 : decode cX1_upperHalves 35 = .ok (.invokestatic 36, 3) := by decide +kernel
theorem dX1_upperHalves_38 : decode cX1_upperHalves 38 = .ok (.ior, 1) := by decide +kernel
theorem dX1_upperHalves_39 : decode cX1_upperHalves 39 = .ok (.istore_n 1, 1) := by decide +kernel
theorem dX1_upperHalves_40 : decode cX1_upperHalves 40 = .ok (.iinc 2 1, 3) := by decide +kernel
theorem dX1_upperHalves_43 : decode cX1_upperHalves 43 = .ok (.goto (-39), 3) := by decide +kernel
theorem dX1_upperHalves_46 : decode cX1_upperHalves 46 = .ok (.iload_n 1, 1) := by decide +kernel
theorem dX1_upperHalves_47 : decode cX1_upperHalves 47 = .ok (.ireturn, 1) := by decide +kernel
set_option maxRecDepth 20000 in
theorem ggX1_span_X1_hasBit : GoodIn wsX1_span wsX1_hasBit := goodIn_r _ [4] (by decide +kernel) (by decide +kernel)
set_option maxRecDepth 20000 in
theorem gX1_span_X1_hasBit : GoodIn wsX1_span (va_wsS RX1 20 yX1_hasBit wsX1_hasBit) := goodIn_app (goodIn_of _ (by decide +kernel)) ggX1_span_X1_hasBit
theorem dX1_span_0 : decode cX1_span 0 = .ok (.iconst 0, 1) := by decide +kernel
theorem dX1_span_1 : decode cX1_span 1 = .ok (.istore_n 1, 1) := by decide +kernel
theorem dX1_span_2 : decode cX1_span 2 = .ok (.iconst 0, 1) := by decide +kernel
theorem dX1_span_3 : decode cX1_span 3 = .ok (.istore_n 2, 1) := by decide +kernel
theorem dX1_span_4 : decode cX1_span 4 = .ok (.iconst 0, 1) := by decide +kernel
theorem dX1_span_5 : decode cX1_span 5 = .ok (.istore_n 3, 1) := by decide +kernel
theorem dX1_span_6 : decode cX1_span 6 = .ok (.iload_n 3, 1) := by decide +kernel
theorem dX1_span_7 : decode cX1_span 7 = .ok (.bipush 8, 2) := by decide +kernel
theorem dX1_span_9 : decode cX1_span 9 = .ok (.if_icmp .ge 31, 3) := by decide +kernel
theorem dX1_span_12 : decode cX1_span 12 = .ok (.iload_n 0, 1) := by decide +kernel
theorem dX1_span_13 : decode cX1_span 13 = .ok (.iload_n 3, 1) := by decide +kernel
theorem dX1_span_14 : decode cX1_span 14 = .ok (.invokestatic 20, 3) := by decide +kernel
theorem dX1_span_17 : decode cX1_span 17 = .ok (.ifCond .eq 17, 3) := by decide +kernel
theorem dX1_span_20 : decode cX1_span 20 = .ok (.iload_n 2, 1) := by decide +kernel
theorem dX1_span_21 : decode cX1_span 21 = .ok (.ifCond .ne 7, 3) := by decide +kernel
theorem dX1_span_24 : decode cX1_span 24 = .ok (.iload_n 3, 1) := by decide +kernel
theorem dX1_span_25 : decode cX1_span 25 = .ok (.goto 4, 3) := by decide +kernel
theorem dX1_span_28 : decode cX1_span 28 = .ok (.iload_n 1, 1) := by decide +kernel
theorem dX1_span_29 : decode cX1_span 29 = .ok (.istore_n 1, 1) := by decide +kernel
theorem dX1_span_30 : decode cX1_span 30 = .ok (.iload_n 3, 1) := by decide +kernel
theorem dX1_span_31 : decode cX1_span 31 = .ok (.iconst 1, 1) := by decide +kernel
theorem dX1_span_32 : decode cX1_span 32 = .ok (.iadd, 1) := by decide +kernel
theorem dX1_span_33 : decode cX1_span 33 = .ok (.istore_n 2, 1) := by decide +kernel
theorem dX1_span_34 : decode cX1_span 34 = .ok (.iinc 3 1, 3) := by decide +kernel
theorem dX1_span_37 : decode cX1_span 37 = .ok (.goto (-31), 3) := by decide +kernel
theorem dX1_span_40 : decode cX1_span 40 = .ok (.iload_n 2, 1) := by decide +kernel
theorem dX1_span_41 : decode cX1_span 41 = .ok (.iload_n 1, 1) := by decide +kernel
theorem dX1_span_42 : decode cX1_span 42 = .ok (.isub, 1) := by decide +kernel
theorem dX1_span_43 : decode cX1_span 43 = .ok (.ireturn, 1) := by decide +kernel
set_option maxRecDepth 20000 in
theorem ggX2_partCount_X2_partsClearOf : GoodIn wsX2_partCount wsX2_partsClearOf := goodIn_r _ [4, 5, 6, 7, 3, 8, 9, 10, 11, 12, 13] (by decide +kernel) (by decide +kernel)
set_option maxRecDepth 20000 in
theorem gX2_partCount_X2_partsClearOf : GoodIn wsX2_partCount (va_wsS RX2 9 yX2_partsClearOf wsX2_partsClearOf) := goodIn_app (goodIn_of _ (by decide +kernel)) ggX2_partCount_X2_partsClearOf
theorem dX2_partCount_0 : decode cX2_partCount 0 = .ok (.lload_n 0, 1) := by decide +kernel
theorem dX2_partCount_1 : decode cX2_partCount 1 = .ok (.lconst 0, 1) := by decide +kernel
theorem dX2_partCount_2 : decode cX2_partCount 2 = .ok (.invokestatic 9, 3) := by decide +kernel
theorem dX2_partCount_5 : decode cX2_partCount 5 = .ok (.ireturn, 1) := by decide +kernel
set_option maxRecDepth 20000 in
theorem ggX2_partsClearOf_X2_partAround : GoodIn wsX2_partsClearOf wsX2_partAround := goodIn_r _ [5, 6, 7, 4, 8, 9, 10] (by decide +kernel) (by decide +kernel)
set_option maxRecDepth 20000 in
theorem gX2_partsClearOf_X2_partAround : GoodIn wsX2_partsClearOf (va_wsS RX2 13 yX2_partAround wsX2_partAround) := goodIn_app (goodIn_of _ (by decide +kernel)) ggX2_partsClearOf_X2_partAround
theorem dX2_partsClearOf_0 : decode cX2_partsClearOf 0 = .ok (.iconst 0, 1) := by decide +kernel
theorem dX2_partsClearOf_1 : decode cX2_partsClearOf 1 = .ok (.istore 4, 2) := by decide +kernel
theorem dX2_partsClearOf_3 : decode cX2_partsClearOf 3 = .ok (.lload_n 0, 1) := by decide +kernel
theorem dX2_partsClearOf_4 : decode cX2_partsClearOf 4 = .ok (.lstore 5, 2) := by decide +kernel
theorem dX2_partsClearOf_6 : decode cX2_partsClearOf 6 = .ok (.iconst 0, 1) := by decide +kernel
theorem dX2_partsClearOf_7 : decode cX2_partsClearOf 7 = .ok (.istore 7, 2) := by decide +kernel
theorem dX2_partsClearOf_9 : decode cX2_partsClearOf 9 = .ok (.iload 7, 2) := by decide +kernel
theorem dX2_partsClearOf_11 : decode cX2_partsClearOf 11 = .ok (.bipush 64, 2) := by decide +kernel
theorem dX2_partsClearOf_13 : decode cX2_partsClearOf 13 = .ok (.if_icmp .ge 51, 3) := by decide +kernel
theorem dX2_partsClearOf_16 : decode cX2_partsClearOf 16 = .ok (.lload 5, 2) := by decide +kernel
theorem dX2_partsClearOf_18 : decode cX2_partsClearOf 18 = .ok (.lconst 0, 1) := by decide +kernel
theorem dX2_partsClearOf_19 : decode cX2_partsClearOf 19 = .ok (.lcmp, 1) := by decide +kernel
theorem dX2_partsClearOf_20 : decode cX2_partsClearOf 20 = .ok (.ifCond .eq 44, 3) := by decide +kernel
theorem dX2_partsClearOf_23 : decode cX2_partsClearOf 23 = .ok (.lload_n 0, 1) := by decide +kernel
theorem dX2_partsClearOf_24 : decode cX2_partsClearOf 24 = .ok (.lload 5, 2) := by decide +kernel
theorem dX2_partsClearOf_26 : decode cX2_partsClearOf 26 = .ok (.lload 5, 2) := by decide +kernel
theorem dX2_partsClearOf_28 : decode cX2_partsClearOf 28 = .ok (.lneg, 1) := by decide +kernel
theorem dX2_partsClearOf_29 : decode cX2_partsClearOf 29 = .ok (.land, 1) := by decide +kernel
theorem dX2_partsClearOf_30 : decode cX2_partsClearOf 30 = .ok (.invokestatic 13, 3) := by decide +kernel
theorem dX2_partsClearOf_33 : decode cX2_partsClearOf 33 = .ok (.lstore 8, 2) := by decide +kernel
theorem dX2_partsClearOf_35 : decode cX2_partsClearOf 35 = .ok (.lload 8, 2) := by decide +kernel
theorem dX2_partsClearOf_37 : decode cX2_partsClearOf 37 = .ok (.lload_n 2, 1) := by decide +kernel
theorem dX2_partsClearOf_38 : decode cX2_partsClearOf 38 = .ok (.land, 1) := by decide +kernel
theorem dX2_partsClearOf_39 : decode cX2_partsClearOf 39 = .ok (.lconst 0, 1) := by decide +kernel
theorem dX2_partsClearOf_40 : decode cX2_partsClearOf 40 = .ok (.lcmp, 1) := by decide +kernel
theorem dX2_partsClearOf_41 : decode cX2_partsClearOf 41 = .ok (.ifCond .ne 6, 3) := by decide +kernel
theorem dX2_partsClearOf_44 : decode cX2_partsClearOf 44 = .ok (.iinc 4 1, 3) := by decide +kernel
theorem dX2_partsClearOf_47 : decode cX2_partsClearOf 47 = .ok (.lload 5, 2) := by decide +kernel
theorem dX2_partsClearOf_49 : decode cX2_partsClearOf 49 = .ok (.lload 8, 2) := by decide +kernel
theorem dX2_partsClearOf_51 : decode cX2_partsClearOf 51 = .ok (.ldc2_w 17, 3) := by decide +kernel
theorem dX2_partsClearOf_54 : decode cX2_partsClearOf 54 = .ok (.lxor, 1) := by decide +kernel
theorem dX2_partsClearOf_55 : decode cX2_partsClearOf 55 = .ok (.land, 1) := by decide +kernel
theorem dX2_partsClearOf_56 : decode cX2_partsClearOf 56 = .ok (.lstore 5, 2) := by decide +kernel
theorem dX2_partsClearOf_58 : decode cX2_partsClearOf 58 = .ok (.iinc 7 1, 3) := by decide +kernel
theorem dX2_partsClearOf_61 : decode cX2_partsClearOf 61 = .ok (.goto (-52), 3) := by decide +kernel
theorem dX2_partsClearOf_64 : decode cX2_partsClearOf 64 = .ok (.iload 4, 2) := by decide +kernel
theorem dX2_partsClearOf_66 : decode cX2_partsClearOf 66 = .ok (.ireturn, 1) := by decide +kernel
set_option maxRecDepth 20000 in
theorem ggX2_partAround_X2_neighboursOf : GoodIn wsX2_partAround wsX2_neighboursOf := goodIn_r _ [4, 5, 6] (by decide +kernel) (by decide +kernel)
set_option maxRecDepth 20000 in
theorem gX2_partAround_X2_neighboursOf : GoodIn wsX2_partAround (va_wsS RX2 19 yX2_neighboursOf wsX2_neighboursOf) := goodIn_app (goodIn_of _ (by decide +kernel)) ggX2_partAround_X2_neighboursOf
theorem dX2_partAround_0 : decode cX2_partAround 0 = .ok (.lload_n 2, 1) := by decide +kernel
theorem dX2_partAround_1 : decode cX2_partAround 1 = .ok (.lstore 4, 2) := by decide +kernel
theorem dX2_partAround_3 : decode cX2_partAround 3 = .ok (.iconst 0, 1) := by decide +kernel
theorem dX2_partAround_4 : decode cX2_partAround 4 = .ok (.istore 6, 2) := by decide +kernel
theorem dX2_partAround_6 : decode cX2_partAround 6 = .ok (.iload 6, 2) := by decide +kernel
theorem dX2_partAround_8 : decode cX2_partAround 8 = .ok (.bipush 64, 2) := by decide +kernel
theorem dX2_partAround_10 : decode cX2_partAround 10 = .ok (.if_icmp .ge 36, 3) := by decide +kernel
theorem dX2_partAround_13 : decode cX2_partAround 13 = .ok (.lload 4, 2) := by decide +kernel
theorem dX2_partAround_15 : decode cX2_partAround 15 = .ok (.lload 4, 2) := by decide +kernel
theorem dX2_partAround_17 : decode cX2_partAround 17 = .ok (.invokestatic 19, 3) := by decide +kernel
theorem dX2_partAround_20 : decode cX2_partAround 20 = .ok (.lor, 1) := by decide +kernel
theorem dX2_partAround_21 : decode cX2_partAround 21 = .ok (.lload_n 0, 1) := by decide +kernel
theorem dX2_partAround_22 : decode cX2_partAround 22 = .ok (.land, 1) := by decide +kernel
theorem dX2_partAround_23 : decode cX2_partAround 23 = .ok (.lstore 7, 2) := by decide +kernel
theorem dX2_partAround_25 : decode cX2_partAround 25 = .ok (.lload 7, 2) := by decide +kernel
theorem dX2_partAround_27 : decode cX2_partAround 27 = .ok (.lload 4, 2) := by decide +kernel
theorem dX2_partAround_29 : decode cX2_partAround 29 = .ok (.lcmp, 1) := by decide +kernel
theorem dX2_partAround_30 : decode cX2_partAround 30 = .ok (.ifCond .ne 6, 3) := by decide +kernel
theorem dX2_partAround_33 : decode cX2_partAround 33 = .ok (.goto 13, 3) := by decide +kernel
theorem dX2_partAround_36 : decode cX2_partAround 36 = .ok (.lload 7, 2) := by decide +kernel
theorem dX2_partAround_38 : decode cX2_partAround 38 = .ok (.lstore 4, 2) := by decide +kernel
theorem dX2_partAround_40 : decode cX2_partAround 40 = .ok (.iinc 6 1, 3) := by decide +kernel
theorem dX2_partAround_43 : decode cX2_partAround 43 = .ok (.goto (-37), 3) := by decide +kernel
theorem dX2_partAround_46 : decode cX2_partAround 46 = .ok (.lload 4, 2) := by decide +kernel
theorem dX2_partAround_48 : decode cX2_partAround 48 = .ok (.lreturn, 1) := by decide +kernel
theorem dX2_neighboursOf_0 : decode cX2_neighboursOf 0 = .ok (.lload_n 0, 1) := by decide +kernel
theorem dX2_neighboursOf_1 : decode cX2_neighboursOf 1 = .ok (.ldc2_w 23, 3) := by decide +kernel
theorem dX2_neighboursOf_4 : decode cX2_neighboursOf 4 = .ok (.land, 1) := by decide +kernel
theorem dX2_neighboursOf_5 : decode cX2_neighboursOf 5 = .ok (.iconst 1, 1) := by decide +kernel
theorem dX2_neighboursOf_6 : decode cX2_neighboursOf 6 = .ok (.lshl, 1) := by decide +kernel
theorem dX2_neighboursOf_7 : decode cX2_neighboursOf 7 = .ok (.lstore_n 2, 1) := by decide +kernel
theorem dX2_neighboursOf_8 : decode cX2_neighboursOf 8 = .ok (.lload_n 0, 1) := by decide +kernel
theorem dX2_neighboursOf_9 : decode cX2_neighboursOf 9 = .ok (.ldc2_w 25, 3) := by decide +kernel
theorem dX2_neighboursOf_12 : decode cX2_neighboursOf 12 = .ok (.land, 1) := by decide +kernel
theorem dX2_neighboursOf_13 : decode cX2_neighboursOf 13 = .ok (.iconst 1, 1) := by decide +kernel
theorem dX2_neighboursOf_14 : decode cX2_neighboursOf 14 = .ok (.lushr, 1) := by decide +kernel
theorem dX2_neighboursOf_15 : decode cX2_neighboursOf 15 = .ok (.lstore 4, 2) := by decide +kernel
theorem dX2_neighboursOf_17 : decode cX2_neighboursOf 17 = .ok (.lload_n 2, 1) := by decide +kernel
theorem dX2_neighboursOf_18 : decode cX2_neighboursOf 18 = .ok (.lload 4, 2) := by decide +kernel
theorem dX2_neighboursOf_20 : decode cX2_neighboursOf 20 = .ok (.lor, 1) := by decide +kernel
theorem dX2_neighboursOf_21 : decode cX2_neighboursOf 21 = .ok (.lload_n 0, 1) := by decide +kernel
theorem dX2_neighboursOf_22 : decode cX2_neighboursOf 22 = .ok (.bipush 8, 2) := by decide +kernel
theorem dX2_neighboursOf_24 : decode cX2_neighboursOf 24 = .ok (.lshl, 1) := by decide +kernel
theorem dX2_neighboursOf_25 : decode cX2_neighboursOf 25 = .ok (.lor, 1) := by decide +kernel
theorem dX2_neighboursOf_26 : decode cX2_neighboursOf 26 = .ok (.lload_n 0, 1) := by decide +kernel
theorem dX2_neighboursOf_27 : decode cX2_neighboursOf 27 = .ok (.bipush 8, 2) := by decide +kernel
theorem dX2_neighboursOf_29 : decode cX2_neighboursOf 29 = .ok (.lushr, 1) := by decide +kernel
theorem dX2_neighboursOf_30 : decode cX2_neighboursOf 30 = .ok (.lor, 1) := by decide +kernel
theorem dX2_neighboursOf_31 : decode cX2_neighboursOf 31 = .ok (.lreturn, 1) := by decide +kernel
theorem dX2_shifted_0 : decode cX2_shifted 0 = .ok (.iload_n 0, 1) := by decide +kernel
theorem dX2_shifted_1 : decode cX2_shifted 1 = .ok (.i2l, 1) := by decide +kernel
theorem dX2_shifted_2 : decode cX2_shifted 2 = .ok (.bipush 8, 2) := by decide +kernel
theorem dX2_shifted_4 : decode cX2_shifted 4 = .ok (.iload_n 1, 1) := by decide +kernel
theorem dX2_shifted_5 : decode cX2_shifted 5 = .ok (.imul, 1) := by decide +kernel
theorem dX2_shifted_6 : decode cX2_shifted 6 = .ok (.lshl, 1) := by decide +kernel
theorem dX2_shifted_7 : decode cX2_shifted 7 = .ok (.lreturn, 1) := by decide +kernel
theorem dX2_columnAt_0 : decode cX2_columnAt 0 = .ok (.lload_n 0, 1) := by decide +kernel
theorem dX2_columnAt_1 : decode cX2_columnAt 1 = .ok (.bipush 8, 2) := by decide +kernel
theorem dX2_columnAt_3 : decode cX2_columnAt 3 = .ok (.iload_n 2, 1) := by decide +kernel
theorem dX2_columnAt_4 : decode cX2_columnAt 4 = .ok (.imul, 1) := by decide +kernel
theorem dX2_columnAt_5 : decode cX2_columnAt 5 = .ok (.lushr, 1) := by decide +kernel
theorem dX2_columnAt_6 : decode cX2_columnAt 6 = .ok (.l2i, 1) := by decide +kernel
theorem dX2_columnAt_7 : decode cX2_columnAt 7 = .ok (.sipush 255, 3) := by decide +kernel
theorem dX2_columnAt_10 : decode cX2_columnAt 10 = .ok (.iand, 1) := by decide +kernel
theorem dX2_columnAt_11 : decode cX2_columnAt 11 = .ok (.ireturn, 1) := by decide +kernel
set_option maxRecDepth 20000 in
theorem ggX2_spanOfU_X2_columnAt : GoodIn wsX2_spanOfU wsX2_columnAt := goodIn_r _ [4] (by decide +kernel) (by decide +kernel)
set_option maxRecDepth 20000 in
theorem gX2_spanOfU_X2_columnAt : GoodIn wsX2_spanOfU (va_wsS RX2 29 yX2_columnAt wsX2_columnAt) := goodIn_app (goodIn_of _ (by decide +kernel)) ggX2_spanOfU_X2_columnAt
set_option maxRecDepth 20000 in
theorem ggX2_spanOfU_X1_span : GoodIn wsX2_spanOfU wsX1_span := goodIn_r _ [8, 9, 10, 7, 11] (by decide +kernel) (by decide +kernel)
set_option maxRecDepth 20000 in
theorem gX2_spanOfU_X1_span : GoodIn wsX2_spanOfU (va_wsS RX2 33 yX1_span wsX1_span) := goodIn_app (goodIn_of _ (by decide +kernel)) ggX2_spanOfU_X1_span
theorem dX2_spanOfU_0 : decode cX2_spanOfU 0 = .ok (.iconst 0, 1) := by decide +kernel
theorem dX2_spanOfU_1 : decode cX2_spanOfU 1 = .ok (.istore_n 2, 1) := by decide +kernel
theorem dX2_spanOfU_2 : decode cX2_spanOfU 2 = .ok (.iconst 0, 1) := by decide +kernel
theorem dX2_spanOfU_3 : decode cX2_spanOfU 3 = .ok (.istore_n 3, 1) := by decide +kernel
theorem dX2_spanOfU_4 : decode cX2_spanOfU 4 = .ok (.iload_n 3, 1) := by decide +kernel
theorem dX2_spanOfU_5 : decode cX2_spanOfU 5 = .ok (.bipush 8, 2) := by decide +kernel
theorem dX2_spanOfU_7 : decode cX2_spanOfU 7 = .ok (.if_icmp .ge 23, 3) := by decide +kernel
theorem dX2_spanOfU_10 : decode cX2_spanOfU 10 = .ok (.lload_n 0, 1) := by decide +kernel
theorem dX2_spanOfU_11 : decode cX2_spanOfU 11 = .ok (.iload_n 3, 1) := by decide +kernel
theorem dX2_spanOfU_12 : decode cX2_spanOfU 12 = .ok (.invokestatic 29, 3) := by decide +kernel
theorem dX2_spanOfU_15 : decode cX2_spanOfU 15 = .ok (.ifCond .eq 9, 3) := by decide +kernel
theorem dX2_spanOfU_18 : decode cX2_spanOfU 18 = .ok (.iload_n 2, 1) := by decide +kernel
theorem dX2_spanOfU_19 : decode cX2_spanOfU 19 = .ok (.iconst 1, 1) := by decide +kernel
theorem dX2_spanOfU_20 : decode cX2_spanOfU 20 = .ok (.iload_n 3, 1) := by decide +kernel
theorem dX2_spanOfU_21 : decode cX2_spanOfU 21 = .ok (.ishl, 1) := by decide +kernel
theorem dX2_spanOfU_22 : decode cX2_spanOfU 22 = .ok (.ior, 1) := by decide +kernel
theorem dX2_spanOfU_23 : decode cX2_spanOfU 23 = .ok (.istore_n 2, 1) := by decide +kernel
theorem dX2_spanOfU_24 : decode cX2_spanOfU 24 = .ok (.iinc 3 1, 3) := by decide +kernel
theorem dX2_spanOfU_27 : decode cX2_spanOfU 27 = .ok (.goto (-23), 3) := by decide +kernel
theorem dX2_spanOfU_30 : decode cX2_spanOfU 30 = .ok (.iload_n 2, 1) := by decide +kernel
theorem dX2_spanOfU_31 : decode cX2_spanOfU 31 = .ok (.invokestatic 33, 3) := by decide +kernel
theorem dX2_spanOfU_34 : decode cX2_spanOfU 34 = .ok (.ireturn, 1) := by decide +kernel
set_option maxRecDepth 20000 in
theorem ggX2_spanOfZ_X2_columnAt : GoodIn wsX2_spanOfZ wsX2_columnAt := goodIn_r _ [4] (by decide +kernel) (by decide +kernel)
set_option maxRecDepth 20000 in
theorem gX2_spanOfZ_X2_columnAt : GoodIn wsX2_spanOfZ (va_wsS RX2 29 yX2_columnAt wsX2_columnAt) := goodIn_app (goodIn_of _ (by decide +kernel)) ggX2_spanOfZ_X2_columnAt
set_option maxRecDepth 20000 in
theorem ggX2_spanOfZ_X1_span : GoodIn wsX2_spanOfZ wsX1_span := goodIn_r _ [8, 9, 10, 7, 11] (by decide +kernel) (by decide +kernel)
set_option maxRecDepth 20000 in
theorem gX2_spanOfZ_X1_span : GoodIn wsX2_spanOfZ (va_wsS RX2 33 yX1_span wsX1_span) := goodIn_app (goodIn_of _ (by decide +kernel)) ggX2_spanOfZ_X1_span
theorem dX2_spanOfZ_0 : decode cX2_spanOfZ 0 = .ok (.iconst 0, 1) := by decide +kernel
theorem dX2_spanOfZ_1 : decode cX2_spanOfZ 1 = .ok (.istore_n 2, 1) := by decide +kernel
theorem dX2_spanOfZ_2 : decode cX2_spanOfZ 2 = .ok (.iconst 0, 1) := by decide +kernel
theorem dX2_spanOfZ_3 : decode cX2_spanOfZ 3 = .ok (.istore_n 3, 1) := by decide +kernel
theorem dX2_spanOfZ_4 : decode cX2_spanOfZ 4 = .ok (.iload_n 3, 1) := by decide +kernel
theorem dX2_spanOfZ_5 : decode cX2_spanOfZ 5 = .ok (.bipush 8, 2) := by decide +kernel
theorem dX2_spanOfZ_7 : decode cX2_spanOfZ 7 = .ok (.if_icmp .ge 17, 3) := by decide +kernel
theorem dX2_spanOfZ_10 : decode cX2_spanOfZ 10 = .ok (.iload_n 2, 1) := by decide +kernel
theorem dX2_spanOfZ_11 : decode cX2_spanOfZ 11 = .ok (.lload_n 0, 1) := by decide +kernel
theorem dX2_spanOfZ_12 : decode cX2_spanOfZ 12 = .ok (.iload_n 3, 1) := by decide +kernel
theorem dX2_spanOfZ_13 : decode cX2_spanOfZ 13 = .ok (.invokestatic 29, 3) := by decide +kernel
theorem dX2_spanOfZ_16 : decode cX2_spanOfZ 16 = .ok (.ior, 1) := by decide +kernel
theorem dX2_spanOfZ_17 : decode cX2_spanOfZ 17 = .ok (.istore_n 2, 1) := by decide +kernel
theorem dX2_spanOfZ_18 : decode cX2_spanOfZ 18 = .ok (.iinc 3 1, 3) := by decide +kernel
theorem dX2_spanOfZ_21 : decode cX2_spanOfZ 21 = .ok (.goto (-17), 3) := by decide +kernel
theorem dX2_spanOfZ_24 : decode cX2_spanOfZ 24 = .ok (.iload_n 2, 1) := by decide +kernel
theorem dX2_spanOfZ_25 : decode cX2_spanOfZ 25 = .ok (.invokestatic 33, 3) := by decide +kernel
theorem dX2_spanOfZ_28 : decode cX2_spanOfZ 28 = .ok (.ireturn, 1) := by decide +kernel
theorem dX3_init_0 : decode cX3_init 0 = .ok (.aload_n 0, 1) := by decide +kernel
theorem dX3_init_1 : decode cX3_init 1 = .ok (.invokespecial 3, 3) := by decide +kernel
theorem dX3_init_4 : decode cX3_init 4 = .ok (.aload_n 0, 1) := by decide +kernel
theorem dX3_init_5 : decode cX3_init 5 = .ok (.bipush 64, 2) := by decide +kernel
theorem dX3_init_7 : decode cX3_init 7 = .ok (.newarray .int, 2) := by decide +kernel
theorem dX3_init_9 : decode cX3_init 9 = .ok (.putfield 11, 3) := by decide +kernel
theorem dX3_init_12 : decode cX3_init 12 = .ok (.aload_n 0, 1) := by decide +kernel
theorem dX3_init_13 : decode cX3_init 13 = .ok (.bipush 8, 2) := by decide +kernel
theorem dX3_init_15 : decode cX3_init 15 = .ok (.newarray .int, 2) := by decide +kernel
theorem dX3_init_17 : decode cX3_init 17 = .ok (.putfield 15, 3) := by decide +kernel
theorem dX3_init_20 : decode cX3_init 20 = .ok (.aload_n 0, 1) := by decide +kernel
theorem dX3_init_21 : decode cX3_init 21 = .ok (.iconst 4, 1) := by decide +kernel
theorem dX3_init_22 : decode cX3_init 22 = .ok (.putfield 18, 3) := by decide +kernel
theorem dX3_init_25 : decode cX3_init 25 = .ok (.aload_n 0, 1) := by decide +kernel
theorem dX3_init_26 : decode cX3_init 26 = .ok (.iconst 4, 1) := by decide +kernel
theorem dX3_init_27 : decode cX3_init 27 = .ok (.putfield 22, 3) := by decide +kernel
theorem dX3_init_30 : decode cX3_init 30 = .ok (.aload_n 0, 1) := by decide +kernel
theorem dX3_init_31 : decode cX3_init 31 = .ok (.iconst 4, 1) := by decide +kernel
theorem dX3_init_32 : decode cX3_init 32 = .ok (.putfield 25, 3) := by decide +kernel
theorem dX3_init_35 : decode cX3_init 35 = .ok (.return_, 1) := by decide +kernel
theorem dX3_beginAnew_0 : decode cX3_beginAnew 0 = .ok (.iconst 0, 1) := by decide +kernel
theorem dX3_beginAnew_1 : decode cX3_beginAnew 1 = .ok (.istore 4, 2) := by decide +kernel
theorem dX3_beginAnew_3 : decode cX3_beginAnew 3 = .ok (.iload 4, 2) := by decide +kernel
theorem dX3_beginAnew_5 : decode cX3_beginAnew 5 = .ok (.aload_n 0, 1) := by decide +kernel
theorem dX3_beginAnew_6 : decode cX3_beginAnew 6 = .ok (.getfield 11, 3) := by decide +kernel
theorem dX3_beginAnew_9 : decode cX3_beginAnew 9 = .ok (.arraylength, 1) := by decide +kernel
theorem dX3_beginAnew_10 : decode cX3_beginAnew 10 = .ok (.if_icmp .ge 17, 3) := by decide +kernel
theorem dX3_beginAnew_13 : decode cX3_beginAnew 13 = .ok (.aload_n 0, 1) := by decide +kernel
theorem dX3_beginAnew_14 : decode cX3_beginAnew 14 = .ok (.getfield 11, 3) := by decide +kernel
theorem dX3_beginAnew_17 : decode cX3_beginAnew 17 = .ok (.iload 4, 2) := by decide +kernel
theorem dX3_beginAnew_19 : decode cX3_beginAnew 19 = .ok (.iconst 0, 1) := by decide +kernel
theorem dX3_beginAnew_20 : decode cX3_beginAnew 20 = .ok (.iastore, 1) := by decide +kernel
theorem dX3_beginAnew_21 : decode cX3_beginAnew 21 = .ok (.iinc 4 1, 3) := by decide +kernel
theorem dX3_beginAnew_24 : decode cX3_beginAnew 24 = .ok (.goto (-21), 3) := by decide +kernel
theorem dX3_beginAnew_27 : decode cX3_beginAnew 27 = .ok (.aload_n 0, 1) := by decide +kernel
theorem dX3_beginAnew_28 : decode cX3_beginAnew 28 = .ok (.iload_n 1, 1) := by decide +kernel
theorem dX3_beginAnew_29 : decode cX3_beginAnew 29 = .ok (.putfield 18, 3) := by decide +kernel
theorem dX3_beginAnew_32 : decode cX3_beginAnew 32 = .ok (.aload_n 0, 1) := by decide +kernel
theorem dX3_beginAnew_33 : decode cX3_beginAnew 33 = .ok (.iload_n 2, 1) := by decide +kernel
theorem dX3_beginAnew_34 : decode cX3_beginAnew 34 = .ok (.putfield 22, 3) := by decide +kernel
theorem dX3_beginAnew_37 : decode cX3_beginAnew 37 = .ok (.aload_n 0, 1) := by decide +kernel
theorem dX3_beginAnew_38 : decode cX3_beginAnew 38 = .ok (.iload_n 3, 1) := by decide +kernel
theorem dX3_beginAnew_39 : decode cX3_beginAnew 39 = .ok (.putfield 25, 3) := by decide +kernel
theorem dX3_beginAnew_42 : decode cX3_beginAnew 42 = .ok (.aload_n 0, 1) := by decide +kernel
theorem dX3_beginAnew_43 : decode cX3_beginAnew 43 = .ok (.iconst 0, 1) := by decide +kernel
theorem dX3_beginAnew_44 : decode cX3_beginAnew 44 = .ok (.putfield 28, 3) := by decide +kernel
theorem dX3_beginAnew_47 : decode cX3_beginAnew 47 = .ok (.aload_n 0, 1) := by decide +kernel
theorem dX3_beginAnew_48 : decode cX3_beginAnew 48 = .ok (.iconst 0, 1) := by decide +kernel
theorem dX3_beginAnew_49 : decode cX3_beginAnew 49 = .ok (.putfield 31, 3) := by decide +kernel
theorem dX3_beginAnew_52 : decode cX3_beginAnew 52 = .ok (.return_, 1) := by decide +kernel
theorem dX3_hasColumn_0 : decode cX3_hasColumn 0 = .ok (.iload_n 1, 1) := by decide +kernel
theorem dX3_hasColumn_1 : decode cX3_hasColumn 1 = .ok (.ifCond .lt 27, 3) := by decide +kernel
theorem dX3_hasColumn_4 : decode cX3_hasColumn 4 = .ok (.iload_n 1, 1) := by decide +kernel
theorem dX3_hasColumn_5 : decode cX3_hasColumn 5 = .ok (.aload_n 0, 1) := by decide +kernel
theorem dX3_hasColumn_6 : decode cX3_hasColumn 6 = .ok (.getfield 18, 3) := by decide +kernel
theorem dX3_hasColumn_9 : decode cX3_hasColumn 9 = .ok (.if_icmp .ge 19, 3) := by decide +kernel
theorem dX3_hasColumn_12 : decode cX3_hasColumn 12 = .ok (.iload_n 2, 1) := by decide +kernel
theorem dX3_hasColumn_13 : decode cX3_hasColumn 13 = .ok (.ifCond .lt 15, 3) := by decide +kernel
theorem dX3_hasColumn_16 : decode cX3_hasColumn 16 = .ok (.iload_n 2, 1) := by decide +kernel
theorem dX3_hasColumn_17 : decode cX3_hasColumn 17 = .ok (.aload_n 0, 1) := by decide +kernel
theorem dX3_hasColumn_18 : decode cX3_hasColumn 18 = .ok (.getfield 22, 3) := by decide +kernel
theorem dX3_hasColumn_21 : decode cX3_hasColumn 21 = .ok (.if_icmp .ge 7, 3) := by decide +kernel
theorem dX3_hasColumn_24 : decode cX3_hasColumn 24 = .ok (.iconst 1, 1) := by decide +kernel
theorem dX3_hasColumn_25 : decode cX3_hasColumn 25 = .ok (.goto 4, 3) := by decide +kernel
theorem dX3_hasColumn_28 : decode cX3_hasColumn 28 = .ok (.iconst 0, 1) := by decide +kernel
theorem dX3_hasColumn_29 : decode cX3_hasColumn 29 = .ok (.ireturn, 1) := by decide +kernel
theorem dX3_hasLayer_0 : decode cX3_hasLayer 0 = .ok (.iload_n 1, 1) := by decide +kernel
theorem dX3_hasLayer_1 : decode cX3_hasLayer 1 = .ok (.ifCond .lt 15, 3) := by decide +kernel
theorem dX3_hasLayer_4 : decode cX3_hasLayer 4 = .ok (.iload_n 1, 1) := by decide +kernel
theorem dX3_hasLayer_5 : decode cX3_hasLayer 5 = .ok (.aload_n 0, 1) := by decide +kernel
theorem dX3_hasLayer_6 : decode cX3_hasLayer 6 = .ok (.getfield 25, 3) := by decide +kernel
theorem dX3_hasLayer_9 : decode cX3_hasLayer 9 = .ok (.if_icmp .ge 7, 3) := by decide +kernel
theorem dX3_hasLayer_12 : decode cX3_hasLayer 12 = .ok (.iconst 1, 1) := by decide +kernel
theorem dX3_hasLayer_13 : decode cX3_hasLayer 13 = .ok (.goto 4, 3) := by decide +kernel
theorem dX3_hasLayer_16 : decode cX3_hasLayer 16 = .ok (.iconst 0, 1) := by decide +kernel
theorem dX3_hasLayer_17 : decode cX3_hasLayer 17 = .ok (.ireturn, 1) := by decide +kernel
set_option maxRecDepth 20000 in
theorem ggX3_hasRib_X3_ribCount : GoodIn wsX3_hasRib wsX3_ribCount := goodIn_r _ [5, 6, 7, 8, 9, 10, 11, 12, 13, 14] (by decide +kernel) (by decide +kernel)
set_option maxRecDepth 20000 in
theorem gX3_hasRib_X3_ribCount : GoodIn wsX3_hasRib (wsV RX3 34 RX3 yX3_ribCount wsX3_ribCount) := goodIn_app (goodIn_of _ (by decide +kernel)) ggX3_hasRib_X3_ribCount
theorem dX3_hasRib_0 : decode cX3_hasRib 0 = .ok (.iload_n 1, 1) := by decide +kernel
theorem dX3_hasRib_1 : decode cX3_hasRib 1 = .ok (.ifCond .eq 8, 3) := by decide +kernel
theorem dX3_hasRib_4 : decode cX3_hasRib 4 = .ok (.iload_n 1, 1) := by decide +kernel
theorem dX3_hasRib_5 : decode cX3_hasRib 5 = .ok (.iconst 1, 1) := by decide +kernel
theorem dX3_hasRib_6 : decode cX3_hasRib 6 = .ok (.if_icmp .ne 20, 3) := by decide +kernel
theorem dX3_hasRib_9 : decode cX3_hasRib 9 = .ok (.iload_n 2, 1) := by decide +kernel
theorem dX3_hasRib_10 : decode cX3_hasRib 10 = .ok (.ifCond .lt 16, 3) := by decide +kernel
theorem dX3_hasRib_13 : decode cX3_hasRib 13 = .ok (.iload_n 2, 1) := by decide +kernel
theorem dX3_hasRib_14 : decode cX3_hasRib 14 = .ok (.aload_n 0, 1) := by decide +kernel
theorem dX3_hasRib_15 : decode cX3_hasRib 15 = .ok (.iload_n 1, 1) := by decide +kernel
theorem dX3_hasRib_16 : decode cX3_hasRib 16 = .ok (.invokevirtual 34, 3) := by decide +kernel
theorem dX3_hasRib_19 : decode cX3_hasRib 19 = .ok (.if_icmp .ge 7, 3) := by decide +kernel
theorem dX3_hasRib_22 : decode cX3_hasRib 22 = .ok (.iconst 1, 1) := by decide +kernel
theorem dX3_hasRib_23 : decode cX3_hasRib 23 = .ok (.goto 4, 3) := by decide +kernel
theorem dX3_hasRib_26 : decode cX3_hasRib 26 = .ok (.iconst 0, 1) := by decide +kernel
theorem dX3_hasRib_27 : decode cX3_hasRib 27 = .ok (.ireturn, 1) := by decide +kernel
theorem dX3_ribCount_0 : decode cX3_ribCount 0 = .ok (.iload_n 1, 1) := by decide +kernel
theorem dX3_ribCount_1 : decode cX3_ribCount 1 = .ok (.ifCond .ne 10, 3) := by decide +kernel
theorem dX3_ribCount_4 : decode cX3_ribCount 4 = .ok (.aload_n 0, 1) := by decide +kernel
theorem dX3_ribCount_5 : decode cX3_ribCount 5 = .ok (.getfield 18, 3) := by decide +kernel
theorem dX3_ribCount_8 : decode cX3_ribCount 8 = .ok (.goto 7, 3) := by decide +kernel
theorem dX3_ribCount_11 : decode cX3_ribCount 11 = .ok (.aload_n 0, 1) := by decide +kernel
theorem dX3_ribCount_12 : decode cX3_ribCount 12 = .ok (.getfield 22, 3) := by decide +kernel
theorem dX3_ribCount_15 : decode cX3_ribCount 15 = .ok (.ireturn, 1) := by decide +kernel
set_option maxRecDepth 20000 in
theorem ggX3_columnAt_X3_hasColumn : GoodIn wsX3_columnAt wsX3_hasColumn := goodIn_r _ [6, 7, 8, 9, 10, 11, 12, 13, 14, 15] (by decide +kernel) (by decide +kernel)
set_option maxRecDepth 20000 in
theorem gX3_columnAt_X3_hasColumn : GoodIn wsX3_columnAt (wsV RX3 38 RX3 yX3_hasColumn wsX3_hasColumn) := goodIn_app (goodIn_of _ (by decide +kernel)) ggX3_columnAt_X3_hasColumn
theorem dX3_columnAt_0 : decode cX3_columnAt 0 = .ok (.aload_n 0, 1) := by decide +kernel
theorem dX3_columnAt_1 : decode cX3_columnAt 1 = .ok (.iload_n 1, 1) := by decide +kernel
theorem dX3_columnAt_2 : decode cX3_columnAt 2 = .ok (.iload_n 2, 1) := by decide +kernel
theorem dX3_columnAt_3 : decode cX3_columnAt 3 = .ok (.invokevirtual 38, 3) := by decide +kernel
theorem dX3_columnAt_6 : decode cX3_columnAt 6 = .ok (.ifCond .eq 17, 3) := by decide +kernel
theorem dX3_columnAt_9 : decode cX3_columnAt 9 = .ok (.aload_n 0, 1) := by decide +kernel
theorem dX3_columnAt_10 : decode cX3_columnAt 10 = .ok (.getfield 11, 3) := by decide +kernel
theorem dX3_columnAt_13 : decode cX3_columnAt 13 = .ok (.bipush 8, 2) := by decide +kernel
theorem dX3_columnAt_15 : decode cX3_columnAt 15 = .ok (.iload_n 1, 1) := by decide +kernel
theorem dX3_columnAt_16 : decode cX3_columnAt 16 = .ok (.imul, 1) := by decide +kernel
theorem dX3_columnAt_17 : decode cX3_columnAt 17 = .ok (.iload_n 2, 1) := by decide +kernel
theorem dX3_columnAt_18 : decode cX3_columnAt 18 = .ok (.iadd, 1) := by decide +kernel
theorem dX3_columnAt_19 : decode cX3_columnAt 19 = .ok (.iaload, 1) := by decide +kernel
theorem dX3_columnAt_20 : decode cX3_columnAt 20 = .ok (.goto 4, 3) := by decide +kernel
theorem dX3_columnAt_23 : decode cX3_columnAt 23 = .ok (.iconst 0, 1) := by decide +kernel
theorem dX3_columnAt_24 : decode cX3_columnAt 24 = .ok (.ireturn, 1) := by decide +kernel
set_option maxRecDepth 20000 in
theorem ggX3_changeColumn_X3_hasColumn : GoodIn wsX3_changeColumn wsX3_hasColumn := goodIn_r _ [6, 7, 8, 20, 21, 22, 23, 24, 25, 26] (by decide +kernel) (by decide +kernel)
set_option maxRecDepth 20000 in
theorem gX3_changeColumn_X3_hasColumn : GoodIn wsX3_changeColumn (wsV RX3 38 RX3 yX3_hasColumn wsX3_hasColumn) := goodIn_app (goodIn_of _ (by decide +kernel)) ggX3_changeColumn_X3_hasColumn
set_option maxRecDepth 20000 in
theorem ggX3_changeColumn_X3_columnAt : GoodIn wsX3_changeColumn wsX3_columnAt := goodIn_r _ [12, 1, 2, 3, 4, 5, 6, 7, 8, 20, 21, 22, 23, 24, 25, 26] (by decide +kernel) (by decide +kernel)
set_option maxRecDepth 20000 in
theorem gX3_changeColumn_X3_columnAt : GoodIn wsX3_changeColumn (wsV RX3 42 RX3 yX3_columnAt wsX3_columnAt) := goodIn_app (goodIn_of _ (by decide +kernel)) ggX3_changeColumn_X3_columnAt
set_option maxRecDepth 20000 in
theorem ggX3_changeColumn_J6_bitCount_0f7a4 : GoodIn wsX3_changeColumn wsJ6_bitCount_0f7a4 := goodIn_r _ [16, 17, 18, 19] (by decide +kernel) (by decide +kernel)
set_option maxRecDepth 20000 in
theorem gX3_changeColumn_J6_bitCount_0f7a4 : GoodIn wsX3_changeColumn (va_wsS RX3 46 yJ6_bitCount_0f7a4 wsJ6_bitCount_0f7a4) := goodIn_app (goodIn_of _ (by decide +kernel)) ggX3_changeColumn_J6_bitCount_0f7a4
theorem dX3_changeColumn_0 : decode cX3_changeColumn 0 = .ok (.aload_n 0, 1) := by decide +kernel
theorem dX3_changeColumn_1 : decode cX3_changeColumn 1 = .ok (.iload_n 1, 1) := by decide +kernel
theorem dX3_changeColumn_2 : decode cX3_changeColumn 2 = .ok (.iload_n 2, 1) := by decide +kernel
theorem dX3_changeColumn_3 : decode cX3_changeColumn 3 = .ok (.invokevirtual 38, 3) := by decide +kernel
theorem dX3_changeColumn_6 : decode cX3_changeColumn 6 = .ok (.ifCond .ne 5, 3) := by decide +kernel
theorem dX3_changeColumn_9 : decode cX3_changeColumn 9 = .ok (.iconst 0, 1) := by decide +kernel
theorem dX3_changeColumn_10 : decode cX3_changeColumn 10 = .ok (.ireturn, 1) := by decide +kernel
theorem dX3_changeColumn_11 : decode cX3_changeColumn 11 = .ok (.aload_n 0, 1) := by decide +kernel
theorem dX3_changeColumn_12 : decode cX3_changeColumn 12 = .ok (.iload_n 1, 1) := by decide +kernel
theorem dX3_changeColumn_13 : decode cX3_changeColumn 13 = .ok (.iload_n 2, 1) := by decide +kernel
theorem dX3_changeColumn_14 : decode cX3_changeColumn 14 = .ok (.invokevirtual 42, 3) := by decide +kernel
theorem dX3_changeColumn_17 : decode cX3_changeColumn 17 = .ok (.istore 5, 2) := by decide +kernel
theorem dX3_changeColumn_19 : decode cX3_changeColumn 19 = .ok (.iload 4, 2) := by decide +kernel
theorem dX3_changeColumn_21 : decode cX3_changeColumn 21 = .ok (.ifCond .eq 10, 3) := by decide +kernel
theorem dX3_changeColumn_24 : decode cX3_changeColumn 24 = .ok (.iload 5, 2) := by decide +kernel
theorem dX3_changeColumn_26 : decode cX3_changeColumn 26 = .ok (.iload_n 3, 1) := by decide +kernel
theorem dX3_changeColumn_27 : decode cX3_changeColumn 27 = .ok (.ior, 1) := by decide +kernel
theorem dX3_changeColumn_28 : decode cX3_changeColumn 28 = .ok (.goto 9, 3) := by decide +kernel
theorem dX3_changeColumn_31 : decode cX3_changeColumn 31 = .ok (.iload 5, 2) := by decide +kernel
theorem dX3_changeColumn_33 : decode cX3_changeColumn 33 = .ok (.iload_n 3, 1) := by decide +kernel
theorem dX3_changeColumn_34 : decode cX3_changeColumn 34 = .ok (.iconst (-1), 1) := by decide +kernel
theorem dX3_changeColumn_35 : decode cX3_changeColumn 35 = .ok (.ixor, 1) := by decide +kernel
theorem dX3_changeColumn_36 : decode cX3_changeColumn 36 = .ok (.iand, 1) := by decide +kernel
theorem dX3_changeColumn_37 : decode cX3_changeColumn 37 = .ok (.istore 6, 2) := by decide +kernel
theorem dX3_changeColumn_39 : decode cX3_changeColumn 39 = .ok (.aload_n 0, 1) := by decide +kernel
theorem dX3_changeColumn_40 : decode cX3_changeColumn 40 = .ok (.getfield 11, 3) := by decide +kernel
theorem dX3_changeColumn_43 : decode cX3_changeColumn 43 = .ok (.bipush 8, 2) := by decide +kernel
theorem dX3_changeColumn_45 : decode cX3_changeColumn 45 = .ok (.iload_n 1, 1) := by decide +kernel
theorem dX3_changeColumn_46 : decode cX3_changeColumn 46 = .ok (.imul, 1) := by decide +kernel
theorem dX3_changeColumn_47 : decode cX3_changeColumn 47 = .ok (.iload_n 2, 1) := by decide +kernel
theorem dX3_changeColumn_48 : decode cX3_changeColumn 48 = .ok (.iadd, 1) := by decide +kernel
theorem dX3_changeColumn_49 : decode cX3_changeColumn 49 = .ok (.iload 6, 2) := by decide +kernel
theorem dX3_changeColumn_51 : decode cX3_changeColumn 51 = .ok (.iastore, 1) := by decide +kernel
theorem dX3_changeColumn_52 : decode cX3_changeColumn 52 = .ok (.iload 5, 2) := by decide +kernel
theorem dX3_changeColumn_54 : decode cX3_changeColumn 54 = .ok (.iload 6, 2) := by decide +kernel
theorem dX3_changeColumn_56 : decode cX3_changeColumn 56 = .ok (.ixor, 1) := by decide +kernel
theorem dX3_changeColumn_57 : decode cX3_changeColumn 57 = .ok (.invokestatic 46, 3) := by decide +kernel
theorem dX3_changeColumn_60 : decode cX3_changeColumn 60 = .ok (.ireturn, 1) := by decide +kernel
set_option maxRecDepth 20000 in
theorem ggX3_cubeCount_J6_bitCount_0f7a4 : GoodIn wsX3_cubeCount wsJ6_bitCount_0f7a4 := goodIn_r _ [5, 6, 7, 8] (by decide +kernel) (by decide +kernel)
set_option maxRecDepth 20000 in
theorem gX3_cubeCount_J6_bitCount_0f7a4 : GoodIn wsX3_cubeCount (va_wsS RX3 46 yJ6_bitCount_0f7a4 wsJ6_bitCount_0f7a4) := goodIn_app (goodIn_of _ (by decide +kernel)) ggX3_cubeCount_J6_bitCount_0f7a4
theorem dX3_cubeCount_0 : decode cX3_cubeCount 0 = .ok (.iconst 0, 1) := by decide +kernel
theorem dX3_cubeCount_1 : decode cX3_cubeCount 1 = .ok (.istore_n 1, 1) := by decide +kernel
theorem dX3_cubeCount_2 : decode cX3_cubeCount 2 = .ok (.aload_n 0, 1) := by decide +kernel
theorem dX3_cubeCount_3 : decode cX3_cubeCount 3 = .ok (.getfield 11, 3) := by decide +kernel
theorem dX3_cubeCount_6 : decode cX3_cubeCount 6 = .ok (.astore_n 2, 1) := by decide +kernel
theorem dX3_cubeCount_7 : decode cX3_cubeCount 7 = .ok (.aload_n 2, 1) := by decide +kernel
theorem dX3_cubeCount_8 : decode cX3_cubeCount 8 = .ok (.arraylength, 1) := by decide +kernel
theorem dX3_cubeCount_9 : decode cX3_cubeCount 9 = .ok (.istore_n 3, 1) := by decide +kernel
theorem dX3_cubeCount_10 : decode cX3_cubeCount 10 = .ok (.iconst 0, 1) := by decide +kernel
theorem dX3_cubeCount_11 : decode cX3_cubeCount 11 = .ok (.istore 4, 2) := by decide +kernel
theorem dX3_cubeCount_13 : decode cX3_cubeCount 13 = .ok (.iload 4, 2) := by decide +kernel
theorem dX3_cubeCount_15 : decode cX3_cubeCount 15 = .ok (.iload_n 3, 1) := by decide +kernel
theorem dX3_cubeCount_16 : decode cX3_cubeCount 16 = .ok (.if_icmp .ge 23, 3) := by decide +kernel
theorem dX3_cubeCount_19 : decode cX3_cubeCount 19 = .ok (.aload_n 2, 1) := by decide +kernel
theorem dX3_cubeCount_20 : decode cX3_cubeCount 20 = .ok (.iload 4, 2) := by decide +kernel
theorem dX3_cubeCount_22 : decode cX3_cubeCount 22 = .ok (.iaload, 1) := by decide +kernel
theorem dX3_cubeCount_23 : decode cX3_cubeCount 23 = .ok (.istore 5, 2) := by decide +kernel
theorem dX3_cubeCount_25 : decode cX3_cubeCount 25 = .ok (.iload_n 1, 1) := by decide +kernel
theorem dX3_cubeCount_26 : decode cX3_cubeCount 26 = .ok (.iload 5, 2) := by decide +kernel
theorem dX3_cubeCount_28 : decode cX3_cubeCount 28 = .ok (.invokestatic 46, 3) := by decide +kernel
theorem dX3_cubeCount_31 : decode cX3_cubeCount 31 = .ok (.iadd, 1) := by decide +kernel
theorem dX3_cubeCount_32 : decode cX3_cubeCount 32 = .ok (.istore_n 1, 1) := by decide +kernel
theorem dX3_cubeCount_33 : decode cX3_cubeCount 33 = .ok (.iinc 4 1, 3) := by decide +kernel
theorem dX3_cubeCount_36 : decode cX3_cubeCount 36 = .ok (.goto (-23), 3) := by decide +kernel
theorem dX3_cubeCount_39 : decode cX3_cubeCount 39 = .ok (.iload_n 1, 1) := by decide +kernel
theorem dX3_cubeCount_40 : decode cX3_cubeCount 40 = .ok (.ireturn, 1) := by decide +kernel
theorem dX3_chosenBits_0 : decode cX3_chosenBits 0 = .ok (.iload_n 1, 1) := by decide +kernel
theorem dX3_chosenBits_1 : decode cX3_chosenBits 1 = .ok (.ifCond .ne 10, 3) := by decide +kernel
theorem dX3_chosenBits_4 : decode cX3_chosenBits 4 = .ok (.aload_n 0, 1) := by decide +kernel
theorem dX3_chosenBits_5 : decode cX3_chosenBits 5 = .ok (.getfield 28, 3) := by decide +kernel
theorem dX3_chosenBits_8 : decode cX3_chosenBits 8 = .ok (.goto 7, 3) := by decide +kernel
theorem dX3_chosenBits_11 : decode cX3_chosenBits 11 = .ok (.aload_n 0, 1) := by decide +kernel
theorem dX3_chosenBits_12 : decode cX3_chosenBits 12 = .ok (.getfield 31, 3) := by decide +kernel
theorem dX3_chosenBits_15 : decode cX3_chosenBits 15 = .ok (.ireturn, 1) := by decide +kernel
theorem dX3_choose_0 : decode cX3_choose 0 = .ok (.iload_n 1, 1) := by decide +kernel
theorem dX3_choose_1 : decode cX3_choose 1 = .ok (.ifCond .ne 11, 3) := by decide +kernel
theorem dX3_choose_4 : decode cX3_choose 4 = .ok (.aload_n 0, 1) := by decide +kernel
theorem dX3_choose_5 : decode cX3_choose 5 = .ok (.iload_n 2, 1) := by decide +kernel
theorem dX3_choose_6 : decode cX3_choose 6 = .ok (.putfield 28, 3) := by decide +kernel
theorem dX3_choose_9 : decode cX3_choose 9 = .ok (.goto 8, 3) := by decide +kernel
theorem dX3_choose_12 : decode cX3_choose 12 = .ok (.aload_n 0, 1) := by decide +kernel
theorem dX3_choose_13 : decode cX3_choose 13 = .ok (.iload_n 2, 1) := by decide +kernel
theorem dX3_choose_14 : decode cX3_choose 14 = .ok (.putfield 31, 3) := by decide +kernel
theorem dX3_choose_17 : decode cX3_choose 17 = .ok (.return_, 1) := by decide +kernel
set_option maxRecDepth 20000 in
theorem ggX3_isChosen_X3_chosenBits : GoodIn wsX3_isChosen wsX3_chosenBits := goodIn_r _ [5, 6, 7, 12, 13, 14, 15, 16, 17, 18] (by decide +kernel) (by decide +kernel)
set_option maxRecDepth 20000 in
theorem gX3_isChosen_X3_chosenBits : GoodIn wsX3_isChosen (wsV RX3 51 RX3 yX3_chosenBits wsX3_chosenBits) := goodIn_app (goodIn_of _ (by decide +kernel)) ggX3_isChosen_X3_chosenBits
set_option maxRecDepth 20000 in
theorem ggX3_isChosen_X1_hasBit : GoodIn wsX3_isChosen wsX1_hasBit := goodIn_r _ [11] (by decide +kernel) (by decide +kernel)
set_option maxRecDepth 20000 in
theorem gX3_isChosen_X1_hasBit : GoodIn wsX3_isChosen (va_wsS RX3 54 yX1_hasBit wsX1_hasBit) := goodIn_app (goodIn_of _ (by decide +kernel)) ggX3_isChosen_X1_hasBit
theorem dX3_isChosen_0 : decode cX3_isChosen 0 = .ok (.aload_n 0, 1) := by decide +kernel
theorem dX3_isChosen_1 : decode cX3_isChosen 1 = .ok (.iload_n 1, 1) := by decide +kernel
theorem dX3_isChosen_2 : decode cX3_isChosen 2 = .ok (.invokevirtual 51, 3) := by decide +kernel
theorem dX3_isChosen_5 : decode cX3_isChosen 5 = .ok (.iload_n 2, 1) := by decide +kernel
theorem dX3_isChosen_6 : decode cX3_isChosen 6 = .ok (.invokestatic 54, 3) := by decide +kernel
theorem dX3_isChosen_9 : decode cX3_isChosen 9 = .ok (.ireturn, 1) := by decide +kernel
set_option maxRecDepth 20000 in
theorem ggX3_crossingsOf_X3_isChosen : GoodIn wsX3_crossingsOf wsX3_isChosen := goodIn_r _ [5, 6, 7, 8, 4, 9, 10, 11, 12, 13, 14, 15, 16, 17, 18, 19, 20, 21, 22] (by decide +kernel) (by decide +kernel)
set_option maxRecDepth 20000 in
theorem gX3_crossingsOf_X3_isChosen : GoodIn wsX3_crossingsOf (wsV RX3 57 RX3 yX3_isChosen wsX3_isChosen) := goodIn_app (goodIn_of _ (by decide +kernel)) ggX3_crossingsOf_X3_isChosen
set_option maxRecDepth 20000 in
theorem ggX3_crossingsOf_X3_chosenBits : GoodIn wsX3_crossingsOf wsX3_chosenBits := goodIn_r _ [9, 10, 11, 16, 17, 18, 19, 20, 21, 22] (by decide +kernel) (by decide +kernel)
set_option maxRecDepth 20000 in
theorem gX3_crossingsOf_X3_chosenBits : GoodIn wsX3_crossingsOf (wsV RX3 51 RX3 yX3_chosenBits wsX3_chosenBits) := goodIn_app (goodIn_of _ (by decide +kernel)) ggX3_crossingsOf_X3_chosenBits
theorem dX3_crossingsOf_0 : decode cX3_crossingsOf 0 = .ok (.aload_n 0, 1) := by decide +kernel
theorem dX3_crossingsOf_1 : decode cX3_crossingsOf 1 = .ok (.iload_n 1, 1) := by decide +kernel
theorem dX3_crossingsOf_2 : decode cX3_crossingsOf 2 = .ok (.iload_n 2, 1) := by decide +kernel
theorem dX3_crossingsOf_3 : decode cX3_crossingsOf 3 = .ok (.invokevirtual 57, 3) := by decide +kernel
theorem dX3_crossingsOf_6 : decode cX3_crossingsOf 6 = .ok (.ifCond .eq 13, 3) := by decide +kernel
theorem dX3_crossingsOf_9 : decode cX3_crossingsOf 9 = .ok (.aload_n 0, 1) := by decide +kernel
theorem dX3_crossingsOf_10 : decode cX3_crossingsOf 10 = .ok (.iconst 1, 1) := by decide +kernel
theorem dX3_crossingsOf_11 : decode cX3_crossingsOf 11 = .ok (.iload_n 1, 1) := by decide +kernel
theorem dX3_crossingsOf_12 : decode cX3_crossingsOf 12 = .ok (.isub, 1) := by decide +kernel
theorem dX3_crossingsOf_13 : decode cX3_crossingsOf 13 = .ok (.invokevirtual 51, 3) := by decide +kernel
theorem dX3_crossingsOf_16 : decode cX3_crossingsOf 16 = .ok (.goto 4, 3) := by decide +kernel
theorem dX3_crossingsOf_19 : decode cX3_crossingsOf 19 = .ok (.iconst 0, 1) := by decide +kernel
theorem dX3_crossingsOf_20 : decode cX3_crossingsOf 20 = .ok (.ireturn, 1) := by decide +kernel
set_option maxRecDepth 20000 in
theorem ggX3_wouldCatch_X3_columnAt : GoodIn wsX3_wouldCatch wsX3_columnAt := goodIn_r _ [5, 6, 7, 8, 9, 4, 10, 11, 12, 24, 25, 26, 27, 28, 29, 30] (by decide +kernel) (by decide +kernel)
set_option maxRecDepth 20000 in
theorem gX3_wouldCatch_X3_columnAt : GoodIn wsX3_wouldCatch (wsV RX3 42 RX3 yX3_columnAt wsX3_columnAt) := goodIn_app (goodIn_of _ (by decide +kernel)) ggX3_wouldCatch_X3_columnAt
set_option maxRecDepth 20000 in
theorem ggX3_wouldCatch_X1_runCount : GoodIn wsX3_wouldCatch wsX1_runCount := goodIn_r _ [16, 17, 18, 19, 20, 21, 22, 23] (by decide +kernel) (by decide +kernel)
set_option maxRecDepth 20000 in
theorem gX3_wouldCatch_X1_runCount : GoodIn wsX3_wouldCatch (va_wsS RX3 60 yX1_runCount wsX1_runCount) := goodIn_app (goodIn_of _ (by decide +kernel)) ggX3_wouldCatch_X1_runCount
theorem dX3_wouldCatch_0 : decode cX3_wouldCatch 0 = .ok (.aload_n 0, 1) := by decide +kernel
theorem dX3_wouldCatch_1 : decode cX3_wouldCatch 1 = .ok (.iload_n 1, 1) := by decide +kernel
theorem dX3_wouldCatch_2 : decode cX3_wouldCatch 2 = .ok (.iload_n 2, 1) := by decide +kernel
theorem dX3_wouldCatch_3 : decode cX3_wouldCatch 3 = .ok (.invokevirtual 42, 3) := by decide +kernel
theorem dX3_wouldCatch_6 : decode cX3_wouldCatch 6 = .ok (.invokestatic 60, 3) := by decide +kernel
theorem dX3_wouldCatch_9 : decode cX3_wouldCatch 9 = .ok (.iconst 1, 1) := by decide +kernel
theorem dX3_wouldCatch_10 : decode cX3_wouldCatch 10 = .ok (.if_icmp .le 7, 3) := by decide +kernel
theorem dX3_wouldCatch_13 : decode cX3_wouldCatch 13 = .ok (.iconst 1, 1) := by decide +kernel
theorem dX3_wouldCatch_14 : decode cX3_wouldCatch 14 = .ok (.goto 4, 3) := by decide +kernel
theorem dX3_wouldCatch_17 : decode cX3_wouldCatch 17 = .ok (.iconst 0, 1) := by decide +kernel
theorem dX3_wouldCatch_18 : decode cX3_wouldCatch 18 = .ok (.ireturn, 1) := by decide +kernel
set_option maxRecDepth 20000 in
theorem ggX3_ribColumn_X3_columnAt : GoodIn wsX3_ribColumn wsX3_columnAt := goodIn_r _ [5, 6, 7, 8, 9, 4, 10, 11, 12, 13, 14, 15, 16, 17, 18, 19] (by decide +kernel) (by decide +kernel)
set_option maxRecDepth 20000 in
theorem gX3_ribColumn_X3_columnAt : GoodIn wsX3_ribColumn (wsV RX3 42 RX3 yX3_columnAt wsX3_columnAt) := goodIn_app (goodIn_of _ (by decide +kernel)) ggX3_ribColumn_X3_columnAt
theorem dX3_ribColumn_0 : decode cX3_ribColumn 0 = .ok (.iload_n 1, 1) := by decide +kernel
theorem dX3_ribColumn_1 : decode cX3_ribColumn 1 = .ok (.ifCond .ne 12, 3) := by decide +kernel
theorem dX3_ribColumn_4 : decode cX3_ribColumn 4 = .ok (.aload_n 0, 1) := by decide +kernel
theorem dX3_ribColumn_5 : decode cX3_ribColumn 5 = .ok (.iload_n 2, 1) := by decide +kernel
theorem dX3_ribColumn_6 : decode cX3_ribColumn 6 = .ok (.iload_n 3, 1) := by decide +kernel
theorem dX3_ribColumn_7 : decode cX3_ribColumn 7 = .ok (.invokevirtual 42, 3) := by decide +kernel
theorem dX3_ribColumn_10 : decode cX3_ribColumn 10 = .ok (.goto 9, 3) := by decide +kernel
theorem dX3_ribColumn_13 : decode cX3_ribColumn 13 = .ok (.aload_n 0, 1) := by decide +kernel
theorem dX3_ribColumn_14 : decode cX3_ribColumn 14 = .ok (.iload_n 3, 1) := by decide +kernel
theorem dX3_ribColumn_15 : decode cX3_ribColumn 15 = .ok (.iload_n 2, 1) := by decide +kernel
theorem dX3_ribColumn_16 : decode cX3_ribColumn 16 = .ok (.invokevirtual 42, 3) := by decide +kernel
theorem dX3_ribColumn_19 : decode cX3_ribColumn 19 = .ok (.ireturn, 1) := by decide +kernel
set_option maxRecDepth 20000 in
theorem ggX3_figureOf_X3_ribCount : GoodIn wsX3_figureOf wsX3_ribCount := goodIn_r _ [5, 6, 7, 25, 26, 27, 28, 29, 30, 31] (by decide +kernel) (by decide +kernel)
set_option maxRecDepth 20000 in
theorem gX3_figureOf_X3_ribCount : GoodIn wsX3_figureOf (wsV RX3 34 RX3 yX3_ribCount wsX3_ribCount) := goodIn_app (goodIn_of _ (by decide +kernel)) ggX3_figureOf_X3_ribCount
set_option maxRecDepth 20000 in
theorem ggX3_figureOf_X3_ribColumn : GoodIn wsX3_figureOf wsX3_ribColumn := goodIn_r _ [11, 12, 13, 14, 4, 15, 16, 17, 18, 19, 20, 6, 7, 25, 26, 27, 28, 29, 30, 31] (by decide +kernel) (by decide +kernel)
set_option maxRecDepth 20000 in
theorem gX3_figureOf_X3_ribColumn : GoodIn wsX3_figureOf (wsV RX3 63 RX3 yX3_ribColumn wsX3_ribColumn) := goodIn_app (goodIn_of _ (by decide +kernel)) ggX3_figureOf_X3_ribColumn
set_option maxRecDepth 20000 in
theorem ggX3_figureOf_X2_shifted : GoodIn wsX3_figureOf wsX2_shifted := goodIn_r _ [24] (by decide +kernel) (by decide +kernel)
set_option maxRecDepth 20000 in
theorem gX3_figureOf_X2_shifted : GoodIn wsX3_figureOf (va_wsS RX3 67 yX2_shifted wsX2_shifted) := goodIn_app (goodIn_of _ (by decide +kernel)) ggX3_figureOf_X2_shifted
theorem dX3_figureOf_0 : decode cX3_figureOf 0 = .ok (.lconst 0, 1) := by decide +kernel
theorem dX3_figureOf_1 : decode cX3_figureOf 1 = .ok (.lstore_n 3, 1) := by decide +kernel
theorem dX3_figureOf_2 : decode cX3_figureOf 2 = .ok (.iconst 0, 1) := by decide +kernel
theorem dX3_figureOf_3 : decode cX3_figureOf 3 = .ok (.istore 5, 2) := by decide +kernel
theorem dX3_figureOf_5 : decode cX3_figureOf 5 = .ok (.iload 5, 2) := by decide +kernel
theorem dX3_figureOf_7 : decode cX3_figureOf 7 = .ok (.aload_n 0, 1) := by decide +kernel
theorem dX3_figureOf_8 : decode cX3_figureOf 8 = .ok (.iconst 1, 1) := by decide +kernel
theorem dX3_figureOf_9 : decode cX3_figureOf 9 = .ok (.iload_n 1, 1) := by decide +kernel
theorem dX3_figureOf_10 : decode cX3_figureOf 10 = .ok (.isub, 1) := by decide +kernel
theorem dX3_figureOf_11 : decode cX3_figureOf 11 = .ok (.invokevirtual 34, 3) := by decide +kernel
theorem dX3_figureOf_14 : decode cX3_figureOf 14 = .ok (.if_icmp .ge 25, 3) := by decide +kernel
theorem dX3_figureOf_17 : decode cX3_figureOf 17 = .ok (.lload_n 3, 1) := by decide +kernel
theorem dX3_figureOf_18 : decode cX3_figureOf 18 = .ok (.aload_n 0, 1) := by decide +kernel
theorem dX3_figureOf_19 : decode cX3_figureOf 19 = .ok (.iload_n 1, 1) := by decide +kernel
theorem dX3_figureOf_20 : decode cX3_figureOf 20 = .ok (.iload_n 2, 1) := by decide +kernel
theorem dX3_figureOf_21 : decode cX3_figureOf 21 = .ok (.iload 5, 2) := by decide +kernel
theorem dX3_figureOf_23 : decode cX3_figureOf 23 = .ok (.invokevirtual 63, 3) := by decide +kernel
theorem dX3_figureOf_26 : decode cX3_figureOf 26 = .ok (.iload 5, 2) := by decide +kernel
theorem dX3_figureOf_28 : decode cX3_figureOf 28 = .ok (.invokestatic 67, 3) := by decide +kernel
theorem dX3_figureOf_31 : decode cX3_figureOf 31 = .ok (.lor, 1) := by decide +kernel
theorem dX3_figureOf_32 : decode cX3_figureOf 32 = .ok (.lstore_n 3, 1) := by decide +kernel
theorem dX3_figureOf_33 : decode cX3_figureOf 33 = .ok (.iinc 5 1, 3) := by decide +kernel
theorem dX3_figureOf_36 : decode cX3_figureOf 36 = .ok (.goto (-31), 3) := by decide +kernel
theorem dX3_figureOf_39 : decode cX3_figureOf 39 = .ok (.lload_n 3, 1) := by decide +kernel
theorem dX3_figureOf_40 : decode cX3_figureOf 40 = .ok (.lreturn, 1) := by decide +kernel
set_option maxRecDepth 20000 in
theorem ggX3_cutOf_X3_crossingsOf : GoodIn wsX3_cutOf wsX3_crossingsOf := goodIn_r _ [5, 6, 7, 8, 4, 9, 10, 11, 12, 13, 14, 15, 16, 17, 18, 19, 63, 64, 65, 66, 67, 68, 69] (by decide +kernel) (by decide +kernel)
set_option maxRecDepth 20000 in
theorem gX3_cutOf_X3_crossingsOf : GoodIn wsX3_cutOf (wsV RX3 73 RX3 yX3_crossingsOf wsX3_crossingsOf) := goodIn_app (goodIn_of _ (by decide +kernel)) ggX3_cutOf_X3_crossingsOf
set_option maxRecDepth 20000 in
theorem ggX3_cutOf_X3_ribCount : GoodIn wsX3_cutOf wsX3_ribCount := goodIn_r _ [23, 24, 25, 63, 64, 65, 66, 67, 68, 69] (by decide +kernel) (by decide +kernel)
set_option maxRecDepth 20000 in
theorem gX3_cutOf_X3_ribCount : GoodIn wsX3_cutOf (wsV RX3 34 RX3 yX3_ribCount wsX3_ribCount) := goodIn_app (goodIn_of _ (by decide +kernel)) ggX3_cutOf_X3_ribCount
set_option maxRecDepth 20000 in
theorem ggX3_cutOf_X3_ribColumn : GoodIn wsX3_cutOf wsX3_ribColumn := goodIn_r _ [29, 30, 31, 32, 4, 33, 34, 35, 36, 37, 38, 24, 25, 63, 64, 65, 66, 67, 68, 69] (by decide +kernel) (by decide +kernel)
set_option maxRecDepth 20000 in
theorem gX3_cutOf_X3_ribColumn : GoodIn wsX3_cutOf (wsV RX3 63 RX3 yX3_ribColumn wsX3_ribColumn) := goodIn_app (goodIn_of _ (by decide +kernel)) ggX3_cutOf_X3_ribColumn
set_option maxRecDepth 20000 in
theorem ggX3_cutOf_X1_hasBit : GoodIn wsX3_cutOf wsX1_hasBit := goodIn_r _ [19] (by decide +kernel) (by decide +kernel)
set_option maxRecDepth 20000 in
theorem gX3_cutOf_X1_hasBit : GoodIn wsX3_cutOf (va_wsS RX3 54 yX1_hasBit wsX1_hasBit) := goodIn_app (goodIn_of _ (by decide +kernel)) ggX3_cutOf_X1_hasBit
set_option maxRecDepth 20000 in
theorem ggX3_cutOf_X1_upperHalves : GoodIn wsX3_cutOf wsX1_upperHalves := goodIn_r _ [41, 42, 43, 18, 44, 45, 17, 19, 46, 47, 48, 49, 50, 51, 52, 53, 54, 55, 56, 57, 58] (by decide +kernel) (by decide +kernel)
set_option maxRecDepth 20000 in
theorem gX3_cutOf_X1_upperHalves : GoodIn wsX3_cutOf (va_wsS RX3 76 yX1_upperHalves wsX1_upperHalves) := goodIn_app (goodIn_of _ (by decide +kernel)) ggX3_cutOf_X1_upperHalves
set_option maxRecDepth 20000 in
theorem ggX3_cutOf_X2_shifted : GoodIn wsX3_cutOf wsX2_shifted := goodIn_r _ [62] (by decide +kernel) (by decide +kernel)
set_option maxRecDepth 20000 in
theorem gX3_cutOf_X2_shifted : GoodIn wsX3_cutOf (va_wsS RX3 67 yX2_shifted wsX2_shifted) := goodIn_app (goodIn_of _ (by decide +kernel)) ggX3_cutOf_X2_shifted
theorem dX3_cutOf_0 : decode cX3_cutOf 0 = .ok (.aload_n 0, 1) := by decide +kernel
theorem dX3_cutOf_1 : decode cX3_cutOf 1 = .ok (.iload_n 1, 1) := by decide +kernel
theorem dX3_cutOf_2 : decode cX3_cutOf 2 = .ok (.iload_n 2, 1) := by decide +kernel
theorem dX3_cutOf_3 : decode cX3_cutOf 3 = .ok (.invokevirtual 73, 3) := by decide +kernel
theorem dX3_cutOf_6 : decode cX3_cutOf 6 = .ok (.istore_n 3, 1) := by decide +kernel
theorem dX3_cutOf_7 : decode cX3_cutOf 7 = .ok (.lconst 0, 1) := by decide +kernel
theorem dX3_cutOf_8 : decode cX3_cutOf 8 = .ok (.lstore 4, 2) := by decide +kernel
theorem dX3_cutOf_10 : decode cX3_cutOf 10 = .ok (.iconst 0, 1) := by decide +kernel
theorem dX3_cutOf_11 : decode cX3_cutOf 11 = .ok (.istore 6, 2) := by decide +kernel
theorem dX3_cutOf_13 : decode cX3_cutOf 13 = .ok (.iload 6, 2) := by decide +kernel
theorem dX3_cutOf_15 : decode cX3_cutOf 15 = .ok (.aload_n 0, 1) := by decide +kernel
theorem dX3_cutOf_16 : decode cX3_cutOf 16 = .ok (.iconst 1, 1) := by decide +kernel
theorem dX3_cutOf_17 : decode cX3_cutOf 17 = .ok (.iload_n 1, 1) := by decide +kernel
theorem dX3_cutOf_18 : decode cX3_cutOf 18 = .ok (.isub, 1) := by decide +kernel
theorem dX3_cutOf_19 : decode cX3_cutOf 19 = .ok (.invokevirtual 34, 3) := by decide +kernel
theorem dX3_cutOf_22 : decode cX3_cutOf 22 = .ok (.if_icmp .ge 65, 3) := by decide +kernel
theorem dX3_cutOf_25 : decode cX3_cutOf 25 = .ok (.aload_n 0, 1) := by decide +kernel
theorem dX3_cutOf_26 : decode cX3_cutOf 26 = .ok (.iload_n 1, 1) := by decide +kernel
theorem dX3_cutOf_27 : decode cX3_cutOf 27 = .ok (.iload_n 2, 1) := by decide +kernel
theorem dX3_cutOf_28 : decode cX3_cutOf 28 = .ok (.iload 6, 2) := by decide +kernel
theorem dX3_cutOf_30 : decode cX3_cutOf 30 = .ok (.invokevirtual 63, 3) := by decide +kernel
theorem dX3_cutOf_33 : decode cX3_cutOf 33 = .ok (.istore 7, 2) := by decide +kernel
theorem dX3_cutOf_35 : decode cX3_cutOf 35 = .ok (.iload_n 3, 1) := by decide +kernel
