theorem dX3_cutOf_36 : decode cX3_cutOf 36 = .ok (.iload 6, 2) := by decide +kernel
theorem dX3_cutOf_38 : decode cX3_cutOf 38 = .ok (.invokestatic 54, 3) := by decide +kernel
theorem dX3_cutOf_41 : decode cX3_cutOf 41 = .ok (.ifCond .eq 28, 3) := by decide +kernel
theorem dX3_cutOf_44 : decode cX3_cutOf 44 = .ok (.iload 7, 2) := by decide +kernel
theorem dX3_cutOf_46 : decode cX3_cutOf 46 = .ok (.invokestatic 76, 3) := by decide +kernel
theorem dX3_cutOf_49 : decode cX3_cutOf 49 = .ok (.istore 8, 2) := by decide +kernel
theorem dX3_cutOf_51 : decode cX3_cutOf 51 = .ok (.iload_n 1, 1) := by decide +kernel
theorem dX3_cutOf_52 : decode cX3_cutOf 52 = .ok (.ifCond .ne 13, 3) := by decide +kernel
theorem dX3_cutOf_55 : decode cX3_cutOf 55 = .ok (.iload 7, 2) := by decide +kernel
theorem dX3_cutOf_57 : decode cX3_cutOf 57 = .ok (.iload 8, 2) := by decide +kernel
theorem dX3_cutOf_59 : decode cX3_cutOf 59 = .ok (.iconst (-1), 1) := by decide +kernel
theorem dX3_cutOf_60 : decode cX3_cutOf 60 = .ok (.ixor, 1) := by decide +kernel
theorem dX3_cutOf_61 : decode cX3_cutOf 61 = .ok (.iand, 1) := by decide +kernel
theorem dX3_cutOf_62 : decode cX3_cutOf 62 = .ok (.goto 5, 3) := by decide +kernel
theorem dX3_cutOf_65 : decode cX3_cutOf 65 = .ok (.iload 8, 2) := by decide +kernel
theorem dX3_cutOf_67 : decode cX3_cutOf 67 = .ok (.istore 7, 2) := by decide +kernel
theorem dX3_cutOf_69 : decode cX3_cutOf 69 = .ok (.lload 4, 2) := by decide +kernel
theorem dX3_cutOf_71 : decode cX3_cutOf 71 = .ok (.iload 7, 2) := by decide +kernel
theorem dX3_cutOf_73 : decode cX3_cutOf 73 = .ok (.iload 6, 2) := by decide +kernel
theorem dX3_cutOf_75 : decode cX3_cutOf 75 = .ok (.invokestatic 67, 3) := by decide +kernel
theorem dX3_cutOf_78 : decode cX3_cutOf 78 = .ok (.lor, 1) := by decide +kernel
theorem dX3_cutOf_79 : decode cX3_cutOf 79 = .ok (.lstore 4, 2) := by decide +kernel
theorem dX3_cutOf_81 : decode cX3_cutOf 81 = .ok (.iinc 6 1, 3) := by decide +kernel
theorem dX3_cutOf_84 : decode cX3_cutOf 84 = .ok (.goto (-71), 3) := by decide +kernel
theorem dX3_cutOf_87 : decode cX3_cutOf 87 = .ok (.lload 4, 2) := by decide +kernel
theorem dX3_cutOf_89 : decode cX3_cutOf 89 = .ok (.lreturn, 1) := by decide +kernel
set_option maxRecDepth 20000 in
theorem ggX3_chosenFigure_X3_isChosen : GoodIn wsX3_chosenFigure wsX3_isChosen := goodIn_r _ [5, 6, 7, 8, 4, 9, 10, 11, 12, 13, 14, 15, 43, 44, 45, 46, 47, 48, 49] (by decide +kernel) (by decide +kernel)
set_option maxRecDepth 20000 in
theorem gX3_chosenFigure_X3_isChosen : GoodIn wsX3_chosenFigure (wsV RX3 57 RX3 yX3_isChosen wsX3_isChosen) := goodIn_app (goodIn_of _ (by decide +kernel)) ggX3_chosenFigure_X3_isChosen
set_option maxRecDepth 20000 in
theorem ggX3_chosenFigure_X3_figureOf : GoodIn wsX3_chosenFigure wsX3_figureOf := goodIn_r _ [19, 20, 21, 22, 4, 23, 24, 25, 26, 27, 28, 29, 30, 31, 32, 33, 34, 35, 36, 37, 38, 39, 40, 41, 42, 43, 44, 45, 46, 47, 48, 49] (by decide +kernel) (by decide +kernel)
set_option maxRecDepth 20000 in
theorem gX3_chosenFigure_X3_figureOf : GoodIn wsX3_chosenFigure (wsV RX3 79 RX3 yX3_figureOf wsX3_figureOf) := goodIn_app (goodIn_of _ (by decide +kernel)) ggX3_chosenFigure_X3_figureOf
theorem dX3_chosenFigure_0 : decode cX3_chosenFigure 0 = .ok (.aload_n 0, 1) := by decide +kernel
theorem dX3_chosenFigure_1 : decode cX3_chosenFigure 1 = .ok (.iload_n 1, 1) := by decide +kernel
theorem dX3_chosenFigure_2 : decode cX3_chosenFigure 2 = .ok (.iload_n 2, 1) := by decide +kernel
theorem dX3_chosenFigure_3 : decode cX3_chosenFigure 3 = .ok (.invokevirtual 57, 3) := by decide +kernel
theorem dX3_chosenFigure_6 : decode cX3_chosenFigure 6 = .ok (.ifCond .eq 12, 3) := by decide +kernel
theorem dX3_chosenFigure_9 : decode cX3_chosenFigure 9 = .ok (.aload_n 0, 1) := by decide +kernel
theorem dX3_chosenFigure_10 : decode cX3_chosenFigure 10 = .ok (.iload_n 1, 1) := by decide +kernel
theorem dX3_chosenFigure_11 : decode cX3_chosenFigure 11 = .ok (.iload_n 2, 1) := by decide +kernel
theorem dX3_chosenFigure_12 : decode cX3_chosenFigure 12 = .ok (.invokevirtual 79, 3) := by decide +kernel
theorem dX3_chosenFigure_15 : decode cX3_chosenFigure 15 = .ok (.goto 4, 3) := by decide +kernel
theorem dX3_chosenFigure_18 : decode cX3_chosenFigure 18 = .ok (.lconst 0, 1) := by decide +kernel
theorem dX3_chosenFigure_19 : decode cX3_chosenFigure 19 = .ok (.lreturn, 1) := by decide +kernel
set_option maxRecDepth 20000 in
theorem ggX3_loosePartsOf_X3_crossingsOf : GoodIn wsX3_loosePartsOf wsX3_crossingsOf := goodIn_r _ [5, 6, 7, 8, 4, 9, 10, 11, 12, 13, 14, 15, 16, 17, 18, 19, 79, 80, 81, 82, 83, 84, 85] (by decide +kernel) (by decide +kernel)
set_option maxRecDepth 20000 in
theorem gX3_loosePartsOf_X3_crossingsOf : GoodIn wsX3_loosePartsOf (wsV RX3 73 RX3 yX3_crossingsOf wsX3_crossingsOf) := goodIn_app (goodIn_of _ (by decide +kernel)) ggX3_loosePartsOf_X3_crossingsOf
set_option maxRecDepth 20000 in
theorem ggX3_loosePartsOf_X3_ribCount : GoodIn wsX3_loosePartsOf wsX3_ribCount := goodIn_r _ [23, 24, 25, 79, 80, 81, 82, 83, 84, 85] (by decide +kernel) (by decide +kernel)
set_option maxRecDepth 20000 in
theorem gX3_loosePartsOf_X3_ribCount : GoodIn wsX3_loosePartsOf (wsV RX3 34 RX3 yX3_ribCount wsX3_ribCount) := goodIn_app (goodIn_of _ (by decide +kernel)) ggX3_loosePartsOf_X3_ribCount
set_option maxRecDepth 20000 in
theorem ggX3_loosePartsOf_X1_hasBit : GoodIn wsX3_loosePartsOf wsX1_hasBit := goodIn_r _ [19] (by decide +kernel) (by decide +kernel)
set_option maxRecDepth 20000 in
theorem gX3_loosePartsOf_X1_hasBit : GoodIn wsX3_loosePartsOf (va_wsS RX3 54 yX1_hasBit wsX1_hasBit) := goodIn_app (goodIn_of _ (by decide +kernel)) ggX3_loosePartsOf_X1_hasBit
set_option maxRecDepth 20000 in
theorem ggX3_loosePartsOf_X2_shifted : GoodIn wsX3_loosePartsOf wsX2_shifted := goodIn_r _ [29] (by decide +kernel) (by decide +kernel)
set_option maxRecDepth 20000 in
theorem gX3_loosePartsOf_X2_shifted : GoodIn wsX3_loosePartsOf (va_wsS RX3 67 yX2_shifted wsX2_shifted) := goodIn_app (goodIn_of _ (by decide +kernel)) ggX3_loosePartsOf_X2_shifted
set_option maxRecDepth 20000 in
theorem ggX3_loosePartsOf_X3_cutOf : GoodIn wsX3_loosePartsOf wsX3_cutOf := goodIn_r _ [33, 1, 2, 3, 4, 5, 6, 7, 8, 9, 10, 11, 12, 13, 14, 15, 16, 17, 18, 19, 20, 21, 22, 23, 24, 25, 34, 35, 36, 37, 38, 39, 40, 41, 42, 43, 44, 45, 46, 47, 48, 49, 50, 51, 52, 53, 54, 55, 56, 57, 58, 59, 60, 61, 62, 63, 64, 65, 66, 26, 27, 28, 29, 79, 80, 81, 82, 83, 84, 85] (by decide +kernel) (by decide +kernel)
set_option maxRecDepth 20000 in
theorem gX3_loosePartsOf_X3_cutOf : GoodIn wsX3_loosePartsOf (wsV RX3 82 RX3 yX3_cutOf wsX3_cutOf) := goodIn_app (goodIn_of _ (by decide +kernel)) ggX3_loosePartsOf_X3_cutOf
set_option maxRecDepth 20000 in
theorem ggX3_loosePartsOf_X2_partsClearOf : GoodIn wsX3_loosePartsOf wsX2_partsClearOf := goodIn_r _ [69, 70, 71, 72, 28, 73, 74, 75, 76, 77, 78] (by decide +kernel) (by decide +kernel)
set_option maxRecDepth 20000 in
theorem gX3_loosePartsOf_X2_partsClearOf : GoodIn wsX3_loosePartsOf (va_wsS RX3 85 yX2_partsClearOf wsX2_partsClearOf) := goodIn_app (goodIn_of _ (by decide +kernel)) ggX3_loosePartsOf_X2_partsClearOf
theorem dX3_loosePartsOf_0 : decode cX3_loosePartsOf 0 = .ok (.aload_n 0, 1) := by decide +kernel
theorem dX3_loosePartsOf_1 : decode cX3_loosePartsOf 1 = .ok (.iload_n 1, 1) := by decide +kernel
theorem dX3_loosePartsOf_2 : decode cX3_loosePartsOf 2 = .ok (.iload_n 2, 1) := by decide +kernel
theorem dX3_loosePartsOf_3 : decode cX3_loosePartsOf 3 = .ok (.invokevirtual 73, 3) := by decide +kernel
theorem dX3_loosePartsOf_6 : decode cX3_loosePartsOf 6 = .ok (.istore_n 3, 1) := by decide +kernel
theorem dX3_loosePartsOf_7 : decode cX3_loosePartsOf 7 = .ok (.lconst 0, 1) := by decide +kernel
theorem dX3_loosePartsOf_8 : decode cX3_loosePartsOf 8 = .ok (.lstore 4, 2) := by decide +kernel
theorem dX3_loosePartsOf_10 : decode cX3_loosePartsOf 10 = .ok (.iconst 0, 1) := by decide +kernel
theorem dX3_loosePartsOf_11 : decode cX3_loosePartsOf 11 = .ok (.istore 6, 2) := by decide +kernel
theorem dX3_loosePartsOf_13 : decode cX3_loosePartsOf 13 = .ok (.iload 6, 2) := by decide +kernel
theorem dX3_loosePartsOf_15 : decode cX3_loosePartsOf 15 = .ok (.aload_n 0, 1) := by decide +kernel
theorem dX3_loosePartsOf_16 : decode cX3_loosePartsOf 16 = .ok (.iconst 1, 1) := by decide +kernel
theorem dX3_loosePartsOf_17 : decode cX3_loosePartsOf 17 = .ok (.iload_n 1, 1) := by decide +kernel
theorem dX3_loosePartsOf_18 : decode cX3_loosePartsOf 18 = .ok (.isub, 1) := by decide +kernel
theorem dX3_loosePartsOf_19 : decode cX3_loosePartsOf 19 = .ok (.invokevirtual 34, 3) := by decide +kernel
theorem dX3_loosePartsOf_22 : decode cX3_loosePartsOf 22 = .ok (.if_icmp .ge 31, 3) := by decide +kernel
theorem dX3_loosePartsOf_25 : decode cX3_loosePartsOf 25 = .ok (.iload_n 3, 1) := by decide +kernel
theorem dX3_loosePartsOf_26 : decode cX3_loosePartsOf 26 = .ok (.iload 6, 2) := by decide +kernel
theorem dX3_loosePartsOf_28 : decode cX3_loosePartsOf 28 = .ok (.invokestatic 54, 3) := by decide +kernel
theorem dX3_loosePartsOf_31 : decode cX3_loosePartsOf 31 = .ok (.ifCond .eq 16, 3) := by decide +kernel
theorem dX3_loosePartsOf_34 : decode cX3_loosePartsOf 34 = .ok (.lload 4, 2) := by decide +kernel
theorem dX3_loosePartsOf_36 : decode cX3_loosePartsOf 36 = .ok (.sipush 255, 3) := by decide +kernel
theorem dX3_loosePartsOf_39 : decode cX3_loosePartsOf 39 = .ok (.iload 6, 2) := by decide +kernel
theorem dX3_loosePartsOf_41 : decode cX3_loosePartsOf 41 = .ok (.invokestatic 67, 3) := by decide +kernel
theorem dX3_loosePartsOf_44 : decode cX3_loosePartsOf 44 = .ok (.lor, 1) := by decide +kernel
theorem dX3_loosePartsOf_45 : decode cX3_loosePartsOf 45 = .ok (.lstore 4, 2) := by decide +kernel
theorem dX3_loosePartsOf_47 : decode cX3_loosePartsOf 47 = .ok (.iinc 6 1, 3) := by decide +kernel
theorem dX3_loosePartsOf_50 : decode cX3_loosePartsOf 50 = .ok (.goto (-37), 3) := by decide +kernel
theorem dX3_loosePartsOf_53 : decode cX3_loosePartsOf 53 = .ok (.aload_n 0, 1) := by decide +kernel
theorem dX3_loosePartsOf_54 : decode cX3_loosePartsOf 54 = .ok (.iload_n 1, 1) := by decide +kernel
theorem dX3_loosePartsOf_55 : decode cX3_loosePartsOf 55 = .ok (.iload_n 2, 1) := by decide +kernel
theorem dX3_loosePartsOf_56 : decode cX3_loosePartsOf 56 = .ok (.invokevirtual 82, 3) := by decide +kernel
theorem dX3_loosePartsOf_59 : decode cX3_loosePartsOf 59 = .ok (.lload 4, 2) := by decide +kernel
theorem dX3_loosePartsOf_61 : decode cX3_loosePartsOf 61 = .ok (.invokestatic 85, 3) := by decide +kernel
theorem dX3_loosePartsOf_64 : decode cX3_loosePartsOf 64 = .ok (.ireturn, 1) := by decide +kernel
set_option maxRecDepth 20000 in
theorem ggX3_crossingsWithRun_X3_crossingsOf : GoodIn wsX3_crossingsWithRun wsX3_crossingsOf := goodIn_r _ [5, 6, 7, 8, 4, 9, 10, 11, 12, 13, 14, 15, 16, 17, 18, 19, 39, 40, 41, 42, 43, 44, 45] (by decide +kernel) (by decide +kernel)
set_option maxRecDepth 20000 in
theorem gX3_crossingsWithRun_X3_crossingsOf : GoodIn wsX3_crossingsWithRun (wsV RX3 73 RX3 yX3_crossingsOf wsX3_crossingsOf) := goodIn_app (goodIn_of _ (by decide +kernel)) ggX3_crossingsWithRun_X3_crossingsOf
set_option maxRecDepth 20000 in
theorem ggX3_crossingsWithRun_X3_ribCount : GoodIn wsX3_crossingsWithRun wsX3_ribCount := goodIn_r _ [23, 24, 25, 39, 40, 41, 42, 43, 44, 45] (by decide +kernel) (by decide +kernel)
set_option maxRecDepth 20000 in
theorem gX3_crossingsWithRun_X3_ribCount : GoodIn wsX3_crossingsWithRun (wsV RX3 34 RX3 yX3_ribCount wsX3_ribCount) := goodIn_app (goodIn_of _ (by decide +kernel)) ggX3_crossingsWithRun_X3_ribCount
set_option maxRecDepth 20000 in
theorem ggX3_crossingsWithRun_X1_hasBit : GoodIn wsX3_crossingsWithRun wsX1_hasBit := goodIn_r _ [19] (by decide +kernel) (by decide +kernel)
set_option maxRecDepth 20000 in
theorem gX3_crossingsWithRun_X1_hasBit : GoodIn wsX3_crossingsWithRun (va_wsS RX3 54 yX1_hasBit wsX1_hasBit) := goodIn_app (goodIn_of _ (by decide +kernel)) ggX3_crossingsWithRun_X1_hasBit
set_option maxRecDepth 20000 in
theorem ggX3_crossingsWithRun_X3_ribColumn : GoodIn wsX3_crossingsWithRun wsX3_ribColumn := goodIn_r _ [29, 30, 31, 32, 4, 33, 34, 35, 36, 37, 38, 24, 25, 39, 40, 41, 42, 43, 44, 45] (by decide +kernel) (by decide +kernel)
set_option maxRecDepth 20000 in
theorem gX3_crossingsWithRun_X3_ribColumn : GoodIn wsX3_crossingsWithRun (wsV RX3 63 RX3 yX3_ribColumn wsX3_ribColumn) := goodIn_app (goodIn_of _ (by decide +kernel)) ggX3_crossingsWithRun_X3_ribColumn
theorem dX3_crossingsWithRun_0 : decode cX3_crossingsWithRun 0 = .ok (.aload_n 0, 1) := by decide +kernel
theorem dX3_crossingsWithRun_1 : decode cX3_crossingsWithRun 1 = .ok (.iload_n 1, 1) := by decide +kernel
theorem dX3_crossingsWithRun_2 : decode cX3_crossingsWithRun 2 = .ok (.iload_n 2, 1) := by decide +kernel
theorem dX3_crossingsWithRun_3 : decode cX3_crossingsWithRun 3 = .ok (.invokevirtual 73, 3) := by decide +kernel
theorem dX3_crossingsWithRun_6 : decode cX3_crossingsWithRun 6 = .ok (.istore_n 3, 1) := by decide +kernel
theorem dX3_crossingsWithRun_7 : decode cX3_crossingsWithRun 7 = .ok (.iconst 0, 1) := by decide +kernel
theorem dX3_crossingsWithRun_8 : decode cX3_crossingsWithRun 8 = .ok (.istore 4, 2) := by decide +kernel
theorem dX3_crossingsWithRun_10 : decode cX3_crossingsWithRun 10 = .ok (.iconst 0, 1) := by decide +kernel
theorem dX3_crossingsWithRun_11 : decode cX3_crossingsWithRun 11 = .ok (.istore 5, 2) := by decide +kernel
theorem dX3_crossingsWithRun_13 : decode cX3_crossingsWithRun 13 = .ok (.iload 5, 2) := by decide +kernel
theorem dX3_crossingsWithRun_15 : decode cX3_crossingsWithRun 15 = .ok (.aload_n 0, 1) := by decide +kernel
theorem dX3_crossingsWithRun_16 : decode cX3_crossingsWithRun 16 = .ok (.iconst 1, 1) := by decide +kernel
theorem dX3_crossingsWithRun_17 : decode cX3_crossingsWithRun 17 = .ok (.iload_n 1, 1) := by decide +kernel
theorem dX3_crossingsWithRun_18 : decode cX3_crossingsWithRun 18 = .ok (.isub, 1) := by decide +kernel
theorem dX3_crossingsWithRun_19 : decode cX3_crossingsWithRun 19 = .ok (.invokevirtual 34, 3) := by decide +kernel
theorem dX3_crossingsWithRun_22 : decode cX3_crossingsWithRun 22 = .ok (.if_icmp .ge 32, 3) := by decide +kernel
theorem dX3_crossingsWithRun_25 : decode cX3_crossingsWithRun 25 = .ok (.iload_n 3, 1) := by decide +kernel
theorem dX3_crossingsWithRun_26 : decode cX3_crossingsWithRun 26 = .ok (.iload 5, 2) := by decide +kernel
theorem dX3_crossingsWithRun_28 : decode cX3_crossingsWithRun 28 = .ok (.invokestatic 54, 3) := by decide +kernel
theorem dX3_crossingsWithRun_31 : decode cX3_crossingsWithRun 31 = .ok (.ifCond .eq 17, 3) := by decide +kernel
theorem dX3_crossingsWithRun_34 : decode cX3_crossingsWithRun 34 = .ok (.aload_n 0, 1) := by decide +kernel
theorem dX3_crossingsWithRun_35 : decode cX3_crossingsWithRun 35 = .ok (.iload_n 1, 1) := by decide +kernel
theorem dX3_crossingsWithRun_36 : decode cX3_crossingsWithRun 36 = .ok (.iload_n 2, 1) := by decide +kernel
theorem dX3_crossingsWithRun_37 : decode cX3_crossingsWithRun 37 = .ok (.iload 5, 2) := by decide +kernel
theorem dX3_crossingsWithRun_39 : decode cX3_crossingsWithRun 39 = .ok (.invokevirtual 63, 3) := by decide +kernel
theorem dX3_crossingsWithRun_42 : decode cX3_crossingsWithRun 42 = .ok (.ifCond .eq 6, 3) := by decide +kernel
theorem dX3_crossingsWithRun_45 : decode cX3_crossingsWithRun 45 = .ok (.iinc 4 1, 3) := by decide +kernel
theorem dX3_crossingsWithRun_48 : decode cX3_crossingsWithRun 48 = .ok (.iinc 5 1, 3) := by decide +kernel
theorem dX3_crossingsWithRun_51 : decode cX3_crossingsWithRun 51 = .ok (.goto (-38), 3) := by decide +kernel
theorem dX3_crossingsWithRun_54 : decode cX3_crossingsWithRun 54 = .ok (.iload 4, 2) := by decide +kernel
theorem dX3_crossingsWithRun_56 : decode cX3_crossingsWithRun 56 = .ok (.ireturn, 1) := by decide +kernel
set_option maxRecDepth 20000 in
theorem ggX3_runsInCrossings_X3_crossingsOf : GoodIn wsX3_runsInCrossings wsX3_crossingsOf := goodIn_r _ [5, 6, 7, 8, 4, 9, 10, 11, 12, 13, 14, 15, 16, 17, 18, 19, 49, 50, 51, 52, 53, 54, 55] (by decide +kernel) (by decide +kernel)
set_option maxRecDepth 20000 in
theorem gX3_runsInCrossings_X3_crossingsOf : GoodIn wsX3_runsInCrossings (wsV RX3 73 RX3 yX3_crossingsOf wsX3_crossingsOf) := goodIn_app (goodIn_of _ (by decide +kernel)) ggX3_runsInCrossings_X3_crossingsOf
set_option maxRecDepth 20000 in
theorem ggX3_runsInCrossings_X3_ribCount : GoodIn wsX3_runsInCrossings wsX3_ribCount := goodIn_r _ [23, 24, 25, 49, 50, 51, 52, 53, 54, 55] (by decide +kernel) (by decide +kernel)
set_option maxRecDepth 20000 in
theorem gX3_runsInCrossings_X3_ribCount : GoodIn wsX3_runsInCrossings (wsV RX3 34 RX3 yX3_ribCount wsX3_ribCount) := goodIn_app (goodIn_of _ (by decide +kernel)) ggX3_runsInCrossings_X3_ribCount
set_option maxRecDepth 20000 in
theorem ggX3_runsInCrossings_X1_hasBit : GoodIn wsX3_runsInCrossings wsX1_hasBit := goodIn_r _ [19] (by decide +kernel) (by decide +kernel)
set_option maxRecDepth 20000 in
theorem gX3_runsInCrossings_X1_hasBit : GoodIn wsX3_runsInCrossings (va_wsS RX3 54 yX1_hasBit wsX1_hasBit) := goodIn_app (goodIn_of _ (by decide +kernel)) ggX3_runsInCrossings_X1_hasBit
set_option maxRecDepth 20000 in
theorem ggX3_runsInCrossings_X3_ribColumn : GoodIn wsX3_runsInCrossings wsX3_ribColumn := goodIn_r _ [29, 30, 31, 32, 4, 33, 34, 35, 36, 37, 38, 24, 25, 49, 50, 51, 52, 53, 54, 55] (by decide +kernel) (by decide +kernel)
set_option maxRecDepth 20000 in
theorem gX3_runsInCrossings_X3_ribColumn : GoodIn wsX3_runsInCrossings (wsV RX3 63 RX3 yX3_ribColumn wsX3_ribColumn) := goodIn_app (goodIn_of _ (by decide +kernel)) ggX3_runsInCrossings_X3_ribColumn
set_option maxRecDepth 20000 in
theorem ggX3_runsInCrossings_X1_runCount : GoodIn wsX3_runsInCrossings wsX1_runCount := goodIn_r _ [41, 42, 43, 44, 45, 46, 47, 48] (by decide +kernel) (by decide +kernel)
set_option maxRecDepth 20000 in
theorem gX3_runsInCrossings_X1_runCount : GoodIn wsX3_runsInCrossings (va_wsS RX3 60 yX1_runCount wsX1_runCount) := goodIn_app (goodIn_of _ (by decide +kernel)) ggX3_runsInCrossings_X1_runCount
theorem dX3_runsInCrossings_0 : decode cX3_runsInCrossings 0 = .ok (.aload_n 0, 1) := by decide +kernel
theorem dX3_runsInCrossings_1 : decode cX3_runsInCrossings 1 = .ok (.iload_n 1, 1) := by decide +kernel
theorem dX3_runsInCrossings_2 : decode cX3_runsInCrossings 2 = .ok (.iload_n 2, 1) := by decide +kernel
theorem dX3_runsInCrossings_3 : decode cX3_runsInCrossings 3 = .ok (.invokevirtual 73, 3) := by decide +kernel
theorem dX3_runsInCrossings_6 : decode cX3_runsInCrossings 6 = .ok (.istore_n 3, 1) := by decide +kernel
theorem dX3_runsInCrossings_7 : decode cX3_runsInCrossings 7 = .ok (.iconst 0, 1) := by decide +kernel
theorem dX3_runsInCrossings_8 : decode cX3_runsInCrossings 8 = .ok (.istore 4, 2) := by decide +kernel
theorem dX3_runsInCrossings_10 : decode cX3_runsInCrossings 10 = .ok (.iconst 0, 1) := by decide +kernel
theorem dX3_runsInCrossings_11 : decode cX3_runsInCrossings 11 = .ok (.istore 5, 2) := by decide +kernel
theorem dX3_runsInCrossings_13 : decode cX3_runsInCrossings 13 = .ok (.iload 5, 2) := by decide +kernel
theorem dX3_runsInCrossings_15 : decode cX3_runsInCrossings 15 = .ok (.aload_n 0, 1) := by decide +kernel
theorem dX3_runsInCrossings_16 : decode cX3_runsInCrossings 16 = .ok (.iconst 1, 1) := by decide +kernel
theorem dX3_runsInCrossings_17 : decode cX3_runsInCrossings 17 = .ok (.iload_n 1, 1) := by decide +kernel
theorem dX3_runsInCrossings_18 : decode cX3_runsInCrossings 18 = .ok (.isub, 1) := by decide +kernel
theorem dX3_runsInCrossings_19 : decode cX3_runsInCrossings 19 = .ok (.invokevirtual 34, 3) := by decide +kernel
theorem dX3_runsInCrossings_22 : decode cX3_runsInCrossings 22 = .ok (.if_icmp .ge 34, 3) := by decide +kernel
theorem dX3_runsInCrossings_25 : decode cX3_runsInCrossings 25 = .ok (.iload_n 3, 1) := by decide +kernel
theorem dX3_runsInCrossings_26 : decode cX3_runsInCrossings 26 = .ok (.iload 5, 2) := by decide +kernel
theorem dX3_runsInCrossings_28 : decode cX3_runsInCrossings 28 = .ok (.invokestatic 54, 3) := by decide +kernel
theorem dX3_runsInCrossings_31 : decode cX3_runsInCrossings 31 = .ok (.ifCond .eq 19, 3) := by decide +kernel
theorem dX3_runsInCrossings_34 : decode cX3_runsInCrossings 34 = .ok (.iload 4, 2) := by decide +kernel
theorem dX3_runsInCrossings_36 : decode cX3_runsInCrossings 36 = .ok (.aload_n 0, 1) := by decide +kernel
theorem dX3_runsInCrossings_37 : decode cX3_runsInCrossings 37 = .ok (.iload_n 1, 1) := by decide +kernel
theorem dX3_runsInCrossings_38 : decode cX3_runsInCrossings 38 = .ok (.iload_n 2, 1) := by decide +kernel
theorem dX3_runsInCrossings_39 : decode cX3_runsInCrossings 39 = .ok (.iload 5, 2) := by decide +kernel
theorem dX3_runsInCrossings_41 : decode cX3_runsInCrossings 41 = .ok (.invokevirtual 63, 3) := by decide +kernel
theorem dX3_runsInCrossings_44 : decode cX3_runsInCrossings 44 = .ok (.invokestatic 60, 3) := by decide +kernel
theorem dX3_runsInCrossings_47 : decode cX3_runsInCrossings 47 = .ok (.iadd, 1) := by decide +kernel
theorem dX3_runsInCrossings_48 : decode cX3_runsInCrossings 48 = .ok (.istore 4, 2) := by decide +kernel
theorem dX3_runsInCrossings_50 : decode cX3_runsInCrossings 50 = .ok (.iinc 5 1, 3) := by decide +kernel
theorem dX3_runsInCrossings_53 : decode cX3_runsInCrossings 53 = .ok (.goto (-40), 3) := by decide +kernel
theorem dX3_runsInCrossings_56 : decode cX3_runsInCrossings 56 = .ok (.iload 4, 2) := by decide +kernel
theorem dX3_runsInCrossings_58 : decode cX3_runsInCrossings 58 = .ok (.ireturn, 1) := by decide +kernel
set_option maxRecDepth 20000 in
theorem ggX3_cubesOfCuts_X3_ribCount : GoodIn wsX3_cubesOfCuts wsX3_ribCount := goodIn_r _ [5, 6, 7, 74, 75, 76, 77, 78, 79, 80] (by decide +kernel) (by decide +kernel)
set_option maxRecDepth 20000 in
theorem gX3_cubesOfCuts_X3_ribCount : GoodIn wsX3_cubesOfCuts (wsV RX3 34 RX3 yX3_ribCount wsX3_ribCount) := goodIn_app (goodIn_of _ (by decide +kernel)) ggX3_cubesOfCuts_X3_ribCount
set_option maxRecDepth 20000 in
theorem ggX3_cubesOfCuts_X3_isChosen : GoodIn wsX3_cubesOfCuts wsX3_isChosen := goodIn_r _ [11, 12, 13, 14, 4, 15, 16, 17, 18, 19, 20, 21, 74, 75, 76, 77, 78, 79, 80] (by decide +kernel) (by decide +kernel)
set_option maxRecDepth 20000 in
theorem gX3_cubesOfCuts_X3_isChosen : GoodIn wsX3_cubesOfCuts (wsV RX3 57 RX3 yX3_isChosen wsX3_isChosen) := goodIn_app (goodIn_of _ (by decide +kernel)) ggX3_cubesOfCuts_X3_isChosen
set_option maxRecDepth 20000 in
theorem ggX3_cubesOfCuts_X3_cutOf : GoodIn wsX3_cubesOfCuts wsX3_cutOf := goodIn_r _ [25, 26, 27, 28, 4, 29, 8, 9, 10, 11, 12, 13, 14, 15, 16, 17, 18, 19, 20, 21, 1, 2, 3, 5, 6, 7, 30, 31, 32, 33, 34, 35, 36, 37, 38, 39, 40, 41, 42, 43, 44, 45, 46, 47, 48, 49, 50, 51, 52, 53, 54, 55, 56, 57, 58, 59, 60, 61, 62, 63, 64, 65, 66, 74, 75, 76, 77, 78, 79, 80] (by decide +kernel) (by decide +kernel)
set_option maxRecDepth 20000 in
theorem gX3_cubesOfCuts_X3_cutOf : GoodIn wsX3_cubesOfCuts (wsV RX3 82 RX3 yX3_cutOf wsX3_cutOf) := goodIn_app (goodIn_of _ (by decide +kernel)) ggX3_cubesOfCuts_X3_cutOf
set_option maxRecDepth 20000 in
theorem ggX3_cubesOfCuts_J13_bitCount_95d88 : GoodIn wsX3_cubesOfCuts wsJ13_bitCount_95d88 := goodIn_r _ [70, 71, 72, 73] (by decide +kernel) (by decide +kernel)
set_option maxRecDepth 20000 in
theorem gX3_cubesOfCuts_J13_bitCount_95d88 : GoodIn wsX3_cubesOfCuts (va_wsS RX3 89 yJ13_bitCount_95d88 wsJ13_bitCount_95d88) := goodIn_app (goodIn_of _ (by decide +kernel)) ggX3_cubesOfCuts_J13_bitCount_95d88
theorem dX3_cubesOfCuts_0 : decode cX3_cubesOfCuts 0 = .ok (.iconst 0, 1) := by decide +kernel
theorem dX3_cubesOfCuts_1 : decode cX3_cubesOfCuts 1 = .ok (.istore_n 1, 1) := by decide +kernel
theorem dX3_cubesOfCuts_2 : decode cX3_cubesOfCuts 2 = .ok (.iconst 0, 1) := by decide +kernel
theorem dX3_cubesOfCuts_3 : decode cX3_cubesOfCuts 3 = .ok (.istore_n 2, 1) := by decide +kernel
theorem dX3_cubesOfCuts_4 : decode cX3_cubesOfCuts 4 = .ok (.iload_n 2, 1) := by decide +kernel
theorem dX3_cubesOfCuts_5 : decode cX3_cubesOfCuts 5 = .ok (.iconst 2, 1) := by decide +kernel
theorem dX3_cubesOfCuts_6 : decode cX3_cubesOfCuts 6 = .ok (.if_icmp .ge 51, 3) := by decide +kernel
theorem dX3_cubesOfCuts_9 : decode cX3_cubesOfCuts 9 = .ok (.iconst 0, 1) := by decide +kernel
theorem dX3_cubesOfCuts_10 : decode cX3_cubesOfCuts 10 = .ok (.istore_n 3, 1) := by decide +kernel
theorem dX3_cubesOfCuts_11 : decode cX3_cubesOfCuts 11 = .ok (.iload_n 3, 1) := by decide +kernel
theorem dX3_cubesOfCuts_12 : decode cX3_cubesOfCuts 12 = .ok (.aload_n 0, 1) := by decide +kernel
theorem dX3_cubesOfCuts_13 : decode cX3_cubesOfCuts 13 = .ok (.iload_n 2, 1) := by decide +kernel
theorem dX3_cubesOfCuts_14 : decode cX3_cubesOfCuts 14 = .ok (.invokevirtual 34, 3) := by decide +kernel
theorem dX3_cubesOfCuts_17 : decode cX3_cubesOfCuts 17 = .ok (.if_icmp .ge 34, 3) := by decide +kernel
theorem dX3_cubesOfCuts_20 : decode cX3_cubesOfCuts 20 = .ok (.iload_n 1, 1) := by decide +kernel
theorem dX3_cubesOfCuts_21 : decode cX3_cubesOfCuts 21 = .ok (.aload_n 0, 1) := by decide +kernel
theorem dX3_cubesOfCuts_22 : decode cX3_cubesOfCuts 22 = .ok (.iload_n 2, 1) := by decide +kernel
theorem dX3_cubesOfCuts_23 : decode cX3_cubesOfCuts 23 = .ok (.iload_n 3, 1) := by decide +kernel
theorem dX3_cubesOfCuts_24 : decode cX3_cubesOfCuts 24 = .ok (.invokevirtual 57, 3) := by decide +kernel
theorem dX3_cubesOfCuts_27 : decode cX3_cubesOfCuts 27 = .ok (.ifCond .eq 15, 3) := by decide +kernel
theorem dX3_cubesOfCuts_30 : decode cX3_cubesOfCuts 30 = .ok (.aload_n 0, 1) := by decide +kernel
theorem dX3_cubesOfCuts_31 : decode cX3_cubesOfCuts 31 = .ok (.iload_n 2, 1) := by decide +kernel
theorem dX3_cubesOfCuts_32 : decode cX3_cubesOfCuts 32 = .ok (.iload_n 3, 1) := by decide +kernel
theorem dX3_cubesOfCuts_33 : decode cX3_cubesOfCuts 33 = .ok (.invokevirtual 82, 3) := by decide +kernel
theorem dX3_cubesOfCuts_36 : decode cX3_cubesOfCuts 36 = .ok (.invokestatic 89, 3) := by decide +kernel
theorem dX3_cubesOfCuts_39 : decode cX3_cubesOfCuts 39 = .ok (.goto 4, 3) := by decide +kernel
theorem dX3_cubesOfCuts_42 : decode cX3_cubesOfCuts 42 = .ok (.iconst 0, 1) := by decide +kernel
theorem dX3_cubesOfCuts_43 : decode cX3_cubesOfCuts 43 = .ok (.iadd, 1) := by decide +kernel
theorem dX3_cubesOfCuts_44 : decode cX3_cubesOfCuts 44 = .ok (.istore_n 1, 1) := by decide +kernel
theorem dX3_cubesOfCuts_45 : decode cX3_cubesOfCuts 45 = .ok (.iinc 3 1, 3) := by decide +kernel
theorem dX3_cubesOfCuts_48 : decode cX3_cubesOfCuts 48 = .ok (.goto (-37), 3) := by decide +kernel
theorem dX3_cubesOfCuts_51 : decode cX3_cubesOfCuts 51 = .ok (.iinc 2 1, 3) := by decide +kernel
theorem dX3_cubesOfCuts_54 : decode cX3_cubesOfCuts 54 = .ok (.goto (-50), 3) := by decide +kernel
theorem dX3_cubesOfCuts_57 : decode cX3_cubesOfCuts 57 = .ok (.iload_n 1, 1) := by decide +kernel
theorem dX3_cubesOfCuts_58 : decode cX3_cubesOfCuts 58 = .ok (.ireturn, 1) := by decide +kernel
set_option maxRecDepth 20000 in
theorem ggX3_looseParts_X3_ribCount : GoodIn wsX3_looseParts wsX3_ribCount := goodIn_r _ [5, 6, 7, 83, 84, 85, 86, 87, 88, 89] (by decide +kernel) (by decide +kernel)
set_option maxRecDepth 20000 in
theorem gX3_looseParts_X3_ribCount : GoodIn wsX3_looseParts (wsV RX3 34 RX3 yX3_ribCount wsX3_ribCount) := goodIn_app (goodIn_of _ (by decide +kernel)) ggX3_looseParts_X3_ribCount
set_option maxRecDepth 20000 in
theorem ggX3_looseParts_X3_isChosen : GoodIn wsX3_looseParts wsX3_isChosen := goodIn_r _ [11, 12, 13, 14, 4, 15, 16, 17, 18, 19, 20, 21, 83, 84, 85, 86, 87, 88, 89] (by decide +kernel) (by decide +kernel)
set_option maxRecDepth 20000 in
theorem gX3_looseParts_X3_isChosen : GoodIn wsX3_looseParts (wsV RX3 57 RX3 yX3_isChosen wsX3_isChosen) := goodIn_app (goodIn_of _ (by decide +kernel)) ggX3_looseParts_X3_isChosen
set_option maxRecDepth 20000 in
theorem ggX3_looseParts_X3_loosePartsOf : GoodIn wsX3_looseParts wsX3_loosePartsOf := goodIn_r _ [25, 26, 27, 28, 4, 29, 8, 9, 10, 11, 12, 13, 14, 15, 16, 17, 18, 19, 20, 21, 1, 2, 3, 5, 6, 7, 30, 31, 32, 33, 34, 35, 36, 37, 38, 39, 40, 41, 42, 43, 44, 45, 46, 47, 48, 49, 50, 51, 52, 53, 54, 55, 56, 57, 58, 59, 60, 61, 62, 63, 64, 65, 66, 67, 68, 69, 70, 71, 72, 73, 74, 75, 76, 77, 78, 79, 80, 81, 82, 83, 84, 85, 86, 87, 88, 89] (by decide +kernel) (by decide +kernel)
set_option maxRecDepth 20000 in
theorem gX3_looseParts_X3_loosePartsOf : GoodIn wsX3_looseParts (wsV RX3 94 RX3 yX3_loosePartsOf wsX3_loosePartsOf) := goodIn_app (goodIn_of _ (by decide +kernel)) ggX3_looseParts_X3_loosePartsOf
theorem dX3_looseParts_0 : decode cX3_looseParts 0 = .ok (.iconst 0, 1) := by decide +kernel
theorem dX3_looseParts_1 : decode cX3_looseParts 1 = .ok (.istore_n 1, 1) := by decide +kernel
theorem dX3_looseParts_2 : decode cX3_looseParts 2 = .ok (.iconst 0, 1) := by decide +kernel
theorem dX3_looseParts_3 : decode cX3_looseParts 3 = .ok (.istore_n 2, 1) := by decide +kernel
theorem dX3_looseParts_4 : decode cX3_looseParts 4 = .ok (.iload_n 2, 1) := by decide +kernel
theorem dX3_looseParts_5 : decode cX3_looseParts 5 = .ok (.iconst 2, 1) := by decide +kernel
theorem dX3_looseParts_6 : decode cX3_looseParts 6 = .ok (.if_icmp .ge 48, 3) := by decide +kernel
theorem dX3_looseParts_9 : decode cX3_looseParts 9 = .ok (.iconst 0, 1) := by decide +kernel
theorem dX3_looseParts_10 : decode cX3_looseParts 10 = .ok (.istore_n 3, 1) := by decide +kernel
theorem dX3_looseParts_11 : decode cX3_looseParts 11 = .ok (.iload_n 3, 1) := by decide +kernel
theorem dX3_looseParts_12 : decode cX3_looseParts 12 = .ok (.aload_n 0, 1) := by decide +kernel
theorem dX3_looseParts_13 : decode cX3_looseParts 13 = .ok (.iload_n 2, 1) := by decide +kernel
theorem dX3_looseParts_14 : decode cX3_looseParts 14 = .ok (.invokevirtual 34, 3) := by decide +kernel
theorem dX3_looseParts_17 : decode cX3_looseParts 17 = .ok (.if_icmp .ge 31, 3) := by decide +kernel
theorem dX3_looseParts_20 : decode cX3_looseParts 20 = .ok (.iload_n 1, 1) := by decide +kernel
theorem dX3_looseParts_21 : decode cX3_looseParts 21 = .ok (.aload_n 0, 1) := by decide +kernel
theorem dX3_looseParts_22 : decode cX3_looseParts 22 = .ok (.iload_n 2, 1) := by decide +kernel
theorem dX3_looseParts_23 : decode cX3_looseParts 23 = .ok (.iload_n 3, 1) := by decide +kernel
theorem dX3_looseParts_24 : decode cX3_looseParts 24 = .ok (.invokevirtual 57, 3) := by decide +kernel
theorem dX3_looseParts_27 : decode cX3_looseParts 27 = .ok (.ifCond .eq 12, 3) := by decide +kernel
theorem dX3_looseParts_30 : decode cX3_looseParts 30 = .ok (.aload_n 0, 1) := by decide +kernel
theorem dX3_looseParts_31 : decode cX3_looseParts 31 = .ok (.iload_n 2, 1) := by decide +kernel
theorem dX3_looseParts_32 : decode cX3_looseParts 32 = .ok (.iload_n 3, 1) := by decide +kernel
theorem dX3_looseParts_33 : decode cX3_looseParts 33 = .ok (.invokevirtual 94, 3) := by decide +kernel
theorem dX3_looseParts_36 : decode cX3_looseParts 36 = .ok (.goto 4, 3) := by decide +kernel
theorem dX3_looseParts_39 : decode cX3_looseParts 39 = .ok (.iconst 0, 1) := by decide +kernel
theorem dX3_looseParts_40 : decode cX3_looseParts 40 = .ok (.iadd, 1) := by decide +kernel
theorem dX3_looseParts_41 : decode cX3_looseParts 41 = .ok (.istore_n 1, 1) := by decide +kernel
theorem dX3_looseParts_42 : decode cX3_looseParts 42 = .ok (.iinc 3 1, 3) := by decide +kernel
theorem dX3_looseParts_45 : decode cX3_looseParts 45 = .ok (.goto (-34), 3) := by decide +kernel
theorem dX3_looseParts_48 : decode cX3_looseParts 48 = .ok (.iinc 2 1, 3) := by decide +kernel
theorem dX3_looseParts_51 : decode cX3_looseParts 51 = .ok (.goto (-47), 3) := by decide +kernel
theorem dX3_looseParts_54 : decode cX3_looseParts 54 = .ok (.iload_n 1, 1) := by decide +kernel
theorem dX3_looseParts_55 : decode cX3_looseParts 55 = .ok (.ireturn, 1) := by decide +kernel
set_option maxRecDepth 20000 in
theorem ggX3_coveredCubes_X3_isChosen : GoodIn wsX3_coveredCubes wsX3_isChosen := goodIn_r _ [7, 8, 9, 10, 6, 11, 12, 13, 14, 15, 16, 17, 34, 35, 36, 37, 38, 39, 40] (by decide +kernel) (by decide +kernel)
set_option maxRecDepth 20000 in
theorem gX3_coveredCubes_X3_isChosen : GoodIn wsX3_coveredCubes (wsV RX3 57 RX3 yX3_isChosen wsX3_isChosen) := goodIn_app (goodIn_of _ (by decide +kernel)) ggX3_coveredCubes_X3_isChosen
set_option maxRecDepth 20000 in
theorem ggX3_coveredCubes_X3_columnAt : GoodIn wsX3_coveredCubes wsX3_columnAt := goodIn_r _ [21, 22, 23, 24, 25, 6, 26, 1, 2, 34, 35, 36, 37, 38, 39, 40] (by decide +kernel) (by decide +kernel)
set_option maxRecDepth 20000 in
theorem gX3_coveredCubes_X3_columnAt : GoodIn wsX3_coveredCubes (wsV RX3 42 RX3 yX3_columnAt wsX3_columnAt) := goodIn_app (goodIn_of _ (by decide +kernel)) ggX3_coveredCubes_X3_columnAt
set_option maxRecDepth 20000 in
theorem ggX3_coveredCubes_J6_bitCount_0f7a4 : GoodIn wsX3_coveredCubes wsJ6_bitCount_0f7a4 := goodIn_r _ [30, 31, 32, 33] (by decide +kernel) (by decide +kernel)
set_option maxRecDepth 20000 in
theorem gX3_coveredCubes_J6_bitCount_0f7a4 : GoodIn wsX3_coveredCubes (va_wsS RX3 46 yJ6_bitCount_0f7a4 wsJ6_bitCount_0f7a4) := goodIn_app (goodIn_of _ (by decide +kernel)) ggX3_coveredCubes_J6_bitCount_0f7a4
theorem dX3_coveredCubes_0 : decode cX3_coveredCubes 0 = .ok (.iconst 0, 1) := by decide +kernel
theorem dX3_coveredCubes_1 : decode cX3_coveredCubes 1 = .ok (.istore_n 1, 1) := by decide +kernel
theorem dX3_coveredCubes_2 : decode cX3_coveredCubes 2 = .ok (.iconst 0, 1) := by decide +kernel
theorem dX3_coveredCubes_3 : decode cX3_coveredCubes 3 = .ok (.istore_n 2, 1) := by decide +kernel
theorem dX3_coveredCubes_4 : decode cX3_coveredCubes 4 = .ok (.iload_n 2, 1) := by decide +kernel
theorem dX3_coveredCubes_5 : decode cX3_coveredCubes 5 = .ok (.aload_n 0, 1) := by decide +kernel
theorem dX3_coveredCubes_6 : decode cX3_coveredCubes 6 = .ok (.getfield 18, 3) := by decide +kernel
theorem dX3_coveredCubes_9 : decode cX3_coveredCubes 9 = .ok (.if_icmp .ge 55, 3) := by decide +kernel
theorem dX3_coveredCubes_12 : decode cX3_coveredCubes 12 = .ok (.iconst 0, 1) := by decide +kernel
theorem dX3_coveredCubes_13 : decode cX3_coveredCubes 13 = .ok (.istore_n 3, 1) := by decide +kernel
theorem dX3_coveredCubes_14 : decode cX3_coveredCubes 14 = .ok (.iload_n 3, 1) := by decide +kernel
theorem dX3_coveredCubes_15 : decode cX3_coveredCubes 15 = .ok (.aload_n 0, 1) := by decide +kernel
theorem dX3_coveredCubes_16 : decode cX3_coveredCubes 16 = .ok (.getfield 22, 3) := by decide +kernel
theorem dX3_coveredCubes_19 : decode cX3_coveredCubes 19 = .ok (.if_icmp .ge 39, 3) := by decide +kernel
theorem dX3_coveredCubes_22 : decode cX3_coveredCubes 22 = .ok (.aload_n 0, 1) := by decide +kernel
theorem dX3_coveredCubes_23 : decode cX3_coveredCubes 23 = .ok (.iconst 0, 1) := by decide +kernel
theorem dX3_coveredCubes_24 : decode cX3_coveredCubes 24 = .ok (.iload_n 2, 1) := by decide +kernel
theorem dX3_coveredCubes_25 : decode cX3_coveredCubes 25 = .ok (.invokevirtual 57, 3) := by decide +kernel
theorem dX3_coveredCubes_28 : decode cX3_coveredCubes 28 = .ok (.ifCond .ne 12, 3) := by decide +kernel
theorem dX3_coveredCubes_31 : decode cX3_coveredCubes 31 = .ok (.aload_n 0, 1) := by decide +kernel
theorem dX3_coveredCubes_32 : decode cX3_coveredCubes 32 = .ok (.iconst 1, 1) := by decide +kernel
theorem dX3_coveredCubes_33 : decode cX3_coveredCubes 33 = .ok (.iload_n 3, 1) := by decide +kernel
theorem dX3_coveredCubes_34 : decode cX3_coveredCubes 34 = .ok (.invokevirtual 57, 3) := by decide +kernel
theorem dX3_coveredCubes_37 : decode cX3_coveredCubes 37 = .ok (.ifCond .eq 15, 3) := by decide +kernel
theorem dX3_coveredCubes_40 : decode cX3_coveredCubes 40 = .ok (.iload_n 1, 1) := by decide +kernel
theorem dX3_coveredCubes_41 : decode cX3_coveredCubes 41 = .ok (.aload_n 0, 1) := by decide +kernel
theorem dX3_coveredCubes_42 : decode cX3_coveredCubes 42 = .ok (.iload_n 2, 1) := by decide +kernel
theorem dX3_coveredCubes_43 : decode cX3_coveredCubes 43 = .ok (.iload_n 3, 1) := by decide +kernel
theorem dX3_coveredCubes_44 : decode cX3_coveredCubes 44 = .ok (.invokevirtual 42, 3) := by decide +kernel
theorem dX3_coveredCubes_47 : decode cX3_coveredCubes 47 = .ok (.invokestatic 46, 3) := by decide +kernel
theorem dX3_coveredCubes_50 : decode cX3_coveredCubes 50 = .ok (.iadd, 1) := by decide +kernel
theorem dX3_coveredCubes_51 : decode cX3_coveredCubes 51 = .ok (.istore_n 1, 1) := by decide +kernel
theorem dX3_coveredCubes_52 : decode cX3_coveredCubes 52 = .ok (.iinc 3 1, 3) := by decide +kernel
theorem dX3_coveredCubes_55 : decode cX3_coveredCubes 55 = .ok (.goto (-41), 3) := by decide +kernel
theorem dX3_coveredCubes_58 : decode cX3_coveredCubes 58 = .ok (.iinc 2 1, 3) := by decide +kernel
theorem dX3_coveredCubes_61 : decode cX3_coveredCubes 61 = .ok (.goto (-57), 3) := by decide +kernel
theorem dX3_coveredCubes_64 : decode cX3_coveredCubes 64 = .ok (.iload_n 1, 1) := by decide +kernel
theorem dX3_coveredCubes_65 : decode cX3_coveredCubes 65 = .ok (.ireturn, 1) := by decide +kernel
set_option maxRecDepth 20000 in
theorem ggX3_chooseBest_J6_bitCount_0f7a4 : GoodIn wsX3_chooseBest wsJ6_bitCount_0f7a4 := goodIn_r _ [7, 8, 9, 10] (by decide +kernel) (by decide +kernel)
set_option maxRecDepth 20000 in
theorem gX3_chooseBest_J6_bitCount_0f7a4 : GoodIn wsX3_chooseBest (va_wsS RX3 46 yJ6_bitCount_0f7a4 wsJ6_bitCount_0f7a4) := goodIn_app (goodIn_of _ (by decide +kernel)) ggX3_chooseBest_J6_bitCount_0f7a4
set_option maxRecDepth 20000 in
theorem ggX3_chooseBest_X3_reckonGains : GoodIn wsX3_chooseBest wsX3_reckonGains := goodIn_r _ [15, 16, 17, 1, 18, 19, 20, 21, 22, 23, 24, 14, 25, 26, 27, 28, 29, 30, 4, 5, 6, 7, 8, 9, 10, 31, 32, 33, 34, 35, 36, 37, 38, 74, 75, 76, 77, 78, 79, 80] (by decide +kernel) (by decide +kernel)
set_option maxRecDepth 20000 in
theorem gX3_chooseBest_X3_reckonGains : GoodIn wsX3_chooseBest (wsV RX3 97 RX3 yX3_reckonGains wsX3_reckonGains) := goodIn_app (goodIn_of _ (by decide +kernel)) ggX3_chooseBest_X3_reckonGains
set_option maxRecDepth 20000 in
theorem ggX3_chooseBest_X3_greatestGains : GoodIn wsX3_chooseBest wsX3_greatestGains := goodIn_r _ [42, 16, 17, 18, 19, 20, 21, 74, 75, 76, 77, 78, 79, 80] (by decide +kernel) (by decide +kernel)
set_option maxRecDepth 20000 in
theorem gX3_chooseBest_X3_greatestGains : GoodIn wsX3_chooseBest (wsV RX3 101 RX3 yX3_greatestGains wsX3_greatestGains) := goodIn_app (goodIn_of _ (by decide +kernel)) ggX3_chooseBest_X3_greatestGains
set_option maxRecDepth 20000 in
theorem ggX3_chooseBest_X3_worthAlone : GoodIn wsX3_chooseBest wsX3_worthAlone := goodIn_r _ [46, 1, 18, 19, 20, 21, 47, 48, 49, 14, 50, 51, 52, 53, 54, 16, 55, 56, 57, 58, 22, 23, 24, 25, 26, 27, 28, 29, 30, 59, 60, 61, 62, 63, 64, 65, 66, 67, 68, 69, 74, 75, 76, 77, 78, 79, 80] (by decide +kernel) (by decide +kernel)
set_option maxRecDepth 20000 in
theorem gX3_chooseBest_X3_worthAlone : GoodIn wsX3_chooseBest (wsV RX3 104 RX3 yX3_worthAlone wsX3_worthAlone) := goodIn_app (goodIn_of _ (by decide +kernel)) ggX3_chooseBest_X3_worthAlone
set_option maxRecDepth 20000 in
theorem ggX3_chooseBest_X3_sumOfGains : GoodIn wsX3_chooseBest wsX3_sumOfGains := goodIn_r _ [73, 16, 17, 18, 19, 20, 21, 74, 75, 76, 77, 78, 79, 80] (by decide +kernel) (by decide +kernel)
set_option maxRecDepth 20000 in
theorem gX3_chooseBest_X3_sumOfGains : GoodIn wsX3_chooseBest (wsV RX3 107 RX3 yX3_sumOfGains wsX3_sumOfGains) := goodIn_app (goodIn_of _ (by decide +kernel)) ggX3_chooseBest_X3_sumOfGains
theorem dX3_chooseBest_0 : decode cX3_chooseBest 0 = .ok (.iconst 0, 1) := by decide +kernel
theorem dX3_chooseBest_1 : decode cX3_chooseBest 1 = .ok (.istore_n 3, 1) := by decide +kernel
theorem dX3_chooseBest_2 : decode cX3_chooseBest 2 = .ok (.iconst 0, 1) := by decide +kernel
theorem dX3_chooseBest_3 : decode cX3_chooseBest 3 = .ok (.istore 4, 2) := by decide +kernel
theorem dX3_chooseBest_5 : decode cX3_chooseBest 5 = .ok (.iconst (-1), 1) := by decide +kernel
theorem dX3_chooseBest_6 : decode cX3_chooseBest 6 = .ok (.istore 5, 2) := by decide +kernel
theorem dX3_chooseBest_8 : decode cX3_chooseBest 8 = .ok (.iconst 0, 1) := by decide +kernel
theorem dX3_chooseBest_9 : decode cX3_chooseBest 9 = .ok (.istore 6, 2) := by decide +kernel
theorem dX3_chooseBest_11 : decode cX3_chooseBest 11 = .ok (.iload 6, 2) := by decide +kernel
theorem dX3_chooseBest_13 : decode cX3_chooseBest 13 = .ok (.iconst 1, 1) := by decide +kernel
theorem dX3_chooseBest_14 : decode cX3_chooseBest 14 = .ok (.aload_n 0, 1) := by decide +kernel
theorem dX3_chooseBest_15 : decode cX3_chooseBest 15 = .ok (.getfield 18, 3) := by decide +kernel
theorem dX3_chooseBest_18 : decode cX3_chooseBest 18 = .ok (.ishl, 1) := by decide +kernel
theorem dX3_chooseBest_19 : decode cX3_chooseBest 19 = .ok (.if_icmp .ge 64, 3) := by decide +kernel
theorem dX3_chooseBest_22 : decode cX3_chooseBest 22 = .ok (.iload 6, 2) := by decide +kernel
theorem dX3_chooseBest_24 : decode cX3_chooseBest 24 = .ok (.invokestatic 46, 3) := by decide +kernel
theorem dX3_chooseBest_27 : decode cX3_chooseBest 27 = .ok (.iload_n 1, 1) := by decide +kernel
theorem dX3_chooseBest_28 : decode cX3_chooseBest 28 = .ok (.if_icmp .ne 49, 3) := by decide +kernel
theorem dX3_chooseBest_31 : decode cX3_chooseBest 31 = .ok (.aload_n 0, 1) := by decide +kernel
theorem dX3_chooseBest_32 : decode cX3_chooseBest 32 = .ok (.iload 6, 2) := by decide +kernel
theorem dX3_chooseBest_34 : decode cX3_chooseBest 34 = .ok (.invokevirtual 97, 3) := by decide +kernel
theorem dX3_chooseBest_37 : decode cX3_chooseBest 37 = .ok (.aload_n 0, 1) := by decide +kernel
theorem dX3_chooseBest_38 : decode cX3_chooseBest 38 = .ok (.iload_n 2, 1) := by decide +kernel
theorem dX3_chooseBest_39 : decode cX3_chooseBest 39 = .ok (.invokevirtual 101, 3) := by decide +kernel
theorem dX3_chooseBest_42 : decode cX3_chooseBest 42 = .ok (.istore 7, 2) := by decide +kernel
theorem dX3_chooseBest_44 : decode cX3_chooseBest 44 = .ok (.aload_n 0, 1) := by decide +kernel
theorem dX3_chooseBest_45 : decode cX3_chooseBest 45 = .ok (.iload 6, 2) := by decide +kernel
theorem dX3_chooseBest_47 : decode cX3_chooseBest 47 = .ok (.invokevirtual 104, 3) := by decide +kernel
theorem dX3_chooseBest_50 : decode cX3_chooseBest 50 = .ok (.aload_n 0, 1) := by decide +kernel
theorem dX3_chooseBest_51 : decode cX3_chooseBest 51 = .ok (.iload 7, 2) := by decide +kernel
theorem dX3_chooseBest_53 : decode cX3_chooseBest 53 = .ok (.invokevirtual 107, 3) := by decide +kernel
theorem dX3_chooseBest_56 : decode cX3_chooseBest 56 = .ok (.iadd, 1) := by decide +kernel
theorem dX3_chooseBest_57 : decode cX3_chooseBest 57 = .ok (.istore 8, 2) := by decide +kernel
theorem dX3_chooseBest_59 : decode cX3_chooseBest 59 = .ok (.iload 8, 2) := by decide +kernel
theorem dX3_chooseBest_61 : decode cX3_chooseBest 61 = .ok (.iload 5, 2) := by decide +kernel
theorem dX3_chooseBest_63 : decode cX3_chooseBest 63 = .ok (.if_icmp .le 14, 3) := by decide +kernel
theorem dX3_chooseBest_66 : decode cX3_chooseBest 66 = .ok (.iload 8, 2) := by decide +kernel
theorem dX3_chooseBest_68 : decode cX3_chooseBest 68 = .ok (.istore 5, 2) := by decide +kernel
theorem dX3_chooseBest_70 : decode cX3_chooseBest 70 = .ok (.iload 6, 2) := by decide +kernel
theorem dX3_chooseBest_72 : decode cX3_chooseBest 72 = .ok (.istore_n 3, 1) := by decide +kernel
theorem dX3_chooseBest_73 : decode cX3_chooseBest 73 = .ok (.iload 7, 2) := by decide +kernel
theorem dX3_chooseBest_75 : decode cX3_chooseBest 75 = .ok (.istore 4, 2) := by decide +kernel
theorem dX3_chooseBest_77 : decode cX3_chooseBest 77 = .ok (.iinc 6 1, 3) := by decide +kernel
theorem dX3_chooseBest_80 : decode cX3_chooseBest 80 = .ok (.goto (-69), 3) := by decide +kernel
theorem dX3_chooseBest_83 : decode cX3_chooseBest 83 = .ok (.aload_n 0, 1) := by decide +kernel
theorem dX3_chooseBest_84 : decode cX3_chooseBest 84 = .ok (.iload_n 3, 1) := by decide +kernel
theorem dX3_chooseBest_85 : decode cX3_chooseBest 85 = .ok (.putfield 28, 3) := by decide +kernel
theorem dX3_chooseBest_88 : decode cX3_chooseBest 88 = .ok (.aload_n 0, 1) := by decide +kernel
theorem dX3_chooseBest_89 : decode cX3_chooseBest 89 = .ok (.iload 4, 2) := by decide +kernel
theorem dX3_chooseBest_91 : decode cX3_chooseBest 91 = .ok (.putfield 31, 3) := by decide +kernel
theorem dX3_chooseBest_94 : decode cX3_chooseBest 94 = .ok (.return_, 1) := by decide +kernel
set_option maxRecDepth 20000 in
theorem ggX3_worthAlone_X1_hasBit : GoodIn wsX3_worthAlone wsX1_hasBit := goodIn_r _ [5] (by decide +kernel) (by decide +kernel)
set_option maxRecDepth 20000 in
theorem gX3_worthAlone_X1_hasBit : GoodIn wsX3_worthAlone (va_wsS RX3 54 yX1_hasBit wsX1_hasBit) := goodIn_app (goodIn_of _ (by decide +kernel)) ggX3_worthAlone_X1_hasBit
set_option maxRecDepth 20000 in
theorem ggX3_worthAlone_X3_figureOf : GoodIn wsX3_worthAlone wsX3_figureOf := goodIn_r _ [10, 11, 12, 13, 9, 14, 1, 15, 16, 17, 18, 19, 20, 21, 22, 23, 24, 25, 26, 27, 28, 29, 30, 31, 32, 40, 41, 42, 43, 44, 45, 46] (by decide +kernel) (by decide +kernel)
set_option maxRecDepth 20000 in
theorem gX3_worthAlone_X3_figureOf : GoodIn wsX3_worthAlone (wsV RX3 79 RX3 yX3_figureOf wsX3_figureOf) := goodIn_app (goodIn_of _ (by decide +kernel)) ggX3_worthAlone_X3_figureOf
set_option maxRecDepth 20000 in
theorem ggX3_worthAlone_J13_bitCount_95d88 : GoodIn wsX3_worthAlone wsJ13_bitCount_95d88 := goodIn_r _ [36, 37, 38, 39] (by decide +kernel) (by decide +kernel)
set_option maxRecDepth 20000 in
theorem gX3_worthAlone_J13_bitCount_95d88 : GoodIn wsX3_worthAlone (va_wsS RX3 89 yJ13_bitCount_95d88 wsJ13_bitCount_95d88) := goodIn_app (goodIn_of _ (by decide +kernel)) ggX3_worthAlone_J13_bitCount_95d88
theorem dX3_worthAlone_0 : decode cX3_worthAlone 0 = .ok (.iconst 0, 1) := by decide +kernel
theorem dX3_worthAlone_1 : decode cX3_worthAlone 1 = .ok (.istore_n 2, 1) := by decide +kernel
theorem dX3_worthAlone_2 : decode cX3_worthAlone 2 = .ok (.iconst 0, 1) := by decide +kernel
theorem dX3_worthAlone_3 : decode cX3_worthAlone 3 = .ok (.istore_n 3, 1) := by decide +kernel
theorem dX3_worthAlone_4 : decode cX3_worthAlone 4 = .ok (.iload_n 3, 1) := by decide +kernel
theorem dX3_worthAlone_5 : decode cX3_worthAlone 5 = .ok (.aload_n 0, 1) := by decide +kernel
theorem dX3_worthAlone_6 : decode cX3_worthAlone 6 = .ok (.getfield 18, 3) := by decide +kernel
theorem dX3_worthAlone_9 : decode cX3_worthAlone 9 = .ok (.if_icmp .ge 29, 3) := by decide +kernel
theorem dX3_worthAlone_12 : decode cX3_worthAlone 12 = .ok (.iload_n 1, 1) := by decide +kernel
theorem dX3_worthAlone_13 : decode cX3_worthAlone 13 = .ok (.iload_n 3, 1) := by decide +kernel
theorem dX3_worthAlone_14 : decode cX3_worthAlone 14 = .ok (.invokestatic 54, 3) := by decide +kernel
theorem dX3_worthAlone_17 : decode cX3_worthAlone 17 = .ok (.ifCond .eq 15, 3) := by decide +kernel
theorem dX3_worthAlone_20 : decode cX3_worthAlone 20 = .ok (.iload_n 2, 1) := by decide +kernel
theorem dX3_worthAlone_21 : decode cX3_worthAlone 21 = .ok (.aload_n 0, 1) := by decide +kernel
theorem dX3_worthAlone_22 : decode cX3_worthAlone 22 = .ok (.iconst 0, 1) := by decide +kernel
theorem dX3_worthAlone_23 : decode cX3_worthAlone 23 = .ok (.iload_n 3, 1) := by decide +kernel
theorem dX3_worthAlone_24 : decode cX3_worthAlone 24 = .ok (.invokevirtual 79, 3) := by decide +kernel
theorem dX3_worthAlone_27 : decode cX3_worthAlone 27 = .ok (.invokestatic 89, 3) := by decide +kernel
theorem dX3_worthAlone_30 : decode cX3_worthAlone 30 = .ok (.iadd, 1) := by decide +kernel
theorem dX3_worthAlone_31 : decode cX3_worthAlone 31 = .ok (.istore_n 2, 1) := by decide +kernel
theorem dX3_worthAlone_32 : decode cX3_worthAlone 32 = .ok (.iinc 3 1, 3) := by decide +kernel
theorem dX3_worthAlone_35 : decode cX3_worthAlone 35 = .ok (.goto (-31), 3) := by decide +kernel
theorem dX3_worthAlone_38 : decode cX3_worthAlone 38 = .ok (.sipush 128, 3) := by decide +kernel
theorem dX3_worthAlone_41 : decode cX3_worthAlone 41 = .ok (.iload_n 2, 1) := by decide +kernel
theorem dX3_worthAlone_42 : decode cX3_worthAlone 42 = .ok (.imul, 1) := by decide +kernel
theorem dX3_worthAlone_43 : decode cX3_worthAlone 43 = .ok (.ireturn, 1) := by decide +kernel
set_option maxRecDepth 20000 in
theorem ggX3_reckonGains_X1_hasBit : GoodIn wsX3_reckonGains wsX1_hasBit := goodIn_r _ [7] (by decide +kernel) (by decide +kernel)
set_option maxRecDepth 20000 in
theorem gX3_reckonGains_X1_hasBit : GoodIn wsX3_reckonGains (va_wsS RX3 54 yX1_hasBit wsX1_hasBit) := goodIn_app (goodIn_of _ (by decide +kernel)) ggX3_reckonGains_X1_hasBit
set_option maxRecDepth 20000 in
theorem ggX3_reckonGains_X3_columnAt : GoodIn wsX3_reckonGains wsX3_columnAt := goodIn_r _ [12, 13, 14, 15, 16, 11, 17, 3, 1, 33, 34, 35, 36, 37, 38, 39] (by decide +kernel) (by decide +kernel)
set_option maxRecDepth 20000 in
theorem gX3_reckonGains_X3_columnAt : GoodIn wsX3_reckonGains (wsV RX3 42 RX3 yX3_columnAt wsX3_columnAt) := goodIn_app (goodIn_of _ (by decide +kernel)) ggX3_reckonGains_X3_columnAt
set_option maxRecDepth 20000 in
theorem ggX3_reckonGains_J6_bitCount_0f7a4 : GoodIn wsX3_reckonGains wsJ6_bitCount_0f7a4 := goodIn_r _ [21, 22, 23, 24] (by decide +kernel) (by decide +kernel)
set_option maxRecDepth 20000 in
theorem gX3_reckonGains_J6_bitCount_0f7a4 : GoodIn wsX3_reckonGains (va_wsS RX3 46 yJ6_bitCount_0f7a4 wsJ6_bitCount_0f7a4) := goodIn_app (goodIn_of _ (by decide +kernel)) ggX3_reckonGains_J6_bitCount_0f7a4
set_option maxRecDepth 20000 in
theorem ggX3_reckonGains_X3_wouldCatch : GoodIn wsX3_reckonGains wsX3_wouldCatch := goodIn_r _ [28, 8, 9, 10, 11, 12, 13, 14, 15, 16, 17, 3, 1, 29, 30, 6, 31, 32, 19, 20, 21, 22, 23, 24, 33, 34, 35, 36, 37, 38, 39] (by decide +kernel) (by decide +kernel)
set_option maxRecDepth 20000 in
theorem gX3_reckonGains_X3_wouldCatch : GoodIn wsX3_reckonGains (wsV RX3 110 RX3 yX3_wouldCatch wsX3_wouldCatch) := goodIn_app (goodIn_of _ (by decide +kernel)) ggX3_reckonGains_X3_wouldCatch
theorem dX3_reckonGains_0 : decode cX3_reckonGains 0 = .ok (.iconst 0, 1) := by decide +kernel
theorem dX3_reckonGains_1 : decode cX3_reckonGains 1 = .ok (.istore_n 2, 1) := by decide +kernel
theorem dX3_reckonGains_2 : decode cX3_reckonGains 2 = .ok (.iload_n 2, 1) := by decide +kernel
theorem dX3_reckonGains_3 : decode cX3_reckonGains 3 = .ok (.aload_n 0, 1) := by decide +kernel
theorem dX3_reckonGains_4 : decode cX3_reckonGains 4 = .ok (.getfield 22, 3) := by decide +kernel
theorem dX3_reckonGains_7 : decode cX3_reckonGains 7 = .ok (.if_icmp .ge 87, 3) := by decide +kernel
theorem dX3_reckonGains_10 : decode cX3_reckonGains 10 = .ok (.iload_n 2, 1) := by decide +kernel
theorem dX3_reckonGains_11 : decode cX3_reckonGains 11 = .ok (.aload_n 0, 1) := by decide +kernel
theorem dX3_reckonGains_12 : decode cX3_reckonGains 12 = .ok (.getfield 15, 3) := by decide +kernel
theorem dX3_reckonGains_15 : decode cX3_reckonGains 15 = .ok (.arraylength, 1) := by decide +kernel
theorem dX3_reckonGains_16 : decode cX3_reckonGains 16 = .ok (.if_icmp .ge 78, 3) := by decide +kernel
theorem dX3_reckonGains_19 : decode cX3_reckonGains 19 = .ok (.iconst 0, 1) := by decide +kernel
theorem dX3_reckonGains_20 : decode cX3_reckonGains 20 = .ok (.istore_n 3, 1) := by decide +kernel
theorem dX3_reckonGains_21 : decode cX3_reckonGains 21 = .ok (.iconst 0, 1) := by decide +kernel
theorem dX3_reckonGains_22 : decode cX3_reckonGains 22 = .ok (.istore 4, 2) := by decide +kernel
theorem dX3_reckonGains_24 : decode cX3_reckonGains 24 = .ok (.iload 4, 2) := by decide +kernel
theorem dX3_reckonGains_26 : decode cX3_reckonGains 26 = .ok (.aload_n 0, 1) := by decide +kernel
theorem dX3_reckonGains_27 : decode cX3_reckonGains 27 = .ok (.getfield 18, 3) := by decide +kernel
theorem dX3_reckonGains_30 : decode cX3_reckonGains 30 = .ok (.if_icmp .ge 51, 3) := by decide +kernel
theorem dX3_reckonGains_33 : decode cX3_reckonGains 33 = .ok (.iload_n 1, 1) := by decide +kernel
theorem dX3_reckonGains_34 : decode cX3_reckonGains 34 = .ok (.iload 4, 2) := by decide +kernel
theorem dX3_reckonGains_36 : decode cX3_reckonGains 36 = .ok (.invokestatic 54, 3) := by decide +kernel
theorem dX3_reckonGains_39 : decode cX3_reckonGains 39 = .ok (.ifCond .ne 23, 3) := by decide +kernel
theorem dX3_reckonGains_42 : decode cX3_reckonGains 42 = .ok (.iload_n 3, 1) := by decide +kernel
theorem dX3_reckonGains_43 : decode cX3_reckonGains 43 = .ok (.sipush 128, 3) := by decide +kernel
theorem dX3_reckonGains_46 : decode cX3_reckonGains 46 = .ok (.aload_n 0, 1) := by decide +kernel
theorem dX3_reckonGains_47 : decode cX3_reckonGains 47 = .ok (.iload 4, 2) := by decide +kernel
theorem dX3_reckonGains_49 : decode cX3_reckonGains 49 = .ok (.iload_n 2, 1) := by decide +kernel
theorem dX3_reckonGains_50 : decode cX3_reckonGains 50 = .ok (.invokevirtual 42, 3) := by decide +kernel
theorem dX3_reckonGains_53 : decode cX3_reckonGains 53 = .ok (.invokestatic 46, 3) := by decide +kernel
theorem dX3_reckonGains_56 : decode cX3_reckonGains 56 = .ok (.imul, 1) := by decide +kernel
theorem dX3_reckonGains_57 : decode cX3_reckonGains 57 = .ok (.iadd, 1) := by decide +kernel
theorem dX3_reckonGains_58 : decode cX3_reckonGains 58 = .ok (.istore_n 3, 1) := by decide +kernel
theorem dX3_reckonGains_59 : decode cX3_reckonGains 59 = .ok (.goto 16, 3) := by decide +kernel
theorem dX3_reckonGains_62 : decode cX3_reckonGains 62 = .ok (.aload_n 0, 1) := by decide +kernel
theorem dX3_reckonGains_63 : decode cX3_reckonGains 63 = .ok (.iload 4, 2) := by decide +kernel
theorem dX3_reckonGains_65 : decode cX3_reckonGains 65 = .ok (.iload_n 2, 1) := by decide +kernel
theorem dX3_reckonGains_66 : decode cX3_reckonGains 66 = .ok (.invokevirtual 110, 3) := by decide +kernel
theorem dX3_reckonGains_69 : decode cX3_reckonGains 69 = .ok (.ifCond .eq 6, 3) := by decide +kernel
theorem dX3_reckonGains_72 : decode cX3_reckonGains 72 = .ok (.iinc 3 (-1), 3) := by decide +kernel
theorem dX3_reckonGains_75 : decode cX3_reckonGains 75 = .ok (.iinc 4 1, 3) := by decide +kernel
theorem dX3_reckonGains_78 : decode cX3_reckonGains 78 = .ok (.goto (-54), 3) := by decide +kernel
theorem dX3_reckonGains_81 : decode cX3_reckonGains 81 = .ok (.aload_n 0, 1) := by decide +kernel
theorem dX3_reckonGains_82 : decode cX3_reckonGains 82 = .ok (.getfield 15, 3) := by decide +kernel
theorem dX3_reckonGains_85 : decode cX3_reckonGains 85 = .ok (.iload_n 2, 1) := by decide +kernel
theorem dX3_reckonGains_86 : decode cX3_reckonGains 86 = .ok (.iload_n 3, 1) := by decide +kernel
theorem dX3_reckonGains_87 : decode cX3_reckonGains 87 = .ok (.iastore, 1) := by decide +kernel
theorem dX3_reckonGains_88 : decode cX3_reckonGains 88 = .ok (.iinc 2 1, 3) := by decide +kernel
theorem dX3_reckonGains_91 : decode cX3_reckonGains 91 = .ok (.goto (-89), 3) := by decide +kernel
theorem dX3_reckonGains_94 : decode cX3_reckonGains 94 = .ok (.return_, 1) := by decide +kernel
set_option maxRecDepth 20000 in
theorem ggX3_greatestGains_X1_hasBit : GoodIn wsX3_greatestGains wsX1_hasBit := goodIn_r _ [6] (by decide +kernel) (by decide +kernel)
set_option maxRecDepth 20000 in
theorem gX3_greatestGains_X1_hasBit : GoodIn wsX3_greatestGains (va_wsS RX3 54 yX1_hasBit wsX1_hasBit) := goodIn_app (goodIn_of _ (by decide +kernel)) ggX3_greatestGains_X1_hasBit
theorem dX3_greatestGains_0 : decode cX3_greatestGains 0 = .ok (.iconst 0, 1) := by decide +kernel
theorem dX3_greatestGains_1 : decode cX3_greatestGains 1 = .ok (.istore_n 2, 1) := by decide +kernel
theorem dX3_greatestGains_2 : decode cX3_greatestGains 2 = .ok (.iconst 0, 1) := by decide +kernel
theorem dX3_greatestGains_3 : decode cX3_greatestGains 3 = .ok (.istore_n 3, 1) := by decide +kernel
theorem dX3_greatestGains_4 : decode cX3_greatestGains 4 = .ok (.iload_n 3, 1) := by decide +kernel
theorem dX3_greatestGains_5 : decode cX3_greatestGains 5 = .ok (.iload_n 1, 1) := by decide +kernel
theorem dX3_greatestGains_6 : decode cX3_greatestGains 6 = .ok (.if_icmp .ge 87, 3) := by decide +kernel
theorem dX3_greatestGains_9 : decode cX3_greatestGains 9 = .ok (.iconst (-1), 1) := by decide +kernel
theorem dX3_greatestGains_10 : decode cX3_greatestGains 10 = .ok (.istore 4, 2) := by decide +kernel
theorem dX3_greatestGains_12 : decode cX3_greatestGains 12 = .ok (.iconst 0, 1) := by decide +kernel
theorem dX3_greatestGains_13 : decode cX3_greatestGains 13 = .ok (.istore 5, 2) := by decide +kernel
theorem dX3_greatestGains_15 : decode cX3_greatestGains 15 = .ok (.iload 5, 2) := by decide +kernel
theorem dX3_greatestGains_17 : decode cX3_greatestGains 17 = .ok (.aload_n 0, 1) := by decide +kernel
theorem dX3_greatestGains_18 : decode cX3_greatestGains 18 = .ok (.getfield 22, 3) := by decide +kernel
theorem dX3_greatestGains_21 : decode cX3_greatestGains 21 = .ok (.if_icmp .ge 54, 3) := by decide +kernel
theorem dX3_greatestGains_24 : decode cX3_greatestGains 24 = .ok (.iload 5, 2) := by decide +kernel
theorem dX3_greatestGains_26 : decode cX3_greatestGains 26 = .ok (.aload_n 0, 1) := by decide +kernel
theorem dX3_greatestGains_27 : decode cX3_greatestGains 27 = .ok (.getfield 15, 3) := by decide +kernel
theorem dX3_greatestGains_30 : decode cX3_greatestGains 30 = .ok (.arraylength, 1) := by decide +kernel
theorem dX3_greatestGains_31 : decode cX3_greatestGains 31 = .ok (.if_icmp .ge 44, 3) := by decide +kernel
theorem dX3_greatestGains_34 : decode cX3_greatestGains 34 = .ok (.iload_n 2, 1) := by decide +kernel
theorem dX3_greatestGains_35 : decode cX3_greatestGains 35 = .ok (.iload 5, 2) := by decide +kernel
theorem dX3_greatestGains_37 : decode cX3_greatestGains 37 = .ok (.invokestatic 54, 3) := by decide +kernel
theorem dX3_greatestGains_40 : decode cX3_greatestGains 40 = .ok (.ifCond .ne 29, 3) := by decide +kernel
theorem dX3_greatestGains_43 : decode cX3_greatestGains 43 = .ok (.iload 4, 2) := by decide +kernel
theorem dX3_greatestGains_45 : decode cX3_greatestGains 45 = .ok (.ifCond .lt 20, 3) := by decide +kernel
theorem dX3_greatestGains_48 : decode cX3_greatestGains 48 = .ok (.aload_n 0, 1) := by decide +kernel
theorem dX3_greatestGains_49 : decode cX3_greatestGains 49 = .ok (.getfield 15, 3) := by decide +kernel
theorem dX3_greatestGains_52 : decode cX3_greatestGains 52 = .ok (.iload 5, 2) := by decide +kernel
theorem dX3_greatestGains_54 : decode cX3_greatestGains 54 = .ok (.iaload, 1) := by decide +kernel
theorem dX3_greatestGains_55 : decode cX3_greatestGains 55 = .ok (.aload_n 0, 1) := by decide +kernel
theorem dX3_greatestGains_56 : decode cX3_greatestGains 56 = .ok (.getfield 15, 3) := by decide +kernel
theorem dX3_greatestGains_59 : decode cX3_greatestGains 59 = .ok (.iload 4, 2) := by decide +kernel
theorem dX3_greatestGains_61 : decode cX3_greatestGains 61 = .ok (.iaload, 1) := by decide +kernel
theorem dX3_greatestGains_62 : decode cX3_greatestGains 62 = .ok (.if_icmp .le 7, 3) := by decide +kernel
theorem dX3_greatestGains_65 : decode cX3_greatestGains 65 = .ok (.iload 5, 2) := by decide +kernel
theorem dX3_greatestGains_67 : decode cX3_greatestGains 67 = .ok (.istore 4, 2) := by decide +kernel
theorem dX3_greatestGains_69 : decode cX3_greatestGains 69 = .ok (.iinc 5 1, 3) := by decide +kernel
theorem dX3_greatestGains_72 : decode cX3_greatestGains 72 = .ok (.goto (-57), 3) := by decide +kernel
theorem dX3_greatestGains_75 : decode cX3_greatestGains 75 = .ok (.iload 4, 2) := by decide +kernel
theorem dX3_greatestGains_77 : decode cX3_greatestGains 77 = .ok (.ifCond .lt 10, 3) := by decide +kernel
theorem dX3_greatestGains_80 : decode cX3_greatestGains 80 = .ok (.iload_n 2, 1) := by decide +kernel
theorem dX3_greatestGains_81 : decode cX3_greatestGains 81 = .ok (.iconst 1, 1) := by decide +kernel
theorem dX3_greatestGains_82 : decode cX3_greatestGains 82 = .ok (.iload 4, 2) := by decide +kernel
theorem dX3_greatestGains_84 : decode cX3_greatestGains 84 = .ok (.ishl, 1) := by decide +kernel
theorem dX3_greatestGains_85 : decode cX3_greatestGains 85 = .ok (.ior, 1) := by decide +kernel
theorem dX3_greatestGains_86 : decode cX3_greatestGains 86 = .ok (.istore_n 2, 1) := by decide +kernel
theorem dX3_greatestGains_87 : decode cX3_greatestGains 87 = .ok (.iinc 3 1, 3) := by decide +kernel
theorem dX3_greatestGains_90 : decode cX3_greatestGains 90 = .ok (.goto (-86), 3) := by decide +kernel
theorem dX3_greatestGains_93 : decode cX3_greatestGains 93 = .ok (.iload_n 2, 1) := by decide +kernel
theorem dX3_greatestGains_94 : decode cX3_greatestGains 94 = .ok (.ireturn, 1) := by decide +kernel
set_option maxRecDepth 20000 in
theorem ggX3_sumOfGains_X1_hasBit : GoodIn wsX3_sumOfGains wsX1_hasBit := goodIn_r _ [6] (by decide +kernel) (by decide +kernel)
set_option maxRecDepth 20000 in
theorem gX3_sumOfGains_X1_hasBit : GoodIn wsX3_sumOfGains (va_wsS RX3 54 yX1_hasBit wsX1_hasBit) := goodIn_app (goodIn_of _ (by decide +kernel)) ggX3_sumOfGains_X1_hasBit
theorem dX3_sumOfGains_0 : decode cX3_sumOfGains 0 = .ok (.iconst 0, 1) := by decide +kernel
theorem dX3_sumOfGains_1 : decode cX3_sumOfGains 1 = .ok (.istore_n 2, 1) := by decide +kernel
theorem dX3_sumOfGains_2 : decode cX3_sumOfGains 2 = .ok (.iconst 0, 1) := by decide +kernel
theorem dX3_sumOfGains_3 : decode cX3_sumOfGains 3 = .ok (.istore_n 3, 1) := by decide +kernel
theorem dX3_sumOfGains_4 : decode cX3_sumOfGains 4 = .ok (.iload_n 3, 1) := by decide +kernel
theorem dX3_sumOfGains_5 : decode cX3_sumOfGains 5 = .ok (.aload_n 0, 1) := by decide +kernel
theorem dX3_sumOfGains_6 : decode cX3_sumOfGains 6 = .ok (.getfield 22, 3) := by decide +kernel
theorem dX3_sumOfGains_9 : decode cX3_sumOfGains 9 = .ok (.if_icmp .ge 35, 3) := by decide +kernel
theorem dX3_sumOfGains_12 : decode cX3_sumOfGains 12 = .ok (.iload_n 3, 1) := by decide +kernel
theorem dX3_sumOfGains_13 : decode cX3_sumOfGains 13 = .ok (.aload_n 0, 1) := by decide +kernel
theorem dX3_sumOfGains_14 : decode cX3_sumOfGains 14 = .ok (.getfield 15, 3) := by decide +kernel
theorem dX3_sumOfGains_17 : decode cX3_sumOfGains 17 = .ok (.arraylength, 1) := by decide +kernel
theorem dX3_sumOfGains_18 : decode cX3_sumOfGains 18 = .ok (.if_icmp .ge 26, 3) := by decide +kernel
theorem dX3_sumOfGains_21 : decode cX3_sumOfGains 21 = .ok (.iload_n 1, 1) := by decide +kernel
theorem dX3_sumOfGains_22 : decode cX3_sumOfGains 22 = .ok (.iload_n 3, 1) := by decide +kernel
theorem dX3_sumOfGains_23 : decode cX3_sumOfGains 23 = .ok (.invokestatic 54, 3) := by decide +kernel
theorem dX3_sumOfGains_26 : decode cX3_sumOfGains 26 = .ok (.ifCond .eq 12, 3) := by decide +kernel
theorem dX3_sumOfGains_29 : decode cX3_sumOfGains 29 = .ok (.iload_n 2, 1) := by decide +kernel
theorem dX3_sumOfGains_30 : decode cX3_sumOfGains 30 = .ok (.aload_n 0, 1) := by decide +kernel
theorem dX3_sumOfGains_31 : decode cX3_sumOfGains 31 = .ok (.getfield 15, 3) := by decide +kernel
theorem dX3_sumOfGains_34 : decode cX3_sumOfGains 34 = .ok (.iload_n 3, 1) := by decide +kernel
theorem dX3_sumOfGains_35 : decode cX3_sumOfGains 35 = .ok (.iaload, 1) := by decide +kernel
theorem dX3_sumOfGains_36 : decode cX3_sumOfGains 36 = .ok (.iadd, 1) := by decide +kernel
theorem dX3_sumOfGains_37 : decode cX3_sumOfGains 37 = .ok (.istore_n 2, 1) := by decide +kernel
theorem dX3_sumOfGains_38 : decode cX3_sumOfGains 38 = .ok (.iinc 3 1, 3) := by decide +kernel
theorem dX3_sumOfGains_41 : decode cX3_sumOfGains 41 = .ok (.goto (-37), 3) := by decide +kernel
theorem dX3_sumOfGains_44 : decode cX3_sumOfGains 44 = .ok (.iload_n 2, 1) := by decide +kernel
theorem dX3_sumOfGains_45 : decode cX3_sumOfGains 45 = .ok (.ireturn, 1) := by decide +kernel
set_option maxRecDepth 20000 in
theorem ggX4_init_X3_init : GoodIn wsX4_init wsX3_init := goodIn_r _ [14, 15, 2, 3, 16, 17, 18, 19, 20, 21, 27, 28, 29, 30, 31, 32, 33] (by decide +kernel) (by decide +kernel)
set_option maxRecDepth 20000 in
theorem gX4_init_X3_init : GoodIn wsX4_init (wsX3_init) := ggX4_init_X3_init
set_option maxRecDepth 20000 in
theorem ggX4_init_X0_init : GoodIn wsX4_init wsX0_init := goodIn_r _ [24, 25, 2, 3, 16, 26, 36, 37, 38, 39, 40] (by decide +kernel) (by decide +kernel)
set_option maxRecDepth 20000 in
theorem gX4_init_X0_init : GoodIn wsX4_init (wsX0_init) := ggX4_init_X0_init
theorem dX4_init_0 : decode cX4_init 0 = .ok (.aload_n 0, 1) := by decide +kernel
theorem dX4_init_1 : decode cX4_init 1 = .ok (.invokespecial 1, 3) := by decide +kernel
theorem dX4_init_4 : decode cX4_init 4 = .ok (.aload_n 0, 1) := by decide +kernel
theorem dX4_init_5 : decode cX4_init 5 = .ok (.new 7, 3) := by decide +kernel
theorem dX4_init_8 : decode cX4_init 8 = .ok (.dup, 1) := by decide +kernel
theorem dX4_init_9 : decode cX4_init 9 = .ok (.invokespecial 9, 3) := by decide +kernel
theorem dX4_init_12 : decode cX4_init 12 = .ok (.putfield 10, 3) := by decide +kernel
theorem dX4_init_15 : decode cX4_init 15 = .ok (.aload_n 0, 1) := by decide +kernel
theorem dX4_init_16 : decode cX4_init 16 = .ok (.new 16, 3) := by decide +kernel
theorem dX4_init_19 : decode cX4_init 19 = .ok (.dup, 1) := by decide +kernel
theorem dX4_init_20 : decode cX4_init 20 = .ok (.invokespecial 18, 3) := by decide +kernel
theorem dX4_init_23 : decode cX4_init 23 = .ok (.putfield 19, 3) := by decide +kernel
theorem dX4_init_26 : decode cX4_init 26 = .ok (.return_, 1) := by decide +kernel
set_option maxRecDepth 20000 in
theorem ggX4_space_X4_isSize : GoodIn wsX4_space wsX4_isSize := goodIn_r _ [6] (by decide +kernel) (by decide +kernel)
set_option maxRecDepth 20000 in
theorem gX4_space_X4_isSize : GoodIn wsX4_space (va_wsS RX4 23 yX4_isSize wsX4_isSize) := goodIn_app (goodIn_of _ (by decide +kernel)) ggX4_space_X4_isSize
set_option maxRecDepth 20000 in
theorem ggX4_space_X3_beginAnew : GoodIn wsX4_space wsX3_beginAnew := goodIn_r _ [11, 12, 13, 14, 15, 16, 17, 26, 27, 28, 29, 30, 31, 32] (by decide +kernel) (by decide +kernel)
set_option maxRecDepth 20000 in
theorem gX4_space_X3_beginAnew : GoodIn wsX4_space (wsV RX4 27 RX3 yX3_beginAnew wsX3_beginAnew) := goodIn_app (goodIn_of _ (by decide +kernel)) ggX4_space_X3_beginAnew
set_option maxRecDepth 20000 in
theorem ggX4_space_X0_forget : GoodIn wsX4_space wsX0_forget := goodIn_r _ [22, 23, 33, 34, 35, 36, 37] (by decide +kernel) (by decide +kernel)
set_option maxRecDepth 20000 in
theorem gX4_space_X0_forget : GoodIn wsX4_space (wsV RX4 31 RX0 yX0_forget wsX0_forget) := goodIn_app (goodIn_of _ (by decide +kernel)) ggX4_space_X0_forget
theorem dX4_space_0 : decode cX4_space 0 = .ok (.iload_n 1, 1) := by decide +kernel
theorem dX4_space_1 : decode cX4_space 1 = .ok (.invokestatic 23, 3) := by decide +kernel
theorem dX4_space_4 : decode cX4_space 4 = .ok (.ifCond .eq 17, 3) := by decide +kernel
theorem dX4_space_7 : decode cX4_space 7 = .ok (.iload_n 2, 1) := by decide +kernel
theorem dX4_space_8 : decode cX4_space 8 = .ok (.invokestatic 23, 3) := by decide +kernel
theorem dX4_space_11 : decode cX4_space 11 = .ok (.ifCond .eq 10, 3) := by decide +kernel
theorem dX4_space_14 : decode cX4_space 14 = .ok (.iload_n 3, 1) := by decide +kernel
theorem dX4_space_15 : decode cX4_space 15 = .ok (.invokestatic 23, 3) := by decide +kernel
theorem dX4_space_18 : decode cX4_space 18 = .ok (.ifCond .ne 6, 3) := by decide +kernel
theorem dX4_space_21 : decode cX4_space 21 = .ok (.bipush (-2), 2) := by decide +kernel
theorem dX4_space_23 : decode cX4_space 23 = .ok (.ireturn, 1) := by decide +kernel
theorem dX4_space_24 : decode cX4_space 24 = .ok (.aload_n 0, 1) := by decide +kernel
theorem dX4_space_25 : decode cX4_space 25 = .ok (.getfield 10, 3) := by decide +kernel
theorem dX4_space_28 : decode cX4_space 28 = .ok (.iload_n 1, 1) := by decide +kernel
theorem dX4_space_29 : decode cX4_space 29 = .ok (.iload_n 2, 1) := by decide +kernel
theorem dX4_space_30 : decode cX4_space 30 = .ok (.iload_n 3, 1) := by decide +kernel
theorem dX4_space_31 : decode cX4_space 31 = .ok (.invokevirtual 27, 3) := by decide +kernel
theorem dX4_space_34 : decode cX4_space 34 = .ok (.aload_n 0, 1) := by decide +kernel
theorem dX4_space_35 : decode cX4_space 35 = .ok (.getfield 19, 3) := by decide +kernel
theorem dX4_space_38 : decode cX4_space 38 = .ok (.invokevirtual 31, 3) := by decide +kernel
theorem dX4_space_41 : decode cX4_space 41 = .ok (.iload_n 1, 1) := by decide +kernel
theorem dX4_space_42 : decode cX4_space 42 = .ok (.iload_n 2, 1) := by decide +kernel
theorem dX4_space_43 : decode cX4_space 43 = .ok (.imul, 1) := by decide +kernel
theorem dX4_space_44 : decode cX4_space 44 = .ok (.iload_n 3, 1) := by decide +kernel
theorem dX4_space_45 : decode cX4_space 45 = .ok (.imul, 1) := by decide +kernel
theorem dX4_space_46 : decode cX4_space 46 = .ok (.ireturn, 1) := by decide +kernel
set_option maxRecDepth 20000 in
theorem ggX4_box_X4_isCorner : GoodIn wsX4_box wsX4_isCorner := goodIn_r _ [16] (by decide +kernel) (by decide +kernel)
set_option maxRecDepth 20000 in
theorem gX4_box_X4_isCorner : GoodIn wsX4_box (va_wsS RX4 34 yX4_isCorner wsX4_isCorner) := goodIn_app (goodIn_of _ (by decide +kernel)) ggX4_box_X4_isCorner
set_option maxRecDepth 20000 in
theorem ggX4_box_X4_isSize : GoodIn wsX4_box wsX4_isSize := goodIn_r _ [19] (by decide +kernel) (by decide +kernel)
set_option maxRecDepth 20000 in
theorem gX4_box_X4_isSize : GoodIn wsX4_box (va_wsS RX4 23 yX4_isSize wsX4_isSize) := goodIn_app (goodIn_of _ (by decide +kernel)) ggX4_box_X4_isSize
set_option maxRecDepth 20000 in
theorem ggX4_box_X1_bitsBetween : GoodIn wsX4_box wsX1_bitsBetween := goodIn_r _ [23, 24, 10, 5, 11, 25, 4, 6] (by decide +kernel) (by decide +kernel)
set_option maxRecDepth 20000 in
theorem gX4_box_X1_bitsBetween : GoodIn wsX4_box (va_wsS RX4 47 yX1_bitsBetween wsX1_bitsBetween) := goodIn_app (goodIn_of _ (by decide +kernel)) ggX4_box_X1_bitsBetween
set_option maxRecDepth 20000 in
theorem ggX4_box_X3_changeColumn : GoodIn wsX4_box wsX3_changeColumn := goodIn_r _ [30, 31, 32, 33, 34, 29, 35, 36, 37, 38, 39, 40, 41, 42, 43, 44, 45, 46, 47, 48, 57, 58, 59, 60, 61, 62, 63] (by decide +kernel) (by decide +kernel)
set_option maxRecDepth 20000 in
theorem gX4_box_X3_changeColumn : GoodIn wsX4_box (wsV RX4 61 RX3 yX3_changeColumn wsX3_changeColumn) := goodIn_app (goodIn_of _ (by decide +kernel)) ggX4_box_X3_changeColumn
set_option maxRecDepth 20000 in
theorem ggX4_box_X0_forget : GoodIn wsX4_box wsX0_forget := goodIn_r _ [53, 54, 64, 65, 66, 67, 68] (by decide +kernel) (by decide +kernel)
set_option maxRecDepth 20000 in
theorem gX4_box_X0_forget : GoodIn wsX4_box (wsV RX4 31 RX0 yX0_forget wsX0_forget) := goodIn_app (goodIn_of _ (by decide +kernel)) ggX4_box_X0_forget
theorem dX4_box_0 : decode cX4_box 0 = .ok (.iload_n 1, 1) := by decide +kernel
theorem dX4_box_1 : decode cX4_box 1 = .ok (.invokestatic 34, 3) := by decide +kernel
theorem dX4_box_4 : decode cX4_box 4 = .ok (.ifCond .eq 17, 3) := by decide +kernel
theorem dX4_box_7 : decode cX4_box 7 = .ok (.iload_n 2, 1) := by decide +kernel
theorem dX4_box_8 : decode cX4_box 8 = .ok (.invokestatic 34, 3) := by decide +kernel
theorem dX4_box_11 : decode cX4_box 11 = .ok (.ifCond .eq 10, 3) := by decide +kernel
theorem dX4_box_14 : decode cX4_box 14 = .ok (.iload_n 3, 1) := by decide +kernel
theorem dX4_box_15 : decode cX4_box 15 = .ok (.invokestatic 34, 3) := by decide +kernel
theorem dX4_box_18 : decode cX4_box 18 = .ok (.ifCond .ne 6, 3) := by decide +kernel
theorem dX4_box_21 : decode cX4_box 21 = .ok (.bipush (-2), 2) := by decide +kernel
theorem dX4_box_23 : decode cX4_box 23 = .ok (.ireturn, 1) := by decide +kernel
theorem dX4_box_24 : decode cX4_box 24 = .ok (.iload 4, 2) := by decide +kernel
theorem dX4_box_26 : decode cX4_box 26 = .ok (.invokestatic 23, 3) := by decide +kernel
theorem dX4_box_29 : decode cX4_box 29 = .ok (.ifCond .eq 19, 3) := by decide +kernel
theorem dX4_box_32 : decode cX4_box 32 = .ok (.iload 5, 2) := by decide +kernel
theorem dX4_box_34 : decode cX4_box 34 = .ok (.invokestatic 23, 3) := by decide +kernel
theorem dX4_box_37 : decode cX4_box 37 = .ok (.ifCond .eq 11, 3) := by decide +kernel
theorem dX4_box_40 : decode cX4_box 40 = .ok (.iload 6, 2) := by decide +kernel
theorem dX4_box_42 : decode cX4_box 42 = .ok (.invokestatic 23, 3) := by decide +kernel
theorem dX4_box_45 : decode cX4_box 45 = .ok (.ifCond .ne 6, 3) := by decide +kernel
theorem dX4_box_48 : decode cX4_box 48 = .ok (.bipush (-2), 2) := by decide +kernel
theorem dX4_box_50 : decode cX4_box 50 = .ok (.ireturn, 1) := by decide +kernel
theorem dX4_box_51 : decode cX4_box 51 = .ok (.iload_n 3, 1) := by decide +kernel
theorem dX4_box_52 : decode cX4_box 52 = .ok (.iload_n 3, 1) := by decide +kernel
theorem dX4_box_53 : decode cX4_box 53 = .ok (.iload 6, 2) := by decide +kernel
theorem dX4_box_55 : decode cX4_box 55 = .ok (.iadd, 1) := by decide +kernel
theorem dX4_box_56 : decode cX4_box 56 = .ok (.aload_n 0, 1) := by decide +kernel
theorem dX4_box_57 : decode cX4_box 57 = .ok (.getfield 10, 3) := by decide +kernel
theorem dX4_box_60 : decode cX4_box 60 = .ok (.getfield 37, 3) := by decide +kernel
theorem dX4_box_63 : decode cX4_box 63 = .ok (.invokestatic 41, 3) := by decide +kernel
theorem dX4_box_66 : decode cX4_box 66 = .ok (.invokestatic 47, 3) := by decide +kernel
theorem dX4_box_69 : decode cX4_box 69 = .ok (.istore 8, 2) := by decide +kernel
theorem dX4_box_71 : decode cX4_box 71 = .ok (.iload_n 1, 1) := by decide +kernel
theorem dX4_box_72 : decode cX4_box 72 = .ok (.iload 4, 2) := by decide +kernel
theorem dX4_box_74 : decode cX4_box 74 = .ok (.iadd, 1) := by decide +kernel
theorem dX4_box_75 : decode cX4_box 75 = .ok (.aload_n 0, 1) := by decide +kernel
theorem dX4_box_76 : decode cX4_box 76 = .ok (.getfield 10, 3) := by decide +kernel
theorem dX4_box_79 : decode cX4_box 79 = .ok (.getfield 52, 3) := by decide +kernel
theorem dX4_box_82 : decode cX4_box 82 = .ok (.invokestatic 41, 3) := by decide +kernel
theorem dX4_box_85 : decode cX4_box 85 = .ok (.istore 9, 2) := by decide +kernel
theorem dX4_box_87 : decode cX4_box 87 = .ok (.iload_n 2, 1) := by decide +kernel
theorem dX4_box_88 : decode cX4_box 88 = .ok (.iload 5, 2) := by decide +kernel
theorem dX4_box_90 : decode cX4_box 90 = .ok (.iadd, 1) := by decide +kernel
theorem dX4_box_91 : decode cX4_box 91 = .ok (.aload_n 0, 1) := by decide +kernel
theorem dX4_box_92 : decode cX4_box 92 = .ok (.getfield 10, 3) := by decide +kernel
theorem dX4_box_95 : decode cX4_box 95 = .ok (.getfield 55, 3) := by decide +kernel
theorem dX4_box_98 : decode cX4_box 98 = .ok (.invokestatic 41, 3) := by decide +kernel
theorem dX4_box_101 : decode cX4_box 101 = .ok (.istore 10, 2) := by decide +kernel
theorem dX4_box_103 : decode cX4_box 103 = .ok (.iconst 0, 1) := by decide +kernel
theorem dX4_box_104 : decode cX4_box 104 = .ok (.istore 11, 2) := by decide +kernel
theorem dX4_box_106 : decode cX4_box 106 = .ok (.iload_n 1, 1) := by decide +kernel
theorem dX4_box_107 : decode cX4_box 107 = .ok (.iconst 0, 1) := by decide +kernel
theorem dX4_box_108 : decode cX4_box 108 = .ok (.invokestatic 58, 3) := by decide +kernel
theorem dX4_box_111 : decode cX4_box 111 = .ok (.istore 12, 2) := by decide +kernel
theorem dX4_box_113 : decode cX4_box 113 = .ok (.iload 12, 2) := by decide +kernel
theorem dX4_box_115 : decode cX4_box 115 = .ok (.iload 9, 2) := by decide +kernel
theorem dX4_box_117 : decode cX4_box 117 = .ok (.if_icmp .ge 49, 3) := by decide +kernel
theorem dX4_box_120 : decode cX4_box 120 = .ok (.iload_n 2, 1) := by decide +kernel
theorem dX4_box_121 : decode cX4_box 121 = .ok (.iconst 0, 1) := by decide +kernel
theorem dX4_box_122 : decode cX4_box 122 = .ok (.invokestatic 58, 3) := by decide +kernel
theorem dX4_box_125 : decode cX4_box 125 = .ok (.istore 13, 2) := by decide +kernel
theorem dX4_box_127 : decode cX4_box 127 = .ok (.iload 13, 2) := by decide +kernel
theorem dX4_box_129 : decode cX4_box 129 = .ok (.iload 10, 2) := by decide +kernel
theorem dX4_box_131 : decode cX4_box 131 = .ok (.if_icmp .ge 29, 3) := by decide +kernel
theorem dX4_box_134 : decode cX4_box 134 = .ok (.iload 11, 2) := by decide +kernel
theorem dX4_box_136 : decode cX4_box 136 = .ok (.aload_n 0, 1) := by decide +kernel
theorem dX4_box_137 : decode cX4_box 137 = .ok (.getfield 10, 3) := by decide +kernel
theorem dX4_box_140 : decode cX4_box 140 = .ok (.iload 12, 2) := by decide +kernel
theorem dX4_box_142 : decode cX4_box 142 = .ok (.iload 13, 2) := by decide +kernel
theorem dX4_box_144 : decode cX4_box 144 = .ok (.iload 8, 2) := by decide +kernel
theorem dX4_box_146 : decode cX4_box 146 = .ok (.iload 7, 2) := by decide +kernel
theorem dX4_box_148 : decode cX4_box 148 = .ok (.invokevirtual 61, 3) := by decide +kernel
theorem dX4_box_151 : decode cX4_box 151 = .ok (.iadd, 1) := by decide +kernel
theorem dX4_box_152 : decode cX4_box 152 = .ok (.istore 11, 2) := by decide +kernel
theorem dX4_box_154 : decode cX4_box 154 = .ok (.iinc 13 1, 3) := by decide +kernel
theorem dX4_box_157 : decode cX4_box 157 = .ok (.goto (-30), 3) := by decide +kernel
theorem dX4_box_160 : decode cX4_box 160 = .ok (.iinc 12 1, 3) := by decide +kernel
theorem dX4_box_163 : decode cX4_box 163 = .ok (.goto (-50), 3) := by decide +kernel
theorem dX4_box_166 : decode cX4_box 166 = .ok (.aload_n 0, 1) := by decide +kernel
theorem dX4_box_167 : decode cX4_box 167 = .ok (.getfield 19, 3) := by decide +kernel
theorem dX4_box_170 : decode cX4_box 170 = .ok (.invokevirtual 31, 3) := by decide +kernel
theorem dX4_box_173 : decode cX4_box 173 = .ok (.iload 11, 2) := by decide +kernel
theorem dX4_box_175 : decode cX4_box 175 = .ok (.ireturn, 1) := by decide +kernel
set_option maxRecDepth 20000 in
theorem ggX4_at_X3_hasColumn : GoodIn wsX4_at wsX3_hasColumn := goodIn_r _ [6, 7, 8, 30, 31, 32, 33, 34, 35, 36] (by decide +kernel) (by decide +kernel)
set_option maxRecDepth 20000 in
theorem gX4_at_X3_hasColumn : GoodIn wsX4_at (wsV RX4 65 RX3 yX3_hasColumn wsX3_hasColumn) := goodIn_app (goodIn_of _ (by decide +kernel)) ggX4_at_X3_hasColumn
set_option maxRecDepth 20000 in
theorem ggX4_at_X3_hasLayer : GoodIn wsX4_at wsX3_hasLayer := goodIn_r _ [12, 13, 30, 31, 32, 33, 34, 35, 36] (by decide +kernel) (by decide +kernel)
set_option maxRecDepth 20000 in
theorem gX4_at_X3_hasLayer : GoodIn wsX4_at (wsV RX4 69 RX3 yX3_hasLayer wsX3_hasLayer) := goodIn_app (goodIn_of _ (by decide +kernel)) ggX4_at_X3_hasLayer
set_option maxRecDepth 20000 in
theorem ggX4_at_X3_columnAt : GoodIn wsX4_at wsX3_columnAt := goodIn_r _ [17, 18, 19, 3, 4, 5, 6, 7, 8, 30, 31, 32, 33, 34, 35, 36] (by decide +kernel) (by decide +kernel)
set_option maxRecDepth 20000 in
theorem gX4_at_X3_columnAt : GoodIn wsX4_at (wsV RX4 72 RX3 yX3_columnAt wsX3_columnAt) := goodIn_app (goodIn_of _ (by decide +kernel)) ggX4_at_X3_columnAt
set_option maxRecDepth 20000 in
theorem ggX4_at_X1_hasBit : GoodIn wsX4_at wsX1_hasBit := goodIn_r _ [23] (by decide +kernel) (by decide +kernel)
set_option maxRecDepth 20000 in
theorem gX4_at_X1_hasBit : GoodIn wsX4_at (va_wsS RX4 75 yX1_hasBit wsX1_hasBit) := goodIn_app (goodIn_of _ (by decide +kernel)) ggX4_at_X1_hasBit
set_option maxRecDepth 20000 in
theorem ggX4_at_X4_asNumber : GoodIn wsX4_at wsX4_asNumber := goodIn_r _ [27] (by decide +kernel) (by decide +kernel)
set_option maxRecDepth 20000 in
theorem gX4_at_X4_asNumber : GoodIn wsX4_at (va_wsS RX4 78 yX4_asNumber wsX4_asNumber) := goodIn_app (goodIn_of _ (by decide +kernel)) ggX4_at_X4_asNumber
theorem dX4_at_0 : decode cX4_at 0 = .ok (.aload_n 0, 1) := by decide +kernel
theorem dX4_at_1 : decode cX4_at 1 = .ok (.getfield 10, 3) := by decide +kernel
theorem dX4_at_4 : decode cX4_at 4 = .ok (.iload_n 1, 1) := by decide +kernel
theorem dX4_at_5 : decode cX4_at 5 = .ok (.iload_n 2, 1) := by decide +kernel
theorem dX4_at_6 : decode cX4_at 6 = .ok (.invokevirtual 65, 3) := by decide +kernel
theorem dX4_at_9 : decode cX4_at 9 = .ok (.ifCond .eq 14, 3) := by decide +kernel
theorem dX4_at_12 : decode cX4_at 12 = .ok (.aload_n 0, 1) := by decide +kernel
theorem dX4_at_13 : decode cX4_at 13 = .ok (.getfield 10, 3) := by decide +kernel
theorem dX4_at_16 : decode cX4_at 16 = .ok (.iload_n 3, 1) := by decide +kernel
theorem dX4_at_17 : decode cX4_at 17 = .ok (.invokevirtual 69, 3) := by decide +kernel
theorem dX4_at_20 : decode cX4_at 20 = .ok (.ifCond .ne 5, 3) := by decide +kernel
theorem dX4_at_23 : decode cX4_at 23 = .ok (.iconst (-1), 1) := by decide +kernel
theorem dX4_at_24 : decode cX4_at 24 = .ok (.ireturn, 1) := by decide +kernel
theorem dX4_at_25 : decode cX4_at 25 = .ok (.aload_n 0, 1) := by decide +kernel
theorem dX4_at_26 : decode cX4_at 26 = .ok (.getfield 10, 3) := by decide +kernel
theorem dX4_at_29 : decode cX4_at 29 = .ok (.iload_n 1, 1) := by decide +kernel
theorem dX4_at_30 : decode cX4_at 30 = .ok (.iload_n 2, 1) := by decide +kernel
theorem dX4_at_31 : decode cX4_at 31 = .ok (.invokevirtual 72, 3) := by decide +kernel
theorem dX4_at_34 : decode cX4_at 34 = .ok (.iload_n 3, 1) := by decide +kernel
theorem dX4_at_35 : decode cX4_at 35 = .ok (.invokestatic 75, 3) := by decide +kernel
theorem dX4_at_38 : decode cX4_at 38 = .ok (.invokestatic 78, 3) := by decide +kernel
theorem dX4_at_41 : decode cX4_at 41 = .ok (.ireturn, 1) := by decide +kernel
set_option maxRecDepth 20000 in
theorem ggX4_rib_X3_hasRib : GoodIn wsX4_rib wsX3_hasRib := goodIn_r _ [7, 8, 9, 10, 6, 11, 12, 13, 45, 46, 47, 48, 49, 50, 51] (by decide +kernel) (by decide +kernel)
set_option maxRecDepth 20000 in
theorem gX4_rib_X3_hasRib : GoodIn wsX4_rib (wsV RX4 82 RX3 yX3_hasRib wsX3_hasRib) := goodIn_app (goodIn_of _ (by decide +kernel)) ggX4_rib_X3_hasRib
set_option maxRecDepth 20000 in
theorem ggX4_rib_X3_isChosen : GoodIn wsX4_rib wsX3_isChosen := goodIn_r _ [17, 18, 19, 20, 6, 21, 22, 23, 24, 25, 26, 27, 45, 46, 47, 48, 49, 50, 51] (by decide +kernel) (by decide +kernel)
set_option maxRecDepth 20000 in
theorem gX4_rib_X3_isChosen : GoodIn wsX4_rib (wsV RX4 85 RX3 yX3_isChosen wsX3_isChosen) := goodIn_app (goodIn_of _ (by decide +kernel)) ggX4_rib_X3_isChosen
set_option maxRecDepth 20000 in
theorem ggX4_rib_X3_chosenBits : GoodIn wsX4_rib wsX3_chosenBits := goodIn_r _ [21, 22, 23, 45, 46, 47, 48, 49, 50, 51] (by decide +kernel) (by decide +kernel)
set_option maxRecDepth 20000 in
theorem gX4_rib_X3_chosenBits : GoodIn wsX4_rib (wsV RX4 88 RX3 yX3_chosenBits wsX3_chosenBits) := goodIn_app (goodIn_of _ (by decide +kernel)) ggX4_rib_X3_chosenBits
set_option maxRecDepth 20000 in
theorem ggX4_rib_X3_choose : GoodIn wsX4_rib wsX3_choose := goodIn_r _ [32, 22, 23, 45, 46, 47, 48, 49, 50, 51] (by decide +kernel) (by decide +kernel)
set_option maxRecDepth 20000 in
theorem gX4_rib_X3_choose : GoodIn wsX4_rib (wsV RX4 92 RX3 yX3_choose wsX3_choose) := goodIn_app (goodIn_of _ (by decide +kernel)) ggX4_rib_X3_choose
set_option maxRecDepth 20000 in
theorem ggX4_rib_X0_forget : GoodIn wsX4_rib wsX0_forget := goodIn_r _ [37, 38, 52, 53, 54, 55, 56] (by decide +kernel) (by decide +kernel)
set_option maxRecDepth 20000 in
theorem gX4_rib_X0_forget : GoodIn wsX4_rib (wsV RX4 31 RX0 yX0_forget wsX0_forget) := goodIn_app (goodIn_of _ (by decide +kernel)) ggX4_rib_X0_forget
set_option maxRecDepth 20000 in
theorem ggX4_rib_X4_asNumber : GoodIn wsX4_rib wsX4_asNumber := goodIn_r _ [42] (by decide +kernel) (by decide +kernel)
set_option maxRecDepth 20000 in
theorem gX4_rib_X4_asNumber : GoodIn wsX4_rib (va_wsS RX4 78 yX4_asNumber wsX4_asNumber) := goodIn_app (goodIn_of _ (by decide +kernel)) ggX4_rib_X4_asNumber
theorem dX4_rib_0 : decode cX4_rib 0 = .ok (.aload_n 0, 1) := by decide +kernel
theorem dX4_rib_1 : decode cX4_rib 1 = .ok (.getfield 10, 3) := by decide +kernel
theorem dX4_rib_4 : decode cX4_rib 4 = .ok (.iload_n 1, 1) := by decide +kernel
theorem dX4_rib_5 : decode cX4_rib 5 = .ok (.iload_n 2, 1) := by decide +kernel
theorem dX4_rib_6 : decode cX4_rib 6 = .ok (.invokevirtual 82, 3) := by decide +kernel
theorem dX4_rib_9 : decode cX4_rib 9 = .ok (.ifCond .ne 5, 3) := by decide +kernel
theorem dX4_rib_12 : decode cX4_rib 12 = .ok (.iconst (-1), 1) := by decide +kernel
theorem dX4_rib_13 : decode cX4_rib 13 = .ok (.ireturn, 1) := by decide +kernel
theorem dX4_rib_14 : decode cX4_rib 14 = .ok (.aload_n 0, 1) := by decide +kernel
theorem dX4_rib_15 : decode cX4_rib 15 = .ok (.getfield 10, 3) := by decide +kernel
theorem dX4_rib_18 : decode cX4_rib 18 = .ok (.iload_n 1, 1) := by decide +kernel
theorem dX4_rib_19 : decode cX4_rib 19 = .ok (.iload_n 2, 1) := by decide +kernel
theorem dX4_rib_20 : decode cX4_rib 20 = .ok (.invokevirtual 85, 3) := by decide +kernel
theorem dX4_rib_23 : decode cX4_rib 23 = .ok (.istore 4, 2) := by decide +kernel
theorem dX4_rib_25 : decode cX4_rib 25 = .ok (.aload_n 0, 1) := by decide +kernel
theorem dX4_rib_26 : decode cX4_rib 26 = .ok (.getfield 10, 3) := by decide +kernel
theorem dX4_rib_29 : decode cX4_rib 29 = .ok (.iload_n 1, 1) := by decide +kernel
theorem dX4_rib_30 : decode cX4_rib 30 = .ok (.invokevirtual 88, 3) := by decide +kernel
theorem dX4_rib_33 : decode cX4_rib 33 = .ok (.iconst 1, 1) := by decide +kernel
theorem dX4_rib_34 : decode cX4_rib 34 = .ok (.iload_n 2, 1) := by decide +kernel
theorem dX4_rib_35 : decode cX4_rib 35 = .ok (.ishl, 1) := by decide +kernel
theorem dX4_rib_36 : decode cX4_rib 36 = .ok (.iconst (-1), 1) := by decide +kernel
theorem dX4_rib_37 : decode cX4_rib 37 = .ok (.ixor, 1) := by decide +kernel
theorem dX4_rib_38 : decode cX4_rib 38 = .ok (.iand, 1) := by decide +kernel
theorem dX4_rib_39 : decode cX4_rib 39 = .ok (.istore 5, 2) := by decide +kernel
theorem dX4_rib_41 : decode cX4_rib 41 = .ok (.aload_n 0, 1) := by decide +kernel
theorem dX4_rib_42 : decode cX4_rib 42 = .ok (.getfield 10, 3) := by decide +kernel
theorem dX4_rib_45 : decode cX4_rib 45 = .ok (.iload_n 1, 1) := by decide +kernel
theorem dX4_rib_46 : decode cX4_rib 46 = .ok (.iload_n 3, 1) := by decide +kernel
theorem dX4_rib_47 : decode cX4_rib 47 = .ok (.ifCond .eq 12, 3) := by decide +kernel
theorem dX4_rib_50 : decode cX4_rib 50 = .ok (.iload 5, 2) := by decide +kernel
theorem dX4_rib_52 : decode cX4_rib 52 = .ok (.iconst 1, 1) := by decide +kernel
theorem dX4_rib_53 : decode cX4_rib 53 = .ok (.iload_n 2, 1) := by decide +kernel
theorem dX4_rib_54 : decode cX4_rib 54 = .ok (.ishl, 1) := by decide +kernel
theorem dX4_rib_55 : decode cX4_rib 55 = .ok (.ior, 1) := by decide +kernel
theorem dX4_rib_56 : decode cX4_rib 56 = .ok (.goto 5, 3) := by decide +kernel
theorem dX4_rib_59 : decode cX4_rib 59 = .ok (.iload 5, 2) := by decide +kernel
theorem dX4_rib_61 : decode cX4_rib 61 = .ok (.invokevirtual 92, 3) := by decide +kernel
theorem dX4_rib_64 : decode cX4_rib 64 = .ok (.aload_n 0, 1) := by decide +kernel
theorem dX4_rib_65 : decode cX4_rib 65 = .ok (.getfield 19, 3) := by decide +kernel
theorem dX4_rib_68 : decode cX4_rib 68 = .ok (.invokevirtual 31, 3) := by decide +kernel
theorem dX4_rib_71 : decode cX4_rib 71 = .ok (.iload 4, 2) := by decide +kernel
theorem dX4_rib_73 : decode cX4_rib 73 = .ok (.invokestatic 78, 3) := by decide +kernel
theorem dX4_rib_76 : decode cX4_rib 76 = .ok (.ireturn, 1) := by decide +kernel
set_option maxRecDepth 20000 in
theorem ggX4_ribs_X3_ribCount : GoodIn wsX4_ribs wsX3_ribCount := goodIn_r _ [7, 8, 9, 28, 29, 30, 31, 32, 33, 34] (by decide +kernel) (by decide +kernel)
set_option maxRecDepth 20000 in
theorem gX4_ribs_X3_ribCount : GoodIn wsX4_ribs (wsV RX4 96 RX3 yX3_ribCount wsX3_ribCount) := goodIn_app (goodIn_of _ (by decide +kernel)) ggX4_ribs_X3_ribCount
set_option maxRecDepth 20000 in
theorem ggX4_ribs_X3_chosenBits : GoodIn wsX4_ribs wsX3_chosenBits := goodIn_r _ [13, 14, 15, 28, 29, 30, 31, 32, 33, 34] (by decide +kernel) (by decide +kernel)
set_option maxRecDepth 20000 in
theorem gX4_ribs_X3_chosenBits : GoodIn wsX4_ribs (wsV RX4 88 RX3 yX3_chosenBits wsX3_chosenBits) := goodIn_app (goodIn_of _ (by decide +kernel)) ggX4_ribs_X3_chosenBits
set_option maxRecDepth 20000 in
theorem ggX4_ribs_X3_choose : GoodIn wsX4_ribs wsX3_choose := goodIn_r _ [19, 14, 15, 28, 29, 30, 31, 32, 33, 34] (by decide +kernel) (by decide +kernel)
set_option maxRecDepth 20000 in
theorem gX4_ribs_X3_choose : GoodIn wsX4_ribs (wsV RX4 92 RX3 yX3_choose wsX3_choose) := goodIn_app (goodIn_of _ (by decide +kernel)) ggX4_ribs_X3_choose
set_option maxRecDepth 20000 in
theorem ggX4_ribs_X0_forget : GoodIn wsX4_ribs wsX0_forget := goodIn_r _ [24, 25, 35, 36, 37, 38, 39] (by decide +kernel) (by decide +kernel)
set_option maxRecDepth 20000 in
theorem gX4_ribs_X0_forget : GoodIn wsX4_ribs (wsV RX4 31 RX0 yX0_forget wsX0_forget) := goodIn_app (goodIn_of _ (by decide +kernel)) ggX4_ribs_X0_forget
theorem dX4_ribs_0 : decode cX4_ribs 0 = .ok (.iload_n 1, 1) := by decide +kernel
theorem dX4_ribs_1 : decode cX4_ribs 1 = .ok (.ifCond .lt 26, 3) := by decide +kernel
theorem dX4_ribs_4 : decode cX4_ribs 4 = .ok (.iload_n 1, 1) := by decide +kernel
theorem dX4_ribs_5 : decode cX4_ribs 5 = .ok (.iconst 1, 1) := by decide +kernel
theorem dX4_ribs_6 : decode cX4_ribs 6 = .ok (.if_icmp .gt 21, 3) := by decide +kernel
theorem dX4_ribs_9 : decode cX4_ribs 9 = .ok (.iload_n 2, 1) := by decide +kernel
theorem dX4_ribs_10 : decode cX4_ribs 10 = .ok (.ifCond .lt 17, 3) := by decide +kernel
theorem dX4_ribs_13 : decode cX4_ribs 13 = .ok (.iload_n 2, 1) := by decide +kernel
theorem dX4_ribs_14 : decode cX4_ribs 14 = .ok (.iconst 1, 1) := by decide +kernel
theorem dX4_ribs_15 : decode cX4_ribs 15 = .ok (.aload_n 0, 1) := by decide +kernel
theorem dX4_ribs_16 : decode cX4_ribs 16 = .ok (.getfield 10, 3) := by decide +kernel
theorem dX4_ribs_19 : decode cX4_ribs 19 = .ok (.iload_n 1, 1) := by decide +kernel
theorem dX4_ribs_20 : decode cX4_ribs 20 = .ok (.invokevirtual 96, 3) := by decide +kernel
theorem dX4_ribs_23 : decode cX4_ribs 23 = .ok (.ishl, 1) := by decide +kernel
theorem dX4_ribs_24 : decode cX4_ribs 24 = .ok (.if_icmp .lt 6, 3) := by decide +kernel
theorem dX4_ribs_27 : decode cX4_ribs 27 = .ok (.bipush (-2), 2) := by decide +kernel
theorem dX4_ribs_29 : decode cX4_ribs 29 = .ok (.ireturn, 1) := by decide +kernel
theorem dX4_ribs_30 : decode cX4_ribs 30 = .ok (.aload_n 0, 1) := by decide +kernel
theorem dX4_ribs_31 : decode cX4_ribs 31 = .ok (.getfield 10, 3) := by decide +kernel
theorem dX4_ribs_34 : decode cX4_ribs 34 = .ok (.iload_n 1, 1) := by decide +kernel
theorem dX4_ribs_35 : decode cX4_ribs 35 = .ok (.invokevirtual 88, 3) := by decide +kernel
theorem dX4_ribs_38 : decode cX4_ribs 38 = .ok (.istore_n 3, 1) := by decide +kernel
theorem dX4_ribs_39 : decode cX4_ribs 39 = .ok (.aload_n 0, 1) := by decide +kernel
theorem dX4_ribs_40 : decode cX4_ribs 40 = .ok (.getfield 10, 3) := by decide +kernel
theorem dX4_ribs_43 : decode cX4_ribs 43 = .ok (.iload_n 1, 1) := by decide +kernel
theorem dX4_ribs_44 : decode cX4_ribs 44 = .ok (.iload_n 2, 1) := by decide +kernel
theorem dX4_ribs_45 : decode cX4_ribs 45 = .ok (.invokevirtual 92, 3) := by decide +kernel
theorem dX4_ribs_48 : decode cX4_ribs 48 = .ok (.aload_n 0, 1) := by decide +kernel
theorem dX4_ribs_49 : decode cX4_ribs 49 = .ok (.getfield 19, 3) := by decide +kernel
theorem dX4_ribs_52 : decode cX4_ribs 52 = .ok (.invokevirtual 31, 3) := by decide +kernel
theorem dX4_ribs_55 : decode cX4_ribs 55 = .ok (.iload_n 3, 1) := by decide +kernel
theorem dX4_ribs_56 : decode cX4_ribs 56 = .ok (.ireturn, 1) := by decide +kernel
set_option maxRecDepth 20000 in
theorem ggX4_figure_X3_hasRib : GoodIn wsX4_figure wsX3_hasRib := goodIn_r _ [6, 7, 8, 9, 5, 10, 11, 12, 91, 92, 93, 94, 95, 96, 97] (by decide +kernel) (by decide +kernel)
set_option maxRecDepth 20000 in
theorem gX4_figure_X3_hasRib : GoodIn wsX4_figure (wsV RX4 82 RX3 yX3_hasRib wsX3_hasRib) := goodIn_app (goodIn_of _ (by decide +kernel)) ggX4_figure_X3_hasRib
set_option maxRecDepth 20000 in
theorem ggX4_figure_X3_hasLayer : GoodIn wsX4_figure wsX3_hasLayer := goodIn_r _ [16, 17, 91, 92, 93, 94, 95, 96, 97] (by decide +kernel) (by decide +kernel)
set_option maxRecDepth 20000 in
theorem gX4_figure_X3_hasLayer : GoodIn wsX4_figure (wsV RX4 69 RX3 yX3_hasLayer wsX3_hasLayer) := goodIn_app (goodIn_of _ (by decide +kernel)) ggX4_figure_X3_hasLayer
set_option maxRecDepth 20000 in
theorem ggX4_figure_X3_cutOf : GoodIn wsX4_figure wsX3_cutOf := goodIn_r _ [21, 22, 23, 24, 5, 25, 26, 27, 28, 29, 30, 31, 32, 33, 34, 35, 36, 37, 38, 39, 7, 8, 9, 10, 11, 12, 40, 41, 42, 43, 44, 45, 46, 47, 48, 49, 50, 51, 52, 53, 54, 55, 56, 57, 58, 59, 60, 61, 62, 63, 64, 65, 66, 67, 68, 69, 70, 71, 72, 73, 74, 75, 76, 91, 92, 93, 94, 95, 96, 97] (by decide +kernel) (by decide +kernel)
set_option maxRecDepth 20000 in
theorem gX4_figure_X3_cutOf : GoodIn wsX4_figure (wsV RX4 99 RX3 yX3_cutOf wsX3_cutOf) := goodIn_app (goodIn_of _ (by decide +kernel)) ggX4_figure_X3_cutOf
set_option maxRecDepth 20000 in
theorem ggX4_figure_X3_figureOf : GoodIn wsX4_figure wsX3_figureOf := goodIn_r _ [80, 7, 8, 9, 5, 10, 11, 12, 40, 41, 42, 43, 44, 45, 46, 47, 48, 49, 50, 51, 52, 73, 74, 75, 76, 91, 92, 93, 94, 95, 96, 97] (by decide +kernel) (by decide +kernel)
set_option maxRecDepth 20000 in
theorem gX4_figure_X3_figureOf : GoodIn wsX4_figure (wsV RX4 103 RX3 yX3_figureOf wsX3_figureOf) := goodIn_app (goodIn_of _ (by decide +kernel)) ggX4_figure_X3_figureOf
set_option maxRecDepth 20000 in
theorem ggX4_figure_X2_columnAt : GoodIn wsX4_figure wsX2_columnAt := goodIn_r _ [83] (by decide +kernel) (by decide +kernel)
set_option maxRecDepth 20000 in
theorem gX4_figure_X2_columnAt : GoodIn wsX4_figure (va_wsS RX4 106 yX2_columnAt wsX2_columnAt) := goodIn_app (goodIn_of _ (by decide +kernel)) ggX4_figure_X2_columnAt
set_option maxRecDepth 20000 in
theorem ggX4_figure_X1_hasBit : GoodIn wsX4_figure wsX1_hasBit := goodIn_r _ [39] (by decide +kernel) (by decide +kernel)
set_option maxRecDepth 20000 in
theorem gX4_figure_X1_hasBit : GoodIn wsX4_figure (va_wsS RX4 75 yX1_hasBit wsX1_hasBit) := goodIn_app (goodIn_of _ (by decide +kernel)) ggX4_figure_X1_hasBit
set_option maxRecDepth 20000 in
theorem ggX4_figure_X4_asNumber : GoodIn wsX4_figure wsX4_asNumber := goodIn_r _ [88] (by decide +kernel) (by decide +kernel)
set_option maxRecDepth 20000 in
theorem gX4_figure_X4_asNumber : GoodIn wsX4_figure (va_wsS RX4 78 yX4_asNumber wsX4_asNumber) := goodIn_app (goodIn_of _ (by decide +kernel)) ggX4_figure_X4_asNumber
theorem dX4_figure_0 : decode cX4_figure 0 = .ok (.aload_n 0, 1) := by decide +kernel
theorem dX4_figure_1 : decode cX4_figure 1 = .ok (.getfield 10, 3) := by decide +kernel
theorem dX4_figure_4 : decode cX4_figure 4 = .ok (.iload_n 1, 1) := by decide +kernel
theorem dX4_figure_5 : decode cX4_figure 5 = .ok (.iload_n 2, 1) := by decide +kernel
theorem dX4_figure_6 : decode cX4_figure 6 = .ok (.invokevirtual 82, 3) := by decide +kernel
theorem dX4_figure_9 : decode cX4_figure 9 = .ok (.ifCond .eq 29, 3) := by decide +kernel
theorem dX4_figure_12 : decode cX4_figure 12 = .ok (.aload_n 0, 1) := by decide +kernel
theorem dX4_figure_13 : decode cX4_figure 13 = .ok (.getfield 10, 3) := by decide +kernel
theorem dX4_figure_16 : decode cX4_figure 16 = .ok (.iconst 1, 1) := by decide +kernel
theorem dX4_figure_17 : decode cX4_figure 17 = .ok (.iload_n 1, 1) := by decide +kernel
theorem dX4_figure_18 : decode cX4_figure 18 = .ok (.isub, 1) := by decide +kernel
theorem dX4_figure_19 : decode cX4_figure 19 = .ok (.iload_n 3, 1) := by decide +kernel
theorem dX4_figure_20 : decode cX4_figure 20 = .ok (.invokevirtual 82, 3) := by decide +kernel
theorem dX4_figure_23 : decode cX4_figure 23 = .ok (.ifCond .eq 15, 3) := by decide +kernel
theorem dX4_figure_26 : decode cX4_figure 26 = .ok (.aload_n 0, 1) := by decide +kernel
theorem dX4_figure_27 : decode cX4_figure 27 = .ok (.getfield 10, 3) := by decide +kernel
theorem dX4_figure_30 : decode cX4_figure 30 = .ok (.iload 4, 2) := by decide +kernel
theorem dX4_figure_32 : decode cX4_figure 32 = .ok (.invokevirtual 69, 3) := by decide +kernel
theorem dX4_figure_35 : decode cX4_figure 35 = .ok (.ifCond .ne 5, 3) := by decide +kernel
theorem dX4_figure_38 : decode cX4_figure 38 = .ok (.iconst (-1), 1) := by decide +kernel
theorem dX4_figure_39 : decode cX4_figure 39 = .ok (.ireturn, 1) := by decide +kernel
theorem dX4_figure_40 : decode cX4_figure 40 = .ok (.iload 5, 2) := by decide +kernel
theorem dX4_figure_42 : decode cX4_figure 42 = .ok (.ifCond .eq 15, 3) := by decide +kernel
theorem dX4_figure_45 : decode cX4_figure 45 = .ok (.aload_n 0, 1) := by decide +kernel
theorem dX4_figure_46 : decode cX4_figure 46 = .ok (.getfield 10, 3) := by decide +kernel
theorem dX4_figure_49 : decode cX4_figure 49 = .ok (.iload_n 1, 1) := by decide +kernel
theorem dX4_figure_50 : decode cX4_figure 50 = .ok (.iload_n 2, 1) := by decide +kernel
theorem dX4_figure_51 : decode cX4_figure 51 = .ok (.invokevirtual 99, 3) := by decide +kernel
theorem dX4_figure_54 : decode cX4_figure 54 = .ok (.goto 12, 3) := by decide +kernel
theorem dX4_figure_57 : decode cX4_figure 57 = .ok (.aload_n 0, 1) := by decide +kernel
theorem dX4_figure_58 : decode cX4_figure 58 = .ok (.getfield 10, 3) := by decide +kernel
theorem dX4_figure_61 : decode cX4_figure 61 = .ok (.iload_n 1, 1) := by decide +kernel
theorem dX4_figure_62 : decode cX4_figure 62 = .ok (.iload_n 2, 1) := by decide +kernel
theorem dX4_figure_63 : decode cX4_figure 63 = .ok (.invokevirtual 103, 3) := by decide +kernel
theorem dX4_figure_66 : decode cX4_figure 66 = .ok (.lstore 6, 2) := by decide +kernel
theorem dX4_figure_68 : decode cX4_figure 68 = .ok (.lload 6, 2) := by decide +kernel
theorem dX4_figure_70 : decode cX4_figure 70 = .ok (.iload_n 3, 1) := by decide +kernel
theorem dX4_figure_71 : decode cX4_figure 71 = .ok (.invokestatic 106, 3) := by decide +kernel
