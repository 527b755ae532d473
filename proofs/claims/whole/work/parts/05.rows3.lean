theorem dX4_figure_74 : decode cX4_figure 74 = .ok (.iload 4, 2) := by decide +kernel
theorem dX4_figure_76 : decode cX4_figure 76 = .ok (.invokestatic 75, 3) := by decide +kernel
theorem dX4_figure_79 : decode cX4_figure 79 = .ok (.invokestatic 78, 3) := by decide +kernel
theorem dX4_figure_82 : decode cX4_figure 82 = .ok (.ireturn, 1) := by decide +kernel
set_option maxRecDepth 20000 in
theorem ggX4_about_X3_hasRib : GoodIn wsX4_about wsX3_hasRib := goodIn_r _ [6, 7, 8, 9, 5, 10, 11, 12, 136, 137, 138, 139, 140, 141, 142] (by decide +kernel) (by decide +kernel)
set_option maxRecDepth 20000 in
theorem gX4_about_X3_hasRib : GoodIn wsX4_about (wsV RX4 82 RX3 yX3_hasRib wsX3_hasRib) := goodIn_app (goodIn_of _ (by decide +kernel)) ggX4_about_X3_hasRib
set_option maxRecDepth 20000 in
theorem ggX4_about_X3_figureOf : GoodIn wsX4_about wsX3_figureOf := goodIn_r _ [16, 7, 8, 9, 5, 10, 11, 12, 17, 18, 19, 20, 21, 22, 23, 24, 25, 26, 27, 28, 29, 30, 31, 32, 33, 136, 137, 138, 139, 140, 141, 142] (by decide +kernel) (by decide +kernel)
set_option maxRecDepth 20000 in
theorem gX4_about_X3_figureOf : GoodIn wsX4_about (wsV RX4 103 RX3 yX3_figureOf wsX3_figureOf) := goodIn_app (goodIn_of _ (by decide +kernel)) ggX4_about_X3_figureOf
set_option maxRecDepth 20000 in
theorem ggX4_about_J13_bitCount_95d88 : GoodIn wsX4_about wsJ13_bitCount_95d88 := goodIn_r _ [37, 38, 39, 40] (by decide +kernel) (by decide +kernel)
set_option maxRecDepth 20000 in
theorem gX4_about_J13_bitCount_95d88 : GoodIn wsX4_about (va_wsS RX4 111 yJ13_bitCount_95d88 wsJ13_bitCount_95d88) := goodIn_app (goodIn_of _ (by decide +kernel)) ggX4_about_J13_bitCount_95d88
set_option maxRecDepth 20000 in
theorem ggX4_about_X3_cutOf : GoodIn wsX4_about wsX3_cutOf := goodIn_r _ [44, 45, 46, 47, 5, 48, 49, 50, 51, 52, 53, 54, 55, 56, 57, 58, 59, 60, 61, 62, 7, 8, 9, 10, 11, 12, 17, 18, 19, 20, 21, 22, 23, 24, 25, 26, 27, 28, 29, 63, 64, 65, 66, 67, 68, 69, 70, 71, 72, 73, 74, 75, 76, 77, 78, 79, 80, 81, 82, 30, 31, 32, 33, 136, 137, 138, 139, 140, 141, 142] (by decide +kernel) (by decide +kernel)
set_option maxRecDepth 20000 in
theorem gX4_about_X3_cutOf : GoodIn wsX4_about (wsV RX4 99 RX3 yX3_cutOf wsX3_cutOf) := goodIn_app (goodIn_of _ (by decide +kernel)) ggX4_about_X3_cutOf
set_option maxRecDepth 20000 in
theorem ggX4_about_X2_partCount : GoodIn wsX4_about wsX2_partCount := goodIn_r _ [85, 86, 87, 32, 88, 89, 90, 91, 92, 93, 94, 95, 96, 97] (by decide +kernel) (by decide +kernel)
set_option maxRecDepth 20000 in
theorem gX4_about_X2_partCount : GoodIn wsX4_about (va_wsS RX4 117 yX2_partCount wsX2_partCount) := goodIn_app (goodIn_of _ (by decide +kernel)) ggX4_about_X2_partCount
set_option maxRecDepth 20000 in
theorem ggX4_about_X3_loosePartsOf : GoodIn wsX4_about wsX3_loosePartsOf := goodIn_r _ [101, 45, 46, 47, 5, 48, 49, 50, 51, 52, 53, 54, 55, 56, 57, 58, 59, 60, 61, 62, 7, 8, 9, 10, 11, 12, 30, 31, 32, 33, 102, 42, 43, 44, 17, 18, 19, 20, 21, 22, 23, 24, 25, 26, 27, 28, 29, 63, 64, 65, 66, 67, 68, 69, 70, 71, 72, 73, 74, 75, 76, 77, 78, 79, 80, 81, 82, 103, 87, 88, 89, 90, 91, 92, 93, 94, 95, 96, 97, 136, 137, 138, 139, 140, 141, 142] (by decide +kernel) (by decide +kernel)
set_option maxRecDepth 20000 in
theorem gX4_about_X3_loosePartsOf : GoodIn wsX4_about (wsV RX4 120 RX3 yX3_loosePartsOf wsX3_loosePartsOf) := goodIn_app (goodIn_of _ (by decide +kernel)) ggX4_about_X3_loosePartsOf
set_option maxRecDepth 20000 in
theorem ggX4_about_X3_crossingsWithRun : GoodIn wsX4_about wsX3_crossingsWithRun := goodIn_r _ [107, 45, 46, 47, 5, 48, 49, 50, 51, 52, 53, 54, 55, 56, 57, 58, 59, 60, 61, 62, 7, 8, 9, 10, 11, 12, 17, 18, 19, 20, 21, 22, 23, 24, 25, 26, 27, 28, 29, 136, 137, 138, 139, 140, 141, 142] (by decide +kernel) (by decide +kernel)
set_option maxRecDepth 20000 in
theorem gX4_about_X3_crossingsWithRun : GoodIn wsX4_about (wsV RX4 123 RX3 yX3_crossingsWithRun wsX3_crossingsWithRun) := goodIn_app (goodIn_of _ (by decide +kernel)) ggX4_about_X3_crossingsWithRun
set_option maxRecDepth 20000 in
theorem ggX4_about_X3_runsInCrossings : GoodIn wsX4_about wsX3_runsInCrossings := goodIn_r _ [111, 45, 46, 47, 5, 48, 49, 50, 51, 52, 53, 54, 55, 56, 57, 58, 59, 60, 61, 62, 7, 8, 9, 10, 11, 12, 17, 18, 19, 20, 21, 22, 23, 24, 25, 26, 27, 28, 29, 112, 113, 114, 115, 116, 117, 118, 119, 120, 121, 136, 137, 138, 139, 140, 141, 142] (by decide +kernel) (by decide +kernel)
set_option maxRecDepth 20000 in
theorem gX4_about_X3_runsInCrossings : GoodIn wsX4_about (wsV RX4 126 RX3 yX3_runsInCrossings wsX3_runsInCrossings) := goodIn_app (goodIn_of _ (by decide +kernel)) ggX4_about_X3_runsInCrossings
set_option maxRecDepth 20000 in
theorem ggX4_about_X2_spanOfU : GoodIn wsX4_about wsX2_spanOfU := goodIn_r _ [124, 125, 126, 32, 127, 128, 129, 61, 130, 69, 60, 62] (by decide +kernel) (by decide +kernel)
set_option maxRecDepth 20000 in
theorem gX4_about_X2_spanOfU : GoodIn wsX4_about (va_wsS RX4 129 yX2_spanOfU wsX2_spanOfU) := goodIn_app (goodIn_of _ (by decide +kernel)) ggX4_about_X2_spanOfU
set_option maxRecDepth 20000 in
theorem ggX4_about_X2_spanOfZ : GoodIn wsX4_about wsX2_spanOfZ := goodIn_r _ [133, 125, 126, 32, 127, 128, 129, 61, 130, 69, 60, 62] (by decide +kernel) (by decide +kernel)
set_option maxRecDepth 20000 in
theorem gX4_about_X2_spanOfZ : GoodIn wsX4_about (va_wsS RX4 132 yX2_spanOfZ wsX2_spanOfZ) := goodIn_app (goodIn_of _ (by decide +kernel)) ggX4_about_X2_spanOfZ
theorem dX4_about_0 : decode cX4_about 0 = .ok (.aload_n 0, 1) := by decide +kernel
theorem dX4_about_1 : decode cX4_about 1 = .ok (.getfield 10, 3) := by decide +kernel
theorem dX4_about_4 : decode cX4_about 4 = .ok (.iload_n 1, 1) := by decide +kernel
theorem dX4_about_5 : decode cX4_about 5 = .ok (.iload_n 2, 1) := by decide +kernel
theorem dX4_about_6 : decode cX4_about 6 = .ok (.invokevirtual 82, 3) := by decide +kernel
theorem dX4_about_9 : decode cX4_about 9 = .ok (.ifCond .ne 5, 3) := by decide +kernel
theorem dX4_about_12 : decode cX4_about 12 = .ok (.iconst (-1), 1) := by decide +kernel
theorem dX4_about_13 : decode cX4_about 13 = .ok (.ireturn, 1) := by decide +kernel
theorem dX4_about_14 : decode cX4_about 14 = .ok (.iload_n 3, 1) := by decide +kernel
theorem dX4_about_15 : decode cX4_about 15 = .ok (.tableswitch 157 0 8 #[49, 62, 75, 88, 101, 111, 121, 131, 144], 49) := by decide +kernel
theorem dX4_about_64 : decode cX4_about 64 = .ok (.aload_n 0, 1) := by decide +kernel
theorem dX4_about_65 : decode cX4_about 65 = .ok (.getfield 10, 3) := by decide +kernel
theorem dX4_about_68 : decode cX4_about 68 = .ok (.iload_n 1, 1) := by decide +kernel
theorem dX4_about_69 : decode cX4_about 69 = .ok (.iload_n 2, 1) := by decide +kernel
theorem dX4_about_70 : decode cX4_about 70 = .ok (.invokevirtual 103, 3) := by decide +kernel
theorem dX4_about_73 : decode cX4_about 73 = .ok (.invokestatic 111, 3) := by decide +kernel
theorem dX4_about_76 : decode cX4_about 76 = .ok (.ireturn, 1) := by decide +kernel
theorem dX4_about_77 : decode cX4_about 77 = .ok (.aload_n 0, 1) := by decide +kernel
theorem dX4_about_78 : decode cX4_about 78 = .ok (.getfield 10, 3) := by decide +kernel
theorem dX4_about_81 : decode cX4_about 81 = .ok (.iload_n 1, 1) := by decide +kernel
theorem dX4_about_82 : decode cX4_about 82 = .ok (.iload_n 2, 1) := by decide +kernel
theorem dX4_about_83 : decode cX4_about 83 = .ok (.invokevirtual 99, 3) := by decide +kernel
theorem dX4_about_86 : decode cX4_about 86 = .ok (.invokestatic 111, 3) := by decide +kernel
theorem dX4_about_89 : decode cX4_about 89 = .ok (.ireturn, 1) := by decide +kernel
theorem dX4_about_90 : decode cX4_about 90 = .ok (.aload_n 0, 1) := by decide +kernel
theorem dX4_about_91 : decode cX4_about 91 = .ok (.getfield 10, 3) := by decide +kernel
theorem dX4_about_94 : decode cX4_about 94 = .ok (.iload_n 1, 1) := by decide +kernel
theorem dX4_about_95 : decode cX4_about 95 = .ok (.iload_n 2, 1) := by decide +kernel
theorem dX4_about_96 : decode cX4_about 96 = .ok (.invokevirtual 103, 3) := by decide +kernel
theorem dX4_about_99 : decode cX4_about 99 = .ok (.invokestatic 117, 3) := by decide +kernel
theorem dX4_about_102 : decode cX4_about 102 = .ok (.ireturn, 1) := by decide +kernel
theorem dX4_about_103 : decode cX4_about 103 = .ok (.aload_n 0, 1) := by decide +kernel
theorem dX4_about_104 : decode cX4_about 104 = .ok (.getfield 10, 3) := by decide +kernel
theorem dX4_about_107 : decode cX4_about 107 = .ok (.iload_n 1, 1) := by decide +kernel
theorem dX4_about_108 : decode cX4_about 108 = .ok (.iload_n 2, 1) := by decide +kernel
theorem dX4_about_109 : decode cX4_about 109 = .ok (.invokevirtual 99, 3) := by decide +kernel
theorem dX4_about_112 : decode cX4_about 112 = .ok (.invokestatic 117, 3) := by decide +kernel
theorem dX4_about_115 : decode cX4_about 115 = .ok (.ireturn, 1) := by decide +kernel
theorem dX4_about_116 : decode cX4_about 116 = .ok (.aload_n 0, 1) := by decide +kernel
theorem dX4_about_117 : decode cX4_about 117 = .ok (.getfield 10, 3) := by decide +kernel
theorem dX4_about_120 : decode cX4_about 120 = .ok (.iload_n 1, 1) := by decide +kernel
theorem dX4_about_121 : decode cX4_about 121 = .ok (.iload_n 2, 1) := by decide +kernel
theorem dX4_about_122 : decode cX4_about 122 = .ok (.invokevirtual 120, 3) := by decide +kernel
theorem dX4_about_125 : decode cX4_about 125 = .ok (.ireturn, 1) := by decide +kernel
theorem dX4_about_126 : decode cX4_about 126 = .ok (.aload_n 0, 1) := by decide +kernel
theorem dX4_about_127 : decode cX4_about 127 = .ok (.getfield 10, 3) := by decide +kernel
theorem dX4_about_130 : decode cX4_about 130 = .ok (.iload_n 1, 1) := by decide +kernel
theorem dX4_about_131 : decode cX4_about 131 = .ok (.iload_n 2, 1) := by decide +kernel
theorem dX4_about_132 : decode cX4_about 132 = .ok (.invokevirtual 123, 3) := by decide +kernel
theorem dX4_about_135 : decode cX4_about 135 = .ok (.ireturn, 1) := by decide +kernel
theorem dX4_about_136 : decode cX4_about 136 = .ok (.aload_n 0, 1) := by decide +kernel
theorem dX4_about_137 : decode cX4_about 137 = .ok (.getfield 10, 3) := by decide +kernel
theorem dX4_about_140 : decode cX4_about 140 = .ok (.iload_n 1, 1) := by decide +kernel
theorem dX4_about_141 : decode cX4_about 141 = .ok (.iload_n 2, 1) := by decide +kernel
theorem dX4_about_142 : decode cX4_about 142 = .ok (.invokevirtual 126, 3) := by decide +kernel
theorem dX4_about_145 : decode cX4_about 145 = .ok (.ireturn, 1) := by decide +kernel
theorem dX4_about_146 : decode cX4_about 146 = .ok (.aload_n 0, 1) := by decide +kernel
theorem dX4_about_147 : decode cX4_about 147 = .ok (.getfield 10, 3) := by decide +kernel
theorem dX4_about_150 : decode cX4_about 150 = .ok (.iload_n 1, 1) := by decide +kernel
theorem dX4_about_151 : decode cX4_about 151 = .ok (.iload_n 2, 1) := by decide +kernel
theorem dX4_about_152 : decode cX4_about 152 = .ok (.invokevirtual 103, 3) := by decide +kernel
theorem dX4_about_155 : decode cX4_about 155 = .ok (.invokestatic 129, 3) := by decide +kernel
theorem dX4_about_158 : decode cX4_about 158 = .ok (.ireturn, 1) := by decide +kernel
theorem dX4_about_159 : decode cX4_about 159 = .ok (.aload_n 0, 1) := by decide +kernel
theorem dX4_about_160 : decode cX4_about 160 = .ok (.getfield 10, 3) := by decide +kernel
theorem dX4_about_163 : decode cX4_about 163 = .ok (.iload_n 1, 1) := by decide +kernel
theorem dX4_about_164 : decode cX4_about 164 = .ok (.iload_n 2, 1) := by decide +kernel
theorem dX4_about_165 : decode cX4_about 165 = .ok (.invokevirtual 103, 3) := by decide +kernel
theorem dX4_about_168 : decode cX4_about 168 = .ok (.invokestatic 132, 3) := by decide +kernel
theorem dX4_about_171 : decode cX4_about 171 = .ok (.ireturn, 1) := by decide +kernel
theorem dX4_about_172 : decode cX4_about 172 = .ok (.bipush (-2), 2) := by decide +kernel
theorem dX4_about_174 : decode cX4_about 174 = .ok (.ireturn, 1) := by decide +kernel
set_option maxRecDepth 20000 in
theorem ggX4_caught_X3_crossingsOf : GoodIn wsX4_caught wsX3_crossingsOf := goodIn_r _ [8, 9, 10, 11, 7, 12, 13, 14, 15, 16, 17, 18, 19, 20, 21, 22, 51, 52, 53, 54, 55, 56, 57] (by decide +kernel) (by decide +kernel)
set_option maxRecDepth 20000 in
theorem gX4_caught_X3_crossingsOf : GoodIn wsX4_caught (wsV RX4 135 RX3 yX3_crossingsOf wsX3_crossingsOf) := goodIn_app (goodIn_of _ (by decide +kernel)) ggX4_caught_X3_crossingsOf
set_option maxRecDepth 20000 in
theorem ggX4_caught_X1_hasBit : GoodIn wsX4_caught wsX1_hasBit := goodIn_r _ [22] (by decide +kernel) (by decide +kernel)
set_option maxRecDepth 20000 in
theorem gX4_caught_X1_hasBit : GoodIn wsX4_caught (va_wsS RX4 75 yX1_hasBit wsX1_hasBit) := goodIn_app (goodIn_of _ (by decide +kernel)) ggX4_caught_X1_hasBit
set_option maxRecDepth 20000 in
theorem ggX4_caught_X3_wouldCatch : GoodIn wsX4_caught wsX3_wouldCatch := goodIn_r _ [27, 28, 29, 30, 7, 31, 32, 33, 34, 35, 36, 37, 38, 39, 40, 21, 41, 42, 43, 44, 45, 46, 47, 48, 51, 52, 53, 54, 55, 56, 57] (by decide +kernel) (by decide +kernel)
set_option maxRecDepth 20000 in
theorem gX4_caught_X3_wouldCatch : GoodIn wsX4_caught (wsV RX4 138 RX3 yX3_wouldCatch wsX3_wouldCatch) := goodIn_app (goodIn_of _ (by decide +kernel)) ggX4_caught_X3_wouldCatch
theorem dX4_caught_0 : decode cX4_caught 0 = .ok (.iconst 0, 1) := by decide +kernel
theorem dX4_caught_1 : decode cX4_caught 1 = .ok (.istore_n 2, 1) := by decide +kernel
theorem dX4_caught_2 : decode cX4_caught 2 = .ok (.iconst 0, 1) := by decide +kernel
theorem dX4_caught_3 : decode cX4_caught 3 = .ok (.istore_n 3, 1) := by decide +kernel
theorem dX4_caught_4 : decode cX4_caught 4 = .ok (.iload_n 3, 1) := by decide +kernel
theorem dX4_caught_5 : decode cX4_caught 5 = .ok (.aload_n 0, 1) := by decide +kernel
theorem dX4_caught_6 : decode cX4_caught 6 = .ok (.getfield 10, 3) := by decide +kernel
theorem dX4_caught_9 : decode cX4_caught 9 = .ok (.getfield 52, 3) := by decide +kernel
theorem dX4_caught_12 : decode cX4_caught 12 = .ok (.if_icmp .ge 80, 3) := by decide +kernel
theorem dX4_caught_15 : decode cX4_caught 15 = .ok (.aload_n 0, 1) := by decide +kernel
theorem dX4_caught_16 : decode cX4_caught 16 = .ok (.getfield 10, 3) := by decide +kernel
theorem dX4_caught_19 : decode cX4_caught 19 = .ok (.iconst 0, 1) := by decide +kernel
theorem dX4_caught_20 : decode cX4_caught 20 = .ok (.iload_n 3, 1) := by decide +kernel
theorem dX4_caught_21 : decode cX4_caught 21 = .ok (.invokevirtual 135, 3) := by decide +kernel
theorem dX4_caught_24 : decode cX4_caught 24 = .ok (.istore 4, 2) := by decide +kernel
theorem dX4_caught_26 : decode cX4_caught 26 = .ok (.iconst 0, 1) := by decide +kernel
theorem dX4_caught_27 : decode cX4_caught 27 = .ok (.istore 5, 2) := by decide +kernel
theorem dX4_caught_29 : decode cX4_caught 29 = .ok (.iload 5, 2) := by decide +kernel
theorem dX4_caught_31 : decode cX4_caught 31 = .ok (.aload_n 0, 1) := by decide +kernel
theorem dX4_caught_32 : decode cX4_caught 32 = .ok (.getfield 10, 3) := by decide +kernel
theorem dX4_caught_35 : decode cX4_caught 35 = .ok (.getfield 55, 3) := by decide +kernel
theorem dX4_caught_38 : decode cX4_caught 38 = .ok (.if_icmp .ge 48, 3) := by decide +kernel
theorem dX4_caught_41 : decode cX4_caught 41 = .ok (.iload 4, 2) := by decide +kernel
theorem dX4_caught_43 : decode cX4_caught 43 = .ok (.iload 5, 2) := by decide +kernel
theorem dX4_caught_45 : decode cX4_caught 45 = .ok (.invokestatic 75, 3) := by decide +kernel
theorem dX4_caught_48 : decode cX4_caught 48 = .ok (.ifCond .eq 32, 3) := by decide +kernel
theorem dX4_caught_51 : decode cX4_caught 51 = .ok (.aload_n 0, 1) := by decide +kernel
theorem dX4_caught_52 : decode cX4_caught 52 = .ok (.getfield 10, 3) := by decide +kernel
theorem dX4_caught_55 : decode cX4_caught 55 = .ok (.iload_n 3, 1) := by decide +kernel
theorem dX4_caught_56 : decode cX4_caught 56 = .ok (.iload 5, 2) := by decide +kernel
theorem dX4_caught_58 : decode cX4_caught 58 = .ok (.invokevirtual 138, 3) := by decide +kernel
theorem dX4_caught_61 : decode cX4_caught 61 = .ok (.ifCond .eq 19, 3) := by decide +kernel
theorem dX4_caught_64 : decode cX4_caught 64 = .ok (.iload_n 2, 1) := by decide +kernel
theorem dX4_caught_65 : decode cX4_caught 65 = .ok (.iload_n 1, 1) := by decide +kernel
theorem dX4_caught_66 : decode cX4_caught 66 = .ok (.if_icmp .ne 11, 3) := by decide +kernel
theorem dX4_caught_69 : decode cX4_caught 69 = .ok (.bipush 10, 2) := by decide +kernel
theorem dX4_caught_71 : decode cX4_caught 71 = .ok (.iload_n 3, 1) := by decide +kernel
theorem dX4_caught_72 : decode cX4_caught 72 = .ok (.imul, 1) := by decide +kernel
theorem dX4_caught_73 : decode cX4_caught 73 = .ok (.iload 5, 2) := by decide +kernel
theorem dX4_caught_75 : decode cX4_caught 75 = .ok (.iadd, 1) := by decide +kernel
theorem dX4_caught_76 : decode cX4_caught 76 = .ok (.ireturn, 1) := by decide +kernel
theorem dX4_caught_77 : decode cX4_caught 77 = .ok (.iinc 2 1, 3) := by decide +kernel
theorem dX4_caught_80 : decode cX4_caught 80 = .ok (.iinc 5 1, 3) := by decide +kernel
theorem dX4_caught_83 : decode cX4_caught 83 = .ok (.goto (-54), 3) := by decide +kernel
theorem dX4_caught_86 : decode cX4_caught 86 = .ok (.iinc 3 1, 3) := by decide +kernel
theorem dX4_caught_89 : decode cX4_caught 89 = .ok (.goto (-85), 3) := by decide +kernel
theorem dX4_caught_92 : decode cX4_caught 92 = .ok (.iload_n 1, 1) := by decide +kernel
theorem dX4_caught_93 : decode cX4_caught 93 = .ok (.iconst (-1), 1) := by decide +kernel
theorem dX4_caught_94 : decode cX4_caught 94 = .ok (.if_icmp .ne 7, 3) := by decide +kernel
theorem dX4_caught_97 : decode cX4_caught 97 = .ok (.iload_n 2, 1) := by decide +kernel
theorem dX4_caught_98 : decode cX4_caught 98 = .ok (.goto 5, 3) := by decide +kernel
theorem dX4_caught_101 : decode cX4_caught 101 = .ok (.bipush (-6), 2) := by decide +kernel
theorem dX4_caught_103 : decode cX4_caught 103 = .ok (.ireturn, 1) := by decide +kernel
set_option maxRecDepth 20000 in
theorem ggX4_run_X3_hasColumn : GoodIn wsX4_run wsX3_hasColumn := goodIn_r _ [7, 8, 9, 28, 29, 30, 31, 32, 33, 34] (by decide +kernel) (by decide +kernel)
set_option maxRecDepth 20000 in
theorem gX4_run_X3_hasColumn : GoodIn wsX4_run (wsV RX4 65 RX3 yX3_hasColumn wsX3_hasColumn) := goodIn_app (goodIn_of _ (by decide +kernel)) ggX4_run_X3_hasColumn
set_option maxRecDepth 20000 in
theorem ggX4_run_X3_columnAt : GoodIn wsX4_run wsX3_columnAt := goodIn_r _ [13, 14, 15, 4, 5, 6, 7, 8, 9, 28, 29, 30, 31, 32, 33, 34] (by decide +kernel) (by decide +kernel)
set_option maxRecDepth 20000 in
theorem gX4_run_X3_columnAt : GoodIn wsX4_run (wsV RX4 72 RX3 yX3_columnAt wsX3_columnAt) := goodIn_app (goodIn_of _ (by decide +kernel)) ggX4_run_X3_columnAt
set_option maxRecDepth 20000 in
theorem ggX4_run_X1_beginsRun : GoodIn wsX4_run wsX1_beginsRun := goodIn_r _ [19, 20, 21, 18, 22] (by decide +kernel) (by decide +kernel)
set_option maxRecDepth 20000 in
theorem gX4_run_X1_beginsRun : GoodIn wsX4_run (va_wsS RX4 141 yX1_beginsRun wsX1_beginsRun) := goodIn_app (goodIn_of _ (by decide +kernel)) ggX4_run_X1_beginsRun
set_option maxRecDepth 20000 in
theorem ggX4_run_X1_runLength : GoodIn wsX4_run wsX1_runLength := goodIn_r _ [25, 20, 21, 18, 22] (by decide +kernel) (by decide +kernel)
set_option maxRecDepth 20000 in
theorem gX4_run_X1_runLength : GoodIn wsX4_run (va_wsS RX4 144 yX1_runLength wsX1_runLength) := goodIn_app (goodIn_of _ (by decide +kernel)) ggX4_run_X1_runLength
theorem dX4_run_0 : decode cX4_run 0 = .ok (.aload_n 0, 1) := by decide +kernel
theorem dX4_run_1 : decode cX4_run 1 = .ok (.getfield 10, 3) := by decide +kernel
theorem dX4_run_4 : decode cX4_run 4 = .ok (.iload_n 1, 1) := by decide +kernel
theorem dX4_run_5 : decode cX4_run 5 = .ok (.iload_n 2, 1) := by decide +kernel
theorem dX4_run_6 : decode cX4_run 6 = .ok (.invokevirtual 65, 3) := by decide +kernel
theorem dX4_run_9 : decode cX4_run 9 = .ok (.ifCond .ne 5, 3) := by decide +kernel
theorem dX4_run_12 : decode cX4_run 12 = .ok (.iconst (-1), 1) := by decide +kernel
theorem dX4_run_13 : decode cX4_run 13 = .ok (.ireturn, 1) := by decide +kernel
theorem dX4_run_14 : decode cX4_run 14 = .ok (.aload_n 0, 1) := by decide +kernel
theorem dX4_run_15 : decode cX4_run 15 = .ok (.getfield 10, 3) := by decide +kernel
theorem dX4_run_18 : decode cX4_run 18 = .ok (.iload_n 1, 1) := by decide +kernel
theorem dX4_run_19 : decode cX4_run 19 = .ok (.iload_n 2, 1) := by decide +kernel
theorem dX4_run_20 : decode cX4_run 20 = .ok (.invokevirtual 72, 3) := by decide +kernel
theorem dX4_run_23 : decode cX4_run 23 = .ok (.istore 4, 2) := by decide +kernel
theorem dX4_run_25 : decode cX4_run 25 = .ok (.iconst 0, 1) := by decide +kernel
theorem dX4_run_26 : decode cX4_run 26 = .ok (.istore 5, 2) := by decide +kernel
theorem dX4_run_28 : decode cX4_run 28 = .ok (.iconst 0, 1) := by decide +kernel
theorem dX4_run_29 : decode cX4_run 29 = .ok (.istore 6, 2) := by decide +kernel
theorem dX4_run_31 : decode cX4_run 31 = .ok (.iload 6, 2) := by decide +kernel
theorem dX4_run_33 : decode cX4_run 33 = .ok (.aload_n 0, 1) := by decide +kernel
theorem dX4_run_34 : decode cX4_run 34 = .ok (.getfield 10, 3) := by decide +kernel
theorem dX4_run_37 : decode cX4_run 37 = .ok (.getfield 37, 3) := by decide +kernel
theorem dX4_run_40 : decode cX4_run 40 = .ok (.if_icmp .ge 42, 3) := by decide +kernel
theorem dX4_run_43 : decode cX4_run 43 = .ok (.iload 4, 2) := by decide +kernel
theorem dX4_run_45 : decode cX4_run 45 = .ok (.iload 6, 2) := by decide +kernel
theorem dX4_run_47 : decode cX4_run 47 = .ok (.invokestatic 141, 3) := by decide +kernel
theorem dX4_run_50 : decode cX4_run 50 = .ok (.ifCond .eq 26, 3) := by decide +kernel
theorem dX4_run_53 : decode cX4_run 53 = .ok (.iload 5, 2) := by decide +kernel
theorem dX4_run_55 : decode cX4_run 55 = .ok (.iload_n 3, 1) := by decide +kernel
theorem dX4_run_56 : decode cX4_run 56 = .ok (.if_icmp .ne 17, 3) := by decide +kernel
theorem dX4_run_59 : decode cX4_run 59 = .ok (.bipush 10, 2) := by decide +kernel
theorem dX4_run_61 : decode cX4_run 61 = .ok (.iload 6, 2) := by decide +kernel
theorem dX4_run_63 : decode cX4_run 63 = .ok (.imul, 1) := by decide +kernel
theorem dX4_run_64 : decode cX4_run 64 = .ok (.iload 4, 2) := by decide +kernel
theorem dX4_run_66 : decode cX4_run 66 = .ok (.iload 6, 2) := by decide +kernel
theorem dX4_run_68 : decode cX4_run 68 = .ok (.invokestatic 144, 3) := by decide +kernel
theorem dX4_run_71 : decode cX4_run 71 = .ok (.iadd, 1) := by decide +kernel
theorem dX4_run_72 : decode cX4_run 72 = .ok (.ireturn, 1) := by decide +kernel
theorem dX4_run_73 : decode cX4_run 73 = .ok (.iinc 5 1, 3) := by decide +kernel
theorem dX4_run_76 : decode cX4_run 76 = .ok (.iinc 6 1, 3) := by decide +kernel
theorem dX4_run_79 : decode cX4_run 79 = .ok (.goto (-48), 3) := by decide +kernel
theorem dX4_run_82 : decode cX4_run 82 = .ok (.iload_n 3, 1) := by decide +kernel
theorem dX4_run_83 : decode cX4_run 83 = .ok (.iconst (-1), 1) := by decide +kernel
theorem dX4_run_84 : decode cX4_run 84 = .ok (.if_icmp .ne 8, 3) := by decide +kernel
theorem dX4_run_87 : decode cX4_run 87 = .ok (.iload 5, 2) := by decide +kernel
theorem dX4_run_89 : decode cX4_run 89 = .ok (.goto 5, 3) := by decide +kernel
theorem dX4_run_92 : decode cX4_run 92 = .ok (.bipush (-6), 2) := by decide +kernel
theorem dX4_run_94 : decode cX4_run 94 = .ok (.ireturn, 1) := by decide +kernel
set_option maxRecDepth 20000 in
theorem ggX4_cover_X3_coveredCubes : GoodIn wsX4_cover wsX3_coveredCubes := goodIn_r _ [6, 7, 8, 9, 10, 11, 5, 12, 13, 14, 15, 16, 17, 18, 19, 20, 21, 22, 23, 24, 25, 26, 27, 28, 29, 30, 31, 32, 33, 34, 35, 36, 37, 38, 41, 42, 43, 44, 45, 46, 47] (by decide +kernel) (by decide +kernel)
set_option maxRecDepth 20000 in
theorem gX4_cover_X3_coveredCubes : GoodIn wsX4_cover (wsV RX4 147 RX3 yX3_coveredCubes wsX3_coveredCubes) := goodIn_app (goodIn_of _ (by decide +kernel)) ggX4_cover_X3_coveredCubes
theorem dX4_cover_0 : decode cX4_cover 0 = .ok (.aload_n 0, 1) := by decide +kernel
theorem dX4_cover_1 : decode cX4_cover 1 = .ok (.getfield 10, 3) := by decide +kernel
theorem dX4_cover_4 : decode cX4_cover 4 = .ok (.invokevirtual 147, 3) := by decide +kernel
theorem dX4_cover_7 : decode cX4_cover 7 = .ok (.ireturn, 1) := by decide +kernel
set_option maxRecDepth 20000 in
theorem ggX4_best_X3_chooseBest : GoodIn wsX4_best wsX3_chooseBest := goodIn_r _ [9, 10, 11, 12, 13, 14, 15, 16, 17, 18, 19, 20, 21, 22, 8, 23, 24, 25, 26, 27, 28, 29, 30, 31, 32, 33, 34, 35, 36, 37, 38, 39, 40, 41, 42, 43, 44, 45, 46, 47, 48, 49, 50, 51, 52, 53, 54, 55, 56, 57, 58, 59, 60, 61, 62, 63, 64, 65, 66, 67, 68, 69, 70, 71, 72, 73, 74, 75, 76, 77, 78, 79, 80, 81, 102, 103, 104, 105, 106, 107, 108] (by decide +kernel) (by decide +kernel)
set_option maxRecDepth 20000 in
theorem gX4_best_X3_chooseBest : GoodIn wsX4_best (wsV RX4 151 RX3 yX3_chooseBest wsX3_chooseBest) := goodIn_app (goodIn_of _ (by decide +kernel)) ggX4_best_X3_chooseBest
set_option maxRecDepth 20000 in
theorem ggX4_best_X0_forget : GoodIn wsX4_best wsX0_forget := goodIn_r _ [86, 87, 109, 110, 111, 112, 113] (by decide +kernel) (by decide +kernel)
set_option maxRecDepth 20000 in
theorem gX4_best_X0_forget : GoodIn wsX4_best (wsV RX4 31 RX0 yX0_forget wsX0_forget) := goodIn_app (goodIn_of _ (by decide +kernel)) ggX4_best_X0_forget
set_option maxRecDepth 20000 in
theorem ggX4_best_X3_coveredCubes : GoodIn wsX4_best wsX3_coveredCubes := goodIn_r _ [91, 10, 24, 92, 93, 94, 8, 95, 96, 97, 98, 99, 11, 12, 26, 27, 28, 29, 30, 31, 32, 33, 34, 35, 36, 37, 38, 13, 14, 15, 16, 17, 18, 19, 102, 103, 104, 105, 106, 107, 108] (by decide +kernel) (by decide +kernel)
set_option maxRecDepth 20000 in
theorem gX4_best_X3_coveredCubes : GoodIn wsX4_best (wsV RX4 147 RX3 yX3_coveredCubes wsX3_coveredCubes) := goodIn_app (goodIn_of _ (by decide +kernel)) ggX4_best_X3_coveredCubes
theorem dX4_best_0 : decode cX4_best 0 = .ok (.iload_n 1, 1) := by decide +kernel
theorem dX4_best_1 : decode cX4_best 1 = .ok (.ifCond .lt 29, 3) := by decide +kernel
theorem dX4_best_4 : decode cX4_best 4 = .ok (.iload_n 1, 1) := by decide +kernel
theorem dX4_best_5 : decode cX4_best 5 = .ok (.aload_n 0, 1) := by decide +kernel
theorem dX4_best_6 : decode cX4_best 6 = .ok (.getfield 10, 3) := by decide +kernel
theorem dX4_best_9 : decode cX4_best 9 = .ok (.getfield 52, 3) := by decide +kernel
theorem dX4_best_12 : decode cX4_best 12 = .ok (.if_icmp .gt 18, 3) := by decide +kernel
theorem dX4_best_15 : decode cX4_best 15 = .ok (.iload_n 2, 1) := by decide +kernel
theorem dX4_best_16 : decode cX4_best 16 = .ok (.ifCond .lt 14, 3) := by decide +kernel
theorem dX4_best_19 : decode cX4_best 19 = .ok (.iload_n 2, 1) := by decide +kernel
theorem dX4_best_20 : decode cX4_best 20 = .ok (.aload_n 0, 1) := by decide +kernel
theorem dX4_best_21 : decode cX4_best 21 = .ok (.getfield 10, 3) := by decide +kernel
theorem dX4_best_24 : decode cX4_best 24 = .ok (.getfield 55, 3) := by decide +kernel
theorem dX4_best_27 : decode cX4_best 27 = .ok (.if_icmp .le 6, 3) := by decide +kernel
theorem dX4_best_30 : decode cX4_best 30 = .ok (.bipush (-2), 2) := by decide +kernel
theorem dX4_best_32 : decode cX4_best 32 = .ok (.ireturn, 1) := by decide +kernel
theorem dX4_best_33 : decode cX4_best 33 = .ok (.aload_n 0, 1) := by decide +kernel
theorem dX4_best_34 : decode cX4_best 34 = .ok (.getfield 10, 3) := by decide +kernel
theorem dX4_best_37 : decode cX4_best 37 = .ok (.iload_n 1, 1) := by decide +kernel
theorem dX4_best_38 : decode cX4_best 38 = .ok (.iload_n 2, 1) := by decide +kernel
theorem dX4_best_39 : decode cX4_best 39 = .ok (.invokevirtual 151, 3) := by decide +kernel
theorem dX4_best_42 : decode cX4_best 42 = .ok (.aload_n 0, 1) := by decide +kernel
theorem dX4_best_43 : decode cX4_best 43 = .ok (.getfield 19, 3) := by decide +kernel
theorem dX4_best_46 : decode cX4_best 46 = .ok (.invokevirtual 31, 3) := by decide +kernel
theorem dX4_best_49 : decode cX4_best 49 = .ok (.aload_n 0, 1) := by decide +kernel
theorem dX4_best_50 : decode cX4_best 50 = .ok (.getfield 10, 3) := by decide +kernel
theorem dX4_best_53 : decode cX4_best 53 = .ok (.invokevirtual 147, 3) := by decide +kernel
theorem dX4_best_56 : decode cX4_best 56 = .ok (.ireturn, 1) := by decide +kernel
set_option maxRecDepth 20000 in
theorem ggX4_told_X3_cubeCount : GoodIn wsX4_told wsX3_cubeCount := goodIn_r _ [9, 10, 11, 12, 13, 14, 15, 16, 17, 116, 117, 118, 119, 120, 121, 122] (by decide +kernel) (by decide +kernel)
set_option maxRecDepth 20000 in
theorem gX4_told_X3_cubeCount : GoodIn wsX4_told (wsV RX4 154 RX3 yX3_cubeCount wsX3_cubeCount) := goodIn_app (goodIn_of _ (by decide +kernel)) ggX4_told_X3_cubeCount
set_option maxRecDepth 20000 in
theorem ggX4_told_X3_chosenBits : GoodIn wsX4_told wsX3_chosenBits := goodIn_r _ [21, 22, 23, 116, 117, 118, 119, 120, 121, 122] (by decide +kernel) (by decide +kernel)
set_option maxRecDepth 20000 in
theorem gX4_told_X3_chosenBits : GoodIn wsX4_told (wsV RX4 88 RX3 yX3_chosenBits wsX3_chosenBits) := goodIn_app (goodIn_of _ (by decide +kernel)) ggX4_told_X3_chosenBits
set_option maxRecDepth 20000 in
theorem ggX4_told_X3_cubesOfCuts : GoodIn wsX4_told wsX3_cubesOfCuts := goodIn_r _ [27, 28, 29, 30, 8, 31, 32, 33, 34, 35, 36, 37, 38, 19, 20, 21, 22, 23, 39, 40, 41, 42, 43, 44, 45, 46, 47, 48, 49, 50, 51, 52, 53, 54, 55, 56, 57, 58, 10, 59, 60, 61, 62, 63, 64, 65, 66, 67, 68, 69, 70, 71, 72, 73, 74, 75, 76, 77, 78, 79, 80, 81, 82, 83, 84, 85, 86, 87, 88, 89, 90, 91, 92, 93, 116, 117, 118, 119, 120, 121, 122] (by decide +kernel) (by decide +kernel)
set_option maxRecDepth 20000 in
theorem gX4_told_X3_cubesOfCuts : GoodIn wsX4_told (wsV RX4 157 RX3 yX3_cubesOfCuts wsX3_cubesOfCuts) := goodIn_app (goodIn_of _ (by decide +kernel)) ggX4_told_X3_cubesOfCuts
set_option maxRecDepth 20000 in
theorem ggX4_told_X3_looseParts : GoodIn wsX4_told wsX3_looseParts := goodIn_r _ [97, 28, 29, 30, 8, 31, 32, 33, 34, 35, 36, 37, 38, 19, 20, 21, 22, 23, 39, 40, 41, 42, 98, 99, 100, 101, 47, 48, 49, 50, 83, 84, 85, 86, 43, 44, 45, 46, 51, 52, 53, 54, 55, 56, 57, 58, 10, 59, 60, 61, 62, 63, 64, 65, 66, 67, 68, 69, 70, 71, 72, 73, 74, 75, 76, 77, 78, 79, 80, 81, 82, 102, 103, 104, 105, 106, 107, 108, 109, 110, 111, 112, 113, 116, 117, 118, 119, 120, 121, 122] (by decide +kernel) (by decide +kernel)
set_option maxRecDepth 20000 in
theorem gX4_told_X3_looseParts : GoodIn wsX4_told (wsV RX4 160 RX3 yX3_looseParts wsX3_looseParts) := goodIn_app (goodIn_of _ (by decide +kernel)) ggX4_told_X3_looseParts
theorem dX4_told_0 : decode cX4_told 0 = .ok (.iload_n 1, 1) := by decide +kernel
theorem dX4_told_1 : decode cX4_told 1 = .ok (.tableswitch 113 0 7 #[47, 55, 63, 71, 79, 88, 97, 105], 47) := by decide +kernel
theorem dX4_told_48 : decode cX4_told 48 = .ok (.aload_n 0, 1) := by decide +kernel
theorem dX4_told_49 : decode cX4_told 49 = .ok (.getfield 10, 3) := by decide +kernel
theorem dX4_told_52 : decode cX4_told 52 = .ok (.getfield 52, 3) := by decide +kernel
theorem dX4_told_55 : decode cX4_told 55 = .ok (.ireturn, 1) := by decide +kernel
theorem dX4_told_56 : decode cX4_told 56 = .ok (.aload_n 0, 1) := by decide +kernel
theorem dX4_told_57 : decode cX4_told 57 = .ok (.getfield 10, 3) := by decide +kernel
theorem dX4_told_60 : decode cX4_told 60 = .ok (.getfield 55, 3) := by decide +kernel
theorem dX4_told_63 : decode cX4_told 63 = .ok (.ireturn, 1) := by decide +kernel
theorem dX4_told_64 : decode cX4_told 64 = .ok (.aload_n 0, 1) := by decide +kernel
theorem dX4_told_65 : decode cX4_told 65 = .ok (.getfield 10, 3) := by decide +kernel
theorem dX4_told_68 : decode cX4_told 68 = .ok (.getfield 37, 3) := by decide +kernel
theorem dX4_told_71 : decode cX4_told 71 = .ok (.ireturn, 1) := by decide +kernel
theorem dX4_told_72 : decode cX4_told 72 = .ok (.aload_n 0, 1) := by decide +kernel
theorem dX4_told_73 : decode cX4_told 73 = .ok (.getfield 10, 3) := by decide +kernel
theorem dX4_told_76 : decode cX4_told 76 = .ok (.invokevirtual 154, 3) := by decide +kernel
theorem dX4_told_79 : decode cX4_told 79 = .ok (.ireturn, 1) := by decide +kernel
theorem dX4_told_80 : decode cX4_told 80 = .ok (.aload_n 0, 1) := by decide +kernel
theorem dX4_told_81 : decode cX4_told 81 = .ok (.getfield 10, 3) := by decide +kernel
theorem dX4_told_84 : decode cX4_told 84 = .ok (.iconst 0, 1) := by decide +kernel
theorem dX4_told_85 : decode cX4_told 85 = .ok (.invokevirtual 88, 3) := by decide +kernel
theorem dX4_told_88 : decode cX4_told 88 = .ok (.ireturn, 1) := by decide +kernel
theorem dX4_told_89 : decode cX4_told 89 = .ok (.aload_n 0, 1) := by decide +kernel
theorem dX4_told_90 : decode cX4_told 90 = .ok (.getfield 10, 3) := by decide +kernel
theorem dX4_told_93 : decode cX4_told 93 = .ok (.iconst 1, 1) := by decide +kernel
theorem dX4_told_94 : decode cX4_told 94 = .ok (.invokevirtual 88, 3) := by decide +kernel
theorem dX4_told_97 : decode cX4_told 97 = .ok (.ireturn, 1) := by decide +kernel
theorem dX4_told_98 : decode cX4_told 98 = .ok (.aload_n 0, 1) := by decide +kernel
theorem dX4_told_99 : decode cX4_told 99 = .ok (.getfield 10, 3) := by decide +kernel
theorem dX4_told_102 : decode cX4_told 102 = .ok (.invokevirtual 157, 3) := by decide +kernel
theorem dX4_told_105 : decode cX4_told 105 = .ok (.ireturn, 1) := by decide +kernel
theorem dX4_told_106 : decode cX4_told 106 = .ok (.aload_n 0, 1) := by decide +kernel
theorem dX4_told_107 : decode cX4_told 107 = .ok (.getfield 10, 3) := by decide +kernel
theorem dX4_told_110 : decode cX4_told 110 = .ok (.invokevirtual 160, 3) := by decide +kernel
theorem dX4_told_113 : decode cX4_told 113 = .ok (.ireturn, 1) := by decide +kernel
theorem dX4_told_114 : decode cX4_told 114 = .ok (.bipush (-2), 2) := by decide +kernel
theorem dX4_told_116 : decode cX4_told 116 = .ok (.ireturn, 1) := by decide +kernel
set_option maxRecDepth 20000 in
theorem ggX4_lay_X4_allFitInto : GoodIn wsX4_lay wsX4_allFitInto := goodIn_r _ [8, 2, 9, 10, 11, 12, 13, 14, 15, 16, 17, 18, 19, 20, 21, 22, 23, 24, 25, 26, 27, 28, 29, 30, 31, 32, 33, 34, 35, 36, 37, 38, 39, 40, 41, 42, 43, 44, 45, 46, 47, 48, 49, 50, 51, 52, 53, 54, 55, 56, 57, 58, 59, 60, 61, 62, 63, 64, 65, 66, 67, 68, 109, 110, 116, 117, 118, 119, 120, 121, 122] (by decide +kernel) (by decide +kernel)
set_option maxRecDepth 20000 in
theorem gX4_lay_X4_allFitInto : GoodIn wsX4_lay (wsV RX4 163 RX4 yX4_allFitInto wsX4_allFitInto) := goodIn_app (goodIn_of _ (by decide +kernel)) ggX4_lay_X4_allFitInto
set_option maxRecDepth 20000 in
theorem ggX4_lay_X0_clear : GoodIn wsX4_lay wsX0_clear := goodIn_r _ [73, 74, 111, 112, 113, 114, 115] (by decide +kernel) (by decide +kernel)
set_option maxRecDepth 20000 in
theorem gX4_lay_X0_clear : GoodIn wsX4_lay (wsV RX4 166 RX0 yX0_clear wsX0_clear) := goodIn_app (goodIn_of _ (by decide +kernel)) ggX4_lay_X0_clear
set_option maxRecDepth 20000 in
theorem ggX4_lay_X3_ribCount : GoodIn wsX4_lay wsX3_ribCount := goodIn_r _ [13, 14, 15, 116, 117, 118, 119, 120, 121, 122] (by decide +kernel) (by decide +kernel)
set_option maxRecDepth 20000 in
theorem gX4_lay_X3_ribCount : GoodIn wsX4_lay (wsV RX4 96 RX3 yX3_ribCount wsX3_ribCount) := goodIn_app (goodIn_of _ (by decide +kernel)) ggX4_lay_X3_ribCount
set_option maxRecDepth 20000 in
theorem ggX4_lay_X3_chosenFigure : GoodIn wsX4_lay wsX3_chosenFigure := goodIn_r _ [19, 20, 21, 22, 12, 23, 24, 25, 26, 27, 28, 29, 30, 31, 32, 33, 34, 35, 36, 37, 38, 10, 11, 13, 14, 15, 39, 40, 41, 42, 43, 44, 45, 46, 47, 48, 49, 50, 51, 52, 53, 54, 55, 116, 117, 118, 119, 120, 121, 122] (by decide +kernel) (by decide +kernel)
set_option maxRecDepth 20000 in
theorem gX4_lay_X3_chosenFigure : GoodIn wsX4_lay (wsV RX4 169 RX3 yX3_chosenFigure wsX3_chosenFigure) := goodIn_app (goodIn_of _ (by decide +kernel)) ggX4_lay_X3_chosenFigure
set_option maxRecDepth 20000 in
theorem ggX4_lay_X2_spanOfU : GoodIn wsX4_lay wsX2_spanOfU := goodIn_r _ [58, 59, 60, 54, 61, 62, 63, 32, 64, 65, 31, 33] (by decide +kernel) (by decide +kernel)
set_option maxRecDepth 20000 in
theorem gX4_lay_X2_spanOfU : GoodIn wsX4_lay (va_wsS RX4 129 yX2_spanOfU wsX2_spanOfU) := goodIn_app (goodIn_of _ (by decide +kernel)) ggX4_lay_X2_spanOfU
set_option maxRecDepth 20000 in
theorem ggX4_lay_X2_spanOfZ : GoodIn wsX4_lay wsX2_spanOfZ := goodIn_r _ [68, 59, 60, 54, 61, 62, 63, 32, 64, 65, 31, 33] (by decide +kernel) (by decide +kernel)
set_option maxRecDepth 20000 in
theorem gX4_lay_X2_spanOfZ : GoodIn wsX4_lay (va_wsS RX4 132 yX2_spanOfZ wsX2_spanOfZ) := goodIn_app (goodIn_of _ (by decide +kernel)) ggX4_lay_X2_spanOfZ
set_option maxRecDepth 20000 in
theorem ggX4_lay_X0_add : GoodIn wsX4_lay wsX0_add := goodIn_r _ [78, 74, 79, 80, 81, 82, 83, 84, 85, 86, 72, 87, 88, 89, 90, 91, 92, 93, 94, 95, 96, 97, 98, 111, 112, 113, 114, 115] (by decide +kernel) (by decide +kernel)
set_option maxRecDepth 20000 in
theorem gX4_lay_X0_add : GoodIn wsX4_lay (wsV RX4 172 RX0 yX0_add wsX0_add) := goodIn_app (goodIn_of _ (by decide +kernel)) ggX4_lay_X0_add
set_option maxRecDepth 20000 in
theorem ggX4_lay_X0_layInRows : GoodIn wsX4_lay wsX0_layInRows := goodIn_r _ [102, 74, 103, 104, 105, 88, 89, 90, 72, 91, 79, 92, 93, 94, 95, 96, 97, 98, 106, 107, 108, 111, 112, 113, 114, 115] (by decide +kernel) (by decide +kernel)
set_option maxRecDepth 20000 in
theorem gX4_lay_X0_layInRows : GoodIn wsX4_lay (wsV RX4 176 RX0 yX0_layInRows wsX0_layInRows) := goodIn_app (goodIn_of _ (by decide +kernel)) ggX4_lay_X0_layInRows
theorem dX4_lay_0 : decode cX4_lay 0 = .ok (.iload_n 1, 1) := by decide +kernel
theorem dX4_lay_1 : decode cX4_lay 1 = .ok (.iconst 1, 1) := by decide +kernel
theorem dX4_lay_2 : decode cX4_lay 2 = .ok (.if_icmp .lt 29, 3) := by decide +kernel
theorem dX4_lay_5 : decode cX4_lay 5 = .ok (.iload_n 1, 1) := by decide +kernel
theorem dX4_lay_6 : decode cX4_lay 6 = .ok (.bipush 60, 2) := by decide +kernel
theorem dX4_lay_8 : decode cX4_lay 8 = .ok (.if_icmp .gt 23, 3) := by decide +kernel
theorem dX4_lay_11 : decode cX4_lay 11 = .ok (.iload_n 2, 1) := by decide +kernel
theorem dX4_lay_12 : decode cX4_lay 12 = .ok (.iconst 1, 1) := by decide +kernel
theorem dX4_lay_13 : decode cX4_lay 13 = .ok (.if_icmp .lt 18, 3) := by decide +kernel
theorem dX4_lay_16 : decode cX4_lay 16 = .ok (.iload_n 2, 1) := by decide +kernel
theorem dX4_lay_17 : decode cX4_lay 17 = .ok (.bipush 60, 2) := by decide +kernel
theorem dX4_lay_19 : decode cX4_lay 19 = .ok (.if_icmp .gt 12, 3) := by decide +kernel
theorem dX4_lay_22 : decode cX4_lay 22 = .ok (.iload_n 3, 1) := by decide +kernel
theorem dX4_lay_23 : decode cX4_lay 23 = .ok (.ifCond .lt 8, 3) := by decide +kernel
theorem dX4_lay_26 : decode cX4_lay 26 = .ok (.iload_n 3, 1) := by decide +kernel
theorem dX4_lay_27 : decode cX4_lay 27 = .ok (.iconst 5, 1) := by decide +kernel
theorem dX4_lay_28 : decode cX4_lay 28 = .ok (.if_icmp .le 6, 3) := by decide +kernel
theorem dX4_lay_31 : decode cX4_lay 31 = .ok (.bipush (-2), 2) := by decide +kernel
theorem dX4_lay_33 : decode cX4_lay 33 = .ok (.ireturn, 1) := by decide +kernel
theorem dX4_lay_34 : decode cX4_lay 34 = .ok (.aload_n 0, 1) := by decide +kernel
theorem dX4_lay_35 : decode cX4_lay 35 = .ok (.iload_n 1, 1) := by decide +kernel
theorem dX4_lay_36 : decode cX4_lay 36 = .ok (.iload_n 3, 1) := by decide +kernel
theorem dX4_lay_37 : decode cX4_lay 37 = .ok (.isub, 1) := by decide +kernel
theorem dX4_lay_38 : decode cX4_lay 38 = .ok (.iload_n 2, 1) := by decide +kernel
theorem dX4_lay_39 : decode cX4_lay 39 = .ok (.iload_n 3, 1) := by decide +kernel
theorem dX4_lay_40 : decode cX4_lay 40 = .ok (.isub, 1) := by decide +kernel
theorem dX4_lay_41 : decode cX4_lay 41 = .ok (.invokevirtual 163, 3) := by decide +kernel
theorem dX4_lay_44 : decode cX4_lay 44 = .ok (.ifCond .ne 6, 3) := by decide +kernel
theorem dX4_lay_47 : decode cX4_lay 47 = .ok (.bipush (-5), 2) := by decide +kernel
theorem dX4_lay_49 : decode cX4_lay 49 = .ok (.ireturn, 1) := by decide +kernel
theorem dX4_lay_50 : decode cX4_lay 50 = .ok (.aload_n 0, 1) := by decide +kernel
theorem dX4_lay_51 : decode cX4_lay 51 = .ok (.getfield 19, 3) := by decide +kernel
theorem dX4_lay_54 : decode cX4_lay 54 = .ok (.invokevirtual 166, 3) := by decide +kernel
theorem dX4_lay_57 : decode cX4_lay 57 = .ok (.iconst 0, 1) := by decide +kernel
theorem dX4_lay_58 : decode cX4_lay 58 = .ok (.istore 4, 2) := by decide +kernel
theorem dX4_lay_60 : decode cX4_lay 60 = .ok (.iload 4, 2) := by decide +kernel
theorem dX4_lay_62 : decode cX4_lay 62 = .ok (.iconst 2, 1) := by decide +kernel
theorem dX4_lay_63 : decode cX4_lay 63 = .ok (.if_icmp .ge 77, 3) := by decide +kernel
theorem dX4_lay_66 : decode cX4_lay 66 = .ok (.iconst 0, 1) := by decide +kernel
theorem dX4_lay_67 : decode cX4_lay 67 = .ok (.istore 5, 2) := by decide +kernel
theorem dX4_lay_69 : decode cX4_lay 69 = .ok (.iload 5, 2) := by decide +kernel
theorem dX4_lay_71 : decode cX4_lay 71 = .ok (.aload_n 0, 1) := by decide +kernel
theorem dX4_lay_72 : decode cX4_lay 72 = .ok (.getfield 10, 3) := by decide +kernel
theorem dX4_lay_75 : decode cX4_lay 75 = .ok (.iload 4, 2) := by decide +kernel
theorem dX4_lay_77 : decode cX4_lay 77 = .ok (.invokevirtual 96, 3) := by decide +kernel
theorem dX4_lay_80 : decode cX4_lay 80 = .ok (.if_icmp .ge 54, 3) := by decide +kernel
theorem dX4_lay_83 : decode cX4_lay 83 = .ok (.aload_n 0, 1) := by decide +kernel
theorem dX4_lay_84 : decode cX4_lay 84 = .ok (.getfield 10, 3) := by decide +kernel
theorem dX4_lay_87 : decode cX4_lay 87 = .ok (.iload 4, 2) := by decide +kernel
theorem dX4_lay_89 : decode cX4_lay 89 = .ok (.iload 5, 2) := by decide +kernel
theorem dX4_lay_91 : decode cX4_lay 91 = .ok (.invokevirtual 169, 3) := by decide +kernel
theorem dX4_lay_94 : decode cX4_lay 94 = .ok (.lstore 6, 2) := by decide +kernel
theorem dX4_lay_96 : decode cX4_lay 96 = .ok (.lload 6, 2) := by decide +kernel
theorem dX4_lay_98 : decode cX4_lay 98 = .ok (.lconst 0, 1) := by decide +kernel
theorem dX4_lay_99 : decode cX4_lay 99 = .ok (.lcmp, 1) := by decide +kernel
theorem dX4_lay_100 : decode cX4_lay 100 = .ok (.ifCond .eq 28, 3) := by decide +kernel
theorem dX4_lay_103 : decode cX4_lay 103 = .ok (.aload_n 0, 1) := by decide +kernel
theorem dX4_lay_104 : decode cX4_lay 104 = .ok (.getfield 19, 3) := by decide +kernel
theorem dX4_lay_107 : decode cX4_lay 107 = .ok (.iload 4, 2) := by decide +kernel
theorem dX4_lay_109 : decode cX4_lay 109 = .ok (.iload 5, 2) := by decide +kernel
theorem dX4_lay_111 : decode cX4_lay 111 = .ok (.lload 6, 2) := by decide +kernel
theorem dX4_lay_113 : decode cX4_lay 113 = .ok (.invokestatic 129, 3) := by decide +kernel
theorem dX4_lay_116 : decode cX4_lay 116 = .ok (.iload_n 3, 1) := by decide +kernel
theorem dX4_lay_117 : decode cX4_lay 117 = .ok (.iadd, 1) := by decide +kernel
theorem dX4_lay_118 : decode cX4_lay 118 = .ok (.lload 6, 2) := by decide +kernel
theorem dX4_lay_120 : decode cX4_lay 120 = .ok (.invokestatic 132, 3) := by decide +kernel
theorem dX4_lay_123 : decode cX4_lay 123 = .ok (.iload_n 3, 1) := by decide +kernel
theorem dX4_lay_124 : decode cX4_lay 124 = .ok (.iadd, 1) := by decide +kernel
theorem dX4_lay_125 : decode cX4_lay 125 = .ok (.invokevirtual 172, 3) := by decide +kernel
theorem dX4_lay_128 : decode cX4_lay 128 = .ok (.iinc 5 1, 3) := by decide +kernel
theorem dX4_lay_131 : decode cX4_lay 131 = .ok (.goto (-62), 3) := by decide +kernel
theorem dX4_lay_134 : decode cX4_lay 134 = .ok (.iinc 4 1, 3) := by decide +kernel
theorem dX4_lay_137 : decode cX4_lay 137 = .ok (.goto (-77), 3) := by decide +kernel
theorem dX4_lay_140 : decode cX4_lay 140 = .ok (.aload_n 0, 1) := by decide +kernel
theorem dX4_lay_141 : decode cX4_lay 141 = .ok (.getfield 19, 3) := by decide +kernel
theorem dX4_lay_144 : decode cX4_lay 144 = .ok (.iload_n 1, 1) := by decide +kernel
theorem dX4_lay_145 : decode cX4_lay 145 = .ok (.iload_n 2, 1) := by decide +kernel
theorem dX4_lay_146 : decode cX4_lay 146 = .ok (.invokevirtual 176, 3) := by decide +kernel
theorem dX4_lay_149 : decode cX4_lay 149 = .ok (.aload_n 0, 1) := by decide +kernel
theorem dX4_lay_150 : decode cX4_lay 150 = .ok (.getfield 19, 3) := by decide +kernel
theorem dX4_lay_153 : decode cX4_lay 153 = .ok (.getfield 179, 3) := by decide +kernel
theorem dX4_lay_156 : decode cX4_lay 156 = .ok (.ireturn, 1) := by decide +kernel
set_option maxRecDepth 20000 in
theorem ggX4_laid_X0_fact : GoodIn wsX4_laid wsX0_fact := goodIn_r _ [8, 9, 10, 11, 7, 12, 15, 16, 17, 18, 19] (by decide +kernel) (by decide +kernel)
set_option maxRecDepth 20000 in
theorem gX4_laid_X0_fact : GoodIn wsX4_laid (wsV RX4 189 RX0 yX0_fact wsX0_fact) := goodIn_app (goodIn_of _ (by decide +kernel)) ggX4_laid_X0_fact
theorem dX4_laid_0 : decode cX4_laid 0 = .ok (.aload_n 0, 1) := by decide +kernel
theorem dX4_laid_1 : decode cX4_laid 1 = .ok (.getfield 19, 3) := by decide +kernel
theorem dX4_laid_4 : decode cX4_laid 4 = .ok (.getfield 182, 3) := by decide +kernel
theorem dX4_laid_7 : decode cX4_laid 7 = .ok (.ifCond .ne 6, 3) := by decide +kernel
theorem dX4_laid_10 : decode cX4_laid 10 = .ok (.bipush (-3), 2) := by decide +kernel
theorem dX4_laid_12 : decode cX4_laid 12 = .ok (.ireturn, 1) := by decide +kernel
theorem dX4_laid_13 : decode cX4_laid 13 = .ok (.iload_n 2, 1) := by decide +kernel
theorem dX4_laid_14 : decode cX4_laid 14 = .ok (.ifCond .lt 9, 3) := by decide +kernel
theorem dX4_laid_17 : decode cX4_laid 17 = .ok (.iload_n 2, 1) := by decide +kernel
theorem dX4_laid_18 : decode cX4_laid 18 = .ok (.bipush 7, 2) := by decide +kernel
theorem dX4_laid_20 : decode cX4_laid 20 = .ok (.if_icmp .lt 6, 3) := by decide +kernel
theorem dX4_laid_23 : decode cX4_laid 23 = .ok (.bipush (-2), 2) := by decide +kernel
theorem dX4_laid_25 : decode cX4_laid 25 = .ok (.ireturn, 1) := by decide +kernel
theorem dX4_laid_26 : decode cX4_laid 26 = .ok (.iload_n 1, 1) := by decide +kernel
theorem dX4_laid_27 : decode cX4_laid 27 = .ok (.ifCond .lt 14, 3) := by decide +kernel
theorem dX4_laid_30 : decode cX4_laid 30 = .ok (.iload_n 1, 1) := by decide +kernel
theorem dX4_laid_31 : decode cX4_laid 31 = .ok (.aload_n 0, 1) := by decide +kernel
theorem dX4_laid_32 : decode cX4_laid 32 = .ok (.getfield 19, 3) := by decide +kernel
theorem dX4_laid_35 : decode cX4_laid 35 = .ok (.getfield 186, 3) := by decide +kernel
theorem dX4_laid_38 : decode cX4_laid 38 = .ok (.if_icmp .lt 6, 3) := by decide +kernel
theorem dX4_laid_41 : decode cX4_laid 41 = .ok (.bipush (-6), 2) := by decide +kernel
theorem dX4_laid_43 : decode cX4_laid 43 = .ok (.ireturn, 1) := by decide +kernel
theorem dX4_laid_44 : decode cX4_laid 44 = .ok (.aload_n 0, 1) := by decide +kernel
theorem dX4_laid_45 : decode cX4_laid 45 = .ok (.getfield 19, 3) := by decide +kernel
theorem dX4_laid_48 : decode cX4_laid 48 = .ok (.iload_n 1, 1) := by decide +kernel
theorem dX4_laid_49 : decode cX4_laid 49 = .ok (.iload_n 2, 1) := by decide +kernel
theorem dX4_laid_50 : decode cX4_laid 50 = .ok (.invokevirtual 189, 3) := by decide +kernel
theorem dX4_laid_53 : decode cX4_laid 53 = .ok (.ireturn, 1) := by decide +kernel
theorem dX4_least_0 : decode cX4_least 0 = .ok (.aload_n 0, 1) := by decide +kernel
theorem dX4_least_1 : decode cX4_least 1 = .ok (.getfield 19, 3) := by decide +kernel
theorem dX4_least_4 : decode cX4_least 4 = .ok (.getfield 182, 3) := by decide +kernel
theorem dX4_least_7 : decode cX4_least 7 = .ok (.ifCond .eq 13, 3) := by decide +kernel
theorem dX4_least_10 : decode cX4_least 10 = .ok (.aload_n 0, 1) := by decide +kernel
theorem dX4_least_11 : decode cX4_least 11 = .ok (.getfield 19, 3) := by decide +kernel
theorem dX4_least_14 : decode cX4_least 14 = .ok (.getfield 192, 3) := by decide +kernel
theorem dX4_least_17 : decode cX4_least 17 = .ok (.goto 5, 3) := by decide +kernel
theorem dX4_least_20 : decode cX4_least 20 = .ok (.bipush (-3), 2) := by decide +kernel
theorem dX4_least_22 : decode cX4_least 22 = .ok (.ireturn, 1) := by decide +kernel
theorem dX4_isSize_0 : decode cX4_isSize 0 = .ok (.iload_n 0, 1) := by decide +kernel
theorem dX4_isSize_1 : decode cX4_isSize 1 = .ok (.iconst 1, 1) := by decide +kernel
theorem dX4_isSize_2 : decode cX4_isSize 2 = .ok (.if_icmp .lt 13, 3) := by decide +kernel
theorem dX4_isSize_5 : decode cX4_isSize 5 = .ok (.iload_n 0, 1) := by decide +kernel
theorem dX4_isSize_6 : decode cX4_isSize 6 = .ok (.bipush 8, 2) := by decide +kernel
theorem dX4_isSize_8 : decode cX4_isSize 8 = .ok (.if_icmp .gt 7, 3) := by decide +kernel
theorem dX4_isSize_11 : decode cX4_isSize 11 = .ok (.iconst 1, 1) := by decide +kernel
theorem dX4_isSize_12 : decode cX4_isSize 12 = .ok (.goto 4, 3) := by decide +kernel
theorem dX4_isSize_15 : decode cX4_isSize 15 = .ok (.iconst 0, 1) := by decide +kernel
theorem dX4_isSize_16 : decode cX4_isSize 16 = .ok (.ireturn, 1) := by decide +kernel
theorem dX4_isCorner_0 : decode cX4_isCorner 0 = .ok (.iload_n 0, 1) := by decide +kernel
theorem dX4_isCorner_1 : decode cX4_isCorner 1 = .ok (.bipush (-8), 2) := by decide +kernel
theorem dX4_isCorner_3 : decode cX4_isCorner 3 = .ok (.if_icmp .lt 13, 3) := by decide +kernel
theorem dX4_isCorner_6 : decode cX4_isCorner 6 = .ok (.iload_n 0, 1) := by decide +kernel
theorem dX4_isCorner_7 : decode cX4_isCorner 7 = .ok (.bipush 8, 2) := by decide +kernel
theorem dX4_isCorner_9 : decode cX4_isCorner 9 = .ok (.if_icmp .gt 7, 3) := by decide +kernel
theorem dX4_isCorner_12 : decode cX4_isCorner 12 = .ok (.iconst 1, 1) := by decide +kernel
theorem dX4_isCorner_13 : decode cX4_isCorner 13 = .ok (.goto 4, 3) := by decide +kernel
theorem dX4_isCorner_16 : decode cX4_isCorner 16 = .ok (.iconst 0, 1) := by decide +kernel
theorem dX4_isCorner_17 : decode cX4_isCorner 17 = .ok (.ireturn, 1) := by decide +kernel
theorem dX4_asNumber_0 : decode cX4_asNumber 0 = .ok (.iload_n 0, 1) := by decide +kernel
theorem dX4_asNumber_1 : decode cX4_asNumber 1 = .ok (.ifCond .eq 7, 3) := by decide +kernel
theorem dX4_asNumber_4 : decode cX4_asNumber 4 = .ok (.iconst 1, 1) := by decide +kernel
theorem dX4_asNumber_5 : decode cX4_asNumber 5 = .ok (.goto 4, 3) := by decide +kernel
theorem dX4_asNumber_8 : decode cX4_asNumber 8 = .ok (.iconst 0, 1) := by decide +kernel
theorem dX4_asNumber_9 : decode cX4_asNumber 9 = .ok (.ireturn, 1) := by decide +kernel
set_option maxRecDepth 20000 in
theorem ggX4_allFitInto_X3_ribCount : GoodIn wsX4_allFitInto wsX3_ribCount := goodIn_r _ [6, 7, 8, 64, 65, 66, 67, 68, 69, 70] (by decide +kernel) (by decide +kernel)
set_option maxRecDepth 20000 in
theorem gX4_allFitInto_X3_ribCount : GoodIn wsX4_allFitInto (wsV RX4 96 RX3 yX3_ribCount wsX3_ribCount) := goodIn_app (goodIn_of _ (by decide +kernel)) ggX4_allFitInto_X3_ribCount
set_option maxRecDepth 20000 in
theorem ggX4_allFitInto_X3_chosenFigure : GoodIn wsX4_allFitInto wsX3_chosenFigure := goodIn_r _ [12, 13, 14, 15, 5, 16, 17, 18, 19, 20, 21, 22, 23, 24, 25, 26, 27, 28, 29, 30, 31, 3, 4, 6, 7, 8, 32, 33, 34, 35, 36, 37, 38, 39, 40, 41, 42, 43, 44, 45, 46, 47, 48, 64, 65, 66, 67, 68, 69, 70] (by decide +kernel) (by decide +kernel)
set_option maxRecDepth 20000 in
theorem gX4_allFitInto_X3_chosenFigure : GoodIn wsX4_allFitInto (wsV RX4 169 RX3 yX3_chosenFigure wsX3_chosenFigure) := goodIn_app (goodIn_of _ (by decide +kernel)) ggX4_allFitInto_X3_chosenFigure
set_option maxRecDepth 20000 in
theorem ggX4_allFitInto_X2_spanOfU : GoodIn wsX4_allFitInto wsX2_spanOfU := goodIn_r _ [51, 52, 53, 47, 54, 55, 56, 25, 57, 58, 24, 26] (by decide +kernel) (by decide +kernel)
set_option maxRecDepth 20000 in
theorem gX4_allFitInto_X2_spanOfU : GoodIn wsX4_allFitInto (va_wsS RX4 129 yX2_spanOfU wsX2_spanOfU) := goodIn_app (goodIn_of _ (by decide +kernel)) ggX4_allFitInto_X2_spanOfU
set_option maxRecDepth 20000 in
theorem ggX4_allFitInto_X2_spanOfZ : GoodIn wsX4_allFitInto wsX2_spanOfZ := goodIn_r _ [61, 52, 53, 47, 54, 55, 56, 25, 57, 58, 24, 26] (by decide +kernel) (by decide +kernel)
set_option maxRecDepth 20000 in
theorem gX4_allFitInto_X2_spanOfZ : GoodIn wsX4_allFitInto (va_wsS RX4 132 yX2_spanOfZ wsX2_spanOfZ) := goodIn_app (goodIn_of _ (by decide +kernel)) ggX4_allFitInto_X2_spanOfZ
theorem dX4_allFitInto_0 : decode cX4_allFitInto 0 = .ok (.iconst 0, 1) := by decide +kernel
theorem dX4_allFitInto_1 : decode cX4_allFitInto 1 = .ok (.istore_n 3, 1) := by decide +kernel
theorem dX4_allFitInto_2 : decode cX4_allFitInto 2 = .ok (.iload_n 3, 1) := by decide +kernel
theorem dX4_allFitInto_3 : decode cX4_allFitInto 3 = .ok (.iconst 2, 1) := by decide +kernel
theorem dX4_allFitInto_4 : decode cX4_allFitInto 4 = .ok (.if_icmp .ge 70, 3) := by decide +kernel
theorem dX4_allFitInto_7 : decode cX4_allFitInto 7 = .ok (.iconst 0, 1) := by decide +kernel
theorem dX4_allFitInto_8 : decode cX4_allFitInto 8 = .ok (.istore 4, 2) := by decide +kernel
theorem dX4_allFitInto_10 : decode cX4_allFitInto 10 = .ok (.iload 4, 2) := by decide +kernel
theorem dX4_allFitInto_12 : decode cX4_allFitInto 12 = .ok (.aload_n 0, 1) := by decide +kernel
theorem dX4_allFitInto_13 : decode cX4_allFitInto 13 = .ok (.getfield 10, 3) := by decide +kernel
theorem dX4_allFitInto_16 : decode cX4_allFitInto 16 = .ok (.iload_n 3, 1) := by decide +kernel
theorem dX4_allFitInto_17 : decode cX4_allFitInto 17 = .ok (.invokevirtual 96, 3) := by decide +kernel
theorem dX4_allFitInto_20 : decode cX4_allFitInto 20 = .ok (.if_icmp .ge 48, 3) := by decide +kernel
theorem dX4_allFitInto_23 : decode cX4_allFitInto 23 = .ok (.aload_n 0, 1) := by decide +kernel
theorem dX4_allFitInto_24 : decode cX4_allFitInto 24 = .ok (.getfield 10, 3) := by decide +kernel
theorem dX4_allFitInto_27 : decode cX4_allFitInto 27 = .ok (.iload_n 3, 1) := by decide +kernel
theorem dX4_allFitInto_28 : decode cX4_allFitInto 28 = .ok (.iload 4, 2) := by decide +kernel
theorem dX4_allFitInto_30 : decode cX4_allFitInto 30 = .ok (.invokevirtual 169, 3) := by decide +kernel
theorem dX4_allFitInto_33 : decode cX4_allFitInto 33 = .ok (.lstore 5, 2) := by decide +kernel
theorem dX4_allFitInto_35 : decode cX4_allFitInto 35 = .ok (.lload 5, 2) := by decide +kernel
theorem dX4_allFitInto_37 : decode cX4_allFitInto 37 = .ok (.lconst 0, 1) := by decide +kernel
theorem dX4_allFitInto_38 : decode cX4_allFitInto 38 = .ok (.lcmp, 1) := by decide +kernel
theorem dX4_allFitInto_39 : decode cX4_allFitInto 39 = .ok (.ifCond .eq 23, 3) := by decide +kernel
theorem dX4_allFitInto_42 : decode cX4_allFitInto 42 = .ok (.lload 5, 2) := by decide +kernel
theorem dX4_allFitInto_44 : decode cX4_allFitInto 44 = .ok (.invokestatic 129, 3) := by decide +kernel
theorem dX4_allFitInto_47 : decode cX4_allFitInto 47 = .ok (.iload_n 1, 1) := by decide +kernel
theorem dX4_allFitInto_48 : decode cX4_allFitInto 48 = .ok (.if_icmp .gt 12, 3) := by decide +kernel
theorem dX4_allFitInto_51 : decode cX4_allFitInto 51 = .ok (.lload 5, 2) := by decide +kernel
theorem dX4_allFitInto_53 : decode cX4_allFitInto 53 = .ok (.invokestatic 132, 3) := by decide +kernel
theorem dX4_allFitInto_56 : decode cX4_allFitInto 56 = .ok (.iload_n 2, 1) := by decide +kernel
theorem dX4_allFitInto_57 : decode cX4_allFitInto 57 = .ok (.if_icmp .le 5, 3) := by decide +kernel
theorem dX4_allFitInto_60 : decode cX4_allFitInto 60 = .ok (.iconst 0, 1) := by decide +kernel
theorem dX4_allFitInto_61 : decode cX4_allFitInto 61 = .ok (.ireturn, 1) := by decide +kernel
theorem dX4_allFitInto_62 : decode cX4_allFitInto 62 = .ok (.iinc 4 1, 3) := by decide +kernel
theorem dX4_allFitInto_65 : decode cX4_allFitInto 65 = .ok (.goto (-55), 3) := by decide +kernel
theorem dX4_allFitInto_68 : decode cX4_allFitInto 68 = .ok (.iinc 3 1, 3) := by decide +kernel
theorem dX4_allFitInto_71 : decode cX4_allFitInto 71 = .ok (.goto (-69), 3) := by decide +kernel
theorem dX4_allFitInto_74 : decode cX4_allFitInto 74 = .ok (.iconst 1, 1) := by decide +kernel
theorem dX4_allFitInto_75 : decode cX4_allFitInto 75 = .ok (.ireturn, 1) := by decide +kernel
theorem dX5_init_0 : decode cX5_init 0 = .ok (.aload_n 0, 1) := by decide +kernel
theorem dX5_init_1 : decode cX5_init 1 = .ok (.invokespecial 1, 3) := by decide +kernel
theorem dX5_init_4 : decode cX5_init 4 = .ok (.aload_n 0, 1) := by decide +kernel
theorem dX5_init_5 : decode cX5_init 5 = .ok (.iconst 4, 1) := by decide +kernel
theorem dX5_init_6 : decode cX5_init 6 = .ok (.putfield 7, 3) := by decide +kernel
theorem dX5_init_9 : decode cX5_init 9 = .ok (.aload_n 0, 1) := by decide +kernel
theorem dX5_init_10 : decode cX5_init 10 = .ok (.iconst 4, 1) := by decide +kernel
theorem dX5_init_11 : decode cX5_init 11 = .ok (.putfield 13, 3) := by decide +kernel
theorem dX5_init_14 : decode cX5_init 14 = .ok (.aload_n 0, 1) := by decide +kernel
theorem dX5_init_15 : decode cX5_init 15 = .ok (.iconst 4, 1) := by decide +kernel
theorem dX5_init_16 : decode cX5_init 16 = .ok (.putfield 16, 3) := by decide +kernel
theorem dX5_init_19 : decode cX5_init 19 = .ok (.aload_n 0, 1) := by decide +kernel
theorem dX5_init_20 : decode cX5_init 20 = .ok (.sipush 512, 3) := by decide +kernel
theorem dX5_init_23 : decode cX5_init 23 = .ok (.newarray .boolean, 2) := by decide +kernel
theorem dX5_init_25 : decode cX5_init 25 = .ok (.putfield 19, 3) := by decide +kernel
theorem dX5_init_28 : decode cX5_init 28 = .ok (.aload_n 0, 1) := by decide +kernel
theorem dX5_init_29 : decode cX5_init 29 = .ok (.iconst 2, 1) := by decide +kernel
theorem dX5_init_30 : decode cX5_init 30 = .ok (.newarray .int, 2) := by decide +kernel
theorem dX5_init_32 : decode cX5_init 32 = .ok (.putfield 23, 3) := by decide +kernel
theorem dX5_init_35 : decode cX5_init 35 = .ok (.aload_n 0, 1) := by decide +kernel
theorem dX5_init_36 : decode cX5_init 36 = .ok (.iconst 4, 1) := by decide +kernel
theorem dX5_init_37 : decode cX5_init 37 = .ok (.newarray .int, 2) := by decide +kernel
theorem dX5_init_39 : decode cX5_init 39 = .ok (.putfield 27, 3) := by decide +kernel
theorem dX5_init_42 : decode cX5_init 42 = .ok (.aload_n 0, 1) := by decide +kernel
theorem dX5_init_43 : decode cX5_init 43 = .ok (.iconst 4, 1) := by decide +kernel
theorem dX5_init_44 : decode cX5_init 44 = .ok (.newarray .int, 2) := by decide +kernel
theorem dX5_init_46 : decode cX5_init 46 = .ok (.putfield 30, 3) := by decide +kernel
theorem dX5_init_49 : decode cX5_init 49 = .ok (.aload_n 0, 1) := by decide +kernel
theorem dX5_init_50 : decode cX5_init 50 = .ok (.bipush 64, 2) := by decide +kernel
theorem dX5_init_52 : decode cX5_init 52 = .ok (.newarray .int, 2) := by decide +kernel
theorem dX5_init_54 : decode cX5_init 54 = .ok (.putfield 33, 3) := by decide +kernel
theorem dX5_init_57 : decode cX5_init 57 = .ok (.aload_n 0, 1) := by decide +kernel
theorem dX5_init_58 : decode cX5_init 58 = .ok (.bipush 64, 2) := by decide +kernel
theorem dX5_init_60 : decode cX5_init 60 = .ok (.newarray .int, 2) := by decide +kernel
theorem dX5_init_62 : decode cX5_init 62 = .ok (.putfield 36, 3) := by decide +kernel
theorem dX5_init_65 : decode cX5_init 65 = .ok (.aload_n 0, 1) := by decide +kernel
theorem dX5_init_66 : decode cX5_init 66 = .ok (.bipush 64, 2) := by decide +kernel
theorem dX5_init_68 : decode cX5_init 68 = .ok (.newarray .int, 2) := by decide +kernel
theorem dX5_init_70 : decode cX5_init 70 = .ok (.putfield 39, 3) := by decide +kernel
theorem dX5_init_73 : decode cX5_init 73 = .ok (.aload_n 0, 1) := by decide +kernel
theorem dX5_init_74 : decode cX5_init 74 = .ok (.bipush 112, 2) := by decide +kernel
theorem dX5_init_76 : decode cX5_init 76 = .ok (.newarray .int, 2) := by decide +kernel
theorem dX5_init_78 : decode cX5_init 78 = .ok (.putfield 42, 3) := by decide +kernel
theorem dX5_init_81 : decode cX5_init 81 = .ok (.aload_n 0, 1) := by decide +kernel
theorem dX5_init_82 : decode cX5_init 82 = .ok (.bipush 112, 2) := by decide +kernel
theorem dX5_init_84 : decode cX5_init 84 = .ok (.newarray .int, 2) := by decide +kernel
theorem dX5_init_86 : decode cX5_init 86 = .ok (.putfield 45, 3) := by decide +kernel
theorem dX5_init_89 : decode cX5_init 89 = .ok (.return_, 1) := by decide +kernel
theorem dX5_in_0 : decode cX5_in 0 = .ok (.lload_n 0, 1) := by decide +kernel
theorem dX5_in_1 : decode cX5_in 1 = .ok (.lload_n 2, 1) := by decide +kernel
theorem dX5_in_2 : decode cX5_in 2 = .ok (.lcmp, 1) := by decide +kernel
theorem dX5_in_3 : decode cX5_in 3 = .ok (.ifCond .lt 14, 3) := by decide +kernel
theorem dX5_in_6 : decode cX5_in 6 = .ok (.lload_n 0, 1) := by decide +kernel
theorem dX5_in_7 : decode cX5_in 7 = .ok (.lload 4, 2) := by decide +kernel
theorem dX5_in_9 : decode cX5_in 9 = .ok (.lcmp, 1) := by decide +kernel
theorem dX5_in_10 : decode cX5_in 10 = .ok (.ifCond .gt 7, 3) := by decide +kernel
theorem dX5_in_13 : decode cX5_in 13 = .ok (.iconst 1, 1) := by decide +kernel
theorem dX5_in_14 : decode cX5_in 14 = .ok (.goto 4, 3) := by decide +kernel
theorem dX5_in_17 : decode cX5_in 17 = .ok (.iconst 0, 1) := by decide +kernel
theorem dX5_in_18 : decode cX5_in 18 = .ok (.ireturn, 1) := by decide +kernel
theorem dX5_has_0 : decode cX5_has 0 = .ok (.aload_n 0, 1) := by decide +kernel
theorem dX5_has_1 : decode cX5_has 1 = .ok (.getfield 19, 3) := by decide +kernel
theorem dX5_has_4 : decode cX5_has 4 = .ok (.bipush 64, 2) := by decide +kernel
theorem dX5_has_6 : decode cX5_has 6 = .ok (.iload_n 1, 1) := by decide +kernel
theorem dX5_has_7 : decode cX5_has 7 = .ok (.imul, 1) := by decide +kernel
theorem dX5_has_8 : decode cX5_has 8 = .ok (.bipush 8, 2) := by decide +kernel
theorem dX5_has_10 : decode cX5_has 10 = .ok (.iload_n 2, 1) := by decide +kernel
theorem dX5_has_11 : decode cX5_has 11 = .ok (.imul, 1) := by decide +kernel
theorem dX5_has_12 : decode cX5_has 12 = .ok (.iadd, 1) := by decide +kernel
theorem dX5_has_13 : decode cX5_has 13 = .ok (.iload_n 3, 1) := by decide +kernel
theorem dX5_has_14 : decode cX5_has 14 = .ok (.iadd, 1) := by decide +kernel
theorem dX5_has_15 : decode cX5_has 15 = .ok (.baload, 1) := by decide +kernel
theorem dX5_has_16 : decode cX5_has 16 = .ok (.ireturn, 1) := by decide +kernel
set_option maxRecDepth 20000 in
theorem ggX5_isPlace_X5_in : GoodIn wsX5_isPlace wsX5_in := goodIn_r _ [7] (by decide +kernel) (by decide +kernel)
set_option maxRecDepth 20000 in
theorem gX5_isPlace_X5_in : GoodIn wsX5_isPlace (va_wsS RX5 48 yX5_in wsX5_in) := goodIn_app (goodIn_of _ (by decide +kernel)) ggX5_isPlace_X5_in
theorem dX5_isPlace_0 : decode cX5_isPlace 0 = .ok (.iload_n 1, 1) := by decide +kernel
theorem dX5_isPlace_1 : decode cX5_isPlace 1 = .ok (.i2l, 1) := by decide +kernel
theorem dX5_isPlace_2 : decode cX5_isPlace 2 = .ok (.lconst 0, 1) := by decide +kernel
theorem dX5_isPlace_3 : decode cX5_isPlace 3 = .ok (.aload_n 0, 1) := by decide +kernel
theorem dX5_isPlace_4 : decode cX5_isPlace 4 = .ok (.getfield 7, 3) := by decide +kernel
theorem dX5_isPlace_7 : decode cX5_isPlace 7 = .ok (.iconst 1, 1) := by decide +kernel
theorem dX5_isPlace_8 : decode cX5_isPlace 8 = .ok (.isub, 1) := by decide +kernel
theorem dX5_isPlace_9 : decode cX5_isPlace 9 = .ok (.i2l, 1) := by decide +kernel
theorem dX5_isPlace_10 : decode cX5_isPlace 10 = .ok (.invokestatic 48, 3) := by decide +kernel
theorem dX5_isPlace_13 : decode cX5_isPlace 13 = .ok (.ifCond .eq 39, 3) := by decide +kernel
theorem dX5_isPlace_16 : decode cX5_isPlace 16 = .ok (.iload_n 2, 1) := by decide +kernel
theorem dX5_isPlace_17 : decode cX5_isPlace 17 = .ok (.i2l, 1) := by decide +kernel
theorem dX5_isPlace_18 : decode cX5_isPlace 18 = .ok (.lconst 0, 1) := by decide +kernel
theorem dX5_isPlace_19 : decode cX5_isPlace 19 = .ok (.aload_n 0, 1) := by decide +kernel
theorem dX5_isPlace_20 : decode cX5_isPlace 20 = .ok (.getfield 13, 3) := by decide +kernel
theorem dX5_isPlace_23 : decode cX5_isPlace 23 = .ok (.iconst 1, 1) := by decide +kernel
theorem dX5_isPlace_24 : decode cX5_isPlace 24 = .ok (.isub, 1) := by decide +kernel
theorem dX5_isPlace_25 : decode cX5_isPlace 25 = .ok (.i2l, 1) := by decide +kernel
theorem dX5_isPlace_26 : decode cX5_isPlace 26 = .ok (.invokestatic 48, 3) := by decide +kernel
theorem dX5_isPlace_29 : decode cX5_isPlace 29 = .ok (.ifCond .eq 23, 3) := by decide +kernel
theorem dX5_isPlace_32 : decode cX5_isPlace 32 = .ok (.iload_n 3, 1) := by decide +kernel
theorem dX5_isPlace_33 : decode cX5_isPlace 33 = .ok (.i2l, 1) := by decide +kernel
theorem dX5_isPlace_34 : decode cX5_isPlace 34 = .ok (.lconst 0, 1) := by decide +kernel
theorem dX5_isPlace_35 : decode cX5_isPlace 35 = .ok (.aload_n 0, 1) := by decide +kernel
theorem dX5_isPlace_36 : decode cX5_isPlace 36 = .ok (.getfield 16, 3) := by decide +kernel
theorem dX5_isPlace_39 : decode cX5_isPlace 39 = .ok (.iconst 1, 1) := by decide +kernel
theorem dX5_isPlace_40 : decode cX5_isPlace 40 = .ok (.isub, 1) := by decide +kernel
theorem dX5_isPlace_41 : decode cX5_isPlace 41 = .ok (.i2l, 1) := by decide +kernel
theorem dX5_isPlace_42 : decode cX5_isPlace 42 = .ok (.invokestatic 48, 3) := by decide +kernel
theorem dX5_isPlace_45 : decode cX5_isPlace 45 = .ok (.ifCond .eq 7, 3) := by decide +kernel
theorem dX5_isPlace_48 : decode cX5_isPlace 48 = .ok (.iconst 1, 1) := by decide +kernel
theorem dX5_isPlace_49 : decode cX5_isPlace 49 = .ok (.goto 4, 3) := by decide +kernel
theorem dX5_isPlace_52 : decode cX5_isPlace 52 = .ok (.iconst 0, 1) := by decide +kernel
theorem dX5_isPlace_53 : decode cX5_isPlace 53 = .ok (.ireturn, 1) := by decide +kernel
set_option maxRecDepth 20000 in
theorem ggX5_space_X5_in : GoodIn wsX5_space wsX5_in := goodIn_r _ [11] (by decide +kernel) (by decide +kernel)
set_option maxRecDepth 20000 in
theorem gX5_space_X5_in : GoodIn wsX5_space (va_wsS RX5 48 yX5_in wsX5_in) := goodIn_app (goodIn_of _ (by decide +kernel)) ggX5_space_X5_in
theorem dX5_space_0 : decode cX5_space 0 = .ok (.iload_n 1, 1) := by decide +kernel
theorem dX5_space_1 : decode cX5_space 1 = .ok (.i2l, 1) := by decide +kernel
theorem dX5_space_2 : decode cX5_space 2 = .ok (.lconst 1, 1) := by decide +kernel
theorem dX5_space_3 : decode cX5_space 3 = .ok (.ldc2_w 52, 3) := by decide +kernel
theorem dX5_space_6 : decode cX5_space 6 = .ok (.invokestatic 48, 3) := by decide +kernel
theorem dX5_space_9 : decode cX5_space 9 = .ok (.ifCond .eq 27, 3) := by decide +kernel
theorem dX5_space_12 : decode cX5_space 12 = .ok (.iload_n 2, 1) := by decide +kernel
theorem dX5_space_13 : decode cX5_space 13 = .ok (.i2l, 1) := by decide +kernel
theorem dX5_space_14 : decode cX5_space 14 = .ok (.lconst 1, 1) := by decide +kernel
theorem dX5_space_15 : decode cX5_space 15 = .ok (.ldc2_w 52, 3) := by decide +kernel
theorem dX5_space_18 : decode cX5_space 18 = .ok (.invokestatic 48, 3) := by decide +kernel
theorem dX5_space_21 : decode cX5_space 21 = .ok (.ifCond .eq 15, 3) := by decide +kernel
theorem dX5_space_24 : decode cX5_space 24 = .ok (.iload_n 3, 1) := by decide +kernel
theorem dX5_space_25 : decode cX5_space 25 = .ok (.i2l, 1) := by decide +kernel
theorem dX5_space_26 : decode cX5_space 26 = .ok (.lconst 1, 1) := by decide +kernel
theorem dX5_space_27 : decode cX5_space 27 = .ok (.ldc2_w 52, 3) := by decide +kernel
theorem dX5_space_30 : decode cX5_space 30 = .ok (.invokestatic 48, 3) := by decide +kernel
theorem dX5_space_33 : decode cX5_space 33 = .ok (.ifCond .ne 6, 3) := by decide +kernel
theorem dX5_space_36 : decode cX5_space 36 = .ok (.bipush (-2), 2) := by decide +kernel
theorem dX5_space_38 : decode cX5_space 38 = .ok (.ireturn, 1) := by decide +kernel
theorem dX5_space_39 : decode cX5_space 39 = .ok (.aload_n 0, 1) := by decide +kernel
theorem dX5_space_40 : decode cX5_space 40 = .ok (.iload_n 1, 1) := by decide +kernel
theorem dX5_space_41 : decode cX5_space 41 = .ok (.putfield 7, 3) := by decide +kernel
theorem dX5_space_44 : decode cX5_space 44 = .ok (.aload_n 0, 1) := by decide +kernel
theorem dX5_space_45 : decode cX5_space 45 = .ok (.iload_n 2, 1) := by decide +kernel
theorem dX5_space_46 : decode cX5_space 46 = .ok (.putfield 13, 3) := by decide +kernel
theorem dX5_space_49 : decode cX5_space 49 = .ok (.aload_n 0, 1) := by decide +kernel
theorem dX5_space_50 : decode cX5_space 50 = .ok (.iload_n 3, 1) := by decide +kernel
theorem dX5_space_51 : decode cX5_space 51 = .ok (.putfield 16, 3) := by decide +kernel
theorem dX5_space_54 : decode cX5_space 54 = .ok (.iconst 0, 1) := by decide +kernel
theorem dX5_space_55 : decode cX5_space 55 = .ok (.istore 4, 2) := by decide +kernel
theorem dX5_space_57 : decode cX5_space 57 = .ok (.iload 4, 2) := by decide +kernel
theorem dX5_space_59 : decode cX5_space 59 = .ok (.sipush 512, 3) := by decide +kernel
theorem dX5_space_62 : decode cX5_space 62 = .ok (.if_icmp .ge 17, 3) := by decide +kernel
theorem dX5_space_65 : decode cX5_space 65 = .ok (.aload_n 0, 1) := by decide +kernel
theorem dX5_space_66 : decode cX5_space 66 = .ok (.getfield 19, 3) := by decide +kernel
theorem dX5_space_69 : decode cX5_space 69 = .ok (.iload 4, 2) := by decide +kernel
theorem dX5_space_71 : decode cX5_space 71 = .ok (.iconst 0, 1) := by decide +kernel
theorem dX5_space_72 : decode cX5_space 72 = .ok (.bastore, 1) := by decide +kernel
theorem dX5_space_73 : decode cX5_space 73 = .ok (.iinc 4 1, 3) := by decide +kernel
theorem dX5_space_76 : decode cX5_space 76 = .ok (.goto (-19), 3) := by decide +kernel
theorem dX5_space_79 : decode cX5_space 79 = .ok (.aload_n 0, 1) := by decide +kernel
theorem dX5_space_80 : decode cX5_space 80 = .ok (.getfield 23, 3) := by decide +kernel
theorem dX5_space_83 : decode cX5_space 83 = .ok (.iconst 0, 1) := by decide +kernel
theorem dX5_space_84 : decode cX5_space 84 = .ok (.iconst 0, 1) := by decide +kernel
theorem dX5_space_85 : decode cX5_space 85 = .ok (.iastore, 1) := by decide +kernel
theorem dX5_space_86 : decode cX5_space 86 = .ok (.aload_n 0, 1) := by decide +kernel
theorem dX5_space_87 : decode cX5_space 87 = .ok (.getfield 23, 3) := by decide +kernel
theorem dX5_space_90 : decode cX5_space 90 = .ok (.iconst 1, 1) := by decide +kernel
theorem dX5_space_91 : decode cX5_space 91 = .ok (.iconst 0, 1) := by decide +kernel
theorem dX5_space_92 : decode cX5_space 92 = .ok (.iastore, 1) := by decide +kernel
theorem dX5_space_93 : decode cX5_space 93 = .ok (.aload_n 0, 1) := by decide +kernel
theorem dX5_space_94 : decode cX5_space 94 = .ok (.iconst 0, 1) := by decide +kernel
theorem dX5_space_95 : decode cX5_space 95 = .ok (.putfield 54, 3) := by decide +kernel
theorem dX5_space_98 : decode cX5_space 98 = .ok (.iload_n 1, 1) := by decide +kernel
theorem dX5_space_99 : decode cX5_space 99 = .ok (.iload_n 2, 1) := by decide +kernel
theorem dX5_space_100 : decode cX5_space 100 = .ok (.imul, 1) := by decide +kernel
theorem dX5_space_101 : decode cX5_space 101 = .ok (.iload_n 3, 1) := by decide +kernel
theorem dX5_space_102 : decode cX5_space 102 = .ok (.imul, 1) := by decide +kernel
theorem dX5_space_103 : decode cX5_space 103 = .ok (.ireturn, 1) := by decide +kernel
set_option maxRecDepth 20000 in
theorem ggX5_box_X5_in : GoodIn wsX5_box wsX5_in := goodIn_r _ [8] (by decide +kernel) (by decide +kernel)
set_option maxRecDepth 20000 in
theorem gX5_box_X5_in : GoodIn wsX5_box (va_wsS RX5 48 yX5_in wsX5_in) := goodIn_app (goodIn_of _ (by decide +kernel)) ggX5_box_X5_in
set_option maxRecDepth 20000 in
theorem ggX5_box_X5_isPlace : GoodIn wsX5_box wsX5_isPlace := goodIn_r _ [12, 13, 14, 15, 5, 6, 7, 8, 20, 21, 22, 23, 24, 25, 26, 27, 28, 29, 30, 31, 32, 33, 34, 35, 36] (by decide +kernel) (by decide +kernel)
set_option maxRecDepth 20000 in
theorem gX5_box_X5_isPlace : GoodIn wsX5_box (wsV RX5 60 RX5 yX5_isPlace wsX5_isPlace) := goodIn_app (goodIn_of _ (by decide +kernel)) ggX5_box_X5_isPlace
set_option maxRecDepth 20000 in
theorem ggX5_box_X5_has : GoodIn wsX5_box wsX5_has := goodIn_r _ [19, 3, 20, 21, 22, 23, 24, 25, 26, 27, 28, 29, 30, 31, 32, 33, 34, 35, 36] (by decide +kernel) (by decide +kernel)
set_option maxRecDepth 20000 in
theorem gX5_box_X5_has : GoodIn wsX5_box (wsV RX5 64 RX5 yX5_has wsX5_has) := goodIn_app (goodIn_of _ (by decide +kernel)) ggX5_box_X5_has
theorem dX5_box_0 : decode cX5_box 0 = .ok (.iload_n 1, 1) := by decide +kernel
theorem dX5_box_1 : decode cX5_box 1 = .ok (.i2l, 1) := by decide +kernel
theorem dX5_box_2 : decode cX5_box 2 = .ok (.ldc2_w 58, 3) := by decide +kernel
theorem dX5_box_5 : decode cX5_box 5 = .ok (.ldc2_w 52, 3) := by decide +kernel
theorem dX5_box_8 : decode cX5_box 8 = .ok (.invokestatic 48, 3) := by decide +kernel
theorem dX5_box_11 : decode cX5_box 11 = .ok (.ifCond .eq 74, 3) := by decide +kernel
theorem dX5_box_14 : decode cX5_box 14 = .ok (.iload_n 2, 1) := by decide +kernel
theorem dX5_box_15 : decode cX5_box 15 = .ok (.i2l, 1) := by decide +kernel
theorem dX5_box_16 : decode cX5_box 16 = .ok (.ldc2_w 58, 3) := by decide +kernel
theorem dX5_box_19 : decode cX5_box 19 = .ok (.ldc2_w 52, 3) := by decide +kernel
theorem dX5_box_22 : decode cX5_box 22 = .ok (.invokestatic 48, 3) := by decide +kernel
theorem dX5_box_25 : decode cX5_box 25 = .ok (.ifCond .eq 60, 3) := by decide +kernel
theorem dX5_box_28 : decode cX5_box 28 = .ok (.iload_n 3, 1) := by decide +kernel
theorem dX5_box_29 : decode cX5_box 29 = .ok (.i2l, 1) := by decide +kernel
theorem dX5_box_30 : decode cX5_box 30 = .ok (.ldc2_w 58, 3) := by decide +kernel
theorem dX5_box_33 : decode cX5_box 33 = .ok (.ldc2_w 52, 3) := by decide +kernel
theorem dX5_box_36 : decode cX5_box 36 = .ok (.invokestatic 48, 3) := by decide +kernel
theorem dX5_box_39 : decode cX5_box 39 = .ok (.ifCond .eq 46, 3) := by decide +kernel
theorem dX5_box_42 : decode cX5_box 42 = .ok (.iload 4, 2) := by decide +kernel
theorem dX5_box_44 : decode cX5_box 44 = .ok (.i2l, 1) := by decide +kernel
theorem dX5_box_45 : decode cX5_box 45 = .ok (.lconst 1, 1) := by decide +kernel
theorem dX5_box_46 : decode cX5_box 46 = .ok (.ldc2_w 52, 3) := by decide +kernel
theorem dX5_box_49 : decode cX5_box 49 = .ok (.invokestatic 48, 3) := by decide +kernel
theorem dX5_box_52 : decode cX5_box 52 = .ok (.ifCond .eq 33, 3) := by decide +kernel
theorem dX5_box_55 : decode cX5_box 55 = .ok (.iload 5, 2) := by decide +kernel
theorem dX5_box_57 : decode cX5_box 57 = .ok (.i2l, 1) := by decide +kernel
theorem dX5_box_58 : decode cX5_box 58 = .ok (.lconst 1, 1) := by decide +kernel
theorem dX5_box_59 : decode cX5_box 59 = .ok (.ldc2_w 52, 3) := by decide +kernel
theorem dX5_box_62 : decode cX5_box 62 = .ok (.invokestatic 48, 3) := by decide +kernel
theorem dX5_box_65 : decode cX5_box 65 = .ok (.ifCond .eq 20, 3) := by decide +kernel
theorem dX5_box_68 : decode cX5_box 68 = .ok (.iload 6, 2) := by decide +kernel
theorem dX5_box_70 : decode cX5_box 70 = .ok (.i2l, 1) := by decide +kernel
theorem dX5_box_71 : decode cX5_box 71 = .ok (.lconst 1, 1) := by decide +kernel
theorem dX5_box_72 : decode cX5_box 72 = .ok (.ldc2_w 52, 3) := by decide +kernel
theorem dX5_box_75 : decode cX5_box 75 = .ok (.invokestatic 48, 3) := by decide +kernel
theorem dX5_box_78 : decode cX5_box 78 = .ok (.ifCond .eq 7, 3) := by decide +kernel
theorem dX5_box_81 : decode cX5_box 81 = .ok (.iconst 1, 1) := by decide +kernel
theorem dX5_box_82 : decode cX5_box 82 = .ok (.goto 4, 3) := by decide +kernel
theorem dX5_box_85 : decode cX5_box 85 = .ok (.iconst 0, 1) := by decide +kernel
theorem dX5_box_86 : decode cX5_box 86 = .ok (.istore 8, 2) := by decide +kernel
theorem dX5_box_88 : decode cX5_box 88 = .ok (.iload 8, 2) := by decide +kernel
theorem dX5_box_90 : decode cX5_box 90 = .ok (.ifCond .ne 6, 3) := by decide +kernel
theorem dX5_box_93 : decode cX5_box 93 = .ok (.bipush (-2), 2) := by decide +kernel
theorem dX5_box_95 : decode cX5_box 95 = .ok (.ireturn, 1) := by decide +kernel
theorem dX5_box_96 : decode cX5_box 96 = .ok (.iconst 0, 1) := by decide +kernel
theorem dX5_box_97 : decode cX5_box 97 = .ok (.istore 9, 2) := by decide +kernel
theorem dX5_box_99 : decode cX5_box 99 = .ok (.iload_n 1, 1) := by decide +kernel
theorem dX5_box_100 : decode cX5_box 100 = .ok (.istore 10, 2) := by decide +kernel
theorem dX5_box_102 : decode cX5_box 102 = .ok (.iload 10, 2) := by decide +kernel
theorem dX5_box_104 : decode cX5_box 104 = .ok (.iload_n 1, 1) := by decide +kernel
theorem dX5_box_105 : decode cX5_box 105 = .ok (.iload 4, 2) := by decide +kernel
theorem dX5_box_107 : decode cX5_box 107 = .ok (.iadd, 1) := by decide +kernel
theorem dX5_box_108 : decode cX5_box 108 = .ok (.if_icmp .ge 97, 3) := by decide +kernel
theorem dX5_box_111 : decode cX5_box 111 = .ok (.iload_n 2, 1) := by decide +kernel
theorem dX5_box_112 : decode cX5_box 112 = .ok (.istore 11, 2) := by decide +kernel
theorem dX5_box_114 : decode cX5_box 114 = .ok (.iload 11, 2) := by decide +kernel
theorem dX5_box_116 : decode cX5_box 116 = .ok (.iload_n 2, 1) := by decide +kernel
theorem dX5_box_117 : decode cX5_box 117 = .ok (.iload 5, 2) := by decide +kernel
theorem dX5_box_119 : decode cX5_box 119 = .ok (.iadd, 1) := by decide +kernel
theorem dX5_box_120 : decode cX5_box 120 = .ok (.if_icmp .ge 79, 3) := by decide +kernel
theorem dX5_box_123 : decode cX5_box 123 = .ok (.iload_n 3, 1) := by decide +kernel
theorem dX5_box_124 : decode cX5_box 124 = .ok (.istore 12, 2) := by decide +kernel
theorem dX5_box_126 : decode cX5_box 126 = .ok (.iload 12, 2) := by decide +kernel
theorem dX5_box_128 : decode cX5_box 128 = .ok (.iload_n 3, 1) := by decide +kernel
theorem dX5_box_129 : decode cX5_box 129 = .ok (.iload 6, 2) := by decide +kernel
theorem dX5_box_131 : decode cX5_box 131 = .ok (.iadd, 1) := by decide +kernel
theorem dX5_box_132 : decode cX5_box 132 = .ok (.if_icmp .ge 61, 3) := by decide +kernel
theorem dX5_box_135 : decode cX5_box 135 = .ok (.aload_n 0, 1) := by decide +kernel
theorem dX5_box_136 : decode cX5_box 136 = .ok (.iload 10, 2) := by decide +kernel
theorem dX5_box_138 : decode cX5_box 138 = .ok (.iload 11, 2) := by decide +kernel
theorem dX5_box_140 : decode cX5_box 140 = .ok (.iload 12, 2) := by decide +kernel
theorem dX5_box_142 : decode cX5_box 142 = .ok (.invokevirtual 60, 3) := by decide +kernel
theorem dX5_box_145 : decode cX5_box 145 = .ok (.ifCond .eq 42, 3) := by decide +kernel
theorem dX5_box_148 : decode cX5_box 148 = .ok (.aload_n 0, 1) := by decide +kernel
theorem dX5_box_149 : decode cX5_box 149 = .ok (.iload 10, 2) := by decide +kernel
theorem dX5_box_151 : decode cX5_box 151 = .ok (.iload 11, 2) := by decide +kernel
theorem dX5_box_153 : decode cX5_box 153 = .ok (.iload 12, 2) := by decide +kernel
theorem dX5_box_155 : decode cX5_box 155 = .ok (.invokevirtual 64, 3) := by decide +kernel
theorem dX5_box_158 : decode cX5_box 158 = .ok (.iload 7, 2) := by decide +kernel
theorem dX5_box_160 : decode cX5_box 160 = .ok (.if_icmp .eq 27, 3) := by decide +kernel
theorem dX5_box_163 : decode cX5_box 163 = .ok (.aload_n 0, 1) := by decide +kernel
theorem dX5_box_164 : decode cX5_box 164 = .ok (.getfield 19, 3) := by decide +kernel
theorem dX5_box_167 : decode cX5_box 167 = .ok (.bipush 64, 2) := by decide +kernel
theorem dX5_box_169 : decode cX5_box 169 = .ok (.iload 10, 2) := by decide +kernel
theorem dX5_box_171 : decode cX5_box 171 = .ok (.imul, 1) := by decide +kernel
theorem dX5_box_172 : decode cX5_box 172 = .ok (.bipush 8, 2) := by decide +kernel
theorem dX5_box_174 : decode cX5_box 174 = .ok (.iload 11, 2) := by decide +kernel
theorem dX5_box_176 : decode cX5_box 176 = .ok (.imul, 1) := by decide +kernel
theorem dX5_box_177 : decode cX5_box 177 = .ok (.iadd, 1) := by decide +kernel
theorem dX5_box_178 : decode cX5_box 178 = .ok (.iload 12, 2) := by decide +kernel
theorem dX5_box_180 : decode cX5_box 180 = .ok (.iadd, 1) := by decide +kernel
theorem dX5_box_181 : decode cX5_box 181 = .ok (.iload 7, 2) := by decide +kernel
theorem dX5_box_183 : decode cX5_box 183 = .ok (.bastore, 1) := by decide +kernel
theorem dX5_box_184 : decode cX5_box 184 = .ok (.iinc 9 1, 3) := by decide +kernel
theorem dX5_box_187 : decode cX5_box 187 = .ok (.iinc 12 1, 3) := by decide +kernel
theorem dX5_box_190 : decode cX5_box 190 = .ok (.goto (-64), 3) := by decide +kernel
theorem dX5_box_193 : decode cX5_box 193 = .ok (.iinc 11 1, 3) := by decide +kernel
theorem dX5_box_196 : decode cX5_box 196 = .ok (.goto (-82), 3) := by decide +kernel
theorem dX5_box_199 : decode cX5_box 199 = .ok (.iinc 10 1, 3) := by decide +kernel
theorem dX5_box_202 : decode cX5_box 202 = .ok (.goto (-100), 3) := by decide +kernel
theorem dX5_box_205 : decode cX5_box 205 = .ok (.aload_n 0, 1) := by decide +kernel
theorem dX5_box_206 : decode cX5_box 206 = .ok (.iconst 0, 1) := by decide +kernel
theorem dX5_box_207 : decode cX5_box 207 = .ok (.putfield 54, 3) := by decide +kernel
theorem dX5_box_210 : decode cX5_box 210 = .ok (.iload 9, 2) := by decide +kernel
theorem dX5_box_212 : decode cX5_box 212 = .ok (.ireturn, 1) := by decide +kernel
set_option maxRecDepth 20000 in
theorem ggX5_at_X5_isPlace : GoodIn wsX5_at wsX5_isPlace := goodIn_r _ [5, 6, 7, 8, 9, 10, 4, 11, 17, 18, 19, 20, 21, 22, 23, 24, 25, 26, 27, 28, 29, 30, 31, 32, 33] (by decide +kernel) (by decide +kernel)
set_option maxRecDepth 20000 in
theorem gX5_at_X5_isPlace : GoodIn wsX5_at (wsV RX5 60 RX5 yX5_isPlace wsX5_isPlace) := goodIn_app (goodIn_of _ (by decide +kernel)) ggX5_at_X5_isPlace
set_option maxRecDepth 20000 in
theorem ggX5_at_X5_has : GoodIn wsX5_at wsX5_has := goodIn_r _ [15, 16, 17, 18, 19, 20, 21, 22, 23, 24, 25, 26, 27, 28, 29, 30, 31, 32, 33] (by decide +kernel) (by decide +kernel)
set_option maxRecDepth 20000 in
theorem gX5_at_X5_has : GoodIn wsX5_at (wsV RX5 64 RX5 yX5_has wsX5_has) := goodIn_app (goodIn_of _ (by decide +kernel)) ggX5_at_X5_has
theorem dX5_at_0 : decode cX5_at 0 = .ok (.aload_n 0, 1) := by decide +kernel
theorem dX5_at_1 : decode cX5_at 1 = .ok (.iload_n 1, 1) := by decide +kernel
theorem dX5_at_2 : decode cX5_at 2 = .ok (.iload_n 2, 1) := by decide +kernel
theorem dX5_at_3 : decode cX5_at 3 = .ok (.iload_n 3, 1) := by decide +kernel
theorem dX5_at_4 : decode cX5_at 4 = .ok (.invokevirtual 60, 3) := by decide +kernel
theorem dX5_at_7 : decode cX5_at 7 = .ok (.ifCond .ne 7, 3) := by decide +kernel
theorem dX5_at_10 : decode cX5_at 10 = .ok (.iconst (-1), 1) := by decide +kernel
theorem dX5_at_11 : decode cX5_at 11 = .ok (.goto 18, 3) := by decide +kernel
theorem dX5_at_14 : decode cX5_at 14 = .ok (.aload_n 0, 1) := by decide +kernel
theorem dX5_at_15 : decode cX5_at 15 = .ok (.iload_n 1, 1) := by decide +kernel
theorem dX5_at_16 : decode cX5_at 16 = .ok (.iload_n 2, 1) := by decide +kernel
theorem dX5_at_17 : decode cX5_at 17 = .ok (.iload_n 3, 1) := by decide +kernel
theorem dX5_at_18 : decode cX5_at 18 = .ok (.invokevirtual 64, 3) := by decide +kernel
theorem dX5_at_21 : decode cX5_at 21 = .ok (.ifCond .eq 7, 3) := by decide +kernel
theorem dX5_at_24 : decode cX5_at 24 = .ok (.iconst 1, 1) := by decide +kernel
theorem dX5_at_25 : decode cX5_at 25 = .ok (.goto 4, 3) := by decide +kernel
theorem dX5_at_28 : decode cX5_at 28 = .ok (.iconst 0, 1) := by decide +kernel
theorem dX5_at_29 : decode cX5_at 29 = .ok (.ireturn, 1) := by decide +kernel
theorem dX5_places_0 : decode cX5_places 0 = .ok (.iload_n 1, 1) := by decide +kernel
theorem dX5_places_1 : decode cX5_places 1 = .ok (.ifCond .ne 10, 3) := by decide +kernel
theorem dX5_places_4 : decode cX5_places 4 = .ok (.aload_n 0, 1) := by decide +kernel
theorem dX5_places_5 : decode cX5_places 5 = .ok (.getfield 7, 3) := by decide +kernel
theorem dX5_places_8 : decode cX5_places 8 = .ok (.goto 7, 3) := by decide +kernel
theorem dX5_places_11 : decode cX5_places 11 = .ok (.aload_n 0, 1) := by decide +kernel
theorem dX5_places_12 : decode cX5_places 12 = .ok (.getfield 13, 3) := by decide +kernel
theorem dX5_places_15 : decode cX5_places 15 = .ok (.ireturn, 1) := by decide +kernel
set_option maxRecDepth 20000 in
theorem ggX5_isRib_X5_in : GoodIn wsX5_isRib wsX5_in := goodIn_r _ [4] (by decide +kernel) (by decide +kernel)
set_option maxRecDepth 20000 in
theorem gX5_isRib_X5_in : GoodIn wsX5_isRib (va_wsS RX5 48 yX5_in wsX5_in) := goodIn_app (goodIn_of _ (by decide +kernel)) ggX5_isRib_X5_in
set_option maxRecDepth 20000 in
theorem ggX5_isRib_X5_places : GoodIn wsX5_isRib wsX5_places := goodIn_r _ [8, 9, 10, 11, 12, 13, 14, 15, 16, 17, 18, 19, 20, 21, 22, 23, 24, 25, 26, 27] (by decide +kernel) (by decide +kernel)
set_option maxRecDepth 20000 in
theorem gX5_isRib_X5_places : GoodIn wsX5_isRib (wsV RX5 67 RX5 yX5_places wsX5_places) := goodIn_app (goodIn_of _ (by decide +kernel)) ggX5_isRib_X5_places
theorem dX5_isRib_0 : decode cX5_isRib 0 = .ok (.iload_n 1, 1) := by decide +kernel
theorem dX5_isRib_1 : decode cX5_isRib 1 = .ok (.i2l, 1) := by decide +kernel
theorem dX5_isRib_2 : decode cX5_isRib 2 = .ok (.lconst 0, 1) := by decide +kernel
theorem dX5_isRib_3 : decode cX5_isRib 3 = .ok (.lconst 1, 1) := by decide +kernel
theorem dX5_isRib_4 : decode cX5_isRib 4 = .ok (.invokestatic 48, 3) := by decide +kernel
theorem dX5_isRib_7 : decode cX5_isRib 7 = .ok (.ifCond .eq 24, 3) := by decide +kernel
theorem dX5_isRib_10 : decode cX5_isRib 10 = .ok (.iload_n 2, 1) := by decide +kernel
theorem dX5_isRib_11 : decode cX5_isRib 11 = .ok (.i2l, 1) := by decide +kernel
theorem dX5_isRib_12 : decode cX5_isRib 12 = .ok (.lconst 0, 1) := by decide +kernel
theorem dX5_isRib_13 : decode cX5_isRib 13 = .ok (.aload_n 0, 1) := by decide +kernel
theorem dX5_isRib_14 : decode cX5_isRib 14 = .ok (.iload_n 1, 1) := by decide +kernel
theorem dX5_isRib_15 : decode cX5_isRib 15 = .ok (.invokevirtual 67, 3) := by decide +kernel
theorem dX5_isRib_18 : decode cX5_isRib 18 = .ok (.iconst 1, 1) := by decide +kernel
theorem dX5_isRib_19 : decode cX5_isRib 19 = .ok (.isub, 1) := by decide +kernel
theorem dX5_isRib_20 : decode cX5_isRib 20 = .ok (.i2l, 1) := by decide +kernel
theorem dX5_isRib_21 : decode cX5_isRib 21 = .ok (.invokestatic 48, 3) := by decide +kernel
theorem dX5_isRib_24 : decode cX5_isRib 24 = .ok (.ifCond .eq 7, 3) := by decide +kernel
theorem dX5_isRib_27 : decode cX5_isRib 27 = .ok (.iconst 1, 1) := by decide +kernel
theorem dX5_isRib_28 : decode cX5_isRib 28 = .ok (.goto 4, 3) := by decide +kernel
theorem dX5_isRib_31 : decode cX5_isRib 31 = .ok (.iconst 0, 1) := by decide +kernel
theorem dX5_isRib_32 : decode cX5_isRib 32 = .ok (.ireturn, 1) := by decide +kernel
theorem dX5_isChosen_0 : decode cX5_isChosen 0 = .ok (.aload_n 0, 1) := by decide +kernel
theorem dX5_isChosen_1 : decode cX5_isChosen 1 = .ok (.getfield 23, 3) := by decide +kernel
theorem dX5_isChosen_4 : decode cX5_isChosen 4 = .ok (.iload_n 1, 1) := by decide +kernel
theorem dX5_isChosen_5 : decode cX5_isChosen 5 = .ok (.iaload, 1) := by decide +kernel
theorem dX5_isChosen_6 : decode cX5_isChosen 6 = .ok (.iload_n 2, 1) := by decide +kernel
theorem dX5_isChosen_7 : decode cX5_isChosen 7 = .ok (.ishr, 1) := by decide +kernel
theorem dX5_isChosen_8 : decode cX5_isChosen 8 = .ok (.iconst 1, 1) := by decide +kernel
theorem dX5_isChosen_9 : decode cX5_isChosen 9 = .ok (.iand, 1) := by decide +kernel
theorem dX5_isChosen_10 : decode cX5_isChosen 10 = .ok (.iconst 1, 1) := by decide +kernel
theorem dX5_isChosen_11 : decode cX5_isChosen 11 = .ok (.if_icmp .ne 7, 3) := by decide +kernel
theorem dX5_isChosen_14 : decode cX5_isChosen 14 = .ok (.iconst 1, 1) := by decide +kernel
theorem dX5_isChosen_15 : decode cX5_isChosen 15 = .ok (.goto 4, 3) := by decide +kernel
theorem dX5_isChosen_18 : decode cX5_isChosen 18 = .ok (.iconst 0, 1) := by decide +kernel
theorem dX5_isChosen_19 : decode cX5_isChosen 19 = .ok (.ireturn, 1) := by decide +kernel
set_option maxRecDepth 20000 in
theorem ggX5_rib_X5_isRib : GoodIn wsX5_rib wsX5_isRib := goodIn_r _ [7, 8, 9, 6, 10, 11, 12, 13, 14, 15, 16, 21, 22, 23, 24, 25, 26, 27, 28, 29, 30, 31, 32, 33, 34, 35, 36, 37] (by decide +kernel) (by decide +kernel)
set_option maxRecDepth 20000 in
theorem gX5_rib_X5_isRib : GoodIn wsX5_rib (wsV RX5 71 RX5 yX5_isRib wsX5_isRib) := goodIn_app (goodIn_of _ (by decide +kernel)) ggX5_rib_X5_isRib
set_option maxRecDepth 20000 in
theorem ggX5_rib_X5_isChosen : GoodIn wsX5_rib wsX5_isChosen := goodIn_r _ [20, 1, 21, 22, 23, 24, 25, 26, 27, 28, 29, 30, 31, 32, 33, 34, 35, 36, 37] (by decide +kernel) (by decide +kernel)
set_option maxRecDepth 20000 in
theorem gX5_rib_X5_isChosen : GoodIn wsX5_rib (wsV RX5 75 RX5 yX5_isChosen wsX5_isChosen) := goodIn_app (goodIn_of _ (by decide +kernel)) ggX5_rib_X5_isChosen
theorem dX5_rib_0 : decode cX5_rib 0 = .ok (.aload_n 0, 1) := by decide +kernel
theorem dX5_rib_1 : decode cX5_rib 1 = .ok (.iload_n 1, 1) := by decide +kernel
theorem dX5_rib_2 : decode cX5_rib 2 = .ok (.iload_n 2, 1) := by decide +kernel
theorem dX5_rib_3 : decode cX5_rib 3 = .ok (.invokevirtual 71, 3) := by decide +kernel
theorem dX5_rib_6 : decode cX5_rib 6 = .ok (.ifCond .ne 5, 3) := by decide +kernel
theorem dX5_rib_9 : decode cX5_rib 9 = .ok (.iconst (-1), 1) := by decide +kernel
theorem dX5_rib_10 : decode cX5_rib 10 = .ok (.ireturn, 1) := by decide +kernel
theorem dX5_rib_11 : decode cX5_rib 11 = .ok (.aload_n 0, 1) := by decide +kernel
theorem dX5_rib_12 : decode cX5_rib 12 = .ok (.iload_n 1, 1) := by decide +kernel
theorem dX5_rib_13 : decode cX5_rib 13 = .ok (.iload_n 2, 1) := by decide +kernel
theorem dX5_rib_14 : decode cX5_rib 14 = .ok (.invokevirtual 75, 3) := by decide +kernel
theorem dX5_rib_17 : decode cX5_rib 17 = .ok (.ifCond .eq 7, 3) := by decide +kernel
theorem dX5_rib_20 : decode cX5_rib 20 = .ok (.iconst 1, 1) := by decide +kernel
theorem dX5_rib_21 : decode cX5_rib 21 = .ok (.goto 4, 3) := by decide +kernel
theorem dX5_rib_24 : decode cX5_rib 24 = .ok (.iconst 0, 1) := by decide +kernel
theorem dX5_rib_25 : decode cX5_rib 25 = .ok (.istore 4, 2) := by decide +kernel
theorem dX5_rib_27 : decode cX5_rib 27 = .ok (.aload_n 0, 1) := by decide +kernel
theorem dX5_rib_28 : decode cX5_rib 28 = .ok (.getfield 23, 3) := by decide +kernel
theorem dX5_rib_31 : decode cX5_rib 31 = .ok (.iload_n 1, 1) := by decide +kernel
theorem dX5_rib_32 : decode cX5_rib 32 = .ok (.iload_n 3, 1) := by decide +kernel
theorem dX5_rib_33 : decode cX5_rib 33 = .ok (.ifCond .eq 16, 3) := by decide +kernel
theorem dX5_rib_36 : decode cX5_rib 36 = .ok (.aload_n 0, 1) := by decide +kernel
theorem dX5_rib_37 : decode cX5_rib 37 = .ok (.getfield 23, 3) := by decide +kernel
theorem dX5_rib_40 : decode cX5_rib 40 = .ok (.iload_n 1, 1) := by decide +kernel
theorem dX5_rib_41 : decode cX5_rib 41 = .ok (.iaload, 1) := by decide +kernel
theorem dX5_rib_42 : decode cX5_rib 42 = .ok (.iconst 1, 1) := by decide +kernel
theorem dX5_rib_43 : decode cX5_rib 43 = .ok (.iload_n 2, 1) := by decide +kernel
theorem dX5_rib_44 : decode cX5_rib 44 = .ok (.ishl, 1) := by decide +kernel
theorem dX5_rib_45 : decode cX5_rib 45 = .ok (.ior, 1) := by decide +kernel
theorem dX5_rib_46 : decode cX5_rib 46 = .ok (.goto 15, 3) := by decide +kernel
theorem dX5_rib_49 : decode cX5_rib 49 = .ok (.aload_n 0, 1) := by decide +kernel
theorem dX5_rib_50 : decode cX5_rib 50 = .ok (.getfield 23, 3) := by decide +kernel
theorem dX5_rib_53 : decode cX5_rib 53 = .ok (.iload_n 1, 1) := by decide +kernel
theorem dX5_rib_54 : decode cX5_rib 54 = .ok (.iaload, 1) := by decide +kernel
theorem dX5_rib_55 : decode cX5_rib 55 = .ok (.iconst 1, 1) := by decide +kernel
theorem dX5_rib_56 : decode cX5_rib 56 = .ok (.iload_n 2, 1) := by decide +kernel
theorem dX5_rib_57 : decode cX5_rib 57 = .ok (.ishl, 1) := by decide +kernel
theorem dX5_rib_58 : decode cX5_rib 58 = .ok (.iconst (-1), 1) := by decide +kernel
theorem dX5_rib_59 : decode cX5_rib 59 = .ok (.ixor, 1) := by decide +kernel
