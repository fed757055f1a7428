theorem dX0_init_0 : decode cX0_init 0 = .ok (.aload_n 0, 1) := by decide +kernel
theorem dX0_init_1 : decode cX0_init 1 = .ok (.invokespecial 3, 3) := by decide +kernel
theorem dX0_init_4 : decode cX0_init 4 = .ok (.aload_n 0, 1) := by decide +kernel
theorem dX0_init_5 : decode cX0_init 5 = .ok (.iconst 0, 1) := by decide +kernel
theorem dX0_init_6 : decode cX0_init 6 = .ok (.putfield 9, 3) := by decide +kernel
theorem dX0_init_9 : decode cX0_init 9 = .ok (.aload_n 0, 1) := by decide +kernel
theorem dX0_init_10 : decode cX0_init 10 = .ok (.bipush 64, 2) := by decide +kernel
theorem dX0_init_12 : decode cX0_init 12 = .ok (.newarray .int, 2) := by decide +kernel
theorem dX0_init_14 : decode cX0_init 14 = .ok (.putfield 15, 3) := by decide +kernel
theorem dX0_init_17 : decode cX0_init 17 = .ok (.aload_n 0, 1) := by decide +kernel
theorem dX0_init_18 : decode cX0_init 18 = .ok (.bipush 64, 2) := by decide +kernel
theorem dX0_init_20 : decode cX0_init 20 = .ok (.newarray .int, 2) := by decide +kernel
theorem dX0_init_22 : decode cX0_init 22 = .ok (.putfield 19, 3) := by decide +kernel
theorem dX0_init_25 : decode cX0_init 25 = .ok (.aload_n 0, 1) := by decide +kernel
theorem dX0_init_26 : decode cX0_init 26 = .ok (.bipush 64, 2) := by decide +kernel
theorem dX0_init_28 : decode cX0_init 28 = .ok (.newarray .int, 2) := by decide +kernel
theorem dX0_init_30 : decode cX0_init 30 = .ok (.putfield 22, 3) := by decide +kernel
theorem dX0_init_33 : decode cX0_init 33 = .ok (.aload_n 0, 1) := by decide +kernel
theorem dX0_init_34 : decode cX0_init 34 = .ok (.bipush 64, 2) := by decide +kernel
theorem dX0_init_36 : decode cX0_init 36 = .ok (.newarray .int, 2) := by decide +kernel
theorem dX0_init_38 : decode cX0_init 38 = .ok (.putfield 25, 3) := by decide +kernel
theorem dX0_init_41 : decode cX0_init 41 = .ok (.aload_n 0, 1) := by decide +kernel
theorem dX0_init_42 : decode cX0_init 42 = .ok (.bipush 64, 2) := by decide +kernel
theorem dX0_init_44 : decode cX0_init 44 = .ok (.newarray .int, 2) := by decide +kernel
theorem dX0_init_46 : decode cX0_init 46 = .ok (.putfield 28, 3) := by decide +kernel
theorem dX0_init_49 : decode cX0_init 49 = .ok (.aload_n 0, 1) := by decide +kernel
theorem dX0_init_50 : decode cX0_init 50 = .ok (.bipush 64, 2) := by decide +kernel
theorem dX0_init_52 : decode cX0_init 52 = .ok (.newarray .int, 2) := by decide +kernel
theorem dX0_init_54 : decode cX0_init 54 = .ok (.putfield 31, 3) := by decide +kernel
theorem dX0_init_57 : decode cX0_init 57 = .ok (.aload_n 0, 1) := by decide +kernel
theorem dX0_init_58 : decode cX0_init 58 = .ok (.bipush 64, 2) := by decide +kernel
theorem dX0_init_60 : decode cX0_init 60 = .ok (.newarray .boolean, 2) := by decide +kernel
theorem dX0_init_62 : decode cX0_init 62 = .ok (.putfield 34, 3) := by decide +kernel
theorem dX0_init_65 : decode cX0_init 65 = .ok (.aload_n 0, 1) := by decide +kernel
theorem dX0_init_66 : decode cX0_init 66 = .ok (.iconst 0, 1) := by decide +kernel
theorem dX0_init_67 : decode cX0_init 67 = .ok (.putfield 38, 3) := by decide +kernel
theorem dX0_init_70 : decode cX0_init 70 = .ok (.return_, 1) := by decide +kernel
theorem dX0_letterAt_0 : decode cX0_letterAt 0 = .ok (.iload_n 1, 1) := by decide +kernel
theorem dX0_letterAt_1 : decode cX0_letterAt 1 = .ok (.ifCond .lt 20, 3) := by decide +kernel
theorem dX0_letterAt_4 : decode cX0_letterAt 4 = .ok (.iload_n 1, 1) := by decide +kernel
theorem dX0_letterAt_5 : decode cX0_letterAt 5 = .ok (.aload_n 0, 1) := by decide +kernel
theorem dX0_letterAt_6 : decode cX0_letterAt 6 = .ok (.getfield 9, 3) := by decide +kernel
theorem dX0_letterAt_9 : decode cX0_letterAt 9 = .ok (.if_icmp .ge 12, 3) := by decide +kernel
theorem dX0_letterAt_12 : decode cX0_letterAt 12 = .ok (.aload_n 0, 1) := by decide +kernel
theorem dX0_letterAt_13 : decode cX0_letterAt 13 = .ok (.getfield 15, 3) := by decide +kernel
theorem dX0_letterAt_16 : decode cX0_letterAt 16 = .ok (.iload_n 1, 1) := by decide +kernel
theorem dX0_letterAt_17 : decode cX0_letterAt 17 = .ok (.iaload, 1) := by decide +kernel
theorem dX0_letterAt_18 : decode cX0_letterAt 18 = .ok (.goto 5, 3) := by decide +kernel
theorem dX0_letterAt_21 : decode cX0_letterAt 21 = .ok (.bipush (-5), 2) := by decide +kernel
theorem dX0_letterAt_23 : decode cX0_letterAt 23 = .ok (.ireturn, 1) := by decide +kernel
set_option maxRecDepth 20000 in
theorem ggX0_search_X0_meet : GoodIn wsX0_search wsX0_meet := goodIn_r _ [10, 3, 2, 4, 5, 11, 12, 13, 29, 30, 31, 32, 33, 34, 35, 36, 37] (by decide +kernel) (by decide +kernel)
set_option maxRecDepth 20000 in
theorem gX0_search_X0_meet : GoodIn wsX0_search (wsV RX0 41 RX0 yX0_meet wsX0_meet) := goodIn_app (goodIn_of _ (by decide +kernel)) ggX0_search_X0_meet
set_option maxRecDepth 20000 in
theorem ggX0_search_X5_cellOf : GoodIn wsX0_search wsX5_cellOf := goodIn_r _ [16] (by decide +kernel) (by decide +kernel)
set_option maxRecDepth 20000 in
theorem gX0_search_X5_cellOf_n45 : GoodIn wsX0_search (wsX5_cellOf) := ggX0_search_X5_cellOf
set_option maxRecDepth 20000 in
theorem ggX0_search_X0_answersDiffer : GoodIn wsX0_search wsX0_answersDiffer := goodIn_r _ [19, 20, 15, 21] (by decide +kernel) (by decide +kernel)
set_option maxRecDepth 20000 in
theorem gX0_search_X0_answersDiffer : GoodIn wsX0_search (va_wsS RX0 49 yX0_answersDiffer wsX0_answersDiffer) := goodIn_app (goodIn_of _ (by decide +kernel)) ggX0_search_X0_answersDiffer
set_option maxRecDepth 20000 in
theorem ggX0_search_X0_keepWord : GoodIn wsX0_search wsX0_keepWord := goodIn_r _ [25, 11, 1, 26, 13, 12, 29, 30, 31, 32, 33, 34, 35, 36, 37] (by decide +kernel) (by decide +kernel)
set_option maxRecDepth 20000 in
theorem gX0_search_X0_keepWord : GoodIn wsX0_search (wsV RX0 53 RX0 yX0_keepWord wsX0_keepWord) := goodIn_app (goodIn_of _ (by decide +kernel)) ggX0_search_X0_keepWord
set_option maxRecDepth 20000 in
theorem ggX0_search_X5_targetOf : GoodIn wsX0_search wsX5_targetOf := goodIn_r _ [28] (by decide +kernel) (by decide +kernel)
set_option maxRecDepth 20000 in
theorem gX0_search_X5_targetOf_n57 : GoodIn wsX0_search (wsX5_targetOf) := ggX0_search_X5_targetOf
theorem dX0_search_0 : decode cX0_search 0 = .ok (.aload_n 0, 1) := by decide +kernel
theorem dX0_search_1 : decode cX0_search 1 = .ok (.iconst 0, 1) := by decide +kernel
theorem dX0_search_2 : decode cX0_search 2 = .ok (.putfield 9, 3) := by decide +kernel
theorem dX0_search_5 : decode cX0_search 5 = .ok (.aload_n 0, 1) := by decide +kernel
theorem dX0_search_6 : decode cX0_search 6 = .ok (.iconst 0, 1) := by decide +kernel
theorem dX0_search_7 : decode cX0_search 7 = .ok (.putfield 38, 3) := by decide +kernel
theorem dX0_search_10 : decode cX0_search 10 = .ok (.iconst 0, 1) := by decide +kernel
theorem dX0_search_11 : decode cX0_search 11 = .ok (.istore 4, 2) := by decide +kernel
theorem dX0_search_13 : decode cX0_search 13 = .ok (.iload 4, 2) := by decide +kernel
theorem dX0_search_15 : decode cX0_search 15 = .ok (.bipush 64, 2) := by decide +kernel
theorem dX0_search_17 : decode cX0_search 17 = .ok (.if_icmp .ge 17, 3) := by decide +kernel
theorem dX0_search_20 : decode cX0_search 20 = .ok (.aload_n 0, 1) := by decide +kernel
theorem dX0_search_21 : decode cX0_search 21 = .ok (.getfield 34, 3) := by decide +kernel
theorem dX0_search_24 : decode cX0_search 24 = .ok (.iload 4, 2) := by decide +kernel
theorem dX0_search_26 : decode cX0_search 26 = .ok (.iconst 0, 1) := by decide +kernel
theorem dX0_search_27 : decode cX0_search 27 = .ok (.bastore, 1) := by decide +kernel
theorem dX0_search_28 : decode cX0_search 28 = .ok (.iinc 4 1, 3) := by decide +kernel
theorem dX0_search_31 : decode cX0_search 31 = .ok (.goto (-18), 3) := by decide +kernel
theorem dX0_search_34 : decode cX0_search 34 = .ok (.aload_n 0, 1) := by decide +kernel
theorem dX0_search_35 : decode cX0_search 35 = .ok (.iconst 0, 1) := by decide +kernel
theorem dX0_search_36 : decode cX0_search 36 = .ok (.iconst 0, 1) := by decide +kernel
theorem dX0_search_37 : decode cX0_search 37 = .ok (.iconst (-1), 1) := by decide +kernel
theorem dX0_search_38 : decode cX0_search 38 = .ok (.iconst 0, 1) := by decide +kernel
theorem dX0_search_39 : decode cX0_search 39 = .ok (.invokevirtual 41, 3) := by decide +kernel
theorem dX0_search_42 : decode cX0_search 42 = .ok (.iconst 0, 1) := by decide +kernel
theorem dX0_search_43 : decode cX0_search 43 = .ok (.istore 4, 2) := by decide +kernel
theorem dX0_search_45 : decode cX0_search 45 = .ok (.iload 4, 2) := by decide +kernel
theorem dX0_search_47 : decode cX0_search 47 = .ok (.aload_n 0, 1) := by decide +kernel
theorem dX0_search_48 : decode cX0_search 48 = .ok (.getfield 38, 3) := by decide +kernel
theorem dX0_search_51 : decode cX0_search 51 = .ok (.if_icmp .ge 106, 3) := by decide +kernel
theorem dX0_search_54 : decode cX0_search 54 = .ok (.iload 4, 2) := by decide +kernel
theorem dX0_search_56 : decode cX0_search 56 = .ok (.bipush 64, 2) := by decide +kernel
theorem dX0_search_58 : decode cX0_search 58 = .ok (.if_icmp .ge 99, 3) := by decide +kernel
theorem dX0_search_61 : decode cX0_search 61 = .ok (.iconst 0, 1) := by decide +kernel
theorem dX0_search_62 : decode cX0_search 62 = .ok (.istore 5, 2) := by decide +kernel
theorem dX0_search_64 : decode cX0_search 64 = .ok (.iload 5, 2) := by decide +kernel
theorem dX0_search_66 : decode cX0_search 66 = .ok (.iload_n 3, 1) := by decide +kernel
theorem dX0_search_67 : decode cX0_search 67 = .ok (.if_icmp .ge 84, 3) := by decide +kernel
theorem dX0_search_70 : decode cX0_search 70 = .ok (.aload_n 1, 1) := by decide +kernel
theorem dX0_search_71 : decode cX0_search 71 = .ok (.aload_n 0, 1) := by decide +kernel
theorem dX0_search_72 : decode cX0_search 72 = .ok (.getfield 19, 3) := by decide +kernel
theorem dX0_search_75 : decode cX0_search 75 = .ok (.iload 4, 2) := by decide +kernel
theorem dX0_search_77 : decode cX0_search 77 = .ok (.iaload, 1) := by decide +kernel
theorem dX0_search_78 : decode cX0_search 78 = .ok (.iload 5, 2) := by decide +kernel
theorem dX0_search_80 : decode cX0_search 80 = .ok (.invokestatic 45, 3) := by decide +kernel
theorem dX0_search_83 : decode cX0_search 83 = .ok (.iaload, 1) := by decide +kernel
theorem dX0_search_84 : decode cX0_search 84 = .ok (.istore 6, 2) := by decide +kernel
theorem dX0_search_86 : decode cX0_search 86 = .ok (.aload_n 2, 1) := by decide +kernel
theorem dX0_search_87 : decode cX0_search 87 = .ok (.aload_n 0, 1) := by decide +kernel
theorem dX0_search_88 : decode cX0_search 88 = .ok (.getfield 22, 3) := by decide +kernel
theorem dX0_search_91 : decode cX0_search 91 = .ok (.iload 4, 2) := by decide +kernel
theorem dX0_search_93 : decode cX0_search 93 = .ok (.iaload, 1) := by decide +kernel
theorem dX0_search_94 : decode cX0_search 94 = .ok (.iload 5, 2) := by decide +kernel
theorem dX0_search_96 : decode cX0_search 96 = .ok (.invokestatic 45, 3) := by decide +kernel
theorem dX0_search_99 : decode cX0_search 99 = .ok (.iaload, 1) := by decide +kernel
theorem dX0_search_100 : decode cX0_search 100 = .ok (.istore 7, 2) := by decide +kernel
theorem dX0_search_102 : decode cX0_search 102 = .ok (.iload 6, 2) := by decide +kernel
theorem dX0_search_104 : decode cX0_search 104 = .ok (.iload 7, 2) := by decide +kernel
theorem dX0_search_106 : decode cX0_search 106 = .ok (.invokestatic 49, 3) := by decide +kernel
theorem dX0_search_109 : decode cX0_search 109 = .ok (.ifCond .eq 12, 3) := by decide +kernel
theorem dX0_search_112 : decode cX0_search 112 = .ok (.aload_n 0, 1) := by decide +kernel
theorem dX0_search_113 : decode cX0_search 113 = .ok (.iload 4, 2) := by decide +kernel
theorem dX0_search_115 : decode cX0_search 115 = .ok (.iload 5, 2) := by decide +kernel
theorem dX0_search_117 : decode cX0_search 117 = .ok (.invokevirtual 53, 3) := by decide +kernel
theorem dX0_search_120 : decode cX0_search 120 = .ok (.return_, 1) := by decide +kernel
theorem dX0_search_121 : decode cX0_search 121 = .ok (.iload 6, 2) := by decide +kernel
theorem dX0_search_123 : decode cX0_search 123 = .ok (.iconst (-1), 1) := by decide +kernel
theorem dX0_search_124 : decode cX0_search 124 = .ok (.if_icmp .eq 21, 3) := by decide +kernel
theorem dX0_search_127 : decode cX0_search 127 = .ok (.aload_n 0, 1) := by decide +kernel
theorem dX0_search_128 : decode cX0_search 128 = .ok (.iload 6, 2) := by decide +kernel
theorem dX0_search_130 : decode cX0_search 130 = .ok (.invokestatic 57, 3) := by decide +kernel
theorem dX0_search_133 : decode cX0_search 133 = .ok (.iload 7, 2) := by decide +kernel
theorem dX0_search_135 : decode cX0_search 135 = .ok (.invokestatic 57, 3) := by decide +kernel
theorem dX0_search_138 : decode cX0_search 138 = .ok (.iload 4, 2) := by decide +kernel
theorem dX0_search_140 : decode cX0_search 140 = .ok (.iload 5, 2) := by decide +kernel
theorem dX0_search_142 : decode cX0_search 142 = .ok (.invokevirtual 41, 3) := by decide +kernel
theorem dX0_search_145 : decode cX0_search 145 = .ok (.iinc 5 1, 3) := by decide +kernel
theorem dX0_search_148 : decode cX0_search 148 = .ok (.goto (-84), 3) := by decide +kernel
theorem dX0_search_151 : decode cX0_search 151 = .ok (.iinc 4 1, 3) := by decide +kernel
theorem dX0_search_154 : decode cX0_search 154 = .ok (.goto (-109), 3) := by decide +kernel
theorem dX0_search_157 : decode cX0_search 157 = .ok (.return_, 1) := by decide +kernel
set_option maxRecDepth 20000 in
theorem ggX0_answersDiffer_X5_outputOf : GoodIn wsX0_answersDiffer wsX5_outputOf := goodIn_r _ [3] (by decide +kernel) (by decide +kernel)
set_option maxRecDepth 20000 in
theorem gX0_answersDiffer_X5_outputOf_n61 : GoodIn wsX0_answersDiffer (wsX5_outputOf) := ggX0_answersDiffer_X5_outputOf
theorem dX0_answersDiffer_0 : decode cX0_answersDiffer 0 = .ok (.iload_n 0, 1) := by decide +kernel
theorem dX0_answersDiffer_1 : decode cX0_answersDiffer 1 = .ok (.iconst (-1), 1) := by decide +kernel
theorem dX0_answersDiffer_2 : decode cX0_answersDiffer 2 = .ok (.if_icmp .eq 8, 3) := by decide +kernel
theorem dX0_answersDiffer_5 : decode cX0_answersDiffer 5 = .ok (.iload_n 1, 1) := by decide +kernel
theorem dX0_answersDiffer_6 : decode cX0_answersDiffer 6 = .ok (.iconst (-1), 1) := by decide +kernel
theorem dX0_answersDiffer_7 : decode cX0_answersDiffer 7 = .ok (.if_icmp .ne 14, 3) := by decide +kernel
theorem dX0_answersDiffer_10 : decode cX0_answersDiffer 10 = .ok (.iload_n 0, 1) := by decide +kernel
theorem dX0_answersDiffer_11 : decode cX0_answersDiffer 11 = .ok (.iload_n 1, 1) := by decide +kernel
theorem dX0_answersDiffer_12 : decode cX0_answersDiffer 12 = .ok (.if_icmp .eq 7, 3) := by decide +kernel
theorem dX0_answersDiffer_15 : decode cX0_answersDiffer 15 = .ok (.iconst 1, 1) := by decide +kernel
theorem dX0_answersDiffer_16 : decode cX0_answersDiffer 16 = .ok (.goto 4, 3) := by decide +kernel
theorem dX0_answersDiffer_19 : decode cX0_answersDiffer 19 = .ok (.iconst 0, 1) := by decide +kernel
theorem dX0_answersDiffer_20 : decode cX0_answersDiffer 20 = .ok (.ireturn, 1) := by decide +kernel
theorem dX0_answersDiffer_21 : decode cX0_answersDiffer 21 = .ok (.iload_n 0, 1) := by decide +kernel
theorem dX0_answersDiffer_22 : decode cX0_answersDiffer 22 = .ok (.invokestatic 61, 3) := by decide +kernel
theorem dX0_answersDiffer_25 : decode cX0_answersDiffer 25 = .ok (.iload_n 1, 1) := by decide +kernel
theorem dX0_answersDiffer_26 : decode cX0_answersDiffer 26 = .ok (.invokestatic 61, 3) := by decide +kernel
theorem dX0_answersDiffer_29 : decode cX0_answersDiffer 29 = .ok (.if_icmp .eq 7, 3) := by decide +kernel
theorem dX0_answersDiffer_32 : decode cX0_answersDiffer 32 = .ok (.iconst 1, 1) := by decide +kernel
theorem dX0_answersDiffer_33 : decode cX0_answersDiffer 33 = .ok (.goto 4, 3) := by decide +kernel
theorem dX0_answersDiffer_36 : decode cX0_answersDiffer 36 = .ok (.iconst 0, 1) := by decide +kernel
theorem dX0_answersDiffer_37 : decode cX0_answersDiffer 37 = .ok (.ireturn, 1) := by decide +kernel
theorem dX0_meet_0 : decode cX0_meet 0 = .ok (.iload_n 1, 1) := by decide +kernel
theorem dX0_meet_1 : decode cX0_meet 1 = .ok (.bipush 8, 2) := by decide +kernel
theorem dX0_meet_3 : decode cX0_meet 3 = .ok (.imul, 1) := by decide +kernel
theorem dX0_meet_4 : decode cX0_meet 4 = .ok (.iload_n 2, 1) := by decide +kernel
theorem dX0_meet_5 : decode cX0_meet 5 = .ok (.iadd, 1) := by decide +kernel
theorem dX0_meet_6 : decode cX0_meet 6 = .ok (.istore 5, 2) := by decide +kernel
theorem dX0_meet_8 : decode cX0_meet 8 = .ok (.aload_n 0, 1) := by decide +kernel
theorem dX0_meet_9 : decode cX0_meet 9 = .ok (.getfield 34, 3) := by decide +kernel
theorem dX0_meet_12 : decode cX0_meet 12 = .ok (.iload 5, 2) := by decide +kernel
theorem dX0_meet_14 : decode cX0_meet 14 = .ok (.baload, 1) := by decide +kernel
theorem dX0_meet_15 : decode cX0_meet 15 = .ok (.ifCond .ne 12, 3) := by decide +kernel
theorem dX0_meet_18 : decode cX0_meet 18 = .ok (.aload_n 0, 1) := by decide +kernel
theorem dX0_meet_19 : decode cX0_meet 19 = .ok (.getfield 38, 3) := by decide +kernel
theorem dX0_meet_22 : decode cX0_meet 22 = .ok (.bipush 64, 2) := by decide +kernel
theorem dX0_meet_24 : decode cX0_meet 24 = .ok (.if_icmp .lt 4, 3) := by decide +kernel
theorem dX0_meet_27 : decode cX0_meet 27 = .ok (.return_, 1) := by decide +kernel
theorem dX0_meet_28 : decode cX0_meet 28 = .ok (.aload_n 0, 1) := by decide +kernel
theorem dX0_meet_29 : decode cX0_meet 29 = .ok (.getfield 34, 3) := by decide +kernel
theorem dX0_meet_32 : decode cX0_meet 32 = .ok (.iload 5, 2) := by decide +kernel
theorem dX0_meet_34 : decode cX0_meet 34 = .ok (.iconst 1, 1) := by decide +kernel
theorem dX0_meet_35 : decode cX0_meet 35 = .ok (.bastore, 1) := by decide +kernel
theorem dX0_meet_36 : decode cX0_meet 36 = .ok (.aload_n 0, 1) := by decide +kernel
theorem dX0_meet_37 : decode cX0_meet 37 = .ok (.getfield 19, 3) := by decide +kernel
theorem dX0_meet_40 : decode cX0_meet 40 = .ok (.aload_n 0, 1) := by decide +kernel
theorem dX0_meet_41 : decode cX0_meet 41 = .ok (.getfield 38, 3) := by decide +kernel
theorem dX0_meet_44 : decode cX0_meet 44 = .ok (.iload_n 1, 1) := by decide +kernel
theorem dX0_meet_45 : decode cX0_meet 45 = .ok (.iastore, 1) := by decide +kernel
theorem dX0_meet_46 : decode cX0_meet 46 = .ok (.aload_n 0, 1) := by decide +kernel
theorem dX0_meet_47 : decode cX0_meet 47 = .ok (.getfield 22, 3) := by decide +kernel
theorem dX0_meet_50 : decode cX0_meet 50 = .ok (.aload_n 0, 1) := by decide +kernel
theorem dX0_meet_51 : decode cX0_meet 51 = .ok (.getfield 38, 3) := by decide +kernel
theorem dX0_meet_54 : decode cX0_meet 54 = .ok (.iload_n 2, 1) := by decide +kernel
theorem dX0_meet_55 : decode cX0_meet 55 = .ok (.iastore, 1) := by decide +kernel
theorem dX0_meet_56 : decode cX0_meet 56 = .ok (.aload_n 0, 1) := by decide +kernel
theorem dX0_meet_57 : decode cX0_meet 57 = .ok (.getfield 25, 3) := by decide +kernel
theorem dX0_meet_60 : decode cX0_meet 60 = .ok (.aload_n 0, 1) := by decide +kernel
theorem dX0_meet_61 : decode cX0_meet 61 = .ok (.getfield 38, 3) := by decide +kernel
theorem dX0_meet_64 : decode cX0_meet 64 = .ok (.iload_n 3, 1) := by decide +kernel
theorem dX0_meet_65 : decode cX0_meet 65 = .ok (.ifCond .ge 7, 3) := by decide +kernel
theorem dX0_meet_68 : decode cX0_meet 68 = .ok (.iconst 0, 1) := by decide +kernel
theorem dX0_meet_69 : decode cX0_meet 69 = .ok (.goto 11, 3) := by decide +kernel
theorem dX0_meet_72 : decode cX0_meet 72 = .ok (.aload_n 0, 1) := by decide +kernel
theorem dX0_meet_73 : decode cX0_meet 73 = .ok (.getfield 25, 3) := by decide +kernel
theorem dX0_meet_76 : decode cX0_meet 76 = .ok (.iload_n 3, 1) := by decide +kernel
theorem dX0_meet_77 : decode cX0_meet 77 = .ok (.iaload, 1) := by decide +kernel
theorem dX0_meet_78 : decode cX0_meet 78 = .ok (.iconst 1, 1) := by decide +kernel
theorem dX0_meet_79 : decode cX0_meet 79 = .ok (.iadd, 1) := by decide +kernel
theorem dX0_meet_80 : decode cX0_meet 80 = .ok (.iastore, 1) := by decide +kernel
theorem dX0_meet_81 : decode cX0_meet 81 = .ok (.aload_n 0, 1) := by decide +kernel
theorem dX0_meet_82 : decode cX0_meet 82 = .ok (.getfield 28, 3) := by decide +kernel
theorem dX0_meet_85 : decode cX0_meet 85 = .ok (.aload_n 0, 1) := by decide +kernel
theorem dX0_meet_86 : decode cX0_meet 86 = .ok (.getfield 38, 3) := by decide +kernel
theorem dX0_meet_89 : decode cX0_meet 89 = .ok (.iload_n 3, 1) := by decide +kernel
theorem dX0_meet_90 : decode cX0_meet 90 = .ok (.iastore, 1) := by decide +kernel
theorem dX0_meet_91 : decode cX0_meet 91 = .ok (.aload_n 0, 1) := by decide +kernel
theorem dX0_meet_92 : decode cX0_meet 92 = .ok (.getfield 31, 3) := by decide +kernel
theorem dX0_meet_95 : decode cX0_meet 95 = .ok (.aload_n 0, 1) := by decide +kernel
theorem dX0_meet_96 : decode cX0_meet 96 = .ok (.getfield 38, 3) := by decide +kernel
theorem dX0_meet_99 : decode cX0_meet 99 = .ok (.iload 4, 2) := by decide +kernel
theorem dX0_meet_101 : decode cX0_meet 101 = .ok (.iastore, 1) := by decide +kernel
theorem dX0_meet_102 : decode cX0_meet 102 = .ok (.aload_n 0, 1) := by decide +kernel
theorem dX0_meet_103 : decode cX0_meet 103 = .ok (.dup, 1) := by decide +kernel
theorem dX0_meet_104 : decode cX0_meet 104 = .ok (.getfield 38, 3) := by decide +kernel
theorem dX0_meet_107 : decode cX0_meet 107 = .ok (.iconst 1, 1) := by decide +kernel
theorem dX0_meet_108 : decode cX0_meet 108 = .ok (.iadd, 1) := by decide +kernel
theorem dX0_meet_109 : decode cX0_meet 109 = .ok (.putfield 38, 3) := by decide +kernel
theorem dX0_meet_112 : decode cX0_meet 112 = .ok (.return_, 1) := by decide +kernel
theorem dX0_keepWord_0 : decode cX0_keepWord 0 = .ok (.aload_n 0, 1) := by decide +kernel
theorem dX0_keepWord_1 : decode cX0_keepWord 1 = .ok (.getfield 25, 3) := by decide +kernel
theorem dX0_keepWord_4 : decode cX0_keepWord 4 = .ok (.iload_n 1, 1) := by decide +kernel
theorem dX0_keepWord_5 : decode cX0_keepWord 5 = .ok (.iaload, 1) := by decide +kernel
theorem dX0_keepWord_6 : decode cX0_keepWord 6 = .ok (.istore_n 3, 1) := by decide +kernel
theorem dX0_keepWord_7 : decode cX0_keepWord 7 = .ok (.aload_n 0, 1) := by decide +kernel
theorem dX0_keepWord_8 : decode cX0_keepWord 8 = .ok (.iload_n 3, 1) := by decide +kernel
theorem dX0_keepWord_9 : decode cX0_keepWord 9 = .ok (.iconst 1, 1) := by decide +kernel
theorem dX0_keepWord_10 : decode cX0_keepWord 10 = .ok (.iadd, 1) := by decide +kernel
theorem dX0_keepWord_11 : decode cX0_keepWord 11 = .ok (.putfield 9, 3) := by decide +kernel
theorem dX0_keepWord_14 : decode cX0_keepWord 14 = .ok (.aload_n 0, 1) := by decide +kernel
theorem dX0_keepWord_15 : decode cX0_keepWord 15 = .ok (.getfield 15, 3) := by decide +kernel
theorem dX0_keepWord_18 : decode cX0_keepWord 18 = .ok (.iload_n 3, 1) := by decide +kernel
theorem dX0_keepWord_19 : decode cX0_keepWord 19 = .ok (.iload_n 2, 1) := by decide +kernel
theorem dX0_keepWord_20 : decode cX0_keepWord 20 = .ok (.iastore, 1) := by decide +kernel
theorem dX0_keepWord_21 : decode cX0_keepWord 21 = .ok (.iload_n 1, 1) := by decide +kernel
theorem dX0_keepWord_22 : decode cX0_keepWord 22 = .ok (.istore 4, 2) := by decide +kernel
theorem dX0_keepWord_24 : decode cX0_keepWord 24 = .ok (.iload_n 3, 1) := by decide +kernel
theorem dX0_keepWord_25 : decode cX0_keepWord 25 = .ok (.iconst 1, 1) := by decide +kernel
theorem dX0_keepWord_26 : decode cX0_keepWord 26 = .ok (.isub, 1) := by decide +kernel
theorem dX0_keepWord_27 : decode cX0_keepWord 27 = .ok (.istore 5, 2) := by decide +kernel
theorem dX0_keepWord_29 : decode cX0_keepWord 29 = .ok (.iload 5, 2) := by decide +kernel
theorem dX0_keepWord_31 : decode cX0_keepWord 31 = .ok (.ifCond .lt 32, 3) := by decide +kernel
theorem dX0_keepWord_34 : decode cX0_keepWord 34 = .ok (.aload_n 0, 1) := by decide +kernel
theorem dX0_keepWord_35 : decode cX0_keepWord 35 = .ok (.getfield 15, 3) := by decide +kernel
theorem dX0_keepWord_38 : decode cX0_keepWord 38 = .ok (.iload 5, 2) := by decide +kernel
theorem dX0_keepWord_40 : decode cX0_keepWord 40 = .ok (.aload_n 0, 1) := by decide +kernel
theorem dX0_keepWord_41 : decode cX0_keepWord 41 = .ok (.getfield 31, 3) := by decide +kernel
theorem dX0_keepWord_44 : decode cX0_keepWord 44 = .ok (.iload 4, 2) := by decide +kernel
theorem dX0_keepWord_46 : decode cX0_keepWord 46 = .ok (.iaload, 1) := by decide +kernel
theorem dX0_keepWord_47 : decode cX0_keepWord 47 = .ok (.iastore, 1) := by decide +kernel
theorem dX0_keepWord_48 : decode cX0_keepWord 48 = .ok (.aload_n 0, 1) := by decide +kernel
theorem dX0_keepWord_49 : decode cX0_keepWord 49 = .ok (.getfield 28, 3) := by decide +kernel
theorem dX0_keepWord_52 : decode cX0_keepWord 52 = .ok (.iload 4, 2) := by decide +kernel
theorem dX0_keepWord_54 : decode cX0_keepWord 54 = .ok (.iaload, 1) := by decide +kernel
theorem dX0_keepWord_55 : decode cX0_keepWord 55 = .ok (.istore 4, 2) := by decide +kernel
theorem dX0_keepWord_57 : decode cX0_keepWord 57 = .ok (.iinc 5 (-1), 3) := by decide +kernel
theorem dX0_keepWord_60 : decode cX0_keepWord 60 = .ok (.goto (-31), 3) := by decide +kernel
theorem dX0_keepWord_63 : decode cX0_keepWord 63 = .ok (.return_, 1) := by decide +kernel
set_option maxRecDepth 20000 in
theorem ggX1_init_X3_init : GoodIn wsX1_init wsX3_init := goodIn_r _ [18, 19, 2, 3, 8, 20, 13, 21, 22, 23, 24, 25, 26, 27, 28, 29, 30, 31] (by decide +kernel) (by decide +kernel)
set_option maxRecDepth 20000 in
theorem gX1_init_X3_init_n11 : GoodIn wsX1_init (wsX3_init) := ggX1_init_X3_init
theorem dX1_init_0 : decode cX1_init 0 = .ok (.aload_n 0, 1) := by decide +kernel
theorem dX1_init_1 : decode cX1_init 1 = .ok (.invokespecial 3, 3) := by decide +kernel
theorem dX1_init_4 : decode cX1_init 4 = .ok (.aload_n 0, 1) := by decide +kernel
theorem dX1_init_5 : decode cX1_init 5 = .ok (.new 9, 3) := by decide +kernel
theorem dX1_init_8 : decode cX1_init 8 = .ok (.dup, 1) := by decide +kernel
theorem dX1_init_9 : decode cX1_init 9 = .ok (.invokespecial 11, 3) := by decide +kernel
theorem dX1_init_12 : decode cX1_init 12 = .ok (.putfield 12, 3) := by decide +kernel
theorem dX1_init_15 : decode cX1_init 15 = .ok (.aload_n 0, 1) := by decide +kernel
theorem dX1_init_16 : decode cX1_init 16 = .ok (.sipush 2880, 3) := by decide +kernel
theorem dX1_init_19 : decode cX1_init 19 = .ok (.newarray .long, 2) := by decide +kernel
theorem dX1_init_21 : decode cX1_init 21 = .ok (.putfield 18, 3) := by decide +kernel
theorem dX1_init_24 : decode cX1_init 24 = .ok (.aload_n 0, 1) := by decide +kernel
theorem dX1_init_25 : decode cX1_init 25 = .ok (.iconst 0, 1) := by decide +kernel
theorem dX1_init_26 : decode cX1_init 26 = .ok (.putfield 22, 3) := by decide +kernel
theorem dX1_init_29 : decode cX1_init 29 = .ok (.aload_n 0, 1) := by decide +kernel
theorem dX1_init_30 : decode cX1_init 30 = .ok (.iconst 0, 1) := by decide +kernel
theorem dX1_init_31 : decode cX1_init 31 = .ok (.putfield 26, 3) := by decide +kernel
theorem dX1_init_34 : decode cX1_init 34 = .ok (.aload_n 0, 1) := by decide +kernel
theorem dX1_init_35 : decode cX1_init 35 = .ok (.bipush 7, 2) := by decide +kernel
theorem dX1_init_37 : decode cX1_init 37 = .ok (.bipush 32, 2) := by decide +kernel
theorem dX1_init_39 : decode cX1_init 39 = .ok (.multianewarray 29 2, 4) := by decide +kernel
theorem dX1_init_43 : decode cX1_init 43 = .ok (.putfield 31, 3) := by decide +kernel
theorem dX1_init_46 : decode cX1_init 46 = .ok (.aload_n 0, 1) := by decide +kernel
theorem dX1_init_47 : decode cX1_init 47 = .ok (.bipush 6, 2) := by decide +kernel
theorem dX1_init_49 : decode cX1_init 49 = .ok (.newarray .int, 2) := by decide +kernel
theorem dX1_init_51 : decode cX1_init 51 = .ok (.putfield 34, 3) := by decide +kernel
theorem dX1_init_54 : decode cX1_init 54 = .ok (.aload_n 0, 1) := by decide +kernel
theorem dX1_init_55 : decode cX1_init 55 = .ok (.bipush 6, 2) := by decide +kernel
theorem dX1_init_57 : decode cX1_init 57 = .ok (.newarray .int, 2) := by decide +kernel
theorem dX1_init_59 : decode cX1_init 59 = .ok (.putfield 38, 3) := by decide +kernel
theorem dX1_init_62 : decode cX1_init 62 = .ok (.return_, 1) := by decide +kernel
set_option maxRecDepth 20000 in
theorem ggX1_countKinds_X1_findRivals : GoodIn wsX1_countKinds wsX1_findRivals := goodIn_r _ [16, 17, 18, 19, 20, 21, 15, 22, 112, 113, 114, 115, 116, 117, 118, 105, 106, 107, 108, 109, 110, 111] (by decide +kernel) (by decide +kernel)
set_option maxRecDepth 20000 in
theorem gX1_countKinds_X1_findRivals : GoodIn wsX1_countKinds (wsV RX1 50 RX1 yX1_findRivals wsX1_findRivals) := goodIn_app (goodIn_of _ (by decide +kernel)) ggX1_countKinds_X1_findRivals
set_option maxRecDepth 20000 in
theorem ggX1_countKinds_X5_copyRow : GoodIn wsX1_countKinds wsX5_copyRow := goodIn_r _ [25, 26, 27, 28, 29] (by decide +kernel) (by decide +kernel)
set_option maxRecDepth 20000 in
theorem gX1_countKinds_X5_copyRow_n57 : GoodIn wsX1_countKinds (wsX5_copyRow) := ggX1_countKinds_X5_copyRow
set_option maxRecDepth 20000 in
theorem ggX1_countKinds_X1_walkOrders : GoodIn wsX1_countKinds wsX1_walkOrders := goodIn_r _ [33, 34, 10, 35, 36, 17, 8, 7, 1, 19, 37, 38, 39, 40, 41, 42, 43, 44, 45, 46, 47, 48, 49, 50, 51, 52, 53, 54, 55, 56, 57, 58, 59, 24, 60, 61, 62, 63, 64, 65, 66, 67, 68, 69, 70, 71, 72, 73, 74, 75, 76, 77, 78, 79, 80, 81, 82, 83, 84, 15, 85, 86, 87, 88, 27, 28, 29, 89, 90, 91, 92, 93, 94, 95, 96, 97, 98, 99, 100, 101, 102, 18, 103, 104, 30, 31, 32, 105, 106, 107, 108, 109, 110, 111, 112, 113, 114, 115, 116, 117, 118, 119, 120, 121, 122, 123, 124] (by decide +kernel) (by decide +kernel)
set_option maxRecDepth 20000 in
theorem gX1_countKinds_X1_walkOrders : GoodIn wsX1_countKinds (wsV RX1 64 RX1 yX1_walkOrders wsX1_walkOrders) := goodIn_app (goodIn_of _ (by decide +kernel)) ggX1_countKinds_X1_walkOrders
theorem dX1_countKinds_0 : decode cX1_countKinds 0 = .ok (.iconst 0, 1) := by decide +kernel
theorem dX1_countKinds_1 : decode cX1_countKinds 1 = .ok (.istore 4, 2) := by decide +kernel
theorem dX1_countKinds_3 : decode cX1_countKinds 3 = .ok (.iload 4, 2) := by decide +kernel
theorem dX1_countKinds_5 : decode cX1_countKinds 5 = .ok (.bipush 6, 2) := by decide +kernel
theorem dX1_countKinds_7 : decode cX1_countKinds 7 = .ok (.if_icmp .ge 31, 3) := by decide +kernel
theorem dX1_countKinds_10 : decode cX1_countKinds 10 = .ok (.aload_n 0, 1) := by decide +kernel
theorem dX1_countKinds_11 : decode cX1_countKinds 11 = .ok (.getfield 34, 3) := by decide +kernel
theorem dX1_countKinds_14 : decode cX1_countKinds 14 = .ok (.iload 4, 2) := by decide +kernel
theorem dX1_countKinds_16 : decode cX1_countKinds 16 = .ok (.iload_n 2, 1) := by decide +kernel
theorem dX1_countKinds_17 : decode cX1_countKinds 17 = .ok (.ifCond .eq 13, 3) := by decide +kernel
theorem dX1_countKinds_20 : decode cX1_countKinds 20 = .ok (.aload_n 1, 1) := by decide +kernel
theorem dX1_countKinds_21 : decode cX1_countKinds 21 = .ok (.getfield 41, 3) := by decide +kernel
theorem dX1_countKinds_24 : decode cX1_countKinds 24 = .ok (.iload 4, 2) := by decide +kernel
theorem dX1_countKinds_26 : decode cX1_countKinds 26 = .ok (.iaload, 1) := by decide +kernel
theorem dX1_countKinds_27 : decode cX1_countKinds 27 = .ok (.goto 4, 3) := by decide +kernel
theorem dX1_countKinds_30 : decode cX1_countKinds 30 = .ok (.iconst 0, 1) := by decide +kernel
theorem dX1_countKinds_31 : decode cX1_countKinds 31 = .ok (.iastore, 1) := by decide +kernel
theorem dX1_countKinds_32 : decode cX1_countKinds 32 = .ok (.iinc 4 1, 3) := by decide +kernel
theorem dX1_countKinds_35 : decode cX1_countKinds 35 = .ok (.goto (-32), 3) := by decide +kernel
theorem dX1_countKinds_38 : decode cX1_countKinds 38 = .ok (.aload_n 0, 1) := by decide +kernel
theorem dX1_countKinds_39 : decode cX1_countKinds 39 = .ok (.iload_n 3, 1) := by decide +kernel
theorem dX1_countKinds_40 : decode cX1_countKinds 40 = .ok (.sipush 720, 3) := by decide +kernel
theorem dX1_countKinds_43 : decode cX1_countKinds 43 = .ok (.invokestatic 44, 3) := by decide +kernel
theorem dX1_countKinds_46 : decode cX1_countKinds 46 = .ok (.putfield 26, 3) := by decide +kernel
theorem dX1_countKinds_49 : decode cX1_countKinds 49 = .ok (.aload_n 0, 1) := by decide +kernel
theorem dX1_countKinds_50 : decode cX1_countKinds 50 = .ok (.iconst 0, 1) := by decide +kernel
theorem dX1_countKinds_51 : decode cX1_countKinds 51 = .ok (.putfield 22, 3) := by decide +kernel
theorem dX1_countKinds_54 : decode cX1_countKinds 54 = .ok (.aload_n 0, 1) := by decide +kernel
theorem dX1_countKinds_55 : decode cX1_countKinds 55 = .ok (.aload_n 1, 1) := by decide +kernel
theorem dX1_countKinds_56 : decode cX1_countKinds 56 = .ok (.invokevirtual 50, 3) := by decide +kernel
theorem dX1_countKinds_59 : decode cX1_countKinds 59 = .ok (.aload_n 1, 1) := by decide +kernel
theorem dX1_countKinds_60 : decode cX1_countKinds 60 = .ok (.getfield 54, 3) := by decide +kernel
theorem dX1_countKinds_63 : decode cX1_countKinds 63 = .ok (.aload_n 0, 1) := by decide +kernel
theorem dX1_countKinds_64 : decode cX1_countKinds 64 = .ok (.getfield 31, 3) := by decide +kernel
theorem dX1_countKinds_67 : decode cX1_countKinds 67 = .ok (.iconst 0, 1) := by decide +kernel
theorem dX1_countKinds_68 : decode cX1_countKinds 68 = .ok (.aaload, 1) := by decide +kernel
theorem dX1_countKinds_69 : decode cX1_countKinds 69 = .ok (.invokestatic 57, 3) := by decide +kernel
theorem dX1_countKinds_72 : decode cX1_countKinds 72 = .ok (.aload_n 0, 1) := by decide +kernel
theorem dX1_countKinds_73 : decode cX1_countKinds 73 = .ok (.aload_n 1, 1) := by decide +kernel
theorem dX1_countKinds_74 : decode cX1_countKinds 74 = .ok (.iconst 0, 1) := by decide +kernel
theorem dX1_countKinds_75 : decode cX1_countKinds 75 = .ok (.aload_n 1, 1) := by decide +kernel
theorem dX1_countKinds_76 : decode cX1_countKinds 76 = .ok (.getfield 61, 3) := by decide +kernel
theorem dX1_countKinds_79 : decode cX1_countKinds 79 = .ok (.iconst (-1), 1) := by decide +kernel
theorem dX1_countKinds_80 : decode cX1_countKinds 80 = .ok (.invokevirtual 64, 3) := by decide +kernel
theorem dX1_countKinds_83 : decode cX1_countKinds 83 = .ok (.aload_n 0, 1) := by decide +kernel
theorem dX1_countKinds_84 : decode cX1_countKinds 84 = .ok (.getfield 22, 3) := by decide +kernel
theorem dX1_countKinds_87 : decode cX1_countKinds 87 = .ok (.ireturn, 1) := by decide +kernel
set_option maxRecDepth 20000 in
theorem ggX1_findRivals_X1_areRivals : GoodIn wsX1_findRivals wsX1_areRivals := goodIn_r _ [7] (by decide +kernel) (by decide +kernel)
set_option maxRecDepth 20000 in
theorem gX1_findRivals_X1_areRivals : GoodIn wsX1_findRivals (va_wsS RX1 74 yX1_areRivals wsX1_areRivals) := goodIn_app (goodIn_of _ (by decide +kernel)) ggX1_findRivals_X1_areRivals
theorem dX1_findRivals_0 : decode cX1_findRivals 0 = .ok (.iconst 0, 1) := by decide +kernel
theorem dX1_findRivals_1 : decode cX1_findRivals 1 = .ok (.istore_n 2, 1) := by decide +kernel
theorem dX1_findRivals_2 : decode cX1_findRivals 2 = .ok (.iload_n 2, 1) := by decide +kernel
theorem dX1_findRivals_3 : decode cX1_findRivals 3 = .ok (.aload_n 1, 1) := by decide +kernel
theorem dX1_findRivals_4 : decode cX1_findRivals 4 = .ok (.getfield 68, 3) := by decide +kernel
theorem dX1_findRivals_7 : decode cX1_findRivals 7 = .ok (.if_icmp .ge 62, 3) := by decide +kernel
theorem dX1_findRivals_10 : decode cX1_findRivals 10 = .ok (.aload_n 0, 1) := by decide +kernel
theorem dX1_findRivals_11 : decode cX1_findRivals 11 = .ok (.getfield 38, 3) := by decide +kernel
theorem dX1_findRivals_14 : decode cX1_findRivals 14 = .ok (.iload_n 2, 1) := by decide +kernel
theorem dX1_findRivals_15 : decode cX1_findRivals 15 = .ok (.iconst 0, 1) := by decide +kernel
theorem dX1_findRivals_16 : decode cX1_findRivals 16 = .ok (.iastore, 1) := by decide +kernel
theorem dX1_findRivals_17 : decode cX1_findRivals 17 = .ok (.iconst 0, 1) := by decide +kernel
theorem dX1_findRivals_18 : decode cX1_findRivals 18 = .ok (.istore_n 3, 1) := by decide +kernel
theorem dX1_findRivals_19 : decode cX1_findRivals 19 = .ok (.iload_n 3, 1) := by decide +kernel
theorem dX1_findRivals_20 : decode cX1_findRivals 20 = .ok (.aload_n 1, 1) := by decide +kernel
theorem dX1_findRivals_21 : decode cX1_findRivals 21 = .ok (.getfield 68, 3) := by decide +kernel
theorem dX1_findRivals_24 : decode cX1_findRivals 24 = .ok (.if_icmp .ge 39, 3) := by decide +kernel
theorem dX1_findRivals_27 : decode cX1_findRivals 27 = .ok (.aload_n 1, 1) := by decide +kernel
theorem dX1_findRivals_28 : decode cX1_findRivals 28 = .ok (.getfield 71, 3) := by decide +kernel
theorem dX1_findRivals_31 : decode cX1_findRivals 31 = .ok (.iload_n 2, 1) := by decide +kernel
theorem dX1_findRivals_32 : decode cX1_findRivals 32 = .ok (.aaload, 1) := by decide +kernel
theorem dX1_findRivals_33 : decode cX1_findRivals 33 = .ok (.aload_n 1, 1) := by decide +kernel
theorem dX1_findRivals_34 : decode cX1_findRivals 34 = .ok (.getfield 71, 3) := by decide +kernel
theorem dX1_findRivals_37 : decode cX1_findRivals 37 = .ok (.iload_n 3, 1) := by decide +kernel
theorem dX1_findRivals_38 : decode cX1_findRivals 38 = .ok (.aaload, 1) := by decide +kernel
theorem dX1_findRivals_39 : decode cX1_findRivals 39 = .ok (.invokestatic 74, 3) := by decide +kernel
theorem dX1_findRivals_42 : decode cX1_findRivals 42 = .ok (.ifCond .eq 15, 3) := by decide +kernel
theorem dX1_findRivals_45 : decode cX1_findRivals 45 = .ok (.aload_n 0, 1) := by decide +kernel
theorem dX1_findRivals_46 : decode cX1_findRivals 46 = .ok (.getfield 38, 3) := by decide +kernel
theorem dX1_findRivals_49 : decode cX1_findRivals 49 = .ok (.iload_n 2, 1) := by decide +kernel
theorem dX1_findRivals_50 : decode cX1_findRivals 50 = .ok (.dup2, 1) := by decide +kernel
theorem dX1_findRivals_51 : decode cX1_findRivals 51 = .ok (.iaload, 1) := by decide +kernel
theorem dX1_findRivals_52 : decode cX1_findRivals 52 = .ok (.iconst 1, 1) := by decide +kernel
theorem dX1_findRivals_53 : decode cX1_findRivals 53 = .ok (.iload_n 3, 1) := by decide +kernel
theorem dX1_findRivals_54 : decode cX1_findRivals 54 = .ok (.ishl, 1) := by decide +kernel
theorem dX1_findRivals_55 : decode cX1_findRivals 55 = .ok (.ior, 1) := by decide +kernel
theorem dX1_findRivals_56 : decode cX1_findRivals 56 = .ok (.iastore, 1) := by decide +kernel
theorem dX1_findRivals_57 : decode cX1_findRivals 57 = .ok (.iinc 3 1, 3) := by decide +kernel
theorem dX1_findRivals_60 : decode cX1_findRivals 60 = .ok (.goto (-41), 3) := by decide +kernel
theorem dX1_findRivals_63 : decode cX1_findRivals 63 = .ok (.iinc 2 1, 3) := by decide +kernel
theorem dX1_findRivals_66 : decode cX1_findRivals 66 = .ok (.goto (-64), 3) := by decide +kernel
theorem dX1_findRivals_69 : decode cX1_findRivals 69 = .ok (.return_, 1) := by decide +kernel
theorem dX1_areRivals_0 : decode cX1_areRivals 0 = .ok (.iconst 0, 1) := by decide +kernel
theorem dX1_areRivals_1 : decode cX1_areRivals 1 = .ok (.istore_n 2, 1) := by decide +kernel
theorem dX1_areRivals_2 : decode cX1_areRivals 2 = .ok (.iload_n 2, 1) := by decide +kernel
theorem dX1_areRivals_3 : decode cX1_areRivals 3 = .ok (.bipush 32, 2) := by decide +kernel
theorem dX1_areRivals_5 : decode cX1_areRivals 5 = .ok (.if_icmp .ge 46, 3) := by decide +kernel
theorem dX1_areRivals_8 : decode cX1_areRivals 8 = .ok (.aload_n 0, 1) := by decide +kernel
theorem dX1_areRivals_9 : decode cX1_areRivals 9 = .ok (.iload_n 2, 1) := by decide +kernel
theorem dX1_areRivals_10 : decode cX1_areRivals 10 = .ok (.iaload, 1) := by decide +kernel
theorem dX1_areRivals_11 : decode cX1_areRivals 11 = .ok (.bipush (-2), 2) := by decide +kernel
theorem dX1_areRivals_13 : decode cX1_areRivals 13 = .ok (.if_icmp .eq 15, 3) := by decide +kernel
theorem dX1_areRivals_16 : decode cX1_areRivals 16 = .ok (.aload_n 1, 1) := by decide +kernel
theorem dX1_areRivals_17 : decode cX1_areRivals 17 = .ok (.iload_n 2, 1) := by decide +kernel
theorem dX1_areRivals_18 : decode cX1_areRivals 18 = .ok (.iaload, 1) := by decide +kernel
theorem dX1_areRivals_19 : decode cX1_areRivals 19 = .ok (.bipush (-2), 2) := by decide +kernel
theorem dX1_areRivals_21 : decode cX1_areRivals 21 = .ok (.if_icmp .eq 7, 3) := by decide +kernel
theorem dX1_areRivals_24 : decode cX1_areRivals 24 = .ok (.iconst 1, 1) := by decide +kernel
theorem dX1_areRivals_25 : decode cX1_areRivals 25 = .ok (.goto 4, 3) := by decide +kernel
theorem dX1_areRivals_28 : decode cX1_areRivals 28 = .ok (.iconst 0, 1) := by decide +kernel
theorem dX1_areRivals_29 : decode cX1_areRivals 29 = .ok (.istore_n 3, 1) := by decide +kernel
theorem dX1_areRivals_30 : decode cX1_areRivals 30 = .ok (.iload_n 3, 1) := by decide +kernel
theorem dX1_areRivals_31 : decode cX1_areRivals 31 = .ok (.ifCond .eq 14, 3) := by decide +kernel
theorem dX1_areRivals_34 : decode cX1_areRivals 34 = .ok (.aload_n 0, 1) := by decide +kernel
theorem dX1_areRivals_35 : decode cX1_areRivals 35 = .ok (.iload_n 2, 1) := by decide +kernel
theorem dX1_areRivals_36 : decode cX1_areRivals 36 = .ok (.iaload, 1) := by decide +kernel
theorem dX1_areRivals_37 : decode cX1_areRivals 37 = .ok (.aload_n 1, 1) := by decide +kernel
theorem dX1_areRivals_38 : decode cX1_areRivals 38 = .ok (.iload_n 2, 1) := by decide +kernel
theorem dX1_areRivals_39 : decode cX1_areRivals 39 = .ok (.iaload, 1) := by decide +kernel
theorem dX1_areRivals_40 : decode cX1_areRivals 40 = .ok (.if_icmp .eq 5, 3) := by decide +kernel
theorem dX1_areRivals_43 : decode cX1_areRivals 43 = .ok (.iconst 1, 1) := by decide +kernel
theorem dX1_areRivals_44 : decode cX1_areRivals 44 = .ok (.ireturn, 1) := by decide +kernel
theorem dX1_areRivals_45 : decode cX1_areRivals 45 = .ok (.iinc 2 1, 3) := by decide +kernel
theorem dX1_areRivals_48 : decode cX1_areRivals 48 = .ok (.goto (-46), 3) := by decide +kernel
theorem dX1_areRivals_51 : decode cX1_areRivals 51 = .ok (.iconst 0, 1) := by decide +kernel
theorem dX1_areRivals_52 : decode cX1_areRivals 52 = .ok (.ireturn, 1) := by decide +kernel
set_option maxRecDepth 20000 in
theorem ggX1_walkOrders_X3_take : GoodIn wsX1_walkOrders wsX3_take := goodIn_r _ [14, 15, 16, 17, 18, 19, 20, 21, 13, 22, 23, 24, 25, 26, 27, 28, 29, 30, 31, 32, 33, 34, 35, 36, 37, 38, 39, 40, 41, 42, 43, 44, 45, 46, 47, 48, 49, 50, 51, 52, 53, 54, 55, 101, 102, 103, 104, 105, 106] (by decide +kernel) (by decide +kernel)
set_option maxRecDepth 20000 in
theorem gX1_walkOrders_X3_take : GoodIn wsX1_walkOrders (wsV RX1 84 RX3 yX3_take wsX3_take) := goodIn_app (goodIn_of _ (by decide +kernel)) ggX1_walkOrders_X3_take
set_option maxRecDepth 20000 in
theorem ggX1_walkOrders_X1_keepForm : GoodIn wsX1_walkOrders wsX1_keepForm := goodIn_r _ [60, 6, 7, 1, 61, 62, 63, 64, 65, 66, 67, 68, 69, 59, 70, 71, 72, 73, 74, 87, 88, 89, 90, 91, 92, 93, 101, 102, 103, 104, 105, 106] (by decide +kernel) (by decide +kernel)
set_option maxRecDepth 20000 in
theorem gX1_walkOrders_X1_keepForm : GoodIn wsX1_walkOrders (wsV RX1 88 RX1 yX1_keepForm wsX1_keepForm) := goodIn_app (goodIn_of _ (by decide +kernel)) ggX1_walkOrders_X1_keepForm
set_option maxRecDepth 20000 in
theorem ggX1_walkOrders_X5_hasBit : GoodIn wsX1_walkOrders wsX5_hasBit := goodIn_r _ [76] (by decide +kernel) (by decide +kernel)
set_option maxRecDepth 20000 in
theorem gX1_walkOrders_X5_hasBit_n91 : GoodIn wsX1_walkOrders (wsX5_hasBit) := ggX1_walkOrders_X5_hasBit
set_option maxRecDepth 20000 in
theorem ggX1_walkOrders_X1_isRepeat : GoodIn wsX1_walkOrders wsX1_isRepeat := goodIn_r _ [80, 81, 8, 75, 33, 76, 87, 88, 89, 90, 91, 92, 93] (by decide +kernel) (by decide +kernel)
set_option maxRecDepth 20000 in
theorem gX1_walkOrders_X1_isRepeat : GoodIn wsX1_walkOrders (wsV RX1 95 RX1 yX1_isRepeat wsX1_isRepeat) := goodIn_app (goodIn_of _ (by decide +kernel)) ggX1_walkOrders_X1_isRepeat
set_option maxRecDepth 20000 in
theorem ggX1_walkOrders_X5_putOn : GoodIn wsX1_walkOrders wsX5_putOn := goodIn_r _ [83] (by decide +kernel) (by decide +kernel)
set_option maxRecDepth 20000 in
theorem gX1_walkOrders_X5_putOn_n98 : GoodIn wsX1_walkOrders (wsX5_putOn) := ggX1_walkOrders_X5_putOn
set_option maxRecDepth 20000 in
theorem ggX1_walkOrders_X1_walkOrders : GoodIn wsX1_walkOrders wsX1_walkOrders := goodIn_r _ [0, 1, 2, 3, 4, 5, 6, 7, 8, 9, 10, 11, 12, 13, 14, 15, 16, 17, 18, 19, 20, 21, 22, 23, 24, 25, 26, 27, 28, 29, 30, 31, 32, 33, 34, 35, 36, 37, 38, 39, 40, 41, 42, 43, 44, 45, 46, 47, 48, 49, 50, 51, 52, 53, 54, 55, 56, 57, 58, 59, 60, 61, 62, 63, 64, 65, 66, 67, 68, 69, 70, 71, 72, 73, 74, 75, 76, 77, 78, 79, 80, 81, 82, 83, 84, 85, 86, 87, 88, 89, 90, 91, 92, 93, 94, 95, 96, 97, 98, 99, 100, 101, 102, 103, 104, 105, 106] (by decide +kernel) (by decide +kernel)
set_option maxRecDepth 20000 in
theorem gX1_walkOrders_X1_walkOrders : GoodIn wsX1_walkOrders (wsV RX1 64 RX1 yX1_walkOrders wsX1_walkOrders) := goodIn_app (goodIn_of _ (by decide +kernel)) ggX1_walkOrders_X1_walkOrders
theorem dX1_walkOrders_0 : decode cX1_walkOrders 0 = .ok (.iload_n 3, 1) := by decide +kernel
theorem dX1_walkOrders_1 : decode cX1_walkOrders 1 = .ok (.ifCond .eq 9, 3) := by decide +kernel
theorem dX1_walkOrders_4 : decode cX1_walkOrders 4 = .ok (.iload_n 2, 1) := by decide +kernel
theorem dX1_walkOrders_5 : decode cX1_walkOrders 5 = .ok (.bipush 6, 2) := by decide +kernel
theorem dX1_walkOrders_7 : decode cX1_walkOrders 7 = .ok (.if_icmp .lt 29, 3) := by decide +kernel
theorem dX1_walkOrders_10 : decode cX1_walkOrders 10 = .ok (.aload_n 0, 1) := by decide +kernel
theorem dX1_walkOrders_11 : decode cX1_walkOrders 11 = .ok (.getfield 12, 3) := by decide +kernel
theorem dX1_walkOrders_14 : decode cX1_walkOrders 14 = .ok (.aload_n 0, 1) := by decide +kernel
theorem dX1_walkOrders_15 : decode cX1_walkOrders 15 = .ok (.getfield 31, 3) := by decide +kernel
theorem dX1_walkOrders_18 : decode cX1_walkOrders 18 = .ok (.iload_n 2, 1) := by decide +kernel
theorem dX1_walkOrders_19 : decode cX1_walkOrders 19 = .ok (.aaload, 1) := by decide +kernel
theorem dX1_walkOrders_20 : decode cX1_walkOrders 20 = .ok (.aload_n 1, 1) := by decide +kernel
theorem dX1_walkOrders_21 : decode cX1_walkOrders 21 = .ok (.getfield 78, 3) := by decide +kernel
theorem dX1_walkOrders_24 : decode cX1_walkOrders 24 = .ok (.aload_n 1, 1) := by decide +kernel
theorem dX1_walkOrders_25 : decode cX1_walkOrders 25 = .ok (.getfield 81, 3) := by decide +kernel
theorem dX1_walkOrders_28 : decode cX1_walkOrders 28 = .ok (.invokevirtual 84, 3) := by decide +kernel
theorem dX1_walkOrders_31 : decode cX1_walkOrders 31 = .ok (.aload_n 0, 1) := by decide +kernel
theorem dX1_walkOrders_32 : decode cX1_walkOrders 32 = .ok (.invokevirtual 88, 3) := by decide +kernel
theorem dX1_walkOrders_35 : decode cX1_walkOrders 35 = .ok (.return_, 1) := by decide +kernel
theorem dX1_walkOrders_36 : decode cX1_walkOrders 36 = .ok (.iconst 0, 1) := by decide +kernel
theorem dX1_walkOrders_37 : decode cX1_walkOrders 37 = .ok (.istore 5, 2) := by decide +kernel
theorem dX1_walkOrders_39 : decode cX1_walkOrders 39 = .ok (.iload 5, 2) := by decide +kernel
theorem dX1_walkOrders_41 : decode cX1_walkOrders 41 = .ok (.aload_n 1, 1) := by decide +kernel
theorem dX1_walkOrders_42 : decode cX1_walkOrders 42 = .ok (.getfield 68, 3) := by decide +kernel
theorem dX1_walkOrders_45 : decode cX1_walkOrders 45 = .ok (.if_icmp .ge 106, 3) := by decide +kernel
theorem dX1_walkOrders_48 : decode cX1_walkOrders 48 = .ok (.aload_n 0, 1) := by decide +kernel
theorem dX1_walkOrders_49 : decode cX1_walkOrders 49 = .ok (.getfield 22, 3) := by decide +kernel
theorem dX1_walkOrders_52 : decode cX1_walkOrders 52 = .ok (.aload_n 0, 1) := by decide +kernel
theorem dX1_walkOrders_53 : decode cX1_walkOrders 53 = .ok (.getfield 26, 3) := by decide +kernel
theorem dX1_walkOrders_56 : decode cX1_walkOrders 56 = .ok (.if_icmp .ge 95, 3) := by decide +kernel
theorem dX1_walkOrders_59 : decode cX1_walkOrders 59 = .ok (.iload_n 3, 1) := by decide +kernel
theorem dX1_walkOrders_60 : decode cX1_walkOrders 60 = .ok (.iload 5, 2) := by decide +kernel
theorem dX1_walkOrders_62 : decode cX1_walkOrders 62 = .ok (.invokestatic 91, 3) := by decide +kernel
theorem dX1_walkOrders_65 : decode cX1_walkOrders 65 = .ok (.ifCond .eq 19, 3) := by decide +kernel
theorem dX1_walkOrders_68 : decode cX1_walkOrders 68 = .ok (.aload_n 0, 1) := by decide +kernel
theorem dX1_walkOrders_69 : decode cX1_walkOrders 69 = .ok (.getfield 34, 3) := by decide +kernel
theorem dX1_walkOrders_72 : decode cX1_walkOrders 72 = .ok (.iload 5, 2) := by decide +kernel
theorem dX1_walkOrders_74 : decode cX1_walkOrders 74 = .ok (.iaload, 1) := by decide +kernel
theorem dX1_walkOrders_75 : decode cX1_walkOrders 75 = .ok (.iload_n 3, 1) := by decide +kernel
theorem dX1_walkOrders_76 : decode cX1_walkOrders 76 = .ok (.iand, 1) := by decide +kernel
theorem dX1_walkOrders_77 : decode cX1_walkOrders 77 = .ok (.ifCond .ne 7, 3) := by decide +kernel
theorem dX1_walkOrders_80 : decode cX1_walkOrders 80 = .ok (.iconst 1, 1) := by decide +kernel
theorem dX1_walkOrders_81 : decode cX1_walkOrders 81 = .ok (.goto 4, 3) := by decide +kernel
theorem dX1_walkOrders_84 : decode cX1_walkOrders 84 = .ok (.iconst 0, 1) := by decide +kernel
theorem dX1_walkOrders_85 : decode cX1_walkOrders 85 = .ok (.istore 6, 2) := by decide +kernel
theorem dX1_walkOrders_87 : decode cX1_walkOrders 87 = .ok (.iload 6, 2) := by decide +kernel
theorem dX1_walkOrders_89 : decode cX1_walkOrders 89 = .ok (.ifCond .eq 56, 3) := by decide +kernel
theorem dX1_walkOrders_92 : decode cX1_walkOrders 92 = .ok (.aload_n 0, 1) := by decide +kernel
theorem dX1_walkOrders_93 : decode cX1_walkOrders 93 = .ok (.iload 4, 2) := by decide +kernel
theorem dX1_walkOrders_95 : decode cX1_walkOrders 95 = .ok (.iload 5, 2) := by decide +kernel
theorem dX1_walkOrders_97 : decode cX1_walkOrders 97 = .ok (.invokevirtual 95, 3) := by decide +kernel
theorem dX1_walkOrders_100 : decode cX1_walkOrders 100 = .ok (.ifCond .ne 45, 3) := by decide +kernel
theorem dX1_walkOrders_103 : decode cX1_walkOrders 103 = .ok (.aload_n 0, 1) := by decide +kernel
theorem dX1_walkOrders_104 : decode cX1_walkOrders 104 = .ok (.getfield 31, 3) := by decide +kernel
theorem dX1_walkOrders_107 : decode cX1_walkOrders 107 = .ok (.iload_n 2, 1) := by decide +kernel
theorem dX1_walkOrders_108 : decode cX1_walkOrders 108 = .ok (.aaload, 1) := by decide +kernel
theorem dX1_walkOrders_109 : decode cX1_walkOrders 109 = .ok (.aload_n 1, 1) := by decide +kernel
theorem dX1_walkOrders_110 : decode cX1_walkOrders 110 = .ok (.getfield 71, 3) := by decide +kernel
theorem dX1_walkOrders_113 : decode cX1_walkOrders 113 = .ok (.iload 5, 2) := by decide +kernel
theorem dX1_walkOrders_115 : decode cX1_walkOrders 115 = .ok (.aaload, 1) := by decide +kernel
theorem dX1_walkOrders_116 : decode cX1_walkOrders 116 = .ok (.aload_n 0, 1) := by decide +kernel
theorem dX1_walkOrders_117 : decode cX1_walkOrders 117 = .ok (.getfield 31, 3) := by decide +kernel
theorem dX1_walkOrders_120 : decode cX1_walkOrders 120 = .ok (.iload_n 2, 1) := by decide +kernel
theorem dX1_walkOrders_121 : decode cX1_walkOrders 121 = .ok (.iconst 1, 1) := by decide +kernel
theorem dX1_walkOrders_122 : decode cX1_walkOrders 122 = .ok (.iadd, 1) := by decide +kernel
theorem dX1_walkOrders_123 : decode cX1_walkOrders 123 = .ok (.aaload, 1) := by decide +kernel
theorem dX1_walkOrders_124 : decode cX1_walkOrders 124 = .ok (.invokestatic 98, 3) := by decide +kernel
theorem dX1_walkOrders_127 : decode cX1_walkOrders 127 = .ok (.aload_n 0, 1) := by decide +kernel
theorem dX1_walkOrders_128 : decode cX1_walkOrders 128 = .ok (.aload_n 1, 1) := by decide +kernel
theorem dX1_walkOrders_129 : decode cX1_walkOrders 129 = .ok (.iload_n 2, 1) := by decide +kernel
theorem dX1_walkOrders_130 : decode cX1_walkOrders 130 = .ok (.iconst 1, 1) := by decide +kernel
theorem dX1_walkOrders_131 : decode cX1_walkOrders 131 = .ok (.iadd, 1) := by decide +kernel
theorem dX1_walkOrders_132 : decode cX1_walkOrders 132 = .ok (.iload_n 3, 1) := by decide +kernel
theorem dX1_walkOrders_133 : decode cX1_walkOrders 133 = .ok (.iconst 1, 1) := by decide +kernel
theorem dX1_walkOrders_134 : decode cX1_walkOrders 134 = .ok (.iload 5, 2) := by decide +kernel
theorem dX1_walkOrders_136 : decode cX1_walkOrders 136 = .ok (.ishl, 1) := by decide +kernel
theorem dX1_walkOrders_137 : decode cX1_walkOrders 137 = .ok (.iconst (-1), 1) := by decide +kernel
theorem dX1_walkOrders_138 : decode cX1_walkOrders 138 = .ok (.ixor, 1) := by decide +kernel
theorem dX1_walkOrders_139 : decode cX1_walkOrders 139 = .ok (.iand, 1) := by decide +kernel
theorem dX1_walkOrders_140 : decode cX1_walkOrders 140 = .ok (.iload 5, 2) := by decide +kernel
theorem dX1_walkOrders_142 : decode cX1_walkOrders 142 = .ok (.invokevirtual 64, 3) := by decide +kernel
theorem dX1_walkOrders_145 : decode cX1_walkOrders 145 = .ok (.iinc 5 1, 3) := by decide +kernel
theorem dX1_walkOrders_148 : decode cX1_walkOrders 148 = .ok (.goto (-109), 3) := by decide +kernel
theorem dX1_walkOrders_151 : decode cX1_walkOrders 151 = .ok (.return_, 1) := by decide +kernel
set_option maxRecDepth 20000 in
theorem ggX1_isRepeat_X5_hasBit : GoodIn wsX1_isRepeat wsX5_hasBit := goodIn_r _ [5] (by decide +kernel) (by decide +kernel)
set_option maxRecDepth 20000 in
theorem gX1_isRepeat_X5_hasBit_n91 : GoodIn wsX1_isRepeat (wsX5_hasBit) := ggX1_isRepeat_X5_hasBit
theorem dX1_isRepeat_0 : decode cX1_isRepeat 0 = .ok (.iload_n 1, 1) := by decide +kernel
theorem dX1_isRepeat_1 : decode cX1_isRepeat 1 = .ok (.iload_n 2, 1) := by decide +kernel
theorem dX1_isRepeat_2 : decode cX1_isRepeat 2 = .ok (.if_icmp .le 33, 3) := by decide +kernel
theorem dX1_isRepeat_5 : decode cX1_isRepeat 5 = .ok (.aload_n 0, 1) := by decide +kernel
theorem dX1_isRepeat_6 : decode cX1_isRepeat 6 = .ok (.getfield 38, 3) := by decide +kernel
theorem dX1_isRepeat_9 : decode cX1_isRepeat 9 = .ok (.iload_n 1, 1) := by decide +kernel
theorem dX1_isRepeat_10 : decode cX1_isRepeat 10 = .ok (.iaload, 1) := by decide +kernel
theorem dX1_isRepeat_11 : decode cX1_isRepeat 11 = .ok (.iload_n 2, 1) := by decide +kernel
theorem dX1_isRepeat_12 : decode cX1_isRepeat 12 = .ok (.invokestatic 91, 3) := by decide +kernel
theorem dX1_isRepeat_15 : decode cX1_isRepeat 15 = .ok (.ifCond .ne 20, 3) := by decide +kernel
theorem dX1_isRepeat_18 : decode cX1_isRepeat 18 = .ok (.aload_n 0, 1) := by decide +kernel
theorem dX1_isRepeat_19 : decode cX1_isRepeat 19 = .ok (.getfield 34, 3) := by decide +kernel
theorem dX1_isRepeat_22 : decode cX1_isRepeat 22 = .ok (.iload_n 2, 1) := by decide +kernel
theorem dX1_isRepeat_23 : decode cX1_isRepeat 23 = .ok (.iaload, 1) := by decide +kernel
theorem dX1_isRepeat_24 : decode cX1_isRepeat 24 = .ok (.iload_n 1, 1) := by decide +kernel
theorem dX1_isRepeat_25 : decode cX1_isRepeat 25 = .ok (.invokestatic 91, 3) := by decide +kernel
theorem dX1_isRepeat_28 : decode cX1_isRepeat 28 = .ok (.ifCond .ne 7, 3) := by decide +kernel
theorem dX1_isRepeat_31 : decode cX1_isRepeat 31 = .ok (.iconst 1, 1) := by decide +kernel
theorem dX1_isRepeat_32 : decode cX1_isRepeat 32 = .ok (.goto 4, 3) := by decide +kernel
theorem dX1_isRepeat_35 : decode cX1_isRepeat 35 = .ok (.iconst 0, 1) := by decide +kernel
theorem dX1_isRepeat_36 : decode cX1_isRepeat 36 = .ok (.ireturn, 1) := by decide +kernel
set_option maxRecDepth 20000 in
theorem ggX1_keepForm_X1_isKnown : GoodIn wsX1_keepForm wsX1_isKnown := goodIn_r _ [14, 1, 15, 16, 17, 13, 18, 5, 3, 4, 19, 20, 21, 22, 23, 24, 25, 26, 27, 28, 29, 30, 31] (by decide +kernel) (by decide +kernel)
set_option maxRecDepth 20000 in
theorem gX1_keepForm_X1_isKnown : GoodIn wsX1_keepForm (wsV RX1 102 RX1 yX1_isKnown wsX1_isKnown) := goodIn_app (goodIn_of _ (by decide +kernel)) ggX1_keepForm_X1_isKnown
theorem dX1_keepForm_0 : decode cX1_keepForm 0 = .ok (.aload_n 0, 1) := by decide +kernel
theorem dX1_keepForm_1 : decode cX1_keepForm 1 = .ok (.getfield 22, 3) := by decide +kernel
theorem dX1_keepForm_4 : decode cX1_keepForm 4 = .ok (.aload_n 0, 1) := by decide +kernel
theorem dX1_keepForm_5 : decode cX1_keepForm 5 = .ok (.getfield 26, 3) := by decide +kernel
theorem dX1_keepForm_8 : decode cX1_keepForm 8 = .ok (.if_icmp .ge 10, 3) := by decide +kernel
theorem dX1_keepForm_11 : decode cX1_keepForm 11 = .ok (.aload_n 0, 1) := by decide +kernel
theorem dX1_keepForm_12 : decode cX1_keepForm 12 = .ok (.invokevirtual 102, 3) := by decide +kernel
theorem dX1_keepForm_15 : decode cX1_keepForm 15 = .ok (.ifCond .eq 4, 3) := by decide +kernel
theorem dX1_keepForm_18 : decode cX1_keepForm 18 = .ok (.return_, 1) := by decide +kernel
theorem dX1_keepForm_19 : decode cX1_keepForm 19 = .ok (.aload_n 0, 1) := by decide +kernel
theorem dX1_keepForm_20 : decode cX1_keepForm 20 = .ok (.getfield 12, 3) := by decide +kernel
theorem dX1_keepForm_23 : decode cX1_keepForm 23 = .ok (.getfield 106, 3) := by decide +kernel
theorem dX1_keepForm_26 : decode cX1_keepForm 26 = .ok (.iconst 0, 1) := by decide +kernel
theorem dX1_keepForm_27 : decode cX1_keepForm 27 = .ok (.aload_n 0, 1) := by decide +kernel
theorem dX1_keepForm_28 : decode cX1_keepForm 28 = .ok (.getfield 18, 3) := by decide +kernel
theorem dX1_keepForm_31 : decode cX1_keepForm 31 = .ok (.aload_n 0, 1) := by decide +kernel
theorem dX1_keepForm_32 : decode cX1_keepForm 32 = .ok (.getfield 22, 3) := by decide +kernel
theorem dX1_keepForm_35 : decode cX1_keepForm 35 = .ok (.iconst 4, 1) := by decide +kernel
theorem dX1_keepForm_36 : decode cX1_keepForm 36 = .ok (.imul, 1) := by decide +kernel
theorem dX1_keepForm_37 : decode cX1_keepForm 37 = .ok (.iconst 4, 1) := by decide +kernel
theorem dX1_keepForm_38 : decode cX1_keepForm 38 = .ok (.invokestatic 109, 3) := by decide +kernel
theorem dX1_keepForm_41 : decode cX1_keepForm 41 = .ok (.aload_n 0, 1) := by decide +kernel
theorem dX1_keepForm_42 : decode cX1_keepForm 42 = .ok (.dup, 1) := by decide +kernel
theorem dX1_keepForm_43 : decode cX1_keepForm 43 = .ok (.getfield 22, 3) := by decide +kernel
theorem dX1_keepForm_46 : decode cX1_keepForm 46 = .ok (.iconst 1, 1) := by decide +kernel
theorem dX1_keepForm_47 : decode cX1_keepForm 47 = .ok (.iadd, 1) := by decide +kernel
theorem dX1_keepForm_48 : decode cX1_keepForm 48 = .ok (.putfield 22, 3) := by decide +kernel
theorem dX1_keepForm_51 : decode cX1_keepForm 51 = .ok (.return_, 1) := by decide +kernel
set_option maxRecDepth 20000 in
theorem ggX1_isKnown_X1_isFormAt : GoodIn wsX1_isKnown wsX1_isFormAt := goodIn_r _ [6, 7, 8, 9, 10, 11, 12, 13, 14, 15, 16, 17, 18, 19, 20, 21, 22] (by decide +kernel) (by decide +kernel)
set_option maxRecDepth 20000 in
theorem gX1_isKnown_X1_isFormAt : GoodIn wsX1_isKnown (wsV RX1 115 RX1 yX1_isFormAt wsX1_isFormAt) := goodIn_app (goodIn_of _ (by decide +kernel)) ggX1_isKnown_X1_isFormAt
theorem dX1_isKnown_0 : decode cX1_isKnown 0 = .ok (.iconst 0, 1) := by decide +kernel
theorem dX1_isKnown_1 : decode cX1_isKnown 1 = .ok (.istore_n 1, 1) := by decide +kernel
theorem dX1_isKnown_2 : decode cX1_isKnown 2 = .ok (.iload_n 1, 1) := by decide +kernel
theorem dX1_isKnown_3 : decode cX1_isKnown 3 = .ok (.aload_n 0, 1) := by decide +kernel
theorem dX1_isKnown_4 : decode cX1_isKnown 4 = .ok (.getfield 22, 3) := by decide +kernel
theorem dX1_isKnown_7 : decode cX1_isKnown 7 = .ok (.if_icmp .ge 21, 3) := by decide +kernel
theorem dX1_isKnown_10 : decode cX1_isKnown 10 = .ok (.aload_n 0, 1) := by decide +kernel
theorem dX1_isKnown_11 : decode cX1_isKnown 11 = .ok (.iload_n 1, 1) := by decide +kernel
theorem dX1_isKnown_12 : decode cX1_isKnown 12 = .ok (.iconst 4, 1) := by decide +kernel
theorem dX1_isKnown_13 : decode cX1_isKnown 13 = .ok (.imul, 1) := by decide +kernel
theorem dX1_isKnown_14 : decode cX1_isKnown 14 = .ok (.invokevirtual 115, 3) := by decide +kernel
theorem dX1_isKnown_17 : decode cX1_isKnown 17 = .ok (.ifCond .eq 5, 3) := by decide +kernel
theorem dX1_isKnown_20 : decode cX1_isKnown 20 = .ok (.iconst 1, 1) := by decide +kernel
theorem dX1_isKnown_21 : decode cX1_isKnown 21 = .ok (.ireturn, 1) := by decide +kernel
theorem dX1_isKnown_22 : decode cX1_isKnown 22 = .ok (.iinc 1 1, 3) := by decide +kernel
theorem dX1_isKnown_25 : decode cX1_isKnown 25 = .ok (.goto (-23), 3) := by decide +kernel
theorem dX1_isKnown_28 : decode cX1_isKnown 28 = .ok (.iconst 0, 1) := by decide +kernel
theorem dX1_isKnown_29 : decode cX1_isKnown 29 = .ok (.ireturn, 1) := by decide +kernel
theorem dX1_isFormAt_0 : decode cX1_isFormAt 0 = .ok (.iconst 0, 1) := by decide +kernel
theorem dX1_isFormAt_1 : decode cX1_isFormAt 1 = .ok (.istore_n 2, 1) := by decide +kernel
theorem dX1_isFormAt_2 : decode cX1_isFormAt 2 = .ok (.iload_n 2, 1) := by decide +kernel
theorem dX1_isFormAt_3 : decode cX1_isFormAt 3 = .ok (.iconst 4, 1) := by decide +kernel
theorem dX1_isFormAt_4 : decode cX1_isFormAt 4 = .ok (.if_icmp .ge 32, 3) := by decide +kernel
theorem dX1_isFormAt_7 : decode cX1_isFormAt 7 = .ok (.aload_n 0, 1) := by decide +kernel
theorem dX1_isFormAt_8 : decode cX1_isFormAt 8 = .ok (.getfield 18, 3) := by decide +kernel
theorem dX1_isFormAt_11 : decode cX1_isFormAt 11 = .ok (.iload_n 1, 1) := by decide +kernel
theorem dX1_isFormAt_12 : decode cX1_isFormAt 12 = .ok (.iload_n 2, 1) := by decide +kernel
theorem dX1_isFormAt_13 : decode cX1_isFormAt 13 = .ok (.iadd, 1) := by decide +kernel
theorem dX1_isFormAt_14 : decode cX1_isFormAt 14 = .ok (.laload, 1) := by decide +kernel
theorem dX1_isFormAt_15 : decode cX1_isFormAt 15 = .ok (.aload_n 0, 1) := by decide +kernel
theorem dX1_isFormAt_16 : decode cX1_isFormAt 16 = .ok (.getfield 12, 3) := by decide +kernel
theorem dX1_isFormAt_19 : decode cX1_isFormAt 19 = .ok (.getfield 106, 3) := by decide +kernel
theorem dX1_isFormAt_22 : decode cX1_isFormAt 22 = .ok (.iload_n 2, 1) := by decide +kernel
theorem dX1_isFormAt_23 : decode cX1_isFormAt 23 = .ok (.laload, 1) := by decide +kernel
theorem dX1_isFormAt_24 : decode cX1_isFormAt 24 = .ok (.lcmp, 1) := by decide +kernel
theorem dX1_isFormAt_25 : decode cX1_isFormAt 25 = .ok (.ifCond .eq 5, 3) := by decide +kernel
theorem dX1_isFormAt_28 : decode cX1_isFormAt 28 = .ok (.iconst 0, 1) := by decide +kernel
theorem dX1_isFormAt_29 : decode cX1_isFormAt 29 = .ok (.ireturn, 1) := by decide +kernel
theorem dX1_isFormAt_30 : decode cX1_isFormAt 30 = .ok (.iinc 2 1, 3) := by decide +kernel
theorem dX1_isFormAt_33 : decode cX1_isFormAt 33 = .ok (.goto (-31), 3) := by decide +kernel
theorem dX1_isFormAt_36 : decode cX1_isFormAt 36 = .ok (.iconst 1, 1) := by decide +kernel
theorem dX1_isFormAt_37 : decode cX1_isFormAt 37 = .ok (.ireturn, 1) := by decide +kernel
set_option maxRecDepth 20000 in
theorem ggX2_init_J7_fill_53178 : GoodIn wsX2_init wsJ7_fill_53178 := goodIn_r _ [16] (by decide +kernel) (by decide +kernel)
set_option maxRecDepth 20000 in
theorem gX2_init_J7_fill_53178 : GoodIn wsX2_init (va_wsS RX2 36 yJ7_fill_53178 wsJ7_fill_53178) := goodIn_app (goodIn_of _ (by decide +kernel)) ggX2_init_J7_fill_53178
theorem dX2_init_0 : decode cX2_init 0 = .ok (.aload_n 0, 1) := by decide +kernel
theorem dX2_init_1 : decode cX2_init 1 = .ok (.invokespecial 3, 3) := by decide +kernel
theorem dX2_init_4 : decode cX2_init 4 = .ok (.aload_n 0, 1) := by decide +kernel
theorem dX2_init_5 : decode cX2_init 5 = .ok (.iconst 2, 1) := by decide +kernel
theorem dX2_init_6 : decode cX2_init 6 = .ok (.putfield 9, 3) := by decide +kernel
theorem dX2_init_9 : decode cX2_init 9 = .ok (.aload_n 0, 1) := by decide +kernel
theorem dX2_init_10 : decode cX2_init 10 = .ok (.iconst 2, 1) := by decide +kernel
theorem dX2_init_11 : decode cX2_init 11 = .ok (.putfield 15, 3) := by decide +kernel
theorem dX2_init_14 : decode cX2_init 14 = .ok (.aload_n 0, 1) := by decide +kernel
theorem dX2_init_15 : decode cX2_init 15 = .ok (.iconst 0, 1) := by decide +kernel
theorem dX2_init_16 : decode cX2_init 16 = .ok (.putfield 18, 3) := by decide +kernel
theorem dX2_init_19 : decode cX2_init 19 = .ok (.aload_n 0, 1) := by decide +kernel
theorem dX2_init_20 : decode cX2_init 20 = .ok (.iconst 0, 1) := by decide +kernel
theorem dX2_init_21 : decode cX2_init 21 = .ok (.putfield 21, 3) := by decide +kernel
theorem dX2_init_24 : decode cX2_init 24 = .ok (.aload_n 0, 1) := by decide +kernel
theorem dX2_init_25 : decode cX2_init 25 = .ok (.bipush 32, 2) := by decide +kernel
theorem dX2_init_27 : decode cX2_init 27 = .ok (.newarray .int, 2) := by decide +kernel
theorem dX2_init_29 : decode cX2_init 29 = .ok (.putfield 24, 3) := by decide +kernel
theorem dX2_init_32 : decode cX2_init 32 = .ok (.aload_n 0, 1) := by decide +kernel
theorem dX2_init_33 : decode cX2_init 33 = .ok (.bipush 6, 2) := by decide +kernel
theorem dX2_init_35 : decode cX2_init 35 = .ok (.bipush 32, 2) := by decide +kernel
theorem dX2_init_37 : decode cX2_init 37 = .ok (.multianewarray 28 2, 4) := by decide +kernel
theorem dX2_init_41 : decode cX2_init 41 = .ok (.putfield 30, 3) := by decide +kernel
theorem dX2_init_44 : decode cX2_init 44 = .ok (.aload_n 0, 1) := by decide +kernel
theorem dX2_init_45 : decode cX2_init 45 = .ok (.bipush 6, 2) := by decide +kernel
theorem dX2_init_47 : decode cX2_init 47 = .ok (.newarray .int, 2) := by decide +kernel
theorem dX2_init_49 : decode cX2_init 49 = .ok (.putfield 33, 3) := by decide +kernel
theorem dX2_init_52 : decode cX2_init 52 = .ok (.aload_n 0, 1) := by decide +kernel
theorem dX2_init_53 : decode cX2_init 53 = .ok (.getfield 24, 3) := by decide +kernel
theorem dX2_init_56 : decode cX2_init 56 = .ok (.iconst (-1), 1) := by decide +kernel
theorem dX2_init_57 : decode cX2_init 57 = .ok (.invokestatic 36, 3) := by decide +kernel
theorem dX2_init_60 : decode cX2_init 60 = .ok (.return_, 1) := by decide +kernel
set_option maxRecDepth 20000 in
theorem ggX2_startAnew_J7_fill_53178 : GoodIn wsX2_startAnew wsJ7_fill_53178 := goodIn_r _ [10] (by decide +kernel) (by decide +kernel)
set_option maxRecDepth 20000 in
theorem gX2_startAnew_J7_fill_53178 : GoodIn wsX2_startAnew (va_wsS RX2 36 yJ7_fill_53178 wsJ7_fill_53178) := goodIn_app (goodIn_of _ (by decide +kernel)) ggX2_startAnew_J7_fill_53178
theorem dX2_startAnew_0 : decode cX2_startAnew 0 = .ok (.aload_n 0, 1) := by decide +kernel
theorem dX2_startAnew_1 : decode cX2_startAnew 1 = .ok (.iload_n 1, 1) := by decide +kernel
theorem dX2_startAnew_2 : decode cX2_startAnew 2 = .ok (.putfield 9, 3) := by decide +kernel
theorem dX2_startAnew_5 : decode cX2_startAnew 5 = .ok (.aload_n 0, 1) := by decide +kernel
theorem dX2_startAnew_6 : decode cX2_startAnew 6 = .ok (.iload_n 2, 1) := by decide +kernel
theorem dX2_startAnew_7 : decode cX2_startAnew 7 = .ok (.putfield 15, 3) := by decide +kernel
theorem dX2_startAnew_10 : decode cX2_startAnew 10 = .ok (.aload_n 0, 1) := by decide +kernel
theorem dX2_startAnew_11 : decode cX2_startAnew 11 = .ok (.iconst 0, 1) := by decide +kernel
theorem dX2_startAnew_12 : decode cX2_startAnew 12 = .ok (.putfield 18, 3) := by decide +kernel
theorem dX2_startAnew_15 : decode cX2_startAnew 15 = .ok (.aload_n 0, 1) := by decide +kernel
theorem dX2_startAnew_16 : decode cX2_startAnew 16 = .ok (.iconst 0, 1) := by decide +kernel
theorem dX2_startAnew_17 : decode cX2_startAnew 17 = .ok (.putfield 21, 3) := by decide +kernel
theorem dX2_startAnew_20 : decode cX2_startAnew 20 = .ok (.aload_n 0, 1) := by decide +kernel
theorem dX2_startAnew_21 : decode cX2_startAnew 21 = .ok (.getfield 24, 3) := by decide +kernel
theorem dX2_startAnew_24 : decode cX2_startAnew 24 = .ok (.iconst (-1), 1) := by decide +kernel
theorem dX2_startAnew_25 : decode cX2_startAnew 25 = .ok (.invokestatic 36, 3) := by decide +kernel
theorem dX2_startAnew_28 : decode cX2_startAnew 28 = .ok (.aload_n 0, 1) := by decide +kernel
theorem dX2_startAnew_29 : decode cX2_startAnew 29 = .ok (.getfield 33, 3) := by decide +kernel
theorem dX2_startAnew_32 : decode cX2_startAnew 32 = .ok (.iconst 0, 1) := by decide +kernel
theorem dX2_startAnew_33 : decode cX2_startAnew 33 = .ok (.invokestatic 36, 3) := by decide +kernel
theorem dX2_startAnew_36 : decode cX2_startAnew 36 = .ok (.return_, 1) := by decide +kernel
set_option maxRecDepth 20000 in
theorem ggX2_copyFrom_X5_copyRow : GoodIn wsX2_copyFrom wsX5_copyRow := goodIn_r _ [10, 11, 12, 13, 14] (by decide +kernel) (by decide +kernel)
set_option maxRecDepth 20000 in
theorem gX2_copyFrom_X5_copyRow_n42 : GoodIn wsX2_copyFrom (wsX5_copyRow) := ggX2_copyFrom_X5_copyRow
theorem dX2_copyFrom_0 : decode cX2_copyFrom 0 = .ok (.aload_n 0, 1) := by decide +kernel
theorem dX2_copyFrom_1 : decode cX2_copyFrom 1 = .ok (.aload_n 1, 1) := by decide +kernel
theorem dX2_copyFrom_2 : decode cX2_copyFrom 2 = .ok (.getfield 9, 3) := by decide +kernel
theorem dX2_copyFrom_5 : decode cX2_copyFrom 5 = .ok (.putfield 9, 3) := by decide +kernel
theorem dX2_copyFrom_8 : decode cX2_copyFrom 8 = .ok (.aload_n 0, 1) := by decide +kernel
theorem dX2_copyFrom_9 : decode cX2_copyFrom 9 = .ok (.aload_n 1, 1) := by decide +kernel
theorem dX2_copyFrom_10 : decode cX2_copyFrom 10 = .ok (.getfield 15, 3) := by decide +kernel
theorem dX2_copyFrom_13 : decode cX2_copyFrom 13 = .ok (.putfield 15, 3) := by decide +kernel
theorem dX2_copyFrom_16 : decode cX2_copyFrom 16 = .ok (.aload_n 0, 1) := by decide +kernel
theorem dX2_copyFrom_17 : decode cX2_copyFrom 17 = .ok (.aload_n 1, 1) := by decide +kernel
theorem dX2_copyFrom_18 : decode cX2_copyFrom 18 = .ok (.getfield 18, 3) := by decide +kernel
theorem dX2_copyFrom_21 : decode cX2_copyFrom 21 = .ok (.putfield 18, 3) := by decide +kernel
theorem dX2_copyFrom_24 : decode cX2_copyFrom 24 = .ok (.aload_n 0, 1) := by decide +kernel
theorem dX2_copyFrom_25 : decode cX2_copyFrom 25 = .ok (.aload_n 1, 1) := by decide +kernel
theorem dX2_copyFrom_26 : decode cX2_copyFrom 26 = .ok (.getfield 21, 3) := by decide +kernel
theorem dX2_copyFrom_29 : decode cX2_copyFrom 29 = .ok (.putfield 21, 3) := by decide +kernel
theorem dX2_copyFrom_32 : decode cX2_copyFrom 32 = .ok (.aload_n 1, 1) := by decide +kernel
theorem dX2_copyFrom_33 : decode cX2_copyFrom 33 = .ok (.getfield 24, 3) := by decide +kernel
theorem dX2_copyFrom_36 : decode cX2_copyFrom 36 = .ok (.aload_n 0, 1) := by decide +kernel
theorem dX2_copyFrom_37 : decode cX2_copyFrom 37 = .ok (.getfield 24, 3) := by decide +kernel
theorem dX2_copyFrom_40 : decode cX2_copyFrom 40 = .ok (.invokestatic 42, 3) := by decide +kernel
theorem dX2_copyFrom_43 : decode cX2_copyFrom 43 = .ok (.iconst 0, 1) := by decide +kernel
theorem dX2_copyFrom_44 : decode cX2_copyFrom 44 = .ok (.istore_n 2, 1) := by decide +kernel
theorem dX2_copyFrom_45 : decode cX2_copyFrom 45 = .ok (.iload_n 2, 1) := by decide +kernel
theorem dX2_copyFrom_46 : decode cX2_copyFrom 46 = .ok (.bipush 6, 2) := by decide +kernel
theorem dX2_copyFrom_48 : decode cX2_copyFrom 48 = .ok (.if_icmp .ge 36, 3) := by decide +kernel
theorem dX2_copyFrom_51 : decode cX2_copyFrom 51 = .ok (.aload_n 1, 1) := by decide +kernel
theorem dX2_copyFrom_52 : decode cX2_copyFrom 52 = .ok (.getfield 30, 3) := by decide +kernel
theorem dX2_copyFrom_55 : decode cX2_copyFrom 55 = .ok (.iload_n 2, 1) := by decide +kernel
theorem dX2_copyFrom_56 : decode cX2_copyFrom 56 = .ok (.aaload, 1) := by decide +kernel
theorem dX2_copyFrom_57 : decode cX2_copyFrom 57 = .ok (.aload_n 0, 1) := by decide +kernel
theorem dX2_copyFrom_58 : decode cX2_copyFrom 58 = .ok (.getfield 30, 3) := by decide +kernel
theorem dX2_copyFrom_61 : decode cX2_copyFrom 61 = .ok (.iload_n 2, 1) := by decide +kernel
theorem dX2_copyFrom_62 : decode cX2_copyFrom 62 = .ok (.aaload, 1) := by decide +kernel
theorem dX2_copyFrom_63 : decode cX2_copyFrom 63 = .ok (.invokestatic 42, 3) := by decide +kernel
theorem dX2_copyFrom_66 : decode cX2_copyFrom 66 = .ok (.aload_n 0, 1) := by decide +kernel
theorem dX2_copyFrom_67 : decode cX2_copyFrom 67 = .ok (.getfield 33, 3) := by decide +kernel
theorem dX2_copyFrom_70 : decode cX2_copyFrom 70 = .ok (.iload_n 2, 1) := by decide +kernel
theorem dX2_copyFrom_71 : decode cX2_copyFrom 71 = .ok (.aload_n 1, 1) := by decide +kernel
theorem dX2_copyFrom_72 : decode cX2_copyFrom 72 = .ok (.getfield 33, 3) := by decide +kernel
theorem dX2_copyFrom_75 : decode cX2_copyFrom 75 = .ok (.iload_n 2, 1) := by decide +kernel
theorem dX2_copyFrom_76 : decode cX2_copyFrom 76 = .ok (.iaload, 1) := by decide +kernel
theorem dX2_copyFrom_77 : decode cX2_copyFrom 77 = .ok (.iastore, 1) := by decide +kernel
theorem dX2_copyFrom_78 : decode cX2_copyFrom 78 = .ok (.iinc 2 1, 3) := by decide +kernel
theorem dX2_copyFrom_81 : decode cX2_copyFrom 81 = .ok (.goto (-36), 3) := by decide +kernel
theorem dX2_copyFrom_84 : decode cX2_copyFrom 84 = .ok (.return_, 1) := by decide +kernel
theorem dX2_hasState_0 : decode cX2_hasState 0 = .ok (.iload_n 1, 1) := by decide +kernel
theorem dX2_hasState_1 : decode cX2_hasState 1 = .ok (.ifCond .lt 15, 3) := by decide +kernel
theorem dX2_hasState_4 : decode cX2_hasState 4 = .ok (.iload_n 1, 1) := by decide +kernel
theorem dX2_hasState_5 : decode cX2_hasState 5 = .ok (.aload_n 0, 1) := by decide +kernel
theorem dX2_hasState_6 : decode cX2_hasState 6 = .ok (.getfield 9, 3) := by decide +kernel
theorem dX2_hasState_9 : decode cX2_hasState 9 = .ok (.if_icmp .ge 7, 3) := by decide +kernel
theorem dX2_hasState_12 : decode cX2_hasState 12 = .ok (.iconst 1, 1) := by decide +kernel
theorem dX2_hasState_13 : decode cX2_hasState 13 = .ok (.goto 4, 3) := by decide +kernel
theorem dX2_hasState_16 : decode cX2_hasState 16 = .ok (.iconst 0, 1) := by decide +kernel
theorem dX2_hasState_17 : decode cX2_hasState 17 = .ok (.ireturn, 1) := by decide +kernel
theorem dX2_hasLetter_0 : decode cX2_hasLetter 0 = .ok (.iload_n 1, 1) := by decide +kernel
theorem dX2_hasLetter_1 : decode cX2_hasLetter 1 = .ok (.ifCond .lt 15, 3) := by decide +kernel
theorem dX2_hasLetter_4 : decode cX2_hasLetter 4 = .ok (.iload_n 1, 1) := by decide +kernel
theorem dX2_hasLetter_5 : decode cX2_hasLetter 5 = .ok (.aload_n 0, 1) := by decide +kernel
theorem dX2_hasLetter_6 : decode cX2_hasLetter 6 = .ok (.getfield 15, 3) := by decide +kernel
theorem dX2_hasLetter_9 : decode cX2_hasLetter 9 = .ok (.if_icmp .ge 7, 3) := by decide +kernel
theorem dX2_hasLetter_12 : decode cX2_hasLetter 12 = .ok (.iconst 1, 1) := by decide +kernel
theorem dX2_hasLetter_13 : decode cX2_hasLetter 13 = .ok (.goto 4, 3) := by decide +kernel
theorem dX2_hasLetter_16 : decode cX2_hasLetter 16 = .ok (.iconst 0, 1) := by decide +kernel
theorem dX2_hasLetter_17 : decode cX2_hasLetter 17 = .ok (.ireturn, 1) := by decide +kernel
set_option maxRecDepth 20000 in
theorem ggX2_hasCell_X2_hasState : GoodIn wsX2_hasCell wsX2_hasState := goodIn_r _ [5, 6, 12, 13, 14, 15, 16, 17, 18] (by decide +kernel) (by decide +kernel)
set_option maxRecDepth 20000 in
theorem gX2_hasCell_X2_hasState : GoodIn wsX2_hasCell (wsV RX2 46 RX2 yX2_hasState wsX2_hasState) := goodIn_app (goodIn_of _ (by decide +kernel)) ggX2_hasCell_X2_hasState
set_option maxRecDepth 20000 in
theorem ggX2_hasCell_X2_hasLetter : GoodIn wsX2_hasCell wsX2_hasLetter := goodIn_r _ [10, 11, 12, 13, 14, 15, 16, 17, 18] (by decide +kernel) (by decide +kernel)
set_option maxRecDepth 20000 in
theorem gX2_hasCell_X2_hasLetter : GoodIn wsX2_hasCell (wsV RX2 50 RX2 yX2_hasLetter wsX2_hasLetter) := goodIn_app (goodIn_of _ (by decide +kernel)) ggX2_hasCell_X2_hasLetter
theorem dX2_hasCell_0 : decode cX2_hasCell 0 = .ok (.aload_n 0, 1) := by decide +kernel
theorem dX2_hasCell_1 : decode cX2_hasCell 1 = .ok (.iload_n 1, 1) := by decide +kernel
theorem dX2_hasCell_2 : decode cX2_hasCell 2 = .ok (.invokevirtual 46, 3) := by decide +kernel
theorem dX2_hasCell_5 : decode cX2_hasCell 5 = .ok (.ifCond .eq 15, 3) := by decide +kernel
theorem dX2_hasCell_8 : decode cX2_hasCell 8 = .ok (.aload_n 0, 1) := by decide +kernel
theorem dX2_hasCell_9 : decode cX2_hasCell 9 = .ok (.iload_n 2, 1) := by decide +kernel
theorem dX2_hasCell_10 : decode cX2_hasCell 10 = .ok (.invokevirtual 50, 3) := by decide +kernel
theorem dX2_hasCell_13 : decode cX2_hasCell 13 = .ok (.ifCond .eq 7, 3) := by decide +kernel
theorem dX2_hasCell_16 : decode cX2_hasCell 16 = .ok (.iconst 1, 1) := by decide +kernel
theorem dX2_hasCell_17 : decode cX2_hasCell 17 = .ok (.goto 4, 3) := by decide +kernel
theorem dX2_hasCell_20 : decode cX2_hasCell 20 = .ok (.iconst 0, 1) := by decide +kernel
theorem dX2_hasCell_21 : decode cX2_hasCell 21 = .ok (.ireturn, 1) := by decide +kernel
theorem dX2_hasFeature_0 : decode cX2_hasFeature 0 = .ok (.iload_n 1, 1) := by decide +kernel
theorem dX2_hasFeature_1 : decode cX2_hasFeature 1 = .ok (.ifCond .lt 15, 3) := by decide +kernel
theorem dX2_hasFeature_4 : decode cX2_hasFeature 4 = .ok (.iload_n 1, 1) := by decide +kernel
theorem dX2_hasFeature_5 : decode cX2_hasFeature 5 = .ok (.aload_n 0, 1) := by decide +kernel
theorem dX2_hasFeature_6 : decode cX2_hasFeature 6 = .ok (.getfield 18, 3) := by decide +kernel
theorem dX2_hasFeature_9 : decode cX2_hasFeature 9 = .ok (.if_icmp .ge 7, 3) := by decide +kernel
theorem dX2_hasFeature_12 : decode cX2_hasFeature 12 = .ok (.iconst 1, 1) := by decide +kernel
theorem dX2_hasFeature_13 : decode cX2_hasFeature 13 = .ok (.goto 4, 3) := by decide +kernel
theorem dX2_hasFeature_16 : decode cX2_hasFeature 16 = .ok (.iconst 0, 1) := by decide +kernel
theorem dX2_hasFeature_17 : decode cX2_hasFeature 17 = .ok (.ireturn, 1) := by decide +kernel
set_option maxRecDepth 20000 in
theorem ggX2_makeFeature_J7_fill_53178 : GoodIn wsX2_makeFeature wsJ7_fill_53178 := goodIn_r _ [6] (by decide +kernel) (by decide +kernel)
set_option maxRecDepth 20000 in
theorem gX2_makeFeature_J7_fill_53178 : GoodIn wsX2_makeFeature (va_wsS RX2 36 yJ7_fill_53178 wsJ7_fill_53178) := goodIn_app (goodIn_of _ (by decide +kernel)) ggX2_makeFeature_J7_fill_53178
set_option maxRecDepth 20000 in
theorem ggX2_makeFeature_X2_turn : GoodIn wsX2_makeFeature wsX2_turn := goodIn_r _ [11, 12, 13, 14, 15, 16, 17, 18, 19] (by decide +kernel) (by decide +kernel)
set_option maxRecDepth 20000 in
theorem gX2_makeFeature_X2_turn : GoodIn wsX2_makeFeature (wsV RX2 53 RX2 yX2_turn wsX2_turn) := goodIn_app (goodIn_of _ (by decide +kernel)) ggX2_makeFeature_X2_turn
theorem dX2_makeFeature_0 : decode cX2_makeFeature 0 = .ok (.aload_n 0, 1) := by decide +kernel
theorem dX2_makeFeature_1 : decode cX2_makeFeature 1 = .ok (.getfield 18, 3) := by decide +kernel
theorem dX2_makeFeature_4 : decode cX2_makeFeature 4 = .ok (.istore_n 1, 1) := by decide +kernel
theorem dX2_makeFeature_5 : decode cX2_makeFeature 5 = .ok (.aload_n 0, 1) := by decide +kernel
theorem dX2_makeFeature_6 : decode cX2_makeFeature 6 = .ok (.getfield 30, 3) := by decide +kernel
theorem dX2_makeFeature_9 : decode cX2_makeFeature 9 = .ok (.iload_n 1, 1) := by decide +kernel
theorem dX2_makeFeature_10 : decode cX2_makeFeature 10 = .ok (.aaload, 1) := by decide +kernel
theorem dX2_makeFeature_11 : decode cX2_makeFeature 11 = .ok (.bipush (-2), 2) := by decide +kernel
theorem dX2_makeFeature_13 : decode cX2_makeFeature 13 = .ok (.invokestatic 36, 3) := by decide +kernel
theorem dX2_makeFeature_16 : decode cX2_makeFeature 16 = .ok (.aload_n 0, 1) := by decide +kernel
theorem dX2_makeFeature_17 : decode cX2_makeFeature 17 = .ok (.iload_n 1, 1) := by decide +kernel
theorem dX2_makeFeature_18 : decode cX2_makeFeature 18 = .ok (.iconst 1, 1) := by decide +kernel
theorem dX2_makeFeature_19 : decode cX2_makeFeature 19 = .ok (.invokevirtual 53, 3) := by decide +kernel
theorem dX2_makeFeature_22 : decode cX2_makeFeature 22 = .ok (.aload_n 0, 1) := by decide +kernel
theorem dX2_makeFeature_23 : decode cX2_makeFeature 23 = .ok (.dup, 1) := by decide +kernel
theorem dX2_makeFeature_24 : decode cX2_makeFeature 24 = .ok (.getfield 18, 3) := by decide +kernel
theorem dX2_makeFeature_27 : decode cX2_makeFeature 27 = .ok (.iconst 1, 1) := by decide +kernel
theorem dX2_makeFeature_28 : decode cX2_makeFeature 28 = .ok (.iadd, 1) := by decide +kernel
theorem dX2_makeFeature_29 : decode cX2_makeFeature 29 = .ok (.putfield 18, 3) := by decide +kernel
theorem dX2_makeFeature_32 : decode cX2_makeFeature 32 = .ok (.iload_n 1, 1) := by decide +kernel
theorem dX2_makeFeature_33 : decode cX2_makeFeature 33 = .ok (.ireturn, 1) := by decide +kernel
theorem dX2_countEdits_0 : decode cX2_countEdits 0 = .ok (.iconst 0, 1) := by decide +kernel
theorem dX2_countEdits_1 : decode cX2_countEdits 1 = .ok (.istore_n 2, 1) := by decide +kernel
theorem dX2_countEdits_2 : decode cX2_countEdits 2 = .ok (.iconst 0, 1) := by decide +kernel
theorem dX2_countEdits_3 : decode cX2_countEdits 3 = .ok (.istore_n 3, 1) := by decide +kernel
theorem dX2_countEdits_4 : decode cX2_countEdits 4 = .ok (.iload_n 3, 1) := by decide +kernel
theorem dX2_countEdits_5 : decode cX2_countEdits 5 = .ok (.bipush 32, 2) := by decide +kernel
theorem dX2_countEdits_7 : decode cX2_countEdits 7 = .ok (.if_icmp .ge 25, 3) := by decide +kernel
theorem dX2_countEdits_10 : decode cX2_countEdits 10 = .ok (.aload_n 0, 1) := by decide +kernel
theorem dX2_countEdits_11 : decode cX2_countEdits 11 = .ok (.getfield 30, 3) := by decide +kernel
theorem dX2_countEdits_14 : decode cX2_countEdits 14 = .ok (.iload_n 1, 1) := by decide +kernel
theorem dX2_countEdits_15 : decode cX2_countEdits 15 = .ok (.aaload, 1) := by decide +kernel
theorem dX2_countEdits_16 : decode cX2_countEdits 16 = .ok (.iload_n 3, 1) := by decide +kernel
theorem dX2_countEdits_17 : decode cX2_countEdits 17 = .ok (.iaload, 1) := by decide +kernel
theorem dX2_countEdits_18 : decode cX2_countEdits 18 = .ok (.bipush (-2), 2) := by decide +kernel
theorem dX2_countEdits_20 : decode cX2_countEdits 20 = .ok (.if_icmp .eq 6, 3) := by decide +kernel
theorem dX2_countEdits_23 : decode cX2_countEdits 23 = .ok (.iinc 2 1, 3) := by decide +kernel
theorem dX2_countEdits_26 : decode cX2_countEdits 26 = .ok (.iinc 3 1, 3) := by decide +kernel
theorem dX2_countEdits_29 : decode cX2_countEdits 29 = .ok (.goto (-25), 3) := by decide +kernel
theorem dX2_countEdits_32 : decode cX2_countEdits 32 = .ok (.iload_n 2, 1) := by decide +kernel
theorem dX2_countEdits_33 : decode cX2_countEdits 33 = .ok (.ireturn, 1) := by decide +kernel
set_option maxRecDepth 20000 in
theorem ggX2_isOn_X5_hasBit : GoodIn wsX2_isOn wsX5_hasBit := goodIn_r _ [4] (by decide +kernel) (by decide +kernel)
set_option maxRecDepth 20000 in
theorem gX2_isOn_X5_hasBit_n57 : GoodIn wsX2_isOn (wsX5_hasBit) := ggX2_isOn_X5_hasBit
theorem dX2_isOn_0 : decode cX2_isOn 0 = .ok (.aload_n 0, 1) := by decide +kernel
theorem dX2_isOn_1 : decode cX2_isOn 1 = .ok (.getfield 21, 3) := by decide +kernel
theorem dX2_isOn_4 : decode cX2_isOn 4 = .ok (.iload_n 1, 1) := by decide +kernel
theorem dX2_isOn_5 : decode cX2_isOn 5 = .ok (.invokestatic 57, 3) := by decide +kernel
theorem dX2_isOn_8 : decode cX2_isOn 8 = .ok (.ireturn, 1) := by decide +kernel
theorem dX2_turn_0 : decode cX2_turn 0 = .ok (.aload_n 0, 1) := by decide +kernel
theorem dX2_turn_1 : decode cX2_turn 1 = .ok (.iload_n 2, 1) := by decide +kernel
theorem dX2_turn_2 : decode cX2_turn 2 = .ok (.ifCond .eq 14, 3) := by decide +kernel
theorem dX2_turn_5 : decode cX2_turn 5 = .ok (.aload_n 0, 1) := by decide +kernel
theorem dX2_turn_6 : decode cX2_turn 6 = .ok (.getfield 21, 3) := by decide +kernel
theorem dX2_turn_9 : decode cX2_turn 9 = .ok (.iconst 1, 1) := by decide +kernel
theorem dX2_turn_10 : decode cX2_turn 10 = .ok (.iload_n 1, 1) := by decide +kernel
theorem dX2_turn_11 : decode cX2_turn 11 = .ok (.ishl, 1) := by decide +kernel
theorem dX2_turn_12 : decode cX2_turn 12 = .ok (.ior, 1) := by decide +kernel
theorem dX2_turn_13 : decode cX2_turn 13 = .ok (.goto 13, 3) := by decide +kernel
theorem dX2_turn_16 : decode cX2_turn 16 = .ok (.aload_n 0, 1) := by decide +kernel
theorem dX2_turn_17 : decode cX2_turn 17 = .ok (.getfield 21, 3) := by decide +kernel
theorem dX2_turn_20 : decode cX2_turn 20 = .ok (.iconst 1, 1) := by decide +kernel
theorem dX2_turn_21 : decode cX2_turn 21 = .ok (.iload_n 1, 1) := by decide +kernel
theorem dX2_turn_22 : decode cX2_turn 22 = .ok (.ishl, 1) := by decide +kernel
theorem dX2_turn_23 : decode cX2_turn 23 = .ok (.iconst (-1), 1) := by decide +kernel
theorem dX2_turn_24 : decode cX2_turn 24 = .ok (.ixor, 1) := by decide +kernel
theorem dX2_turn_25 : decode cX2_turn 25 = .ok (.iand, 1) := by decide +kernel
theorem dX2_turn_26 : decode cX2_turn 26 = .ok (.putfield 21, 3) := by decide +kernel
theorem dX2_turn_29 : decode cX2_turn 29 = .ok (.return_, 1) := by decide +kernel
set_option maxRecDepth 20000 in
theorem ggX2_stands_X5_hasBit : GoodIn wsX2_stands wsX5_hasBit := goodIn_r _ [4] (by decide +kernel) (by decide +kernel)
set_option maxRecDepth 20000 in
theorem gX2_stands_X5_hasBit_n57 : GoodIn wsX2_stands (wsX5_hasBit) := ggX2_stands_X5_hasBit
theorem dX2_stands_0 : decode cX2_stands 0 = .ok (.aload_n 0, 1) := by decide +kernel
theorem dX2_stands_1 : decode cX2_stands 1 = .ok (.getfield 33, 3) := by decide +kernel
theorem dX2_stands_4 : decode cX2_stands 4 = .ok (.iload_n 2, 1) := by decide +kernel
theorem dX2_stands_5 : decode cX2_stands 5 = .ok (.iaload, 1) := by decide +kernel
theorem dX2_stands_6 : decode cX2_stands 6 = .ok (.iload_n 1, 1) := by decide +kernel
theorem dX2_stands_7 : decode cX2_stands 7 = .ok (.invokestatic 57, 3) := by decide +kernel
theorem dX2_stands_10 : decode cX2_stands 10 = .ok (.ireturn, 1) := by decide +kernel
set_option maxRecDepth 20000 in
theorem ggX2_prefer_X2_stands : GoodIn wsX2_prefer wsX2_stands := goodIn_r _ [6, 1, 7, 8, 9, 10, 11, 12, 13, 14, 15, 16] (by decide +kernel) (by decide +kernel)
set_option maxRecDepth 20000 in
theorem gX2_prefer_X2_stands : GoodIn wsX2_prefer (wsV RX2 61 RX2 yX2_stands wsX2_stands) := goodIn_app (goodIn_of _ (by decide +kernel)) ggX2_prefer_X2_stands
theorem dX2_prefer_0 : decode cX2_prefer 0 = .ok (.aload_n 0, 1) := by decide +kernel
theorem dX2_prefer_1 : decode cX2_prefer 1 = .ok (.getfield 33, 3) := by decide +kernel
theorem dX2_prefer_4 : decode cX2_prefer 4 = .ok (.iload_n 1, 1) := by decide +kernel
theorem dX2_prefer_5 : decode cX2_prefer 5 = .ok (.iaload, 1) := by decide +kernel
theorem dX2_prefer_6 : decode cX2_prefer 6 = .ok (.iconst 1, 1) := by decide +kernel
theorem dX2_prefer_7 : decode cX2_prefer 7 = .ok (.iload_n 1, 1) := by decide +kernel
theorem dX2_prefer_8 : decode cX2_prefer 8 = .ok (.ishl, 1) := by decide +kernel
theorem dX2_prefer_9 : decode cX2_prefer 9 = .ok (.ior, 1) := by decide +kernel
theorem dX2_prefer_10 : decode cX2_prefer 10 = .ok (.istore_n 3, 1) := by decide +kernel
theorem dX2_prefer_11 : decode cX2_prefer 11 = .ok (.iconst 0, 1) := by decide +kernel
theorem dX2_prefer_12 : decode cX2_prefer 12 = .ok (.istore 4, 2) := by decide +kernel
theorem dX2_prefer_14 : decode cX2_prefer 14 = .ok (.iload 4, 2) := by decide +kernel
theorem dX2_prefer_16 : decode cX2_prefer 16 = .ok (.bipush 6, 2) := by decide +kernel
theorem dX2_prefer_18 : decode cX2_prefer 18 = .ok (.if_icmp .ge 36, 3) := by decide +kernel
theorem dX2_prefer_21 : decode cX2_prefer 21 = .ok (.iload 4, 2) := by decide +kernel
theorem dX2_prefer_23 : decode cX2_prefer 23 = .ok (.iload_n 2, 1) := by decide +kernel
theorem dX2_prefer_24 : decode cX2_prefer 24 = .ok (.if_icmp .eq 13, 3) := by decide +kernel
theorem dX2_prefer_27 : decode cX2_prefer 27 = .ok (.aload_n 0, 1) := by decide +kernel
theorem dX2_prefer_28 : decode cX2_prefer 28 = .ok (.iload_n 2, 1) := by decide +kernel
theorem dX2_prefer_29 : decode cX2_prefer 29 = .ok (.iload 4, 2) := by decide +kernel
theorem dX2_prefer_31 : decode cX2_prefer 31 = .ok (.invokevirtual 61, 3) := by decide +kernel
theorem dX2_prefer_34 : decode cX2_prefer 34 = .ok (.ifCond .eq 14, 3) := by decide +kernel
theorem dX2_prefer_37 : decode cX2_prefer 37 = .ok (.aload_n 0, 1) := by decide +kernel
theorem dX2_prefer_38 : decode cX2_prefer 38 = .ok (.getfield 33, 3) := by decide +kernel
theorem dX2_prefer_41 : decode cX2_prefer 41 = .ok (.iload 4, 2) := by decide +kernel
theorem dX2_prefer_43 : decode cX2_prefer 43 = .ok (.dup2, 1) := by decide +kernel
theorem dX2_prefer_44 : decode cX2_prefer 44 = .ok (.iaload, 1) := by decide +kernel
theorem dX2_prefer_45 : decode cX2_prefer 45 = .ok (.iload_n 3, 1) := by decide +kernel
theorem dX2_prefer_46 : decode cX2_prefer 46 = .ok (.ior, 1) := by decide +kernel
theorem dX2_prefer_47 : decode cX2_prefer 47 = .ok (.iastore, 1) := by decide +kernel
theorem dX2_prefer_48 : decode cX2_prefer 48 = .ok (.iinc 4 1, 3) := by decide +kernel
theorem dX2_prefer_51 : decode cX2_prefer 51 = .ok (.goto (-37), 3) := by decide +kernel
theorem dX2_prefer_54 : decode cX2_prefer 54 = .ok (.return_, 1) := by decide +kernel
set_option maxRecDepth 20000 in
theorem ggX2_countPriorities_J6_bitCount_0f7a4 : GoodIn wsX2_countPriorities wsJ6_bitCount_0f7a4 := goodIn_r _ [5, 6, 7, 8] (by decide +kernel) (by decide +kernel)
set_option maxRecDepth 20000 in
theorem gX2_countPriorities_J6_bitCount_0f7a4 : GoodIn wsX2_countPriorities (va_wsS RX2 64 yJ6_bitCount_0f7a4 wsJ6_bitCount_0f7a4) := goodIn_app (goodIn_of _ (by decide +kernel)) ggX2_countPriorities_J6_bitCount_0f7a4
theorem dX2_countPriorities_0 : decode cX2_countPriorities 0 = .ok (.iconst 0, 1) := by decide +kernel
theorem dX2_countPriorities_1 : decode cX2_countPriorities 1 = .ok (.istore_n 1, 1) := by decide +kernel
theorem dX2_countPriorities_2 : decode cX2_countPriorities 2 = .ok (.iconst 0, 1) := by decide +kernel
theorem dX2_countPriorities_3 : decode cX2_countPriorities 3 = .ok (.istore_n 2, 1) := by decide +kernel
theorem dX2_countPriorities_4 : decode cX2_countPriorities 4 = .ok (.iload_n 2, 1) := by decide +kernel
theorem dX2_countPriorities_5 : decode cX2_countPriorities 5 = .ok (.bipush 6, 2) := by decide +kernel
theorem dX2_countPriorities_7 : decode cX2_countPriorities 7 = .ok (.if_icmp .ge 21, 3) := by decide +kernel
theorem dX2_countPriorities_10 : decode cX2_countPriorities 10 = .ok (.iload_n 1, 1) := by decide +kernel
theorem dX2_countPriorities_11 : decode cX2_countPriorities 11 = .ok (.aload_n 0, 1) := by decide +kernel
theorem dX2_countPriorities_12 : decode cX2_countPriorities 12 = .ok (.getfield 33, 3) := by decide +kernel
theorem dX2_countPriorities_15 : decode cX2_countPriorities 15 = .ok (.iload_n 2, 1) := by decide +kernel
theorem dX2_countPriorities_16 : decode cX2_countPriorities 16 = .ok (.iaload, 1) := by decide +kernel
theorem dX2_countPriorities_17 : decode cX2_countPriorities 17 = .ok (.invokestatic 64, 3) := by decide +kernel
theorem dX2_countPriorities_20 : decode cX2_countPriorities 20 = .ok (.iadd, 1) := by decide +kernel
theorem dX2_countPriorities_21 : decode cX2_countPriorities 21 = .ok (.istore_n 1, 1) := by decide +kernel
theorem dX2_countPriorities_22 : decode cX2_countPriorities 22 = .ok (.iinc 2 1, 3) := by decide +kernel
theorem dX2_countPriorities_25 : decode cX2_countPriorities 25 = .ok (.goto (-21), 3) := by decide +kernel
theorem dX2_countPriorities_28 : decode cX2_countPriorities 28 = .ok (.iload_n 1, 1) := by decide +kernel
theorem dX2_countPriorities_29 : decode cX2_countPriorities 29 = .ok (.ireturn, 1) := by decide +kernel
theorem dX3_init_0 : decode cX3_init 0 = .ok (.aload_n 0, 1) := by decide +kernel
theorem dX3_init_1 : decode cX3_init 1 = .ok (.invokespecial 5, 3) := by decide +kernel
theorem dX3_init_4 : decode cX3_init 4 = .ok (.aload_n 0, 1) := by decide +kernel
theorem dX3_init_5 : decode cX3_init 5 = .ok (.iconst 4, 1) := by decide +kernel
theorem dX3_init_6 : decode cX3_init 6 = .ok (.newarray .long, 2) := by decide +kernel
theorem dX3_init_8 : decode cX3_init 8 = .ok (.putfield 11, 3) := by decide +kernel
theorem dX3_init_11 : decode cX3_init 11 = .ok (.aload_n 0, 1) := by decide +kernel
theorem dX3_init_12 : decode cX3_init 12 = .ok (.bipush 8, 2) := by decide +kernel
theorem dX3_init_14 : decode cX3_init 14 = .ok (.newarray .int, 2) := by decide +kernel
theorem dX3_init_16 : decode cX3_init 16 = .ok (.putfield 15, 3) := by decide +kernel
theorem dX3_init_19 : decode cX3_init 19 = .ok (.aload_n 0, 1) := by decide +kernel
theorem dX3_init_20 : decode cX3_init 20 = .ok (.bipush 8, 2) := by decide +kernel
theorem dX3_init_22 : decode cX3_init 22 = .ok (.newarray .int, 2) := by decide +kernel
theorem dX3_init_24 : decode cX3_init 24 = .ok (.putfield 19, 3) := by decide +kernel
theorem dX3_init_27 : decode cX3_init 27 = .ok (.aload_n 0, 1) := by decide +kernel
theorem dX3_init_28 : decode cX3_init 28 = .ok (.bipush 8, 2) := by decide +kernel
theorem dX3_init_30 : decode cX3_init 30 = .ok (.newarray .int, 2) := by decide +kernel
theorem dX3_init_32 : decode cX3_init 32 = .ok (.putfield 22, 3) := by decide +kernel
theorem dX3_init_35 : decode cX3_init 35 = .ok (.aload_n 0, 1) := by decide +kernel
theorem dX3_init_36 : decode cX3_init 36 = .ok (.bipush 8, 2) := by decide +kernel
theorem dX3_init_38 : decode cX3_init 38 = .ok (.newarray .int, 2) := by decide +kernel
theorem dX3_init_40 : decode cX3_init 40 = .ok (.putfield 25, 3) := by decide +kernel
theorem dX3_init_43 : decode cX3_init 43 = .ok (.aload_n 0, 1) := by decide +kernel
theorem dX3_init_44 : decode cX3_init 44 = .ok (.iconst 0, 1) := by decide +kernel
theorem dX3_init_45 : decode cX3_init 45 = .ok (.putfield 28, 3) := by decide +kernel
theorem dX3_init_48 : decode cX3_init 48 = .ok (.return_, 1) := by decide +kernel
set_option maxRecDepth 20000 in
theorem ggX3_take_X3_groupStates : GoodIn wsX3_take wsX3_groupStates := goodIn_r _ [9, 10, 11, 12, 13, 14, 15, 16, 17, 8, 18, 19, 20, 21, 22, 23, 24, 25, 26, 27, 28, 29, 30, 31, 43, 44, 45, 46, 47, 48] (by decide +kernel) (by decide +kernel)
set_option maxRecDepth 20000 in
theorem gX3_take_X3_groupStates : GoodIn wsX3_take (wsV RX3 32 RX3 yX3_groupStates wsX3_groupStates) := goodIn_app (goodIn_of _ (by decide +kernel)) ggX3_take_X3_groupStates
set_option maxRecDepth 20000 in
theorem ggX3_take_X3_numberGroups : GoodIn wsX3_take wsX3_numberGroups := goodIn_r _ [35, 4, 2, 3, 12, 13, 14, 15, 36, 37, 38, 8, 39, 10, 19, 20, 21, 22, 23, 43, 44, 45, 46, 47, 48] (by decide +kernel) (by decide +kernel)
set_option maxRecDepth 20000 in
theorem gX3_take_X3_numberGroups : GoodIn wsX3_take (wsV RX3 36 RX3 yX3_numberGroups wsX3_numberGroups) := goodIn_app (goodIn_of _ (by decide +kernel)) ggX3_take_X3_numberGroups
set_option maxRecDepth 20000 in
theorem ggX3_take_J7_fill_d0a16 : GoodIn wsX3_take wsJ7_fill_d0a16 := goodIn_r _ [42] (by decide +kernel) (by decide +kernel)
set_option maxRecDepth 20000 in
theorem gX3_take_J7_fill_d0a16 : GoodIn wsX3_take (va_wsS RX3 39 yJ7_fill_d0a16 wsJ7_fill_d0a16) := goodIn_app (goodIn_of _ (by decide +kernel)) ggX3_take_J7_fill_d0a16
set_option maxRecDepth 20000 in
theorem ggX3_take_X3_signatureOf : GoodIn wsX3_take wsX3_signatureOf := goodIn_r _ [18, 19, 20, 21, 22, 23, 24, 25, 26, 27] (by decide +kernel) (by decide +kernel)
set_option maxRecDepth 20000 in
theorem gX3_take_X3_signatureOf : GoodIn wsX3_take (va_wsS RX3 45 yX3_signatureOf wsX3_signatureOf) := goodIn_app (goodIn_of _ (by decide +kernel)) ggX3_take_X3_signatureOf
theorem dX3_take_0 : decode cX3_take 0 = .ok (.aload_n 0, 1) := by decide +kernel
theorem dX3_take_1 : decode cX3_take 1 = .ok (.aload_n 1, 1) := by decide +kernel
theorem dX3_take_2 : decode cX3_take 2 = .ok (.iload_n 2, 1) := by decide +kernel
theorem dX3_take_3 : decode cX3_take 3 = .ok (.iload_n 3, 1) := by decide +kernel
theorem dX3_take_4 : decode cX3_take 4 = .ok (.invokevirtual 32, 3) := by decide +kernel
theorem dX3_take_7 : decode cX3_take 7 = .ok (.aload_n 0, 1) := by decide +kernel
theorem dX3_take_8 : decode cX3_take 8 = .ok (.aload_n 1, 1) := by decide +kernel
theorem dX3_take_9 : decode cX3_take 9 = .ok (.iload_n 2, 1) := by decide +kernel
theorem dX3_take_10 : decode cX3_take 10 = .ok (.iload_n 3, 1) := by decide +kernel
theorem dX3_take_11 : decode cX3_take 11 = .ok (.invokevirtual 36, 3) := by decide +kernel
theorem dX3_take_14 : decode cX3_take 14 = .ok (.aload_n 0, 1) := by decide +kernel
theorem dX3_take_15 : decode cX3_take 15 = .ok (.getfield 11, 3) := by decide +kernel
theorem dX3_take_18 : decode cX3_take 18 = .ok (.lconst 0, 1) := by decide +kernel
theorem dX3_take_19 : decode cX3_take 19 = .ok (.invokestatic 39, 3) := by decide +kernel
theorem dX3_take_22 : decode cX3_take 22 = .ok (.iconst 0, 1) := by decide +kernel
theorem dX3_take_23 : decode cX3_take 23 = .ok (.istore 4, 2) := by decide +kernel
theorem dX3_take_25 : decode cX3_take 25 = .ok (.iload 4, 2) := by decide +kernel
theorem dX3_take_27 : decode cX3_take 27 = .ok (.aload_n 0, 1) := by decide +kernel
theorem dX3_take_28 : decode cX3_take 28 = .ok (.getfield 28, 3) := by decide +kernel
theorem dX3_take_31 : decode cX3_take 31 = .ok (.if_icmp .ge 52, 3) := by decide +kernel
theorem dX3_take_34 : decode cX3_take 34 = .ok (.aload_n 1, 1) := by decide +kernel
theorem dX3_take_35 : decode cX3_take 35 = .ok (.aload_n 0, 1) := by decide +kernel
theorem dX3_take_36 : decode cX3_take 36 = .ok (.getfield 25, 3) := by decide +kernel
theorem dX3_take_39 : decode cX3_take 39 = .ok (.iload 4, 2) := by decide +kernel
theorem dX3_take_41 : decode cX3_take 41 = .ok (.iaload, 1) := by decide +kernel
theorem dX3_take_42 : decode cX3_take 42 = .ok (.iload_n 3, 1) := by decide +kernel
theorem dX3_take_43 : decode cX3_take 43 = .ok (.aload_n 0, 1) := by decide +kernel
theorem dX3_take_44 : decode cX3_take 44 = .ok (.getfield 22, 3) := by decide +kernel
theorem dX3_take_47 : decode cX3_take 47 = .ok (.invokestatic 45, 3) := by decide +kernel
theorem dX3_take_50 : decode cX3_take 50 = .ok (.istore 5, 2) := by decide +kernel
theorem dX3_take_52 : decode cX3_take 52 = .ok (.aload_n 0, 1) := by decide +kernel
theorem dX3_take_53 : decode cX3_take 53 = .ok (.getfield 11, 3) := by decide +kernel
theorem dX3_take_56 : decode cX3_take 56 = .ok (.iload 4, 2) := by decide +kernel
theorem dX3_take_58 : decode cX3_take 58 = .ok (.iconst 2, 1) := by decide +kernel
theorem dX3_take_59 : decode cX3_take 59 = .ok (.idiv, 1) := by decide +kernel
theorem dX3_take_60 : decode cX3_take 60 = .ok (.aload_n 0, 1) := by decide +kernel
theorem dX3_take_61 : decode cX3_take 61 = .ok (.getfield 11, 3) := by decide +kernel
theorem dX3_take_64 : decode cX3_take 64 = .ok (.iload 4, 2) := by decide +kernel
theorem dX3_take_66 : decode cX3_take 66 = .ok (.iconst 2, 1) := by decide +kernel
theorem dX3_take_67 : decode cX3_take 67 = .ok (.idiv, 1) := by decide +kernel
theorem dX3_take_68 : decode cX3_take 68 = .ok (.laload, 1) := by decide +kernel
theorem dX3_take_69 : decode cX3_take 69 = .ok (.bipush 28, 2) := by decide +kernel
theorem dX3_take_71 : decode cX3_take 71 = .ok (.lshl, 1) := by decide +kernel
theorem dX3_take_72 : decode cX3_take 72 = .ok (.iload 5, 2) := by decide +kernel
theorem dX3_take_74 : decode cX3_take 74 = .ok (.i2l, 1) := by decide +kernel
theorem dX3_take_75 : decode cX3_take 75 = .ok (.lor, 1) := by decide +kernel
theorem dX3_take_76 : decode cX3_take 76 = .ok (.lastore, 1) := by decide +kernel
theorem dX3_take_77 : decode cX3_take 77 = .ok (.iinc 4 1, 3) := by decide +kernel
theorem dX3_take_80 : decode cX3_take 80 = .ok (.goto (-55), 3) := by decide +kernel
theorem dX3_take_83 : decode cX3_take 83 = .ok (.return_, 1) := by decide +kernel
set_option maxRecDepth 20000 in
theorem ggX3_groupStates_J7_fill_53178 : GoodIn wsX3_groupStates wsJ7_fill_53178 := goodIn_r _ [6] (by decide +kernel) (by decide +kernel)
set_option maxRecDepth 20000 in
theorem gX3_groupStates_J7_fill_53178 : GoodIn wsX3_groupStates (va_wsS RX3 49 yJ7_fill_53178 wsJ7_fill_53178) := goodIn_app (goodIn_of _ (by decide +kernel)) ggX3_groupStates_J7_fill_53178
set_option maxRecDepth 20000 in
theorem ggX3_groupStates_X3_signatureOf : GoodIn wsX3_groupStates wsX3_signatureOf := goodIn_r _ [10, 11, 12, 13, 14, 15, 16, 17, 18, 19] (by decide +kernel) (by decide +kernel)
set_option maxRecDepth 20000 in
theorem gX3_groupStates_X3_signatureOf : GoodIn wsX3_groupStates (va_wsS RX3 45 yX3_signatureOf wsX3_signatureOf) := goodIn_app (goodIn_of _ (by decide +kernel)) ggX3_groupStates_X3_signatureOf
set_option maxRecDepth 20000 in
theorem ggX3_groupStates_X3_groupBySignature : GoodIn wsX3_groupStates wsX3_groupBySignature := goodIn_r _ [23, 2, 1, 24, 25, 26, 27, 28, 29] (by decide +kernel) (by decide +kernel)
set_option maxRecDepth 20000 in
theorem gX3_groupStates_X3_groupBySignature : GoodIn wsX3_groupStates (wsV RX3 52 RX3 yX3_groupBySignature wsX3_groupBySignature) := goodIn_app (goodIn_of _ (by decide +kernel)) ggX3_groupStates_X3_groupBySignature
theorem dX3_groupStates_0 : decode cX3_groupStates 0 = .ok (.aload_n 0, 1) := by decide +kernel
theorem dX3_groupStates_1 : decode cX3_groupStates 1 = .ok (.getfield 15, 3) := by decide +kernel
theorem dX3_groupStates_4 : decode cX3_groupStates 4 = .ok (.iconst 0, 1) := by decide +kernel
theorem dX3_groupStates_5 : decode cX3_groupStates 5 = .ok (.invokestatic 49, 3) := by decide +kernel
theorem dX3_groupStates_8 : decode cX3_groupStates 8 = .ok (.iconst 1, 1) := by decide +kernel
theorem dX3_groupStates_9 : decode cX3_groupStates 9 = .ok (.istore 4, 2) := by decide +kernel
theorem dX3_groupStates_11 : decode cX3_groupStates 11 = .ok (.iconst 1, 1) := by decide +kernel
theorem dX3_groupStates_12 : decode cX3_groupStates 12 = .ok (.istore 5, 2) := by decide +kernel
theorem dX3_groupStates_14 : decode cX3_groupStates 14 = .ok (.iconst 0, 1) := by decide +kernel
theorem dX3_groupStates_15 : decode cX3_groupStates 15 = .ok (.istore 6, 2) := by decide +kernel
theorem dX3_groupStates_17 : decode cX3_groupStates 17 = .ok (.iload 6, 2) := by decide +kernel
theorem dX3_groupStates_19 : decode cX3_groupStates 19 = .ok (.iload_n 2, 1) := by decide +kernel
theorem dX3_groupStates_20 : decode cX3_groupStates 20 = .ok (.if_icmp .ge 72, 3) := by decide +kernel
theorem dX3_groupStates_23 : decode cX3_groupStates 23 = .ok (.iload 5, 2) := by decide +kernel
theorem dX3_groupStates_25 : decode cX3_groupStates 25 = .ok (.ifCond .eq 67, 3) := by decide +kernel
theorem dX3_groupStates_28 : decode cX3_groupStates 28 = .ok (.iconst 0, 1) := by decide +kernel
theorem dX3_groupStates_29 : decode cX3_groupStates 29 = .ok (.istore 7, 2) := by decide +kernel
