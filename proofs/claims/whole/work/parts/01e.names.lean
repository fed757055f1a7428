theorem dX5_checksum_0 : decode cX5_checksum 0 = .ok (.ldc2_w 235, 3) := by decide +kernel
theorem dX5_checksum_3 : decode cX5_checksum 3 = .ok (.aload_n 0, 1) := by decide +kernel
theorem dX5_checksum_4 : decode cX5_checksum 4 = .ok (.invokevirtual 237, 3) := by decide +kernel
theorem dX5_checksum_7 : decode cX5_checksum 7 = .ok (.invokestatic 240, 3) := by decide +kernel
theorem dX5_checksum_10 : decode cX5_checksum 10 = .ok (.lstore_n 1, 1) := by decide +kernel
theorem dX5_checksum_11 : decode cX5_checksum 11 = .ok (.iconst 0, 1) := by decide +kernel
theorem dX5_checksum_12 : decode cX5_checksum 12 = .ok (.istore_n 3, 1) := by decide +kernel
theorem dX5_checksum_13 : decode cX5_checksum 13 = .ok (.iload_n 3, 1) := by decide +kernel
theorem dX5_checksum_14 : decode cX5_checksum 14 = .ok (.aload_n 0, 1) := by decide +kernel
theorem dX5_checksum_15 : decode cX5_checksum 15 = .ok (.getfield 12, 3) := by decide +kernel
theorem dX5_checksum_18 : decode cX5_checksum 18 = .ok (.getfield 99, 3) := by decide +kernel
theorem dX5_checksum_21 : decode cX5_checksum 21 = .ok (.if_icmp .ge 70, 3) := by decide +kernel
theorem dX5_checksum_24 : decode cX5_checksum 24 = .ok (.lload_n 1, 1) := by decide +kernel
theorem dX5_checksum_25 : decode cX5_checksum 25 = .ok (.aload_n 0, 1) := by decide +kernel
theorem dX5_checksum_26 : decode cX5_checksum 26 = .ok (.iload_n 3, 1) := by decide +kernel
theorem dX5_checksum_27 : decode cX5_checksum 27 = .ok (.invokevirtual 244, 3) := by decide +kernel
theorem dX5_checksum_30 : decode cX5_checksum 30 = .ok (.invokestatic 240, 3) := by decide +kernel
theorem dX5_checksum_33 : decode cX5_checksum 33 = .ok (.lstore_n 1, 1) := by decide +kernel
theorem dX5_checksum_34 : decode cX5_checksum 34 = .ok (.lload_n 1, 1) := by decide +kernel
theorem dX5_checksum_35 : decode cX5_checksum 35 = .ok (.aload_n 0, 1) := by decide +kernel
theorem dX5_checksum_36 : decode cX5_checksum 36 = .ok (.iload_n 3, 1) := by decide +kernel
theorem dX5_checksum_37 : decode cX5_checksum 37 = .ok (.invokevirtual 247, 3) := by decide +kernel
theorem dX5_checksum_40 : decode cX5_checksum 40 = .ok (.invokestatic 240, 3) := by decide +kernel
theorem dX5_checksum_43 : decode cX5_checksum 43 = .ok (.lstore_n 1, 1) := by decide +kernel
theorem dX5_checksum_44 : decode cX5_checksum 44 = .ok (.iload_n 3, 1) := by decide +kernel
theorem dX5_checksum_45 : decode cX5_checksum 45 = .ok (.iconst 1, 1) := by decide +kernel
theorem dX5_checksum_46 : decode cX5_checksum 46 = .ok (.iadd, 1) := by decide +kernel
theorem dX5_checksum_47 : decode cX5_checksum 47 = .ok (.istore 4, 2) := by decide +kernel
theorem dX5_checksum_49 : decode cX5_checksum 49 = .ok (.iload 4, 2) := by decide +kernel
theorem dX5_checksum_51 : decode cX5_checksum 51 = .ok (.aload_n 0, 1) := by decide +kernel
theorem dX5_checksum_52 : decode cX5_checksum 52 = .ok (.getfield 12, 3) := by decide +kernel
theorem dX5_checksum_55 : decode cX5_checksum 55 = .ok (.getfield 99, 3) := by decide +kernel
theorem dX5_checksum_58 : decode cX5_checksum 58 = .ok (.if_icmp .ge 27, 3) := by decide +kernel
theorem dX5_checksum_61 : decode cX5_checksum 61 = .ok (.lload_n 1, 1) := by decide +kernel
theorem dX5_checksum_62 : decode cX5_checksum 62 = .ok (.aload_n 0, 1) := by decide +kernel
theorem dX5_checksum_63 : decode cX5_checksum 63 = .ok (.iload_n 3, 1) := by decide +kernel
theorem dX5_checksum_64 : decode cX5_checksum 64 = .ok (.iload 4, 2) := by decide +kernel
theorem dX5_checksum_66 : decode cX5_checksum 66 = .ok (.invokevirtual 250, 3) := by decide +kernel
theorem dX5_checksum_69 : decode cX5_checksum 69 = .ok (.invokestatic 240, 3) := by decide +kernel
theorem dX5_checksum_72 : decode cX5_checksum 72 = .ok (.lstore_n 1, 1) := by decide +kernel
theorem dX5_checksum_73 : decode cX5_checksum 73 = .ok (.aload_n 0, 1) := by decide +kernel
theorem dX5_checksum_74 : decode cX5_checksum 74 = .ok (.lload_n 1, 1) := by decide +kernel
theorem dX5_checksum_75 : decode cX5_checksum 75 = .ok (.invokevirtual 253, 3) := by decide +kernel
theorem dX5_checksum_78 : decode cX5_checksum 78 = .ok (.lstore_n 1, 1) := by decide +kernel
theorem dX5_checksum_79 : decode cX5_checksum 79 = .ok (.iinc 4 1, 3) := by decide +kernel
theorem dX5_checksum_82 : decode cX5_checksum 82 = .ok (.goto (-33), 3) := by decide +kernel
theorem dX5_checksum_85 : decode cX5_checksum 85 = .ok (.iinc 3 1, 3) := by decide +kernel
theorem dX5_checksum_88 : decode cX5_checksum 88 = .ok (.goto (-75), 3) := by decide +kernel
theorem dX5_checksum_91 : decode cX5_checksum 91 = .ok (.lload_n 1, 1) := by decide +kernel
theorem dX5_checksum_92 : decode cX5_checksum 92 = .ok (.aload_n 0, 1) := by decide +kernel
theorem dX5_checksum_93 : decode cX5_checksum 93 = .ok (.invokevirtual 257, 3) := by decide +kernel
theorem dX5_checksum_96 : decode cX5_checksum 96 = .ok (.invokestatic 240, 3) := by decide +kernel
theorem dX5_checksum_99 : decode cX5_checksum 99 = .ok (.lstore_n 1, 1) := by decide +kernel
theorem dX5_checksum_100 : decode cX5_checksum 100 = .ok (.lload_n 1, 1) := by decide +kernel
theorem dX5_checksum_101 : decode cX5_checksum 101 = .ok (.aload_n 0, 1) := by decide +kernel
theorem dX5_checksum_102 : decode cX5_checksum 102 = .ok (.invokevirtual 260, 3) := by decide +kernel
theorem dX5_checksum_105 : decode cX5_checksum 105 = .ok (.invokestatic 240, 3) := by decide +kernel
theorem dX5_checksum_108 : decode cX5_checksum 108 = .ok (.lstore_n 1, 1) := by decide +kernel
theorem dX5_checksum_109 : decode cX5_checksum 109 = .ok (.lload_n 1, 1) := by decide +kernel
theorem dX5_checksum_110 : decode cX5_checksum 110 = .ok (.aload_n 0, 1) := by decide +kernel
theorem dX5_checksum_111 : decode cX5_checksum 111 = .ok (.invokevirtual 263, 3) := by decide +kernel
theorem dX5_checksum_114 : decode cX5_checksum 114 = .ok (.invokestatic 240, 3) := by decide +kernel
theorem dX5_checksum_117 : decode cX5_checksum 117 = .ok (.lstore_n 1, 1) := by decide +kernel
theorem dX5_checksum_118 : decode cX5_checksum 118 = .ok (.lload_n 1, 1) := by decide +kernel
theorem dX5_checksum_119 : decode cX5_checksum 119 = .ok (.aload_n 0, 1) := by decide +kernel
theorem dX5_checksum_120 : decode cX5_checksum 120 = .ok (.invokevirtual 266, 3) := by decide +kernel
theorem dX5_checksum_123 : decode cX5_checksum 123 = .ok (.invokestatic 240, 3) := by decide +kernel
theorem dX5_checksum_126 : decode cX5_checksum 126 = .ok (.lstore_n 1, 1) := by decide +kernel
theorem dX5_checksum_127 : decode cX5_checksum 127 = .ok (.aload_n 0, 1) := by decide +kernel
theorem dX5_checksum_128 : decode cX5_checksum 128 = .ok (.lload_n 1, 1) := by decide +kernel
theorem dX5_checksum_129 : decode cX5_checksum 129 = .ok (.invokevirtual 269, 3) := by decide +kernel
theorem dX5_checksum_132 : decode cX5_checksum 132 = .ok (.lstore_n 1, 1) := by decide +kernel
theorem dX5_checksum_133 : decode cX5_checksum 133 = .ok (.aload_n 0, 1) := by decide +kernel
theorem dX5_checksum_134 : decode cX5_checksum 134 = .ok (.invokevirtual 218, 3) := by decide +kernel
theorem dX5_checksum_137 : decode cX5_checksum 137 = .ok (.aload_n 0, 1) := by decide +kernel
theorem dX5_checksum_138 : decode cX5_checksum 138 = .ok (.lload_n 1, 1) := by decide +kernel
theorem dX5_checksum_139 : decode cX5_checksum 139 = .ok (.invokevirtual 253, 3) := by decide +kernel
theorem dX5_checksum_142 : decode cX5_checksum 142 = .ok (.lstore_n 1, 1) := by decide +kernel
theorem dX5_checksum_143 : decode cX5_checksum 143 = .ok (.aload_n 0, 1) := by decide +kernel
theorem dX5_checksum_144 : decode cX5_checksum 144 = .ok (.lload_n 1, 1) := by decide +kernel
theorem dX5_checksum_145 : decode cX5_checksum 145 = .ok (.invokevirtual 272, 3) := by decide +kernel
theorem dX5_checksum_148 : decode cX5_checksum 148 = .ok (.lreturn, 1) := by decide +kernel
theorem dX5_isSlot_0 : decode cX5_isSlot 0 = .ok (.iload_n 0, 1) := by decide +kernel
theorem dX5_isSlot_1 : decode cX5_isSlot 1 = .ok (.ifCond .lt 12, 3) := by decide +kernel
theorem dX5_isSlot_4 : decode cX5_isSlot 4 = .ok (.iload_n 0, 1) := by decide +kernel
theorem dX5_isSlot_5 : decode cX5_isSlot 5 = .ok (.iconst 2, 1) := by decide +kernel
theorem dX5_isSlot_6 : decode cX5_isSlot 6 = .ok (.if_icmp .ge 7, 3) := by decide +kernel
theorem dX5_isSlot_9 : decode cX5_isSlot 9 = .ok (.iconst 1, 1) := by decide +kernel
theorem dX5_isSlot_10 : decode cX5_isSlot 10 = .ok (.goto 4, 3) := by decide +kernel
theorem dX5_isSlot_13 : decode cX5_isSlot 13 = .ok (.iconst 0, 1) := by decide +kernel
theorem dX5_isSlot_14 : decode cX5_isSlot 14 = .ok (.ireturn, 1) := by decide +kernel
theorem dX5_mix_0 : decode cX5_mix 0 = .ok (.ldc2_w 275, 3) := by decide +kernel
theorem dX5_mix_3 : decode cX5_mix 3 = .ok (.lload_n 0, 1) := by decide +kernel
theorem dX5_mix_4 : decode cX5_mix 4 = .ok (.lmul, 1) := by decide +kernel
theorem dX5_mix_5 : decode cX5_mix 5 = .ok (.iload_n 2, 1) := by decide +kernel
theorem dX5_mix_6 : decode cX5_mix 6 = .ok (.i2l, 1) := by decide +kernel
theorem dX5_mix_7 : decode cX5_mix 7 = .ok (.ladd, 1) := by decide +kernel
theorem dX5_mix_8 : decode cX5_mix 8 = .ok (.lreturn, 1) := by decide +kernel
set_option maxRecDepth 20000 in
theorem ggX5_mixDifference_X0_letterAt : GoodIn wsX5_mixDifference wsX0_letterAt := goodIn_r _ [7, 8, 9, 27, 28, 29, 30, 31, 32, 33, 34, 35] (by decide +kernel) (by decide +kernel)
set_option maxRecDepth 20000 in
theorem gX5_mixDifference_X0_letterAt : GoodIn wsX5_mixDifference (wsV RX5 152 RX0 yX0_letterAt wsX0_letterAt) := goodIn_app (goodIn_of _ (by decide +kernel)) ggX5_mixDifference_X0_letterAt
set_option maxRecDepth 20000 in
theorem ggX5_mixDifference_X5_mix : GoodIn wsX5_mixDifference wsX5_mix := goodIn_r _ [13, 14] (by decide +kernel) (by decide +kernel)
set_option maxRecDepth 20000 in
theorem gX5_mixDifference_X5_mix : GoodIn wsX5_mixDifference (va_wsS RX5 240 yX5_mix wsX5_mix) := goodIn_app (goodIn_of _ (by decide +kernel)) ggX5_mixDifference_X5_mix
theorem dX5_mixDifference_0 : decode cX5_mixDifference 0 = .ok (.lload_n 1, 1) := by decide +kernel
theorem dX5_mixDifference_1 : decode cX5_mixDifference 1 = .ok (.lstore_n 3, 1) := by decide +kernel
theorem dX5_mixDifference_2 : decode cX5_mixDifference 2 = .ok (.iconst 0, 1) := by decide +kernel
theorem dX5_mixDifference_3 : decode cX5_mixDifference 3 = .ok (.istore 5, 2) := by decide +kernel
theorem dX5_mixDifference_5 : decode cX5_mixDifference 5 = .ok (.iload 5, 2) := by decide +kernel
theorem dX5_mixDifference_7 : decode cX5_mixDifference 7 = .ok (.aload_n 0, 1) := by decide +kernel
theorem dX5_mixDifference_8 : decode cX5_mixDifference 8 = .ok (.getfield 54, 3) := by decide +kernel
theorem dX5_mixDifference_11 : decode cX5_mixDifference 11 = .ok (.getfield 170, 3) := by decide +kernel
theorem dX5_mixDifference_14 : decode cX5_mixDifference 14 = .ok (.if_icmp .ge 23, 3) := by decide +kernel
theorem dX5_mixDifference_17 : decode cX5_mixDifference 17 = .ok (.lload_n 3, 1) := by decide +kernel
theorem dX5_mixDifference_18 : decode cX5_mixDifference 18 = .ok (.aload_n 0, 1) := by decide +kernel
theorem dX5_mixDifference_19 : decode cX5_mixDifference 19 = .ok (.getfield 54, 3) := by decide +kernel
theorem dX5_mixDifference_22 : decode cX5_mixDifference 22 = .ok (.iload 5, 2) := by decide +kernel
theorem dX5_mixDifference_24 : decode cX5_mixDifference 24 = .ok (.invokevirtual 152, 3) := by decide +kernel
theorem dX5_mixDifference_27 : decode cX5_mixDifference 27 = .ok (.invokestatic 240, 3) := by decide +kernel
theorem dX5_mixDifference_30 : decode cX5_mixDifference 30 = .ok (.lstore_n 3, 1) := by decide +kernel
theorem dX5_mixDifference_31 : decode cX5_mixDifference 31 = .ok (.iinc 5 1, 3) := by decide +kernel
theorem dX5_mixDifference_34 : decode cX5_mixDifference 34 = .ok (.goto (-29), 3) := by decide +kernel
theorem dX5_mixDifference_37 : decode cX5_mixDifference 37 = .ok (.lload_n 3, 1) := by decide +kernel
theorem dX5_mixDifference_38 : decode cX5_mixDifference 38 = .ok (.lreturn, 1) := by decide +kernel
set_option maxRecDepth 20000 in
theorem ggX5_mixResolvedOrder_X5_findResolvedOrder : GoodIn wsX5_mixResolvedOrder wsX5_findResolvedOrder := goodIn_r _ [6, 7, 8, 1, 9, 10, 11, 5, 12, 13, 14, 15, 16, 21, 22, 23, 24, 25, 26, 27, 28, 29, 30, 31, 32, 33, 34, 35, 36, 37, 38, 39] (by decide +kernel) (by decide +kernel)
set_option maxRecDepth 20000 in
theorem gX5_mixResolvedOrder_X5_findResolvedOrder : GoodIn wsX5_mixResolvedOrder (wsV RX5 198 RX5 yX5_findResolvedOrder wsX5_findResolvedOrder) := goodIn_app (goodIn_of _ (by decide +kernel)) ggX5_mixResolvedOrder_X5_findResolvedOrder
set_option maxRecDepth 20000 in
theorem ggX5_mixResolvedOrder_X5_mix : GoodIn wsX5_mixResolvedOrder wsX5_mix := goodIn_r _ [19, 20] (by decide +kernel) (by decide +kernel)
set_option maxRecDepth 20000 in
theorem gX5_mixResolvedOrder_X5_mix : GoodIn wsX5_mixResolvedOrder (va_wsS RX5 240 yX5_mix wsX5_mix) := goodIn_app (goodIn_of _ (by decide +kernel)) ggX5_mixResolvedOrder_X5_mix
theorem dX5_mixResolvedOrder_0 : decode cX5_mixResolvedOrder 0 = .ok (.lload_n 1, 1) := by decide +kernel
theorem dX5_mixResolvedOrder_1 : decode cX5_mixResolvedOrder 1 = .ok (.lstore_n 3, 1) := by decide +kernel
theorem dX5_mixResolvedOrder_2 : decode cX5_mixResolvedOrder 2 = .ok (.aload_n 0, 1) := by decide +kernel
theorem dX5_mixResolvedOrder_3 : decode cX5_mixResolvedOrder 3 = .ok (.invokevirtual 198, 3) := by decide +kernel
theorem dX5_mixResolvedOrder_6 : decode cX5_mixResolvedOrder 6 = .ok (.istore 5, 2) := by decide +kernel
theorem dX5_mixResolvedOrder_8 : decode cX5_mixResolvedOrder 8 = .ok (.iconst 0, 1) := by decide +kernel
theorem dX5_mixResolvedOrder_9 : decode cX5_mixResolvedOrder 9 = .ok (.istore 6, 2) := by decide +kernel
theorem dX5_mixResolvedOrder_11 : decode cX5_mixResolvedOrder 11 = .ok (.iload 6, 2) := by decide +kernel
theorem dX5_mixResolvedOrder_13 : decode cX5_mixResolvedOrder 13 = .ok (.iload 5, 2) := by decide +kernel
theorem dX5_mixResolvedOrder_15 : decode cX5_mixResolvedOrder 15 = .ok (.if_icmp .ge 21, 3) := by decide +kernel
theorem dX5_mixResolvedOrder_18 : decode cX5_mixResolvedOrder 18 = .ok (.lload_n 3, 1) := by decide +kernel
theorem dX5_mixResolvedOrder_19 : decode cX5_mixResolvedOrder 19 = .ok (.aload_n 0, 1) := by decide +kernel
theorem dX5_mixResolvedOrder_20 : decode cX5_mixResolvedOrder 20 = .ok (.getfield 45, 3) := by decide +kernel
theorem dX5_mixResolvedOrder_23 : decode cX5_mixResolvedOrder 23 = .ok (.iload 6, 2) := by decide +kernel
theorem dX5_mixResolvedOrder_25 : decode cX5_mixResolvedOrder 25 = .ok (.iaload, 1) := by decide +kernel
theorem dX5_mixResolvedOrder_26 : decode cX5_mixResolvedOrder 26 = .ok (.invokestatic 240, 3) := by decide +kernel
theorem dX5_mixResolvedOrder_29 : decode cX5_mixResolvedOrder 29 = .ok (.lstore_n 3, 1) := by decide +kernel
theorem dX5_mixResolvedOrder_30 : decode cX5_mixResolvedOrder 30 = .ok (.iinc 6 1, 3) := by decide +kernel
theorem dX5_mixResolvedOrder_33 : decode cX5_mixResolvedOrder 33 = .ok (.goto (-22), 3) := by decide +kernel
theorem dX5_mixResolvedOrder_36 : decode cX5_mixResolvedOrder 36 = .ok (.lload_n 3, 1) := by decide +kernel
theorem dX5_mixResolvedOrder_37 : decode cX5_mixResolvedOrder 37 = .ok (.lreturn, 1) := by decide +kernel
set_option maxRecDepth 20000 in
theorem ggX5_mixAnswers_X5_buildResolvedMachine : GoodIn wsX5_mixAnswers wsX5_buildResolvedMachine := goodIn_r _ [7, 8, 9, 10, 11, 12, 13, 6, 14, 15, 16, 17, 18, 19, 20, 21, 22, 23, 24, 25, 26, 27, 28, 29, 30, 31, 32, 33, 34, 53, 54, 55, 56, 57, 58, 59, 60, 61, 62, 63, 64, 65, 66, 67, 68, 69, 70, 71] (by decide +kernel) (by decide +kernel)
set_option maxRecDepth 20000 in
theorem gX5_mixAnswers_X5_buildResolvedMachine : GoodIn wsX5_mixAnswers (wsV RX5 221 RX5 yX5_buildResolvedMachine wsX5_buildResolvedMachine) := goodIn_app (goodIn_of _ (by decide +kernel)) ggX5_mixAnswers_X5_buildResolvedMachine
set_option maxRecDepth 20000 in
theorem ggX5_mixAnswers_X5_answerOf : GoodIn wsX5_mixAnswers wsX5_answerOf := goodIn_r _ [38, 2, 39, 40, 41, 6, 42, 43, 44, 45, 46, 47, 48, 53, 54, 55, 56, 57, 58, 59, 60, 61, 62, 63, 64] (by decide +kernel) (by decide +kernel)
set_option maxRecDepth 20000 in
theorem gX5_mixAnswers_X5_answerOf : GoodIn wsX5_mixAnswers (wsV RX5 214 RX5 yX5_answerOf wsX5_answerOf) := goodIn_app (goodIn_of _ (by decide +kernel)) ggX5_mixAnswers_X5_answerOf
set_option maxRecDepth 20000 in
theorem ggX5_mixAnswers_X5_mix : GoodIn wsX5_mixAnswers wsX5_mix := goodIn_r _ [51, 52] (by decide +kernel) (by decide +kernel)
set_option maxRecDepth 20000 in
theorem gX5_mixAnswers_X5_mix : GoodIn wsX5_mixAnswers (va_wsS RX5 240 yX5_mix wsX5_mix) := goodIn_app (goodIn_of _ (by decide +kernel)) ggX5_mixAnswers_X5_mix
theorem dX5_mixAnswers_0 : decode cX5_mixAnswers 0 = .ok (.lload_n 1, 1) := by decide +kernel
theorem dX5_mixAnswers_1 : decode cX5_mixAnswers 1 = .ok (.lstore_n 3, 1) := by decide +kernel
theorem dX5_mixAnswers_2 : decode cX5_mixAnswers 2 = .ok (.aload_n 0, 1) := by decide +kernel
theorem dX5_mixAnswers_3 : decode cX5_mixAnswers 3 = .ok (.aload_n 0, 1) := by decide +kernel
theorem dX5_mixAnswers_4 : decode cX5_mixAnswers 4 = .ok (.getfield 39, 3) := by decide +kernel
theorem dX5_mixAnswers_7 : decode cX5_mixAnswers 7 = .ok (.invokevirtual 221, 3) := by decide +kernel
theorem dX5_mixAnswers_10 : decode cX5_mixAnswers 10 = .ok (.iconst 0, 1) := by decide +kernel
theorem dX5_mixAnswers_11 : decode cX5_mixAnswers 11 = .ok (.istore 5, 2) := by decide +kernel
theorem dX5_mixAnswers_13 : decode cX5_mixAnswers 13 = .ok (.iload 5, 2) := by decide +kernel
theorem dX5_mixAnswers_15 : decode cX5_mixAnswers 15 = .ok (.aload_n 0, 1) := by decide +kernel
theorem dX5_mixAnswers_16 : decode cX5_mixAnswers 16 = .ok (.getfield 35, 3) := by decide +kernel
theorem dX5_mixAnswers_19 : decode cX5_mixAnswers 19 = .ok (.if_icmp .ge 24, 3) := by decide +kernel
theorem dX5_mixAnswers_22 : decode cX5_mixAnswers 22 = .ok (.lload_n 3, 1) := by decide +kernel
theorem dX5_mixAnswers_23 : decode cX5_mixAnswers 23 = .ok (.aload_n 0, 1) := by decide +kernel
theorem dX5_mixAnswers_24 : decode cX5_mixAnswers 24 = .ok (.aload_n 0, 1) := by decide +kernel
theorem dX5_mixAnswers_25 : decode cX5_mixAnswers 25 = .ok (.getfield 39, 3) := by decide +kernel
theorem dX5_mixAnswers_28 : decode cX5_mixAnswers 28 = .ok (.iload 5, 2) := by decide +kernel
theorem dX5_mixAnswers_30 : decode cX5_mixAnswers 30 = .ok (.invokevirtual 214, 3) := by decide +kernel
theorem dX5_mixAnswers_33 : decode cX5_mixAnswers 33 = .ok (.invokestatic 240, 3) := by decide +kernel
theorem dX5_mixAnswers_36 : decode cX5_mixAnswers 36 = .ok (.lstore_n 3, 1) := by decide +kernel
theorem dX5_mixAnswers_37 : decode cX5_mixAnswers 37 = .ok (.iinc 5 1, 3) := by decide +kernel
theorem dX5_mixAnswers_40 : decode cX5_mixAnswers 40 = .ok (.goto (-27), 3) := by decide +kernel
theorem dX5_mixAnswers_43 : decode cX5_mixAnswers 43 = .ok (.lload_n 3, 1) := by decide +kernel
theorem dX5_mixAnswers_44 : decode cX5_mixAnswers 44 = .ok (.lreturn, 1) := by decide +kernel
theorem dX5_cellOf_0 : decode cX5_cellOf 0 = .ok (.iload_n 0, 1) := by decide +kernel
theorem dX5_cellOf_1 : decode cX5_cellOf 1 = .ok (.iconst 4, 1) := by decide +kernel
theorem dX5_cellOf_2 : decode cX5_cellOf 2 = .ok (.imul, 1) := by decide +kernel
theorem dX5_cellOf_3 : decode cX5_cellOf 3 = .ok (.iload_n 1, 1) := by decide +kernel
theorem dX5_cellOf_4 : decode cX5_cellOf 4 = .ok (.iadd, 1) := by decide +kernel
theorem dX5_cellOf_5 : decode cX5_cellOf 5 = .ok (.ireturn, 1) := by decide +kernel
theorem dX5_arrowOf_0 : decode cX5_arrowOf 0 = .ok (.bipush 10, 2) := by decide +kernel
theorem dX5_arrowOf_2 : decode cX5_arrowOf 2 = .ok (.iload_n 0, 1) := by decide +kernel
theorem dX5_arrowOf_3 : decode cX5_arrowOf 3 = .ok (.imul, 1) := by decide +kernel
theorem dX5_arrowOf_4 : decode cX5_arrowOf 4 = .ok (.iload_n 1, 1) := by decide +kernel
theorem dX5_arrowOf_5 : decode cX5_arrowOf 5 = .ok (.iadd, 1) := by decide +kernel
theorem dX5_arrowOf_6 : decode cX5_arrowOf 6 = .ok (.ireturn, 1) := by decide +kernel
theorem dX5_targetOf_0 : decode cX5_targetOf 0 = .ok (.iload_n 0, 1) := by decide +kernel
theorem dX5_targetOf_1 : decode cX5_targetOf 1 = .ok (.bipush 10, 2) := by decide +kernel
theorem dX5_targetOf_3 : decode cX5_targetOf 3 = .ok (.idiv, 1) := by decide +kernel
theorem dX5_targetOf_4 : decode cX5_targetOf 4 = .ok (.ireturn, 1) := by decide +kernel
theorem dX5_outputOf_0 : decode cX5_outputOf 0 = .ok (.iload_n 0, 1) := by decide +kernel
theorem dX5_outputOf_1 : decode cX5_outputOf 1 = .ok (.bipush 10, 2) := by decide +kernel
theorem dX5_outputOf_3 : decode cX5_outputOf 3 = .ok (.irem, 1) := by decide +kernel
theorem dX5_outputOf_4 : decode cX5_outputOf 4 = .ok (.ireturn, 1) := by decide +kernel
theorem dX5_isOutput_0 : decode cX5_isOutput 0 = .ok (.iload_n 0, 1) := by decide +kernel
theorem dX5_isOutput_1 : decode cX5_isOutput 1 = .ok (.ifCond .lt 13, 3) := by decide +kernel
theorem dX5_isOutput_4 : decode cX5_isOutput 4 = .ok (.iload_n 0, 1) := by decide +kernel
theorem dX5_isOutput_5 : decode cX5_isOutput 5 = .ok (.bipush 9, 2) := by decide +kernel
theorem dX5_isOutput_7 : decode cX5_isOutput 7 = .ok (.if_icmp .gt 7, 3) := by decide +kernel
theorem dX5_isOutput_10 : decode cX5_isOutput 10 = .ok (.iconst 1, 1) := by decide +kernel
theorem dX5_isOutput_11 : decode cX5_isOutput 11 = .ok (.goto 4, 3) := by decide +kernel
theorem dX5_isOutput_14 : decode cX5_isOutput 14 = .ok (.iconst 0, 1) := by decide +kernel
theorem dX5_isOutput_15 : decode cX5_isOutput 15 = .ok (.ireturn, 1) := by decide +kernel
theorem dX5_hasBit_0 : decode cX5_hasBit 0 = .ok (.iload_n 0, 1) := by decide +kernel
theorem dX5_hasBit_1 : decode cX5_hasBit 1 = .ok (.iload_n 1, 1) := by decide +kernel
theorem dX5_hasBit_2 : decode cX5_hasBit 2 = .ok (.ishr, 1) := by decide +kernel
theorem dX5_hasBit_3 : decode cX5_hasBit 3 = .ok (.iconst 1, 1) := by decide +kernel
theorem dX5_hasBit_4 : decode cX5_hasBit 4 = .ok (.iand, 1) := by decide +kernel
theorem dX5_hasBit_5 : decode cX5_hasBit 5 = .ok (.iconst 1, 1) := by decide +kernel
theorem dX5_hasBit_6 : decode cX5_hasBit 6 = .ok (.if_icmp .ne 7, 3) := by decide +kernel
theorem dX5_hasBit_9 : decode cX5_hasBit 9 = .ok (.iconst 1, 1) := by decide +kernel
theorem dX5_hasBit_10 : decode cX5_hasBit 10 = .ok (.goto 4, 3) := by decide +kernel
theorem dX5_hasBit_13 : decode cX5_hasBit 13 = .ok (.iconst 0, 1) := by decide +kernel
theorem dX5_hasBit_14 : decode cX5_hasBit 14 = .ok (.ireturn, 1) := by decide +kernel
theorem dX5_copyRow_0 : decode cX5_copyRow 0 = .ok (.aload_n 0, 1) := by decide +kernel
theorem dX5_copyRow_1 : decode cX5_copyRow 1 = .ok (.iconst 0, 1) := by decide +kernel
theorem dX5_copyRow_2 : decode cX5_copyRow 2 = .ok (.aload_n 1, 1) := by decide +kernel
theorem dX5_copyRow_3 : decode cX5_copyRow 3 = .ok (.iconst 0, 1) := by decide +kernel
theorem dX5_copyRow_4 : decode cX5_copyRow 4 = .ok (.bipush 32, 2) := by decide +kernel
theorem dX5_copyRow_6 : decode cX5_copyRow 6 = .ok (.invokestatic 277, 3) := by decide +kernel
theorem dX5_copyRow_9 : decode cX5_copyRow 9 = .ok (.return_, 1) := by decide +kernel
theorem dX5_putOn_0 : decode cX5_putOn 0 = .ok (.iconst 0, 1) := by decide +kernel
theorem dX5_putOn_1 : decode cX5_putOn 1 = .ok (.istore_n 3, 1) := by decide +kernel
theorem dX5_putOn_2 : decode cX5_putOn 2 = .ok (.iload_n 3, 1) := by decide +kernel
theorem dX5_putOn_3 : decode cX5_putOn 3 = .ok (.bipush 32, 2) := by decide +kernel
theorem dX5_putOn_5 : decode cX5_putOn 5 = .ok (.if_icmp .ge 29, 3) := by decide +kernel
theorem dX5_putOn_8 : decode cX5_putOn 8 = .ok (.aload_n 2, 1) := by decide +kernel
theorem dX5_putOn_9 : decode cX5_putOn 9 = .ok (.iload_n 3, 1) := by decide +kernel
theorem dX5_putOn_10 : decode cX5_putOn 10 = .ok (.aload_n 1, 1) := by decide +kernel
theorem dX5_putOn_11 : decode cX5_putOn 11 = .ok (.iload_n 3, 1) := by decide +kernel
theorem dX5_putOn_12 : decode cX5_putOn 12 = .ok (.iaload, 1) := by decide +kernel
theorem dX5_putOn_13 : decode cX5_putOn 13 = .ok (.bipush (-2), 2) := by decide +kernel
theorem dX5_putOn_15 : decode cX5_putOn 15 = .ok (.if_icmp .ne 9, 3) := by decide +kernel
theorem dX5_putOn_18 : decode cX5_putOn 18 = .ok (.aload_n 0, 1) := by decide +kernel
theorem dX5_putOn_19 : decode cX5_putOn 19 = .ok (.iload_n 3, 1) := by decide +kernel
theorem dX5_putOn_20 : decode cX5_putOn 20 = .ok (.iaload, 1) := by decide +kernel
theorem dX5_putOn_21 : decode cX5_putOn 21 = .ok (.goto 6, 3) := by decide +kernel
theorem dX5_putOn_24 : decode cX5_putOn 24 = .ok (.aload_n 1, 1) := by decide +kernel
theorem dX5_putOn_25 : decode cX5_putOn 25 = .ok (.iload_n 3, 1) := by decide +kernel
theorem dX5_putOn_26 : decode cX5_putOn 26 = .ok (.iaload, 1) := by decide +kernel
theorem dX5_putOn_27 : decode cX5_putOn 27 = .ok (.iastore, 1) := by decide +kernel
theorem dX5_putOn_28 : decode cX5_putOn 28 = .ok (.iinc 3 1, 3) := by decide +kernel
theorem dX5_putOn_31 : decode cX5_putOn 31 = .ok (.goto (-29), 3) := by decide +kernel
theorem dX5_putOn_34 : decode cX5_putOn 34 = .ok (.return_, 1) := by decide +kernel
set_option maxRecDepth 20000 in
theorem ggX6_init_X6_anew : GoodIn wsX6_init wsX6_anew := goodIn_r _ [27, 5, 28, 29, 30, 31, 32, 33, 34, 35, 36, 37, 38, 39, 40, 41, 42, 43, 44, 45, 46, 47, 48, 49] (by decide +kernel) (by decide +kernel)
set_option maxRecDepth 20000 in
theorem gX6_init_X6_anew : GoodIn wsX6_init (wsV RX6 62 RX6 yX6_anew wsX6_anew) := goodIn_app (goodIn_of _ (by decide +kernel)) ggX6_init_X6_anew
theorem dX6_init_0 : decode cX6_init 0 = .ok (.aload_n 0, 1) := by decide +kernel
theorem dX6_init_1 : decode cX6_init 1 = .ok (.invokespecial 1, 3) := by decide +kernel
theorem dX6_init_4 : decode cX6_init 4 = .ok (.aload_n 0, 1) := by decide +kernel
theorem dX6_init_5 : decode cX6_init 5 = .ok (.sipush 239, 3) := by decide +kernel
theorem dX6_init_8 : decode cX6_init 8 = .ok (.newarray .int, 2) := by decide +kernel
theorem dX6_init_10 : decode cX6_init 10 = .ok (.putfield 7, 3) := by decide +kernel
theorem dX6_init_13 : decode cX6_init 13 = .ok (.aload_n 0, 1) := by decide +kernel
theorem dX6_init_14 : decode cX6_init 14 = .ok (.sipush 478, 3) := by decide +kernel
theorem dX6_init_17 : decode cX6_init 17 = .ok (.newarray .int, 2) := by decide +kernel
theorem dX6_init_19 : decode cX6_init 19 = .ok (.putfield 13, 3) := by decide +kernel
theorem dX6_init_22 : decode cX6_init 22 = .ok (.aload_n 0, 1) := by decide +kernel
theorem dX6_init_23 : decode cX6_init 23 = .ok (.iconst 2, 1) := by decide +kernel
theorem dX6_init_24 : decode cX6_init 24 = .ok (.newarray .boolean, 2) := by decide +kernel
theorem dX6_init_26 : decode cX6_init 26 = .ok (.putfield 16, 3) := by decide +kernel
theorem dX6_init_29 : decode cX6_init 29 = .ok (.aload_n 0, 1) := by decide +kernel
theorem dX6_init_30 : decode cX6_init 30 = .ok (.bipush 20, 2) := by decide +kernel
theorem dX6_init_32 : decode cX6_init 32 = .ok (.newarray .int, 2) := by decide +kernel
theorem dX6_init_34 : decode cX6_init 34 = .ok (.putfield 20, 3) := by decide +kernel
theorem dX6_init_37 : decode cX6_init 37 = .ok (.aload_n 0, 1) := by decide +kernel
theorem dX6_init_38 : decode cX6_init 38 = .ok (.bipush 80, 2) := by decide +kernel
theorem dX6_init_40 : decode cX6_init 40 = .ok (.newarray .int, 2) := by decide +kernel
theorem dX6_init_42 : decode cX6_init 42 = .ok (.putfield 23, 3) := by decide +kernel
theorem dX6_init_45 : decode cX6_init 45 = .ok (.aload_n 0, 1) := by decide +kernel
theorem dX6_init_46 : decode cX6_init 46 = .ok (.bipush 32, 2) := by decide +kernel
theorem dX6_init_48 : decode cX6_init 48 = .ok (.newarray .int, 2) := by decide +kernel
theorem dX6_init_50 : decode cX6_init 50 = .ok (.putfield 26, 3) := by decide +kernel
theorem dX6_init_53 : decode cX6_init 53 = .ok (.aload_n 0, 1) := by decide +kernel
theorem dX6_init_54 : decode cX6_init 54 = .ok (.bipush 32, 2) := by decide +kernel
theorem dX6_init_56 : decode cX6_init 56 = .ok (.newarray .int, 2) := by decide +kernel
theorem dX6_init_58 : decode cX6_init 58 = .ok (.putfield 29, 3) := by decide +kernel
theorem dX6_init_61 : decode cX6_init 61 = .ok (.aload_n 0, 1) := by decide +kernel
theorem dX6_init_62 : decode cX6_init 62 = .ok (.bipush 32, 2) := by decide +kernel
theorem dX6_init_64 : decode cX6_init 64 = .ok (.newarray .int, 2) := by decide +kernel
theorem dX6_init_66 : decode cX6_init 66 = .ok (.putfield 32, 3) := by decide +kernel
theorem dX6_init_69 : decode cX6_init 69 = .ok (.aload_n 0, 1) := by decide +kernel
theorem dX6_init_70 : decode cX6_init 70 = .ok (.bipush 81, 2) := by decide +kernel
theorem dX6_init_72 : decode cX6_init 72 = .ok (.newarray .int, 2) := by decide +kernel
theorem dX6_init_74 : decode cX6_init 74 = .ok (.putfield 35, 3) := by decide +kernel
theorem dX6_init_77 : decode cX6_init 77 = .ok (.aload_n 0, 1) := by decide +kernel
theorem dX6_init_78 : decode cX6_init 78 = .ok (.bipush 81, 2) := by decide +kernel
theorem dX6_init_80 : decode cX6_init 80 = .ok (.newarray .int, 2) := by decide +kernel
theorem dX6_init_82 : decode cX6_init 82 = .ok (.putfield 38, 3) := by decide +kernel
theorem dX6_init_85 : decode cX6_init 85 = .ok (.aload_n 0, 1) := by decide +kernel
theorem dX6_init_86 : decode cX6_init 86 = .ok (.bipush 81, 2) := by decide +kernel
theorem dX6_init_88 : decode cX6_init 88 = .ok (.newarray .int, 2) := by decide +kernel
theorem dX6_init_90 : decode cX6_init 90 = .ok (.putfield 41, 3) := by decide +kernel
theorem dX6_init_93 : decode cX6_init 93 = .ok (.aload_n 0, 1) := by decide +kernel
theorem dX6_init_94 : decode cX6_init 94 = .ok (.bipush 81, 2) := by decide +kernel
theorem dX6_init_96 : decode cX6_init 96 = .ok (.newarray .boolean, 2) := by decide +kernel
theorem dX6_init_98 : decode cX6_init 98 = .ok (.putfield 44, 3) := by decide +kernel
theorem dX6_init_101 : decode cX6_init 101 = .ok (.aload_n 0, 1) := by decide +kernel
theorem dX6_init_102 : decode cX6_init 102 = .ok (.bipush 82, 2) := by decide +kernel
theorem dX6_init_104 : decode cX6_init 104 = .ok (.newarray .int, 2) := by decide +kernel
theorem dX6_init_106 : decode cX6_init 106 = .ok (.putfield 47, 3) := by decide +kernel
theorem dX6_init_109 : decode cX6_init 109 = .ok (.aload_n 0, 1) := by decide +kernel
theorem dX6_init_110 : decode cX6_init 110 = .ok (.bipush 6, 2) := by decide +kernel
theorem dX6_init_112 : decode cX6_init 112 = .ok (.newarray .int, 2) := by decide +kernel
theorem dX6_init_114 : decode cX6_init 114 = .ok (.putfield 50, 3) := by decide +kernel
theorem dX6_init_117 : decode cX6_init 117 = .ok (.aload_n 0, 1) := by decide +kernel
theorem dX6_init_118 : decode cX6_init 118 = .ok (.bipush 6, 2) := by decide +kernel
theorem dX6_init_120 : decode cX6_init 120 = .ok (.newarray .int, 2) := by decide +kernel
theorem dX6_init_122 : decode cX6_init 122 = .ok (.putfield 53, 3) := by decide +kernel
theorem dX6_init_125 : decode cX6_init 125 = .ok (.aload_n 0, 1) := by decide +kernel
theorem dX6_init_126 : decode cX6_init 126 = .ok (.sipush 23040, 3) := by decide +kernel
theorem dX6_init_129 : decode cX6_init 129 = .ok (.newarray .int, 2) := by decide +kernel
theorem dX6_init_131 : decode cX6_init 131 = .ok (.putfield 56, 3) := by decide +kernel
theorem dX6_init_134 : decode cX6_init 134 = .ok (.aload_n 0, 1) := by decide +kernel
theorem dX6_init_135 : decode cX6_init 135 = .ok (.bipush 6, 2) := by decide +kernel
theorem dX6_init_137 : decode cX6_init 137 = .ok (.newarray .int, 2) := by decide +kernel
theorem dX6_init_139 : decode cX6_init 139 = .ok (.putfield 59, 3) := by decide +kernel
theorem dX6_init_142 : decode cX6_init 142 = .ok (.aload_n 0, 1) := by decide +kernel
theorem dX6_init_143 : decode cX6_init 143 = .ok (.iconst 2, 1) := by decide +kernel
theorem dX6_init_144 : decode cX6_init 144 = .ok (.iconst 2, 1) := by decide +kernel
theorem dX6_init_145 : decode cX6_init 145 = .ok (.invokevirtual 62, 3) := by decide +kernel
theorem dX6_init_148 : decode cX6_init 148 = .ok (.return_, 1) := by decide +kernel
theorem dX6_in_0 : decode cX6_in 0 = .ok (.iload_n 0, 1) := by decide +kernel
theorem dX6_in_1 : decode cX6_in 1 = .ok (.iload_n 1, 1) := by decide +kernel
theorem dX6_in_2 : decode cX6_in 2 = .ok (.if_icmp .lt 12, 3) := by decide +kernel
theorem dX6_in_5 : decode cX6_in 5 = .ok (.iload_n 0, 1) := by decide +kernel
theorem dX6_in_6 : decode cX6_in 6 = .ok (.iload_n 2, 1) := by decide +kernel
theorem dX6_in_7 : decode cX6_in 7 = .ok (.if_icmp .gt 7, 3) := by decide +kernel
theorem dX6_in_10 : decode cX6_in 10 = .ok (.iconst 1, 1) := by decide +kernel
theorem dX6_in_11 : decode cX6_in 11 = .ok (.goto 4, 3) := by decide +kernel
theorem dX6_in_14 : decode cX6_in 14 = .ok (.iconst 0, 1) := by decide +kernel
theorem dX6_in_15 : decode cX6_in 15 = .ok (.ireturn, 1) := by decide +kernel
theorem dX6_anew_0 : decode cX6_anew 0 = .ok (.iconst 0, 1) := by decide +kernel
theorem dX6_anew_1 : decode cX6_anew 1 = .ok (.istore_n 3, 1) := by decide +kernel
theorem dX6_anew_2 : decode cX6_anew 2 = .ok (.iload_n 3, 1) := by decide +kernel
theorem dX6_anew_3 : decode cX6_anew 3 = .ok (.sipush 239, 3) := by decide +kernel
theorem dX6_anew_6 : decode cX6_anew 6 = .ok (.if_icmp .ge 16, 3) := by decide +kernel
theorem dX6_anew_9 : decode cX6_anew 9 = .ok (.aload_n 0, 1) := by decide +kernel
theorem dX6_anew_10 : decode cX6_anew 10 = .ok (.getfield 7, 3) := by decide +kernel
theorem dX6_anew_13 : decode cX6_anew 13 = .ok (.iload_n 3, 1) := by decide +kernel
theorem dX6_anew_14 : decode cX6_anew 14 = .ok (.iconst 0, 1) := by decide +kernel
theorem dX6_anew_15 : decode cX6_anew 15 = .ok (.iastore, 1) := by decide +kernel
theorem dX6_anew_16 : decode cX6_anew 16 = .ok (.iinc 3 1, 3) := by decide +kernel
theorem dX6_anew_19 : decode cX6_anew 19 = .ok (.goto (-17), 3) := by decide +kernel
theorem dX6_anew_22 : decode cX6_anew 22 = .ok (.aload_n 0, 1) := by decide +kernel
theorem dX6_anew_23 : decode cX6_anew 23 = .ok (.getfield 7, 3) := by decide +kernel
theorem dX6_anew_26 : decode cX6_anew 26 = .ok (.iconst 0, 1) := by decide +kernel
theorem dX6_anew_27 : decode cX6_anew 27 = .ok (.iload_n 1, 1) := by decide +kernel
theorem dX6_anew_28 : decode cX6_anew 28 = .ok (.iastore, 1) := by decide +kernel
theorem dX6_anew_29 : decode cX6_anew 29 = .ok (.aload_n 0, 1) := by decide +kernel
theorem dX6_anew_30 : decode cX6_anew 30 = .ok (.getfield 7, 3) := by decide +kernel
theorem dX6_anew_33 : decode cX6_anew 33 = .ok (.iconst 1, 1) := by decide +kernel
theorem dX6_anew_34 : decode cX6_anew 34 = .ok (.iload_n 2, 1) := by decide +kernel
theorem dX6_anew_35 : decode cX6_anew 35 = .ok (.iastore, 1) := by decide +kernel
theorem dX6_anew_36 : decode cX6_anew 36 = .ok (.iconst 0, 1) := by decide +kernel
theorem dX6_anew_37 : decode cX6_anew 37 = .ok (.istore_n 3, 1) := by decide +kernel
theorem dX6_anew_38 : decode cX6_anew 38 = .ok (.iload_n 3, 1) := by decide +kernel
theorem dX6_anew_39 : decode cX6_anew 39 = .ok (.bipush 32, 2) := by decide +kernel
theorem dX6_anew_41 : decode cX6_anew 41 = .ok (.if_icmp .ge 18, 3) := by decide +kernel
theorem dX6_anew_44 : decode cX6_anew 44 = .ok (.aload_n 0, 1) := by decide +kernel
theorem dX6_anew_45 : decode cX6_anew 45 = .ok (.getfield 7, 3) := by decide +kernel
theorem dX6_anew_48 : decode cX6_anew 48 = .ok (.iconst 2, 1) := by decide +kernel
theorem dX6_anew_49 : decode cX6_anew 49 = .ok (.iload_n 3, 1) := by decide +kernel
theorem dX6_anew_50 : decode cX6_anew 50 = .ok (.iadd, 1) := by decide +kernel
theorem dX6_anew_51 : decode cX6_anew 51 = .ok (.iconst (-1), 1) := by decide +kernel
theorem dX6_anew_52 : decode cX6_anew 52 = .ok (.iastore, 1) := by decide +kernel
theorem dX6_anew_53 : decode cX6_anew 53 = .ok (.iinc 3 1, 3) := by decide +kernel
theorem dX6_anew_56 : decode cX6_anew 56 = .ok (.goto (-18), 3) := by decide +kernel
theorem dX6_anew_59 : decode cX6_anew 59 = .ok (.return_, 1) := by decide +kernel
set_option maxRecDepth 20000 in
theorem ggX6_isState_X6_in : GoodIn wsX6_isState wsX6_in := goodIn_r _ [5] (by decide +kernel) (by decide +kernel)
set_option maxRecDepth 20000 in
theorem gX6_isState_X6_in : GoodIn wsX6_isState (va_wsS RX6 66 yX6_in wsX6_in) := goodIn_app (goodIn_of _ (by decide +kernel)) ggX6_isState_X6_in
theorem dX6_isState_0 : decode cX6_isState 0 = .ok (.iload_n 1, 1) := by decide +kernel
theorem dX6_isState_1 : decode cX6_isState 1 = .ok (.iconst 0, 1) := by decide +kernel
theorem dX6_isState_2 : decode cX6_isState 2 = .ok (.aload_n 0, 1) := by decide +kernel
theorem dX6_isState_3 : decode cX6_isState 3 = .ok (.getfield 7, 3) := by decide +kernel
theorem dX6_isState_6 : decode cX6_isState 6 = .ok (.iconst 0, 1) := by decide +kernel
theorem dX6_isState_7 : decode cX6_isState 7 = .ok (.iaload, 1) := by decide +kernel
theorem dX6_isState_8 : decode cX6_isState 8 = .ok (.iconst 1, 1) := by decide +kernel
theorem dX6_isState_9 : decode cX6_isState 9 = .ok (.isub, 1) := by decide +kernel
theorem dX6_isState_10 : decode cX6_isState 10 = .ok (.invokestatic 66, 3) := by decide +kernel
theorem dX6_isState_13 : decode cX6_isState 13 = .ok (.ireturn, 1) := by decide +kernel
set_option maxRecDepth 20000 in
theorem ggX6_isLetter_X6_in : GoodIn wsX6_isLetter wsX6_in := goodIn_r _ [5] (by decide +kernel) (by decide +kernel)
set_option maxRecDepth 20000 in
theorem gX6_isLetter_X6_in : GoodIn wsX6_isLetter (va_wsS RX6 66 yX6_in wsX6_in) := goodIn_app (goodIn_of _ (by decide +kernel)) ggX6_isLetter_X6_in
theorem dX6_isLetter_0 : decode cX6_isLetter 0 = .ok (.iload_n 1, 1) := by decide +kernel
theorem dX6_isLetter_1 : decode cX6_isLetter 1 = .ok (.iconst 0, 1) := by decide +kernel
theorem dX6_isLetter_2 : decode cX6_isLetter 2 = .ok (.aload_n 0, 1) := by decide +kernel
theorem dX6_isLetter_3 : decode cX6_isLetter 3 = .ok (.getfield 7, 3) := by decide +kernel
theorem dX6_isLetter_6 : decode cX6_isLetter 6 = .ok (.iconst 1, 1) := by decide +kernel
theorem dX6_isLetter_7 : decode cX6_isLetter 7 = .ok (.iaload, 1) := by decide +kernel
theorem dX6_isLetter_8 : decode cX6_isLetter 8 = .ok (.iconst 1, 1) := by decide +kernel
theorem dX6_isLetter_9 : decode cX6_isLetter 9 = .ok (.isub, 1) := by decide +kernel
theorem dX6_isLetter_10 : decode cX6_isLetter 10 = .ok (.invokestatic 66, 3) := by decide +kernel
theorem dX6_isLetter_13 : decode cX6_isLetter 13 = .ok (.ireturn, 1) := by decide +kernel
set_option maxRecDepth 20000 in
theorem ggX6_isFeature_X6_in : GoodIn wsX6_isFeature wsX6_in := goodIn_r _ [5] (by decide +kernel) (by decide +kernel)
set_option maxRecDepth 20000 in
theorem gX6_isFeature_X6_in : GoodIn wsX6_isFeature (va_wsS RX6 66 yX6_in wsX6_in) := goodIn_app (goodIn_of _ (by decide +kernel)) ggX6_isFeature_X6_in
theorem dX6_isFeature_0 : decode cX6_isFeature 0 = .ok (.iload_n 1, 1) := by decide +kernel
theorem dX6_isFeature_1 : decode cX6_isFeature 1 = .ok (.iconst 0, 1) := by decide +kernel
theorem dX6_isFeature_2 : decode cX6_isFeature 2 = .ok (.aload_n 0, 1) := by decide +kernel
theorem dX6_isFeature_3 : decode cX6_isFeature 3 = .ok (.getfield 7, 3) := by decide +kernel
theorem dX6_isFeature_6 : decode cX6_isFeature 6 = .ok (.bipush 34, 2) := by decide +kernel
theorem dX6_isFeature_8 : decode cX6_isFeature 8 = .ok (.iaload, 1) := by decide +kernel
theorem dX6_isFeature_9 : decode cX6_isFeature 9 = .ok (.iconst 1, 1) := by decide +kernel
theorem dX6_isFeature_10 : decode cX6_isFeature 10 = .ok (.isub, 1) := by decide +kernel
theorem dX6_isFeature_11 : decode cX6_isFeature 11 = .ok (.invokestatic 66, 3) := by decide +kernel
theorem dX6_isFeature_14 : decode cX6_isFeature 14 = .ok (.ireturn, 1) := by decide +kernel
theorem dX6_at_0 : decode cX6_at 0 = .ok (.bipush 35, 2) := by decide +kernel
theorem dX6_at_2 : decode cX6_at 2 = .ok (.bipush 34, 2) := by decide +kernel
theorem dX6_at_4 : decode cX6_at 4 = .ok (.iload_n 0, 1) := by decide +kernel
theorem dX6_at_5 : decode cX6_at 5 = .ok (.imul, 1) := by decide +kernel
theorem dX6_at_6 : decode cX6_at 6 = .ok (.iadd, 1) := by decide +kernel
theorem dX6_at_7 : decode cX6_at 7 = .ok (.iload_n 1, 1) := by decide +kernel
theorem dX6_at_8 : decode cX6_at 8 = .ok (.iadd, 1) := by decide +kernel
theorem dX6_at_9 : decode cX6_at 9 = .ok (.ireturn, 1) := by decide +kernel
set_option maxRecDepth 20000 in
theorem ggX6_begin_X6_in : GoodIn wsX6_begin wsX6_in := goodIn_r _ [6] (by decide +kernel) (by decide +kernel)
set_option maxRecDepth 20000 in
theorem gX6_begin_X6_in : GoodIn wsX6_begin (va_wsS RX6 66 yX6_in wsX6_in) := goodIn_app (goodIn_of _ (by decide +kernel)) ggX6_begin_X6_in
set_option maxRecDepth 20000 in
theorem ggX6_begin_X6_anew : GoodIn wsX6_begin wsX6_anew := goodIn_r _ [10, 1, 11, 12, 13, 14, 15, 16, 17, 18, 19, 20, 21, 22, 23, 24, 25, 26, 27, 28, 29, 30, 31, 32] (by decide +kernel) (by decide +kernel)
set_option maxRecDepth 20000 in
theorem gX6_begin_X6_anew : GoodIn wsX6_begin (wsV RX6 62 RX6 yX6_anew wsX6_anew) := goodIn_app (goodIn_of _ (by decide +kernel)) ggX6_begin_X6_anew
theorem dX6_begin_0 : decode cX6_begin 0 = .ok (.iload_n 1, 1) := by decide +kernel
theorem dX6_begin_1 : decode cX6_begin 1 = .ok (.iconst 1, 1) := by decide +kernel
theorem dX6_begin_2 : decode cX6_begin 2 = .ok (.bipush 8, 2) := by decide +kernel
theorem dX6_begin_4 : decode cX6_begin 4 = .ok (.invokestatic 66, 3) := by decide +kernel
theorem dX6_begin_7 : decode cX6_begin 7 = .ok (.ifCond .eq 12, 3) := by decide +kernel
theorem dX6_begin_10 : decode cX6_begin 10 = .ok (.iload_n 2, 1) := by decide +kernel
theorem dX6_begin_11 : decode cX6_begin 11 = .ok (.iconst 1, 1) := by decide +kernel
theorem dX6_begin_12 : decode cX6_begin 12 = .ok (.iconst 4, 1) := by decide +kernel
theorem dX6_begin_13 : decode cX6_begin 13 = .ok (.invokestatic 66, 3) := by decide +kernel
theorem dX6_begin_16 : decode cX6_begin 16 = .ok (.ifCond .ne 6, 3) := by decide +kernel
theorem dX6_begin_19 : decode cX6_begin 19 = .ok (.bipush (-2), 2) := by decide +kernel
theorem dX6_begin_21 : decode cX6_begin 21 = .ok (.ireturn, 1) := by decide +kernel
theorem dX6_begin_22 : decode cX6_begin 22 = .ok (.bipush 10, 2) := by decide +kernel
theorem dX6_begin_24 : decode cX6_begin 24 = .ok (.aload_n 0, 1) := by decide +kernel
theorem dX6_begin_25 : decode cX6_begin 25 = .ok (.getfield 7, 3) := by decide +kernel
theorem dX6_begin_28 : decode cX6_begin 28 = .ok (.iconst 0, 1) := by decide +kernel
theorem dX6_begin_29 : decode cX6_begin 29 = .ok (.iaload, 1) := by decide +kernel
theorem dX6_begin_30 : decode cX6_begin 30 = .ok (.imul, 1) := by decide +kernel
theorem dX6_begin_31 : decode cX6_begin 31 = .ok (.aload_n 0, 1) := by decide +kernel
theorem dX6_begin_32 : decode cX6_begin 32 = .ok (.getfield 7, 3) := by decide +kernel
theorem dX6_begin_35 : decode cX6_begin 35 = .ok (.iconst 1, 1) := by decide +kernel
theorem dX6_begin_36 : decode cX6_begin 36 = .ok (.iaload, 1) := by decide +kernel
theorem dX6_begin_37 : decode cX6_begin 37 = .ok (.iadd, 1) := by decide +kernel
theorem dX6_begin_38 : decode cX6_begin 38 = .ok (.istore_n 3, 1) := by decide +kernel
theorem dX6_begin_39 : decode cX6_begin 39 = .ok (.aload_n 0, 1) := by decide +kernel
theorem dX6_begin_40 : decode cX6_begin 40 = .ok (.iload_n 1, 1) := by decide +kernel
theorem dX6_begin_41 : decode cX6_begin 41 = .ok (.iload_n 2, 1) := by decide +kernel
theorem dX6_begin_42 : decode cX6_begin 42 = .ok (.invokevirtual 62, 3) := by decide +kernel
theorem dX6_begin_45 : decode cX6_begin 45 = .ok (.aload_n 0, 1) := by decide +kernel
theorem dX6_begin_46 : decode cX6_begin 46 = .ok (.iconst 0, 1) := by decide +kernel
theorem dX6_begin_47 : decode cX6_begin 47 = .ok (.putfield 70, 3) := by decide +kernel
theorem dX6_begin_50 : decode cX6_begin 50 = .ok (.iload_n 3, 1) := by decide +kernel
theorem dX6_begin_51 : decode cX6_begin 51 = .ok (.ireturn, 1) := by decide +kernel
theorem dX6_puts_0 : decode cX6_puts 0 = .ok (.aload_n 0, 1) := by decide +kernel
theorem dX6_puts_1 : decode cX6_puts 1 = .ok (.getfield 7, 3) := by decide +kernel
theorem dX6_puts_4 : decode cX6_puts 4 = .ok (.iload_n 1, 1) := by decide +kernel
theorem dX6_puts_5 : decode cX6_puts 5 = .ok (.iaload, 1) := by decide +kernel
theorem dX6_puts_6 : decode cX6_puts 6 = .ok (.istore_n 3, 1) := by decide +kernel
theorem dX6_puts_7 : decode cX6_puts 7 = .ok (.aload_n 0, 1) := by decide +kernel
theorem dX6_puts_8 : decode cX6_puts 8 = .ok (.getfield 7, 3) := by decide +kernel
theorem dX6_puts_11 : decode cX6_puts 11 = .ok (.iload_n 1, 1) := by decide +kernel
theorem dX6_puts_12 : decode cX6_puts 12 = .ok (.iload_n 2, 1) := by decide +kernel
theorem dX6_puts_13 : decode cX6_puts 13 = .ok (.iastore, 1) := by decide +kernel
theorem dX6_puts_14 : decode cX6_puts 14 = .ok (.iload_n 3, 1) := by decide +kernel
theorem dX6_puts_15 : decode cX6_puts 15 = .ok (.ifCond .ge 8, 3) := by decide +kernel
theorem dX6_puts_18 : decode cX6_puts 18 = .ok (.bipush (-5), 2) := by decide +kernel
theorem dX6_puts_20 : decode cX6_puts 20 = .ok (.goto 4, 3) := by decide +kernel
theorem dX6_puts_23 : decode cX6_puts 23 = .ok (.iload_n 3, 1) := by decide +kernel
theorem dX6_puts_24 : decode cX6_puts 24 = .ok (.ireturn, 1) := by decide +kernel
set_option maxRecDepth 20000 in
theorem ggX6_setArrow_X6_isState : GoodIn wsX6_setArrow wsX6_isState := goodIn_r _ [5, 6, 7, 8, 4, 9, 18, 19, 20, 21, 22, 23, 24, 25, 26, 27, 28, 29, 30, 31, 32, 33, 34, 35, 36, 37, 38, 39] (by decide +kernel) (by decide +kernel)
set_option maxRecDepth 20000 in
theorem gX6_setArrow_X6_isState : GoodIn wsX6_setArrow (wsV RX6 74 RX6 yX6_isState wsX6_isState) := goodIn_app (goodIn_of _ (by decide +kernel)) ggX6_setArrow_X6_isState
set_option maxRecDepth 20000 in
theorem ggX6_setArrow_X6_isLetter : GoodIn wsX6_setArrow wsX6_isLetter := goodIn_r _ [13, 6, 7, 8, 4, 9, 18, 19, 20, 21, 22, 23, 24, 25, 26, 27, 28, 29, 30, 31, 32, 33, 34, 35, 36, 37, 38, 39] (by decide +kernel) (by decide +kernel)
set_option maxRecDepth 20000 in
theorem gX6_setArrow_X6_isLetter : GoodIn wsX6_setArrow (wsV RX6 78 RX6 yX6_isLetter wsX6_isLetter) := goodIn_app (goodIn_of _ (by decide +kernel)) ggX6_setArrow_X6_isLetter
set_option maxRecDepth 20000 in
theorem ggX6_setArrow_X6_in : GoodIn wsX6_setArrow wsX6_in := goodIn_r _ [9] (by decide +kernel) (by decide +kernel)
set_option maxRecDepth 20000 in
theorem gX6_setArrow_X6_in : GoodIn wsX6_setArrow (va_wsS RX6 66 yX6_in wsX6_in) := goodIn_app (goodIn_of _ (by decide +kernel)) ggX6_setArrow_X6_in
set_option maxRecDepth 20000 in
theorem ggX6_setArrow_X6_puts : GoodIn wsX6_setArrow wsX6_puts := goodIn_r _ [17, 6, 18, 19, 20, 21, 22, 23, 24, 25, 26, 27, 28, 29, 30, 31, 32, 33, 34, 35, 36, 37, 38, 39] (by decide +kernel) (by decide +kernel)
set_option maxRecDepth 20000 in
theorem gX6_setArrow_X6_puts : GoodIn wsX6_setArrow (wsV RX6 81 RX6 yX6_puts wsX6_puts) := goodIn_app (goodIn_of _ (by decide +kernel)) ggX6_setArrow_X6_puts
theorem dX6_setArrow_0 : decode cX6_setArrow 0 = .ok (.aload_n 0, 1) := by decide +kernel
theorem dX6_setArrow_1 : decode cX6_setArrow 1 = .ok (.iload_n 1, 1) := by decide +kernel
theorem dX6_setArrow_2 : decode cX6_setArrow 2 = .ok (.invokevirtual 74, 3) := by decide +kernel
theorem dX6_setArrow_5 : decode cX6_setArrow 5 = .ok (.ifCond .eq 19, 3) := by decide +kernel
theorem dX6_setArrow_8 : decode cX6_setArrow 8 = .ok (.aload_n 0, 1) := by decide +kernel
theorem dX6_setArrow_9 : decode cX6_setArrow 9 = .ok (.iload_n 2, 1) := by decide +kernel
theorem dX6_setArrow_10 : decode cX6_setArrow 10 = .ok (.invokevirtual 78, 3) := by decide +kernel
theorem dX6_setArrow_13 : decode cX6_setArrow 13 = .ok (.ifCond .eq 11, 3) := by decide +kernel
theorem dX6_setArrow_16 : decode cX6_setArrow 16 = .ok (.aload_n 0, 1) := by decide +kernel
theorem dX6_setArrow_17 : decode cX6_setArrow 17 = .ok (.iload_n 3, 1) := by decide +kernel
theorem dX6_setArrow_18 : decode cX6_setArrow 18 = .ok (.invokevirtual 74, 3) := by decide +kernel
theorem dX6_setArrow_21 : decode cX6_setArrow 21 = .ok (.ifCond .ne 5, 3) := by decide +kernel
theorem dX6_setArrow_24 : decode cX6_setArrow 24 = .ok (.iconst (-1), 1) := by decide +kernel
theorem dX6_setArrow_25 : decode cX6_setArrow 25 = .ok (.ireturn, 1) := by decide +kernel
theorem dX6_setArrow_26 : decode cX6_setArrow 26 = .ok (.iload 4, 2) := by decide +kernel
theorem dX6_setArrow_28 : decode cX6_setArrow 28 = .ok (.iconst 0, 1) := by decide +kernel
theorem dX6_setArrow_29 : decode cX6_setArrow 29 = .ok (.bipush 9, 2) := by decide +kernel
theorem dX6_setArrow_31 : decode cX6_setArrow 31 = .ok (.invokestatic 66, 3) := by decide +kernel
theorem dX6_setArrow_34 : decode cX6_setArrow 34 = .ok (.ifCond .eq 24, 3) := by decide +kernel
theorem dX6_setArrow_37 : decode cX6_setArrow 37 = .ok (.aload_n 0, 1) := by decide +kernel
theorem dX6_setArrow_38 : decode cX6_setArrow 38 = .ok (.iconst 2, 1) := by decide +kernel
theorem dX6_setArrow_39 : decode cX6_setArrow 39 = .ok (.iconst 4, 1) := by decide +kernel
theorem dX6_setArrow_40 : decode cX6_setArrow 40 = .ok (.iload_n 1, 1) := by decide +kernel
theorem dX6_setArrow_41 : decode cX6_setArrow 41 = .ok (.imul, 1) := by decide +kernel
theorem dX6_setArrow_42 : decode cX6_setArrow 42 = .ok (.iadd, 1) := by decide +kernel
theorem dX6_setArrow_43 : decode cX6_setArrow 43 = .ok (.iload_n 2, 1) := by decide +kernel
theorem dX6_setArrow_44 : decode cX6_setArrow 44 = .ok (.iadd, 1) := by decide +kernel
theorem dX6_setArrow_45 : decode cX6_setArrow 45 = .ok (.bipush 10, 2) := by decide +kernel
theorem dX6_setArrow_47 : decode cX6_setArrow 47 = .ok (.iload_n 3, 1) := by decide +kernel
theorem dX6_setArrow_48 : decode cX6_setArrow 48 = .ok (.imul, 1) := by decide +kernel
theorem dX6_setArrow_49 : decode cX6_setArrow 49 = .ok (.iload 4, 2) := by decide +kernel
theorem dX6_setArrow_51 : decode cX6_setArrow 51 = .ok (.iadd, 1) := by decide +kernel
theorem dX6_setArrow_52 : decode cX6_setArrow 52 = .ok (.invokevirtual 81, 3) := by decide +kernel
theorem dX6_setArrow_55 : decode cX6_setArrow 55 = .ok (.goto 5, 3) := by decide +kernel
theorem dX6_setArrow_58 : decode cX6_setArrow 58 = .ok (.bipush (-2), 2) := by decide +kernel
theorem dX6_setArrow_60 : decode cX6_setArrow 60 = .ok (.ireturn, 1) := by decide +kernel
set_option maxRecDepth 20000 in
theorem ggX6_removeArrow_X6_isState : GoodIn wsX6_removeArrow wsX6_isState := goodIn_r _ [5, 6, 7, 8, 4, 9, 18, 19, 20, 21, 22, 23, 24, 25, 26, 27, 28, 29, 30, 31, 32, 33, 34, 35, 36, 37, 38, 39] (by decide +kernel) (by decide +kernel)
set_option maxRecDepth 20000 in
theorem gX6_removeArrow_X6_isState : GoodIn wsX6_removeArrow (wsV RX6 74 RX6 yX6_isState wsX6_isState) := goodIn_app (goodIn_of _ (by decide +kernel)) ggX6_removeArrow_X6_isState
set_option maxRecDepth 20000 in
theorem ggX6_removeArrow_X6_isLetter : GoodIn wsX6_removeArrow wsX6_isLetter := goodIn_r _ [13, 6, 7, 8, 4, 9, 18, 19, 20, 21, 22, 23, 24, 25, 26, 27, 28, 29, 30, 31, 32, 33, 34, 35, 36, 37, 38, 39] (by decide +kernel) (by decide +kernel)
set_option maxRecDepth 20000 in
theorem gX6_removeArrow_X6_isLetter : GoodIn wsX6_removeArrow (wsV RX6 78 RX6 yX6_isLetter wsX6_isLetter) := goodIn_app (goodIn_of _ (by decide +kernel)) ggX6_removeArrow_X6_isLetter
set_option maxRecDepth 20000 in
theorem ggX6_removeArrow_X6_puts : GoodIn wsX6_removeArrow wsX6_puts := goodIn_r _ [17, 6, 18, 19, 20, 21, 22, 23, 24, 25, 26, 27, 28, 29, 30, 31, 32, 33, 34, 35, 36, 37, 38, 39] (by decide +kernel) (by decide +kernel)
set_option maxRecDepth 20000 in
theorem gX6_removeArrow_X6_puts : GoodIn wsX6_removeArrow (wsV RX6 81 RX6 yX6_puts wsX6_puts) := goodIn_app (goodIn_of _ (by decide +kernel)) ggX6_removeArrow_X6_puts
theorem dX6_removeArrow_0 : decode cX6_removeArrow 0 = .ok (.aload_n 0, 1) := by decide +kernel
theorem dX6_removeArrow_1 : decode cX6_removeArrow 1 = .ok (.iload_n 1, 1) := by decide +kernel
theorem dX6_removeArrow_2 : decode cX6_removeArrow 2 = .ok (.invokevirtual 74, 3) := by decide +kernel
theorem dX6_removeArrow_5 : decode cX6_removeArrow 5 = .ok (.ifCond .eq 11, 3) := by decide +kernel
theorem dX6_removeArrow_8 : decode cX6_removeArrow 8 = .ok (.aload_n 0, 1) := by decide +kernel
theorem dX6_removeArrow_9 : decode cX6_removeArrow 9 = .ok (.iload_n 2, 1) := by decide +kernel
theorem dX6_removeArrow_10 : decode cX6_removeArrow 10 = .ok (.invokevirtual 78, 3) := by decide +kernel
theorem dX6_removeArrow_13 : decode cX6_removeArrow 13 = .ok (.ifCond .ne 5, 3) := by decide +kernel
theorem dX6_removeArrow_16 : decode cX6_removeArrow 16 = .ok (.iconst (-1), 1) := by decide +kernel
theorem dX6_removeArrow_17 : decode cX6_removeArrow 17 = .ok (.ireturn, 1) := by decide +kernel
theorem dX6_removeArrow_18 : decode cX6_removeArrow 18 = .ok (.aload_n 0, 1) := by decide +kernel
theorem dX6_removeArrow_19 : decode cX6_removeArrow 19 = .ok (.iconst 2, 1) := by decide +kernel
theorem dX6_removeArrow_20 : decode cX6_removeArrow 20 = .ok (.iconst 4, 1) := by decide +kernel
theorem dX6_removeArrow_21 : decode cX6_removeArrow 21 = .ok (.iload_n 1, 1) := by decide +kernel
theorem dX6_removeArrow_22 : decode cX6_removeArrow 22 = .ok (.imul, 1) := by decide +kernel
theorem dX6_removeArrow_23 : decode cX6_removeArrow 23 = .ok (.iadd, 1) := by decide +kernel
theorem dX6_removeArrow_24 : decode cX6_removeArrow 24 = .ok (.iload_n 2, 1) := by decide +kernel
theorem dX6_removeArrow_25 : decode cX6_removeArrow 25 = .ok (.iadd, 1) := by decide +kernel
theorem dX6_removeArrow_26 : decode cX6_removeArrow 26 = .ok (.iconst (-1), 1) := by decide +kernel
theorem dX6_removeArrow_27 : decode cX6_removeArrow 27 = .ok (.invokevirtual 81, 3) := by decide +kernel
theorem dX6_removeArrow_30 : decode cX6_removeArrow 30 = .ok (.ireturn, 1) := by decide +kernel
set_option maxRecDepth 20000 in
theorem ggX6_addFeature_X6_at : GoodIn wsX6_addFeature wsX6_at := goodIn_r _ [5] (by decide +kernel) (by decide +kernel)
set_option maxRecDepth 20000 in
theorem gX6_addFeature_X6_at : GoodIn wsX6_addFeature (va_wsS RX6 85 yX6_at wsX6_at) := goodIn_app (goodIn_of _ (by decide +kernel)) ggX6_addFeature_X6_at
set_option maxRecDepth 20000 in
theorem ggX6_addFeature_X6_clears : GoodIn wsX6_addFeature wsX6_clears := goodIn_r _ [9, 1, 2, 3, 4, 5, 10, 11, 12, 13, 14, 15, 16, 17, 18, 19, 20, 21, 22, 23, 24, 25, 26, 27, 28, 29, 30, 31] (by decide +kernel) (by decide +kernel)
set_option maxRecDepth 20000 in
theorem gX6_addFeature_X6_clears : GoodIn wsX6_addFeature (wsV RX6 88 RX6 yX6_clears wsX6_clears) := goodIn_app (goodIn_of _ (by decide +kernel)) ggX6_addFeature_X6_clears
theorem dX6_addFeature_0 : decode cX6_addFeature 0 = .ok (.aload_n 0, 1) := by decide +kernel
theorem dX6_addFeature_1 : decode cX6_addFeature 1 = .ok (.getfield 7, 3) := by decide +kernel
theorem dX6_addFeature_4 : decode cX6_addFeature 4 = .ok (.bipush 34, 2) := by decide +kernel
theorem dX6_addFeature_6 : decode cX6_addFeature 6 = .ok (.iaload, 1) := by decide +kernel
theorem dX6_addFeature_7 : decode cX6_addFeature 7 = .ok (.bipush 6, 2) := by decide +kernel
theorem dX6_addFeature_9 : decode cX6_addFeature 9 = .ok (.if_icmp .ne 6, 3) := by decide +kernel
theorem dX6_addFeature_12 : decode cX6_addFeature 12 = .ok (.bipush (-4), 2) := by decide +kernel
theorem dX6_addFeature_14 : decode cX6_addFeature 14 = .ok (.ireturn, 1) := by decide +kernel
theorem dX6_addFeature_15 : decode cX6_addFeature 15 = .ok (.aload_n 0, 1) := by decide +kernel
theorem dX6_addFeature_16 : decode cX6_addFeature 16 = .ok (.getfield 7, 3) := by decide +kernel
theorem dX6_addFeature_19 : decode cX6_addFeature 19 = .ok (.bipush 34, 2) := by decide +kernel
theorem dX6_addFeature_21 : decode cX6_addFeature 21 = .ok (.iaload, 1) := by decide +kernel
theorem dX6_addFeature_22 : decode cX6_addFeature 22 = .ok (.istore_n 1, 1) := by decide +kernel
theorem dX6_addFeature_23 : decode cX6_addFeature 23 = .ok (.aload_n 0, 1) := by decide +kernel
theorem dX6_addFeature_24 : decode cX6_addFeature 24 = .ok (.getfield 7, 3) := by decide +kernel
theorem dX6_addFeature_27 : decode cX6_addFeature 27 = .ok (.iload_n 1, 1) := by decide +kernel
theorem dX6_addFeature_28 : decode cX6_addFeature 28 = .ok (.iconst 0, 1) := by decide +kernel
theorem dX6_addFeature_29 : decode cX6_addFeature 29 = .ok (.invokestatic 85, 3) := by decide +kernel
theorem dX6_addFeature_32 : decode cX6_addFeature 32 = .ok (.iconst 1, 1) := by decide +kernel
theorem dX6_addFeature_33 : decode cX6_addFeature 33 = .ok (.iastore, 1) := by decide +kernel
theorem dX6_addFeature_34 : decode cX6_addFeature 34 = .ok (.aload_n 0, 1) := by decide +kernel
theorem dX6_addFeature_35 : decode cX6_addFeature 35 = .ok (.getfield 7, 3) := by decide +kernel
theorem dX6_addFeature_38 : decode cX6_addFeature 38 = .ok (.iload_n 1, 1) := by decide +kernel
theorem dX6_addFeature_39 : decode cX6_addFeature 39 = .ok (.bipush 33, 2) := by decide +kernel
theorem dX6_addFeature_41 : decode cX6_addFeature 41 = .ok (.invokestatic 85, 3) := by decide +kernel
theorem dX6_addFeature_44 : decode cX6_addFeature 44 = .ok (.iconst 0, 1) := by decide +kernel
theorem dX6_addFeature_45 : decode cX6_addFeature 45 = .ok (.iastore, 1) := by decide +kernel
theorem dX6_addFeature_46 : decode cX6_addFeature 46 = .ok (.aload_n 0, 1) := by decide +kernel
theorem dX6_addFeature_47 : decode cX6_addFeature 47 = .ok (.iload_n 1, 1) := by decide +kernel
theorem dX6_addFeature_48 : decode cX6_addFeature 48 = .ok (.invokevirtual 88, 3) := by decide +kernel
theorem dX6_addFeature_51 : decode cX6_addFeature 51 = .ok (.aload_n 0, 1) := by decide +kernel
theorem dX6_addFeature_52 : decode cX6_addFeature 52 = .ok (.getfield 7, 3) := by decide +kernel
theorem dX6_addFeature_55 : decode cX6_addFeature 55 = .ok (.bipush 34, 2) := by decide +kernel
theorem dX6_addFeature_57 : decode cX6_addFeature 57 = .ok (.dup2, 1) := by decide +kernel
theorem dX6_addFeature_58 : decode cX6_addFeature 58 = .ok (.iaload, 1) := by decide +kernel
theorem dX6_addFeature_59 : decode cX6_addFeature 59 = .ok (.iconst 1, 1) := by decide +kernel
theorem dX6_addFeature_60 : decode cX6_addFeature 60 = .ok (.iadd, 1) := by decide +kernel
theorem dX6_addFeature_61 : decode cX6_addFeature 61 = .ok (.iastore, 1) := by decide +kernel
theorem dX6_addFeature_62 : decode cX6_addFeature 62 = .ok (.iload_n 1, 1) := by decide +kernel
theorem dX6_addFeature_63 : decode cX6_addFeature 63 = .ok (.ireturn, 1) := by decide +kernel
set_option maxRecDepth 20000 in
theorem ggX6_clears_X6_at : GoodIn wsX6_clears wsX6_at := goodIn_r _ [5] (by decide +kernel) (by decide +kernel)
set_option maxRecDepth 20000 in
theorem gX6_clears_X6_at : GoodIn wsX6_clears (va_wsS RX6 85 yX6_at wsX6_at) := goodIn_app (goodIn_of _ (by decide +kernel)) ggX6_clears_X6_at
theorem dX6_clears_0 : decode cX6_clears 0 = .ok (.iconst 0, 1) := by decide +kernel
theorem dX6_clears_1 : decode cX6_clears 1 = .ok (.istore_n 2, 1) := by decide +kernel
theorem dX6_clears_2 : decode cX6_clears 2 = .ok (.iload_n 2, 1) := by decide +kernel
theorem dX6_clears_3 : decode cX6_clears 3 = .ok (.bipush 32, 2) := by decide +kernel
theorem dX6_clears_5 : decode cX6_clears 5 = .ok (.if_icmp .ge 22, 3) := by decide +kernel
theorem dX6_clears_8 : decode cX6_clears 8 = .ok (.aload_n 0, 1) := by decide +kernel
theorem dX6_clears_9 : decode cX6_clears 9 = .ok (.getfield 7, 3) := by decide +kernel
theorem dX6_clears_12 : decode cX6_clears 12 = .ok (.iload_n 1, 1) := by decide +kernel
theorem dX6_clears_13 : decode cX6_clears 13 = .ok (.iconst 1, 1) := by decide +kernel
theorem dX6_clears_14 : decode cX6_clears 14 = .ok (.iload_n 2, 1) := by decide +kernel
theorem dX6_clears_15 : decode cX6_clears 15 = .ok (.iadd, 1) := by decide +kernel
theorem dX6_clears_16 : decode cX6_clears 16 = .ok (.invokestatic 85, 3) := by decide +kernel
theorem dX6_clears_19 : decode cX6_clears 19 = .ok (.iconst (-1), 1) := by decide +kernel
theorem dX6_clears_20 : decode cX6_clears 20 = .ok (.iastore, 1) := by decide +kernel
theorem dX6_clears_21 : decode cX6_clears 21 = .ok (.iinc 2 1, 3) := by decide +kernel
theorem dX6_clears_24 : decode cX6_clears 24 = .ok (.goto (-22), 3) := by decide +kernel
theorem dX6_clears_27 : decode cX6_clears 27 = .ok (.return_, 1) := by decide +kernel
set_option maxRecDepth 20000 in
theorem ggX6_count_X6_at : GoodIn wsX6_count wsX6_at := goodIn_r _ [5] (by decide +kernel) (by decide +kernel)
set_option maxRecDepth 20000 in
theorem gX6_count_X6_at : GoodIn wsX6_count (va_wsS RX6 85 yX6_at wsX6_at) := goodIn_app (goodIn_of _ (by decide +kernel)) ggX6_count_X6_at
theorem dX6_count_0 : decode cX6_count 0 = .ok (.iconst 0, 1) := by decide +kernel
theorem dX6_count_1 : decode cX6_count 1 = .ok (.istore_n 2, 1) := by decide +kernel
theorem dX6_count_2 : decode cX6_count 2 = .ok (.iconst 0, 1) := by decide +kernel
theorem dX6_count_3 : decode cX6_count 3 = .ok (.istore_n 3, 1) := by decide +kernel
theorem dX6_count_4 : decode cX6_count 4 = .ok (.iload_n 3, 1) := by decide +kernel
theorem dX6_count_5 : decode cX6_count 5 = .ok (.bipush 32, 2) := by decide +kernel
theorem dX6_count_7 : decode cX6_count 7 = .ok (.if_icmp .ge 32, 3) := by decide +kernel
theorem dX6_count_10 : decode cX6_count 10 = .ok (.iload_n 2, 1) := by decide +kernel
theorem dX6_count_11 : decode cX6_count 11 = .ok (.aload_n 0, 1) := by decide +kernel
theorem dX6_count_12 : decode cX6_count 12 = .ok (.getfield 7, 3) := by decide +kernel
theorem dX6_count_15 : decode cX6_count 15 = .ok (.iload_n 1, 1) := by decide +kernel
theorem dX6_count_16 : decode cX6_count 16 = .ok (.iconst 1, 1) := by decide +kernel
theorem dX6_count_17 : decode cX6_count 17 = .ok (.iload_n 3, 1) := by decide +kernel
theorem dX6_count_18 : decode cX6_count 18 = .ok (.iadd, 1) := by decide +kernel
theorem dX6_count_19 : decode cX6_count 19 = .ok (.invokestatic 85, 3) := by decide +kernel
theorem dX6_count_22 : decode cX6_count 22 = .ok (.iaload, 1) := by decide +kernel
theorem dX6_count_23 : decode cX6_count 23 = .ok (.ifCond .ge 7, 3) := by decide +kernel
theorem dX6_count_26 : decode cX6_count 26 = .ok (.iconst 0, 1) := by decide +kernel
theorem dX6_count_27 : decode cX6_count 27 = .ok (.goto 4, 3) := by decide +kernel
theorem dX6_count_30 : decode cX6_count 30 = .ok (.iconst 1, 1) := by decide +kernel
theorem dX6_count_31 : decode cX6_count 31 = .ok (.iadd, 1) := by decide +kernel
theorem dX6_count_32 : decode cX6_count 32 = .ok (.istore_n 2, 1) := by decide +kernel
theorem dX6_count_33 : decode cX6_count 33 = .ok (.iinc 3 1, 3) := by decide +kernel
theorem dX6_count_36 : decode cX6_count 36 = .ok (.goto (-32), 3) := by decide +kernel
theorem dX6_count_39 : decode cX6_count 39 = .ok (.iload_n 2, 1) := by decide +kernel
theorem dX6_count_40 : decode cX6_count 40 = .ok (.ireturn, 1) := by decide +kernel
set_option maxRecDepth 20000 in
theorem ggX6_change_X6_isFeature : GoodIn wsX6_change wsX6_isFeature := goodIn_r _ [6, 1, 7, 8, 5, 9, 25, 26, 27, 28, 29, 30, 31, 32, 33, 34, 35, 36, 37, 38, 39, 40, 41, 42, 43, 44, 45, 46] (by decide +kernel) (by decide +kernel)
set_option maxRecDepth 20000 in
theorem gX6_change_X6_isFeature : GoodIn wsX6_change (wsV RX6 92 RX6 yX6_isFeature wsX6_isFeature) := goodIn_app (goodIn_of _ (by decide +kernel)) ggX6_change_X6_isFeature
set_option maxRecDepth 20000 in
theorem ggX6_change_X6_isState : GoodIn wsX6_change wsX6_isState := goodIn_r _ [13, 1, 7, 8, 5, 9, 25, 26, 27, 28, 29, 30, 31, 32, 33, 34, 35, 36, 37, 38, 39, 40, 41, 42, 43, 44, 45, 46] (by decide +kernel) (by decide +kernel)
set_option maxRecDepth 20000 in
theorem gX6_change_X6_isState : GoodIn wsX6_change (wsV RX6 74 RX6 yX6_isState wsX6_isState) := goodIn_app (goodIn_of _ (by decide +kernel)) ggX6_change_X6_isState
set_option maxRecDepth 20000 in
theorem ggX6_change_X6_isLetter : GoodIn wsX6_change wsX6_isLetter := goodIn_r _ [17, 1, 7, 8, 5, 9, 25, 26, 27, 28, 29, 30, 31, 32, 33, 34, 35, 36, 37, 38, 39, 40, 41, 42, 43, 44, 45, 46] (by decide +kernel) (by decide +kernel)
set_option maxRecDepth 20000 in
theorem gX6_change_X6_isLetter : GoodIn wsX6_change (wsV RX6 78 RX6 yX6_isLetter wsX6_isLetter) := goodIn_app (goodIn_of _ (by decide +kernel)) ggX6_change_X6_isLetter
set_option maxRecDepth 20000 in
theorem ggX6_change_X6_in : GoodIn wsX6_change wsX6_in := goodIn_r _ [9] (by decide +kernel) (by decide +kernel)
set_option maxRecDepth 20000 in
theorem gX6_change_X6_in : GoodIn wsX6_change (va_wsS RX6 66 yX6_in wsX6_in) := goodIn_app (goodIn_of _ (by decide +kernel)) ggX6_change_X6_in
set_option maxRecDepth 20000 in
theorem ggX6_change_X6_at : GoodIn wsX6_change wsX6_at := goodIn_r _ [20] (by decide +kernel) (by decide +kernel)
set_option maxRecDepth 20000 in
theorem gX6_change_X6_at : GoodIn wsX6_change (va_wsS RX6 85 yX6_at wsX6_at) := goodIn_app (goodIn_of _ (by decide +kernel)) ggX6_change_X6_at
set_option maxRecDepth 20000 in
theorem ggX6_change_X6_count : GoodIn wsX6_change wsX6_count := goodIn_r _ [24, 1, 18, 19, 5, 20, 25, 26, 27, 28, 29, 30, 31, 32, 33, 34, 35, 36, 37, 38, 39, 40, 41, 42, 43, 44, 45, 46] (by decide +kernel) (by decide +kernel)
set_option maxRecDepth 20000 in
theorem gX6_change_X6_count : GoodIn wsX6_change (wsV RX6 95 RX6 yX6_count wsX6_count) := goodIn_app (goodIn_of _ (by decide +kernel)) ggX6_change_X6_count
theorem dX6_change_0 : decode cX6_change 0 = .ok (.aload_n 0, 1) := by decide +kernel
theorem dX6_change_1 : decode cX6_change 1 = .ok (.iload_n 1, 1) := by decide +kernel
theorem dX6_change_2 : decode cX6_change 2 = .ok (.invokevirtual 92, 3) := by decide +kernel
theorem dX6_change_5 : decode cX6_change 5 = .ok (.ifCond .eq 28, 3) := by decide +kernel
theorem dX6_change_8 : decode cX6_change 8 = .ok (.aload_n 0, 1) := by decide +kernel
theorem dX6_change_9 : decode cX6_change 9 = .ok (.iload_n 2, 1) := by decide +kernel
theorem dX6_change_10 : decode cX6_change 10 = .ok (.invokevirtual 74, 3) := by decide +kernel
theorem dX6_change_13 : decode cX6_change 13 = .ok (.ifCond .eq 20, 3) := by decide +kernel
theorem dX6_change_16 : decode cX6_change 16 = .ok (.aload_n 0, 1) := by decide +kernel
theorem dX6_change_17 : decode cX6_change 17 = .ok (.iload_n 3, 1) := by decide +kernel
theorem dX6_change_18 : decode cX6_change 18 = .ok (.invokevirtual 78, 3) := by decide +kernel
theorem dX6_change_21 : decode cX6_change 21 = .ok (.ifCond .eq 12, 3) := by decide +kernel
theorem dX6_change_24 : decode cX6_change 24 = .ok (.aload_n 0, 1) := by decide +kernel
theorem dX6_change_25 : decode cX6_change 25 = .ok (.iload 4, 2) := by decide +kernel
theorem dX6_change_27 : decode cX6_change 27 = .ok (.invokevirtual 74, 3) := by decide +kernel
theorem dX6_change_30 : decode cX6_change 30 = .ok (.ifCond .ne 5, 3) := by decide +kernel
theorem dX6_change_33 : decode cX6_change 33 = .ok (.iconst (-1), 1) := by decide +kernel
theorem dX6_change_34 : decode cX6_change 34 = .ok (.ireturn, 1) := by decide +kernel
theorem dX6_change_35 : decode cX6_change 35 = .ok (.iload 5, 2) := by decide +kernel
theorem dX6_change_37 : decode cX6_change 37 = .ok (.iconst 0, 1) := by decide +kernel
theorem dX6_change_38 : decode cX6_change 38 = .ok (.bipush 9, 2) := by decide +kernel
theorem dX6_change_40 : decode cX6_change 40 = .ok (.invokestatic 66, 3) := by decide +kernel
theorem dX6_change_43 : decode cX6_change 43 = .ok (.ifCond .ne 6, 3) := by decide +kernel
theorem dX6_change_46 : decode cX6_change 46 = .ok (.bipush (-2), 2) := by decide +kernel
theorem dX6_change_48 : decode cX6_change 48 = .ok (.ireturn, 1) := by decide +kernel
theorem dX6_change_49 : decode cX6_change 49 = .ok (.aload_n 0, 1) := by decide +kernel
theorem dX6_change_50 : decode cX6_change 50 = .ok (.getfield 7, 3) := by decide +kernel
theorem dX6_change_53 : decode cX6_change 53 = .ok (.iload_n 1, 1) := by decide +kernel
theorem dX6_change_54 : decode cX6_change 54 = .ok (.iconst 1, 1) := by decide +kernel
theorem dX6_change_55 : decode cX6_change 55 = .ok (.iconst 4, 1) := by decide +kernel
theorem dX6_change_56 : decode cX6_change 56 = .ok (.iload_n 2, 1) := by decide +kernel
theorem dX6_change_57 : decode cX6_change 57 = .ok (.imul, 1) := by decide +kernel
theorem dX6_change_58 : decode cX6_change 58 = .ok (.iadd, 1) := by decide +kernel
theorem dX6_change_59 : decode cX6_change 59 = .ok (.iload_n 3, 1) := by decide +kernel
theorem dX6_change_60 : decode cX6_change 60 = .ok (.iadd, 1) := by decide +kernel
theorem dX6_change_61 : decode cX6_change 61 = .ok (.invokestatic 85, 3) := by decide +kernel
theorem dX6_change_64 : decode cX6_change 64 = .ok (.bipush 10, 2) := by decide +kernel
theorem dX6_change_66 : decode cX6_change 66 = .ok (.iload 4, 2) := by decide +kernel
theorem dX6_change_68 : decode cX6_change 68 = .ok (.imul, 1) := by decide +kernel
theorem dX6_change_69 : decode cX6_change 69 = .ok (.iload 5, 2) := by decide +kernel
theorem dX6_change_71 : decode cX6_change 71 = .ok (.iadd, 1) := by decide +kernel
theorem dX6_change_72 : decode cX6_change 72 = .ok (.iastore, 1) := by decide +kernel
theorem dX6_change_73 : decode cX6_change 73 = .ok (.aload_n 0, 1) := by decide +kernel
theorem dX6_change_74 : decode cX6_change 74 = .ok (.iload_n 1, 1) := by decide +kernel
theorem dX6_change_75 : decode cX6_change 75 = .ok (.invokevirtual 95, 3) := by decide +kernel
theorem dX6_change_78 : decode cX6_change 78 = .ok (.ireturn, 1) := by decide +kernel
set_option maxRecDepth 20000 in
theorem ggX6_changeToNone_X6_isFeature : GoodIn wsX6_changeToNone wsX6_isFeature := goodIn_r _ [6, 1, 7, 8, 5, 9, 25, 26, 27, 28, 29, 30, 31, 32, 33, 34, 35, 36, 37, 38, 39, 40, 41, 42, 43, 44, 45, 46] (by decide +kernel) (by decide +kernel)
set_option maxRecDepth 20000 in
theorem gX6_changeToNone_X6_isFeature : GoodIn wsX6_changeToNone (wsV RX6 92 RX6 yX6_isFeature wsX6_isFeature) := goodIn_app (goodIn_of _ (by decide +kernel)) ggX6_changeToNone_X6_isFeature
set_option maxRecDepth 20000 in
theorem ggX6_changeToNone_X6_isState : GoodIn wsX6_changeToNone wsX6_isState := goodIn_r _ [13, 1, 7, 8, 5, 9, 25, 26, 27, 28, 29, 30, 31, 32, 33, 34, 35, 36, 37, 38, 39, 40, 41, 42, 43, 44, 45, 46] (by decide +kernel) (by decide +kernel)
set_option maxRecDepth 20000 in
theorem gX6_changeToNone_X6_isState : GoodIn wsX6_changeToNone (wsV RX6 74 RX6 yX6_isState wsX6_isState) := goodIn_app (goodIn_of _ (by decide +kernel)) ggX6_changeToNone_X6_isState
set_option maxRecDepth 20000 in
theorem ggX6_changeToNone_X6_isLetter : GoodIn wsX6_changeToNone wsX6_isLetter := goodIn_r _ [17, 1, 7, 8, 5, 9, 25, 26, 27, 28, 29, 30, 31, 32, 33, 34, 35, 36, 37, 38, 39, 40, 41, 42, 43, 44, 45, 46] (by decide +kernel) (by decide +kernel)
set_option maxRecDepth 20000 in
theorem gX6_changeToNone_X6_isLetter : GoodIn wsX6_changeToNone (wsV RX6 78 RX6 yX6_isLetter wsX6_isLetter) := goodIn_app (goodIn_of _ (by decide +kernel)) ggX6_changeToNone_X6_isLetter
set_option maxRecDepth 20000 in
theorem ggX6_changeToNone_X6_at : GoodIn wsX6_changeToNone wsX6_at := goodIn_r _ [20] (by decide +kernel) (by decide +kernel)
set_option maxRecDepth 20000 in
theorem gX6_changeToNone_X6_at : GoodIn wsX6_changeToNone (va_wsS RX6 85 yX6_at wsX6_at) := goodIn_app (goodIn_of _ (by decide +kernel)) ggX6_changeToNone_X6_at
set_option maxRecDepth 20000 in
theorem ggX6_changeToNone_X6_count : GoodIn wsX6_changeToNone wsX6_count := goodIn_r _ [24, 1, 18, 19, 5, 20, 25, 26, 27, 28, 29, 30, 31, 32, 33, 34, 35, 36, 37, 38, 39, 40, 41, 42, 43, 44, 45, 46] (by decide +kernel) (by decide +kernel)
set_option maxRecDepth 20000 in
theorem gX6_changeToNone_X6_count : GoodIn wsX6_changeToNone (wsV RX6 95 RX6 yX6_count wsX6_count) := goodIn_app (goodIn_of _ (by decide +kernel)) ggX6_changeToNone_X6_count
theorem dX6_changeToNone_0 : decode cX6_changeToNone 0 = .ok (.aload_n 0, 1) := by decide +kernel
theorem dX6_changeToNone_1 : decode cX6_changeToNone 1 = .ok (.iload_n 1, 1) := by decide +kernel
theorem dX6_changeToNone_2 : decode cX6_changeToNone 2 = .ok (.invokevirtual 92, 3) := by decide +kernel
theorem dX6_changeToNone_5 : decode cX6_changeToNone 5 = .ok (.ifCond .eq 19, 3) := by decide +kernel
theorem dX6_changeToNone_8 : decode cX6_changeToNone 8 = .ok (.aload_n 0, 1) := by decide +kernel
theorem dX6_changeToNone_9 : decode cX6_changeToNone 9 = .ok (.iload_n 2, 1) := by decide +kernel
theorem dX6_changeToNone_10 : decode cX6_changeToNone 10 = .ok (.invokevirtual 74, 3) := by decide +kernel
theorem dX6_changeToNone_13 : decode cX6_changeToNone 13 = .ok (.ifCond .eq 11, 3) := by decide +kernel
theorem dX6_changeToNone_16 : decode cX6_changeToNone 16 = .ok (.aload_n 0, 1) := by decide +kernel
theorem dX6_changeToNone_17 : decode cX6_changeToNone 17 = .ok (.iload_n 3, 1) := by decide +kernel
theorem dX6_changeToNone_18 : decode cX6_changeToNone 18 = .ok (.invokevirtual 78, 3) := by decide +kernel
theorem dX6_changeToNone_21 : decode cX6_changeToNone 21 = .ok (.ifCond .ne 5, 3) := by decide +kernel
theorem dX6_changeToNone_24 : decode cX6_changeToNone 24 = .ok (.iconst (-1), 1) := by decide +kernel
theorem dX6_changeToNone_25 : decode cX6_changeToNone 25 = .ok (.ireturn, 1) := by decide +kernel
theorem dX6_changeToNone_26 : decode cX6_changeToNone 26 = .ok (.aload_n 0, 1) := by decide +kernel
theorem dX6_changeToNone_27 : decode cX6_changeToNone 27 = .ok (.getfield 7, 3) := by decide +kernel
theorem dX6_changeToNone_30 : decode cX6_changeToNone 30 = .ok (.iload_n 1, 1) := by decide +kernel
theorem dX6_changeToNone_31 : decode cX6_changeToNone 31 = .ok (.iconst 1, 1) := by decide +kernel
theorem dX6_changeToNone_32 : decode cX6_changeToNone 32 = .ok (.iconst 4, 1) := by decide +kernel
theorem dX6_changeToNone_33 : decode cX6_changeToNone 33 = .ok (.iload_n 2, 1) := by decide +kernel
theorem dX6_changeToNone_34 : decode cX6_changeToNone 34 = .ok (.imul, 1) := by decide +kernel
theorem dX6_changeToNone_35 : decode cX6_changeToNone 35 = .ok (.iadd, 1) := by decide +kernel
theorem dX6_changeToNone_36 : decode cX6_changeToNone 36 = .ok (.iload_n 3, 1) := by decide +kernel
theorem dX6_changeToNone_37 : decode cX6_changeToNone 37 = .ok (.iadd, 1) := by decide +kernel
theorem dX6_changeToNone_38 : decode cX6_changeToNone 38 = .ok (.invokestatic 85, 3) := by decide +kernel
theorem dX6_changeToNone_41 : decode cX6_changeToNone 41 = .ok (.bipush 100, 2) := by decide +kernel
theorem dX6_changeToNone_43 : decode cX6_changeToNone 43 = .ok (.iastore, 1) := by decide +kernel
theorem dX6_changeToNone_44 : decode cX6_changeToNone 44 = .ok (.aload_n 0, 1) := by decide +kernel
theorem dX6_changeToNone_45 : decode cX6_changeToNone 45 = .ok (.iload_n 1, 1) := by decide +kernel
theorem dX6_changeToNone_46 : decode cX6_changeToNone 46 = .ok (.invokevirtual 95, 3) := by decide +kernel
theorem dX6_changeToNone_49 : decode cX6_changeToNone 49 = .ok (.ireturn, 1) := by decide +kernel
set_option maxRecDepth 20000 in
theorem ggX6_unchange_X6_isFeature : GoodIn wsX6_unchange wsX6_isFeature := goodIn_r _ [5, 6, 7, 8, 4, 9, 29, 30, 31, 32, 33, 34, 35, 36, 37, 38, 39, 40, 41, 42, 43, 44, 45, 46, 47, 48, 49, 50] (by decide +kernel) (by decide +kernel)
set_option maxRecDepth 20000 in
theorem gX6_unchange_X6_isFeature : GoodIn wsX6_unchange (wsV RX6 92 RX6 yX6_isFeature wsX6_isFeature) := goodIn_app (goodIn_of _ (by decide +kernel)) ggX6_unchange_X6_isFeature
set_option maxRecDepth 20000 in
theorem ggX6_unchange_X6_isState : GoodIn wsX6_unchange wsX6_isState := goodIn_r _ [13, 6, 7, 8, 4, 9, 29, 30, 31, 32, 33, 34, 35, 36, 37, 38, 39, 40, 41, 42, 43, 44, 45, 46, 47, 48, 49, 50] (by decide +kernel) (by decide +kernel)
set_option maxRecDepth 20000 in
theorem gX6_unchange_X6_isState : GoodIn wsX6_unchange (wsV RX6 74 RX6 yX6_isState wsX6_isState) := goodIn_app (goodIn_of _ (by decide +kernel)) ggX6_unchange_X6_isState
set_option maxRecDepth 20000 in
theorem ggX6_unchange_X6_isLetter : GoodIn wsX6_unchange wsX6_isLetter := goodIn_r _ [17, 6, 7, 8, 4, 9, 29, 30, 31, 32, 33, 34, 35, 36, 37, 38, 39, 40, 41, 42, 43, 44, 45, 46, 47, 48, 49, 50] (by decide +kernel) (by decide +kernel)
set_option maxRecDepth 20000 in
theorem gX6_unchange_X6_isLetter : GoodIn wsX6_unchange (wsV RX6 78 RX6 yX6_isLetter wsX6_isLetter) := goodIn_app (goodIn_of _ (by decide +kernel)) ggX6_unchange_X6_isLetter
set_option maxRecDepth 20000 in
theorem ggX6_unchange_X6_at : GoodIn wsX6_unchange wsX6_at := goodIn_r _ [20] (by decide +kernel) (by decide +kernel)
set_option maxRecDepth 20000 in
theorem gX6_unchange_X6_at : GoodIn wsX6_unchange (va_wsS RX6 85 yX6_at wsX6_at) := goodIn_app (goodIn_of _ (by decide +kernel)) ggX6_unchange_X6_at
set_option maxRecDepth 20000 in
theorem ggX6_unchange_X6_puts : GoodIn wsX6_unchange wsX6_puts := goodIn_r _ [24, 6, 29, 30, 31, 32, 33, 34, 35, 36, 37, 38, 39, 40, 41, 42, 43, 44, 45, 46, 47, 48, 49, 50] (by decide +kernel) (by decide +kernel)
set_option maxRecDepth 20000 in
theorem gX6_unchange_X6_puts : GoodIn wsX6_unchange (wsV RX6 81 RX6 yX6_puts wsX6_puts) := goodIn_app (goodIn_of _ (by decide +kernel)) ggX6_unchange_X6_puts
set_option maxRecDepth 20000 in
theorem ggX6_unchange_X6_count : GoodIn wsX6_unchange wsX6_count := goodIn_r _ [28, 6, 18, 19, 4, 20, 29, 30, 31, 32, 33, 34, 35, 36, 37, 38, 39, 40, 41, 42, 43, 44, 45, 46, 47, 48, 49, 50] (by decide +kernel) (by decide +kernel)
set_option maxRecDepth 20000 in
theorem gX6_unchange_X6_count : GoodIn wsX6_unchange (wsV RX6 95 RX6 yX6_count wsX6_count) := goodIn_app (goodIn_of _ (by decide +kernel)) ggX6_unchange_X6_count
theorem dX6_unchange_0 : decode cX6_unchange 0 = .ok (.aload_n 0, 1) := by decide +kernel
theorem dX6_unchange_1 : decode cX6_unchange 1 = .ok (.iload_n 1, 1) := by decide +kernel
theorem dX6_unchange_2 : decode cX6_unchange 2 = .ok (.invokevirtual 92, 3) := by decide +kernel
theorem dX6_unchange_5 : decode cX6_unchange 5 = .ok (.ifCond .eq 19, 3) := by decide +kernel
theorem dX6_unchange_8 : decode cX6_unchange 8 = .ok (.aload_n 0, 1) := by decide +kernel
theorem dX6_unchange_9 : decode cX6_unchange 9 = .ok (.iload_n 2, 1) := by decide +kernel
theorem dX6_unchange_10 : decode cX6_unchange 10 = .ok (.invokevirtual 74, 3) := by decide +kernel
theorem dX6_unchange_13 : decode cX6_unchange 13 = .ok (.ifCond .eq 11, 3) := by decide +kernel
theorem dX6_unchange_16 : decode cX6_unchange 16 = .ok (.aload_n 0, 1) := by decide +kernel
theorem dX6_unchange_17 : decode cX6_unchange 17 = .ok (.iload_n 3, 1) := by decide +kernel
theorem dX6_unchange_18 : decode cX6_unchange 18 = .ok (.invokevirtual 78, 3) := by decide +kernel
theorem dX6_unchange_21 : decode cX6_unchange 21 = .ok (.ifCond .ne 5, 3) := by decide +kernel
theorem dX6_unchange_24 : decode cX6_unchange 24 = .ok (.iconst (-1), 1) := by decide +kernel
theorem dX6_unchange_25 : decode cX6_unchange 25 = .ok (.ireturn, 1) := by decide +kernel
theorem dX6_unchange_26 : decode cX6_unchange 26 = .ok (.aload_n 0, 1) := by decide +kernel
theorem dX6_unchange_27 : decode cX6_unchange 27 = .ok (.iload_n 1, 1) := by decide +kernel
theorem dX6_unchange_28 : decode cX6_unchange 28 = .ok (.iconst 1, 1) := by decide +kernel
theorem dX6_unchange_29 : decode cX6_unchange 29 = .ok (.iconst 4, 1) := by decide +kernel
theorem dX6_unchange_30 : decode cX6_unchange 30 = .ok (.iload_n 2, 1) := by decide +kernel
theorem dX6_unchange_31 : decode cX6_unchange 31 = .ok (.imul, 1) := by decide +kernel
theorem dX6_unchange_32 : decode cX6_unchange 32 = .ok (.iadd, 1) := by decide +kernel
theorem dX6_unchange_33 : decode cX6_unchange 33 = .ok (.iload_n 3, 1) := by decide +kernel
theorem dX6_unchange_34 : decode cX6_unchange 34 = .ok (.iadd, 1) := by decide +kernel
theorem dX6_unchange_35 : decode cX6_unchange 35 = .ok (.invokestatic 85, 3) := by decide +kernel
theorem dX6_unchange_38 : decode cX6_unchange 38 = .ok (.iconst (-1), 1) := by decide +kernel
theorem dX6_unchange_39 : decode cX6_unchange 39 = .ok (.invokevirtual 81, 3) := by decide +kernel
theorem dX6_unchange_42 : decode cX6_unchange 42 = .ok (.ifCond .ge 8, 3) := by decide +kernel
theorem dX6_unchange_45 : decode cX6_unchange 45 = .ok (.bipush (-5), 2) := by decide +kernel
theorem dX6_unchange_47 : decode cX6_unchange 47 = .ok (.goto 8, 3) := by decide +kernel
theorem dX6_unchange_50 : decode cX6_unchange 50 = .ok (.aload_n 0, 1) := by decide +kernel
theorem dX6_unchange_51 : decode cX6_unchange 51 = .ok (.iload_n 1, 1) := by decide +kernel
theorem dX6_unchange_52 : decode cX6_unchange 52 = .ok (.invokevirtual 95, 3) := by decide +kernel
theorem dX6_unchange_55 : decode cX6_unchange 55 = .ok (.ireturn, 1) := by decide +kernel
set_option maxRecDepth 20000 in
theorem ggX6_setOn_X6_isFeature : GoodIn wsX6_setOn wsX6_isFeature := goodIn_r _ [5, 6, 7, 8, 4, 9, 17, 18, 19, 20, 21, 22, 23, 24, 25, 26, 27, 28, 29, 30, 31, 32, 33, 34, 35, 36, 37, 38] (by decide +kernel) (by decide +kernel)
set_option maxRecDepth 20000 in
theorem gX6_setOn_X6_isFeature : GoodIn wsX6_setOn (wsV RX6 92 RX6 yX6_isFeature wsX6_isFeature) := goodIn_app (goodIn_of _ (by decide +kernel)) ggX6_setOn_X6_isFeature
set_option maxRecDepth 20000 in
theorem ggX6_setOn_X6_at : GoodIn wsX6_setOn wsX6_at := goodIn_r _ [12] (by decide +kernel) (by decide +kernel)
set_option maxRecDepth 20000 in
theorem gX6_setOn_X6_at : GoodIn wsX6_setOn (va_wsS RX6 85 yX6_at wsX6_at) := goodIn_app (goodIn_of _ (by decide +kernel)) ggX6_setOn_X6_at
set_option maxRecDepth 20000 in
theorem ggX6_setOn_X6_swap : GoodIn wsX6_setOn wsX6_swap := goodIn_r _ [16, 6, 17, 18, 19, 20, 21, 22, 23, 24, 25, 26, 27, 28, 29, 30, 31, 32, 33, 34, 35, 36, 37, 38] (by decide +kernel) (by decide +kernel)
set_option maxRecDepth 20000 in
theorem gX6_setOn_X6_swap : GoodIn wsX6_setOn (wsV RX6 99 RX6 yX6_swap wsX6_swap) := goodIn_app (goodIn_of _ (by decide +kernel)) ggX6_setOn_X6_swap
theorem dX6_setOn_0 : decode cX6_setOn 0 = .ok (.aload_n 0, 1) := by decide +kernel
theorem dX6_setOn_1 : decode cX6_setOn 1 = .ok (.iload_n 1, 1) := by decide +kernel
theorem dX6_setOn_2 : decode cX6_setOn 2 = .ok (.invokevirtual 92, 3) := by decide +kernel
theorem dX6_setOn_5 : decode cX6_setOn 5 = .ok (.ifCond .ne 5, 3) := by decide +kernel
theorem dX6_setOn_8 : decode cX6_setOn 8 = .ok (.iconst (-1), 1) := by decide +kernel
theorem dX6_setOn_9 : decode cX6_setOn 9 = .ok (.ireturn, 1) := by decide +kernel
theorem dX6_setOn_10 : decode cX6_setOn 10 = .ok (.aload_n 0, 1) := by decide +kernel
theorem dX6_setOn_11 : decode cX6_setOn 11 = .ok (.iload_n 1, 1) := by decide +kernel
theorem dX6_setOn_12 : decode cX6_setOn 12 = .ok (.iconst 0, 1) := by decide +kernel
theorem dX6_setOn_13 : decode cX6_setOn 13 = .ok (.invokestatic 85, 3) := by decide +kernel
theorem dX6_setOn_16 : decode cX6_setOn 16 = .ok (.iload_n 2, 1) := by decide +kernel
theorem dX6_setOn_17 : decode cX6_setOn 17 = .ok (.ifCond .eq 7, 3) := by decide +kernel
theorem dX6_setOn_20 : decode cX6_setOn 20 = .ok (.iconst 1, 1) := by decide +kernel
theorem dX6_setOn_21 : decode cX6_setOn 21 = .ok (.goto 4, 3) := by decide +kernel
theorem dX6_setOn_24 : decode cX6_setOn 24 = .ok (.iconst 0, 1) := by decide +kernel
theorem dX6_setOn_25 : decode cX6_setOn 25 = .ok (.invokevirtual 99, 3) := by decide +kernel
theorem dX6_setOn_28 : decode cX6_setOn 28 = .ok (.ireturn, 1) := by decide +kernel
theorem dX6_swap_0 : decode cX6_swap 0 = .ok (.aload_n 0, 1) := by decide +kernel
theorem dX6_swap_1 : decode cX6_swap 1 = .ok (.getfield 7, 3) := by decide +kernel
theorem dX6_swap_4 : decode cX6_swap 4 = .ok (.iload_n 1, 1) := by decide +kernel
theorem dX6_swap_5 : decode cX6_swap 5 = .ok (.iaload, 1) := by decide +kernel
theorem dX6_swap_6 : decode cX6_swap 6 = .ok (.istore_n 3, 1) := by decide +kernel
theorem dX6_swap_7 : decode cX6_swap 7 = .ok (.aload_n 0, 1) := by decide +kernel
theorem dX6_swap_8 : decode cX6_swap 8 = .ok (.getfield 7, 3) := by decide +kernel
theorem dX6_swap_11 : decode cX6_swap 11 = .ok (.iload_n 1, 1) := by decide +kernel
theorem dX6_swap_12 : decode cX6_swap 12 = .ok (.iload_n 2, 1) := by decide +kernel
theorem dX6_swap_13 : decode cX6_swap 13 = .ok (.iastore, 1) := by decide +kernel
theorem dX6_swap_14 : decode cX6_swap 14 = .ok (.iload_n 3, 1) := by decide +kernel
theorem dX6_swap_15 : decode cX6_swap 15 = .ok (.ireturn, 1) := by decide +kernel
theorem dX6_features_0 : decode cX6_features 0 = .ok (.aload_n 0, 1) := by decide +kernel
theorem dX6_features_1 : decode cX6_features 1 = .ok (.getfield 7, 3) := by decide +kernel
theorem dX6_features_4 : decode cX6_features 4 = .ok (.bipush 34, 2) := by decide +kernel
theorem dX6_features_6 : decode cX6_features 6 = .ok (.iaload, 1) := by decide +kernel
theorem dX6_features_7 : decode cX6_features 7 = .ok (.ireturn, 1) := by decide +kernel
set_option maxRecDepth 20000 in
theorem ggX6_changes_X6_isFeature : GoodIn wsX6_changes wsX6_isFeature := goodIn_r _ [5, 6, 7, 8, 4, 9, 17, 18, 19, 20, 21, 22, 23, 24, 25, 26, 27, 28, 29, 30, 31, 32, 33, 34, 35, 36, 37, 38] (by decide +kernel) (by decide +kernel)
set_option maxRecDepth 20000 in
theorem gX6_changes_X6_isFeature : GoodIn wsX6_changes (wsV RX6 92 RX6 yX6_isFeature wsX6_isFeature) := goodIn_app (goodIn_of _ (by decide +kernel)) ggX6_changes_X6_isFeature
set_option maxRecDepth 20000 in
theorem ggX6_changes_X6_count : GoodIn wsX6_changes wsX6_count := goodIn_r _ [13, 6, 14, 15, 4, 16, 17, 18, 19, 20, 21, 22, 23, 24, 25, 26, 27, 28, 29, 30, 31, 32, 33, 34, 35, 36, 37, 38] (by decide +kernel) (by decide +kernel)
set_option maxRecDepth 20000 in
theorem gX6_changes_X6_count : GoodIn wsX6_changes (wsV RX6 95 RX6 yX6_count wsX6_count) := goodIn_app (goodIn_of _ (by decide +kernel)) ggX6_changes_X6_count
theorem dX6_changes_0 : decode cX6_changes 0 = .ok (.aload_n 0, 1) := by decide +kernel
theorem dX6_changes_1 : decode cX6_changes 1 = .ok (.iload_n 1, 1) := by decide +kernel
theorem dX6_changes_2 : decode cX6_changes 2 = .ok (.invokevirtual 92, 3) := by decide +kernel
theorem dX6_changes_5 : decode cX6_changes 5 = .ok (.ifCond .eq 11, 3) := by decide +kernel
theorem dX6_changes_8 : decode cX6_changes 8 = .ok (.aload_n 0, 1) := by decide +kernel
theorem dX6_changes_9 : decode cX6_changes 9 = .ok (.iload_n 1, 1) := by decide +kernel
theorem dX6_changes_10 : decode cX6_changes 10 = .ok (.invokevirtual 95, 3) := by decide +kernel
theorem dX6_changes_13 : decode cX6_changes 13 = .ok (.goto 4, 3) := by decide +kernel
theorem dX6_changes_16 : decode cX6_changes 16 = .ok (.iconst (-1), 1) := by decide +kernel
theorem dX6_changes_17 : decode cX6_changes 17 = .ok (.ireturn, 1) := by decide +kernel
set_option maxRecDepth 20000 in
theorem ggX6_append_X6_in : GoodIn wsX6_append wsX6_in := goodIn_r _ [6] (by decide +kernel) (by decide +kernel)
set_option maxRecDepth 20000 in
theorem gX6_append_X6_in : GoodIn wsX6_append (va_wsS RX6 66 yX6_in wsX6_in) := goodIn_app (goodIn_of _ (by decide +kernel)) ggX6_append_X6_in
theorem dX6_append_0 : decode cX6_append 0 = .ok (.iload_n 1, 1) := by decide +kernel
theorem dX6_append_1 : decode cX6_append 1 = .ok (.iconst 0, 1) := by decide +kernel
theorem dX6_append_2 : decode cX6_append 2 = .ok (.bipush 127, 2) := by decide +kernel
theorem dX6_append_4 : decode cX6_append 4 = .ok (.invokestatic 66, 3) := by decide +kernel
theorem dX6_append_7 : decode cX6_append 7 = .ok (.ifCond .ne 6, 3) := by decide +kernel
theorem dX6_append_10 : decode cX6_append 10 = .ok (.bipush (-2), 2) := by decide +kernel
theorem dX6_append_12 : decode cX6_append 12 = .ok (.ireturn, 1) := by decide +kernel
theorem dX6_append_13 : decode cX6_append 13 = .ok (.aload_n 0, 1) := by decide +kernel
theorem dX6_append_14 : decode cX6_append 14 = .ok (.getfield 102, 3) := by decide +kernel
theorem dX6_append_17 : decode cX6_append 17 = .ok (.bipush 80, 2) := by decide +kernel
theorem dX6_append_19 : decode cX6_append 19 = .ok (.if_icmp .ne 6, 3) := by decide +kernel
theorem dX6_append_22 : decode cX6_append 22 = .ok (.bipush (-4), 2) := by decide +kernel
theorem dX6_append_24 : decode cX6_append 24 = .ok (.ireturn, 1) := by decide +kernel
theorem dX6_append_25 : decode cX6_append 25 = .ok (.aload_n 0, 1) := by decide +kernel
theorem dX6_append_26 : decode cX6_append 26 = .ok (.getfield 23, 3) := by decide +kernel
theorem dX6_append_29 : decode cX6_append 29 = .ok (.aload_n 0, 1) := by decide +kernel
theorem dX6_append_30 : decode cX6_append 30 = .ok (.getfield 102, 3) := by decide +kernel
theorem dX6_append_33 : decode cX6_append 33 = .ok (.iload_n 1, 1) := by decide +kernel
theorem dX6_append_34 : decode cX6_append 34 = .ok (.iastore, 1) := by decide +kernel
theorem dX6_append_35 : decode cX6_append 35 = .ok (.aload_n 0, 1) := by decide +kernel
theorem dX6_append_36 : decode cX6_append 36 = .ok (.dup, 1) := by decide +kernel
theorem dX6_append_37 : decode cX6_append 37 = .ok (.getfield 102, 3) := by decide +kernel
theorem dX6_append_40 : decode cX6_append 40 = .ok (.iconst 1, 1) := by decide +kernel
theorem dX6_append_41 : decode cX6_append 41 = .ok (.iadd, 1) := by decide +kernel
theorem dX6_append_42 : decode cX6_append 42 = .ok (.putfield 102, 3) := by decide +kernel
theorem dX6_append_45 : decode cX6_append 45 = .ok (.aload_n 0, 1) := by decide +kernel
theorem dX6_append_46 : decode cX6_append 46 = .ok (.getfield 102, 3) := by decide +kernel
theorem dX6_append_49 : decode cX6_append 49 = .ok (.ireturn, 1) := by decide +kernel
theorem dX6_clearText_0 : decode cX6_clearText 0 = .ok (.aload_n 0, 1) := by decide +kernel
theorem dX6_clearText_1 : decode cX6_clearText 1 = .ok (.getfield 102, 3) := by decide +kernel
theorem dX6_clearText_4 : decode cX6_clearText 4 = .ok (.istore_n 1, 1) := by decide +kernel
theorem dX6_clearText_5 : decode cX6_clearText 5 = .ok (.aload_n 0, 1) := by decide +kernel
theorem dX6_clearText_6 : decode cX6_clearText 6 = .ok (.iconst 0, 1) := by decide +kernel
theorem dX6_clearText_7 : decode cX6_clearText 7 = .ok (.putfield 102, 3) := by decide +kernel
theorem dX6_clearText_10 : decode cX6_clearText 10 = .ok (.iload_n 1, 1) := by decide +kernel
theorem dX6_clearText_11 : decode cX6_clearText 11 = .ok (.ireturn, 1) := by decide +kernel
theorem dX6_here_0 : decode cX6_here 0 = .ok (.aload_n 0, 1) := by decide +kernel
theorem dX6_here_1 : decode cX6_here 1 = .ok (.getfield 105, 3) := by decide +kernel
theorem dX6_here_4 : decode cX6_here 4 = .ok (.aload_n 0, 1) := by decide +kernel
theorem dX6_here_5 : decode cX6_here 5 = .ok (.getfield 102, 3) := by decide +kernel
theorem dX6_here_8 : decode cX6_here 8 = .ok (.if_icmp .ge 15, 3) := by decide +kernel
theorem dX6_here_11 : decode cX6_here 11 = .ok (.aload_n 0, 1) := by decide +kernel
theorem dX6_here_12 : decode cX6_here 12 = .ok (.getfield 23, 3) := by decide +kernel
theorem dX6_here_15 : decode cX6_here 15 = .ok (.aload_n 0, 1) := by decide +kernel
theorem dX6_here_16 : decode cX6_here 16 = .ok (.getfield 105, 3) := by decide +kernel
theorem dX6_here_19 : decode cX6_here 19 = .ok (.iaload, 1) := by decide +kernel
theorem dX6_here_20 : decode cX6_here 20 = .ok (.goto 4, 3) := by decide +kernel
theorem dX6_here_23 : decode cX6_here 23 = .ok (.iconst (-1), 1) := by decide +kernel
theorem dX6_here_24 : decode cX6_here 24 = .ok (.ireturn, 1) := by decide +kernel
set_option maxRecDepth 20000 in
theorem ggX6_takes_X6_here : GoodIn wsX6_takes wsX6_here := goodIn_r _ [6, 1, 7, 8, 9, 10, 11, 12, 13, 14, 15, 16, 17, 18, 19, 20, 21, 22, 23, 24, 25, 26, 27, 28, 29, 30] (by decide +kernel) (by decide +kernel)
set_option maxRecDepth 20000 in
theorem gX6_takes_X6_here : GoodIn wsX6_takes (wsV RX6 108 RX6 yX6_here wsX6_here) := goodIn_app (goodIn_of _ (by decide +kernel)) ggX6_takes_X6_here
theorem dX6_takes_0 : decode cX6_takes 0 = .ok (.aload_n 0, 1) := by decide +kernel
theorem dX6_takes_1 : decode cX6_takes 1 = .ok (.invokevirtual 108, 3) := by decide +kernel
theorem dX6_takes_4 : decode cX6_takes 4 = .ok (.iload_n 1, 1) := by decide +kernel
theorem dX6_takes_5 : decode cX6_takes 5 = .ok (.if_icmp .ne 7, 3) := by decide +kernel
theorem dX6_takes_8 : decode cX6_takes 8 = .ok (.iconst 1, 1) := by decide +kernel
theorem dX6_takes_9 : decode cX6_takes 9 = .ok (.goto 4, 3) := by decide +kernel
theorem dX6_takes_12 : decode cX6_takes 12 = .ok (.iconst 0, 1) := by decide +kernel
theorem dX6_takes_13 : decode cX6_takes 13 = .ok (.istore_n 2, 1) := by decide +kernel
theorem dX6_takes_14 : decode cX6_takes 14 = .ok (.aload_n 0, 1) := by decide +kernel
theorem dX6_takes_15 : decode cX6_takes 15 = .ok (.dup, 1) := by decide +kernel
theorem dX6_takes_16 : decode cX6_takes 16 = .ok (.getfield 105, 3) := by decide +kernel
theorem dX6_takes_19 : decode cX6_takes 19 = .ok (.iload_n 2, 1) := by decide +kernel
theorem dX6_takes_20 : decode cX6_takes 20 = .ok (.ifCond .eq 7, 3) := by decide +kernel
theorem dX6_takes_23 : decode cX6_takes 23 = .ok (.iconst 1, 1) := by decide +kernel
theorem dX6_takes_24 : decode cX6_takes 24 = .ok (.goto 4, 3) := by decide +kernel
theorem dX6_takes_27 : decode cX6_takes 27 = .ok (.iconst 0, 1) := by decide +kernel
theorem dX6_takes_28 : decode cX6_takes 28 = .ok (.iadd, 1) := by decide +kernel
theorem dX6_takes_29 : decode cX6_takes 29 = .ok (.putfield 105, 3) := by decide +kernel
theorem dX6_takes_32 : decode cX6_takes 32 = .ok (.iload_n 2, 1) := by decide +kernel
theorem dX6_takes_33 : decode cX6_takes 33 = .ok (.ireturn, 1) := by decide +kernel
set_option maxRecDepth 20000 in
theorem ggX6_digit_X6_here : GoodIn wsX6_digit wsX6_here := goodIn_r _ [6, 1, 7, 8, 12, 13, 14, 15, 16, 17, 18, 19, 20, 21, 22, 23, 24, 25, 26, 27, 28, 29, 30, 31, 32, 33] (by decide +kernel) (by decide +kernel)
set_option maxRecDepth 20000 in
theorem gX6_digit_X6_here : GoodIn wsX6_digit (wsV RX6 108 RX6 yX6_here wsX6_here) := goodIn_app (goodIn_of _ (by decide +kernel)) ggX6_digit_X6_here
set_option maxRecDepth 20000 in
theorem ggX6_digit_X6_in : GoodIn wsX6_digit wsX6_in := goodIn_r _ [11] (by decide +kernel) (by decide +kernel)
set_option maxRecDepth 20000 in
theorem gX6_digit_X6_in : GoodIn wsX6_digit (va_wsS RX6 66 yX6_in wsX6_in) := goodIn_app (goodIn_of _ (by decide +kernel)) ggX6_digit_X6_in
theorem dX6_digit_0 : decode cX6_digit 0 = .ok (.aload_n 0, 1) := by decide +kernel
theorem dX6_digit_1 : decode cX6_digit 1 = .ok (.invokevirtual 108, 3) := by decide +kernel
theorem dX6_digit_4 : decode cX6_digit 4 = .ok (.bipush 48, 2) := by decide +kernel
theorem dX6_digit_6 : decode cX6_digit 6 = .ok (.isub, 1) := by decide +kernel
theorem dX6_digit_7 : decode cX6_digit 7 = .ok (.istore_n 2, 1) := by decide +kernel
theorem dX6_digit_8 : decode cX6_digit 8 = .ok (.aload_n 0, 1) := by decide +kernel
theorem dX6_digit_9 : decode cX6_digit 9 = .ok (.dup, 1) := by decide +kernel
theorem dX6_digit_10 : decode cX6_digit 10 = .ok (.getfield 105, 3) := by decide +kernel
theorem dX6_digit_13 : decode cX6_digit 13 = .ok (.iload_n 2, 1) := by decide +kernel
theorem dX6_digit_14 : decode cX6_digit 14 = .ok (.iconst 0, 1) := by decide +kernel
theorem dX6_digit_15 : decode cX6_digit 15 = .ok (.iload_n 1, 1) := by decide +kernel
theorem dX6_digit_16 : decode cX6_digit 16 = .ok (.invokestatic 66, 3) := by decide +kernel
theorem dX6_digit_19 : decode cX6_digit 19 = .ok (.ifCond .eq 7, 3) := by decide +kernel
theorem dX6_digit_22 : decode cX6_digit 22 = .ok (.iconst 1, 1) := by decide +kernel
theorem dX6_digit_23 : decode cX6_digit 23 = .ok (.goto 4, 3) := by decide +kernel
theorem dX6_digit_26 : decode cX6_digit 26 = .ok (.iconst 0, 1) := by decide +kernel
theorem dX6_digit_27 : decode cX6_digit 27 = .ok (.iadd, 1) := by decide +kernel
theorem dX6_digit_28 : decode cX6_digit 28 = .ok (.putfield 105, 3) := by decide +kernel
theorem dX6_digit_31 : decode cX6_digit 31 = .ok (.iload_n 2, 1) := by decide +kernel
theorem dX6_digit_32 : decode cX6_digit 32 = .ok (.iconst 0, 1) := by decide +kernel
theorem dX6_digit_33 : decode cX6_digit 33 = .ok (.iload_n 1, 1) := by decide +kernel
theorem dX6_digit_34 : decode cX6_digit 34 = .ok (.invokestatic 66, 3) := by decide +kernel
theorem dX6_digit_37 : decode cX6_digit 37 = .ok (.ifCond .eq 7, 3) := by decide +kernel
theorem dX6_digit_40 : decode cX6_digit 40 = .ok (.iload_n 2, 1) := by decide +kernel
theorem dX6_digit_41 : decode cX6_digit 41 = .ok (.goto 4, 3) := by decide +kernel
theorem dX6_digit_44 : decode cX6_digit 44 = .ok (.iconst (-1), 1) := by decide +kernel
theorem dX6_digit_45 : decode cX6_digit 45 = .ok (.ireturn, 1) := by decide +kernel
set_option maxRecDepth 20000 in
theorem ggX6_isChange_X6_digit : GoodIn wsX6_isChange wsX6_digit := goodIn_r _ [9, 3, 10, 11, 12, 8, 13, 14, 15, 16, 17, 18, 27, 28, 29, 30, 31, 32, 33, 34, 35, 36, 37, 38, 39, 40, 41, 42, 43, 44, 45, 46, 47, 48] (by decide +kernel) (by decide +kernel)
set_option maxRecDepth 20000 in
theorem gX6_isChange_X6_digit : GoodIn wsX6_isChange (wsV RX6 112 RX6 yX6_digit wsX6_digit) := goodIn_app (goodIn_of _ (by decide +kernel)) ggX6_isChange_X6_digit
set_option maxRecDepth 20000 in
theorem ggX6_isChange_X6_here : GoodIn wsX6_isChange wsX6_here := goodIn_r _ [13, 3, 14, 15, 27, 28, 29, 30, 31, 32, 33, 34, 35, 36, 37, 38, 39, 40, 41, 42, 43, 44, 45, 46, 47, 48] (by decide +kernel) (by decide +kernel)
set_option maxRecDepth 20000 in
theorem gX6_isChange_X6_here : GoodIn wsX6_isChange (wsV RX6 108 RX6 yX6_here wsX6_here) := goodIn_app (goodIn_of _ (by decide +kernel)) ggX6_isChange_X6_here
set_option maxRecDepth 20000 in
theorem ggX6_isChange_X6_isLetter : GoodIn wsX6_isChange wsX6_isLetter := goodIn_r _ [22, 1, 16, 17, 8, 18, 27, 28, 29, 30, 31, 32, 33, 34, 35, 36, 37, 38, 39, 40, 41, 42, 43, 44, 45, 46, 47, 48] (by decide +kernel) (by decide +kernel)
set_option maxRecDepth 20000 in
theorem gX6_isChange_X6_isLetter : GoodIn wsX6_isChange (wsV RX6 78 RX6 yX6_isLetter wsX6_isLetter) := goodIn_app (goodIn_of _ (by decide +kernel)) ggX6_isChange_X6_isLetter
set_option maxRecDepth 20000 in
theorem ggX6_isChange_X6_takes : GoodIn wsX6_isChange wsX6_takes := goodIn_r _ [26, 3, 10, 11, 12, 8, 13, 14, 15, 27, 28, 29, 30, 31, 32, 33, 34, 35, 36, 37, 38, 39, 40, 41, 42, 43, 44, 45, 46, 47, 48] (by decide +kernel) (by decide +kernel)
set_option maxRecDepth 20000 in
theorem gX6_isChange_X6_takes : GoodIn wsX6_isChange (wsV RX6 115 RX6 yX6_takes wsX6_takes) := goodIn_app (goodIn_of _ (by decide +kernel)) ggX6_isChange_X6_takes
theorem dX6_isChange_0 : decode cX6_isChange 0 = .ok (.aload_n 0, 1) := by decide +kernel
theorem dX6_isChange_1 : decode cX6_isChange 1 = .ok (.aload_n 0, 1) := by decide +kernel
theorem dX6_isChange_2 : decode cX6_isChange 2 = .ok (.getfield 7, 3) := by decide +kernel
theorem dX6_isChange_5 : decode cX6_isChange 5 = .ok (.iconst 0, 1) := by decide +kernel
theorem dX6_isChange_6 : decode cX6_isChange 6 = .ok (.iaload, 1) := by decide +kernel
theorem dX6_isChange_7 : decode cX6_isChange 7 = .ok (.iconst 1, 1) := by decide +kernel
theorem dX6_isChange_8 : decode cX6_isChange 8 = .ok (.isub, 1) := by decide +kernel
theorem dX6_isChange_9 : decode cX6_isChange 9 = .ok (.invokevirtual 112, 3) := by decide +kernel
theorem dX6_isChange_12 : decode cX6_isChange 12 = .ok (.istore_n 1, 1) := by decide +kernel
theorem dX6_isChange_13 : decode cX6_isChange 13 = .ok (.aload_n 0, 1) := by decide +kernel
theorem dX6_isChange_14 : decode cX6_isChange 14 = .ok (.invokevirtual 108, 3) := by decide +kernel
theorem dX6_isChange_17 : decode cX6_isChange 17 = .ok (.bipush 97, 2) := by decide +kernel
theorem dX6_isChange_19 : decode cX6_isChange 19 = .ok (.isub, 1) := by decide +kernel
theorem dX6_isChange_20 : decode cX6_isChange 20 = .ok (.istore_n 2, 1) := by decide +kernel
theorem dX6_isChange_21 : decode cX6_isChange 21 = .ok (.iload_n 1, 1) := by decide +kernel
theorem dX6_isChange_22 : decode cX6_isChange 22 = .ok (.ifCond .lt 24, 3) := by decide +kernel
theorem dX6_isChange_25 : decode cX6_isChange 25 = .ok (.aload_n 0, 1) := by decide +kernel
theorem dX6_isChange_26 : decode cX6_isChange 26 = .ok (.iload_n 2, 1) := by decide +kernel
theorem dX6_isChange_27 : decode cX6_isChange 27 = .ok (.invokevirtual 78, 3) := by decide +kernel
theorem dX6_isChange_30 : decode cX6_isChange 30 = .ok (.ifCond .eq 16, 3) := by decide +kernel
theorem dX6_isChange_33 : decode cX6_isChange 33 = .ok (.aload_n 0, 1) := by decide +kernel
theorem dX6_isChange_34 : decode cX6_isChange 34 = .ok (.getfield 26, 3) := by decide +kernel
theorem dX6_isChange_37 : decode cX6_isChange 37 = .ok (.iconst 4, 1) := by decide +kernel
theorem dX6_isChange_38 : decode cX6_isChange 38 = .ok (.iload_n 1, 1) := by decide +kernel
theorem dX6_isChange_39 : decode cX6_isChange 39 = .ok (.imul, 1) := by decide +kernel
theorem dX6_isChange_40 : decode cX6_isChange 40 = .ok (.iload_n 2, 1) := by decide +kernel
theorem dX6_isChange_41 : decode cX6_isChange 41 = .ok (.iadd, 1) := by decide +kernel
theorem dX6_isChange_42 : decode cX6_isChange 42 = .ok (.iaload, 1) := by decide +kernel
theorem dX6_isChange_43 : decode cX6_isChange 43 = .ok (.ifCond .lt 5, 3) := by decide +kernel
theorem dX6_isChange_46 : decode cX6_isChange 46 = .ok (.iconst 0, 1) := by decide +kernel
theorem dX6_isChange_47 : decode cX6_isChange 47 = .ok (.ireturn, 1) := by decide +kernel
theorem dX6_isChange_48 : decode cX6_isChange 48 = .ok (.aload_n 0, 1) := by decide +kernel
theorem dX6_isChange_49 : decode cX6_isChange 49 = .ok (.dup, 1) := by decide +kernel
theorem dX6_isChange_50 : decode cX6_isChange 50 = .ok (.getfield 105, 3) := by decide +kernel
theorem dX6_isChange_53 : decode cX6_isChange 53 = .ok (.iconst 1, 1) := by decide +kernel
theorem dX6_isChange_54 : decode cX6_isChange 54 = .ok (.iadd, 1) := by decide +kernel
theorem dX6_isChange_55 : decode cX6_isChange 55 = .ok (.putfield 105, 3) := by decide +kernel
theorem dX6_isChange_58 : decode cX6_isChange 58 = .ok (.bipush 100, 2) := by decide +kernel
theorem dX6_isChange_60 : decode cX6_isChange 60 = .ok (.istore_n 3, 1) := by decide +kernel
theorem dX6_isChange_61 : decode cX6_isChange 61 = .ok (.aload_n 0, 1) := by decide +kernel
theorem dX6_isChange_62 : decode cX6_isChange 62 = .ok (.bipush 45, 2) := by decide +kernel
theorem dX6_isChange_64 : decode cX6_isChange 64 = .ok (.invokevirtual 115, 3) := by decide +kernel
theorem dX6_isChange_67 : decode cX6_isChange 67 = .ok (.ifCond .ne 68, 3) := by decide +kernel
theorem dX6_isChange_70 : decode cX6_isChange 70 = .ok (.aload_n 0, 1) := by decide +kernel
theorem dX6_isChange_71 : decode cX6_isChange 71 = .ok (.bipush 62, 2) := by decide +kernel
theorem dX6_isChange_73 : decode cX6_isChange 73 = .ok (.invokevirtual 115, 3) := by decide +kernel
theorem dX6_isChange_76 : decode cX6_isChange 76 = .ok (.ifCond .ne 5, 3) := by decide +kernel
theorem dX6_isChange_79 : decode cX6_isChange 79 = .ok (.iconst 0, 1) := by decide +kernel
theorem dX6_isChange_80 : decode cX6_isChange 80 = .ok (.ireturn, 1) := by decide +kernel
theorem dX6_isChange_81 : decode cX6_isChange 81 = .ok (.aload_n 0, 1) := by decide +kernel
theorem dX6_isChange_82 : decode cX6_isChange 82 = .ok (.aload_n 0, 1) := by decide +kernel
