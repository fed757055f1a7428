theorem dX5_read_94 : decode cX5_read 94 = .ok (.aaload, 1) := by decide +kernel
theorem dX5_read_95 : decode cX5_read 95 = .ok (.invokestatic 139, 3) := by decide +kernel
theorem dX5_read_98 : decode cX5_read 98 = .ok (.aload_n 0, 1) := by decide +kernel
theorem dX5_read_99 : decode cX5_read 99 = .ok (.getfield 27, 3) := by decide +kernel
theorem dX5_read_102 : decode cX5_read 102 = .ok (.getfield 143, 3) := by decide +kernel
theorem dX5_read_105 : decode cX5_read 105 = .ok (.ireturn, 1) := by decide +kernel
set_option maxRecDepth 20000 in
theorem ggX5_clash_X5_areTwoFeatures : GoodIn wsX5_clash wsX5_areTwoFeatures := goodIn_r _ [5, 6, 7, 8, 9, 10, 11, 12, 58, 59, 60, 61, 62, 63, 64, 65, 66, 67, 68, 69, 70, 71, 72, 73, 74, 75, 76] (by decide +kernel) (by decide +kernel)
set_option maxRecDepth 20000 in
theorem gX5_clash_X5_areTwoFeatures : GoodIn wsX5_clash (wsV RX5 146 RX5 yX5_areTwoFeatures wsX5_areTwoFeatures) := goodIn_app (goodIn_of _ (by decide +kernel)) ggX5_clash_X5_areTwoFeatures
set_option maxRecDepth 20000 in
theorem ggX5_clash_X5_findWitness : GoodIn wsX5_clash wsX5_findWitness := goodIn_r _ [16, 6, 17, 18, 19, 20, 21, 22, 23, 24, 25, 4, 26, 27, 28, 29, 30, 31, 32, 33, 34, 35, 36, 37, 38, 39, 40, 41, 42, 43, 44, 45, 46, 47, 48, 49, 50, 51, 52, 53, 54, 55, 56, 57, 58, 59, 60, 61, 62, 63, 64, 65, 66, 67, 68, 69, 70, 71, 72, 73, 74, 75, 76, 77, 78, 79, 80, 81, 82, 83, 84, 85] (by decide +kernel) (by decide +kernel)
set_option maxRecDepth 20000 in
theorem gX5_clash_X5_findWitness : GoodIn wsX5_clash (wsV RX5 149 RX5 yX5_findWitness wsX5_findWitness) := goodIn_app (goodIn_of _ (by decide +kernel)) ggX5_clash_X5_findWitness
theorem dX5_clash_0 : decode cX5_clash 0 = .ok (.aload_n 0, 1) := by decide +kernel
theorem dX5_clash_1 : decode cX5_clash 1 = .ok (.iload_n 1, 1) := by decide +kernel
theorem dX5_clash_2 : decode cX5_clash 2 = .ok (.iload_n 2, 1) := by decide +kernel
theorem dX5_clash_3 : decode cX5_clash 3 = .ok (.invokevirtual 146, 3) := by decide +kernel
theorem dX5_clash_6 : decode cX5_clash 6 = .ok (.ifCond .ne 5, 3) := by decide +kernel
theorem dX5_clash_9 : decode cX5_clash 9 = .ok (.iconst (-1), 1) := by decide +kernel
theorem dX5_clash_10 : decode cX5_clash 10 = .ok (.ireturn, 1) := by decide +kernel
theorem dX5_clash_11 : decode cX5_clash 11 = .ok (.aload_n 0, 1) := by decide +kernel
theorem dX5_clash_12 : decode cX5_clash 12 = .ok (.iload_n 1, 1) := by decide +kernel
theorem dX5_clash_13 : decode cX5_clash 13 = .ok (.iload_n 2, 1) := by decide +kernel
theorem dX5_clash_14 : decode cX5_clash 14 = .ok (.invokevirtual 149, 3) := by decide +kernel
theorem dX5_clash_17 : decode cX5_clash 17 = .ok (.ifCond .eq 7, 3) := by decide +kernel
theorem dX5_clash_20 : decode cX5_clash 20 = .ok (.iconst 1, 1) := by decide +kernel
theorem dX5_clash_21 : decode cX5_clash 21 = .ok (.goto 4, 3) := by decide +kernel
theorem dX5_clash_24 : decode cX5_clash 24 = .ok (.iconst 0, 1) := by decide +kernel
theorem dX5_clash_25 : decode cX5_clash 25 = .ok (.ireturn, 1) := by decide +kernel
set_option maxRecDepth 20000 in
theorem ggX5_witness_X5_areTwoFeatures : GoodIn wsX5_witness wsX5_areTwoFeatures := goodIn_r _ [6, 7, 8, 9, 10, 11, 12, 13, 62, 63, 64, 65, 66, 67, 68, 69, 70, 71, 72, 73, 74, 75, 76, 77, 78, 79, 80] (by decide +kernel) (by decide +kernel)
set_option maxRecDepth 20000 in
theorem gX5_witness_X5_areTwoFeatures : GoodIn wsX5_witness (wsV RX5 146 RX5 yX5_areTwoFeatures wsX5_areTwoFeatures) := goodIn_app (goodIn_of _ (by decide +kernel)) ggX5_witness_X5_areTwoFeatures
set_option maxRecDepth 20000 in
theorem ggX5_witness_X5_findWitness : GoodIn wsX5_witness wsX5_findWitness := goodIn_r _ [17, 7, 18, 19, 20, 21, 1, 22, 23, 24, 25, 5, 26, 27, 28, 29, 30, 31, 32, 33, 34, 35, 36, 37, 38, 39, 40, 41, 42, 43, 44, 45, 46, 47, 48, 49, 50, 51, 52, 53, 54, 55, 56, 57, 62, 63, 64, 65, 66, 67, 68, 69, 70, 71, 72, 73, 74, 75, 76, 77, 78, 79, 80, 81, 82, 83, 84, 85, 86, 87, 88, 89] (by decide +kernel) (by decide +kernel)
set_option maxRecDepth 20000 in
theorem gX5_witness_X5_findWitness : GoodIn wsX5_witness (wsV RX5 149 RX5 yX5_findWitness wsX5_findWitness) := goodIn_app (goodIn_of _ (by decide +kernel)) ggX5_witness_X5_findWitness
set_option maxRecDepth 20000 in
theorem ggX5_witness_X0_letterAt : GoodIn wsX5_witness wsX0_letterAt := goodIn_r _ [61, 32, 55, 81, 82, 83, 84, 85, 86, 87, 88, 89] (by decide +kernel) (by decide +kernel)
set_option maxRecDepth 20000 in
theorem gX5_witness_X0_letterAt : GoodIn wsX5_witness (wsV RX5 152 RX0 yX0_letterAt wsX0_letterAt) := goodIn_app (goodIn_of _ (by decide +kernel)) ggX5_witness_X0_letterAt
theorem dX5_witness_0 : decode cX5_witness 0 = .ok (.aload_n 0, 1) := by decide +kernel
theorem dX5_witness_1 : decode cX5_witness 1 = .ok (.iload_n 1, 1) := by decide +kernel
theorem dX5_witness_2 : decode cX5_witness 2 = .ok (.iload_n 2, 1) := by decide +kernel
theorem dX5_witness_3 : decode cX5_witness 3 = .ok (.invokevirtual 146, 3) := by decide +kernel
theorem dX5_witness_6 : decode cX5_witness 6 = .ok (.ifCond .eq 7, 3) := by decide +kernel
theorem dX5_witness_9 : decode cX5_witness 9 = .ok (.iload_n 3, 1) := by decide +kernel
theorem dX5_witness_10 : decode cX5_witness 10 = .ok (.ifCond .ge 5, 3) := by decide +kernel
theorem dX5_witness_13 : decode cX5_witness 13 = .ok (.iconst (-1), 1) := by decide +kernel
theorem dX5_witness_14 : decode cX5_witness 14 = .ok (.ireturn, 1) := by decide +kernel
theorem dX5_witness_15 : decode cX5_witness 15 = .ok (.aload_n 0, 1) := by decide +kernel
theorem dX5_witness_16 : decode cX5_witness 16 = .ok (.iload_n 1, 1) := by decide +kernel
theorem dX5_witness_17 : decode cX5_witness 17 = .ok (.iload_n 2, 1) := by decide +kernel
theorem dX5_witness_18 : decode cX5_witness 18 = .ok (.invokevirtual 149, 3) := by decide +kernel
theorem dX5_witness_21 : decode cX5_witness 21 = .ok (.pop, 1) := by decide +kernel
theorem dX5_witness_22 : decode cX5_witness 22 = .ok (.aload_n 0, 1) := by decide +kernel
theorem dX5_witness_23 : decode cX5_witness 23 = .ok (.getfield 54, 3) := by decide +kernel
theorem dX5_witness_26 : decode cX5_witness 26 = .ok (.iload_n 3, 1) := by decide +kernel
theorem dX5_witness_27 : decode cX5_witness 27 = .ok (.invokevirtual 152, 3) := by decide +kernel
theorem dX5_witness_30 : decode cX5_witness 30 = .ok (.ireturn, 1) := by decide +kernel
set_option maxRecDepth 20000 in
theorem ggX5_clashes_X2_isOn : GoodIn wsX5_clashes wsX2_isOn := goodIn_r _ [7, 8, 9, 10, 11, 69, 70, 71, 72, 73, 74, 75] (by decide +kernel) (by decide +kernel)
set_option maxRecDepth 20000 in
theorem gX5_clashes_X2_isOn : GoodIn wsX5_clashes (wsV RX5 117 RX2 yX2_isOn wsX2_isOn) := goodIn_app (goodIn_of _ (by decide +kernel)) ggX5_clashes_X2_isOn
set_option maxRecDepth 20000 in
theorem ggX5_clashes_X5_findWitness : GoodIn wsX5_clashes wsX5_findWitness := goodIn_r _ [15, 1, 16, 17, 18, 19, 20, 21, 22, 23, 24, 10, 25, 26, 27, 28, 29, 30, 31, 32, 33, 34, 35, 36, 37, 38, 39, 40, 41, 42, 43, 44, 45, 46, 47, 48, 49, 50, 51, 52, 53, 54, 55, 56, 57, 58, 59, 60, 61, 62, 63, 64, 65, 66, 67, 68, 69, 70, 71, 72, 73, 74, 75, 76, 77, 78, 79, 80, 81, 82, 83, 84] (by decide +kernel) (by decide +kernel)
set_option maxRecDepth 20000 in
theorem gX5_clashes_X5_findWitness : GoodIn wsX5_clashes (wsV RX5 149 RX5 yX5_findWitness wsX5_findWitness) := goodIn_app (goodIn_of _ (by decide +kernel)) ggX5_clashes_X5_findWitness
theorem dX5_clashes_0 : decode cX5_clashes 0 = .ok (.iconst 0, 1) := by decide +kernel
theorem dX5_clashes_1 : decode cX5_clashes 1 = .ok (.istore_n 1, 1) := by decide +kernel
theorem dX5_clashes_2 : decode cX5_clashes 2 = .ok (.iconst 0, 1) := by decide +kernel
theorem dX5_clashes_3 : decode cX5_clashes 3 = .ok (.istore_n 2, 1) := by decide +kernel
theorem dX5_clashes_4 : decode cX5_clashes 4 = .ok (.iload_n 2, 1) := by decide +kernel
theorem dX5_clashes_5 : decode cX5_clashes 5 = .ok (.aload_n 0, 1) := by decide +kernel
theorem dX5_clashes_6 : decode cX5_clashes 6 = .ok (.getfield 12, 3) := by decide +kernel
theorem dX5_clashes_9 : decode cX5_clashes 9 = .ok (.getfield 99, 3) := by decide +kernel
theorem dX5_clashes_12 : decode cX5_clashes 12 = .ok (.if_icmp .ge 64, 3) := by decide +kernel
theorem dX5_clashes_15 : decode cX5_clashes 15 = .ok (.iload_n 2, 1) := by decide +kernel
theorem dX5_clashes_16 : decode cX5_clashes 16 = .ok (.iconst 1, 1) := by decide +kernel
theorem dX5_clashes_17 : decode cX5_clashes 17 = .ok (.iadd, 1) := by decide +kernel
theorem dX5_clashes_18 : decode cX5_clashes 18 = .ok (.istore_n 3, 1) := by decide +kernel
theorem dX5_clashes_19 : decode cX5_clashes 19 = .ok (.iload_n 3, 1) := by decide +kernel
theorem dX5_clashes_20 : decode cX5_clashes 20 = .ok (.aload_n 0, 1) := by decide +kernel
theorem dX5_clashes_21 : decode cX5_clashes 21 = .ok (.getfield 12, 3) := by decide +kernel
theorem dX5_clashes_24 : decode cX5_clashes 24 = .ok (.getfield 99, 3) := by decide +kernel
theorem dX5_clashes_27 : decode cX5_clashes 27 = .ok (.if_icmp .ge 43, 3) := by decide +kernel
theorem dX5_clashes_30 : decode cX5_clashes 30 = .ok (.aload_n 0, 1) := by decide +kernel
theorem dX5_clashes_31 : decode cX5_clashes 31 = .ok (.getfield 12, 3) := by decide +kernel
theorem dX5_clashes_34 : decode cX5_clashes 34 = .ok (.iload_n 2, 1) := by decide +kernel
theorem dX5_clashes_35 : decode cX5_clashes 35 = .ok (.invokevirtual 117, 3) := by decide +kernel
theorem dX5_clashes_38 : decode cX5_clashes 38 = .ok (.ifCond .eq 26, 3) := by decide +kernel
theorem dX5_clashes_41 : decode cX5_clashes 41 = .ok (.aload_n 0, 1) := by decide +kernel
theorem dX5_clashes_42 : decode cX5_clashes 42 = .ok (.getfield 12, 3) := by decide +kernel
theorem dX5_clashes_45 : decode cX5_clashes 45 = .ok (.iload_n 3, 1) := by decide +kernel
theorem dX5_clashes_46 : decode cX5_clashes 46 = .ok (.invokevirtual 117, 3) := by decide +kernel
theorem dX5_clashes_49 : decode cX5_clashes 49 = .ok (.ifCond .eq 15, 3) := by decide +kernel
theorem dX5_clashes_52 : decode cX5_clashes 52 = .ok (.aload_n 0, 1) := by decide +kernel
theorem dX5_clashes_53 : decode cX5_clashes 53 = .ok (.iload_n 2, 1) := by decide +kernel
theorem dX5_clashes_54 : decode cX5_clashes 54 = .ok (.iload_n 3, 1) := by decide +kernel
theorem dX5_clashes_55 : decode cX5_clashes 55 = .ok (.invokevirtual 149, 3) := by decide +kernel
theorem dX5_clashes_58 : decode cX5_clashes 58 = .ok (.ifCond .eq 6, 3) := by decide +kernel
theorem dX5_clashes_61 : decode cX5_clashes 61 = .ok (.iinc 1 1, 3) := by decide +kernel
theorem dX5_clashes_64 : decode cX5_clashes 64 = .ok (.iinc 3 1, 3) := by decide +kernel
theorem dX5_clashes_67 : decode cX5_clashes 67 = .ok (.goto (-48), 3) := by decide +kernel
theorem dX5_clashes_70 : decode cX5_clashes 70 = .ok (.iinc 2 1, 3) := by decide +kernel
theorem dX5_clashes_73 : decode cX5_clashes 73 = .ok (.goto (-69), 3) := by decide +kernel
theorem dX5_clashes_76 : decode cX5_clashes 76 = .ok (.iload_n 1, 1) := by decide +kernel
theorem dX5_clashes_77 : decode cX5_clashes 77 = .ok (.ireturn, 1) := by decide +kernel
set_option maxRecDepth 20000 in
theorem ggX5_results_X1_countKinds : GoodIn wsX5_results wsX1_countKinds := goodIn_r _ [7, 8, 9, 10, 11, 12, 13, 14, 15, 16, 17, 18, 19, 20, 21, 6, 22, 23, 24, 25, 26, 27, 28, 29, 30, 31, 32, 33, 34, 35, 36, 37, 38, 39, 40, 41, 42, 43, 44, 45, 46, 47, 48, 49, 50, 51, 52, 53, 54, 55, 56, 57, 58, 59, 60, 61, 62, 63, 64, 65, 66, 67, 68, 69, 70, 71, 72, 73, 74, 75, 76, 77, 78, 79, 80, 81, 82, 83, 84, 85, 86, 87, 88, 89, 90, 91, 92, 93, 94, 95, 96, 97, 98, 99, 100, 101, 102, 103, 104, 105, 106, 107, 108, 109, 110, 123, 124, 125, 126, 127, 128, 129, 130, 131, 132, 133, 134, 135, 136, 137, 138, 139, 140, 141, 142] (by decide +kernel) (by decide +kernel)
set_option maxRecDepth 20000 in
theorem gX5_results_X1_countKinds : GoodIn wsX5_results (wsV RX5 155 RX1 yX1_countKinds wsX1_countKinds) := goodIn_app (goodIn_of _ (by decide +kernel)) ggX5_results_X1_countKinds
theorem dX5_results_0 : decode cX5_results 0 = .ok (.aload_n 0, 1) := by decide +kernel
theorem dX5_results_1 : decode cX5_results 1 = .ok (.getfield 61, 3) := by decide +kernel
theorem dX5_results_4 : decode cX5_results 4 = .ok (.aload_n 0, 1) := by decide +kernel
theorem dX5_results_5 : decode cX5_results 5 = .ok (.getfield 12, 3) := by decide +kernel
theorem dX5_results_8 : decode cX5_results 8 = .ok (.iconst 0, 1) := by decide +kernel
theorem dX5_results_9 : decode cX5_results 9 = .ok (.sipush 720, 3) := by decide +kernel
theorem dX5_results_12 : decode cX5_results 12 = .ok (.invokevirtual 155, 3) := by decide +kernel
theorem dX5_results_15 : decode cX5_results 15 = .ok (.ireturn, 1) := by decide +kernel
set_option maxRecDepth 20000 in
theorem ggX5_reach_X2_hasFeature : GoodIn wsX5_reach wsX2_hasFeature := goodIn_r _ [9, 10, 38, 39, 40, 41, 42, 43, 44] (by decide +kernel) (by decide +kernel)
set_option maxRecDepth 20000 in
theorem gX5_reach_X2_hasFeature : GoodIn wsX5_reach (wsV RX5 106 RX2 yX2_hasFeature wsX2_hasFeature) := goodIn_app (goodIn_of _ (by decide +kernel)) ggX5_reach_X2_hasFeature
set_option maxRecDepth 20000 in
theorem ggX5_reach_X5_putOn : GoodIn wsX5_reach wsX5_putOn := goodIn_r _ [14] (by decide +kernel) (by decide +kernel)
set_option maxRecDepth 20000 in
theorem gX5_reach_X5_putOn : GoodIn wsX5_reach (va_wsS RX5 135 yX5_putOn wsX5_putOn) := goodIn_app (goodIn_of _ (by decide +kernel)) ggX5_reach_X5_putOn
set_option maxRecDepth 20000 in
theorem ggX5_reach_X5_reachedStates : GoodIn wsX5_reach wsX5_reachedStates := goodIn_r _ [18, 1, 19, 20, 21, 13, 22, 23, 24, 25, 26, 27, 28, 29, 30, 31, 32, 33, 34, 35, 36, 37, 38, 39, 40, 41, 42, 43, 44] (by decide +kernel) (by decide +kernel)
set_option maxRecDepth 20000 in
theorem gX5_reach_X5_reachedStates : GoodIn wsX5_reach (wsV RX5 159 RX5 yX5_reachedStates wsX5_reachedStates) := goodIn_app (goodIn_of _ (by decide +kernel)) ggX5_reach_X5_reachedStates
set_option maxRecDepth 20000 in
theorem ggX5_reach_X5_hasBit : GoodIn wsX5_reach wsX5_hasBit := goodIn_r _ [22] (by decide +kernel) (by decide +kernel)
set_option maxRecDepth 20000 in
theorem gX5_reach_X5_hasBit : GoodIn wsX5_reach (va_wsS RX5 163 yX5_hasBit wsX5_hasBit) := goodIn_app (goodIn_of _ (by decide +kernel)) ggX5_reach_X5_hasBit
theorem dX5_reach_0 : decode cX5_reach 0 = .ok (.aload_n 0, 1) := by decide +kernel
theorem dX5_reach_1 : decode cX5_reach 1 = .ok (.getfield 12, 3) := by decide +kernel
theorem dX5_reach_4 : decode cX5_reach 4 = .ok (.iload_n 1, 1) := by decide +kernel
theorem dX5_reach_5 : decode cX5_reach 5 = .ok (.invokevirtual 106, 3) := by decide +kernel
theorem dX5_reach_8 : decode cX5_reach 8 = .ok (.ifCond .ne 5, 3) := by decide +kernel
theorem dX5_reach_11 : decode cX5_reach 11 = .ok (.iconst (-1), 1) := by decide +kernel
theorem dX5_reach_12 : decode cX5_reach 12 = .ok (.ireturn, 1) := by decide +kernel
theorem dX5_reach_13 : decode cX5_reach 13 = .ok (.aload_n 0, 1) := by decide +kernel
theorem dX5_reach_14 : decode cX5_reach 14 = .ok (.getfield 12, 3) := by decide +kernel
theorem dX5_reach_17 : decode cX5_reach 17 = .ok (.getfield 109, 3) := by decide +kernel
theorem dX5_reach_20 : decode cX5_reach 20 = .ok (.iload_n 1, 1) := by decide +kernel
theorem dX5_reach_21 : decode cX5_reach 21 = .ok (.aaload, 1) := by decide +kernel
theorem dX5_reach_22 : decode cX5_reach 22 = .ok (.astore_n 2, 1) := by decide +kernel
theorem dX5_reach_23 : decode cX5_reach 23 = .ok (.aload_n 0, 1) := by decide +kernel
theorem dX5_reach_24 : decode cX5_reach 24 = .ok (.getfield 12, 3) := by decide +kernel
theorem dX5_reach_27 : decode cX5_reach 27 = .ok (.getfield 96, 3) := by decide +kernel
theorem dX5_reach_30 : decode cX5_reach 30 = .ok (.aload_n 2, 1) := by decide +kernel
theorem dX5_reach_31 : decode cX5_reach 31 = .ok (.aload_n 0, 1) := by decide +kernel
theorem dX5_reach_32 : decode cX5_reach 32 = .ok (.getfield 39, 3) := by decide +kernel
theorem dX5_reach_35 : decode cX5_reach 35 = .ok (.invokestatic 135, 3) := by decide +kernel
theorem dX5_reach_38 : decode cX5_reach 38 = .ok (.aload_n 0, 1) := by decide +kernel
theorem dX5_reach_39 : decode cX5_reach 39 = .ok (.aload_n 0, 1) := by decide +kernel
theorem dX5_reach_40 : decode cX5_reach 40 = .ok (.getfield 12, 3) := by decide +kernel
theorem dX5_reach_43 : decode cX5_reach 43 = .ok (.getfield 96, 3) := by decide +kernel
theorem dX5_reach_46 : decode cX5_reach 46 = .ok (.invokevirtual 159, 3) := by decide +kernel
theorem dX5_reach_49 : decode cX5_reach 49 = .ok (.aload_n 0, 1) := by decide +kernel
theorem dX5_reach_50 : decode cX5_reach 50 = .ok (.aload_n 0, 1) := by decide +kernel
theorem dX5_reach_51 : decode cX5_reach 51 = .ok (.getfield 39, 3) := by decide +kernel
theorem dX5_reach_54 : decode cX5_reach 54 = .ok (.invokevirtual 159, 3) := by decide +kernel
theorem dX5_reach_57 : decode cX5_reach 57 = .ok (.ior, 1) := by decide +kernel
theorem dX5_reach_58 : decode cX5_reach 58 = .ok (.istore_n 3, 1) := by decide +kernel
theorem dX5_reach_59 : decode cX5_reach 59 = .ok (.iconst 0, 1) := by decide +kernel
theorem dX5_reach_60 : decode cX5_reach 60 = .ok (.istore 4, 2) := by decide +kernel
theorem dX5_reach_62 : decode cX5_reach 62 = .ok (.iconst 0, 1) := by decide +kernel
theorem dX5_reach_63 : decode cX5_reach 63 = .ok (.istore 5, 2) := by decide +kernel
theorem dX5_reach_65 : decode cX5_reach 65 = .ok (.iload 5, 2) := by decide +kernel
theorem dX5_reach_67 : decode cX5_reach 67 = .ok (.bipush 32, 2) := by decide +kernel
theorem dX5_reach_69 : decode cX5_reach 69 = .ok (.if_icmp .ge 32, 3) := by decide +kernel
theorem dX5_reach_72 : decode cX5_reach 72 = .ok (.aload_n 2, 1) := by decide +kernel
theorem dX5_reach_73 : decode cX5_reach 73 = .ok (.iload 5, 2) := by decide +kernel
theorem dX5_reach_75 : decode cX5_reach 75 = .ok (.iaload, 1) := by decide +kernel
theorem dX5_reach_76 : decode cX5_reach 76 = .ok (.bipush (-2), 2) := by decide +kernel
theorem dX5_reach_78 : decode cX5_reach 78 = .ok (.if_icmp .eq 17, 3) := by decide +kernel
theorem dX5_reach_81 : decode cX5_reach 81 = .ok (.iload_n 3, 1) := by decide +kernel
theorem dX5_reach_82 : decode cX5_reach 82 = .ok (.iload 5, 2) := by decide +kernel
theorem dX5_reach_84 : decode cX5_reach 84 = .ok (.iconst 4, 1) := by decide +kernel
theorem dX5_reach_85 : decode cX5_reach 85 = .ok (.idiv, 1) := by decide +kernel
theorem dX5_reach_86 : decode cX5_reach 86 = .ok (.invokestatic 163, 3) := by decide +kernel
theorem dX5_reach_89 : decode cX5_reach 89 = .ok (.ifCond .eq 6, 3) := by decide +kernel
theorem dX5_reach_92 : decode cX5_reach 92 = .ok (.iinc 4 1, 3) := by decide +kernel
theorem dX5_reach_95 : decode cX5_reach 95 = .ok (.iinc 5 1, 3) := by decide +kernel
theorem dX5_reach_98 : decode cX5_reach 98 = .ok (.goto (-33), 3) := by decide +kernel
theorem dX5_reach_101 : decode cX5_reach 101 = .ok (.iload 4, 2) := by decide +kernel
theorem dX5_reach_103 : decode cX5_reach 103 = .ok (.ireturn, 1) := by decide +kernel
set_option maxRecDepth 20000 in
theorem ggX5_areTwoFeatures_X2_hasFeature : GoodIn wsX5_areTwoFeatures wsX2_hasFeature := goodIn_r _ [6, 7, 20, 21, 22, 23, 24, 25, 26] (by decide +kernel) (by decide +kernel)
set_option maxRecDepth 20000 in
theorem gX5_areTwoFeatures_X2_hasFeature : GoodIn wsX5_areTwoFeatures (wsV RX5 106 RX2 yX2_hasFeature wsX2_hasFeature) := goodIn_app (goodIn_of _ (by decide +kernel)) ggX5_areTwoFeatures_X2_hasFeature
theorem dX5_areTwoFeatures_0 : decode cX5_areTwoFeatures 0 = .ok (.aload_n 0, 1) := by decide +kernel
theorem dX5_areTwoFeatures_1 : decode cX5_areTwoFeatures 1 = .ok (.getfield 12, 3) := by decide +kernel
theorem dX5_areTwoFeatures_4 : decode cX5_areTwoFeatures 4 = .ok (.iload_n 1, 1) := by decide +kernel
theorem dX5_areTwoFeatures_5 : decode cX5_areTwoFeatures 5 = .ok (.invokevirtual 106, 3) := by decide +kernel
theorem dX5_areTwoFeatures_8 : decode cX5_areTwoFeatures 8 = .ok (.ifCond .eq 23, 3) := by decide +kernel
theorem dX5_areTwoFeatures_11 : decode cX5_areTwoFeatures 11 = .ok (.aload_n 0, 1) := by decide +kernel
theorem dX5_areTwoFeatures_12 : decode cX5_areTwoFeatures 12 = .ok (.getfield 12, 3) := by decide +kernel
theorem dX5_areTwoFeatures_15 : decode cX5_areTwoFeatures 15 = .ok (.iload_n 2, 1) := by decide +kernel
theorem dX5_areTwoFeatures_16 : decode cX5_areTwoFeatures 16 = .ok (.invokevirtual 106, 3) := by decide +kernel
theorem dX5_areTwoFeatures_19 : decode cX5_areTwoFeatures 19 = .ok (.ifCond .eq 12, 3) := by decide +kernel
theorem dX5_areTwoFeatures_22 : decode cX5_areTwoFeatures 22 = .ok (.iload_n 1, 1) := by decide +kernel
theorem dX5_areTwoFeatures_23 : decode cX5_areTwoFeatures 23 = .ok (.iload_n 2, 1) := by decide +kernel
theorem dX5_areTwoFeatures_24 : decode cX5_areTwoFeatures 24 = .ok (.if_icmp .eq 7, 3) := by decide +kernel
theorem dX5_areTwoFeatures_27 : decode cX5_areTwoFeatures 27 = .ok (.iconst 1, 1) := by decide +kernel
theorem dX5_areTwoFeatures_28 : decode cX5_areTwoFeatures 28 = .ok (.goto 4, 3) := by decide +kernel
theorem dX5_areTwoFeatures_31 : decode cX5_areTwoFeatures 31 = .ok (.iconst 0, 1) := by decide +kernel
theorem dX5_areTwoFeatures_32 : decode cX5_areTwoFeatures 32 = .ok (.ireturn, 1) := by decide +kernel
set_option maxRecDepth 20000 in
theorem ggX5_findWitness_X5_putOn : GoodIn wsX5_findWitness wsX5_putOn := goodIn_r _ [12] (by decide +kernel) (by decide +kernel)
set_option maxRecDepth 20000 in
theorem gX5_findWitness_X5_putOn : GoodIn wsX5_findWitness (va_wsS RX5 135 yX5_putOn wsX5_putOn) := goodIn_app (goodIn_of _ (by decide +kernel)) ggX5_findWitness_X5_putOn
set_option maxRecDepth 20000 in
theorem ggX5_findWitness_X0_search : GoodIn wsX5_findWitness wsX0_search := goodIn_r _ [17, 18, 19, 20, 21, 22, 23, 24, 25, 16, 26, 27, 28, 29, 30, 11, 31, 32, 33, 34, 35, 36, 37, 38, 39, 40, 41, 42, 43, 63, 64, 65, 66, 67, 68, 69, 70, 71] (by decide +kernel) (by decide +kernel)
set_option maxRecDepth 20000 in
theorem gX5_findWitness_X0_search : GoodIn wsX5_findWitness (wsV RX5 166 RX0 yX0_search wsX0_search) := goodIn_app (goodIn_of _ (by decide +kernel)) ggX5_findWitness_X0_search
theorem dX5_findWitness_0 : decode cX5_findWitness 0 = .ok (.aload_n 0, 1) := by decide +kernel
theorem dX5_findWitness_1 : decode cX5_findWitness 1 = .ok (.getfield 12, 3) := by decide +kernel
theorem dX5_findWitness_4 : decode cX5_findWitness 4 = .ok (.getfield 96, 3) := by decide +kernel
theorem dX5_findWitness_7 : decode cX5_findWitness 7 = .ok (.aload_n 0, 1) := by decide +kernel
theorem dX5_findWitness_8 : decode cX5_findWitness 8 = .ok (.getfield 12, 3) := by decide +kernel
theorem dX5_findWitness_11 : decode cX5_findWitness 11 = .ok (.getfield 109, 3) := by decide +kernel
theorem dX5_findWitness_14 : decode cX5_findWitness 14 = .ok (.iload_n 1, 1) := by decide +kernel
theorem dX5_findWitness_15 : decode cX5_findWitness 15 = .ok (.aaload, 1) := by decide +kernel
theorem dX5_findWitness_16 : decode cX5_findWitness 16 = .ok (.aload_n 0, 1) := by decide +kernel
theorem dX5_findWitness_17 : decode cX5_findWitness 17 = .ok (.getfield 39, 3) := by decide +kernel
theorem dX5_findWitness_20 : decode cX5_findWitness 20 = .ok (.invokestatic 135, 3) := by decide +kernel
theorem dX5_findWitness_23 : decode cX5_findWitness 23 = .ok (.aload_n 0, 1) := by decide +kernel
theorem dX5_findWitness_24 : decode cX5_findWitness 24 = .ok (.getfield 39, 3) := by decide +kernel
theorem dX5_findWitness_27 : decode cX5_findWitness 27 = .ok (.aload_n 0, 1) := by decide +kernel
theorem dX5_findWitness_28 : decode cX5_findWitness 28 = .ok (.getfield 12, 3) := by decide +kernel
theorem dX5_findWitness_31 : decode cX5_findWitness 31 = .ok (.getfield 109, 3) := by decide +kernel
theorem dX5_findWitness_34 : decode cX5_findWitness 34 = .ok (.iload_n 2, 1) := by decide +kernel
theorem dX5_findWitness_35 : decode cX5_findWitness 35 = .ok (.aaload, 1) := by decide +kernel
theorem dX5_findWitness_36 : decode cX5_findWitness 36 = .ok (.aload_n 0, 1) := by decide +kernel
theorem dX5_findWitness_37 : decode cX5_findWitness 37 = .ok (.getfield 39, 3) := by decide +kernel
theorem dX5_findWitness_40 : decode cX5_findWitness 40 = .ok (.invokestatic 135, 3) := by decide +kernel
theorem dX5_findWitness_43 : decode cX5_findWitness 43 = .ok (.aload_n 0, 1) := by decide +kernel
theorem dX5_findWitness_44 : decode cX5_findWitness 44 = .ok (.getfield 12, 3) := by decide +kernel
theorem dX5_findWitness_47 : decode cX5_findWitness 47 = .ok (.getfield 96, 3) := by decide +kernel
theorem dX5_findWitness_50 : decode cX5_findWitness 50 = .ok (.aload_n 0, 1) := by decide +kernel
theorem dX5_findWitness_51 : decode cX5_findWitness 51 = .ok (.getfield 12, 3) := by decide +kernel
theorem dX5_findWitness_54 : decode cX5_findWitness 54 = .ok (.getfield 109, 3) := by decide +kernel
theorem dX5_findWitness_57 : decode cX5_findWitness 57 = .ok (.iload_n 2, 1) := by decide +kernel
theorem dX5_findWitness_58 : decode cX5_findWitness 58 = .ok (.aaload, 1) := by decide +kernel
theorem dX5_findWitness_59 : decode cX5_findWitness 59 = .ok (.aload_n 0, 1) := by decide +kernel
theorem dX5_findWitness_60 : decode cX5_findWitness 60 = .ok (.getfield 42, 3) := by decide +kernel
theorem dX5_findWitness_63 : decode cX5_findWitness 63 = .ok (.invokestatic 135, 3) := by decide +kernel
theorem dX5_findWitness_66 : decode cX5_findWitness 66 = .ok (.aload_n 0, 1) := by decide +kernel
theorem dX5_findWitness_67 : decode cX5_findWitness 67 = .ok (.getfield 42, 3) := by decide +kernel
theorem dX5_findWitness_70 : decode cX5_findWitness 70 = .ok (.aload_n 0, 1) := by decide +kernel
theorem dX5_findWitness_71 : decode cX5_findWitness 71 = .ok (.getfield 12, 3) := by decide +kernel
theorem dX5_findWitness_74 : decode cX5_findWitness 74 = .ok (.getfield 109, 3) := by decide +kernel
theorem dX5_findWitness_77 : decode cX5_findWitness 77 = .ok (.iload_n 1, 1) := by decide +kernel
theorem dX5_findWitness_78 : decode cX5_findWitness 78 = .ok (.aaload, 1) := by decide +kernel
theorem dX5_findWitness_79 : decode cX5_findWitness 79 = .ok (.aload_n 0, 1) := by decide +kernel
theorem dX5_findWitness_80 : decode cX5_findWitness 80 = .ok (.getfield 42, 3) := by decide +kernel
theorem dX5_findWitness_83 : decode cX5_findWitness 83 = .ok (.invokestatic 135, 3) := by decide +kernel
theorem dX5_findWitness_86 : decode cX5_findWitness 86 = .ok (.aload_n 0, 1) := by decide +kernel
theorem dX5_findWitness_87 : decode cX5_findWitness 87 = .ok (.getfield 54, 3) := by decide +kernel
theorem dX5_findWitness_90 : decode cX5_findWitness 90 = .ok (.aload_n 0, 1) := by decide +kernel
theorem dX5_findWitness_91 : decode cX5_findWitness 91 = .ok (.getfield 39, 3) := by decide +kernel
theorem dX5_findWitness_94 : decode cX5_findWitness 94 = .ok (.aload_n 0, 1) := by decide +kernel
theorem dX5_findWitness_95 : decode cX5_findWitness 95 = .ok (.getfield 42, 3) := by decide +kernel
theorem dX5_findWitness_98 : decode cX5_findWitness 98 = .ok (.aload_n 0, 1) := by decide +kernel
theorem dX5_findWitness_99 : decode cX5_findWitness 99 = .ok (.getfield 12, 3) := by decide +kernel
theorem dX5_findWitness_102 : decode cX5_findWitness 102 = .ok (.getfield 68, 3) := by decide +kernel
theorem dX5_findWitness_105 : decode cX5_findWitness 105 = .ok (.invokevirtual 166, 3) := by decide +kernel
theorem dX5_findWitness_108 : decode cX5_findWitness 108 = .ok (.aload_n 0, 1) := by decide +kernel
theorem dX5_findWitness_109 : decode cX5_findWitness 109 = .ok (.getfield 54, 3) := by decide +kernel
theorem dX5_findWitness_112 : decode cX5_findWitness 112 = .ok (.getfield 170, 3) := by decide +kernel
theorem dX5_findWitness_115 : decode cX5_findWitness 115 = .ok (.ifCond .le 7, 3) := by decide +kernel
theorem dX5_findWitness_118 : decode cX5_findWitness 118 = .ok (.iconst 1, 1) := by decide +kernel
theorem dX5_findWitness_119 : decode cX5_findWitness 119 = .ok (.goto 4, 3) := by decide +kernel
theorem dX5_findWitness_122 : decode cX5_findWitness 122 = .ok (.iconst 0, 1) := by decide +kernel
theorem dX5_findWitness_123 : decode cX5_findWitness 123 = .ok (.ireturn, 1) := by decide +kernel
set_option maxRecDepth 20000 in
theorem ggX5_reachedStates_X5_hasBit : GoodIn wsX5_reachedStates wsX5_hasBit := goodIn_r _ [6] (by decide +kernel) (by decide +kernel)
set_option maxRecDepth 20000 in
theorem gX5_reachedStates_X5_hasBit : GoodIn wsX5_reachedStates (va_wsS RX5 163 yX5_hasBit wsX5_hasBit) := goodIn_app (goodIn_of _ (by decide +kernel)) ggX5_reachedStates_X5_hasBit
set_option maxRecDepth 20000 in
theorem ggX5_reachedStates_X5_targetOf : GoodIn wsX5_reachedStates wsX5_targetOf := goodIn_r _ [9] (by decide +kernel) (by decide +kernel)
set_option maxRecDepth 20000 in
theorem gX5_reachedStates_X5_targetOf : GoodIn wsX5_reachedStates (va_wsS RX5 171 yX5_targetOf wsX5_targetOf) := goodIn_app (goodIn_of _ (by decide +kernel)) ggX5_reachedStates_X5_targetOf
theorem dX5_reachedStates_0 : decode cX5_reachedStates 0 = .ok (.iconst 1, 1) := by decide +kernel
theorem dX5_reachedStates_1 : decode cX5_reachedStates 1 = .ok (.istore_n 2, 1) := by decide +kernel
theorem dX5_reachedStates_2 : decode cX5_reachedStates 2 = .ok (.iconst 1, 1) := by decide +kernel
theorem dX5_reachedStates_3 : decode cX5_reachedStates 3 = .ok (.istore_n 3, 1) := by decide +kernel
theorem dX5_reachedStates_4 : decode cX5_reachedStates 4 = .ok (.iload_n 3, 1) := by decide +kernel
theorem dX5_reachedStates_5 : decode cX5_reachedStates 5 = .ok (.aload_n 0, 1) := by decide +kernel
theorem dX5_reachedStates_6 : decode cX5_reachedStates 6 = .ok (.getfield 12, 3) := by decide +kernel
theorem dX5_reachedStates_9 : decode cX5_reachedStates 9 = .ok (.getfield 65, 3) := by decide +kernel
theorem dX5_reachedStates_12 : decode cX5_reachedStates 12 = .ok (.if_icmp .ge 56, 3) := by decide +kernel
theorem dX5_reachedStates_15 : decode cX5_reachedStates 15 = .ok (.iconst 0, 1) := by decide +kernel
theorem dX5_reachedStates_16 : decode cX5_reachedStates 16 = .ok (.istore 4, 2) := by decide +kernel
theorem dX5_reachedStates_18 : decode cX5_reachedStates 18 = .ok (.iload 4, 2) := by decide +kernel
theorem dX5_reachedStates_20 : decode cX5_reachedStates 20 = .ok (.bipush 32, 2) := by decide +kernel
theorem dX5_reachedStates_22 : decode cX5_reachedStates 22 = .ok (.if_icmp .ge 40, 3) := by decide +kernel
theorem dX5_reachedStates_25 : decode cX5_reachedStates 25 = .ok (.aload_n 1, 1) := by decide +kernel
theorem dX5_reachedStates_26 : decode cX5_reachedStates 26 = .ok (.iload 4, 2) := by decide +kernel
theorem dX5_reachedStates_28 : decode cX5_reachedStates 28 = .ok (.iaload, 1) := by decide +kernel
theorem dX5_reachedStates_29 : decode cX5_reachedStates 29 = .ok (.iconst (-1), 1) := by decide +kernel
theorem dX5_reachedStates_30 : decode cX5_reachedStates 30 = .ok (.if_icmp .eq 26, 3) := by decide +kernel
theorem dX5_reachedStates_33 : decode cX5_reachedStates 33 = .ok (.iload_n 2, 1) := by decide +kernel
theorem dX5_reachedStates_34 : decode cX5_reachedStates 34 = .ok (.iload 4, 2) := by decide +kernel
theorem dX5_reachedStates_36 : decode cX5_reachedStates 36 = .ok (.iconst 4, 1) := by decide +kernel
theorem dX5_reachedStates_37 : decode cX5_reachedStates 37 = .ok (.idiv, 1) := by decide +kernel
theorem dX5_reachedStates_38 : decode cX5_reachedStates 38 = .ok (.invokestatic 163, 3) := by decide +kernel
theorem dX5_reachedStates_41 : decode cX5_reachedStates 41 = .ok (.ifCond .eq 15, 3) := by decide +kernel
theorem dX5_reachedStates_44 : decode cX5_reachedStates 44 = .ok (.iload_n 2, 1) := by decide +kernel
theorem dX5_reachedStates_45 : decode cX5_reachedStates 45 = .ok (.iconst 1, 1) := by decide +kernel
theorem dX5_reachedStates_46 : decode cX5_reachedStates 46 = .ok (.aload_n 1, 1) := by decide +kernel
theorem dX5_reachedStates_47 : decode cX5_reachedStates 47 = .ok (.iload 4, 2) := by decide +kernel
theorem dX5_reachedStates_49 : decode cX5_reachedStates 49 = .ok (.iaload, 1) := by decide +kernel
theorem dX5_reachedStates_50 : decode cX5_reachedStates 50 = .ok (.invokestatic 171, 3) := by decide +kernel
theorem dX5_reachedStates_53 : decode cX5_reachedStates 53 = .ok (.ishl, 1) := by decide +kernel
theorem dX5_reachedStates_54 : decode cX5_reachedStates 54 = .ok (.ior, 1) := by decide +kernel
theorem dX5_reachedStates_55 : decode cX5_reachedStates 55 = .ok (.istore_n 2, 1) := by decide +kernel
theorem dX5_reachedStates_56 : decode cX5_reachedStates 56 = .ok (.iinc 4 1, 3) := by decide +kernel
theorem dX5_reachedStates_59 : decode cX5_reachedStates 59 = .ok (.goto (-41), 3) := by decide +kernel
theorem dX5_reachedStates_62 : decode cX5_reachedStates 62 = .ok (.iinc 3 1, 3) := by decide +kernel
theorem dX5_reachedStates_65 : decode cX5_reachedStates 65 = .ok (.goto (-61), 3) := by decide +kernel
theorem dX5_reachedStates_68 : decode cX5_reachedStates 68 = .ok (.iload_n 2, 1) := by decide +kernel
theorem dX5_reachedStates_69 : decode cX5_reachedStates 69 = .ok (.ireturn, 1) := by decide +kernel
set_option maxRecDepth 20000 in
theorem ggX5_setBefore_X5_areTwoFeatures : GoodIn wsX5_setBefore wsX5_areTwoFeatures := goodIn_r _ [6, 1, 7, 8, 9, 10, 11, 12, 36, 37, 38, 39, 40, 41, 42, 43, 44, 45, 46, 47, 48, 49, 50, 51, 52, 53, 54] (by decide +kernel) (by decide +kernel)
set_option maxRecDepth 20000 in
theorem gX5_setBefore_X5_areTwoFeatures : GoodIn wsX5_setBefore (wsV RX5 146 RX5 yX5_areTwoFeatures wsX5_areTwoFeatures) := goodIn_app (goodIn_of _ (by decide +kernel)) ggX5_setBefore_X5_areTwoFeatures
set_option maxRecDepth 20000 in
theorem ggX5_setBefore_X2_stands : GoodIn wsX5_setBefore wsX2_stands := goodIn_r _ [16, 17, 18, 5, 19, 48, 49, 50, 51, 52, 53, 54] (by decide +kernel) (by decide +kernel)
set_option maxRecDepth 20000 in
theorem gX5_setBefore_X2_stands : GoodIn wsX5_setBefore (wsV RX5 174 RX2 yX2_stands wsX2_stands) := goodIn_app (goodIn_of _ (by decide +kernel)) ggX5_setBefore_X2_stands
set_option maxRecDepth 20000 in
theorem ggX5_setBefore_X2_prefer : GoodIn wsX5_setBefore wsX2_prefer := goodIn_r _ [23, 17, 24, 14, 15, 10, 16, 18, 5, 19, 48, 49, 50, 51, 52, 53, 54] (by decide +kernel) (by decide +kernel)
set_option maxRecDepth 20000 in
theorem gX5_setBefore_X2_prefer : GoodIn wsX5_setBefore (wsV RX5 177 RX2 yX2_prefer wsX2_prefer) := goodIn_app (goodIn_of _ (by decide +kernel)) ggX5_setBefore_X2_prefer
set_option maxRecDepth 20000 in
theorem ggX5_setBefore_X2_countPriorities : GoodIn wsX5_setBefore wsX2_countPriorities := goodIn_r _ [28, 17, 29, 30, 31, 32, 33, 34, 35, 48, 49, 50, 51, 52, 53, 54] (by decide +kernel) (by decide +kernel)
set_option maxRecDepth 20000 in
theorem gX5_setBefore_X2_countPriorities : GoodIn wsX5_setBefore (wsV RX5 180 RX2 yX2_countPriorities wsX2_countPriorities) := goodIn_app (goodIn_of _ (by decide +kernel)) ggX5_setBefore_X2_countPriorities
theorem dX5_setBefore_0 : decode cX5_setBefore 0 = .ok (.aload_n 0, 1) := by decide +kernel
theorem dX5_setBefore_1 : decode cX5_setBefore 1 = .ok (.iload_n 1, 1) := by decide +kernel
theorem dX5_setBefore_2 : decode cX5_setBefore 2 = .ok (.iload_n 2, 1) := by decide +kernel
theorem dX5_setBefore_3 : decode cX5_setBefore 3 = .ok (.invokevirtual 146, 3) := by decide +kernel
theorem dX5_setBefore_6 : decode cX5_setBefore 6 = .ok (.ifCond .ne 5, 3) := by decide +kernel
theorem dX5_setBefore_9 : decode cX5_setBefore 9 = .ok (.iconst (-1), 1) := by decide +kernel
theorem dX5_setBefore_10 : decode cX5_setBefore 10 = .ok (.ireturn, 1) := by decide +kernel
theorem dX5_setBefore_11 : decode cX5_setBefore 11 = .ok (.aload_n 0, 1) := by decide +kernel
theorem dX5_setBefore_12 : decode cX5_setBefore 12 = .ok (.getfield 12, 3) := by decide +kernel
theorem dX5_setBefore_15 : decode cX5_setBefore 15 = .ok (.iload_n 2, 1) := by decide +kernel
theorem dX5_setBefore_16 : decode cX5_setBefore 16 = .ok (.iload_n 1, 1) := by decide +kernel
theorem dX5_setBefore_17 : decode cX5_setBefore 17 = .ok (.invokevirtual 174, 3) := by decide +kernel
theorem dX5_setBefore_20 : decode cX5_setBefore 20 = .ok (.ifCond .eq 6, 3) := by decide +kernel
theorem dX5_setBefore_23 : decode cX5_setBefore 23 = .ok (.bipush (-3), 2) := by decide +kernel
theorem dX5_setBefore_25 : decode cX5_setBefore 25 = .ok (.ireturn, 1) := by decide +kernel
theorem dX5_setBefore_26 : decode cX5_setBefore 26 = .ok (.aload_n 0, 1) := by decide +kernel
theorem dX5_setBefore_27 : decode cX5_setBefore 27 = .ok (.getfield 12, 3) := by decide +kernel
theorem dX5_setBefore_30 : decode cX5_setBefore 30 = .ok (.iload_n 1, 1) := by decide +kernel
theorem dX5_setBefore_31 : decode cX5_setBefore 31 = .ok (.iload_n 2, 1) := by decide +kernel
theorem dX5_setBefore_32 : decode cX5_setBefore 32 = .ok (.invokevirtual 177, 3) := by decide +kernel
theorem dX5_setBefore_35 : decode cX5_setBefore 35 = .ok (.aload_n 0, 1) := by decide +kernel
theorem dX5_setBefore_36 : decode cX5_setBefore 36 = .ok (.getfield 12, 3) := by decide +kernel
theorem dX5_setBefore_39 : decode cX5_setBefore 39 = .ok (.invokevirtual 180, 3) := by decide +kernel
theorem dX5_setBefore_42 : decode cX5_setBefore 42 = .ok (.ireturn, 1) := by decide +kernel
set_option maxRecDepth 20000 in
theorem ggX5_clearPriorities_X2_countPriorities : GoodIn wsX5_clearPriorities wsX2_countPriorities := goodIn_r _ [7, 8, 9, 10, 11, 12, 13, 14, 15, 32, 33, 34, 35, 36, 37, 38] (by decide +kernel) (by decide +kernel)
set_option maxRecDepth 20000 in
theorem gX5_clearPriorities_X2_countPriorities : GoodIn wsX5_clearPriorities (wsV RX5 180 RX2 yX2_countPriorities wsX2_countPriorities) := goodIn_app (goodIn_of _ (by decide +kernel)) ggX5_clearPriorities_X2_countPriorities
set_option maxRecDepth 20000 in
theorem ggX5_clearPriorities_J7_fill_53178 : GoodIn wsX5_clearPriorities wsJ7_fill_53178 := goodIn_r _ [19] (by decide +kernel) (by decide +kernel)
set_option maxRecDepth 20000 in
theorem gX5_clearPriorities_J7_fill_53178 : GoodIn wsX5_clearPriorities (va_wsS RX5 186 yJ7_fill_53178 wsJ7_fill_53178) := goodIn_app (goodIn_of _ (by decide +kernel)) ggX5_clearPriorities_J7_fill_53178
theorem dX5_clearPriorities_0 : decode cX5_clearPriorities 0 = .ok (.aload_n 0, 1) := by decide +kernel
theorem dX5_clearPriorities_1 : decode cX5_clearPriorities 1 = .ok (.getfield 12, 3) := by decide +kernel
theorem dX5_clearPriorities_4 : decode cX5_clearPriorities 4 = .ok (.invokevirtual 180, 3) := by decide +kernel
theorem dX5_clearPriorities_7 : decode cX5_clearPriorities 7 = .ok (.istore_n 1, 1) := by decide +kernel
theorem dX5_clearPriorities_8 : decode cX5_clearPriorities 8 = .ok (.aload_n 0, 1) := by decide +kernel
theorem dX5_clearPriorities_9 : decode cX5_clearPriorities 9 = .ok (.getfield 12, 3) := by decide +kernel
theorem dX5_clearPriorities_12 : decode cX5_clearPriorities 12 = .ok (.getfield 183, 3) := by decide +kernel
theorem dX5_clearPriorities_15 : decode cX5_clearPriorities 15 = .ok (.iconst 0, 1) := by decide +kernel
theorem dX5_clearPriorities_16 : decode cX5_clearPriorities 16 = .ok (.invokestatic 186, 3) := by decide +kernel
theorem dX5_clearPriorities_19 : decode cX5_clearPriorities 19 = .ok (.iload_n 1, 1) := by decide +kernel
theorem dX5_clearPriorities_20 : decode cX5_clearPriorities 20 = .ok (.ireturn, 1) := by decide +kernel
set_option maxRecDepth 20000 in
theorem ggX5_isBefore_X2_hasFeature : GoodIn wsX5_isBefore wsX2_hasFeature := goodIn_r _ [6, 7, 28, 29, 30, 31, 32, 33, 34] (by decide +kernel) (by decide +kernel)
set_option maxRecDepth 20000 in
theorem gX5_isBefore_X2_hasFeature : GoodIn wsX5_isBefore (wsV RX5 106 RX2 yX2_hasFeature wsX2_hasFeature) := goodIn_app (goodIn_of _ (by decide +kernel)) ggX5_isBefore_X2_hasFeature
set_option maxRecDepth 20000 in
theorem ggX5_isBefore_X2_stands : GoodIn wsX5_isBefore wsX2_stands := goodIn_r _ [11, 12, 13, 14, 15, 28, 29, 30, 31, 32, 33, 34] (by decide +kernel) (by decide +kernel)
set_option maxRecDepth 20000 in
theorem gX5_isBefore_X2_stands : GoodIn wsX5_isBefore (wsV RX5 174 RX2 yX2_stands wsX2_stands) := goodIn_app (goodIn_of _ (by decide +kernel)) ggX5_isBefore_X2_stands
theorem dX5_isBefore_0 : decode cX5_isBefore 0 = .ok (.aload_n 0, 1) := by decide +kernel
theorem dX5_isBefore_1 : decode cX5_isBefore 1 = .ok (.getfield 12, 3) := by decide +kernel
theorem dX5_isBefore_4 : decode cX5_isBefore 4 = .ok (.iload_n 1, 1) := by decide +kernel
theorem dX5_isBefore_5 : decode cX5_isBefore 5 = .ok (.invokevirtual 106, 3) := by decide +kernel
theorem dX5_isBefore_8 : decode cX5_isBefore 8 = .ok (.ifCond .eq 14, 3) := by decide +kernel
theorem dX5_isBefore_11 : decode cX5_isBefore 11 = .ok (.aload_n 0, 1) := by decide +kernel
theorem dX5_isBefore_12 : decode cX5_isBefore 12 = .ok (.getfield 12, 3) := by decide +kernel
theorem dX5_isBefore_15 : decode cX5_isBefore 15 = .ok (.iload_n 2, 1) := by decide +kernel
theorem dX5_isBefore_16 : decode cX5_isBefore 16 = .ok (.invokevirtual 106, 3) := by decide +kernel
theorem dX5_isBefore_19 : decode cX5_isBefore 19 = .ok (.ifCond .ne 5, 3) := by decide +kernel
theorem dX5_isBefore_22 : decode cX5_isBefore 22 = .ok (.iconst (-1), 1) := by decide +kernel
theorem dX5_isBefore_23 : decode cX5_isBefore 23 = .ok (.ireturn, 1) := by decide +kernel
theorem dX5_isBefore_24 : decode cX5_isBefore 24 = .ok (.aload_n 0, 1) := by decide +kernel
theorem dX5_isBefore_25 : decode cX5_isBefore 25 = .ok (.getfield 12, 3) := by decide +kernel
theorem dX5_isBefore_28 : decode cX5_isBefore 28 = .ok (.iload_n 1, 1) := by decide +kernel
theorem dX5_isBefore_29 : decode cX5_isBefore 29 = .ok (.iload_n 2, 1) := by decide +kernel
theorem dX5_isBefore_30 : decode cX5_isBefore 30 = .ok (.invokevirtual 174, 3) := by decide +kernel
theorem dX5_isBefore_33 : decode cX5_isBefore 33 = .ok (.ifCond .eq 7, 3) := by decide +kernel
theorem dX5_isBefore_36 : decode cX5_isBefore 36 = .ok (.iconst 1, 1) := by decide +kernel
theorem dX5_isBefore_37 : decode cX5_isBefore 37 = .ok (.goto 4, 3) := by decide +kernel
theorem dX5_isBefore_40 : decode cX5_isBefore 40 = .ok (.iconst 0, 1) := by decide +kernel
theorem dX5_isBefore_41 : decode cX5_isBefore 41 = .ok (.ireturn, 1) := by decide +kernel
set_option maxRecDepth 20000 in
theorem ggX5_orders_X5_countOrdersOf : GoodIn wsX5_orders wsX5_countOrdersOf := goodIn_r _ [8, 2, 9, 10, 3, 1, 11, 12, 13, 14, 15, 16, 17, 18, 19, 20, 21, 22, 23, 24, 25, 26, 27, 28, 29] (by decide +kernel) (by decide +kernel)
set_option maxRecDepth 20000 in
theorem gX5_orders_X5_countOrdersOf : GoodIn wsX5_orders (wsV RX5 195 RX5 yX5_countOrdersOf wsX5_countOrdersOf) := goodIn_app (goodIn_of _ (by decide +kernel)) ggX5_orders_X5_countOrdersOf
theorem dX5_orders_0 : decode cX5_orders 0 = .ok (.aload_n 0, 1) := by decide +kernel
theorem dX5_orders_1 : decode cX5_orders 1 = .ok (.getfield 48, 3) := by decide +kernel
theorem dX5_orders_4 : decode cX5_orders 4 = .ok (.iconst 0, 1) := by decide +kernel
theorem dX5_orders_5 : decode cX5_orders 5 = .ok (.iconst 1, 1) := by decide +kernel
theorem dX5_orders_6 : decode cX5_orders 6 = .ok (.iastore, 1) := by decide +kernel
theorem dX5_orders_7 : decode cX5_orders 7 = .ok (.iconst 1, 1) := by decide +kernel
theorem dX5_orders_8 : decode cX5_orders 8 = .ok (.istore_n 1, 1) := by decide +kernel
theorem dX5_orders_9 : decode cX5_orders 9 = .ok (.iload_n 1, 1) := by decide +kernel
theorem dX5_orders_10 : decode cX5_orders 10 = .ok (.aload_n 0, 1) := by decide +kernel
theorem dX5_orders_11 : decode cX5_orders 11 = .ok (.getfield 12, 3) := by decide +kernel
theorem dX5_orders_14 : decode cX5_orders 14 = .ok (.getfield 192, 3) := by decide +kernel
theorem dX5_orders_17 : decode cX5_orders 17 = .ok (.if_icmp .gt 38, 3) := by decide +kernel
theorem dX5_orders_20 : decode cX5_orders 20 = .ok (.aload_n 0, 1) := by decide +kernel
theorem dX5_orders_21 : decode cX5_orders 21 = .ok (.getfield 48, 3) := by decide +kernel
theorem dX5_orders_24 : decode cX5_orders 24 = .ok (.iload_n 1, 1) := by decide +kernel
theorem dX5_orders_25 : decode cX5_orders 25 = .ok (.iload_n 1, 1) := by decide +kernel
theorem dX5_orders_26 : decode cX5_orders 26 = .ok (.aload_n 0, 1) := by decide +kernel
theorem dX5_orders_27 : decode cX5_orders 27 = .ok (.getfield 12, 3) := by decide +kernel
theorem dX5_orders_30 : decode cX5_orders 30 = .ok (.getfield 192, 3) := by decide +kernel
theorem dX5_orders_33 : decode cX5_orders 33 = .ok (.iconst (-1), 1) := by decide +kernel
theorem dX5_orders_34 : decode cX5_orders 34 = .ok (.ixor, 1) := by decide +kernel
theorem dX5_orders_35 : decode cX5_orders 35 = .ok (.iand, 1) := by decide +kernel
theorem dX5_orders_36 : decode cX5_orders 36 = .ok (.ifCond .ne 11, 3) := by decide +kernel
theorem dX5_orders_39 : decode cX5_orders 39 = .ok (.aload_n 0, 1) := by decide +kernel
theorem dX5_orders_40 : decode cX5_orders 40 = .ok (.iload_n 1, 1) := by decide +kernel
theorem dX5_orders_41 : decode cX5_orders 41 = .ok (.invokevirtual 195, 3) := by decide +kernel
theorem dX5_orders_44 : decode cX5_orders 44 = .ok (.goto 4, 3) := by decide +kernel
theorem dX5_orders_47 : decode cX5_orders 47 = .ok (.iconst 0, 1) := by decide +kernel
theorem dX5_orders_48 : decode cX5_orders 48 = .ok (.iastore, 1) := by decide +kernel
theorem dX5_orders_49 : decode cX5_orders 49 = .ok (.iinc 1 1, 3) := by decide +kernel
theorem dX5_orders_52 : decode cX5_orders 52 = .ok (.goto (-43), 3) := by decide +kernel
theorem dX5_orders_55 : decode cX5_orders 55 = .ok (.aload_n 0, 1) := by decide +kernel
theorem dX5_orders_56 : decode cX5_orders 56 = .ok (.getfield 48, 3) := by decide +kernel
theorem dX5_orders_59 : decode cX5_orders 59 = .ok (.aload_n 0, 1) := by decide +kernel
theorem dX5_orders_60 : decode cX5_orders 60 = .ok (.getfield 12, 3) := by decide +kernel
theorem dX5_orders_63 : decode cX5_orders 63 = .ok (.getfield 192, 3) := by decide +kernel
theorem dX5_orders_66 : decode cX5_orders 66 = .ok (.iaload, 1) := by decide +kernel
theorem dX5_orders_67 : decode cX5_orders 67 = .ok (.ireturn, 1) := by decide +kernel
set_option maxRecDepth 20000 in
theorem ggX5_resolved_X5_findResolvedOrder : GoodIn wsX5_resolved wsX5_findResolvedOrder := goodIn_r _ [6, 7, 8, 1, 9, 10, 11, 5, 12, 13, 14, 15, 16, 17, 18, 19, 20, 21, 22, 23, 24, 25, 26, 27, 28, 29, 30, 31, 32, 33, 34, 35] (by decide +kernel) (by decide +kernel)
set_option maxRecDepth 20000 in
theorem gX5_resolved_X5_findResolvedOrder : GoodIn wsX5_resolved (wsV RX5 198 RX5 yX5_findResolvedOrder wsX5_findResolvedOrder) := goodIn_app (goodIn_of _ (by decide +kernel)) ggX5_resolved_X5_findResolvedOrder
theorem dX5_resolved_0 : decode cX5_resolved 0 = .ok (.iload_n 1, 1) := by decide +kernel
theorem dX5_resolved_1 : decode cX5_resolved 1 = .ok (.ifCond .ge 5, 3) := by decide +kernel
theorem dX5_resolved_4 : decode cX5_resolved 4 = .ok (.iconst (-1), 1) := by decide +kernel
theorem dX5_resolved_5 : decode cX5_resolved 5 = .ok (.ireturn, 1) := by decide +kernel
theorem dX5_resolved_6 : decode cX5_resolved 6 = .ok (.aload_n 0, 1) := by decide +kernel
theorem dX5_resolved_7 : decode cX5_resolved 7 = .ok (.invokevirtual 198, 3) := by decide +kernel
theorem dX5_resolved_10 : decode cX5_resolved 10 = .ok (.istore_n 2, 1) := by decide +kernel
theorem dX5_resolved_11 : decode cX5_resolved 11 = .ok (.iload_n 1, 1) := by decide +kernel
theorem dX5_resolved_12 : decode cX5_resolved 12 = .ok (.iload_n 2, 1) := by decide +kernel
theorem dX5_resolved_13 : decode cX5_resolved 13 = .ok (.if_icmp .ge 12, 3) := by decide +kernel
theorem dX5_resolved_16 : decode cX5_resolved 16 = .ok (.aload_n 0, 1) := by decide +kernel
theorem dX5_resolved_17 : decode cX5_resolved 17 = .ok (.getfield 45, 3) := by decide +kernel
theorem dX5_resolved_20 : decode cX5_resolved 20 = .ok (.iload_n 1, 1) := by decide +kernel
theorem dX5_resolved_21 : decode cX5_resolved 21 = .ok (.iaload, 1) := by decide +kernel
theorem dX5_resolved_22 : decode cX5_resolved 22 = .ok (.goto 5, 3) := by decide +kernel
theorem dX5_resolved_25 : decode cX5_resolved 25 = .ok (.bipush (-5), 2) := by decide +kernel
theorem dX5_resolved_27 : decode cX5_resolved 27 = .ok (.ireturn, 1) := by decide +kernel
set_option maxRecDepth 20000 in
theorem ggX5_open_X5_isOpenPair : GoodIn wsX5_open wsX5_isOpenPair := goodIn_r _ [7, 1, 8, 9, 10, 11, 12, 13, 14, 6, 15, 16, 17, 18, 19, 20, 21, 22, 23, 24, 25, 26, 27, 28, 29, 30, 31, 32, 33, 34, 35, 36, 37, 38, 39, 40, 41, 42, 43, 44, 45, 46, 47, 48, 49, 50, 51, 52, 53, 54, 55, 56, 57, 58, 59, 60, 61, 62, 63, 64, 65, 66, 67, 68, 69, 70, 71, 72, 73, 74, 75, 76, 77, 78, 79, 80, 81, 82, 83, 84, 85, 86, 87, 88, 89, 90, 91, 92, 93] (by decide +kernel) (by decide +kernel)
set_option maxRecDepth 20000 in
theorem gX5_open_X5_isOpenPair : GoodIn wsX5_open (wsV RX5 201 RX5 yX5_isOpenPair wsX5_isOpenPair) := goodIn_app (goodIn_of _ (by decide +kernel)) ggX5_open_X5_isOpenPair
theorem dX5_open_0 : decode cX5_open 0 = .ok (.iconst 0, 1) := by decide +kernel
theorem dX5_open_1 : decode cX5_open 1 = .ok (.istore_n 1, 1) := by decide +kernel
theorem dX5_open_2 : decode cX5_open 2 = .ok (.iconst 0, 1) := by decide +kernel
theorem dX5_open_3 : decode cX5_open 3 = .ok (.istore_n 2, 1) := by decide +kernel
theorem dX5_open_4 : decode cX5_open 4 = .ok (.iload_n 2, 1) := by decide +kernel
theorem dX5_open_5 : decode cX5_open 5 = .ok (.aload_n 0, 1) := by decide +kernel
theorem dX5_open_6 : decode cX5_open 6 = .ok (.getfield 12, 3) := by decide +kernel
theorem dX5_open_9 : decode cX5_open 9 = .ok (.getfield 99, 3) := by decide +kernel
theorem dX5_open_12 : decode cX5_open 12 = .ok (.if_icmp .ge 42, 3) := by decide +kernel
theorem dX5_open_15 : decode cX5_open 15 = .ok (.iload_n 2, 1) := by decide +kernel
theorem dX5_open_16 : decode cX5_open 16 = .ok (.iconst 1, 1) := by decide +kernel
theorem dX5_open_17 : decode cX5_open 17 = .ok (.iadd, 1) := by decide +kernel
theorem dX5_open_18 : decode cX5_open 18 = .ok (.istore_n 3, 1) := by decide +kernel
theorem dX5_open_19 : decode cX5_open 19 = .ok (.iload_n 3, 1) := by decide +kernel
theorem dX5_open_20 : decode cX5_open 20 = .ok (.aload_n 0, 1) := by decide +kernel
theorem dX5_open_21 : decode cX5_open 21 = .ok (.getfield 12, 3) := by decide +kernel
theorem dX5_open_24 : decode cX5_open 24 = .ok (.getfield 99, 3) := by decide +kernel
theorem dX5_open_27 : decode cX5_open 27 = .ok (.if_icmp .ge 21, 3) := by decide +kernel
theorem dX5_open_30 : decode cX5_open 30 = .ok (.aload_n 0, 1) := by decide +kernel
theorem dX5_open_31 : decode cX5_open 31 = .ok (.iload_n 2, 1) := by decide +kernel
theorem dX5_open_32 : decode cX5_open 32 = .ok (.iload_n 3, 1) := by decide +kernel
theorem dX5_open_33 : decode cX5_open 33 = .ok (.invokevirtual 201, 3) := by decide +kernel
theorem dX5_open_36 : decode cX5_open 36 = .ok (.ifCond .eq 6, 3) := by decide +kernel
theorem dX5_open_39 : decode cX5_open 39 = .ok (.iinc 1 1, 3) := by decide +kernel
theorem dX5_open_42 : decode cX5_open 42 = .ok (.iinc 3 1, 3) := by decide +kernel
theorem dX5_open_45 : decode cX5_open 45 = .ok (.goto (-26), 3) := by decide +kernel
theorem dX5_open_48 : decode cX5_open 48 = .ok (.iinc 2 1, 3) := by decide +kernel
theorem dX5_open_51 : decode cX5_open 51 = .ok (.goto (-47), 3) := by decide +kernel
theorem dX5_open_54 : decode cX5_open 54 = .ok (.iload_n 1, 1) := by decide +kernel
theorem dX5_open_55 : decode cX5_open 55 = .ok (.ireturn, 1) := by decide +kernel
set_option maxRecDepth 20000 in
theorem ggX5_isResolved_X1_countKinds : GoodIn wsX5_isResolved wsX1_countKinds := goodIn_r _ [7, 8, 9, 10, 11, 12, 13, 14, 15, 16, 17, 18, 19, 20, 21, 6, 22, 23, 24, 25, 26, 27, 28, 29, 30, 31, 32, 33, 34, 35, 36, 37, 38, 39, 40, 41, 42, 43, 44, 45, 46, 47, 48, 49, 50, 51, 52, 53, 54, 55, 56, 57, 58, 59, 60, 61, 62, 63, 64, 65, 66, 67, 68, 69, 70, 71, 72, 73, 74, 75, 76, 77, 78, 79, 80, 81, 82, 83, 84, 85, 86, 87, 88, 89, 90, 91, 92, 93, 94, 95, 96, 97, 98, 99, 100, 101, 102, 103, 104, 105, 106, 107, 108, 109, 110, 123, 124, 125, 126, 127, 128, 129, 130, 131, 132, 133, 134, 135, 136, 137, 138, 139, 140, 141, 142] (by decide +kernel) (by decide +kernel)
set_option maxRecDepth 20000 in
theorem gX5_isResolved_X1_countKinds : GoodIn wsX5_isResolved (wsV RX5 155 RX1 yX1_countKinds wsX1_countKinds) := goodIn_app (goodIn_of _ (by decide +kernel)) ggX5_isResolved_X1_countKinds
theorem dX5_isResolved_0 : decode cX5_isResolved 0 = .ok (.aload_n 0, 1) := by decide +kernel
theorem dX5_isResolved_1 : decode cX5_isResolved 1 = .ok (.getfield 61, 3) := by decide +kernel
theorem dX5_isResolved_4 : decode cX5_isResolved 4 = .ok (.aload_n 0, 1) := by decide +kernel
theorem dX5_isResolved_5 : decode cX5_isResolved 5 = .ok (.getfield 12, 3) := by decide +kernel
theorem dX5_isResolved_8 : decode cX5_isResolved 8 = .ok (.iconst 1, 1) := by decide +kernel
theorem dX5_isResolved_9 : decode cX5_isResolved 9 = .ok (.iconst 2, 1) := by decide +kernel
theorem dX5_isResolved_10 : decode cX5_isResolved 10 = .ok (.invokevirtual 155, 3) := by decide +kernel
theorem dX5_isResolved_13 : decode cX5_isResolved 13 = .ok (.iconst 2, 1) := by decide +kernel
theorem dX5_isResolved_14 : decode cX5_isResolved 14 = .ok (.if_icmp .ge 7, 3) := by decide +kernel
theorem dX5_isResolved_17 : decode cX5_isResolved 17 = .ok (.iconst 1, 1) := by decide +kernel
theorem dX5_isResolved_18 : decode cX5_isResolved 18 = .ok (.goto 4, 3) := by decide +kernel
theorem dX5_isResolved_21 : decode cX5_isResolved 21 = .ok (.iconst 0, 1) := by decide +kernel
theorem dX5_isResolved_22 : decode cX5_isResolved 22 = .ok (.ireturn, 1) := by decide +kernel
set_option maxRecDepth 20000 in
theorem ggX5_resolve_X5_isOpenPair : GoodIn wsX5_resolve wsX5_isOpenPair := goodIn_r _ [7, 1, 8, 9, 10, 11, 12, 13, 14, 6, 15, 16, 17, 18, 19, 20, 21, 22, 23, 24, 25, 26, 27, 28, 29, 30, 31, 32, 33, 34, 35, 36, 37, 38, 39, 40, 41, 42, 43, 44, 45, 46, 47, 48, 49, 50, 51, 52, 53, 54, 55, 56, 57, 58, 59, 60, 61, 62, 63, 64, 65, 71, 72, 73, 74, 75, 76, 77, 78, 79, 80, 81, 82, 83, 84, 85, 86, 87, 88, 89, 90, 91, 92, 93, 94, 95, 96, 97, 98] (by decide +kernel) (by decide +kernel)
set_option maxRecDepth 20000 in
theorem gX5_resolve_X5_isOpenPair : GoodIn wsX5_resolve (wsV RX5 201 RX5 yX5_isOpenPair wsX5_isOpenPair) := goodIn_app (goodIn_of _ (by decide +kernel)) ggX5_resolve_X5_isOpenPair
set_option maxRecDepth 20000 in
theorem ggX5_resolve_X2_prefer : GoodIn wsX5_resolve wsX2_prefer := goodIn_r _ [69, 20, 70, 17, 18, 11, 19, 14, 6, 15, 83, 84, 85, 86, 87, 88, 89] (by decide +kernel) (by decide +kernel)
set_option maxRecDepth 20000 in
theorem gX5_resolve_X2_prefer : GoodIn wsX5_resolve (wsV RX5 177 RX2 yX2_prefer wsX2_prefer) := goodIn_app (goodIn_of _ (by decide +kernel)) ggX5_resolve_X2_prefer
theorem dX5_resolve_0 : decode cX5_resolve 0 = .ok (.iconst 0, 1) := by decide +kernel
theorem dX5_resolve_1 : decode cX5_resolve 1 = .ok (.istore_n 1, 1) := by decide +kernel
theorem dX5_resolve_2 : decode cX5_resolve 2 = .ok (.iconst 0, 1) := by decide +kernel
theorem dX5_resolve_3 : decode cX5_resolve 3 = .ok (.istore_n 2, 1) := by decide +kernel
theorem dX5_resolve_4 : decode cX5_resolve 4 = .ok (.iload_n 2, 1) := by decide +kernel
theorem dX5_resolve_5 : decode cX5_resolve 5 = .ok (.aload_n 0, 1) := by decide +kernel
theorem dX5_resolve_6 : decode cX5_resolve 6 = .ok (.getfield 12, 3) := by decide +kernel
theorem dX5_resolve_9 : decode cX5_resolve 9 = .ok (.getfield 99, 3) := by decide +kernel
theorem dX5_resolve_12 : decode cX5_resolve 12 = .ok (.if_icmp .ge 51, 3) := by decide +kernel
theorem dX5_resolve_15 : decode cX5_resolve 15 = .ok (.iload_n 2, 1) := by decide +kernel
theorem dX5_resolve_16 : decode cX5_resolve 16 = .ok (.iconst 1, 1) := by decide +kernel
theorem dX5_resolve_17 : decode cX5_resolve 17 = .ok (.iadd, 1) := by decide +kernel
theorem dX5_resolve_18 : decode cX5_resolve 18 = .ok (.istore_n 3, 1) := by decide +kernel
theorem dX5_resolve_19 : decode cX5_resolve 19 = .ok (.iload_n 3, 1) := by decide +kernel
theorem dX5_resolve_20 : decode cX5_resolve 20 = .ok (.aload_n 0, 1) := by decide +kernel
theorem dX5_resolve_21 : decode cX5_resolve 21 = .ok (.getfield 12, 3) := by decide +kernel
theorem dX5_resolve_24 : decode cX5_resolve 24 = .ok (.getfield 99, 3) := by decide +kernel
theorem dX5_resolve_27 : decode cX5_resolve 27 = .ok (.if_icmp .ge 30, 3) := by decide +kernel
theorem dX5_resolve_30 : decode cX5_resolve 30 = .ok (.aload_n 0, 1) := by decide +kernel
theorem dX5_resolve_31 : decode cX5_resolve 31 = .ok (.iload_n 2, 1) := by decide +kernel
theorem dX5_resolve_32 : decode cX5_resolve 32 = .ok (.iload_n 3, 1) := by decide +kernel
theorem dX5_resolve_33 : decode cX5_resolve 33 = .ok (.invokevirtual 201, 3) := by decide +kernel
theorem dX5_resolve_36 : decode cX5_resolve 36 = .ok (.ifCond .eq 15, 3) := by decide +kernel
theorem dX5_resolve_39 : decode cX5_resolve 39 = .ok (.aload_n 0, 1) := by decide +kernel
theorem dX5_resolve_40 : decode cX5_resolve 40 = .ok (.getfield 12, 3) := by decide +kernel
theorem dX5_resolve_43 : decode cX5_resolve 43 = .ok (.iload_n 2, 1) := by decide +kernel
theorem dX5_resolve_44 : decode cX5_resolve 44 = .ok (.iload_n 3, 1) := by decide +kernel
theorem dX5_resolve_45 : decode cX5_resolve 45 = .ok (.invokevirtual 177, 3) := by decide +kernel
theorem dX5_resolve_48 : decode cX5_resolve 48 = .ok (.iinc 1 1, 3) := by decide +kernel
theorem dX5_resolve_51 : decode cX5_resolve 51 = .ok (.iinc 3 1, 3) := by decide +kernel
theorem dX5_resolve_54 : decode cX5_resolve 54 = .ok (.goto (-35), 3) := by decide +kernel
theorem dX5_resolve_57 : decode cX5_resolve 57 = .ok (.iinc 2 1, 3) := by decide +kernel
theorem dX5_resolve_60 : decode cX5_resolve 60 = .ok (.goto (-56), 3) := by decide +kernel
theorem dX5_resolve_63 : decode cX5_resolve 63 = .ok (.iload_n 1, 1) := by decide +kernel
theorem dX5_resolve_64 : decode cX5_resolve 64 = .ok (.ireturn, 1) := by decide +kernel
theorem dX5_countOrdersOf_0 : decode cX5_countOrdersOf 0 = .ok (.iconst 0, 1) := by decide +kernel
theorem dX5_countOrdersOf_1 : decode cX5_countOrdersOf 1 = .ok (.istore_n 2, 1) := by decide +kernel
theorem dX5_countOrdersOf_2 : decode cX5_countOrdersOf 2 = .ok (.iconst 0, 1) := by decide +kernel
theorem dX5_countOrdersOf_3 : decode cX5_countOrdersOf 3 = .ok (.istore_n 3, 1) := by decide +kernel
theorem dX5_countOrdersOf_4 : decode cX5_countOrdersOf 4 = .ok (.iload_n 3, 1) := by decide +kernel
theorem dX5_countOrdersOf_5 : decode cX5_countOrdersOf 5 = .ok (.aload_n 0, 1) := by decide +kernel
theorem dX5_countOrdersOf_6 : decode cX5_countOrdersOf 6 = .ok (.getfield 12, 3) := by decide +kernel
theorem dX5_countOrdersOf_9 : decode cX5_countOrdersOf 9 = .ok (.getfield 99, 3) := by decide +kernel
theorem dX5_countOrdersOf_12 : decode cX5_countOrdersOf 12 = .ok (.if_icmp .ge 59, 3) := by decide +kernel
theorem dX5_countOrdersOf_15 : decode cX5_countOrdersOf 15 = .ok (.iload_n 1, 1) := by decide +kernel
theorem dX5_countOrdersOf_16 : decode cX5_countOrdersOf 16 = .ok (.iconst 1, 1) := by decide +kernel
theorem dX5_countOrdersOf_17 : decode cX5_countOrdersOf 17 = .ok (.iload_n 3, 1) := by decide +kernel
theorem dX5_countOrdersOf_18 : decode cX5_countOrdersOf 18 = .ok (.ishl, 1) := by decide +kernel
theorem dX5_countOrdersOf_19 : decode cX5_countOrdersOf 19 = .ok (.iconst (-1), 1) := by decide +kernel
theorem dX5_countOrdersOf_20 : decode cX5_countOrdersOf 20 = .ok (.ixor, 1) := by decide +kernel
theorem dX5_countOrdersOf_21 : decode cX5_countOrdersOf 21 = .ok (.iand, 1) := by decide +kernel
theorem dX5_countOrdersOf_22 : decode cX5_countOrdersOf 22 = .ok (.istore 4, 2) := by decide +kernel
theorem dX5_countOrdersOf_24 : decode cX5_countOrdersOf 24 = .ok (.iload 4, 2) := by decide +kernel
theorem dX5_countOrdersOf_26 : decode cX5_countOrdersOf 26 = .ok (.iload_n 1, 1) := by decide +kernel
theorem dX5_countOrdersOf_27 : decode cX5_countOrdersOf 27 = .ok (.if_icmp .eq 38, 3) := by decide +kernel
theorem dX5_countOrdersOf_30 : decode cX5_countOrdersOf 30 = .ok (.aload_n 0, 1) := by decide +kernel
theorem dX5_countOrdersOf_31 : decode cX5_countOrdersOf 31 = .ok (.getfield 12, 3) := by decide +kernel
theorem dX5_countOrdersOf_34 : decode cX5_countOrdersOf 34 = .ok (.getfield 183, 3) := by decide +kernel
theorem dX5_countOrdersOf_37 : decode cX5_countOrdersOf 37 = .ok (.iload_n 3, 1) := by decide +kernel
theorem dX5_countOrdersOf_38 : decode cX5_countOrdersOf 38 = .ok (.iaload, 1) := by decide +kernel
theorem dX5_countOrdersOf_39 : decode cX5_countOrdersOf 39 = .ok (.aload_n 0, 1) := by decide +kernel
theorem dX5_countOrdersOf_40 : decode cX5_countOrdersOf 40 = .ok (.getfield 12, 3) := by decide +kernel
theorem dX5_countOrdersOf_43 : decode cX5_countOrdersOf 43 = .ok (.getfield 192, 3) := by decide +kernel
theorem dX5_countOrdersOf_46 : decode cX5_countOrdersOf 46 = .ok (.iand, 1) := by decide +kernel
theorem dX5_countOrdersOf_47 : decode cX5_countOrdersOf 47 = .ok (.iload 4, 2) := by decide +kernel
theorem dX5_countOrdersOf_49 : decode cX5_countOrdersOf 49 = .ok (.iconst (-1), 1) := by decide +kernel
theorem dX5_countOrdersOf_50 : decode cX5_countOrdersOf 50 = .ok (.ixor, 1) := by decide +kernel
theorem dX5_countOrdersOf_51 : decode cX5_countOrdersOf 51 = .ok (.iand, 1) := by decide +kernel
theorem dX5_countOrdersOf_52 : decode cX5_countOrdersOf 52 = .ok (.ifCond .ne 13, 3) := by decide +kernel
theorem dX5_countOrdersOf_55 : decode cX5_countOrdersOf 55 = .ok (.iload_n 2, 1) := by decide +kernel
theorem dX5_countOrdersOf_56 : decode cX5_countOrdersOf 56 = .ok (.aload_n 0, 1) := by decide +kernel
theorem dX5_countOrdersOf_57 : decode cX5_countOrdersOf 57 = .ok (.getfield 48, 3) := by decide +kernel
theorem dX5_countOrdersOf_60 : decode cX5_countOrdersOf 60 = .ok (.iload 4, 2) := by decide +kernel
theorem dX5_countOrdersOf_62 : decode cX5_countOrdersOf 62 = .ok (.iaload, 1) := by decide +kernel
theorem dX5_countOrdersOf_63 : decode cX5_countOrdersOf 63 = .ok (.iadd, 1) := by decide +kernel
theorem dX5_countOrdersOf_64 : decode cX5_countOrdersOf 64 = .ok (.istore_n 2, 1) := by decide +kernel
theorem dX5_countOrdersOf_65 : decode cX5_countOrdersOf 65 = .ok (.iinc 3 1, 3) := by decide +kernel
theorem dX5_countOrdersOf_68 : decode cX5_countOrdersOf 68 = .ok (.goto (-64), 3) := by decide +kernel
theorem dX5_countOrdersOf_71 : decode cX5_countOrdersOf 71 = .ok (.iload_n 2, 1) := by decide +kernel
theorem dX5_countOrdersOf_72 : decode cX5_countOrdersOf 72 = .ok (.ireturn, 1) := by decide +kernel
set_option maxRecDepth 20000 in
theorem ggX5_isOpenPair_X2_isOn : GoodIn wsX5_isOpenPair wsX2_isOn := goodIn_r _ [6, 7, 8, 9, 10, 73, 74, 75, 76, 77, 78, 79] (by decide +kernel) (by decide +kernel)
set_option maxRecDepth 20000 in
theorem gX5_isOpenPair_X2_isOn : GoodIn wsX5_isOpenPair (wsV RX5 117 RX2 yX2_isOn wsX2_isOn) := goodIn_app (goodIn_of _ (by decide +kernel)) ggX5_isOpenPair_X2_isOn
set_option maxRecDepth 20000 in
theorem ggX5_isOpenPair_X2_stands : GoodIn wsX5_isOpenPair wsX2_stands := goodIn_r _ [14, 15, 8, 9, 10, 73, 74, 75, 76, 77, 78, 79] (by decide +kernel) (by decide +kernel)
set_option maxRecDepth 20000 in
theorem gX5_isOpenPair_X2_stands : GoodIn wsX5_isOpenPair (wsV RX5 174 RX2 yX2_stands wsX2_stands) := goodIn_app (goodIn_of _ (by decide +kernel)) ggX5_isOpenPair_X2_stands
set_option maxRecDepth 20000 in
theorem ggX5_isOpenPair_X5_findWitness : GoodIn wsX5_isOpenPair wsX5_findWitness := goodIn_r _ [19, 1, 20, 21, 22, 23, 24, 25, 26, 27, 28, 9, 29, 30, 31, 32, 33, 34, 35, 36, 37, 38, 39, 40, 41, 42, 43, 44, 45, 46, 47, 48, 49, 50, 51, 52, 53, 54, 55, 56, 57, 58, 59, 60, 61, 62, 63, 64, 65, 66, 67, 68, 69, 70, 71, 72, 73, 74, 75, 76, 77, 78, 79, 80, 81, 82, 83, 84, 85, 86, 87, 88] (by decide +kernel) (by decide +kernel)
set_option maxRecDepth 20000 in
theorem gX5_isOpenPair_X5_findWitness : GoodIn wsX5_isOpenPair (wsV RX5 149 RX5 yX5_findWitness wsX5_findWitness) := goodIn_app (goodIn_of _ (by decide +kernel)) ggX5_isOpenPair_X5_findWitness
theorem dX5_isOpenPair_0 : decode cX5_isOpenPair 0 = .ok (.aload_n 0, 1) := by decide +kernel
theorem dX5_isOpenPair_1 : decode cX5_isOpenPair 1 = .ok (.getfield 12, 3) := by decide +kernel
theorem dX5_isOpenPair_4 : decode cX5_isOpenPair 4 = .ok (.iload_n 1, 1) := by decide +kernel
theorem dX5_isOpenPair_5 : decode cX5_isOpenPair 5 = .ok (.invokevirtual 117, 3) := by decide +kernel
theorem dX5_isOpenPair_8 : decode cX5_isOpenPair 8 = .ok (.ifCond .eq 51, 3) := by decide +kernel
theorem dX5_isOpenPair_11 : decode cX5_isOpenPair 11 = .ok (.aload_n 0, 1) := by decide +kernel
theorem dX5_isOpenPair_12 : decode cX5_isOpenPair 12 = .ok (.getfield 12, 3) := by decide +kernel
theorem dX5_isOpenPair_15 : decode cX5_isOpenPair 15 = .ok (.iload_n 2, 1) := by decide +kernel
theorem dX5_isOpenPair_16 : decode cX5_isOpenPair 16 = .ok (.invokevirtual 117, 3) := by decide +kernel
theorem dX5_isOpenPair_19 : decode cX5_isOpenPair 19 = .ok (.ifCond .eq 40, 3) := by decide +kernel
theorem dX5_isOpenPair_22 : decode cX5_isOpenPair 22 = .ok (.aload_n 0, 1) := by decide +kernel
theorem dX5_isOpenPair_23 : decode cX5_isOpenPair 23 = .ok (.getfield 12, 3) := by decide +kernel
theorem dX5_isOpenPair_26 : decode cX5_isOpenPair 26 = .ok (.iload_n 1, 1) := by decide +kernel
theorem dX5_isOpenPair_27 : decode cX5_isOpenPair 27 = .ok (.iload_n 2, 1) := by decide +kernel
theorem dX5_isOpenPair_28 : decode cX5_isOpenPair 28 = .ok (.invokevirtual 174, 3) := by decide +kernel
theorem dX5_isOpenPair_31 : decode cX5_isOpenPair 31 = .ok (.ifCond .ne 28, 3) := by decide +kernel
theorem dX5_isOpenPair_34 : decode cX5_isOpenPair 34 = .ok (.aload_n 0, 1) := by decide +kernel
theorem dX5_isOpenPair_35 : decode cX5_isOpenPair 35 = .ok (.getfield 12, 3) := by decide +kernel
theorem dX5_isOpenPair_38 : decode cX5_isOpenPair 38 = .ok (.iload_n 2, 1) := by decide +kernel
theorem dX5_isOpenPair_39 : decode cX5_isOpenPair 39 = .ok (.iload_n 1, 1) := by decide +kernel
theorem dX5_isOpenPair_40 : decode cX5_isOpenPair 40 = .ok (.invokevirtual 174, 3) := by decide +kernel
theorem dX5_isOpenPair_43 : decode cX5_isOpenPair 43 = .ok (.ifCond .ne 16, 3) := by decide +kernel
theorem dX5_isOpenPair_46 : decode cX5_isOpenPair 46 = .ok (.aload_n 0, 1) := by decide +kernel
theorem dX5_isOpenPair_47 : decode cX5_isOpenPair 47 = .ok (.iload_n 1, 1) := by decide +kernel
theorem dX5_isOpenPair_48 : decode cX5_isOpenPair 48 = .ok (.iload_n 2, 1) := by decide +kernel
theorem dX5_isOpenPair_49 : decode cX5_isOpenPair 49 = .ok (.invokevirtual 149, 3) := by decide +kernel
theorem dX5_isOpenPair_52 : decode cX5_isOpenPair 52 = .ok (.ifCond .eq 7, 3) := by decide +kernel
theorem dX5_isOpenPair_55 : decode cX5_isOpenPair 55 = .ok (.iconst 1, 1) := by decide +kernel
theorem dX5_isOpenPair_56 : decode cX5_isOpenPair 56 = .ok (.goto 4, 3) := by decide +kernel
theorem dX5_isOpenPair_59 : decode cX5_isOpenPair 59 = .ok (.iconst 0, 1) := by decide +kernel
theorem dX5_isOpenPair_60 : decode cX5_isOpenPair 60 = .ok (.ireturn, 1) := by decide +kernel
set_option maxRecDepth 20000 in
theorem ggX5_findResolvedOrder_X5_lowestReady : GoodIn wsX5_findResolvedOrder wsX5_lowestReady := goodIn_r _ [8, 1, 9, 10, 11, 7, 12, 13, 14, 15, 16, 17, 18, 19, 20, 21, 22, 23, 24, 25, 26, 27, 28, 29, 30, 31] (by decide +kernel) (by decide +kernel)
set_option maxRecDepth 20000 in
theorem gX5_findResolvedOrder_X5_lowestReady : GoodIn wsX5_findResolvedOrder (wsV RX5 204 RX5 yX5_lowestReady wsX5_lowestReady) := goodIn_app (goodIn_of _ (by decide +kernel)) ggX5_findResolvedOrder_X5_lowestReady
theorem dX5_findResolvedOrder_0 : decode cX5_findResolvedOrder 0 = .ok (.aload_n 0, 1) := by decide +kernel
theorem dX5_findResolvedOrder_1 : decode cX5_findResolvedOrder 1 = .ok (.getfield 12, 3) := by decide +kernel
theorem dX5_findResolvedOrder_4 : decode cX5_findResolvedOrder 4 = .ok (.getfield 192, 3) := by decide +kernel
theorem dX5_findResolvedOrder_7 : decode cX5_findResolvedOrder 7 = .ok (.istore_n 1, 1) := by decide +kernel
theorem dX5_findResolvedOrder_8 : decode cX5_findResolvedOrder 8 = .ok (.iconst 0, 1) := by decide +kernel
theorem dX5_findResolvedOrder_9 : decode cX5_findResolvedOrder 9 = .ok (.istore_n 2, 1) := by decide +kernel
theorem dX5_findResolvedOrder_10 : decode cX5_findResolvedOrder 10 = .ok (.iconst 0, 1) := by decide +kernel
theorem dX5_findResolvedOrder_11 : decode cX5_findResolvedOrder 11 = .ok (.istore_n 3, 1) := by decide +kernel
theorem dX5_findResolvedOrder_12 : decode cX5_findResolvedOrder 12 = .ok (.iload_n 3, 1) := by decide +kernel
theorem dX5_findResolvedOrder_13 : decode cX5_findResolvedOrder 13 = .ok (.bipush 6, 2) := by decide +kernel
theorem dX5_findResolvedOrder_15 : decode cX5_findResolvedOrder 15 = .ok (.if_icmp .ge 40, 3) := by decide +kernel
theorem dX5_findResolvedOrder_18 : decode cX5_findResolvedOrder 18 = .ok (.iload_n 1, 1) := by decide +kernel
theorem dX5_findResolvedOrder_19 : decode cX5_findResolvedOrder 19 = .ok (.ifCond .eq 36, 3) := by decide +kernel
theorem dX5_findResolvedOrder_22 : decode cX5_findResolvedOrder 22 = .ok (.aload_n 0, 1) := by decide +kernel
theorem dX5_findResolvedOrder_23 : decode cX5_findResolvedOrder 23 = .ok (.iload_n 1, 1) := by decide +kernel
theorem dX5_findResolvedOrder_24 : decode cX5_findResolvedOrder 24 = .ok (.invokevirtual 204, 3) := by decide +kernel
theorem dX5_findResolvedOrder_27 : decode cX5_findResolvedOrder 27 = .ok (.istore 4, 2) := by decide +kernel
theorem dX5_findResolvedOrder_29 : decode cX5_findResolvedOrder 29 = .ok (.aload_n 0, 1) := by decide +kernel
theorem dX5_findResolvedOrder_30 : decode cX5_findResolvedOrder 30 = .ok (.getfield 45, 3) := by decide +kernel
theorem dX5_findResolvedOrder_33 : decode cX5_findResolvedOrder 33 = .ok (.iload_n 3, 1) := by decide +kernel
theorem dX5_findResolvedOrder_34 : decode cX5_findResolvedOrder 34 = .ok (.iload 4, 2) := by decide +kernel
theorem dX5_findResolvedOrder_36 : decode cX5_findResolvedOrder 36 = .ok (.iastore, 1) := by decide +kernel
theorem dX5_findResolvedOrder_37 : decode cX5_findResolvedOrder 37 = .ok (.iload_n 1, 1) := by decide +kernel
theorem dX5_findResolvedOrder_38 : decode cX5_findResolvedOrder 38 = .ok (.iconst 1, 1) := by decide +kernel
theorem dX5_findResolvedOrder_39 : decode cX5_findResolvedOrder 39 = .ok (.iload 4, 2) := by decide +kernel
theorem dX5_findResolvedOrder_41 : decode cX5_findResolvedOrder 41 = .ok (.ishl, 1) := by decide +kernel
theorem dX5_findResolvedOrder_42 : decode cX5_findResolvedOrder 42 = .ok (.iconst (-1), 1) := by decide +kernel
theorem dX5_findResolvedOrder_43 : decode cX5_findResolvedOrder 43 = .ok (.ixor, 1) := by decide +kernel
theorem dX5_findResolvedOrder_44 : decode cX5_findResolvedOrder 44 = .ok (.iand, 1) := by decide +kernel
theorem dX5_findResolvedOrder_45 : decode cX5_findResolvedOrder 45 = .ok (.istore_n 1, 1) := by decide +kernel
theorem dX5_findResolvedOrder_46 : decode cX5_findResolvedOrder 46 = .ok (.iinc 2 1, 3) := by decide +kernel
theorem dX5_findResolvedOrder_49 : decode cX5_findResolvedOrder 49 = .ok (.iinc 3 1, 3) := by decide +kernel
theorem dX5_findResolvedOrder_52 : decode cX5_findResolvedOrder 52 = .ok (.goto (-40), 3) := by decide +kernel
theorem dX5_findResolvedOrder_55 : decode cX5_findResolvedOrder 55 = .ok (.iload_n 2, 1) := by decide +kernel
theorem dX5_findResolvedOrder_56 : decode cX5_findResolvedOrder 56 = .ok (.ireturn, 1) := by decide +kernel
set_option maxRecDepth 20000 in
theorem ggX5_lowestReady_X5_hasBit : GoodIn wsX5_lowestReady wsX5_hasBit := goodIn_r _ [6] (by decide +kernel) (by decide +kernel)
set_option maxRecDepth 20000 in
theorem gX5_lowestReady_X5_hasBit : GoodIn wsX5_lowestReady (va_wsS RX5 163 yX5_hasBit wsX5_hasBit) := goodIn_app (goodIn_of _ (by decide +kernel)) ggX5_lowestReady_X5_hasBit
theorem dX5_lowestReady_0 : decode cX5_lowestReady 0 = .ok (.iconst 0, 1) := by decide +kernel
theorem dX5_lowestReady_1 : decode cX5_lowestReady 1 = .ok (.istore_n 2, 1) := by decide +kernel
theorem dX5_lowestReady_2 : decode cX5_lowestReady 2 = .ok (.iload_n 2, 1) := by decide +kernel
theorem dX5_lowestReady_3 : decode cX5_lowestReady 3 = .ok (.bipush 6, 2) := by decide +kernel
theorem dX5_lowestReady_5 : decode cX5_lowestReady 5 = .ok (.if_icmp .ge 33, 3) := by decide +kernel
theorem dX5_lowestReady_8 : decode cX5_lowestReady 8 = .ok (.iload_n 1, 1) := by decide +kernel
theorem dX5_lowestReady_9 : decode cX5_lowestReady 9 = .ok (.iload_n 2, 1) := by decide +kernel
theorem dX5_lowestReady_10 : decode cX5_lowestReady 10 = .ok (.invokestatic 163, 3) := by decide +kernel
theorem dX5_lowestReady_13 : decode cX5_lowestReady 13 = .ok (.ifCond .eq 19, 3) := by decide +kernel
theorem dX5_lowestReady_16 : decode cX5_lowestReady 16 = .ok (.aload_n 0, 1) := by decide +kernel
theorem dX5_lowestReady_17 : decode cX5_lowestReady 17 = .ok (.getfield 12, 3) := by decide +kernel
theorem dX5_lowestReady_20 : decode cX5_lowestReady 20 = .ok (.getfield 183, 3) := by decide +kernel
theorem dX5_lowestReady_23 : decode cX5_lowestReady 23 = .ok (.iload_n 2, 1) := by decide +kernel
theorem dX5_lowestReady_24 : decode cX5_lowestReady 24 = .ok (.iaload, 1) := by decide +kernel
theorem dX5_lowestReady_25 : decode cX5_lowestReady 25 = .ok (.iload_n 1, 1) := by decide +kernel
theorem dX5_lowestReady_26 : decode cX5_lowestReady 26 = .ok (.iand, 1) := by decide +kernel
theorem dX5_lowestReady_27 : decode cX5_lowestReady 27 = .ok (.ifCond .ne 5, 3) := by decide +kernel
theorem dX5_lowestReady_30 : decode cX5_lowestReady 30 = .ok (.iload_n 2, 1) := by decide +kernel
theorem dX5_lowestReady_31 : decode cX5_lowestReady 31 = .ok (.ireturn, 1) := by decide +kernel
theorem dX5_lowestReady_32 : decode cX5_lowestReady 32 = .ok (.iinc 2 1, 3) := by decide +kernel
theorem dX5_lowestReady_35 : decode cX5_lowestReady 35 = .ok (.goto (-33), 3) := by decide +kernel
theorem dX5_lowestReady_38 : decode cX5_lowestReady 38 = .ok (.iconst 0, 1) := by decide +kernel
theorem dX5_lowestReady_39 : decode cX5_lowestReady 39 = .ok (.ireturn, 1) := by decide +kernel
set_option maxRecDepth 20000 in
theorem ggX5_buildResolvedMachine_X5_copyRow : GoodIn wsX5_buildResolvedMachine wsX5_copyRow := goodIn_r _ [8, 9, 10, 11, 12] (by decide +kernel) (by decide +kernel)
set_option maxRecDepth 20000 in
theorem gX5_buildResolvedMachine_X5_copyRow : GoodIn wsX5_buildResolvedMachine (va_wsS RX5 139 yX5_copyRow wsX5_copyRow) := goodIn_app (goodIn_of _ (by decide +kernel)) ggX5_buildResolvedMachine_X5_copyRow
set_option maxRecDepth 20000 in
theorem ggX5_buildResolvedMachine_X5_findResolvedOrder : GoodIn wsX5_buildResolvedMachine wsX5_findResolvedOrder := goodIn_r _ [16, 1, 17, 4, 18, 19, 20, 7, 21, 22, 23, 24, 25, 29, 30, 31, 32, 33, 34, 35, 36, 37, 38, 39, 40, 41, 42, 43, 44, 45, 46, 47] (by decide +kernel) (by decide +kernel)
set_option maxRecDepth 20000 in
theorem gX5_buildResolvedMachine_X5_findResolvedOrder : GoodIn wsX5_buildResolvedMachine (wsV RX5 198 RX5 yX5_findResolvedOrder wsX5_findResolvedOrder) := goodIn_app (goodIn_of _ (by decide +kernel)) ggX5_buildResolvedMachine_X5_findResolvedOrder
set_option maxRecDepth 20000 in
theorem ggX5_buildResolvedMachine_X5_putOn : GoodIn wsX5_buildResolvedMachine wsX5_putOn := goodIn_r _ [28] (by decide +kernel) (by decide +kernel)
set_option maxRecDepth 20000 in
theorem gX5_buildResolvedMachine_X5_putOn : GoodIn wsX5_buildResolvedMachine (va_wsS RX5 135 yX5_putOn wsX5_putOn) := goodIn_app (goodIn_of _ (by decide +kernel)) ggX5_buildResolvedMachine_X5_putOn
theorem dX5_buildResolvedMachine_0 : decode cX5_buildResolvedMachine 0 = .ok (.aload_n 0, 1) := by decide +kernel
theorem dX5_buildResolvedMachine_1 : decode cX5_buildResolvedMachine 1 = .ok (.getfield 12, 3) := by decide +kernel
theorem dX5_buildResolvedMachine_4 : decode cX5_buildResolvedMachine 4 = .ok (.getfield 96, 3) := by decide +kernel
theorem dX5_buildResolvedMachine_7 : decode cX5_buildResolvedMachine 7 = .ok (.aload_n 1, 1) := by decide +kernel
theorem dX5_buildResolvedMachine_8 : decode cX5_buildResolvedMachine 8 = .ok (.invokestatic 139, 3) := by decide +kernel
theorem dX5_buildResolvedMachine_11 : decode cX5_buildResolvedMachine 11 = .ok (.aload_n 0, 1) := by decide +kernel
theorem dX5_buildResolvedMachine_12 : decode cX5_buildResolvedMachine 12 = .ok (.invokevirtual 198, 3) := by decide +kernel
theorem dX5_buildResolvedMachine_15 : decode cX5_buildResolvedMachine 15 = .ok (.istore_n 2, 1) := by decide +kernel
theorem dX5_buildResolvedMachine_16 : decode cX5_buildResolvedMachine 16 = .ok (.iconst 0, 1) := by decide +kernel
theorem dX5_buildResolvedMachine_17 : decode cX5_buildResolvedMachine 17 = .ok (.istore_n 3, 1) := by decide +kernel
theorem dX5_buildResolvedMachine_18 : decode cX5_buildResolvedMachine 18 = .ok (.iload_n 3, 1) := by decide +kernel
theorem dX5_buildResolvedMachine_19 : decode cX5_buildResolvedMachine 19 = .ok (.iload_n 2, 1) := by decide +kernel
theorem dX5_buildResolvedMachine_20 : decode cX5_buildResolvedMachine 20 = .ok (.if_icmp .ge 28, 3) := by decide +kernel
theorem dX5_buildResolvedMachine_23 : decode cX5_buildResolvedMachine 23 = .ok (.aload_n 1, 1) := by decide +kernel
theorem dX5_buildResolvedMachine_24 : decode cX5_buildResolvedMachine 24 = .ok (.aload_n 0, 1) := by decide +kernel
theorem dX5_buildResolvedMachine_25 : decode cX5_buildResolvedMachine 25 = .ok (.getfield 12, 3) := by decide +kernel
theorem dX5_buildResolvedMachine_28 : decode cX5_buildResolvedMachine 28 = .ok (.getfield 109, 3) := by decide +kernel
theorem dX5_buildResolvedMachine_31 : decode cX5_buildResolvedMachine 31 = .ok (.aload_n 0, 1) := by decide +kernel
theorem dX5_buildResolvedMachine_32 : decode cX5_buildResolvedMachine 32 = .ok (.getfield 45, 3) := by decide +kernel
theorem dX5_buildResolvedMachine_35 : decode cX5_buildResolvedMachine 35 = .ok (.iload_n 3, 1) := by decide +kernel
theorem dX5_buildResolvedMachine_36 : decode cX5_buildResolvedMachine 36 = .ok (.iaload, 1) := by decide +kernel
theorem dX5_buildResolvedMachine_37 : decode cX5_buildResolvedMachine 37 = .ok (.aaload, 1) := by decide +kernel
theorem dX5_buildResolvedMachine_38 : decode cX5_buildResolvedMachine 38 = .ok (.aload_n 1, 1) := by decide +kernel
theorem dX5_buildResolvedMachine_39 : decode cX5_buildResolvedMachine 39 = .ok (.invokestatic 135, 3) := by decide +kernel
theorem dX5_buildResolvedMachine_42 : decode cX5_buildResolvedMachine 42 = .ok (.iinc 3 1, 3) := by decide +kernel
theorem dX5_buildResolvedMachine_45 : decode cX5_buildResolvedMachine 45 = .ok (.goto (-27), 3) := by decide +kernel
theorem dX5_buildResolvedMachine_48 : decode cX5_buildResolvedMachine 48 = .ok (.return_, 1) := by decide +kernel
set_option maxRecDepth 20000 in
theorem ggX5_add_X2_hasLetter : GoodIn wsX5_add wsX2_hasLetter := goodIn_r _ [8, 9, 22, 23, 24, 25, 26, 27, 28] (by decide +kernel) (by decide +kernel)
set_option maxRecDepth 20000 in
theorem gX5_add_X2_hasLetter : GoodIn wsX5_add (wsV RX5 207 RX2 yX2_hasLetter wsX2_hasLetter) := goodIn_app (goodIn_of _ (by decide +kernel)) ggX5_add_X2_hasLetter
theorem dX5_add_0 : decode cX5_add 0 = .ok (.aload_n 0, 1) := by decide +kernel
theorem dX5_add_1 : decode cX5_add 1 = .ok (.getfield 12, 3) := by decide +kernel
theorem dX5_add_4 : decode cX5_add 4 = .ok (.iload_n 1, 1) := by decide +kernel
theorem dX5_add_5 : decode cX5_add 5 = .ok (.invokevirtual 207, 3) := by decide +kernel
theorem dX5_add_8 : decode cX5_add 8 = .ok (.ifCond .ne 5, 3) := by decide +kernel
theorem dX5_add_11 : decode cX5_add 11 = .ok (.iconst (-1), 1) := by decide +kernel
theorem dX5_add_12 : decode cX5_add 12 = .ok (.ireturn, 1) := by decide +kernel
theorem dX5_add_13 : decode cX5_add 13 = .ok (.aload_n 0, 1) := by decide +kernel
theorem dX5_add_14 : decode cX5_add 14 = .ok (.getfield 35, 3) := by decide +kernel
theorem dX5_add_17 : decode cX5_add 17 = .ok (.bipush 20, 2) := by decide +kernel
theorem dX5_add_19 : decode cX5_add 19 = .ok (.if_icmp .lt 6, 3) := by decide +kernel
theorem dX5_add_22 : decode cX5_add 22 = .ok (.bipush (-4), 2) := by decide +kernel
theorem dX5_add_24 : decode cX5_add 24 = .ok (.ireturn, 1) := by decide +kernel
theorem dX5_add_25 : decode cX5_add 25 = .ok (.aload_n 0, 1) := by decide +kernel
theorem dX5_add_26 : decode cX5_add 26 = .ok (.getfield 31, 3) := by decide +kernel
theorem dX5_add_29 : decode cX5_add 29 = .ok (.aload_n 0, 1) := by decide +kernel
theorem dX5_add_30 : decode cX5_add 30 = .ok (.getfield 35, 3) := by decide +kernel
theorem dX5_add_33 : decode cX5_add 33 = .ok (.iload_n 1, 1) := by decide +kernel
theorem dX5_add_34 : decode cX5_add 34 = .ok (.iastore, 1) := by decide +kernel
theorem dX5_add_35 : decode cX5_add 35 = .ok (.aload_n 0, 1) := by decide +kernel
theorem dX5_add_36 : decode cX5_add 36 = .ok (.dup, 1) := by decide +kernel
theorem dX5_add_37 : decode cX5_add 37 = .ok (.getfield 35, 3) := by decide +kernel
theorem dX5_add_40 : decode cX5_add 40 = .ok (.iconst 1, 1) := by decide +kernel
theorem dX5_add_41 : decode cX5_add 41 = .ok (.iadd, 1) := by decide +kernel
theorem dX5_add_42 : decode cX5_add 42 = .ok (.putfield 35, 3) := by decide +kernel
theorem dX5_add_45 : decode cX5_add 45 = .ok (.aload_n 0, 1) := by decide +kernel
theorem dX5_add_46 : decode cX5_add 46 = .ok (.getfield 35, 3) := by decide +kernel
theorem dX5_add_49 : decode cX5_add 49 = .ok (.ireturn, 1) := by decide +kernel
theorem dX5_clearWord_0 : decode cX5_clearWord 0 = .ok (.aload_n 0, 1) := by decide +kernel
theorem dX5_clearWord_1 : decode cX5_clearWord 1 = .ok (.getfield 35, 3) := by decide +kernel
theorem dX5_clearWord_4 : decode cX5_clearWord 4 = .ok (.istore_n 1, 1) := by decide +kernel
theorem dX5_clearWord_5 : decode cX5_clearWord 5 = .ok (.aload_n 0, 1) := by decide +kernel
theorem dX5_clearWord_6 : decode cX5_clearWord 6 = .ok (.iconst 0, 1) := by decide +kernel
theorem dX5_clearWord_7 : decode cX5_clearWord 7 = .ok (.putfield 35, 3) := by decide +kernel
theorem dX5_clearWord_10 : decode cX5_clearWord 10 = .ok (.iload_n 1, 1) := by decide +kernel
theorem dX5_clearWord_11 : decode cX5_clearWord 11 = .ok (.ireturn, 1) := by decide +kernel
set_option maxRecDepth 20000 in
theorem ggX5_answer_X2_hasFeature : GoodIn wsX5_answer wsX2_hasFeature := goodIn_r _ [8, 9, 71, 72, 73, 74, 75, 76, 77] (by decide +kernel) (by decide +kernel)
set_option maxRecDepth 20000 in
theorem gX5_answer_X2_hasFeature : GoodIn wsX5_answer (wsV RX5 106 RX2 yX2_hasFeature wsX2_hasFeature) := goodIn_app (goodIn_of _ (by decide +kernel)) ggX5_answer_X2_hasFeature
set_option maxRecDepth 20000 in
theorem ggX5_answer_X5_buildMachine : GoodIn wsX5_answer wsX5_buildMachine := goodIn_r _ [14, 1, 15, 16, 17, 18, 19, 13, 20, 21, 22, 23, 24, 25, 26, 27, 28, 29, 30, 31, 32, 33, 34, 35, 36, 37, 38, 39, 40, 41, 42, 43, 44, 59, 60, 61, 62, 63, 64, 65, 66, 67, 68, 69, 70, 71, 72, 73, 74, 75, 76, 77] (by decide +kernel) (by decide +kernel)
set_option maxRecDepth 20000 in
theorem gX5_answer_X5_buildMachine : GoodIn wsX5_answer (wsV RX5 210 RX5 yX5_buildMachine wsX5_buildMachine) := goodIn_app (goodIn_of _ (by decide +kernel)) ggX5_answer_X5_buildMachine
set_option maxRecDepth 20000 in
theorem ggX5_answer_X5_answerOf : GoodIn wsX5_answer wsX5_answerOf := goodIn_r _ [48, 2, 49, 50, 51, 13, 52, 53, 54, 55, 56, 57, 58, 59, 60, 61, 62, 63, 64, 65, 66, 67, 68, 69, 70] (by decide +kernel) (by decide +kernel)
set_option maxRecDepth 20000 in
theorem gX5_answer_X5_answerOf : GoodIn wsX5_answer (wsV RX5 214 RX5 yX5_answerOf wsX5_answerOf) := goodIn_app (goodIn_of _ (by decide +kernel)) ggX5_answer_X5_answerOf
theorem dX5_answer_0 : decode cX5_answer 0 = .ok (.iload_n 1, 1) := by decide +kernel
theorem dX5_answer_1 : decode cX5_answer 1 = .ok (.iconst (-1), 1) := by decide +kernel
theorem dX5_answer_2 : decode cX5_answer 2 = .ok (.if_icmp .eq 20, 3) := by decide +kernel
theorem dX5_answer_5 : decode cX5_answer 5 = .ok (.iload_n 1, 1) := by decide +kernel
theorem dX5_answer_6 : decode cX5_answer 6 = .ok (.bipush (-2), 2) := by decide +kernel
theorem dX5_answer_8 : decode cX5_answer 8 = .ok (.if_icmp .eq 14, 3) := by decide +kernel
theorem dX5_answer_11 : decode cX5_answer 11 = .ok (.aload_n 0, 1) := by decide +kernel
theorem dX5_answer_12 : decode cX5_answer 12 = .ok (.getfield 12, 3) := by decide +kernel
theorem dX5_answer_15 : decode cX5_answer 15 = .ok (.iload_n 1, 1) := by decide +kernel
theorem dX5_answer_16 : decode cX5_answer 16 = .ok (.invokevirtual 106, 3) := by decide +kernel
theorem dX5_answer_19 : decode cX5_answer 19 = .ok (.ifCond .eq 7, 3) := by decide +kernel
theorem dX5_answer_22 : decode cX5_answer 22 = .ok (.iconst 1, 1) := by decide +kernel
theorem dX5_answer_23 : decode cX5_answer 23 = .ok (.goto 4, 3) := by decide +kernel
theorem dX5_answer_26 : decode cX5_answer 26 = .ok (.iconst 0, 1) := by decide +kernel
theorem dX5_answer_27 : decode cX5_answer 27 = .ok (.istore_n 3, 1) := by decide +kernel
theorem dX5_answer_28 : decode cX5_answer 28 = .ok (.iload_n 3, 1) := by decide +kernel
theorem dX5_answer_29 : decode cX5_answer 29 = .ok (.ifCond .eq 7, 3) := by decide +kernel
theorem dX5_answer_32 : decode cX5_answer 32 = .ok (.iload_n 2, 1) := by decide +kernel
theorem dX5_answer_33 : decode cX5_answer 33 = .ok (.ifCond .ge 5, 3) := by decide +kernel
theorem dX5_answer_36 : decode cX5_answer 36 = .ok (.iconst (-1), 1) := by decide +kernel
theorem dX5_answer_37 : decode cX5_answer 37 = .ok (.ireturn, 1) := by decide +kernel
theorem dX5_answer_38 : decode cX5_answer 38 = .ok (.iload_n 2, 1) := by decide +kernel
theorem dX5_answer_39 : decode cX5_answer 39 = .ok (.aload_n 0, 1) := by decide +kernel
theorem dX5_answer_40 : decode cX5_answer 40 = .ok (.getfield 35, 3) := by decide +kernel
theorem dX5_answer_43 : decode cX5_answer 43 = .ok (.if_icmp .lt 6, 3) := by decide +kernel
theorem dX5_answer_46 : decode cX5_answer 46 = .ok (.bipush (-5), 2) := by decide +kernel
theorem dX5_answer_48 : decode cX5_answer 48 = .ok (.ireturn, 1) := by decide +kernel
theorem dX5_answer_49 : decode cX5_answer 49 = .ok (.aload_n 0, 1) := by decide +kernel
theorem dX5_answer_50 : decode cX5_answer 50 = .ok (.iload_n 1, 1) := by decide +kernel
theorem dX5_answer_51 : decode cX5_answer 51 = .ok (.aload_n 0, 1) := by decide +kernel
theorem dX5_answer_52 : decode cX5_answer 52 = .ok (.getfield 39, 3) := by decide +kernel
theorem dX5_answer_55 : decode cX5_answer 55 = .ok (.invokevirtual 210, 3) := by decide +kernel
theorem dX5_answer_58 : decode cX5_answer 58 = .ok (.aload_n 0, 1) := by decide +kernel
theorem dX5_answer_59 : decode cX5_answer 59 = .ok (.aload_n 0, 1) := by decide +kernel
theorem dX5_answer_60 : decode cX5_answer 60 = .ok (.getfield 39, 3) := by decide +kernel
theorem dX5_answer_63 : decode cX5_answer 63 = .ok (.iload_n 2, 1) := by decide +kernel
theorem dX5_answer_64 : decode cX5_answer 64 = .ok (.invokevirtual 214, 3) := by decide +kernel
theorem dX5_answer_67 : decode cX5_answer 67 = .ok (.ireturn, 1) := by decide +kernel
set_option maxRecDepth 20000 in
theorem ggX5_effect_X5_findEffect : GoodIn wsX5_effect wsX5_findEffect := goodIn_r _ [6, 7, 1, 8, 9, 10, 11, 12, 13, 5, 14, 15, 16, 17, 18, 19, 20, 21, 22, 23, 24, 25, 26, 27, 28, 29, 30, 31, 32, 33, 34, 35, 36, 37, 38, 39, 40, 41, 42, 43, 44, 45, 46, 47, 48, 49, 50, 51, 52, 53, 54, 55, 56, 57, 58, 59, 60, 61, 62, 63, 64, 65, 66, 67, 68, 69, 70, 75, 76, 77, 78, 79, 80, 81, 82, 83, 84, 85, 86, 87, 88, 89, 90, 91, 92, 93, 94, 95, 96, 97, 98, 99, 100, 101, 102] (by decide +kernel) (by decide +kernel)
set_option maxRecDepth 20000 in
theorem gX5_effect_X5_findEffect : GoodIn wsX5_effect (wsV RX5 218 RX5 yX5_findEffect wsX5_findEffect) := goodIn_app (goodIn_of _ (by decide +kernel)) ggX5_effect_X5_findEffect
set_option maxRecDepth 20000 in
theorem ggX5_effect_X0_letterAt : GoodIn wsX5_effect wsX0_letterAt := goodIn_r _ [74, 45, 68, 94, 95, 96, 97, 98, 99, 100, 101, 102] (by decide +kernel) (by decide +kernel)
set_option maxRecDepth 20000 in
theorem gX5_effect_X0_letterAt : GoodIn wsX5_effect (wsV RX5 152 RX0 yX0_letterAt wsX0_letterAt) := goodIn_app (goodIn_of _ (by decide +kernel)) ggX5_effect_X0_letterAt
theorem dX5_effect_0 : decode cX5_effect 0 = .ok (.iload_n 1, 1) := by decide +kernel
theorem dX5_effect_1 : decode cX5_effect 1 = .ok (.ifCond .ge 5, 3) := by decide +kernel
theorem dX5_effect_4 : decode cX5_effect 4 = .ok (.iconst (-1), 1) := by decide +kernel
theorem dX5_effect_5 : decode cX5_effect 5 = .ok (.ireturn, 1) := by decide +kernel
theorem dX5_effect_6 : decode cX5_effect 6 = .ok (.aload_n 0, 1) := by decide +kernel
theorem dX5_effect_7 : decode cX5_effect 7 = .ok (.invokevirtual 218, 3) := by decide +kernel
theorem dX5_effect_10 : decode cX5_effect 10 = .ok (.aload_n 0, 1) := by decide +kernel
theorem dX5_effect_11 : decode cX5_effect 11 = .ok (.getfield 54, 3) := by decide +kernel
theorem dX5_effect_14 : decode cX5_effect 14 = .ok (.iload_n 1, 1) := by decide +kernel
theorem dX5_effect_15 : decode cX5_effect 15 = .ok (.invokevirtual 152, 3) := by decide +kernel
theorem dX5_effect_18 : decode cX5_effect 18 = .ok (.ireturn, 1) := by decide +kernel
set_option maxRecDepth 20000 in
theorem ggX5_buildMachine_X5_buildResolvedMachine : GoodIn wsX5_buildMachine wsX5_buildResolvedMachine := goodIn_r _ [8, 1, 2, 3, 9, 10, 11, 7, 12, 13, 14, 15, 16, 17, 18, 19, 20, 21, 22, 23, 24, 25, 26, 27, 28, 29, 30, 31, 32, 33, 34, 35, 36, 37, 38, 39, 40, 41, 42, 43, 44, 45, 46, 47, 48, 49, 50, 51] (by decide +kernel) (by decide +kernel)
set_option maxRecDepth 20000 in
theorem gX5_buildMachine_X5_buildResolvedMachine : GoodIn wsX5_buildMachine (wsV RX5 221 RX5 yX5_buildResolvedMachine wsX5_buildResolvedMachine) := goodIn_app (goodIn_of _ (by decide +kernel)) ggX5_buildMachine_X5_buildResolvedMachine
set_option maxRecDepth 20000 in
theorem ggX5_buildMachine_X5_copyRow : GoodIn wsX5_buildMachine wsX5_copyRow := goodIn_r _ [12, 13, 14, 15, 16] (by decide +kernel) (by decide +kernel)
set_option maxRecDepth 20000 in
theorem gX5_buildMachine_X5_copyRow : GoodIn wsX5_buildMachine (va_wsS RX5 139 yX5_copyRow wsX5_copyRow) := goodIn_app (goodIn_of _ (by decide +kernel)) ggX5_buildMachine_X5_copyRow
set_option maxRecDepth 20000 in
theorem ggX5_buildMachine_X5_putOn : GoodIn wsX5_buildMachine wsX5_putOn := goodIn_r _ [32] (by decide +kernel) (by decide +kernel)
set_option maxRecDepth 20000 in
theorem gX5_buildMachine_X5_putOn : GoodIn wsX5_buildMachine (va_wsS RX5 135 yX5_putOn wsX5_putOn) := goodIn_app (goodIn_of _ (by decide +kernel)) ggX5_buildMachine_X5_putOn
theorem dX5_buildMachine_0 : decode cX5_buildMachine 0 = .ok (.iload_n 1, 1) := by decide +kernel
theorem dX5_buildMachine_1 : decode cX5_buildMachine 1 = .ok (.bipush (-2), 2) := by decide +kernel
theorem dX5_buildMachine_3 : decode cX5_buildMachine 3 = .ok (.if_icmp .ne 11, 3) := by decide +kernel
theorem dX5_buildMachine_6 : decode cX5_buildMachine 6 = .ok (.aload_n 0, 1) := by decide +kernel
theorem dX5_buildMachine_7 : decode cX5_buildMachine 7 = .ok (.aload_n 2, 1) := by decide +kernel
theorem dX5_buildMachine_8 : decode cX5_buildMachine 8 = .ok (.invokevirtual 221, 3) := by decide +kernel
theorem dX5_buildMachine_11 : decode cX5_buildMachine 11 = .ok (.goto 42, 3) := by decide +kernel
theorem dX5_buildMachine_14 : decode cX5_buildMachine 14 = .ok (.iload_n 1, 1) := by decide +kernel
theorem dX5_buildMachine_15 : decode cX5_buildMachine 15 = .ok (.iconst (-1), 1) := by decide +kernel
theorem dX5_buildMachine_16 : decode cX5_buildMachine 16 = .ok (.if_icmp .ne 17, 3) := by decide +kernel
theorem dX5_buildMachine_19 : decode cX5_buildMachine 19 = .ok (.aload_n 0, 1) := by decide +kernel
theorem dX5_buildMachine_20 : decode cX5_buildMachine 20 = .ok (.getfield 12, 3) := by decide +kernel
theorem dX5_buildMachine_23 : decode cX5_buildMachine 23 = .ok (.getfield 96, 3) := by decide +kernel
theorem dX5_buildMachine_26 : decode cX5_buildMachine 26 = .ok (.aload_n 2, 1) := by decide +kernel
theorem dX5_buildMachine_27 : decode cX5_buildMachine 27 = .ok (.invokestatic 139, 3) := by decide +kernel
theorem dX5_buildMachine_30 : decode cX5_buildMachine 30 = .ok (.goto 23, 3) := by decide +kernel
theorem dX5_buildMachine_33 : decode cX5_buildMachine 33 = .ok (.aload_n 0, 1) := by decide +kernel
theorem dX5_buildMachine_34 : decode cX5_buildMachine 34 = .ok (.getfield 12, 3) := by decide +kernel
theorem dX5_buildMachine_37 : decode cX5_buildMachine 37 = .ok (.getfield 96, 3) := by decide +kernel
theorem dX5_buildMachine_40 : decode cX5_buildMachine 40 = .ok (.aload_n 0, 1) := by decide +kernel
theorem dX5_buildMachine_41 : decode cX5_buildMachine 41 = .ok (.getfield 12, 3) := by decide +kernel
theorem dX5_buildMachine_44 : decode cX5_buildMachine 44 = .ok (.getfield 109, 3) := by decide +kernel
theorem dX5_buildMachine_47 : decode cX5_buildMachine 47 = .ok (.iload_n 1, 1) := by decide +kernel
theorem dX5_buildMachine_48 : decode cX5_buildMachine 48 = .ok (.aaload, 1) := by decide +kernel
theorem dX5_buildMachine_49 : decode cX5_buildMachine 49 = .ok (.aload_n 2, 1) := by decide +kernel
theorem dX5_buildMachine_50 : decode cX5_buildMachine 50 = .ok (.invokestatic 135, 3) := by decide +kernel
theorem dX5_buildMachine_53 : decode cX5_buildMachine 53 = .ok (.return_, 1) := by decide +kernel
set_option maxRecDepth 20000 in
theorem ggX5_answerOf_X5_cellOf : GoodIn wsX5_answerOf wsX5_cellOf := goodIn_r _ [6] (by decide +kernel) (by decide +kernel)
set_option maxRecDepth 20000 in
theorem gX5_answerOf_X5_cellOf : GoodIn wsX5_answerOf (va_wsS RX5 86 yX5_cellOf wsX5_cellOf) := goodIn_app (goodIn_of _ (by decide +kernel)) ggX5_answerOf_X5_cellOf
set_option maxRecDepth 20000 in
theorem ggX5_answerOf_X5_targetOf : GoodIn wsX5_answerOf wsX5_targetOf := goodIn_r _ [9] (by decide +kernel) (by decide +kernel)
set_option maxRecDepth 20000 in
theorem gX5_answerOf_X5_targetOf : GoodIn wsX5_answerOf (va_wsS RX5 171 yX5_targetOf wsX5_targetOf) := goodIn_app (goodIn_of _ (by decide +kernel)) ggX5_answerOf_X5_targetOf
set_option maxRecDepth 20000 in
theorem ggX5_answerOf_X5_outputOf : GoodIn wsX5_answerOf wsX5_outputOf := goodIn_r _ [12] (by decide +kernel) (by decide +kernel)
set_option maxRecDepth 20000 in
theorem gX5_answerOf_X5_outputOf : GoodIn wsX5_answerOf (va_wsS RX5 225 yX5_outputOf wsX5_outputOf) := goodIn_app (goodIn_of _ (by decide +kernel)) ggX5_answerOf_X5_outputOf
theorem dX5_answerOf_0 : decode cX5_answerOf 0 = .ok (.iconst 0, 1) := by decide +kernel
theorem dX5_answerOf_1 : decode cX5_answerOf 1 = .ok (.istore_n 3, 1) := by decide +kernel
theorem dX5_answerOf_2 : decode cX5_answerOf 2 = .ok (.bipush 10, 2) := by decide +kernel
theorem dX5_answerOf_4 : decode cX5_answerOf 4 = .ok (.istore 4, 2) := by decide +kernel
theorem dX5_answerOf_6 : decode cX5_answerOf 6 = .ok (.iconst 0, 1) := by decide +kernel
theorem dX5_answerOf_7 : decode cX5_answerOf 7 = .ok (.istore 5, 2) := by decide +kernel
theorem dX5_answerOf_9 : decode cX5_answerOf 9 = .ok (.iload 5, 2) := by decide +kernel
theorem dX5_answerOf_11 : decode cX5_answerOf 11 = .ok (.iload_n 2, 1) := by decide +kernel
theorem dX5_answerOf_12 : decode cX5_answerOf 12 = .ok (.if_icmp .gt 55, 3) := by decide +kernel
theorem dX5_answerOf_15 : decode cX5_answerOf 15 = .ok (.iload 5, 2) := by decide +kernel
theorem dX5_answerOf_17 : decode cX5_answerOf 17 = .ok (.aload_n 0, 1) := by decide +kernel
theorem dX5_answerOf_18 : decode cX5_answerOf 18 = .ok (.getfield 35, 3) := by decide +kernel
theorem dX5_answerOf_21 : decode cX5_answerOf 21 = .ok (.if_icmp .ge 46, 3) := by decide +kernel
theorem dX5_answerOf_24 : decode cX5_answerOf 24 = .ok (.aload_n 1, 1) := by decide +kernel
theorem dX5_answerOf_25 : decode cX5_answerOf 25 = .ok (.iload_n 3, 1) := by decide +kernel
theorem dX5_answerOf_26 : decode cX5_answerOf 26 = .ok (.aload_n 0, 1) := by decide +kernel
theorem dX5_answerOf_27 : decode cX5_answerOf 27 = .ok (.getfield 31, 3) := by decide +kernel
theorem dX5_answerOf_30 : decode cX5_answerOf 30 = .ok (.iload 5, 2) := by decide +kernel
theorem dX5_answerOf_32 : decode cX5_answerOf 32 = .ok (.iaload, 1) := by decide +kernel
theorem dX5_answerOf_33 : decode cX5_answerOf 33 = .ok (.invokestatic 86, 3) := by decide +kernel
theorem dX5_answerOf_36 : decode cX5_answerOf 36 = .ok (.iaload, 1) := by decide +kernel
theorem dX5_answerOf_37 : decode cX5_answerOf 37 = .ok (.istore 6, 2) := by decide +kernel
theorem dX5_answerOf_39 : decode cX5_answerOf 39 = .ok (.iload 6, 2) := by decide +kernel
theorem dX5_answerOf_41 : decode cX5_answerOf 41 = .ok (.iconst (-1), 1) := by decide +kernel
theorem dX5_answerOf_42 : decode cX5_answerOf 42 = .ok (.if_icmp .ne 6, 3) := by decide +kernel
theorem dX5_answerOf_45 : decode cX5_answerOf 45 = .ok (.bipush 10, 2) := by decide +kernel
theorem dX5_answerOf_47 : decode cX5_answerOf 47 = .ok (.ireturn, 1) := by decide +kernel
theorem dX5_answerOf_48 : decode cX5_answerOf 48 = .ok (.iload 6, 2) := by decide +kernel
theorem dX5_answerOf_50 : decode cX5_answerOf 50 = .ok (.invokestatic 171, 3) := by decide +kernel
theorem dX5_answerOf_53 : decode cX5_answerOf 53 = .ok (.istore_n 3, 1) := by decide +kernel
theorem dX5_answerOf_54 : decode cX5_answerOf 54 = .ok (.iload 6, 2) := by decide +kernel
theorem dX5_answerOf_56 : decode cX5_answerOf 56 = .ok (.invokestatic 225, 3) := by decide +kernel
theorem dX5_answerOf_59 : decode cX5_answerOf 59 = .ok (.istore 4, 2) := by decide +kernel
theorem dX5_answerOf_61 : decode cX5_answerOf 61 = .ok (.iinc 5 1, 3) := by decide +kernel
theorem dX5_answerOf_64 : decode cX5_answerOf 64 = .ok (.goto (-55), 3) := by decide +kernel
theorem dX5_answerOf_67 : decode cX5_answerOf 67 = .ok (.iload 4, 2) := by decide +kernel
theorem dX5_answerOf_69 : decode cX5_answerOf 69 = .ok (.ireturn, 1) := by decide +kernel
set_option maxRecDepth 20000 in
theorem ggX5_findEffect_X5_buildResolvedMachine : GoodIn wsX5_findEffect wsX5_buildResolvedMachine := goodIn_r _ [10, 3, 4, 11, 12, 13, 14, 9, 15, 16, 17, 18, 19, 20, 21, 22, 23, 24, 25, 26, 27, 28, 29, 30, 31, 32, 33, 34, 35, 67, 68, 69, 70, 71, 72, 73, 74, 75, 76, 77, 78, 79, 80, 81, 82, 83, 84, 85] (by decide +kernel) (by decide +kernel)
set_option maxRecDepth 20000 in
theorem gX5_findEffect_X5_buildResolvedMachine : GoodIn wsX5_findEffect (wsV RX5 221 RX5 yX5_buildResolvedMachine wsX5_buildResolvedMachine) := goodIn_app (goodIn_of _ (by decide +kernel)) ggX5_findEffect_X5_buildResolvedMachine
set_option maxRecDepth 20000 in
theorem ggX5_findEffect_X0_search : GoodIn wsX5_findEffect wsX0_search := goodIn_r _ [40, 41, 42, 43, 44, 45, 46, 47, 48, 39, 49, 50, 51, 52, 53, 9, 54, 55, 56, 57, 58, 59, 60, 61, 62, 63, 64, 65, 66, 86, 87, 88, 89, 90, 91, 92, 93, 94] (by decide +kernel) (by decide +kernel)
set_option maxRecDepth 20000 in
theorem gX5_findEffect_X0_search : GoodIn wsX5_findEffect (wsV RX5 166 RX0 yX0_search wsX0_search) := goodIn_app (goodIn_of _ (by decide +kernel)) ggX5_findEffect_X0_search
theorem dX5_findEffect_0 : decode cX5_findEffect 0 = .ok (.aload_n 0, 1) := by decide +kernel
theorem dX5_findEffect_1 : decode cX5_findEffect 1 = .ok (.aload_n 0, 1) := by decide +kernel
theorem dX5_findEffect_2 : decode cX5_findEffect 2 = .ok (.getfield 39, 3) := by decide +kernel
theorem dX5_findEffect_5 : decode cX5_findEffect 5 = .ok (.invokevirtual 221, 3) := by decide +kernel
theorem dX5_findEffect_8 : decode cX5_findEffect 8 = .ok (.aload_n 0, 1) := by decide +kernel
theorem dX5_findEffect_9 : decode cX5_findEffect 9 = .ok (.getfield 54, 3) := by decide +kernel
theorem dX5_findEffect_12 : decode cX5_findEffect 12 = .ok (.aload_n 0, 1) := by decide +kernel
theorem dX5_findEffect_13 : decode cX5_findEffect 13 = .ok (.getfield 39, 3) := by decide +kernel
theorem dX5_findEffect_16 : decode cX5_findEffect 16 = .ok (.aload_n 0, 1) := by decide +kernel
theorem dX5_findEffect_17 : decode cX5_findEffect 17 = .ok (.getfield 12, 3) := by decide +kernel
theorem dX5_findEffect_20 : decode cX5_findEffect 20 = .ok (.getfield 96, 3) := by decide +kernel
theorem dX5_findEffect_23 : decode cX5_findEffect 23 = .ok (.aload_n 0, 1) := by decide +kernel
theorem dX5_findEffect_24 : decode cX5_findEffect 24 = .ok (.getfield 12, 3) := by decide +kernel
theorem dX5_findEffect_27 : decode cX5_findEffect 27 = .ok (.getfield 68, 3) := by decide +kernel
theorem dX5_findEffect_30 : decode cX5_findEffect 30 = .ok (.invokevirtual 166, 3) := by decide +kernel
theorem dX5_findEffect_33 : decode cX5_findEffect 33 = .ok (.return_, 1) := by decide +kernel
set_option maxRecDepth 20000 in
theorem ggX5_save_X5_isSlot : GoodIn wsX5_save wsX5_isSlot := goodIn_r _ [8] (by decide +kernel) (by decide +kernel)
set_option maxRecDepth 20000 in
theorem gX5_save_X5_isSlot : GoodIn wsX5_save (va_wsS RX5 228 yX5_isSlot wsX5_isSlot) := goodIn_app (goodIn_of _ (by decide +kernel)) ggX5_save_X5_isSlot
set_option maxRecDepth 20000 in
theorem ggX5_save_X2_copyFrom : GoodIn wsX5_save wsX2_copyFrom := goodIn_r _ [13, 14, 15, 16, 17, 18, 19, 20, 21, 7, 22, 23, 24, 25, 26, 39, 40, 41, 42, 43, 44, 45] (by decide +kernel) (by decide +kernel)
set_option maxRecDepth 20000 in
theorem gX5_save_X2_copyFrom : GoodIn wsX5_save (wsV RX5 231 RX2 yX2_copyFrom wsX2_copyFrom) := goodIn_app (goodIn_of _ (by decide +kernel)) ggX5_save_X2_copyFrom
theorem dX5_save_0 : decode cX5_save 0 = .ok (.iload_n 1, 1) := by decide +kernel
theorem dX5_save_1 : decode cX5_save 1 = .ok (.invokestatic 228, 3) := by decide +kernel
theorem dX5_save_4 : decode cX5_save 4 = .ok (.ifCond .ne 5, 3) := by decide +kernel
theorem dX5_save_7 : decode cX5_save 7 = .ok (.iconst (-1), 1) := by decide +kernel
theorem dX5_save_8 : decode cX5_save 8 = .ok (.ireturn, 1) := by decide +kernel
theorem dX5_save_9 : decode cX5_save 9 = .ok (.aload_n 0, 1) := by decide +kernel
theorem dX5_save_10 : decode cX5_save 10 = .ok (.getfield 16, 3) := by decide +kernel
theorem dX5_save_13 : decode cX5_save 13 = .ok (.iload_n 1, 1) := by decide +kernel
theorem dX5_save_14 : decode cX5_save 14 = .ok (.aaload, 1) := by decide +kernel
theorem dX5_save_15 : decode cX5_save 15 = .ok (.aload_n 0, 1) := by decide +kernel
theorem dX5_save_16 : decode cX5_save 16 = .ok (.getfield 12, 3) := by decide +kernel
theorem dX5_save_19 : decode cX5_save 19 = .ok (.invokevirtual 231, 3) := by decide +kernel
theorem dX5_save_22 : decode cX5_save 22 = .ok (.aload_n 0, 1) := by decide +kernel
theorem dX5_save_23 : decode cX5_save 23 = .ok (.getfield 20, 3) := by decide +kernel
theorem dX5_save_26 : decode cX5_save 26 = .ok (.iload_n 1, 1) := by decide +kernel
theorem dX5_save_27 : decode cX5_save 27 = .ok (.iconst 1, 1) := by decide +kernel
theorem dX5_save_28 : decode cX5_save 28 = .ok (.bastore, 1) := by decide +kernel
theorem dX5_save_29 : decode cX5_save 29 = .ok (.aload_n 0, 1) := by decide +kernel
theorem dX5_save_30 : decode cX5_save 30 = .ok (.getfield 12, 3) := by decide +kernel
theorem dX5_save_33 : decode cX5_save 33 = .ok (.getfield 99, 3) := by decide +kernel
theorem dX5_save_36 : decode cX5_save 36 = .ok (.ireturn, 1) := by decide +kernel
set_option maxRecDepth 20000 in
theorem ggX5_restore_X5_isSlot : GoodIn wsX5_restore wsX5_isSlot := goodIn_r _ [9] (by decide +kernel) (by decide +kernel)
set_option maxRecDepth 20000 in
theorem gX5_restore_X5_isSlot : GoodIn wsX5_restore (va_wsS RX5 228 yX5_isSlot wsX5_isSlot) := goodIn_app (goodIn_of _ (by decide +kernel)) ggX5_restore_X5_isSlot
set_option maxRecDepth 20000 in
theorem ggX5_restore_X2_copyFrom : GoodIn wsX5_restore wsX2_copyFrom := goodIn_r _ [14, 15, 16, 17, 18, 19, 20, 21, 22, 8, 23, 24, 25, 26, 27, 40, 41, 42, 43, 44, 45, 46] (by decide +kernel) (by decide +kernel)
set_option maxRecDepth 20000 in
theorem gX5_restore_X2_copyFrom : GoodIn wsX5_restore (wsV RX5 231 RX2 yX2_copyFrom wsX2_copyFrom) := goodIn_app (goodIn_of _ (by decide +kernel)) ggX5_restore_X2_copyFrom
theorem dX5_restore_0 : decode cX5_restore 0 = .ok (.iload_n 1, 1) := by decide +kernel
theorem dX5_restore_1 : decode cX5_restore 1 = .ok (.invokestatic 228, 3) := by decide +kernel
theorem dX5_restore_4 : decode cX5_restore 4 = .ok (.ifCond .ne 5, 3) := by decide +kernel
theorem dX5_restore_7 : decode cX5_restore 7 = .ok (.iconst (-1), 1) := by decide +kernel
theorem dX5_restore_8 : decode cX5_restore 8 = .ok (.ireturn, 1) := by decide +kernel
theorem dX5_restore_9 : decode cX5_restore 9 = .ok (.aload_n 0, 1) := by decide +kernel
theorem dX5_restore_10 : decode cX5_restore 10 = .ok (.getfield 20, 3) := by decide +kernel
theorem dX5_restore_13 : decode cX5_restore 13 = .ok (.iload_n 1, 1) := by decide +kernel
theorem dX5_restore_14 : decode cX5_restore 14 = .ok (.baload, 1) := by decide +kernel
theorem dX5_restore_15 : decode cX5_restore 15 = .ok (.ifCond .ne 6, 3) := by decide +kernel
theorem dX5_restore_18 : decode cX5_restore 18 = .ok (.bipush (-3), 2) := by decide +kernel
theorem dX5_restore_20 : decode cX5_restore 20 = .ok (.ireturn, 1) := by decide +kernel
theorem dX5_restore_21 : decode cX5_restore 21 = .ok (.aload_n 0, 1) := by decide +kernel
theorem dX5_restore_22 : decode cX5_restore 22 = .ok (.getfield 12, 3) := by decide +kernel
theorem dX5_restore_25 : decode cX5_restore 25 = .ok (.aload_n 0, 1) := by decide +kernel
theorem dX5_restore_26 : decode cX5_restore 26 = .ok (.getfield 16, 3) := by decide +kernel
theorem dX5_restore_29 : decode cX5_restore 29 = .ok (.iload_n 1, 1) := by decide +kernel
theorem dX5_restore_30 : decode cX5_restore 30 = .ok (.aaload, 1) := by decide +kernel
theorem dX5_restore_31 : decode cX5_restore 31 = .ok (.invokevirtual 231, 3) := by decide +kernel
theorem dX5_restore_34 : decode cX5_restore 34 = .ok (.aload_n 0, 1) := by decide +kernel
theorem dX5_restore_35 : decode cX5_restore 35 = .ok (.iconst 0, 1) := by decide +kernel
theorem dX5_restore_36 : decode cX5_restore 36 = .ok (.putfield 35, 3) := by decide +kernel
theorem dX5_restore_39 : decode cX5_restore 39 = .ok (.aload_n 0, 1) := by decide +kernel
theorem dX5_restore_40 : decode cX5_restore 40 = .ok (.getfield 12, 3) := by decide +kernel
theorem dX5_restore_43 : decode cX5_restore 43 = .ok (.getfield 99, 3) := by decide +kernel
theorem dX5_restore_46 : decode cX5_restore 46 = .ok (.ireturn, 1) := by decide +kernel
set_option maxRecDepth 20000 in
theorem ggX5_checksum_X5_features : GoodIn wsX5_checksum wsX5_features := goodIn_r _ [8, 2, 3, 271, 272, 273, 274, 275, 276, 277, 278, 279, 280, 281, 282, 283, 284, 285, 286, 287, 288, 289] (by decide +kernel) (by decide +kernel)
set_option maxRecDepth 20000 in
theorem gX5_checksum_X5_features : GoodIn wsX5_checksum (wsV RX5 237 RX5 yX5_features wsX5_features) := goodIn_app (goodIn_of _ (by decide +kernel)) ggX5_checksum_X5_features
set_option maxRecDepth 20000 in
theorem ggX5_checksum_X5_mix : GoodIn wsX5_checksum wsX5_mix := goodIn_r _ [11, 12] (by decide +kernel) (by decide +kernel)
set_option maxRecDepth 20000 in
theorem gX5_checksum_X5_mix : GoodIn wsX5_checksum (va_wsS RX5 240 yX5_mix wsX5_mix) := goodIn_app (goodIn_of _ (by decide +kernel)) ggX5_checksum_X5_mix
set_option maxRecDepth 20000 in
theorem ggX5_checksum_X5_changes : GoodIn wsX5_checksum wsX5_changes := goodIn_r _ [16, 2, 17, 18, 19, 20, 21, 22, 23, 24, 25, 26, 27, 271, 272, 273, 274, 275, 276, 277, 278, 279, 280, 281, 282, 283, 284, 285, 286, 287, 288, 289] (by decide +kernel) (by decide +kernel)
set_option maxRecDepth 20000 in
theorem gX5_checksum_X5_changes : GoodIn wsX5_checksum (wsV RX5 244 RX5 yX5_changes wsX5_changes) := goodIn_app (goodIn_of _ (by decide +kernel)) ggX5_checksum_X5_changes
set_option maxRecDepth 20000 in
theorem ggX5_checksum_X5_reach : GoodIn wsX5_checksum wsX5_reach := goodIn_r _ [31, 2, 32, 33, 34, 17, 18, 19, 20, 21, 22, 35, 36, 7, 37, 38, 39, 40, 41, 42, 43, 44, 45, 46, 47, 48, 271, 272, 273, 274, 275, 276, 277, 278, 279, 280, 281, 282, 283, 284, 285, 286, 287, 288, 289] (by decide +kernel) (by decide +kernel)
set_option maxRecDepth 20000 in
theorem gX5_checksum_X5_reach : GoodIn wsX5_checksum (wsV RX5 247 RX5 yX5_reach wsX5_reach) := goodIn_app (goodIn_of _ (by decide +kernel)) ggX5_checksum_X5_reach
set_option maxRecDepth 20000 in
theorem ggX5_checksum_X5_clash : GoodIn wsX5_checksum wsX5_clash := goodIn_r _ [52, 53, 54, 55, 7, 56, 2, 17, 18, 19, 20, 21, 22, 57, 58, 59, 60, 33, 32, 34, 61, 62, 63, 64, 35, 36, 37, 65, 66, 67, 68, 69, 70, 71, 72, 73, 74, 75, 76, 77, 78, 79, 80, 81, 82, 83, 84, 85, 86, 87, 88, 89, 90, 91, 92, 93, 47, 48, 271, 272, 273, 274, 275, 276, 277, 278, 279, 280, 281, 282, 283, 284, 285, 286, 287, 288, 289, 290, 291, 292, 293, 294, 295, 296, 297, 298] (by decide +kernel) (by decide +kernel)
set_option maxRecDepth 20000 in
theorem gX5_checksum_X5_clash : GoodIn wsX5_checksum (wsV RX5 250 RX5 yX5_clash wsX5_clash) := goodIn_app (goodIn_of _ (by decide +kernel)) ggX5_checksum_X5_clash
set_option maxRecDepth 20000 in
theorem ggX5_checksum_X5_mixDifference : GoodIn wsX5_checksum wsX5_mixDifference := goodIn_r _ [97, 62, 64, 98, 99, 100, 68, 101, 70, 93, 9, 10, 7, 11, 12, 271, 272, 273, 274, 275, 276, 277, 278, 279, 280, 281, 282, 290, 291, 292, 293, 294, 295, 296, 297, 298] (by decide +kernel) (by decide +kernel)
set_option maxRecDepth 20000 in
theorem gX5_checksum_X5_mixDifference : GoodIn wsX5_checksum (wsV RX5 253 RX5 yX5_mixDifference wsX5_mixDifference) := goodIn_app (goodIn_of _ (by decide +kernel)) ggX5_checksum_X5_mixDifference
set_option maxRecDepth 20000 in
theorem ggX5_checksum_X5_clashes : GoodIn wsX5_checksum wsX5_clashes := goodIn_r _ [105, 2, 3, 106, 107, 108, 20, 109, 110, 44, 7, 45, 57, 58, 59, 60, 33, 32, 34, 61, 62, 63, 64, 35, 36, 37, 65, 66, 67, 68, 69, 70, 71, 72, 73, 74, 75, 76, 77, 78, 79, 80, 81, 82, 83, 84, 85, 86, 87, 88, 89, 90, 91, 92, 93, 47, 48, 271, 272, 273, 274, 275, 276, 277, 278, 279, 280, 281, 282, 283, 284, 285, 286, 287, 288, 289, 290, 291, 292, 293, 294, 295, 296, 297, 298] (by decide +kernel) (by decide +kernel)
set_option maxRecDepth 20000 in
theorem gX5_checksum_X5_clashes : GoodIn wsX5_checksum (wsV RX5 257 RX5 yX5_clashes wsX5_clashes) := goodIn_app (goodIn_of _ (by decide +kernel)) ggX5_checksum_X5_clashes
set_option maxRecDepth 20000 in
theorem ggX5_checksum_X5_orders : GoodIn wsX5_checksum wsX5_orders := goodIn_r _ [114, 115, 2, 116, 117, 118, 119, 7, 120, 3, 121, 271, 272, 273, 274, 275, 276, 277, 278, 279, 280, 281, 282, 283, 284, 285, 286, 287, 288, 289] (by decide +kernel) (by decide +kernel)
set_option maxRecDepth 20000 in
theorem gX5_checksum_X5_orders : GoodIn wsX5_checksum (wsV RX5 260 RX5 yX5_orders wsX5_orders) := goodIn_app (goodIn_of _ (by decide +kernel)) ggX5_checksum_X5_orders
set_option maxRecDepth 20000 in
theorem ggX5_checksum_X5_open : GoodIn wsX5_checksum wsX5_open := goodIn_r _ [125, 2, 3, 126, 127, 128, 7, 129, 106, 107, 108, 20, 109, 110, 44, 45, 130, 131, 132, 133, 134, 57, 58, 59, 60, 33, 32, 34, 61, 62, 63, 64, 35, 36, 37, 65, 66, 67, 68, 69, 70, 71, 72, 73, 74, 75, 76, 77, 78, 79, 80, 81, 82, 83, 84, 85, 86, 87, 88, 89, 90, 91, 92, 93, 47, 48, 271, 272, 273, 274, 275, 276, 277, 278, 279, 280, 281, 282, 283, 284, 285, 286, 287, 288, 289, 290, 291, 292, 293, 294, 295, 296, 297, 298] (by decide +kernel) (by decide +kernel)
set_option maxRecDepth 20000 in
theorem gX5_checksum_X5_open : GoodIn wsX5_checksum (wsV RX5 263 RX5 yX5_open wsX5_open) := goodIn_app (goodIn_of _ (by decide +kernel)) ggX5_checksum_X5_open
set_option maxRecDepth 20000 in
theorem ggX5_checksum_X5_isResolved : GoodIn wsX5_checksum wsX5_isResolved := goodIn_r _ [138, 139, 2, 140, 141, 142, 143, 144, 145, 146, 147, 148, 149, 150, 151, 152, 153, 154, 155, 156, 157, 158, 159, 160, 161, 162, 163, 164, 165, 166, 7, 167, 168, 169, 170, 171, 172, 173, 174, 175, 176, 177, 178, 179, 180, 181, 182, 183, 184, 185, 186, 187, 188, 189, 190, 191, 192, 193, 194, 195, 196, 197, 198, 199, 200, 82, 83, 47, 48, 87, 88, 201, 202, 203, 204, 205, 206, 207, 208, 209, 210, 211, 212, 213, 214, 215, 216, 217, 218, 219, 220, 221, 222, 223, 224, 225, 226, 227, 228, 229, 230, 231, 232, 44, 45, 233, 234, 235, 236, 36, 37, 271, 272, 273, 274, 275, 276, 277, 278, 279, 280, 281, 282, 299, 300, 301, 302, 303, 304, 305, 283, 284, 285, 286, 287, 288, 289, 306, 307, 308, 309, 310, 311] (by decide +kernel) (by decide +kernel)
set_option maxRecDepth 20000 in
theorem gX5_checksum_X5_isResolved : GoodIn wsX5_checksum (wsV RX5 266 RX5 yX5_isResolved wsX5_isResolved) := goodIn_app (goodIn_of _ (by decide +kernel)) ggX5_checksum_X5_isResolved
set_option maxRecDepth 20000 in
theorem ggX5_checksum_X5_mixResolvedOrder : GoodIn wsX5_checksum wsX5_mixResolvedOrder := goodIn_r _ [240, 241, 242, 243, 244, 7, 245, 2, 116, 246, 247, 248, 249, 121, 43, 44, 45, 9, 10, 11, 12, 271, 272, 273, 274, 275, 276, 277, 278, 279, 280, 281, 282, 283, 284, 285, 286, 287, 288, 289] (by decide +kernel) (by decide +kernel)
set_option maxRecDepth 20000 in
theorem gX5_checksum_X5_mixResolvedOrder : GoodIn wsX5_checksum (wsV RX5 269 RX5 yX5_mixResolvedOrder wsX5_mixResolvedOrder) := goodIn_app (goodIn_of _ (by decide +kernel)) ggX5_checksum_X5_mixResolvedOrder
set_option maxRecDepth 20000 in
theorem ggX5_checksum_X5_findEffect : GoodIn wsX5_checksum wsX5_findEffect := goodIn_r _ [253, 34, 62, 2, 33, 63, 254, 255, 256, 7, 257, 32, 241, 258, 166, 167, 168, 169, 170, 171, 242, 243, 244, 245, 116, 246, 247, 248, 249, 121, 43, 44, 45, 35, 36, 37, 65, 66, 67, 68, 69, 70, 71, 72, 73, 74, 75, 76, 77, 78, 79, 80, 81, 82, 83, 84, 85, 86, 87, 88, 89, 90, 91, 92, 93, 47, 48, 271, 272, 273, 274, 275, 276, 277, 278, 279, 280, 281, 282, 283, 284, 285, 286, 287, 288, 289, 290, 291, 292, 293, 294, 295, 296, 297, 298] (by decide +kernel) (by decide +kernel)
set_option maxRecDepth 20000 in
theorem gX5_checksum_X5_findEffect : GoodIn wsX5_checksum (wsV RX5 218 RX5 yX5_findEffect wsX5_findEffect) := goodIn_app (goodIn_of _ (by decide +kernel)) ggX5_checksum_X5_findEffect
set_option maxRecDepth 20000 in
theorem ggX5_checksum_X5_mixAnswers : GoodIn wsX5_checksum wsX5_mixAnswers := goodIn_r _ [262, 34, 263, 254, 255, 256, 7, 257, 2, 33, 32, 241, 258, 166, 167, 168, 169, 170, 171, 242, 243, 244, 245, 116, 246, 247, 248, 249, 121, 43, 44, 45, 35, 36, 37, 264, 265, 266, 267, 268, 269, 82, 83, 46, 47, 48, 270, 87, 88, 9, 10, 11, 12, 271, 272, 273, 274, 275, 276, 277, 278, 279, 280, 281, 282, 283, 284, 285, 286, 287, 288, 289] (by decide +kernel) (by decide +kernel)
set_option maxRecDepth 20000 in
theorem gX5_checksum_X5_mixAnswers : GoodIn wsX5_checksum (wsV RX5 272 RX5 yX5_mixAnswers wsX5_mixAnswers) := goodIn_app (goodIn_of _ (by decide +kernel)) ggX5_checksum_X5_mixAnswers
