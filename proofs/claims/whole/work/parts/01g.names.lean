theorem dX6_findBehind_112 : decode cX6_findBehind 112 = .ok (.goto (-56), 3) := by decide +kernel
theorem dX6_findBehind_115 : decode cX6_findBehind 115 = .ok (.iinc 1 1, 3) := by decide +kernel
theorem dX6_findBehind_118 : decode cX6_findBehind 118 = .ok (.goto (-70), 3) := by decide +kernel
theorem dX6_findBehind_121 : decode cX6_findBehind 121 = .ok (.return_, 1) := by decide +kernel
theorem dX6_isAhead_0 : decode cX6_isAhead 0 = .ok (.aload_n 0, 1) := by decide +kernel
theorem dX6_isAhead_1 : decode cX6_isAhead 1 = .ok (.getfield 59, 3) := by decide +kernel
theorem dX6_isAhead_4 : decode cX6_isAhead 4 = .ok (.iload_n 1, 1) := by decide +kernel
theorem dX6_isAhead_5 : decode cX6_isAhead 5 = .ok (.iaload, 1) := by decide +kernel
theorem dX6_isAhead_6 : decode cX6_isAhead 6 = .ok (.iload_n 2, 1) := by decide +kernel
theorem dX6_isAhead_7 : decode cX6_isAhead 7 = .ok (.ishr, 1) := by decide +kernel
theorem dX6_isAhead_8 : decode cX6_isAhead 8 = .ok (.iconst 1, 1) := by decide +kernel
theorem dX6_isAhead_9 : decode cX6_isAhead 9 = .ok (.iand, 1) := by decide +kernel
theorem dX6_isAhead_10 : decode cX6_isAhead 10 = .ok (.iconst 1, 1) := by decide +kernel
theorem dX6_isAhead_11 : decode cX6_isAhead 11 = .ok (.if_icmp .ne 7, 3) := by decide +kernel
theorem dX6_isAhead_14 : decode cX6_isAhead 14 = .ok (.iconst 1, 1) := by decide +kernel
theorem dX6_isAhead_15 : decode cX6_isAhead 15 = .ok (.goto 4, 3) := by decide +kernel
theorem dX6_isAhead_18 : decode cX6_isAhead 18 = .ok (.iconst 0, 1) := by decide +kernel
theorem dX6_isAhead_19 : decode cX6_isAhead 19 = .ok (.ireturn, 1) := by decide +kernel
set_option maxRecDepth 20000 in
theorem ggX6_aheads_X6_findBehind : GoodIn wsX6_aheads wsX6_findBehind := goodIn_r _ [5, 6, 7, 8, 9, 4, 10, 15, 16, 17, 18, 19, 20, 21, 22, 23, 24, 25, 26, 27, 28, 29, 30, 31, 32, 33, 34, 35, 36] (by decide +kernel) (by decide +kernel)
set_option maxRecDepth 20000 in
theorem gX6_aheads_X6_findBehind : GoodIn wsX6_aheads (wsV RX6 181 RX6 yX6_findBehind wsX6_findBehind) := goodIn_app (goodIn_of _ (by decide +kernel)) ggX6_aheads_X6_findBehind
set_option maxRecDepth 20000 in
theorem ggX6_aheads_X6_isAhead : GoodIn wsX6_aheads wsX6_isAhead := goodIn_r _ [14, 6, 15, 16, 17, 18, 19, 20, 21, 22, 23, 24, 25, 26, 27, 28, 29, 30, 31, 32, 33, 34, 35, 36] (by decide +kernel) (by decide +kernel)
set_option maxRecDepth 20000 in
theorem gX6_aheads_X6_isAhead : GoodIn wsX6_aheads (wsV RX6 184 RX6 yX6_isAhead wsX6_isAhead) := goodIn_app (goodIn_of _ (by decide +kernel)) ggX6_aheads_X6_isAhead
theorem dX6_aheads_0 : decode cX6_aheads 0 = .ok (.aload_n 0, 1) := by decide +kernel
theorem dX6_aheads_1 : decode cX6_aheads 1 = .ok (.invokevirtual 181, 3) := by decide +kernel
theorem dX6_aheads_4 : decode cX6_aheads 4 = .ok (.iconst 0, 1) := by decide +kernel
theorem dX6_aheads_5 : decode cX6_aheads 5 = .ok (.istore_n 1, 1) := by decide +kernel
theorem dX6_aheads_6 : decode cX6_aheads 6 = .ok (.iconst 0, 1) := by decide +kernel
theorem dX6_aheads_7 : decode cX6_aheads 7 = .ok (.istore_n 2, 1) := by decide +kernel
theorem dX6_aheads_8 : decode cX6_aheads 8 = .ok (.iload_n 2, 1) := by decide +kernel
theorem dX6_aheads_9 : decode cX6_aheads 9 = .ok (.bipush 36, 2) := by decide +kernel
theorem dX6_aheads_11 : decode cX6_aheads 11 = .ok (.if_icmp .ge 32, 3) := by decide +kernel
theorem dX6_aheads_14 : decode cX6_aheads 14 = .ok (.iload_n 1, 1) := by decide +kernel
theorem dX6_aheads_15 : decode cX6_aheads 15 = .ok (.aload_n 0, 1) := by decide +kernel
theorem dX6_aheads_16 : decode cX6_aheads 16 = .ok (.iload_n 2, 1) := by decide +kernel
theorem dX6_aheads_17 : decode cX6_aheads 17 = .ok (.bipush 6, 2) := by decide +kernel
theorem dX6_aheads_19 : decode cX6_aheads 19 = .ok (.idiv, 1) := by decide +kernel
theorem dX6_aheads_20 : decode cX6_aheads 20 = .ok (.iload_n 2, 1) := by decide +kernel
theorem dX6_aheads_21 : decode cX6_aheads 21 = .ok (.bipush 6, 2) := by decide +kernel
theorem dX6_aheads_23 : decode cX6_aheads 23 = .ok (.irem, 1) := by decide +kernel
theorem dX6_aheads_24 : decode cX6_aheads 24 = .ok (.invokevirtual 184, 3) := by decide +kernel
theorem dX6_aheads_27 : decode cX6_aheads 27 = .ok (.ifCond .eq 7, 3) := by decide +kernel
theorem dX6_aheads_30 : decode cX6_aheads 30 = .ok (.iconst 1, 1) := by decide +kernel
theorem dX6_aheads_31 : decode cX6_aheads 31 = .ok (.goto 4, 3) := by decide +kernel
theorem dX6_aheads_34 : decode cX6_aheads 34 = .ok (.iconst 0, 1) := by decide +kernel
theorem dX6_aheads_35 : decode cX6_aheads 35 = .ok (.iadd, 1) := by decide +kernel
theorem dX6_aheads_36 : decode cX6_aheads 36 = .ok (.istore_n 1, 1) := by decide +kernel
theorem dX6_aheads_37 : decode cX6_aheads 37 = .ok (.iinc 2 1, 3) := by decide +kernel
theorem dX6_aheads_40 : decode cX6_aheads 40 = .ok (.goto (-32), 3) := by decide +kernel
theorem dX6_aheads_43 : decode cX6_aheads 43 = .ok (.iload_n 1, 1) := by decide +kernel
theorem dX6_aheads_44 : decode cX6_aheads 44 = .ok (.ireturn, 1) := by decide +kernel
set_option maxRecDepth 20000 in
theorem ggX6_setBefore_X6_isPair : GoodIn wsX6_setBefore wsX6_isPair := goodIn_r _ [6, 7, 8, 9, 5, 10, 1, 11, 12, 13, 30, 31, 32, 33, 34, 35, 36, 37, 38, 39, 40, 41, 42, 43, 44, 45, 46, 47, 48, 49, 50, 51] (by decide +kernel) (by decide +kernel)
set_option maxRecDepth 20000 in
theorem gX6_setBefore_X6_isPair : GoodIn wsX6_setBefore (wsV RX6 149 RX6 yX6_isPair wsX6_isPair) := goodIn_app (goodIn_of _ (by decide +kernel)) ggX6_setBefore_X6_isPair
set_option maxRecDepth 20000 in
theorem ggX6_setBefore_X6_findBehind : GoodIn wsX6_setBefore wsX6_findBehind := goodIn_r _ [17, 18, 1, 19, 20, 5, 21, 30, 31, 32, 33, 34, 35, 36, 37, 38, 39, 40, 41, 42, 43, 44, 45, 46, 47, 48, 49, 50, 51] (by decide +kernel) (by decide +kernel)
set_option maxRecDepth 20000 in
theorem gX6_setBefore_X6_findBehind : GoodIn wsX6_setBefore (wsV RX6 181 RX6 yX6_findBehind wsX6_findBehind) := goodIn_app (goodIn_of _ (by decide +kernel)) ggX6_setBefore_X6_findBehind
set_option maxRecDepth 20000 in
theorem ggX6_setBefore_X6_isAhead : GoodIn wsX6_setBefore wsX6_isAhead := goodIn_r _ [25, 18, 30, 31, 32, 33, 34, 35, 36, 37, 38, 39, 40, 41, 42, 43, 44, 45, 46, 47, 48, 49, 50, 51] (by decide +kernel) (by decide +kernel)
set_option maxRecDepth 20000 in
theorem gX6_setBefore_X6_isAhead : GoodIn wsX6_setBefore (wsV RX6 184 RX6 yX6_isAhead wsX6_isAhead) := goodIn_app (goodIn_of _ (by decide +kernel)) ggX6_setBefore_X6_isAhead
set_option maxRecDepth 20000 in
theorem ggX6_setBefore_X6_at : GoodIn wsX6_setBefore wsX6_at := goodIn_r _ [21] (by decide +kernel) (by decide +kernel)
set_option maxRecDepth 20000 in
theorem gX6_setBefore_X6_at : GoodIn wsX6_setBefore (va_wsS RX6 85 yX6_at wsX6_at) := goodIn_app (goodIn_of _ (by decide +kernel)) ggX6_setBefore_X6_at
set_option maxRecDepth 20000 in
theorem ggX6_setBefore_X6_aheads : GoodIn wsX6_setBefore wsX6_aheads := goodIn_r _ [29, 14, 15, 16, 5, 17, 18, 1, 19, 20, 21, 22, 23, 24, 25, 30, 31, 32, 33, 34, 35, 36, 37, 38, 39, 40, 41, 42, 43, 44, 45, 46, 47, 48, 49, 50, 51] (by decide +kernel) (by decide +kernel)
set_option maxRecDepth 20000 in
theorem gX6_setBefore_X6_aheads : GoodIn wsX6_setBefore (wsV RX6 187 RX6 yX6_aheads wsX6_aheads) := goodIn_app (goodIn_of _ (by decide +kernel)) ggX6_setBefore_X6_aheads
theorem dX6_setBefore_0 : decode cX6_setBefore 0 = .ok (.aload_n 0, 1) := by decide +kernel
theorem dX6_setBefore_1 : decode cX6_setBefore 1 = .ok (.iload_n 1, 1) := by decide +kernel
theorem dX6_setBefore_2 : decode cX6_setBefore 2 = .ok (.iload_n 2, 1) := by decide +kernel
theorem dX6_setBefore_3 : decode cX6_setBefore 3 = .ok (.invokevirtual 149, 3) := by decide +kernel
theorem dX6_setBefore_6 : decode cX6_setBefore 6 = .ok (.ifCond .ne 5, 3) := by decide +kernel
theorem dX6_setBefore_9 : decode cX6_setBefore 9 = .ok (.iconst (-1), 1) := by decide +kernel
theorem dX6_setBefore_10 : decode cX6_setBefore 10 = .ok (.ireturn, 1) := by decide +kernel
theorem dX6_setBefore_11 : decode cX6_setBefore 11 = .ok (.aload_n 0, 1) := by decide +kernel
theorem dX6_setBefore_12 : decode cX6_setBefore 12 = .ok (.invokevirtual 181, 3) := by decide +kernel
theorem dX6_setBefore_15 : decode cX6_setBefore 15 = .ok (.aload_n 0, 1) := by decide +kernel
theorem dX6_setBefore_16 : decode cX6_setBefore 16 = .ok (.iload_n 2, 1) := by decide +kernel
theorem dX6_setBefore_17 : decode cX6_setBefore 17 = .ok (.iload_n 1, 1) := by decide +kernel
theorem dX6_setBefore_18 : decode cX6_setBefore 18 = .ok (.invokevirtual 184, 3) := by decide +kernel
theorem dX6_setBefore_21 : decode cX6_setBefore 21 = .ok (.ifCond .eq 6, 3) := by decide +kernel
theorem dX6_setBefore_24 : decode cX6_setBefore 24 = .ok (.bipush (-3), 2) := by decide +kernel
theorem dX6_setBefore_26 : decode cX6_setBefore 26 = .ok (.ireturn, 1) := by decide +kernel
theorem dX6_setBefore_27 : decode cX6_setBefore 27 = .ok (.aload_n 0, 1) := by decide +kernel
theorem dX6_setBefore_28 : decode cX6_setBefore 28 = .ok (.getfield 7, 3) := by decide +kernel
theorem dX6_setBefore_31 : decode cX6_setBefore 31 = .ok (.iload_n 1, 1) := by decide +kernel
theorem dX6_setBefore_32 : decode cX6_setBefore 32 = .ok (.bipush 33, 2) := by decide +kernel
theorem dX6_setBefore_34 : decode cX6_setBefore 34 = .ok (.invokestatic 85, 3) := by decide +kernel
theorem dX6_setBefore_37 : decode cX6_setBefore 37 = .ok (.dup2, 1) := by decide +kernel
theorem dX6_setBefore_38 : decode cX6_setBefore 38 = .ok (.iaload, 1) := by decide +kernel
theorem dX6_setBefore_39 : decode cX6_setBefore 39 = .ok (.iconst 1, 1) := by decide +kernel
theorem dX6_setBefore_40 : decode cX6_setBefore 40 = .ok (.iload_n 2, 1) := by decide +kernel
theorem dX6_setBefore_41 : decode cX6_setBefore 41 = .ok (.ishl, 1) := by decide +kernel
theorem dX6_setBefore_42 : decode cX6_setBefore 42 = .ok (.ior, 1) := by decide +kernel
theorem dX6_setBefore_43 : decode cX6_setBefore 43 = .ok (.iastore, 1) := by decide +kernel
theorem dX6_setBefore_44 : decode cX6_setBefore 44 = .ok (.aload_n 0, 1) := by decide +kernel
theorem dX6_setBefore_45 : decode cX6_setBefore 45 = .ok (.invokevirtual 187, 3) := by decide +kernel
theorem dX6_setBefore_48 : decode cX6_setBefore 48 = .ok (.ireturn, 1) := by decide +kernel
set_option maxRecDepth 20000 in
theorem ggX6_clearPriorities_X6_aheads : GoodIn wsX6_clearPriorities wsX6_aheads := goodIn_r _ [6, 7, 8, 9, 5, 10, 11, 1, 12, 13, 14, 15, 16, 17, 18, 19, 20, 21, 22, 23, 24, 25, 26, 27, 28, 29, 30, 31, 32, 33, 34, 35, 36, 37, 38, 39, 40] (by decide +kernel) (by decide +kernel)
set_option maxRecDepth 20000 in
theorem gX6_clearPriorities_X6_aheads : GoodIn wsX6_clearPriorities (wsV RX6 187 RX6 yX6_aheads wsX6_aheads) := goodIn_app (goodIn_of _ (by decide +kernel)) ggX6_clearPriorities_X6_aheads
set_option maxRecDepth 20000 in
theorem ggX6_clearPriorities_X6_at : GoodIn wsX6_clearPriorities wsX6_at := goodIn_r _ [14] (by decide +kernel) (by decide +kernel)
set_option maxRecDepth 20000 in
theorem gX6_clearPriorities_X6_at : GoodIn wsX6_clearPriorities (va_wsS RX6 85 yX6_at wsX6_at) := goodIn_app (goodIn_of _ (by decide +kernel)) ggX6_clearPriorities_X6_at
theorem dX6_clearPriorities_0 : decode cX6_clearPriorities 0 = .ok (.aload_n 0, 1) := by decide +kernel
theorem dX6_clearPriorities_1 : decode cX6_clearPriorities 1 = .ok (.invokevirtual 187, 3) := by decide +kernel
theorem dX6_clearPriorities_4 : decode cX6_clearPriorities 4 = .ok (.istore_n 1, 1) := by decide +kernel
theorem dX6_clearPriorities_5 : decode cX6_clearPriorities 5 = .ok (.iconst 0, 1) := by decide +kernel
theorem dX6_clearPriorities_6 : decode cX6_clearPriorities 6 = .ok (.istore_n 2, 1) := by decide +kernel
theorem dX6_clearPriorities_7 : decode cX6_clearPriorities 7 = .ok (.iload_n 2, 1) := by decide +kernel
theorem dX6_clearPriorities_8 : decode cX6_clearPriorities 8 = .ok (.aload_n 0, 1) := by decide +kernel
theorem dX6_clearPriorities_9 : decode cX6_clearPriorities 9 = .ok (.getfield 7, 3) := by decide +kernel
theorem dX6_clearPriorities_12 : decode cX6_clearPriorities 12 = .ok (.bipush 34, 2) := by decide +kernel
theorem dX6_clearPriorities_14 : decode cX6_clearPriorities 14 = .ok (.iaload, 1) := by decide +kernel
theorem dX6_clearPriorities_15 : decode cX6_clearPriorities 15 = .ok (.if_icmp .ge 21, 3) := by decide +kernel
theorem dX6_clearPriorities_18 : decode cX6_clearPriorities 18 = .ok (.aload_n 0, 1) := by decide +kernel
theorem dX6_clearPriorities_19 : decode cX6_clearPriorities 19 = .ok (.getfield 7, 3) := by decide +kernel
theorem dX6_clearPriorities_22 : decode cX6_clearPriorities 22 = .ok (.iload_n 2, 1) := by decide +kernel
theorem dX6_clearPriorities_23 : decode cX6_clearPriorities 23 = .ok (.bipush 33, 2) := by decide +kernel
theorem dX6_clearPriorities_25 : decode cX6_clearPriorities 25 = .ok (.invokestatic 85, 3) := by decide +kernel
theorem dX6_clearPriorities_28 : decode cX6_clearPriorities 28 = .ok (.iconst 0, 1) := by decide +kernel
theorem dX6_clearPriorities_29 : decode cX6_clearPriorities 29 = .ok (.iastore, 1) := by decide +kernel
theorem dX6_clearPriorities_30 : decode cX6_clearPriorities 30 = .ok (.iinc 2 1, 3) := by decide +kernel
theorem dX6_clearPriorities_33 : decode cX6_clearPriorities 33 = .ok (.goto (-26), 3) := by decide +kernel
theorem dX6_clearPriorities_36 : decode cX6_clearPriorities 36 = .ok (.iload_n 1, 1) := by decide +kernel
theorem dX6_clearPriorities_37 : decode cX6_clearPriorities 37 = .ok (.ireturn, 1) := by decide +kernel
set_option maxRecDepth 20000 in
theorem ggX6_isBefore_X6_isFeature : GoodIn wsX6_isBefore wsX6_isFeature := goodIn_r _ [5, 6, 7, 8, 4, 9, 22, 23, 24, 25, 26, 27, 28, 29, 30, 31, 32, 33, 34, 35, 36, 37, 38, 39, 40, 41, 42, 43] (by decide +kernel) (by decide +kernel)
set_option maxRecDepth 20000 in
theorem gX6_isBefore_X6_isFeature : GoodIn wsX6_isBefore (wsV RX6 92 RX6 yX6_isFeature wsX6_isFeature) := goodIn_app (goodIn_of _ (by decide +kernel)) ggX6_isBefore_X6_isFeature
set_option maxRecDepth 20000 in
theorem ggX6_isBefore_X6_findBehind : GoodIn wsX6_isBefore wsX6_findBehind := goodIn_r _ [13, 14, 6, 15, 16, 4, 17, 22, 23, 24, 25, 26, 27, 28, 29, 30, 31, 32, 33, 34, 35, 36, 37, 38, 39, 40, 41, 42, 43] (by decide +kernel) (by decide +kernel)
set_option maxRecDepth 20000 in
theorem gX6_isBefore_X6_findBehind : GoodIn wsX6_isBefore (wsV RX6 181 RX6 yX6_findBehind wsX6_findBehind) := goodIn_app (goodIn_of _ (by decide +kernel)) ggX6_isBefore_X6_findBehind
set_option maxRecDepth 20000 in
theorem ggX6_isBefore_X6_isAhead : GoodIn wsX6_isBefore wsX6_isAhead := goodIn_r _ [21, 14, 22, 23, 24, 25, 26, 27, 28, 29, 30, 31, 32, 33, 34, 35, 36, 37, 38, 39, 40, 41, 42, 43] (by decide +kernel) (by decide +kernel)
set_option maxRecDepth 20000 in
theorem gX6_isBefore_X6_isAhead : GoodIn wsX6_isBefore (wsV RX6 184 RX6 yX6_isAhead wsX6_isAhead) := goodIn_app (goodIn_of _ (by decide +kernel)) ggX6_isBefore_X6_isAhead
theorem dX6_isBefore_0 : decode cX6_isBefore 0 = .ok (.aload_n 0, 1) := by decide +kernel
theorem dX6_isBefore_1 : decode cX6_isBefore 1 = .ok (.iload_n 1, 1) := by decide +kernel
theorem dX6_isBefore_2 : decode cX6_isBefore 2 = .ok (.invokevirtual 92, 3) := by decide +kernel
theorem dX6_isBefore_5 : decode cX6_isBefore 5 = .ok (.ifCond .eq 11, 3) := by decide +kernel
theorem dX6_isBefore_8 : decode cX6_isBefore 8 = .ok (.aload_n 0, 1) := by decide +kernel
theorem dX6_isBefore_9 : decode cX6_isBefore 9 = .ok (.iload_n 2, 1) := by decide +kernel
theorem dX6_isBefore_10 : decode cX6_isBefore 10 = .ok (.invokevirtual 92, 3) := by decide +kernel
theorem dX6_isBefore_13 : decode cX6_isBefore 13 = .ok (.ifCond .ne 5, 3) := by decide +kernel
theorem dX6_isBefore_16 : decode cX6_isBefore 16 = .ok (.iconst (-1), 1) := by decide +kernel
theorem dX6_isBefore_17 : decode cX6_isBefore 17 = .ok (.ireturn, 1) := by decide +kernel
theorem dX6_isBefore_18 : decode cX6_isBefore 18 = .ok (.aload_n 0, 1) := by decide +kernel
theorem dX6_isBefore_19 : decode cX6_isBefore 19 = .ok (.invokevirtual 181, 3) := by decide +kernel
theorem dX6_isBefore_22 : decode cX6_isBefore 22 = .ok (.aload_n 0, 1) := by decide +kernel
theorem dX6_isBefore_23 : decode cX6_isBefore 23 = .ok (.iload_n 1, 1) := by decide +kernel
theorem dX6_isBefore_24 : decode cX6_isBefore 24 = .ok (.iload_n 2, 1) := by decide +kernel
theorem dX6_isBefore_25 : decode cX6_isBefore 25 = .ok (.invokevirtual 184, 3) := by decide +kernel
theorem dX6_isBefore_28 : decode cX6_isBefore 28 = .ok (.ifCond .eq 7, 3) := by decide +kernel
theorem dX6_isBefore_31 : decode cX6_isBefore 31 = .ok (.iconst 1, 1) := by decide +kernel
theorem dX6_isBefore_32 : decode cX6_isBefore 32 = .ok (.goto 4, 3) := by decide +kernel
theorem dX6_isBefore_35 : decode cX6_isBefore 35 = .ok (.iconst 0, 1) := by decide +kernel
theorem dX6_isBefore_36 : decode cX6_isBefore 36 = .ok (.ireturn, 1) := by decide +kernel
set_option maxRecDepth 20000 in
theorem ggX6_isAllowed_X6_isAhead : GoodIn wsX6_isAllowed wsX6_isAhead := goodIn_r _ [7, 8, 9, 10, 11, 12, 13, 14, 15, 16, 17, 18, 19, 20, 21, 22, 23, 24, 25, 26, 27, 28, 29, 30] (by decide +kernel) (by decide +kernel)
set_option maxRecDepth 20000 in
theorem gX6_isAllowed_X6_isAhead : GoodIn wsX6_isAllowed (wsV RX6 184 RX6 yX6_isAhead wsX6_isAhead) := goodIn_app (goodIn_of _ (by decide +kernel)) ggX6_isAllowed_X6_isAhead
theorem dX6_isAllowed_0 : decode cX6_isAllowed 0 = .ok (.iconst 1, 1) := by decide +kernel
theorem dX6_isAllowed_1 : decode cX6_isAllowed 1 = .ok (.istore_n 1, 1) := by decide +kernel
theorem dX6_isAllowed_2 : decode cX6_isAllowed 2 = .ok (.iconst 0, 1) := by decide +kernel
theorem dX6_isAllowed_3 : decode cX6_isAllowed 3 = .ok (.istore_n 2, 1) := by decide +kernel
theorem dX6_isAllowed_4 : decode cX6_isAllowed 4 = .ok (.iload_n 2, 1) := by decide +kernel
theorem dX6_isAllowed_5 : decode cX6_isAllowed 5 = .ok (.aload_n 0, 1) := by decide +kernel
theorem dX6_isAllowed_6 : decode cX6_isAllowed 6 = .ok (.getfield 162, 3) := by decide +kernel
theorem dX6_isAllowed_9 : decode cX6_isAllowed 9 = .ok (.if_icmp .ge 51, 3) := by decide +kernel
theorem dX6_isAllowed_12 : decode cX6_isAllowed 12 = .ok (.iconst 0, 1) := by decide +kernel
theorem dX6_isAllowed_13 : decode cX6_isAllowed 13 = .ok (.istore_n 3, 1) := by decide +kernel
theorem dX6_isAllowed_14 : decode cX6_isAllowed 14 = .ok (.iload_n 3, 1) := by decide +kernel
theorem dX6_isAllowed_15 : decode cX6_isAllowed 15 = .ok (.iload_n 2, 1) := by decide +kernel
theorem dX6_isAllowed_16 : decode cX6_isAllowed 16 = .ok (.if_icmp .ge 38, 3) := by decide +kernel
theorem dX6_isAllowed_19 : decode cX6_isAllowed 19 = .ok (.iload_n 1, 1) := by decide +kernel
theorem dX6_isAllowed_20 : decode cX6_isAllowed 20 = .ok (.ifCond .eq 26, 3) := by decide +kernel
theorem dX6_isAllowed_23 : decode cX6_isAllowed 23 = .ok (.aload_n 0, 1) := by decide +kernel
theorem dX6_isAllowed_24 : decode cX6_isAllowed 24 = .ok (.aload_n 0, 1) := by decide +kernel
theorem dX6_isAllowed_25 : decode cX6_isAllowed 25 = .ok (.getfield 53, 3) := by decide +kernel
theorem dX6_isAllowed_28 : decode cX6_isAllowed 28 = .ok (.iload_n 2, 1) := by decide +kernel
theorem dX6_isAllowed_29 : decode cX6_isAllowed 29 = .ok (.iaload, 1) := by decide +kernel
theorem dX6_isAllowed_30 : decode cX6_isAllowed 30 = .ok (.aload_n 0, 1) := by decide +kernel
theorem dX6_isAllowed_31 : decode cX6_isAllowed 31 = .ok (.getfield 53, 3) := by decide +kernel
theorem dX6_isAllowed_34 : decode cX6_isAllowed 34 = .ok (.iload_n 3, 1) := by decide +kernel
theorem dX6_isAllowed_35 : decode cX6_isAllowed 35 = .ok (.iaload, 1) := by decide +kernel
theorem dX6_isAllowed_36 : decode cX6_isAllowed 36 = .ok (.invokevirtual 184, 3) := by decide +kernel
theorem dX6_isAllowed_39 : decode cX6_isAllowed 39 = .ok (.ifCond .ne 7, 3) := by decide +kernel
theorem dX6_isAllowed_42 : decode cX6_isAllowed 42 = .ok (.iconst 1, 1) := by decide +kernel
theorem dX6_isAllowed_43 : decode cX6_isAllowed 43 = .ok (.goto 4, 3) := by decide +kernel
theorem dX6_isAllowed_46 : decode cX6_isAllowed 46 = .ok (.iconst 0, 1) := by decide +kernel
theorem dX6_isAllowed_47 : decode cX6_isAllowed 47 = .ok (.istore_n 1, 1) := by decide +kernel
theorem dX6_isAllowed_48 : decode cX6_isAllowed 48 = .ok (.iinc 3 1, 3) := by decide +kernel
theorem dX6_isAllowed_51 : decode cX6_isAllowed 51 = .ok (.goto (-37), 3) := by decide +kernel
theorem dX6_isAllowed_54 : decode cX6_isAllowed 54 = .ok (.iinc 2 1, 3) := by decide +kernel
theorem dX6_isAllowed_57 : decode cX6_isAllowed 57 = .ok (.goto (-53), 3) := by decide +kernel
theorem dX6_isAllowed_60 : decode cX6_isAllowed 60 = .ok (.iload_n 1, 1) := by decide +kernel
theorem dX6_isAllowed_61 : decode cX6_isAllowed 61 = .ok (.ireturn, 1) := by decide +kernel
set_option maxRecDepth 20000 in
theorem ggX6_ordersNow_X6_findBehind : GoodIn wsX6_ordersNow wsX6_findBehind := goodIn_r _ [5, 6, 7, 8, 9, 4, 10, 34, 35, 36, 37, 38, 39, 40, 41, 42, 43, 44, 45, 46, 47, 48, 49, 50, 51, 52, 53, 54, 55] (by decide +kernel) (by decide +kernel)
set_option maxRecDepth 20000 in
theorem gX6_ordersNow_X6_findBehind : GoodIn wsX6_ordersNow (wsV RX6 181 RX6 yX6_findBehind wsX6_findBehind) := goodIn_app (goodIn_of _ (by decide +kernel)) ggX6_ordersNow_X6_findBehind
set_option maxRecDepth 20000 in
theorem ggX6_ordersNow_X6_findThose : GoodIn wsX6_ordersNow wsX6_findThose := goodIn_r _ [14, 15, 7, 16, 17, 18, 19, 4, 20, 8, 9, 10, 34, 35, 36, 37, 38, 39, 40, 41, 42, 43, 44, 45, 46, 47, 48, 49, 50, 51, 52, 53, 54, 55] (by decide +kernel) (by decide +kernel)
set_option maxRecDepth 20000 in
theorem gX6_ordersNow_X6_findThose : GoodIn wsX6_ordersNow (wsV RX6 165 RX6 yX6_findThose wsX6_findThose) := goodIn_app (goodIn_of _ (by decide +kernel)) ggX6_ordersNow_X6_findThose
set_option maxRecDepth 20000 in
theorem ggX6_ordersNow_X6_findOrder : GoodIn wsX6_ordersNow wsX6_findOrder := goodIn_r _ [24, 15, 25, 16, 34, 35, 36, 37, 38, 39, 40, 41, 42, 43, 44, 45, 46, 47, 48, 49, 50, 51, 52, 53, 54, 55] (by decide +kernel) (by decide +kernel)
set_option maxRecDepth 20000 in
theorem gX6_ordersNow_X6_findOrder : GoodIn wsX6_ordersNow (wsV RX6 168 RX6 yX6_findOrder wsX6_findOrder) := goodIn_app (goodIn_of _ (by decide +kernel)) ggX6_ordersNow_X6_findOrder
set_option maxRecDepth 20000 in
theorem ggX6_ordersNow_X6_isAllowed : GoodIn wsX6_ordersNow wsX6_isAllowed := goodIn_r _ [29, 15, 25, 30, 31, 32, 4, 33, 6, 34, 35, 36, 37, 38, 39, 40, 41, 42, 43, 44, 45, 46, 47, 48, 49, 50, 51, 52, 53, 54, 55] (by decide +kernel) (by decide +kernel)
set_option maxRecDepth 20000 in
theorem gX6_ordersNow_X6_isAllowed : GoodIn wsX6_ordersNow (wsV RX6 190 RX6 yX6_isAllowed wsX6_isAllowed) := goodIn_app (goodIn_of _ (by decide +kernel)) ggX6_ordersNow_X6_isAllowed
theorem dX6_ordersNow_0 : decode cX6_ordersNow 0 = .ok (.aload_n 0, 1) := by decide +kernel
theorem dX6_ordersNow_1 : decode cX6_ordersNow 1 = .ok (.invokevirtual 181, 3) := by decide +kernel
theorem dX6_ordersNow_4 : decode cX6_ordersNow 4 = .ok (.aload_n 0, 1) := by decide +kernel
theorem dX6_ordersNow_5 : decode cX6_ordersNow 5 = .ok (.invokevirtual 165, 3) := by decide +kernel
theorem dX6_ordersNow_8 : decode cX6_ordersNow 8 = .ok (.istore_n 1, 1) := by decide +kernel
theorem dX6_ordersNow_9 : decode cX6_ordersNow 9 = .ok (.iconst 0, 1) := by decide +kernel
theorem dX6_ordersNow_10 : decode cX6_ordersNow 10 = .ok (.istore_n 2, 1) := by decide +kernel
theorem dX6_ordersNow_11 : decode cX6_ordersNow 11 = .ok (.iconst 0, 1) := by decide +kernel
theorem dX6_ordersNow_12 : decode cX6_ordersNow 12 = .ok (.istore_n 3, 1) := by decide +kernel
theorem dX6_ordersNow_13 : decode cX6_ordersNow 13 = .ok (.iload_n 3, 1) := by decide +kernel
theorem dX6_ordersNow_14 : decode cX6_ordersNow 14 = .ok (.iload_n 1, 1) := by decide +kernel
theorem dX6_ordersNow_15 : decode cX6_ordersNow 15 = .ok (.if_icmp .ge 29, 3) := by decide +kernel
theorem dX6_ordersNow_18 : decode cX6_ordersNow 18 = .ok (.aload_n 0, 1) := by decide +kernel
theorem dX6_ordersNow_19 : decode cX6_ordersNow 19 = .ok (.iload_n 3, 1) := by decide +kernel
theorem dX6_ordersNow_20 : decode cX6_ordersNow 20 = .ok (.invokevirtual 168, 3) := by decide +kernel
theorem dX6_ordersNow_23 : decode cX6_ordersNow 23 = .ok (.iload_n 2, 1) := by decide +kernel
theorem dX6_ordersNow_24 : decode cX6_ordersNow 24 = .ok (.aload_n 0, 1) := by decide +kernel
theorem dX6_ordersNow_25 : decode cX6_ordersNow 25 = .ok (.invokevirtual 190, 3) := by decide +kernel
theorem dX6_ordersNow_28 : decode cX6_ordersNow 28 = .ok (.ifCond .eq 7, 3) := by decide +kernel
theorem dX6_ordersNow_31 : decode cX6_ordersNow 31 = .ok (.iconst 1, 1) := by decide +kernel
theorem dX6_ordersNow_32 : decode cX6_ordersNow 32 = .ok (.goto 4, 3) := by decide +kernel
theorem dX6_ordersNow_35 : decode cX6_ordersNow 35 = .ok (.iconst 0, 1) := by decide +kernel
theorem dX6_ordersNow_36 : decode cX6_ordersNow 36 = .ok (.iadd, 1) := by decide +kernel
theorem dX6_ordersNow_37 : decode cX6_ordersNow 37 = .ok (.istore_n 2, 1) := by decide +kernel
theorem dX6_ordersNow_38 : decode cX6_ordersNow 38 = .ok (.iinc 3 1, 3) := by decide +kernel
theorem dX6_ordersNow_41 : decode cX6_ordersNow 41 = .ok (.goto (-28), 3) := by decide +kernel
theorem dX6_ordersNow_44 : decode cX6_ordersNow 44 = .ok (.iload_n 2, 1) := by decide +kernel
theorem dX6_ordersNow_45 : decode cX6_ordersNow 45 = .ok (.ireturn, 1) := by decide +kernel
set_option maxRecDepth 20000 in
theorem ggX6_orders_X6_ordersNow : GoodIn wsX6_orders wsX6_ordersNow := goodIn_r _ [5, 6, 7, 8, 4, 9, 10, 11, 12, 13, 14, 15, 16, 17, 18, 19, 20, 21, 22, 23, 24, 25, 26, 27, 28, 29, 30, 31, 32, 33, 34, 35, 36, 37, 38, 39, 40, 41, 42, 43, 44, 45, 46, 47, 48, 49, 50, 51, 52, 53, 54, 55, 56, 57, 58, 59] (by decide +kernel) (by decide +kernel)
set_option maxRecDepth 20000 in
theorem gX6_orders_X6_ordersNow : GoodIn wsX6_orders (wsV RX6 193 RX6 yX6_ordersNow wsX6_ordersNow) := goodIn_app (goodIn_of _ (by decide +kernel)) ggX6_orders_X6_ordersNow
theorem dX6_orders_0 : decode cX6_orders 0 = .ok (.aload_n 0, 1) := by decide +kernel
theorem dX6_orders_1 : decode cX6_orders 1 = .ok (.invokevirtual 193, 3) := by decide +kernel
theorem dX6_orders_4 : decode cX6_orders 4 = .ok (.ireturn, 1) := by decide +kernel
set_option maxRecDepth 20000 in
theorem ggX6_findResolved_X6_findBehind : GoodIn wsX6_findResolved wsX6_findBehind := goodIn_r _ [6, 7, 8, 9, 10, 5, 11, 34, 35, 36, 37, 38, 39, 40, 41, 42, 43, 44, 45, 46, 47, 48, 49, 50, 51, 52, 53, 54, 55] (by decide +kernel) (by decide +kernel)
set_option maxRecDepth 20000 in
theorem gX6_findResolved_X6_findBehind : GoodIn wsX6_findResolved (wsV RX6 181 RX6 yX6_findBehind wsX6_findBehind) := goodIn_app (goodIn_of _ (by decide +kernel)) ggX6_findResolved_X6_findBehind
set_option maxRecDepth 20000 in
theorem ggX6_findResolved_X6_findThose : GoodIn wsX6_findResolved wsX6_findThose := goodIn_r _ [15, 1, 8, 16, 17, 18, 19, 5, 20, 9, 10, 11, 34, 35, 36, 37, 38, 39, 40, 41, 42, 43, 44, 45, 46, 47, 48, 49, 50, 51, 52, 53, 54, 55] (by decide +kernel) (by decide +kernel)
set_option maxRecDepth 20000 in
theorem gX6_findResolved_X6_findThose : GoodIn wsX6_findResolved (wsV RX6 165 RX6 yX6_findThose wsX6_findThose) := goodIn_app (goodIn_of _ (by decide +kernel)) ggX6_findResolved_X6_findThose
set_option maxRecDepth 20000 in
theorem ggX6_findResolved_X6_findOrder : GoodIn wsX6_findResolved wsX6_findOrder := goodIn_r _ [24, 1, 25, 16, 34, 35, 36, 37, 38, 39, 40, 41, 42, 43, 44, 45, 46, 47, 48, 49, 50, 51, 52, 53, 54, 55] (by decide +kernel) (by decide +kernel)
set_option maxRecDepth 20000 in
theorem gX6_findResolved_X6_findOrder : GoodIn wsX6_findResolved (wsV RX6 168 RX6 yX6_findOrder wsX6_findOrder) := goodIn_app (goodIn_of _ (by decide +kernel)) ggX6_findResolved_X6_findOrder
set_option maxRecDepth 20000 in
theorem ggX6_findResolved_X6_isAllowed : GoodIn wsX6_findResolved wsX6_isAllowed := goodIn_r _ [29, 1, 25, 30, 31, 32, 5, 33, 7, 34, 35, 36, 37, 38, 39, 40, 41, 42, 43, 44, 45, 46, 47, 48, 49, 50, 51, 52, 53, 54, 55] (by decide +kernel) (by decide +kernel)
set_option maxRecDepth 20000 in
theorem gX6_findResolved_X6_isAllowed : GoodIn wsX6_findResolved (wsV RX6 190 RX6 yX6_isAllowed wsX6_isAllowed) := goodIn_app (goodIn_of _ (by decide +kernel)) ggX6_findResolved_X6_isAllowed
theorem dX6_findResolved_0 : decode cX6_findResolved 0 = .ok (.aload_n 0, 1) := by decide +kernel
theorem dX6_findResolved_1 : decode cX6_findResolved 1 = .ok (.invokevirtual 181, 3) := by decide +kernel
theorem dX6_findResolved_4 : decode cX6_findResolved 4 = .ok (.aload_n 0, 1) := by decide +kernel
theorem dX6_findResolved_5 : decode cX6_findResolved 5 = .ok (.invokevirtual 165, 3) := by decide +kernel
theorem dX6_findResolved_8 : decode cX6_findResolved 8 = .ok (.istore_n 1, 1) := by decide +kernel
theorem dX6_findResolved_9 : decode cX6_findResolved 9 = .ok (.iconst 0, 1) := by decide +kernel
theorem dX6_findResolved_10 : decode cX6_findResolved 10 = .ok (.istore_n 2, 1) := by decide +kernel
theorem dX6_findResolved_11 : decode cX6_findResolved 11 = .ok (.aload_n 0, 1) := by decide +kernel
theorem dX6_findResolved_12 : decode cX6_findResolved 12 = .ok (.iconst 0, 1) := by decide +kernel
theorem dX6_findResolved_13 : decode cX6_findResolved 13 = .ok (.invokevirtual 168, 3) := by decide +kernel
theorem dX6_findResolved_16 : decode cX6_findResolved 16 = .ok (.aload_n 0, 1) := by decide +kernel
theorem dX6_findResolved_17 : decode cX6_findResolved 17 = .ok (.invokevirtual 190, 3) := by decide +kernel
theorem dX6_findResolved_20 : decode cX6_findResolved 20 = .ok (.ifCond .ne 14, 3) := by decide +kernel
theorem dX6_findResolved_23 : decode cX6_findResolved 23 = .ok (.iinc 2 1, 3) := by decide +kernel
theorem dX6_findResolved_26 : decode cX6_findResolved 26 = .ok (.aload_n 0, 1) := by decide +kernel
theorem dX6_findResolved_27 : decode cX6_findResolved 27 = .ok (.iload_n 2, 1) := by decide +kernel
theorem dX6_findResolved_28 : decode cX6_findResolved 28 = .ok (.invokevirtual 168, 3) := by decide +kernel
theorem dX6_findResolved_31 : decode cX6_findResolved 31 = .ok (.goto (-15), 3) := by decide +kernel
theorem dX6_findResolved_34 : decode cX6_findResolved 34 = .ok (.aload_n 0, 1) := by decide +kernel
theorem dX6_findResolved_35 : decode cX6_findResolved 35 = .ok (.getfield 162, 3) := by decide +kernel
theorem dX6_findResolved_38 : decode cX6_findResolved 38 = .ok (.ireturn, 1) := by decide +kernel
set_option maxRecDepth 20000 in
theorem ggX6_resolved_X6_findResolved : GoodIn wsX6_resolved wsX6_findResolved := goodIn_r _ [6, 7, 8, 9, 10, 5, 11, 12, 13, 14, 15, 16, 17, 18, 19, 20, 21, 22, 23, 24, 25, 26, 27, 28, 29, 1, 30, 31, 32, 33, 34, 35, 36, 37, 38, 39, 40, 41, 42, 43, 44, 45, 46, 47, 48, 49, 50, 51, 52, 53, 54, 55, 56, 57, 58, 59] (by decide +kernel) (by decide +kernel)
set_option maxRecDepth 20000 in
theorem gX6_resolved_X6_findResolved : GoodIn wsX6_resolved (wsV RX6 196 RX6 yX6_findResolved wsX6_findResolved) := goodIn_app (goodIn_of _ (by decide +kernel)) ggX6_resolved_X6_findResolved
theorem dX6_resolved_0 : decode cX6_resolved 0 = .ok (.iload_n 1, 1) := by decide +kernel
theorem dX6_resolved_1 : decode cX6_resolved 1 = .ok (.ifCond .ge 5, 3) := by decide +kernel
theorem dX6_resolved_4 : decode cX6_resolved 4 = .ok (.iconst (-1), 1) := by decide +kernel
theorem dX6_resolved_5 : decode cX6_resolved 5 = .ok (.ireturn, 1) := by decide +kernel
theorem dX6_resolved_6 : decode cX6_resolved 6 = .ok (.iload_n 1, 1) := by decide +kernel
theorem dX6_resolved_7 : decode cX6_resolved 7 = .ok (.aload_n 0, 1) := by decide +kernel
theorem dX6_resolved_8 : decode cX6_resolved 8 = .ok (.invokevirtual 196, 3) := by decide +kernel
theorem dX6_resolved_11 : decode cX6_resolved 11 = .ok (.if_icmp .ge 12, 3) := by decide +kernel
theorem dX6_resolved_14 : decode cX6_resolved 14 = .ok (.aload_n 0, 1) := by decide +kernel
theorem dX6_resolved_15 : decode cX6_resolved 15 = .ok (.getfield 53, 3) := by decide +kernel
theorem dX6_resolved_18 : decode cX6_resolved 18 = .ok (.iload_n 1, 1) := by decide +kernel
theorem dX6_resolved_19 : decode cX6_resolved 19 = .ok (.iaload, 1) := by decide +kernel
theorem dX6_resolved_20 : decode cX6_resolved 20 = .ok (.goto 5, 3) := by decide +kernel
theorem dX6_resolved_23 : decode cX6_resolved 23 = .ok (.bipush (-5), 2) := by decide +kernel
theorem dX6_resolved_25 : decode cX6_resolved 25 = .ok (.ireturn, 1) := by decide +kernel
set_option maxRecDepth 20000 in
theorem ggX6_isOpen_X6_isOn : GoodIn wsX6_isOpen wsX6_isOn := goodIn_r _ [5, 6, 7, 8, 4, 9, 48, 49, 50, 51, 52, 53, 54, 55, 56, 57, 58, 59, 60, 61, 62, 63, 64, 65, 66, 67, 68, 69] (by decide +kernel) (by decide +kernel)
set_option maxRecDepth 20000 in
theorem gX6_isOpen_X6_isOn : GoodIn wsX6_isOpen (wsV RX6 156 RX6 yX6_isOn wsX6_isOn) := goodIn_app (goodIn_of _ (by decide +kernel)) ggX6_isOpen_X6_isOn
set_option maxRecDepth 20000 in
theorem ggX6_isOpen_X6_isAhead : GoodIn wsX6_isOpen wsX6_isAhead := goodIn_r _ [13, 14, 48, 49, 50, 51, 52, 53, 54, 55, 56, 57, 58, 59, 60, 61, 62, 63, 64, 65, 66, 67, 68, 69] (by decide +kernel) (by decide +kernel)
set_option maxRecDepth 20000 in
theorem gX6_isOpen_X6_isAhead : GoodIn wsX6_isOpen (wsV RX6 184 RX6 yX6_isAhead wsX6_isAhead) := goodIn_app (goodIn_of _ (by decide +kernel)) ggX6_isOpen_X6_isAhead
set_option maxRecDepth 20000 in
theorem ggX6_isOpen_X6_findWitness : GoodIn wsX6_isOpen wsX6_findWitness := goodIn_r _ [18, 19, 20, 21, 22, 23, 4, 24, 6, 25, 26, 27, 28, 7, 8, 9, 29, 30, 31, 32, 33, 34, 35, 36, 37, 38, 39, 40, 41, 42, 43, 44, 45, 46, 47, 48, 49, 50, 51, 52, 53, 54, 55, 56, 57, 58, 59, 60, 61, 62, 63, 64, 65, 66, 67, 68, 69] (by decide +kernel) (by decide +kernel)
set_option maxRecDepth 20000 in
theorem gX6_isOpen_X6_findWitness : GoodIn wsX6_isOpen (wsV RX6 153 RX6 yX6_findWitness wsX6_findWitness) := goodIn_app (goodIn_of _ (by decide +kernel)) ggX6_isOpen_X6_findWitness
theorem dX6_isOpen_0 : decode cX6_isOpen 0 = .ok (.aload_n 0, 1) := by decide +kernel
theorem dX6_isOpen_1 : decode cX6_isOpen 1 = .ok (.iload_n 1, 1) := by decide +kernel
theorem dX6_isOpen_2 : decode cX6_isOpen 2 = .ok (.invokevirtual 156, 3) := by decide +kernel
theorem dX6_isOpen_5 : decode cX6_isOpen 5 = .ok (.ifCond .eq 42, 3) := by decide +kernel
theorem dX6_isOpen_8 : decode cX6_isOpen 8 = .ok (.aload_n 0, 1) := by decide +kernel
theorem dX6_isOpen_9 : decode cX6_isOpen 9 = .ok (.iload_n 2, 1) := by decide +kernel
theorem dX6_isOpen_10 : decode cX6_isOpen 10 = .ok (.invokevirtual 156, 3) := by decide +kernel
theorem dX6_isOpen_13 : decode cX6_isOpen 13 = .ok (.ifCond .eq 34, 3) := by decide +kernel
theorem dX6_isOpen_16 : decode cX6_isOpen 16 = .ok (.aload_n 0, 1) := by decide +kernel
theorem dX6_isOpen_17 : decode cX6_isOpen 17 = .ok (.iload_n 1, 1) := by decide +kernel
theorem dX6_isOpen_18 : decode cX6_isOpen 18 = .ok (.iload_n 2, 1) := by decide +kernel
theorem dX6_isOpen_19 : decode cX6_isOpen 19 = .ok (.invokevirtual 184, 3) := by decide +kernel
theorem dX6_isOpen_22 : decode cX6_isOpen 22 = .ok (.ifCond .ne 25, 3) := by decide +kernel
theorem dX6_isOpen_25 : decode cX6_isOpen 25 = .ok (.aload_n 0, 1) := by decide +kernel
theorem dX6_isOpen_26 : decode cX6_isOpen 26 = .ok (.iload_n 2, 1) := by decide +kernel
theorem dX6_isOpen_27 : decode cX6_isOpen 27 = .ok (.iload_n 1, 1) := by decide +kernel
theorem dX6_isOpen_28 : decode cX6_isOpen 28 = .ok (.invokevirtual 184, 3) := by decide +kernel
theorem dX6_isOpen_31 : decode cX6_isOpen 31 = .ok (.ifCond .ne 16, 3) := by decide +kernel
theorem dX6_isOpen_34 : decode cX6_isOpen 34 = .ok (.aload_n 0, 1) := by decide +kernel
theorem dX6_isOpen_35 : decode cX6_isOpen 35 = .ok (.iload_n 1, 1) := by decide +kernel
theorem dX6_isOpen_36 : decode cX6_isOpen 36 = .ok (.iload_n 2, 1) := by decide +kernel
theorem dX6_isOpen_37 : decode cX6_isOpen 37 = .ok (.invokevirtual 153, 3) := by decide +kernel
theorem dX6_isOpen_40 : decode cX6_isOpen 40 = .ok (.ifCond .le 7, 3) := by decide +kernel
theorem dX6_isOpen_43 : decode cX6_isOpen 43 = .ok (.iconst 1, 1) := by decide +kernel
theorem dX6_isOpen_44 : decode cX6_isOpen 44 = .ok (.goto 4, 3) := by decide +kernel
theorem dX6_isOpen_47 : decode cX6_isOpen 47 = .ok (.iconst 0, 1) := by decide +kernel
theorem dX6_isOpen_48 : decode cX6_isOpen 48 = .ok (.ireturn, 1) := by decide +kernel
set_option maxRecDepth 20000 in
theorem ggX6_openNow_X6_findBehind : GoodIn wsX6_openNow wsX6_findBehind := goodIn_r _ [6, 7, 1, 8, 9, 5, 10, 56, 57, 58, 59, 60, 61, 62, 63, 64, 65, 66, 67, 68, 69, 70, 71, 72, 73, 74, 75, 76, 77] (by decide +kernel) (by decide +kernel)
set_option maxRecDepth 20000 in
theorem gX6_openNow_X6_findBehind : GoodIn wsX6_openNow (wsV RX6 181 RX6 yX6_findBehind wsX6_findBehind) := goodIn_app (goodIn_of _ (by decide +kernel)) ggX6_openNow_X6_findBehind
set_option maxRecDepth 20000 in
theorem ggX6_openNow_X6_isOpen : GoodIn wsX6_openNow wsX6_isOpen := goodIn_r _ [14, 15, 16, 17, 5, 18, 1, 8, 9, 10, 19, 20, 21, 22, 7, 23, 24, 25, 26, 27, 28, 29, 30, 31, 32, 33, 34, 35, 36, 37, 38, 39, 40, 41, 42, 43, 44, 45, 46, 47, 48, 49, 50, 51, 52, 53, 54, 55, 56, 57, 58, 59, 60, 61, 62, 63, 64, 65, 66, 67, 68, 69, 70, 71, 72, 73, 74, 75, 76, 77] (by decide +kernel) (by decide +kernel)
set_option maxRecDepth 20000 in
theorem gX6_openNow_X6_isOpen : GoodIn wsX6_openNow (wsV RX6 199 RX6 yX6_isOpen wsX6_isOpen) := goodIn_app (goodIn_of _ (by decide +kernel)) ggX6_openNow_X6_isOpen
theorem dX6_openNow_0 : decode cX6_openNow 0 = .ok (.aload_n 0, 1) := by decide +kernel
theorem dX6_openNow_1 : decode cX6_openNow 1 = .ok (.invokevirtual 181, 3) := by decide +kernel
theorem dX6_openNow_4 : decode cX6_openNow 4 = .ok (.iconst 0, 1) := by decide +kernel
theorem dX6_openNow_5 : decode cX6_openNow 5 = .ok (.istore_n 1, 1) := by decide +kernel
theorem dX6_openNow_6 : decode cX6_openNow 6 = .ok (.iconst 0, 1) := by decide +kernel
theorem dX6_openNow_7 : decode cX6_openNow 7 = .ok (.istore_n 2, 1) := by decide +kernel
theorem dX6_openNow_8 : decode cX6_openNow 8 = .ok (.iload_n 2, 1) := by decide +kernel
theorem dX6_openNow_9 : decode cX6_openNow 9 = .ok (.aload_n 0, 1) := by decide +kernel
theorem dX6_openNow_10 : decode cX6_openNow 10 = .ok (.getfield 7, 3) := by decide +kernel
theorem dX6_openNow_13 : decode cX6_openNow 13 = .ok (.bipush 34, 2) := by decide +kernel
theorem dX6_openNow_15 : decode cX6_openNow 15 = .ok (.iaload, 1) := by decide +kernel
theorem dX6_openNow_16 : decode cX6_openNow 16 = .ok (.if_icmp .ge 47, 3) := by decide +kernel
theorem dX6_openNow_19 : decode cX6_openNow 19 = .ok (.iload_n 2, 1) := by decide +kernel
theorem dX6_openNow_20 : decode cX6_openNow 20 = .ok (.iconst 1, 1) := by decide +kernel
theorem dX6_openNow_21 : decode cX6_openNow 21 = .ok (.iadd, 1) := by decide +kernel
theorem dX6_openNow_22 : decode cX6_openNow 22 = .ok (.istore_n 3, 1) := by decide +kernel
theorem dX6_openNow_23 : decode cX6_openNow 23 = .ok (.iload_n 3, 1) := by decide +kernel
theorem dX6_openNow_24 : decode cX6_openNow 24 = .ok (.aload_n 0, 1) := by decide +kernel
theorem dX6_openNow_25 : decode cX6_openNow 25 = .ok (.getfield 7, 3) := by decide +kernel
theorem dX6_openNow_28 : decode cX6_openNow 28 = .ok (.bipush 34, 2) := by decide +kernel
theorem dX6_openNow_30 : decode cX6_openNow 30 = .ok (.iaload, 1) := by decide +kernel
theorem dX6_openNow_31 : decode cX6_openNow 31 = .ok (.if_icmp .ge 26, 3) := by decide +kernel
theorem dX6_openNow_34 : decode cX6_openNow 34 = .ok (.iload_n 1, 1) := by decide +kernel
theorem dX6_openNow_35 : decode cX6_openNow 35 = .ok (.aload_n 0, 1) := by decide +kernel
theorem dX6_openNow_36 : decode cX6_openNow 36 = .ok (.iload_n 2, 1) := by decide +kernel
theorem dX6_openNow_37 : decode cX6_openNow 37 = .ok (.iload_n 3, 1) := by decide +kernel
theorem dX6_openNow_38 : decode cX6_openNow 38 = .ok (.invokevirtual 199, 3) := by decide +kernel
theorem dX6_openNow_41 : decode cX6_openNow 41 = .ok (.ifCond .eq 7, 3) := by decide +kernel
theorem dX6_openNow_44 : decode cX6_openNow 44 = .ok (.iconst 1, 1) := by decide +kernel
theorem dX6_openNow_45 : decode cX6_openNow 45 = .ok (.goto 4, 3) := by decide +kernel
theorem dX6_openNow_48 : decode cX6_openNow 48 = .ok (.iconst 0, 1) := by decide +kernel
theorem dX6_openNow_49 : decode cX6_openNow 49 = .ok (.iadd, 1) := by decide +kernel
theorem dX6_openNow_50 : decode cX6_openNow 50 = .ok (.istore_n 1, 1) := by decide +kernel
theorem dX6_openNow_51 : decode cX6_openNow 51 = .ok (.iinc 3 1, 3) := by decide +kernel
theorem dX6_openNow_54 : decode cX6_openNow 54 = .ok (.goto (-31), 3) := by decide +kernel
theorem dX6_openNow_57 : decode cX6_openNow 57 = .ok (.iinc 2 1, 3) := by decide +kernel
theorem dX6_openNow_60 : decode cX6_openNow 60 = .ok (.goto (-52), 3) := by decide +kernel
theorem dX6_openNow_63 : decode cX6_openNow 63 = .ok (.iload_n 1, 1) := by decide +kernel
theorem dX6_openNow_64 : decode cX6_openNow 64 = .ok (.ireturn, 1) := by decide +kernel
set_option maxRecDepth 20000 in
theorem ggX6_open_X6_openNow : GoodIn wsX6_open wsX6_openNow := goodIn_r _ [5, 6, 7, 8, 9, 4, 10, 11, 12, 13, 14, 15, 16, 17, 18, 19, 20, 21, 22, 23, 24, 25, 26, 27, 28, 29, 30, 31, 32, 33, 34, 35, 36, 37, 38, 39, 40, 41, 42, 43, 44, 45, 46, 47, 48, 49, 50, 51, 52, 53, 54, 55, 56, 57, 58, 59, 60, 61, 62, 63, 64, 65, 66, 67, 68, 69, 70, 71, 72, 73, 74, 75, 76, 77, 78, 79, 80, 81] (by decide +kernel) (by decide +kernel)
set_option maxRecDepth 20000 in
theorem gX6_open_X6_openNow : GoodIn wsX6_open (wsV RX6 202 RX6 yX6_openNow wsX6_openNow) := goodIn_app (goodIn_of _ (by decide +kernel)) ggX6_open_X6_openNow
theorem dX6_open_0 : decode cX6_open 0 = .ok (.aload_n 0, 1) := by decide +kernel
theorem dX6_open_1 : decode cX6_open 1 = .ok (.invokevirtual 202, 3) := by decide +kernel
theorem dX6_open_4 : decode cX6_open 4 = .ok (.ireturn, 1) := by decide +kernel
set_option maxRecDepth 20000 in
theorem ggX6_isResolvedNow_X6_findResolved : GoodIn wsX6_isResolvedNow wsX6_findResolved := goodIn_r _ [7, 8, 9, 10, 11, 6, 12, 13, 14, 15, 16, 17, 18, 19, 20, 21, 22, 23, 24, 25, 26, 27, 28, 29, 30, 31, 32, 33, 34, 35, 36, 37, 38, 39, 71, 72, 73, 74, 75, 76, 77, 78, 79, 80, 81, 82, 83, 84, 85, 86, 87, 88, 89, 90, 91, 92] (by decide +kernel) (by decide +kernel)
set_option maxRecDepth 20000 in
theorem gX6_isResolvedNow_X6_findResolved : GoodIn wsX6_isResolvedNow (wsV RX6 196 RX6 yX6_findResolved wsX6_findResolved) := goodIn_app (goodIn_of _ (by decide +kernel)) ggX6_isResolvedNow_X6_findResolved
set_option maxRecDepth 20000 in
theorem ggX6_isResolvedNow_X6_putsOrder : GoodIn wsX6_isResolvedNow wsX6_putsOrder := goodIn_r _ [43, 8, 31, 44, 45, 46, 6, 47, 14, 48, 49, 50, 51, 15, 16, 17, 71, 72, 73, 74, 75, 76, 77, 78, 79, 80, 81, 82, 83, 84, 85, 86, 87, 88, 89, 90, 91, 92] (by decide +kernel) (by decide +kernel)
set_option maxRecDepth 20000 in
theorem gX6_isResolvedNow_X6_putsOrder : GoodIn wsX6_isResolvedNow (wsV RX6 171 RX6 yX6_putsOrder wsX6_putsOrder) := goodIn_app (goodIn_of _ (by decide +kernel)) ggX6_isResolvedNow_X6_putsOrder
set_option maxRecDepth 20000 in
theorem ggX6_isResolvedNow_X6_findThose : GoodIn wsX6_isResolvedNow wsX6_findThose := goodIn_r _ [21, 8, 14, 22, 23, 24, 25, 6, 26, 15, 16, 17, 71, 72, 73, 74, 75, 76, 77, 78, 79, 80, 81, 82, 83, 84, 85, 86, 87, 88, 89, 90, 91, 92] (by decide +kernel) (by decide +kernel)
set_option maxRecDepth 20000 in
theorem gX6_isResolvedNow_X6_findThose : GoodIn wsX6_isResolvedNow (wsV RX6 165 RX6 yX6_findThose wsX6_findThose) := goodIn_app (goodIn_of _ (by decide +kernel)) ggX6_isResolvedNow_X6_findThose
set_option maxRecDepth 20000 in
theorem ggX6_isResolvedNow_X6_findOrder : GoodIn wsX6_isResolvedNow wsX6_findOrder := goodIn_r _ [30, 8, 31, 22, 71, 72, 73, 74, 75, 76, 77, 78, 79, 80, 81, 82, 83, 84, 85, 86, 87, 88, 89, 90, 91, 92] (by decide +kernel) (by decide +kernel)
set_option maxRecDepth 20000 in
theorem gX6_isResolvedNow_X6_findOrder : GoodIn wsX6_isResolvedNow (wsV RX6 168 RX6 yX6_findOrder wsX6_findOrder) := goodIn_app (goodIn_of _ (by decide +kernel)) ggX6_isResolvedNow_X6_findOrder
set_option maxRecDepth 20000 in
theorem ggX6_isResolvedNow_X6_isAllowed : GoodIn wsX6_isResolvedNow wsX6_isAllowed := goodIn_r _ [35, 8, 31, 36, 37, 38, 6, 39, 13, 71, 72, 73, 74, 75, 76, 77, 78, 79, 80, 81, 82, 83, 84, 85, 86, 87, 88, 89, 90, 91, 92] (by decide +kernel) (by decide +kernel)
set_option maxRecDepth 20000 in
theorem gX6_isResolvedNow_X6_isAllowed : GoodIn wsX6_isResolvedNow (wsV RX6 190 RX6 yX6_isAllowed wsX6_isAllowed) := goodIn_app (goodIn_of _ (by decide +kernel)) ggX6_isResolvedNow_X6_isAllowed
set_option maxRecDepth 20000 in
theorem ggX6_isResolvedNow_X6_findApart : GoodIn wsX6_isResolvedNow wsX6_findApart := goodIn_r _ [55, 56, 57, 58, 14, 1, 2, 59, 60, 61, 6, 62, 63, 64, 65, 66, 67, 68, 69, 70, 71, 72, 73, 74, 75, 76, 77, 78, 79, 80, 81, 82, 83, 84, 85, 86, 87, 88, 89, 90, 91, 92] (by decide +kernel) (by decide +kernel)
set_option maxRecDepth 20000 in
theorem gX6_isResolvedNow_X6_findApart : GoodIn wsX6_isResolvedNow (wsV RX6 146 RX6 yX6_findApart wsX6_findApart) := goodIn_app (goodIn_of _ (by decide +kernel)) ggX6_isResolvedNow_X6_findApart
theorem dX6_isResolvedNow_0 : decode cX6_isResolvedNow 0 = .ok (.aload_n 0, 1) := by decide +kernel
theorem dX6_isResolvedNow_1 : decode cX6_isResolvedNow 1 = .ok (.invokevirtual 196, 3) := by decide +kernel
theorem dX6_isResolvedNow_4 : decode cX6_isResolvedNow 4 = .ok (.istore_n 1, 1) := by decide +kernel
theorem dX6_isResolvedNow_5 : decode cX6_isResolvedNow 5 = .ok (.aload_n 0, 1) := by decide +kernel
theorem dX6_isResolvedNow_6 : decode cX6_isResolvedNow 6 = .ok (.aload_n 0, 1) := by decide +kernel
theorem dX6_isResolvedNow_7 : decode cX6_isResolvedNow 7 = .ok (.getfield 29, 3) := by decide +kernel
theorem dX6_isResolvedNow_10 : decode cX6_isResolvedNow 10 = .ok (.invokevirtual 171, 3) := by decide +kernel
theorem dX6_isResolvedNow_13 : decode cX6_isResolvedNow 13 = .ok (.aload_n 0, 1) := by decide +kernel
theorem dX6_isResolvedNow_14 : decode cX6_isResolvedNow 14 = .ok (.invokevirtual 165, 3) := by decide +kernel
theorem dX6_isResolvedNow_17 : decode cX6_isResolvedNow 17 = .ok (.istore_n 2, 1) := by decide +kernel
theorem dX6_isResolvedNow_18 : decode cX6_isResolvedNow 18 = .ok (.iconst 1, 1) := by decide +kernel
theorem dX6_isResolvedNow_19 : decode cX6_isResolvedNow 19 = .ok (.istore_n 3, 1) := by decide +kernel
theorem dX6_isResolvedNow_20 : decode cX6_isResolvedNow 20 = .ok (.iconst 0, 1) := by decide +kernel
theorem dX6_isResolvedNow_21 : decode cX6_isResolvedNow 21 = .ok (.istore 4, 2) := by decide +kernel
theorem dX6_isResolvedNow_23 : decode cX6_isResolvedNow 23 = .ok (.iload 4, 2) := by decide +kernel
theorem dX6_isResolvedNow_25 : decode cX6_isResolvedNow 25 = .ok (.iload_n 2, 1) := by decide +kernel
theorem dX6_isResolvedNow_26 : decode cX6_isResolvedNow 26 = .ok (.if_icmp .ge 47, 3) := by decide +kernel
theorem dX6_isResolvedNow_29 : decode cX6_isResolvedNow 29 = .ok (.iload_n 3, 1) := by decide +kernel
theorem dX6_isResolvedNow_30 : decode cX6_isResolvedNow 30 = .ok (.ifCond .eq 43, 3) := by decide +kernel
theorem dX6_isResolvedNow_33 : decode cX6_isResolvedNow 33 = .ok (.aload_n 0, 1) := by decide +kernel
theorem dX6_isResolvedNow_34 : decode cX6_isResolvedNow 34 = .ok (.iload 4, 2) := by decide +kernel
theorem dX6_isResolvedNow_36 : decode cX6_isResolvedNow 36 = .ok (.invokevirtual 168, 3) := by decide +kernel
theorem dX6_isResolvedNow_39 : decode cX6_isResolvedNow 39 = .ok (.aload_n 0, 1) := by decide +kernel
theorem dX6_isResolvedNow_40 : decode cX6_isResolvedNow 40 = .ok (.invokevirtual 190, 3) := by decide +kernel
theorem dX6_isResolvedNow_43 : decode cX6_isResolvedNow 43 = .ok (.ifCond .eq 24, 3) := by decide +kernel
theorem dX6_isResolvedNow_46 : decode cX6_isResolvedNow 46 = .ok (.aload_n 0, 1) := by decide +kernel
theorem dX6_isResolvedNow_47 : decode cX6_isResolvedNow 47 = .ok (.aload_n 0, 1) := by decide +kernel
theorem dX6_isResolvedNow_48 : decode cX6_isResolvedNow 48 = .ok (.getfield 32, 3) := by decide +kernel
theorem dX6_isResolvedNow_51 : decode cX6_isResolvedNow 51 = .ok (.invokevirtual 171, 3) := by decide +kernel
theorem dX6_isResolvedNow_54 : decode cX6_isResolvedNow 54 = .ok (.aload_n 0, 1) := by decide +kernel
theorem dX6_isResolvedNow_55 : decode cX6_isResolvedNow 55 = .ok (.invokevirtual 146, 3) := by decide +kernel
theorem dX6_isResolvedNow_58 : decode cX6_isResolvedNow 58 = .ok (.ifCond .ne 7, 3) := by decide +kernel
theorem dX6_isResolvedNow_61 : decode cX6_isResolvedNow 61 = .ok (.iconst 1, 1) := by decide +kernel
theorem dX6_isResolvedNow_62 : decode cX6_isResolvedNow 62 = .ok (.goto 4, 3) := by decide +kernel
theorem dX6_isResolvedNow_65 : decode cX6_isResolvedNow 65 = .ok (.iconst 0, 1) := by decide +kernel
theorem dX6_isResolvedNow_66 : decode cX6_isResolvedNow 66 = .ok (.istore_n 3, 1) := by decide +kernel
theorem dX6_isResolvedNow_67 : decode cX6_isResolvedNow 67 = .ok (.iinc 4 1, 3) := by decide +kernel
theorem dX6_isResolvedNow_70 : decode cX6_isResolvedNow 70 = .ok (.goto (-47), 3) := by decide +kernel
theorem dX6_isResolvedNow_73 : decode cX6_isResolvedNow 73 = .ok (.iload_n 3, 1) := by decide +kernel
theorem dX6_isResolvedNow_74 : decode cX6_isResolvedNow 74 = .ok (.ifCond .eq 7, 3) := by decide +kernel
theorem dX6_isResolvedNow_77 : decode cX6_isResolvedNow 77 = .ok (.iconst 1, 1) := by decide +kernel
theorem dX6_isResolvedNow_78 : decode cX6_isResolvedNow 78 = .ok (.goto 4, 3) := by decide +kernel
theorem dX6_isResolvedNow_81 : decode cX6_isResolvedNow 81 = .ok (.iconst 0, 1) := by decide +kernel
theorem dX6_isResolvedNow_82 : decode cX6_isResolvedNow 82 = .ok (.ireturn, 1) := by decide +kernel
set_option maxRecDepth 20000 in
theorem ggX6_isResolved_X6_isResolvedNow : GoodIn wsX6_isResolved wsX6_isResolvedNow := goodIn_r _ [5, 6, 7, 8, 9, 10, 4, 11, 12, 13, 14, 15, 16, 17, 18, 19, 20, 21, 22, 23, 24, 25, 26, 27, 28, 29, 30, 31, 32, 33, 34, 35, 36, 37, 38, 39, 40, 41, 42, 43, 44, 45, 46, 47, 48, 49, 50, 51, 52, 53, 54, 55, 56, 57, 58, 59, 60, 61, 62, 63, 64, 65, 66, 67, 68, 69, 70, 71, 72, 73, 74, 75, 76, 77, 78, 79, 80, 81, 82, 83, 84, 85, 86, 87, 88, 89, 90, 91, 92, 93, 94, 95, 96] (by decide +kernel) (by decide +kernel)
set_option maxRecDepth 20000 in
theorem gX6_isResolved_X6_isResolvedNow : GoodIn wsX6_isResolved (wsV RX6 205 RX6 yX6_isResolvedNow wsX6_isResolvedNow) := goodIn_app (goodIn_of _ (by decide +kernel)) ggX6_isResolved_X6_isResolvedNow
theorem dX6_isResolved_0 : decode cX6_isResolved 0 = .ok (.aload_n 0, 1) := by decide +kernel
theorem dX6_isResolved_1 : decode cX6_isResolved 1 = .ok (.invokevirtual 205, 3) := by decide +kernel
theorem dX6_isResolved_4 : decode cX6_isResolved 4 = .ok (.ireturn, 1) := by decide +kernel
set_option maxRecDepth 20000 in
theorem ggX6_resolve_X6_findBehind : GoodIn wsX6_resolve wsX6_findBehind := goodIn_r _ [6, 7, 1, 8, 9, 5, 10, 56, 57, 58, 59, 60, 61, 62, 63, 64, 65, 66, 67, 68, 69, 70, 71, 72, 73, 74, 75, 76, 77] (by decide +kernel) (by decide +kernel)
set_option maxRecDepth 20000 in
theorem gX6_resolve_X6_findBehind : GoodIn wsX6_resolve (wsV RX6 181 RX6 yX6_findBehind wsX6_findBehind) := goodIn_app (goodIn_of _ (by decide +kernel)) ggX6_resolve_X6_findBehind
set_option maxRecDepth 20000 in
theorem ggX6_resolve_X6_isOpen : GoodIn wsX6_resolve wsX6_isOpen := goodIn_r _ [14, 15, 16, 17, 5, 18, 1, 8, 9, 10, 19, 20, 21, 22, 7, 23, 24, 25, 26, 27, 28, 29, 30, 31, 32, 33, 34, 35, 36, 37, 38, 39, 40, 41, 42, 43, 44, 45, 46, 47, 48, 49, 50, 51, 52, 53, 54, 55, 56, 57, 58, 59, 60, 61, 62, 63, 64, 65, 66, 67, 68, 69, 70, 71, 72, 73, 74, 75, 76, 77] (by decide +kernel) (by decide +kernel)
set_option maxRecDepth 20000 in
theorem gX6_resolve_X6_isOpen : GoodIn wsX6_resolve (wsV RX6 199 RX6 yX6_isOpen wsX6_isOpen) := goodIn_app (goodIn_of _ (by decide +kernel)) ggX6_resolve_X6_isOpen
set_option maxRecDepth 20000 in
theorem ggX6_resolve_X6_at : GoodIn wsX6_resolve wsX6_at := goodIn_r _ [10] (by decide +kernel) (by decide +kernel)
set_option maxRecDepth 20000 in
theorem gX6_resolve_X6_at : GoodIn wsX6_resolve (va_wsS RX6 85 yX6_at wsX6_at) := goodIn_app (goodIn_of _ (by decide +kernel)) ggX6_resolve_X6_at
theorem dX6_resolve_0 : decode cX6_resolve 0 = .ok (.iconst 0, 1) := by decide +kernel
theorem dX6_resolve_1 : decode cX6_resolve 1 = .ok (.istore_n 1, 1) := by decide +kernel
theorem dX6_resolve_2 : decode cX6_resolve 2 = .ok (.aload_n 0, 1) := by decide +kernel
theorem dX6_resolve_3 : decode cX6_resolve 3 = .ok (.invokevirtual 181, 3) := by decide +kernel
theorem dX6_resolve_6 : decode cX6_resolve 6 = .ok (.iconst 0, 1) := by decide +kernel
theorem dX6_resolve_7 : decode cX6_resolve 7 = .ok (.istore_n 2, 1) := by decide +kernel
theorem dX6_resolve_8 : decode cX6_resolve 8 = .ok (.iload_n 2, 1) := by decide +kernel
theorem dX6_resolve_9 : decode cX6_resolve 9 = .ok (.aload_n 0, 1) := by decide +kernel
theorem dX6_resolve_10 : decode cX6_resolve 10 = .ok (.getfield 7, 3) := by decide +kernel
theorem dX6_resolve_13 : decode cX6_resolve 13 = .ok (.bipush 34, 2) := by decide +kernel
theorem dX6_resolve_15 : decode cX6_resolve 15 = .ok (.iaload, 1) := by decide +kernel
theorem dX6_resolve_16 : decode cX6_resolve 16 = .ok (.if_icmp .ge 63, 3) := by decide +kernel
theorem dX6_resolve_19 : decode cX6_resolve 19 = .ok (.iload_n 2, 1) := by decide +kernel
theorem dX6_resolve_20 : decode cX6_resolve 20 = .ok (.iconst 1, 1) := by decide +kernel
theorem dX6_resolve_21 : decode cX6_resolve 21 = .ok (.iadd, 1) := by decide +kernel
theorem dX6_resolve_22 : decode cX6_resolve 22 = .ok (.istore_n 3, 1) := by decide +kernel
theorem dX6_resolve_23 : decode cX6_resolve 23 = .ok (.iload_n 3, 1) := by decide +kernel
theorem dX6_resolve_24 : decode cX6_resolve 24 = .ok (.aload_n 0, 1) := by decide +kernel
theorem dX6_resolve_25 : decode cX6_resolve 25 = .ok (.getfield 7, 3) := by decide +kernel
theorem dX6_resolve_28 : decode cX6_resolve 28 = .ok (.bipush 34, 2) := by decide +kernel
theorem dX6_resolve_30 : decode cX6_resolve 30 = .ok (.iaload, 1) := by decide +kernel
theorem dX6_resolve_31 : decode cX6_resolve 31 = .ok (.if_icmp .ge 42, 3) := by decide +kernel
theorem dX6_resolve_34 : decode cX6_resolve 34 = .ok (.aload_n 0, 1) := by decide +kernel
theorem dX6_resolve_35 : decode cX6_resolve 35 = .ok (.iload_n 2, 1) := by decide +kernel
theorem dX6_resolve_36 : decode cX6_resolve 36 = .ok (.iload_n 3, 1) := by decide +kernel
theorem dX6_resolve_37 : decode cX6_resolve 37 = .ok (.invokevirtual 199, 3) := by decide +kernel
theorem dX6_resolve_40 : decode cX6_resolve 40 = .ok (.ifCond .eq 27, 3) := by decide +kernel
theorem dX6_resolve_43 : decode cX6_resolve 43 = .ok (.aload_n 0, 1) := by decide +kernel
theorem dX6_resolve_44 : decode cX6_resolve 44 = .ok (.getfield 7, 3) := by decide +kernel
theorem dX6_resolve_47 : decode cX6_resolve 47 = .ok (.iload_n 2, 1) := by decide +kernel
theorem dX6_resolve_48 : decode cX6_resolve 48 = .ok (.bipush 33, 2) := by decide +kernel
theorem dX6_resolve_50 : decode cX6_resolve 50 = .ok (.invokestatic 85, 3) := by decide +kernel
theorem dX6_resolve_53 : decode cX6_resolve 53 = .ok (.dup2, 1) := by decide +kernel
theorem dX6_resolve_54 : decode cX6_resolve 54 = .ok (.iaload, 1) := by decide +kernel
theorem dX6_resolve_55 : decode cX6_resolve 55 = .ok (.iconst 1, 1) := by decide +kernel
theorem dX6_resolve_56 : decode cX6_resolve 56 = .ok (.iload_n 3, 1) := by decide +kernel
theorem dX6_resolve_57 : decode cX6_resolve 57 = .ok (.ishl, 1) := by decide +kernel
theorem dX6_resolve_58 : decode cX6_resolve 58 = .ok (.ior, 1) := by decide +kernel
theorem dX6_resolve_59 : decode cX6_resolve 59 = .ok (.iastore, 1) := by decide +kernel
theorem dX6_resolve_60 : decode cX6_resolve 60 = .ok (.aload_n 0, 1) := by decide +kernel
theorem dX6_resolve_61 : decode cX6_resolve 61 = .ok (.invokevirtual 181, 3) := by decide +kernel
theorem dX6_resolve_64 : decode cX6_resolve 64 = .ok (.iinc 1 1, 3) := by decide +kernel
theorem dX6_resolve_67 : decode cX6_resolve 67 = .ok (.iinc 3 1, 3) := by decide +kernel
theorem dX6_resolve_70 : decode cX6_resolve 70 = .ok (.goto (-47), 3) := by decide +kernel
theorem dX6_resolve_73 : decode cX6_resolve 73 = .ok (.iinc 2 1, 3) := by decide +kernel
theorem dX6_resolve_76 : decode cX6_resolve 76 = .ok (.goto (-68), 3) := by decide +kernel
theorem dX6_resolve_79 : decode cX6_resolve 79 = .ok (.iload_n 1, 1) := by decide +kernel
theorem dX6_resolve_80 : decode cX6_resolve 80 = .ok (.ireturn, 1) := by decide +kernel
set_option maxRecDepth 20000 in
theorem ggX6_add_X6_isLetter : GoodIn wsX6_add wsX6_isLetter := goodIn_r _ [7, 8, 9, 10, 6, 11, 12, 13, 14, 15, 16, 17, 18, 19, 20, 21, 22, 23, 24, 25, 26, 27, 28, 29, 30, 31, 32, 33] (by decide +kernel) (by decide +kernel)
set_option maxRecDepth 20000 in
theorem gX6_add_X6_isLetter : GoodIn wsX6_add (wsV RX6 78 RX6 yX6_isLetter wsX6_isLetter) := goodIn_app (goodIn_of _ (by decide +kernel)) ggX6_add_X6_isLetter
theorem dX6_add_0 : decode cX6_add 0 = .ok (.aload_n 0, 1) := by decide +kernel
theorem dX6_add_1 : decode cX6_add 1 = .ok (.iload_n 1, 1) := by decide +kernel
theorem dX6_add_2 : decode cX6_add 2 = .ok (.invokevirtual 78, 3) := by decide +kernel
theorem dX6_add_5 : decode cX6_add 5 = .ok (.ifCond .ne 5, 3) := by decide +kernel
theorem dX6_add_8 : decode cX6_add 8 = .ok (.iconst (-1), 1) := by decide +kernel
theorem dX6_add_9 : decode cX6_add 9 = .ok (.ireturn, 1) := by decide +kernel
theorem dX6_add_10 : decode cX6_add 10 = .ok (.aload_n 0, 1) := by decide +kernel
theorem dX6_add_11 : decode cX6_add 11 = .ok (.getfield 70, 3) := by decide +kernel
theorem dX6_add_14 : decode cX6_add 14 = .ok (.bipush 20, 2) := by decide +kernel
theorem dX6_add_16 : decode cX6_add 16 = .ok (.if_icmp .ne 6, 3) := by decide +kernel
theorem dX6_add_19 : decode cX6_add 19 = .ok (.bipush (-4), 2) := by decide +kernel
theorem dX6_add_21 : decode cX6_add 21 = .ok (.ireturn, 1) := by decide +kernel
theorem dX6_add_22 : decode cX6_add 22 = .ok (.aload_n 0, 1) := by decide +kernel
theorem dX6_add_23 : decode cX6_add 23 = .ok (.getfield 20, 3) := by decide +kernel
theorem dX6_add_26 : decode cX6_add 26 = .ok (.aload_n 0, 1) := by decide +kernel
theorem dX6_add_27 : decode cX6_add 27 = .ok (.getfield 70, 3) := by decide +kernel
theorem dX6_add_30 : decode cX6_add 30 = .ok (.iload_n 1, 1) := by decide +kernel
theorem dX6_add_31 : decode cX6_add 31 = .ok (.iastore, 1) := by decide +kernel
theorem dX6_add_32 : decode cX6_add 32 = .ok (.aload_n 0, 1) := by decide +kernel
theorem dX6_add_33 : decode cX6_add 33 = .ok (.dup, 1) := by decide +kernel
theorem dX6_add_34 : decode cX6_add 34 = .ok (.getfield 70, 3) := by decide +kernel
theorem dX6_add_37 : decode cX6_add 37 = .ok (.iconst 1, 1) := by decide +kernel
theorem dX6_add_38 : decode cX6_add 38 = .ok (.iadd, 1) := by decide +kernel
theorem dX6_add_39 : decode cX6_add 39 = .ok (.putfield 70, 3) := by decide +kernel
theorem dX6_add_42 : decode cX6_add 42 = .ok (.aload_n 0, 1) := by decide +kernel
theorem dX6_add_43 : decode cX6_add 43 = .ok (.getfield 70, 3) := by decide +kernel
theorem dX6_add_46 : decode cX6_add 46 = .ok (.ireturn, 1) := by decide +kernel
theorem dX6_clearWord_0 : decode cX6_clearWord 0 = .ok (.aload_n 0, 1) := by decide +kernel
theorem dX6_clearWord_1 : decode cX6_clearWord 1 = .ok (.getfield 70, 3) := by decide +kernel
theorem dX6_clearWord_4 : decode cX6_clearWord 4 = .ok (.istore_n 1, 1) := by decide +kernel
theorem dX6_clearWord_5 : decode cX6_clearWord 5 = .ok (.aload_n 0, 1) := by decide +kernel
theorem dX6_clearWord_6 : decode cX6_clearWord 6 = .ok (.iconst 0, 1) := by decide +kernel
theorem dX6_clearWord_7 : decode cX6_clearWord 7 = .ok (.putfield 70, 3) := by decide +kernel
theorem dX6_clearWord_10 : decode cX6_clearWord 10 = .ok (.iload_n 1, 1) := by decide +kernel
theorem dX6_clearWord_11 : decode cX6_clearWord 11 = .ok (.ireturn, 1) := by decide +kernel
set_option maxRecDepth 20000 in
theorem ggX6_findResolvedMachine_X6_findResolved : GoodIn wsX6_findResolvedMachine wsX6_findResolved := goodIn_r _ [6, 7, 8, 9, 10, 5, 11, 12, 13, 14, 15, 16, 17, 18, 19, 20, 21, 22, 23, 24, 25, 26, 27, 28, 29, 30, 31, 32, 33, 34, 35, 36, 37, 38, 51, 52, 53, 54, 55, 56, 57, 58, 59, 60, 61, 62, 63, 64, 65, 66, 67, 68, 69, 70, 71, 72] (by decide +kernel) (by decide +kernel)
set_option maxRecDepth 20000 in
theorem gX6_findResolvedMachine_X6_findResolved : GoodIn wsX6_findResolvedMachine (wsV RX6 196 RX6 yX6_findResolved wsX6_findResolved) := goodIn_app (goodIn_of _ (by decide +kernel)) ggX6_findResolvedMachine_X6_findResolved
set_option maxRecDepth 20000 in
theorem ggX6_findResolvedMachine_X6_putsOrder : GoodIn wsX6_findResolvedMachine wsX6_putsOrder := goodIn_r _ [42, 7, 30, 43, 44, 45, 5, 46, 13, 47, 48, 49, 50, 14, 15, 16, 51, 52, 53, 54, 55, 56, 57, 58, 59, 60, 61, 62, 63, 64, 65, 66, 67, 68, 69, 70, 71, 72] (by decide +kernel) (by decide +kernel)
set_option maxRecDepth 20000 in
theorem gX6_findResolvedMachine_X6_putsOrder : GoodIn wsX6_findResolvedMachine (wsV RX6 171 RX6 yX6_putsOrder wsX6_putsOrder) := goodIn_app (goodIn_of _ (by decide +kernel)) ggX6_findResolvedMachine_X6_putsOrder
theorem dX6_findResolvedMachine_0 : decode cX6_findResolvedMachine 0 = .ok (.aload_n 0, 1) := by decide +kernel
theorem dX6_findResolvedMachine_1 : decode cX6_findResolvedMachine 1 = .ok (.invokevirtual 196, 3) := by decide +kernel
theorem dX6_findResolvedMachine_4 : decode cX6_findResolvedMachine 4 = .ok (.istore_n 1, 1) := by decide +kernel
theorem dX6_findResolvedMachine_5 : decode cX6_findResolvedMachine 5 = .ok (.aload_n 0, 1) := by decide +kernel
theorem dX6_findResolvedMachine_6 : decode cX6_findResolvedMachine 6 = .ok (.aload_n 0, 1) := by decide +kernel
theorem dX6_findResolvedMachine_7 : decode cX6_findResolvedMachine 7 = .ok (.getfield 29, 3) := by decide +kernel
theorem dX6_findResolvedMachine_10 : decode cX6_findResolvedMachine 10 = .ok (.invokevirtual 171, 3) := by decide +kernel
theorem dX6_findResolvedMachine_13 : decode cX6_findResolvedMachine 13 = .ok (.return_, 1) := by decide +kernel
set_option maxRecDepth 20000 in
theorem ggX6_answerOf_X6_next : GoodIn wsX6_answerOf wsX6_next := goodIn_r _ [6] (by decide +kernel) (by decide +kernel)
set_option maxRecDepth 20000 in
theorem gX6_answerOf_X6_next : GoodIn wsX6_answerOf (va_wsS RX6 135 yX6_next wsX6_next) := goodIn_app (goodIn_of _ (by decide +kernel)) ggX6_answerOf_X6_next
set_option maxRecDepth 20000 in
theorem ggX6_answerOf_X6_output : GoodIn wsX6_answerOf wsX6_output := goodIn_r _ [9] (by decide +kernel) (by decide +kernel)
set_option maxRecDepth 20000 in
theorem gX6_answerOf_X6_output : GoodIn wsX6_answerOf (va_wsS RX6 128 yX6_output wsX6_output) := goodIn_app (goodIn_of _ (by decide +kernel)) ggX6_answerOf_X6_output
theorem dX6_answerOf_0 : decode cX6_answerOf 0 = .ok (.iconst 0, 1) := by decide +kernel
theorem dX6_answerOf_1 : decode cX6_answerOf 1 = .ok (.istore_n 2, 1) := by decide +kernel
theorem dX6_answerOf_2 : decode cX6_answerOf 2 = .ok (.iconst 0, 1) := by decide +kernel
theorem dX6_answerOf_3 : decode cX6_answerOf 3 = .ok (.istore_n 3, 1) := by decide +kernel
theorem dX6_answerOf_4 : decode cX6_answerOf 4 = .ok (.iload_n 3, 1) := by decide +kernel
theorem dX6_answerOf_5 : decode cX6_answerOf 5 = .ok (.iload_n 1, 1) := by decide +kernel
theorem dX6_answerOf_6 : decode cX6_answerOf 6 = .ok (.if_icmp .ge 24, 3) := by decide +kernel
theorem dX6_answerOf_9 : decode cX6_answerOf 9 = .ok (.aload_n 0, 1) := by decide +kernel
theorem dX6_answerOf_10 : decode cX6_answerOf 10 = .ok (.getfield 29, 3) := by decide +kernel
theorem dX6_answerOf_13 : decode cX6_answerOf 13 = .ok (.iload_n 2, 1) := by decide +kernel
theorem dX6_answerOf_14 : decode cX6_answerOf 14 = .ok (.aload_n 0, 1) := by decide +kernel
theorem dX6_answerOf_15 : decode cX6_answerOf 15 = .ok (.getfield 20, 3) := by decide +kernel
theorem dX6_answerOf_18 : decode cX6_answerOf 18 = .ok (.iload_n 3, 1) := by decide +kernel
theorem dX6_answerOf_19 : decode cX6_answerOf 19 = .ok (.iaload, 1) := by decide +kernel
theorem dX6_answerOf_20 : decode cX6_answerOf 20 = .ok (.invokestatic 135, 3) := by decide +kernel
theorem dX6_answerOf_23 : decode cX6_answerOf 23 = .ok (.istore_n 2, 1) := by decide +kernel
theorem dX6_answerOf_24 : decode cX6_answerOf 24 = .ok (.iinc 3 1, 3) := by decide +kernel
theorem dX6_answerOf_27 : decode cX6_answerOf 27 = .ok (.goto (-23), 3) := by decide +kernel
theorem dX6_answerOf_30 : decode cX6_answerOf 30 = .ok (.aload_n 0, 1) := by decide +kernel
theorem dX6_answerOf_31 : decode cX6_answerOf 31 = .ok (.getfield 29, 3) := by decide +kernel
theorem dX6_answerOf_34 : decode cX6_answerOf 34 = .ok (.iload_n 2, 1) := by decide +kernel
theorem dX6_answerOf_35 : decode cX6_answerOf 35 = .ok (.aload_n 0, 1) := by decide +kernel
theorem dX6_answerOf_36 : decode cX6_answerOf 36 = .ok (.getfield 20, 3) := by decide +kernel
theorem dX6_answerOf_39 : decode cX6_answerOf 39 = .ok (.iload_n 1, 1) := by decide +kernel
theorem dX6_answerOf_40 : decode cX6_answerOf 40 = .ok (.iaload, 1) := by decide +kernel
theorem dX6_answerOf_41 : decode cX6_answerOf 41 = .ok (.invokestatic 128, 3) := by decide +kernel
theorem dX6_answerOf_44 : decode cX6_answerOf 44 = .ok (.ireturn, 1) := by decide +kernel
set_option maxRecDepth 20000 in
theorem ggX6_answer_X6_in : GoodIn wsX6_answer wsX6_in := goodIn_r _ [7] (by decide +kernel) (by decide +kernel)
set_option maxRecDepth 20000 in
theorem gX6_answer_X6_in : GoodIn wsX6_answer (va_wsS RX6 66 yX6_in wsX6_in) := goodIn_app (goodIn_of _ (by decide +kernel)) ggX6_answer_X6_in
set_option maxRecDepth 20000 in
theorem ggX6_answer_X6_findResolvedMachine : GoodIn wsX6_answer wsX6_findResolvedMachine := goodIn_r _ [11, 3, 12, 13, 14, 6, 15, 16, 17, 18, 19, 20, 21, 1, 22, 23, 24, 25, 26, 27, 28, 29, 30, 31, 32, 33, 34, 35, 36, 37, 38, 39, 40, 41, 42, 43, 44, 45, 46, 47, 48, 49, 50, 51, 52, 53, 54, 55, 56, 57, 58, 70, 71, 72, 73, 74, 75, 76, 77, 78, 79, 80, 81, 82, 83, 84, 85, 86, 87, 88, 89, 90, 91] (by decide +kernel) (by decide +kernel)
set_option maxRecDepth 20000 in
theorem gX6_answer_X6_findResolvedMachine : GoodIn wsX6_answer (wsV RX6 208 RX6 yX6_findResolvedMachine wsX6_findResolvedMachine) := goodIn_app (goodIn_of _ (by decide +kernel)) ggX6_answer_X6_findResolvedMachine
set_option maxRecDepth 20000 in
theorem ggX6_answer_X6_base : GoodIn wsX6_answer wsX6_base := goodIn_r _ [54, 1, 70, 71, 72, 73, 74, 75, 76, 77, 78, 79, 80, 81, 82, 83, 84, 85, 86, 87, 88, 89, 90, 91] (by decide +kernel) (by decide +kernel)
set_option maxRecDepth 20000 in
theorem gX6_answer_X6_base : GoodIn wsX6_answer (wsV RX6 138 RX6 yX6_base wsX6_base) := goodIn_app (goodIn_of _ (by decide +kernel)) ggX6_answer_X6_base
set_option maxRecDepth 20000 in
theorem ggX6_answer_X6_putsOn : GoodIn wsX6_answer wsX6_putsOn := goodIn_r _ [58, 1, 22, 23, 6, 24, 70, 71, 72, 73, 74, 75, 76, 77, 78, 79, 80, 81, 82, 83, 84, 85, 86, 87, 88, 89, 90, 91] (by decide +kernel) (by decide +kernel)
set_option maxRecDepth 20000 in
theorem gX6_answer_X6_putsOn : GoodIn wsX6_answer (wsV RX6 142 RX6 yX6_putsOn wsX6_putsOn) := goodIn_app (goodIn_of _ (by decide +kernel)) ggX6_answer_X6_putsOn
set_option maxRecDepth 20000 in
theorem ggX6_answer_X6_answerOf : GoodIn wsX6_answer wsX6_answerOf := goodIn_r _ [62, 3, 63, 64, 65, 6, 66, 67, 68, 69, 70, 71, 72, 73, 74, 75, 76, 77, 78, 79, 80, 81, 82, 83, 84, 85, 86, 87, 88, 89, 90, 91] (by decide +kernel) (by decide +kernel)
set_option maxRecDepth 20000 in
theorem gX6_answer_X6_answerOf : GoodIn wsX6_answer (wsV RX6 211 RX6 yX6_answerOf wsX6_answerOf) := goodIn_app (goodIn_of _ (by decide +kernel)) ggX6_answer_X6_answerOf
theorem dX6_answer_0 : decode cX6_answer 0 = .ok (.iload_n 1, 1) := by decide +kernel
theorem dX6_answer_1 : decode cX6_answer 1 = .ok (.bipush (-2), 2) := by decide +kernel
theorem dX6_answer_3 : decode cX6_answer 3 = .ok (.aload_n 0, 1) := by decide +kernel
theorem dX6_answer_4 : decode cX6_answer 4 = .ok (.getfield 7, 3) := by decide +kernel
theorem dX6_answer_7 : decode cX6_answer 7 = .ok (.bipush 34, 2) := by decide +kernel
theorem dX6_answer_9 : decode cX6_answer 9 = .ok (.iaload, 1) := by decide +kernel
theorem dX6_answer_10 : decode cX6_answer 10 = .ok (.iconst 1, 1) := by decide +kernel
theorem dX6_answer_11 : decode cX6_answer 11 = .ok (.isub, 1) := by decide +kernel
theorem dX6_answer_12 : decode cX6_answer 12 = .ok (.invokestatic 66, 3) := by decide +kernel
theorem dX6_answer_15 : decode cX6_answer 15 = .ok (.ifCond .eq 7, 3) := by decide +kernel
theorem dX6_answer_18 : decode cX6_answer 18 = .ok (.iload_n 2, 1) := by decide +kernel
theorem dX6_answer_19 : decode cX6_answer 19 = .ok (.ifCond .ge 5, 3) := by decide +kernel
theorem dX6_answer_22 : decode cX6_answer 22 = .ok (.iconst (-1), 1) := by decide +kernel
theorem dX6_answer_23 : decode cX6_answer 23 = .ok (.ireturn, 1) := by decide +kernel
theorem dX6_answer_24 : decode cX6_answer 24 = .ok (.iload_n 2, 1) := by decide +kernel
theorem dX6_answer_25 : decode cX6_answer 25 = .ok (.aload_n 0, 1) := by decide +kernel
theorem dX6_answer_26 : decode cX6_answer 26 = .ok (.getfield 70, 3) := by decide +kernel
theorem dX6_answer_29 : decode cX6_answer 29 = .ok (.if_icmp .lt 6, 3) := by decide +kernel
theorem dX6_answer_32 : decode cX6_answer 32 = .ok (.bipush (-5), 2) := by decide +kernel
theorem dX6_answer_34 : decode cX6_answer 34 = .ok (.ireturn, 1) := by decide +kernel
theorem dX6_answer_35 : decode cX6_answer 35 = .ok (.iload_n 1, 1) := by decide +kernel
theorem dX6_answer_36 : decode cX6_answer 36 = .ok (.bipush (-2), 2) := by decide +kernel
theorem dX6_answer_38 : decode cX6_answer 38 = .ok (.if_icmp .ne 10, 3) := by decide +kernel
theorem dX6_answer_41 : decode cX6_answer 41 = .ok (.aload_n 0, 1) := by decide +kernel
theorem dX6_answer_42 : decode cX6_answer 42 = .ok (.invokevirtual 208, 3) := by decide +kernel
theorem dX6_answer_45 : decode cX6_answer 45 = .ok (.goto 11, 3) := by decide +kernel
theorem dX6_answer_48 : decode cX6_answer 48 = .ok (.aload_n 0, 1) := by decide +kernel
theorem dX6_answer_49 : decode cX6_answer 49 = .ok (.aload_n 0, 1) := by decide +kernel
theorem dX6_answer_50 : decode cX6_answer 50 = .ok (.getfield 29, 3) := by decide +kernel
theorem dX6_answer_53 : decode cX6_answer 53 = .ok (.invokevirtual 138, 3) := by decide +kernel
theorem dX6_answer_56 : decode cX6_answer 56 = .ok (.iload_n 1, 1) := by decide +kernel
theorem dX6_answer_57 : decode cX6_answer 57 = .ok (.ifCond .lt 12, 3) := by decide +kernel
theorem dX6_answer_60 : decode cX6_answer 60 = .ok (.aload_n 0, 1) := by decide +kernel
theorem dX6_answer_61 : decode cX6_answer 61 = .ok (.aload_n 0, 1) := by decide +kernel
theorem dX6_answer_62 : decode cX6_answer 62 = .ok (.getfield 29, 3) := by decide +kernel
theorem dX6_answer_65 : decode cX6_answer 65 = .ok (.iload_n 1, 1) := by decide +kernel
theorem dX6_answer_66 : decode cX6_answer 66 = .ok (.invokevirtual 142, 3) := by decide +kernel
theorem dX6_answer_69 : decode cX6_answer 69 = .ok (.aload_n 0, 1) := by decide +kernel
theorem dX6_answer_70 : decode cX6_answer 70 = .ok (.iload_n 2, 1) := by decide +kernel
theorem dX6_answer_71 : decode cX6_answer 71 = .ok (.invokevirtual 211, 3) := by decide +kernel
theorem dX6_answer_74 : decode cX6_answer 74 = .ok (.ireturn, 1) := by decide +kernel
set_option maxRecDepth 20000 in
theorem ggX6_effects_X6_findResolvedMachine : GoodIn wsX6_effects wsX6_findResolvedMachine := goodIn_r _ [6, 7, 8, 9, 10, 5, 11, 12, 13, 14, 15, 16, 17, 18, 19, 20, 21, 22, 23, 24, 25, 26, 27, 28, 29, 30, 31, 32, 33, 34, 35, 36, 37, 38, 39, 40, 41, 42, 43, 44, 45, 46, 47, 48, 49, 50, 51, 52, 53, 54, 55, 75, 76, 77, 78, 79, 80, 81, 82, 83, 84, 85, 86, 87, 88, 89, 90, 91, 92, 93, 94, 95, 96] (by decide +kernel) (by decide +kernel)
set_option maxRecDepth 20000 in
theorem gX6_effects_X6_findResolvedMachine : GoodIn wsX6_effects (wsV RX6 208 RX6 yX6_findResolvedMachine wsX6_findResolvedMachine) := goodIn_app (goodIn_of _ (by decide +kernel)) ggX6_effects_X6_findResolvedMachine
set_option maxRecDepth 20000 in
theorem ggX6_effects_X6_base : GoodIn wsX6_effects wsX6_base := goodIn_r _ [51, 18, 75, 76, 77, 78, 79, 80, 81, 82, 83, 84, 85, 86, 87, 88, 89, 90, 91, 92, 93, 94, 95, 96] (by decide +kernel) (by decide +kernel)
set_option maxRecDepth 20000 in
theorem gX6_effects_X6_base : GoodIn wsX6_effects (wsV RX6 138 RX6 yX6_base wsX6_base) := goodIn_app (goodIn_of _ (by decide +kernel)) ggX6_effects_X6_base
set_option maxRecDepth 20000 in
theorem ggX6_effects_X6_findApart : GoodIn wsX6_effects wsX6_findApart := goodIn_r _ [59, 60, 61, 62, 18, 7, 1, 63, 64, 65, 5, 66, 67, 68, 69, 70, 71, 72, 73, 74, 75, 76, 77, 78, 79, 80, 81, 82, 83, 84, 85, 86, 87, 88, 89, 90, 91, 92, 93, 94, 95, 96] (by decide +kernel) (by decide +kernel)
set_option maxRecDepth 20000 in
theorem gX6_effects_X6_findApart : GoodIn wsX6_effects (wsV RX6 146 RX6 yX6_findApart wsX6_findApart) := goodIn_app (goodIn_of _ (by decide +kernel)) ggX6_effects_X6_findApart
theorem dX6_effects_0 : decode cX6_effects 0 = .ok (.aload_n 0, 1) := by decide +kernel
theorem dX6_effects_1 : decode cX6_effects 1 = .ok (.invokevirtual 208, 3) := by decide +kernel
theorem dX6_effects_4 : decode cX6_effects 4 = .ok (.aload_n 0, 1) := by decide +kernel
theorem dX6_effects_5 : decode cX6_effects 5 = .ok (.aload_n 0, 1) := by decide +kernel
theorem dX6_effects_6 : decode cX6_effects 6 = .ok (.getfield 32, 3) := by decide +kernel
theorem dX6_effects_9 : decode cX6_effects 9 = .ok (.invokevirtual 138, 3) := by decide +kernel
theorem dX6_effects_12 : decode cX6_effects 12 = .ok (.aload_n 0, 1) := by decide +kernel
theorem dX6_effects_13 : decode cX6_effects 13 = .ok (.invokevirtual 146, 3) := by decide +kernel
theorem dX6_effects_16 : decode cX6_effects 16 = .ok (.ireturn, 1) := by decide +kernel
set_option maxRecDepth 20000 in
theorem ggX6_effect_X6_effects : GoodIn wsX6_effect wsX6_effects := goodIn_r _ [6, 7, 8, 9, 10, 5, 11, 12, 13, 14, 15, 16, 17, 18, 19, 20, 21, 22, 23, 24, 25, 26, 27, 28, 29, 30, 31, 32, 33, 34, 35, 36, 37, 38, 39, 40, 41, 42, 43, 44, 45, 46, 47, 48, 49, 50, 51, 52, 53, 54, 55, 56, 57, 58, 59, 60, 61, 62, 63, 64, 65, 66, 67, 68, 69, 70, 71, 72, 73, 74, 75, 1, 76, 77, 78, 79, 80, 81, 82, 83, 84, 85, 86, 87, 88, 89, 90, 91, 92, 93, 94, 95, 96, 97, 98, 99, 100] (by decide +kernel) (by decide +kernel)
set_option maxRecDepth 20000 in
theorem gX6_effect_X6_effects : GoodIn wsX6_effect (wsV RX6 214 RX6 yX6_effects wsX6_effects) := goodIn_app (goodIn_of _ (by decide +kernel)) ggX6_effect_X6_effects
theorem dX6_effect_0 : decode cX6_effect 0 = .ok (.iload_n 1, 1) := by decide +kernel
theorem dX6_effect_1 : decode cX6_effect 1 = .ok (.ifCond .ge 5, 3) := by decide +kernel
theorem dX6_effect_4 : decode cX6_effect 4 = .ok (.iconst (-1), 1) := by decide +kernel
theorem dX6_effect_5 : decode cX6_effect 5 = .ok (.ireturn, 1) := by decide +kernel
theorem dX6_effect_6 : decode cX6_effect 6 = .ok (.iload_n 1, 1) := by decide +kernel
theorem dX6_effect_7 : decode cX6_effect 7 = .ok (.aload_n 0, 1) := by decide +kernel
theorem dX6_effect_8 : decode cX6_effect 8 = .ok (.invokevirtual 214, 3) := by decide +kernel
theorem dX6_effect_11 : decode cX6_effect 11 = .ok (.if_icmp .ge 12, 3) := by decide +kernel
theorem dX6_effect_14 : decode cX6_effect 14 = .ok (.aload_n 0, 1) := by decide +kernel
theorem dX6_effect_15 : decode cX6_effect 15 = .ok (.getfield 47, 3) := by decide +kernel
theorem dX6_effect_18 : decode cX6_effect 18 = .ok (.iload_n 1, 1) := by decide +kernel
theorem dX6_effect_19 : decode cX6_effect 19 = .ok (.iaload, 1) := by decide +kernel
theorem dX6_effect_20 : decode cX6_effect 20 = .ok (.goto 5, 3) := by decide +kernel
theorem dX6_effect_23 : decode cX6_effect 23 = .ok (.bipush (-5), 2) := by decide +kernel
theorem dX6_effect_25 : decode cX6_effect 25 = .ok (.ireturn, 1) := by decide +kernel
set_option maxRecDepth 20000 in
theorem ggX6_save_X6_in : GoodIn wsX6_save wsX6_in := goodIn_r _ [7] (by decide +kernel) (by decide +kernel)
set_option maxRecDepth 20000 in
theorem gX6_save_X6_in : GoodIn wsX6_save (va_wsS RX6 66 yX6_in wsX6_in) := goodIn_app (goodIn_of _ (by decide +kernel)) ggX6_save_X6_in
theorem dX6_save_0 : decode cX6_save 0 = .ok (.iload_n 1, 1) := by decide +kernel
theorem dX6_save_1 : decode cX6_save 1 = .ok (.iconst 0, 1) := by decide +kernel
theorem dX6_save_2 : decode cX6_save 2 = .ok (.iconst 1, 1) := by decide +kernel
theorem dX6_save_3 : decode cX6_save 3 = .ok (.invokestatic 66, 3) := by decide +kernel
theorem dX6_save_6 : decode cX6_save 6 = .ok (.ifCond .ne 5, 3) := by decide +kernel
theorem dX6_save_9 : decode cX6_save 9 = .ok (.iconst (-1), 1) := by decide +kernel
theorem dX6_save_10 : decode cX6_save 10 = .ok (.ireturn, 1) := by decide +kernel
theorem dX6_save_11 : decode cX6_save 11 = .ok (.iconst 0, 1) := by decide +kernel
theorem dX6_save_12 : decode cX6_save 12 = .ok (.istore_n 2, 1) := by decide +kernel
theorem dX6_save_13 : decode cX6_save 13 = .ok (.iload_n 2, 1) := by decide +kernel
theorem dX6_save_14 : decode cX6_save 14 = .ok (.sipush 239, 3) := by decide +kernel
theorem dX6_save_17 : decode cX6_save 17 = .ok (.if_icmp .ge 27, 3) := by decide +kernel
theorem dX6_save_20 : decode cX6_save 20 = .ok (.aload_n 0, 1) := by decide +kernel
theorem dX6_save_21 : decode cX6_save 21 = .ok (.getfield 13, 3) := by decide +kernel
theorem dX6_save_24 : decode cX6_save 24 = .ok (.sipush 239, 3) := by decide +kernel
theorem dX6_save_27 : decode cX6_save 27 = .ok (.iload_n 1, 1) := by decide +kernel
theorem dX6_save_28 : decode cX6_save 28 = .ok (.imul, 1) := by decide +kernel
theorem dX6_save_29 : decode cX6_save 29 = .ok (.iload_n 2, 1) := by decide +kernel
theorem dX6_save_30 : decode cX6_save 30 = .ok (.iadd, 1) := by decide +kernel
theorem dX6_save_31 : decode cX6_save 31 = .ok (.aload_n 0, 1) := by decide +kernel
theorem dX6_save_32 : decode cX6_save 32 = .ok (.getfield 7, 3) := by decide +kernel
theorem dX6_save_35 : decode cX6_save 35 = .ok (.iload_n 2, 1) := by decide +kernel
theorem dX6_save_36 : decode cX6_save 36 = .ok (.iaload, 1) := by decide +kernel
theorem dX6_save_37 : decode cX6_save 37 = .ok (.iastore, 1) := by decide +kernel
theorem dX6_save_38 : decode cX6_save 38 = .ok (.iinc 2 1, 3) := by decide +kernel
theorem dX6_save_41 : decode cX6_save 41 = .ok (.goto (-28), 3) := by decide +kernel
theorem dX6_save_44 : decode cX6_save 44 = .ok (.aload_n 0, 1) := by decide +kernel
theorem dX6_save_45 : decode cX6_save 45 = .ok (.getfield 16, 3) := by decide +kernel
theorem dX6_save_48 : decode cX6_save 48 = .ok (.iload_n 1, 1) := by decide +kernel
theorem dX6_save_49 : decode cX6_save 49 = .ok (.iconst 1, 1) := by decide +kernel
theorem dX6_save_50 : decode cX6_save 50 = .ok (.bastore, 1) := by decide +kernel
theorem dX6_save_51 : decode cX6_save 51 = .ok (.aload_n 0, 1) := by decide +kernel
theorem dX6_save_52 : decode cX6_save 52 = .ok (.getfield 7, 3) := by decide +kernel
theorem dX6_save_55 : decode cX6_save 55 = .ok (.bipush 34, 2) := by decide +kernel
theorem dX6_save_57 : decode cX6_save 57 = .ok (.iaload, 1) := by decide +kernel
theorem dX6_save_58 : decode cX6_save 58 = .ok (.ireturn, 1) := by decide +kernel
set_option maxRecDepth 20000 in
theorem ggX6_restore_X6_in : GoodIn wsX6_restore wsX6_in := goodIn_r _ [8] (by decide +kernel) (by decide +kernel)
set_option maxRecDepth 20000 in
theorem gX6_restore_X6_in : GoodIn wsX6_restore (va_wsS RX6 66 yX6_in wsX6_in) := goodIn_app (goodIn_of _ (by decide +kernel)) ggX6_restore_X6_in
theorem dX6_restore_0 : decode cX6_restore 0 = .ok (.iload_n 1, 1) := by decide +kernel
theorem dX6_restore_1 : decode cX6_restore 1 = .ok (.iconst 0, 1) := by decide +kernel
theorem dX6_restore_2 : decode cX6_restore 2 = .ok (.iconst 1, 1) := by decide +kernel
theorem dX6_restore_3 : decode cX6_restore 3 = .ok (.invokestatic 66, 3) := by decide +kernel
theorem dX6_restore_6 : decode cX6_restore 6 = .ok (.ifCond .ne 5, 3) := by decide +kernel
theorem dX6_restore_9 : decode cX6_restore 9 = .ok (.iconst (-1), 1) := by decide +kernel
theorem dX6_restore_10 : decode cX6_restore 10 = .ok (.ireturn, 1) := by decide +kernel
theorem dX6_restore_11 : decode cX6_restore 11 = .ok (.aload_n 0, 1) := by decide +kernel
theorem dX6_restore_12 : decode cX6_restore 12 = .ok (.getfield 16, 3) := by decide +kernel
theorem dX6_restore_15 : decode cX6_restore 15 = .ok (.iload_n 1, 1) := by decide +kernel
theorem dX6_restore_16 : decode cX6_restore 16 = .ok (.baload, 1) := by decide +kernel
theorem dX6_restore_17 : decode cX6_restore 17 = .ok (.ifCond .ne 6, 3) := by decide +kernel
theorem dX6_restore_20 : decode cX6_restore 20 = .ok (.bipush (-3), 2) := by decide +kernel
theorem dX6_restore_22 : decode cX6_restore 22 = .ok (.ireturn, 1) := by decide +kernel
theorem dX6_restore_23 : decode cX6_restore 23 = .ok (.iconst 0, 1) := by decide +kernel
theorem dX6_restore_24 : decode cX6_restore 24 = .ok (.istore_n 2, 1) := by decide +kernel
theorem dX6_restore_25 : decode cX6_restore 25 = .ok (.iload_n 2, 1) := by decide +kernel
theorem dX6_restore_26 : decode cX6_restore 26 = .ok (.sipush 239, 3) := by decide +kernel
theorem dX6_restore_29 : decode cX6_restore 29 = .ok (.if_icmp .ge 27, 3) := by decide +kernel
theorem dX6_restore_32 : decode cX6_restore 32 = .ok (.aload_n 0, 1) := by decide +kernel
theorem dX6_restore_33 : decode cX6_restore 33 = .ok (.getfield 7, 3) := by decide +kernel
theorem dX6_restore_36 : decode cX6_restore 36 = .ok (.iload_n 2, 1) := by decide +kernel
theorem dX6_restore_37 : decode cX6_restore 37 = .ok (.aload_n 0, 1) := by decide +kernel
theorem dX6_restore_38 : decode cX6_restore 38 = .ok (.getfield 13, 3) := by decide +kernel
theorem dX6_restore_41 : decode cX6_restore 41 = .ok (.sipush 239, 3) := by decide +kernel
theorem dX6_restore_44 : decode cX6_restore 44 = .ok (.iload_n 1, 1) := by decide +kernel
theorem dX6_restore_45 : decode cX6_restore 45 = .ok (.imul, 1) := by decide +kernel
theorem dX6_restore_46 : decode cX6_restore 46 = .ok (.iload_n 2, 1) := by decide +kernel
theorem dX6_restore_47 : decode cX6_restore 47 = .ok (.iadd, 1) := by decide +kernel
theorem dX6_restore_48 : decode cX6_restore 48 = .ok (.iaload, 1) := by decide +kernel
theorem dX6_restore_49 : decode cX6_restore 49 = .ok (.iastore, 1) := by decide +kernel
theorem dX6_restore_50 : decode cX6_restore 50 = .ok (.iinc 2 1, 3) := by decide +kernel
theorem dX6_restore_53 : decode cX6_restore 53 = .ok (.goto (-28), 3) := by decide +kernel
theorem dX6_restore_56 : decode cX6_restore 56 = .ok (.aload_n 0, 1) := by decide +kernel
theorem dX6_restore_57 : decode cX6_restore 57 = .ok (.iconst 0, 1) := by decide +kernel
theorem dX6_restore_58 : decode cX6_restore 58 = .ok (.putfield 70, 3) := by decide +kernel
theorem dX6_restore_61 : decode cX6_restore 61 = .ok (.aload_n 0, 1) := by decide +kernel
theorem dX6_restore_62 : decode cX6_restore 62 = .ok (.getfield 7, 3) := by decide +kernel
theorem dX6_restore_65 : decode cX6_restore 65 = .ok (.bipush 34, 2) := by decide +kernel
theorem dX6_restore_67 : decode cX6_restore 67 = .ok (.iaload, 1) := by decide +kernel
theorem dX6_restore_68 : decode cX6_restore 68 = .ok (.ireturn, 1) := by decide +kernel
theorem dX6_more_0 : decode cX6_more 0 = .ok (.ldc2_w 217, 3) := by decide +kernel
theorem dX6_more_3 : decode cX6_more 3 = .ok (.lload_n 0, 1) := by decide +kernel
theorem dX6_more_4 : decode cX6_more 4 = .ok (.lmul, 1) := by decide +kernel
theorem dX6_more_5 : decode cX6_more 5 = .ok (.iload_n 2, 1) := by decide +kernel
theorem dX6_more_6 : decode cX6_more 6 = .ok (.i2l, 1) := by decide +kernel
theorem dX6_more_7 : decode cX6_more 7 = .ok (.ladd, 1) := by decide +kernel
theorem dX6_more_8 : decode cX6_more 8 = .ok (.lreturn, 1) := by decide +kernel
set_option maxRecDepth 20000 in
theorem ggX6_moreApart_X6_more : GoodIn wsX6_moreApart wsX6_more := goodIn_r _ [5, 6] (by decide +kernel) (by decide +kernel)
set_option maxRecDepth 20000 in
theorem gX6_moreApart_X6_more : GoodIn wsX6_moreApart (va_wsS RX6 219 yX6_more wsX6_more) := goodIn_app (goodIn_of _ (by decide +kernel)) ggX6_moreApart_X6_more
theorem dX6_moreApart_0 : decode cX6_moreApart 0 = .ok (.lload_n 1, 1) := by decide +kernel
theorem dX6_moreApart_1 : decode cX6_moreApart 1 = .ok (.lstore 4, 2) := by decide +kernel
theorem dX6_moreApart_3 : decode cX6_moreApart 3 = .ok (.iconst 0, 1) := by decide +kernel
theorem dX6_moreApart_4 : decode cX6_moreApart 4 = .ok (.istore 6, 2) := by decide +kernel
theorem dX6_moreApart_6 : decode cX6_moreApart 6 = .ok (.iload 6, 2) := by decide +kernel
theorem dX6_moreApart_8 : decode cX6_moreApart 8 = .ok (.iload_n 3, 1) := by decide +kernel
theorem dX6_moreApart_9 : decode cX6_moreApart 9 = .ok (.if_icmp .ge 23, 3) := by decide +kernel
theorem dX6_moreApart_12 : decode cX6_moreApart 12 = .ok (.lload 4, 2) := by decide +kernel
theorem dX6_moreApart_14 : decode cX6_moreApart 14 = .ok (.aload_n 0, 1) := by decide +kernel
theorem dX6_moreApart_15 : decode cX6_moreApart 15 = .ok (.getfield 47, 3) := by decide +kernel
theorem dX6_moreApart_18 : decode cX6_moreApart 18 = .ok (.iload 6, 2) := by decide +kernel
theorem dX6_moreApart_20 : decode cX6_moreApart 20 = .ok (.iaload, 1) := by decide +kernel
theorem dX6_moreApart_21 : decode cX6_moreApart 21 = .ok (.invokestatic 219, 3) := by decide +kernel
theorem dX6_moreApart_24 : decode cX6_moreApart 24 = .ok (.lstore 4, 2) := by decide +kernel
theorem dX6_moreApart_26 : decode cX6_moreApart 26 = .ok (.iinc 6 1, 3) := by decide +kernel
theorem dX6_moreApart_29 : decode cX6_moreApart 29 = .ok (.goto (-23), 3) := by decide +kernel
theorem dX6_moreApart_32 : decode cX6_moreApart 32 = .ok (.lload 4, 2) := by decide +kernel
theorem dX6_moreApart_34 : decode cX6_moreApart 34 = .ok (.lreturn, 1) := by decide +kernel
set_option maxRecDepth 20000 in
theorem ggX6_checksum_X6_more : GoodIn wsX6_checksum wsX6_more := goodIn_r _ [8, 9] (by decide +kernel) (by decide +kernel)
set_option maxRecDepth 20000 in
theorem gX6_checksum_X6_more : GoodIn wsX6_checksum (va_wsS RX6 219 yX6_more wsX6_more) := goodIn_app (goodIn_of _ (by decide +kernel)) ggX6_checksum_X6_more
set_option maxRecDepth 20000 in
theorem ggX6_checksum_X6_count : GoodIn wsX6_checksum wsX6_count := goodIn_r _ [13, 2, 14, 15, 7, 16, 130, 131, 132, 133, 134, 135, 136, 137, 138, 139, 140, 141, 142, 143, 144, 145, 146, 147, 148, 149, 150, 151] (by decide +kernel) (by decide +kernel)
set_option maxRecDepth 20000 in
theorem gX6_checksum_X6_count : GoodIn wsX6_checksum (wsV RX6 95 RX6 yX6_count wsX6_count) := goodIn_app (goodIn_of _ (by decide +kernel)) ggX6_checksum_X6_count
set_option maxRecDepth 20000 in
theorem ggX6_checksum_X6_reachNow : GoodIn wsX6_checksum wsX6_reachNow := goodIn_r _ [20, 21, 2, 22, 23, 24, 7, 25, 26, 27, 28, 29, 30, 31, 32, 33, 14, 15, 16, 130, 131, 132, 133, 134, 135, 136, 137, 138, 139, 140, 141, 142, 143, 144, 145, 146, 147, 148, 149, 150, 151] (by decide +kernel) (by decide +kernel)
set_option maxRecDepth 20000 in
theorem gX6_checksum_X6_reachNow : GoodIn wsX6_checksum (wsV RX6 178 RX6 yX6_reachNow wsX6_reachNow) := goodIn_app (goodIn_of _ (by decide +kernel)) ggX6_checksum_X6_reachNow
set_option maxRecDepth 20000 in
theorem ggX6_checksum_X6_findWitness : GoodIn wsX6_checksum wsX6_findWitness := goodIn_r _ [37, 21, 38, 22, 23, 24, 7, 25, 2, 30, 31, 32, 33, 14, 15, 16, 39, 40, 41, 42, 43, 44, 45, 46, 47, 48, 49, 50, 51, 52, 53, 54, 55, 56, 57, 130, 131, 132, 133, 134, 135, 136, 137, 138, 139, 140, 141, 142, 143, 144, 145, 146, 147, 148, 149, 150, 151] (by decide +kernel) (by decide +kernel)
set_option maxRecDepth 20000 in
theorem gX6_checksum_X6_findWitness : GoodIn wsX6_checksum (wsV RX6 153 RX6 yX6_findWitness wsX6_findWitness) := goodIn_app (goodIn_of _ (by decide +kernel)) ggX6_checksum_X6_findWitness
set_option maxRecDepth 20000 in
theorem ggX6_checksum_X6_moreApart : GoodIn wsX6_checksum wsX6_moreApart := goodIn_r _ [61, 54, 5, 6, 7, 8, 9, 130, 131, 132, 133, 134, 135, 136, 137, 138, 139, 140, 141, 142, 143, 144, 145, 146, 147, 148, 149, 150, 151] (by decide +kernel) (by decide +kernel)
set_option maxRecDepth 20000 in
theorem gX6_checksum_X6_moreApart : GoodIn wsX6_checksum (wsV RX6 225 RX6 yX6_moreApart wsX6_moreApart) := goodIn_app (goodIn_of _ (by decide +kernel)) ggX6_checksum_X6_moreApart
set_option maxRecDepth 20000 in
theorem ggX6_checksum_X6_clashesNow : GoodIn wsX6_checksum wsX6_clashesNow := goodIn_r _ [65, 2, 66, 67, 68, 7, 69, 14, 15, 16, 34, 35, 36, 37, 21, 38, 22, 23, 24, 25, 30, 31, 32, 33, 39, 40, 41, 42, 43, 44, 45, 46, 47, 48, 49, 50, 51, 52, 53, 54, 55, 56, 57, 130, 131, 132, 133, 134, 135, 136, 137, 138, 139, 140, 141, 142, 143, 144, 145, 146, 147, 148, 149, 150, 151] (by decide +kernel) (by decide +kernel)
set_option maxRecDepth 20000 in
theorem gX6_checksum_X6_clashesNow : GoodIn wsX6_checksum (wsV RX6 159 RX6 yX6_clashesNow wsX6_clashesNow) := goodIn_app (goodIn_of _ (by decide +kernel)) ggX6_checksum_X6_clashesNow
set_option maxRecDepth 20000 in
theorem ggX6_checksum_X6_ordersNow : GoodIn wsX6_checksum wsX6_ordersNow := goodIn_r _ [73, 74, 75, 76, 7, 77, 78, 2, 14, 15, 16, 79, 80, 81, 82, 83, 84, 66, 67, 68, 69, 85, 86, 87, 88, 3, 89, 90, 91, 92, 93, 94, 95, 96, 130, 131, 132, 133, 134, 135, 136, 137, 138, 139, 140, 141, 142, 143, 144, 145, 146, 147, 148, 149, 150, 151] (by decide +kernel) (by decide +kernel)
set_option maxRecDepth 20000 in
theorem gX6_checksum_X6_ordersNow : GoodIn wsX6_checksum (wsV RX6 193 RX6 yX6_ordersNow wsX6_ordersNow) := goodIn_app (goodIn_of _ (by decide +kernel)) ggX6_checksum_X6_ordersNow
set_option maxRecDepth 20000 in
theorem ggX6_checksum_X6_openNow : GoodIn wsX6_checksum wsX6_openNow := goodIn_r _ [100, 2, 74, 75, 76, 7, 77, 78, 14, 15, 16, 101, 102, 103, 104, 66, 67, 68, 69, 93, 94, 95, 96, 34, 35, 36, 37, 21, 38, 22, 23, 24, 25, 30, 31, 32, 33, 39, 40, 41, 42, 43, 44, 45, 46, 47, 48, 49, 50, 51, 52, 53, 54, 55, 56, 57, 130, 131, 132, 133, 134, 135, 136, 137, 138, 139, 140, 141, 142, 143, 144, 145, 146, 147, 148, 149, 150, 151] (by decide +kernel) (by decide +kernel)
set_option maxRecDepth 20000 in
theorem gX6_checksum_X6_openNow : GoodIn wsX6_checksum (wsV RX6 202 RX6 yX6_openNow wsX6_openNow) := goodIn_app (goodIn_of _ (by decide +kernel)) ggX6_checksum_X6_openNow
set_option maxRecDepth 20000 in
theorem ggX6_checksum_X6_isResolvedNow : GoodIn wsX6_checksum wsX6_isResolvedNow := goodIn_r _ [108, 21, 38, 109, 110, 111, 7, 112, 83, 74, 75, 76, 77, 78, 2, 14, 15, 16, 79, 80, 81, 82, 84, 66, 67, 68, 69, 85, 86, 87, 88, 3, 89, 90, 91, 92, 93, 94, 95, 96, 113, 114, 115, 116, 22, 23, 24, 25, 30, 31, 32, 33, 39, 40, 41, 42, 43, 44, 45, 46, 47, 48, 49, 50, 51, 52, 53, 54, 55, 56, 57, 130, 131, 132, 133, 134, 135, 136, 137, 138, 139, 140, 141, 142, 143, 144, 145, 146, 147, 148, 149, 150, 151] (by decide +kernel) (by decide +kernel)
set_option maxRecDepth 20000 in
theorem gX6_checksum_X6_isResolvedNow : GoodIn wsX6_checksum (wsV RX6 205 RX6 yX6_isResolvedNow wsX6_isResolvedNow) := goodIn_app (goodIn_of _ (by decide +kernel)) ggX6_checksum_X6_isResolvedNow
set_option maxRecDepth 20000 in
theorem ggX6_checksum_X6_findResolved : GoodIn wsX6_checksum wsX6_findResolved := goodIn_r _ [112, 83, 74, 75, 76, 7, 77, 78, 2, 14, 15, 16, 79, 80, 81, 82, 84, 66, 67, 68, 69, 85, 86, 87, 88, 3, 89, 90, 91, 92, 93, 94, 95, 96, 130, 131, 132, 133, 134, 135, 136, 137, 138, 139, 140, 141, 142, 143, 144, 145, 146, 147, 148, 149, 150, 151] (by decide +kernel) (by decide +kernel)
set_option maxRecDepth 20000 in
theorem gX6_checksum_X6_findResolved : GoodIn wsX6_checksum (wsV RX6 196 RX6 yX6_findResolved wsX6_findResolved) := goodIn_app (goodIn_of _ (by decide +kernel)) ggX6_checksum_X6_findResolved
set_option maxRecDepth 20000 in
theorem ggX6_checksum_X6_effects : GoodIn wsX6_checksum wsX6_effects := goodIn_r _ [120, 38, 121, 122, 123, 7, 124, 21, 109, 110, 111, 112, 83, 74, 75, 76, 77, 78, 2, 14, 15, 16, 79, 80, 81, 82, 84, 66, 67, 68, 69, 85, 86, 87, 88, 3, 89, 90, 91, 92, 93, 94, 95, 96, 113, 114, 115, 116, 22, 23, 24, 25, 30, 31, 32, 33, 39, 40, 41, 42, 43, 44, 45, 46, 47, 48, 49, 50, 51, 52, 53, 54, 55, 56, 57, 130, 131, 132, 133, 134, 135, 136, 137, 138, 139, 140, 141, 142, 143, 144, 145, 146, 147, 148, 149, 150, 151] (by decide +kernel) (by decide +kernel)
set_option maxRecDepth 20000 in
theorem gX6_checksum_X6_effects : GoodIn wsX6_checksum (wsV RX6 214 RX6 yX6_effects wsX6_effects) := goodIn_app (goodIn_of _ (by decide +kernel)) ggX6_checksum_X6_effects
set_option maxRecDepth 20000 in
theorem ggX6_checksum_X6_findResolvedMachine : GoodIn wsX6_checksum wsX6_findResolvedMachine := goodIn_r _ [124, 21, 109, 110, 111, 7, 112, 83, 74, 75, 76, 77, 78, 2, 14, 15, 16, 79, 80, 81, 82, 84, 66, 67, 68, 69, 85, 86, 87, 88, 3, 89, 90, 91, 92, 93, 94, 95, 96, 113, 114, 115, 116, 22, 23, 24, 25, 30, 31, 32, 33, 130, 131, 132, 133, 134, 135, 136, 137, 138, 139, 140, 141, 142, 143, 144, 145, 146, 147, 148, 149, 150, 151] (by decide +kernel) (by decide +kernel)
set_option maxRecDepth 20000 in
theorem gX6_checksum_X6_findResolvedMachine : GoodIn wsX6_checksum (wsV RX6 208 RX6 yX6_findResolvedMachine wsX6_findResolvedMachine) := goodIn_app (goodIn_of _ (by decide +kernel)) ggX6_checksum_X6_findResolvedMachine
set_option maxRecDepth 20000 in
theorem ggX6_checksum_X6_answerOf : GoodIn wsX6_checksum wsX6_answerOf := goodIn_r _ [128, 21, 129, 55, 56, 7, 57, 47, 48, 49, 130, 131, 132, 133, 134, 135, 136, 137, 138, 139, 140, 141, 142, 143, 144, 145, 146, 147, 148, 149, 150, 151] (by decide +kernel) (by decide +kernel)
set_option maxRecDepth 20000 in
theorem gX6_checksum_X6_answerOf : GoodIn wsX6_checksum (wsV RX6 211 RX6 yX6_answerOf wsX6_answerOf) := goodIn_app (goodIn_of _ (by decide +kernel)) ggX6_checksum_X6_answerOf
theorem dX6_checksum_0 : decode cX6_checksum 0 = .ok (.ldc2_w 223, 3) := by decide +kernel
theorem dX6_checksum_3 : decode cX6_checksum 3 = .ok (.aload_n 0, 1) := by decide +kernel
theorem dX6_checksum_4 : decode cX6_checksum 4 = .ok (.getfield 7, 3) := by decide +kernel
theorem dX6_checksum_7 : decode cX6_checksum 7 = .ok (.bipush 34, 2) := by decide +kernel
theorem dX6_checksum_9 : decode cX6_checksum 9 = .ok (.iaload, 1) := by decide +kernel
theorem dX6_checksum_10 : decode cX6_checksum 10 = .ok (.invokestatic 219, 3) := by decide +kernel
theorem dX6_checksum_13 : decode cX6_checksum 13 = .ok (.lstore_n 1, 1) := by decide +kernel
theorem dX6_checksum_14 : decode cX6_checksum 14 = .ok (.iconst 0, 1) := by decide +kernel
theorem dX6_checksum_15 : decode cX6_checksum 15 = .ok (.istore_n 3, 1) := by decide +kernel
theorem dX6_checksum_16 : decode cX6_checksum 16 = .ok (.iload_n 3, 1) := by decide +kernel
theorem dX6_checksum_17 : decode cX6_checksum 17 = .ok (.aload_n 0, 1) := by decide +kernel
theorem dX6_checksum_18 : decode cX6_checksum 18 = .ok (.getfield 7, 3) := by decide +kernel
theorem dX6_checksum_21 : decode cX6_checksum 21 = .ok (.bipush 34, 2) := by decide +kernel
theorem dX6_checksum_23 : decode cX6_checksum 23 = .ok (.iaload, 1) := by decide +kernel
theorem dX6_checksum_24 : decode cX6_checksum 24 = .ok (.if_icmp .ge 80, 3) := by decide +kernel
theorem dX6_checksum_27 : decode cX6_checksum 27 = .ok (.lload_n 1, 1) := by decide +kernel
theorem dX6_checksum_28 : decode cX6_checksum 28 = .ok (.aload_n 0, 1) := by decide +kernel
theorem dX6_checksum_29 : decode cX6_checksum 29 = .ok (.iload_n 3, 1) := by decide +kernel
theorem dX6_checksum_30 : decode cX6_checksum 30 = .ok (.invokevirtual 95, 3) := by decide +kernel
theorem dX6_checksum_33 : decode cX6_checksum 33 = .ok (.invokestatic 219, 3) := by decide +kernel
theorem dX6_checksum_36 : decode cX6_checksum 36 = .ok (.aload_n 0, 1) := by decide +kernel
theorem dX6_checksum_37 : decode cX6_checksum 37 = .ok (.iload_n 3, 1) := by decide +kernel
theorem dX6_checksum_38 : decode cX6_checksum 38 = .ok (.invokevirtual 178, 3) := by decide +kernel
theorem dX6_checksum_41 : decode cX6_checksum 41 = .ok (.invokestatic 219, 3) := by decide +kernel
theorem dX6_checksum_44 : decode cX6_checksum 44 = .ok (.lstore_n 1, 1) := by decide +kernel
theorem dX6_checksum_45 : decode cX6_checksum 45 = .ok (.iload_n 3, 1) := by decide +kernel
theorem dX6_checksum_46 : decode cX6_checksum 46 = .ok (.iconst 1, 1) := by decide +kernel
theorem dX6_checksum_47 : decode cX6_checksum 47 = .ok (.iadd, 1) := by decide +kernel
theorem dX6_checksum_48 : decode cX6_checksum 48 = .ok (.istore 4, 2) := by decide +kernel
theorem dX6_checksum_50 : decode cX6_checksum 50 = .ok (.iload 4, 2) := by decide +kernel
theorem dX6_checksum_52 : decode cX6_checksum 52 = .ok (.aload_n 0, 1) := by decide +kernel
theorem dX6_checksum_53 : decode cX6_checksum 53 = .ok (.getfield 7, 3) := by decide +kernel
theorem dX6_checksum_56 : decode cX6_checksum 56 = .ok (.bipush 34, 2) := by decide +kernel
theorem dX6_checksum_58 : decode cX6_checksum 58 = .ok (.iaload, 1) := by decide +kernel
theorem dX6_checksum_59 : decode cX6_checksum 59 = .ok (.if_icmp .ge 39, 3) := by decide +kernel
theorem dX6_checksum_62 : decode cX6_checksum 62 = .ok (.aload_n 0, 1) := by decide +kernel
theorem dX6_checksum_63 : decode cX6_checksum 63 = .ok (.iload_n 3, 1) := by decide +kernel
theorem dX6_checksum_64 : decode cX6_checksum 64 = .ok (.iload 4, 2) := by decide +kernel
theorem dX6_checksum_66 : decode cX6_checksum 66 = .ok (.invokevirtual 153, 3) := by decide +kernel
theorem dX6_checksum_69 : decode cX6_checksum 69 = .ok (.istore 5, 2) := by decide +kernel
theorem dX6_checksum_71 : decode cX6_checksum 71 = .ok (.aload_n 0, 1) := by decide +kernel
theorem dX6_checksum_72 : decode cX6_checksum 72 = .ok (.lload_n 1, 1) := by decide +kernel
theorem dX6_checksum_73 : decode cX6_checksum 73 = .ok (.iload 5, 2) := by decide +kernel
theorem dX6_checksum_75 : decode cX6_checksum 75 = .ok (.ifCond .le 7, 3) := by decide +kernel
theorem dX6_checksum_78 : decode cX6_checksum 78 = .ok (.iconst 1, 1) := by decide +kernel
theorem dX6_checksum_79 : decode cX6_checksum 79 = .ok (.goto 4, 3) := by decide +kernel
theorem dX6_checksum_82 : decode cX6_checksum 82 = .ok (.iconst 0, 1) := by decide +kernel
theorem dX6_checksum_83 : decode cX6_checksum 83 = .ok (.invokestatic 219, 3) := by decide +kernel
theorem dX6_checksum_86 : decode cX6_checksum 86 = .ok (.iload 5, 2) := by decide +kernel
theorem dX6_checksum_88 : decode cX6_checksum 88 = .ok (.invokevirtual 225, 3) := by decide +kernel
theorem dX6_checksum_91 : decode cX6_checksum 91 = .ok (.lstore_n 1, 1) := by decide +kernel
theorem dX6_checksum_92 : decode cX6_checksum 92 = .ok (.iinc 4 1, 3) := by decide +kernel
theorem dX6_checksum_95 : decode cX6_checksum 95 = .ok (.goto (-45), 3) := by decide +kernel
theorem dX6_checksum_98 : decode cX6_checksum 98 = .ok (.iinc 3 1, 3) := by decide +kernel
theorem dX6_checksum_101 : decode cX6_checksum 101 = .ok (.goto (-85), 3) := by decide +kernel
theorem dX6_checksum_104 : decode cX6_checksum 104 = .ok (.lload_n 1, 1) := by decide +kernel
theorem dX6_checksum_105 : decode cX6_checksum 105 = .ok (.aload_n 0, 1) := by decide +kernel
theorem dX6_checksum_106 : decode cX6_checksum 106 = .ok (.invokevirtual 159, 3) := by decide +kernel
theorem dX6_checksum_109 : decode cX6_checksum 109 = .ok (.invokestatic 219, 3) := by decide +kernel
theorem dX6_checksum_112 : decode cX6_checksum 112 = .ok (.aload_n 0, 1) := by decide +kernel
theorem dX6_checksum_113 : decode cX6_checksum 113 = .ok (.invokevirtual 193, 3) := by decide +kernel
theorem dX6_checksum_116 : decode cX6_checksum 116 = .ok (.invokestatic 219, 3) := by decide +kernel
theorem dX6_checksum_119 : decode cX6_checksum 119 = .ok (.aload_n 0, 1) := by decide +kernel
theorem dX6_checksum_120 : decode cX6_checksum 120 = .ok (.invokevirtual 202, 3) := by decide +kernel
theorem dX6_checksum_123 : decode cX6_checksum 123 = .ok (.invokestatic 219, 3) := by decide +kernel
theorem dX6_checksum_126 : decode cX6_checksum 126 = .ok (.aload_n 0, 1) := by decide +kernel
theorem dX6_checksum_127 : decode cX6_checksum 127 = .ok (.invokevirtual 205, 3) := by decide +kernel
theorem dX6_checksum_130 : decode cX6_checksum 130 = .ok (.invokestatic 219, 3) := by decide +kernel
theorem dX6_checksum_133 : decode cX6_checksum 133 = .ok (.lstore_n 1, 1) := by decide +kernel
theorem dX6_checksum_134 : decode cX6_checksum 134 = .ok (.aload_n 0, 1) := by decide +kernel
theorem dX6_checksum_135 : decode cX6_checksum 135 = .ok (.invokevirtual 196, 3) := by decide +kernel
theorem dX6_checksum_138 : decode cX6_checksum 138 = .ok (.istore_n 3, 1) := by decide +kernel
theorem dX6_checksum_139 : decode cX6_checksum 139 = .ok (.iconst 0, 1) := by decide +kernel
theorem dX6_checksum_140 : decode cX6_checksum 140 = .ok (.istore 4, 2) := by decide +kernel
theorem dX6_checksum_142 : decode cX6_checksum 142 = .ok (.iload 4, 2) := by decide +kernel
theorem dX6_checksum_144 : decode cX6_checksum 144 = .ok (.iload_n 3, 1) := by decide +kernel
theorem dX6_checksum_145 : decode cX6_checksum 145 = .ok (.if_icmp .ge 21, 3) := by decide +kernel
theorem dX6_checksum_148 : decode cX6_checksum 148 = .ok (.lload_n 1, 1) := by decide +kernel
theorem dX6_checksum_149 : decode cX6_checksum 149 = .ok (.aload_n 0, 1) := by decide +kernel
theorem dX6_checksum_150 : decode cX6_checksum 150 = .ok (.getfield 53, 3) := by decide +kernel
theorem dX6_checksum_153 : decode cX6_checksum 153 = .ok (.iload 4, 2) := by decide +kernel
theorem dX6_checksum_155 : decode cX6_checksum 155 = .ok (.iaload, 1) := by decide +kernel
theorem dX6_checksum_156 : decode cX6_checksum 156 = .ok (.invokestatic 219, 3) := by decide +kernel
theorem dX6_checksum_159 : decode cX6_checksum 159 = .ok (.lstore_n 1, 1) := by decide +kernel
theorem dX6_checksum_160 : decode cX6_checksum 160 = .ok (.iinc 4 1, 3) := by decide +kernel
theorem dX6_checksum_163 : decode cX6_checksum 163 = .ok (.goto (-21), 3) := by decide +kernel
theorem dX6_checksum_166 : decode cX6_checksum 166 = .ok (.aload_n 0, 1) := by decide +kernel
theorem dX6_checksum_167 : decode cX6_checksum 167 = .ok (.lload_n 1, 1) := by decide +kernel
theorem dX6_checksum_168 : decode cX6_checksum 168 = .ok (.aload_n 0, 1) := by decide +kernel
theorem dX6_checksum_169 : decode cX6_checksum 169 = .ok (.invokevirtual 214, 3) := by decide +kernel
theorem dX6_checksum_172 : decode cX6_checksum 172 = .ok (.invokevirtual 225, 3) := by decide +kernel
theorem dX6_checksum_175 : decode cX6_checksum 175 = .ok (.lstore_n 1, 1) := by decide +kernel
theorem dX6_checksum_176 : decode cX6_checksum 176 = .ok (.aload_n 0, 1) := by decide +kernel
theorem dX6_checksum_177 : decode cX6_checksum 177 = .ok (.invokevirtual 208, 3) := by decide +kernel
theorem dX6_checksum_180 : decode cX6_checksum 180 = .ok (.iconst 0, 1) := by decide +kernel
theorem dX6_checksum_181 : decode cX6_checksum 181 = .ok (.istore 4, 2) := by decide +kernel
theorem dX6_checksum_183 : decode cX6_checksum 183 = .ok (.iload 4, 2) := by decide +kernel
theorem dX6_checksum_185 : decode cX6_checksum 185 = .ok (.aload_n 0, 1) := by decide +kernel
theorem dX6_checksum_186 : decode cX6_checksum 186 = .ok (.getfield 70, 3) := by decide +kernel
theorem dX6_checksum_189 : decode cX6_checksum 189 = .ok (.if_icmp .ge 20, 3) := by decide +kernel
theorem dX6_checksum_192 : decode cX6_checksum 192 = .ok (.lload_n 1, 1) := by decide +kernel
theorem dX6_checksum_193 : decode cX6_checksum 193 = .ok (.aload_n 0, 1) := by decide +kernel
theorem dX6_checksum_194 : decode cX6_checksum 194 = .ok (.iload 4, 2) := by decide +kernel
theorem dX6_checksum_196 : decode cX6_checksum 196 = .ok (.invokevirtual 211, 3) := by decide +kernel
theorem dX6_checksum_199 : decode cX6_checksum 199 = .ok (.invokestatic 219, 3) := by decide +kernel
theorem dX6_checksum_202 : decode cX6_checksum 202 = .ok (.lstore_n 1, 1) := by decide +kernel
theorem dX6_checksum_203 : decode cX6_checksum 203 = .ok (.iinc 4 1, 3) := by decide +kernel
theorem dX6_checksum_206 : decode cX6_checksum 206 = .ok (.goto (-23), 3) := by decide +kernel
theorem dX6_checksum_209 : decode cX6_checksum 209 = .ok (.lload_n 1, 1) := by decide +kernel
theorem dX6_checksum_210 : decode cX6_checksum 210 = .ok (.lreturn, 1) := by decide +kernel
theorem dJ6_bitCount_0f7a4_0 : decode cJ6_bitCount_0f7a4 0 = .ok (.iload_n 0, 1) := by decide +kernel
theorem dJ6_bitCount_0f7a4_1 : decode cJ6_bitCount_0f7a4 1 = .ok (.iload_n 0, 1) := by decide +kernel
theorem dJ6_bitCount_0f7a4_2 : decode cJ6_bitCount_0f7a4 2 = .ok (.iconst 1, 1) := by decide +kernel
theorem dJ6_bitCount_0f7a4_3 : decode cJ6_bitCount_0f7a4 3 = .ok (.iushr, 1) := by decide +kernel
theorem dJ6_bitCount_0f7a4_4 : decode cJ6_bitCount_0f7a4 4 = .ok (.ldc_w 265, 3) := by decide +kernel
theorem dJ6_bitCount_0f7a4_7 : decode cJ6_bitCount_0f7a4 7 = .ok (.iand, 1) := by decide +kernel
theorem dJ6_bitCount_0f7a4_8 : decode cJ6_bitCount_0f7a4 8 = .ok (.isub, 1) := by decide +kernel
theorem dJ6_bitCount_0f7a4_9 : decode cJ6_bitCount_0f7a4 9 = .ok (.istore_n 0, 1) := by decide +kernel
theorem dJ6_bitCount_0f7a4_10 : decode cJ6_bitCount_0f7a4 10 = .ok (.iload_n 0, 1) := by decide +kernel
theorem dJ6_bitCount_0f7a4_11 : decode cJ6_bitCount_0f7a4 11 = .ok (.ldc_w 266, 3) := by decide +kernel
theorem dJ6_bitCount_0f7a4_14 : decode cJ6_bitCount_0f7a4 14 = .ok (.iand, 1) := by decide +kernel
theorem dJ6_bitCount_0f7a4_15 : decode cJ6_bitCount_0f7a4 15 = .ok (.iload_n 0, 1) := by decide +kernel
theorem dJ6_bitCount_0f7a4_16 : decode cJ6_bitCount_0f7a4 16 = .ok (.iconst 2, 1) := by decide +kernel
theorem dJ6_bitCount_0f7a4_17 : decode cJ6_bitCount_0f7a4 17 = .ok (.iushr, 1) := by decide +kernel
theorem dJ6_bitCount_0f7a4_18 : decode cJ6_bitCount_0f7a4 18 = .ok (.ldc_w 266, 3) := by decide +kernel
theorem dJ6_bitCount_0f7a4_21 : decode cJ6_bitCount_0f7a4 21 = .ok (.iand, 1) := by decide +kernel
theorem dJ6_bitCount_0f7a4_22 : decode cJ6_bitCount_0f7a4 22 = .ok (.iadd, 1) := by decide +kernel
theorem dJ6_bitCount_0f7a4_23 : decode cJ6_bitCount_0f7a4 23 = .ok (.istore_n 0, 1) := by decide +kernel
theorem dJ6_bitCount_0f7a4_24 : decode cJ6_bitCount_0f7a4 24 = .ok (.iload_n 0, 1) := by decide +kernel
theorem dJ6_bitCount_0f7a4_25 : decode cJ6_bitCount_0f7a4 25 = .ok (.iload_n 0, 1) := by decide +kernel
theorem dJ6_bitCount_0f7a4_26 : decode cJ6_bitCount_0f7a4 26 = .ok (.iconst 4, 1) := by decide +kernel
theorem dJ6_bitCount_0f7a4_27 : decode cJ6_bitCount_0f7a4 27 = .ok (.iushr, 1) := by decide +kernel
theorem dJ6_bitCount_0f7a4_28 : decode cJ6_bitCount_0f7a4 28 = .ok (.iadd, 1) := by decide +kernel
theorem dJ6_bitCount_0f7a4_29 : decode cJ6_bitCount_0f7a4 29 = .ok (.ldc_w 267, 3) := by decide +kernel
theorem dJ6_bitCount_0f7a4_32 : decode cJ6_bitCount_0f7a4 32 = .ok (.iand, 1) := by decide +kernel
theorem dJ6_bitCount_0f7a4_33 : decode cJ6_bitCount_0f7a4 33 = .ok (.istore_n 0, 1) := by decide +kernel
theorem dJ6_bitCount_0f7a4_34 : decode cJ6_bitCount_0f7a4 34 = .ok (.iload_n 0, 1) := by decide +kernel
theorem dJ6_bitCount_0f7a4_35 : decode cJ6_bitCount_0f7a4 35 = .ok (.iload_n 0, 1) := by decide +kernel
theorem dJ6_bitCount_0f7a4_36 : decode cJ6_bitCount_0f7a4 36 = .ok (.bipush 8, 2) := by decide +kernel
theorem dJ6_bitCount_0f7a4_38 : decode cJ6_bitCount_0f7a4 38 = .ok (.iushr, 1) := by decide +kernel
theorem dJ6_bitCount_0f7a4_39 : decode cJ6_bitCount_0f7a4 39 = .ok (.iadd, 1) := by decide +kernel
theorem dJ6_bitCount_0f7a4_40 : decode cJ6_bitCount_0f7a4 40 = .ok (.istore_n 0, 1) := by decide +kernel
theorem dJ6_bitCount_0f7a4_41 : decode cJ6_bitCount_0f7a4 41 = .ok (.iload_n 0, 1) := by decide +kernel
theorem dJ6_bitCount_0f7a4_42 : decode cJ6_bitCount_0f7a4 42 = .ok (.iload_n 0, 1) := by decide +kernel
theorem dJ6_bitCount_0f7a4_43 : decode cJ6_bitCount_0f7a4 43 = .ok (.bipush 16, 2) := by decide +kernel
theorem dJ6_bitCount_0f7a4_45 : decode cJ6_bitCount_0f7a4 45 = .ok (.iushr, 1) := by decide +kernel
theorem dJ6_bitCount_0f7a4_46 : decode cJ6_bitCount_0f7a4 46 = .ok (.iadd, 1) := by decide +kernel
theorem dJ6_bitCount_0f7a4_47 : decode cJ6_bitCount_0f7a4 47 = .ok (.istore_n 0, 1) := by decide +kernel
theorem dJ6_bitCount_0f7a4_48 : decode cJ6_bitCount_0f7a4 48 = .ok (.iload_n 0, 1) := by decide +kernel
theorem dJ6_bitCount_0f7a4_49 : decode cJ6_bitCount_0f7a4 49 = .ok (.bipush 63, 2) := by decide +kernel
theorem dJ6_bitCount_0f7a4_51 : decode cJ6_bitCount_0f7a4 51 = .ok (.iand, 1) := by decide +kernel
theorem dJ6_bitCount_0f7a4_52 : decode cJ6_bitCount_0f7a4 52 = .ok (.ireturn, 1) := by decide +kernel
theorem dJ9_min_7cf53_0 : decode cJ9_min_7cf53 0 = .ok (.iload_n 0, 1) := by decide +kernel
theorem dJ9_min_7cf53_1 : decode cJ9_min_7cf53 1 = .ok (.iload_n 1, 1) := by decide +kernel
theorem dJ9_min_7cf53_2 : decode cJ9_min_7cf53 2 = .ok (.if_icmp .gt 7, 3) := by decide +kernel
theorem dJ9_min_7cf53_5 : decode cJ9_min_7cf53 5 = .ok (.iload_n 0, 1) := by decide +kernel
theorem dJ9_min_7cf53_6 : decode cJ9_min_7cf53 6 = .ok (.goto 4, 3) := by decide +kernel
theorem dJ9_min_7cf53_9 : decode cJ9_min_7cf53 9 = .ok (.iload_n 1, 1) := by decide +kernel
theorem dJ9_min_7cf53_10 : decode cJ9_min_7cf53 10 = .ok (.ireturn, 1) := by decide +kernel
theorem dJ7_fill_d0a16_0 : decode cJ7_fill_d0a16 0 = .ok (.iconst 0, 1) := by decide +kernel
theorem dJ7_fill_d0a16_1 : decode cJ7_fill_d0a16 1 = .ok (.istore_n 3, 1) := by decide +kernel
theorem dJ7_fill_d0a16_2 : decode cJ7_fill_d0a16 2 = .ok (.aload_n 0, 1) := by decide +kernel
theorem dJ7_fill_d0a16_3 : decode cJ7_fill_d0a16 3 = .ok (.arraylength, 1) := by decide +kernel
theorem dJ7_fill_d0a16_4 : decode cJ7_fill_d0a16 4 = .ok (.istore 4, 2) := by decide +kernel
theorem dJ7_fill_d0a16_6 : decode cJ7_fill_d0a16 6 = .ok (.iload_n 3, 1) := by decide +kernel
theorem dJ7_fill_d0a16_7 : decode cJ7_fill_d0a16 7 = .ok (.iload 4, 2) := by decide +kernel
theorem dJ7_fill_d0a16_9 : decode cJ7_fill_d0a16 9 = .ok (.if_icmp .ge 13, 3) := by decide +kernel
theorem dJ7_fill_d0a16_12 : decode cJ7_fill_d0a16 12 = .ok (.aload_n 0, 1) := by decide +kernel
theorem dJ7_fill_d0a16_13 : decode cJ7_fill_d0a16 13 = .ok (.iload_n 3, 1) := by decide +kernel
theorem dJ7_fill_d0a16_14 : decode cJ7_fill_d0a16 14 = .ok (.lload_n 1, 1) := by decide +kernel
theorem dJ7_fill_d0a16_15 : decode cJ7_fill_d0a16 15 = .ok (.lastore, 1) := by decide +kernel
theorem dJ7_fill_d0a16_16 : decode cJ7_fill_d0a16 16 = .ok (.iinc 3 1, 3) := by decide +kernel
theorem dJ7_fill_d0a16_19 : decode cJ7_fill_d0a16 19 = .ok (.goto (-13), 3) := by decide +kernel
theorem dJ7_fill_d0a16_22 : decode cJ7_fill_d0a16 22 = .ok (.return_, 1) := by decide +kernel
theorem dJ7_fill_53178_0 : decode cJ7_fill_53178 0 = .ok (.iconst 0, 1) := by decide +kernel
theorem dJ7_fill_53178_1 : decode cJ7_fill_53178 1 = .ok (.istore_n 2, 1) := by decide +kernel
theorem dJ7_fill_53178_2 : decode cJ7_fill_53178 2 = .ok (.aload_n 0, 1) := by decide +kernel
theorem dJ7_fill_53178_3 : decode cJ7_fill_53178 3 = .ok (.arraylength, 1) := by decide +kernel
theorem dJ7_fill_53178_4 : decode cJ7_fill_53178 4 = .ok (.istore_n 3, 1) := by decide +kernel
theorem dJ7_fill_53178_5 : decode cJ7_fill_53178 5 = .ok (.iload_n 2, 1) := by decide +kernel
theorem dJ7_fill_53178_6 : decode cJ7_fill_53178 6 = .ok (.iload_n 3, 1) := by decide +kernel
theorem dJ7_fill_53178_7 : decode cJ7_fill_53178 7 = .ok (.if_icmp .ge 13, 3) := by decide +kernel
theorem dJ7_fill_53178_10 : decode cJ7_fill_53178 10 = .ok (.aload_n 0, 1) := by decide +kernel
theorem dJ7_fill_53178_11 : decode cJ7_fill_53178 11 = .ok (.iload_n 2, 1) := by decide +kernel
theorem dJ7_fill_53178_12 : decode cJ7_fill_53178 12 = .ok (.iload_n 1, 1) := by decide +kernel
theorem dJ7_fill_53178_13 : decode cJ7_fill_53178 13 = .ok (.iastore, 1) := by decide +kernel
theorem dJ7_fill_53178_14 : decode cJ7_fill_53178 14 = .ok (.iinc 2 1, 3) := by decide +kernel
theorem dJ7_fill_53178_17 : decode cJ7_fill_53178 17 = .ok (.goto (-12), 3) := by decide +kernel
theorem dJ7_fill_53178_20 : decode cJ7_fill_53178 20 = .ok (.return_, 1) := by decide +kernel
