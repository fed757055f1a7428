theorem dX3_groupStates_31 : decode cX3_groupStates 31 = .ok (.iload 7, 2) := by decide +kernel
theorem dX3_groupStates_33 : decode cX3_groupStates 33 = .ok (.iload_n 2, 1) := by decide +kernel
theorem dX3_groupStates_34 : decode cX3_groupStates 34 = .ok (.if_icmp .ge 27, 3) := by decide +kernel
theorem dX3_groupStates_37 : decode cX3_groupStates 37 = .ok (.aload_n 0, 1) := by decide +kernel
theorem dX3_groupStates_38 : decode cX3_groupStates 38 = .ok (.getfield 19, 3) := by decide +kernel
theorem dX3_groupStates_41 : decode cX3_groupStates 41 = .ok (.iload 7, 2) := by decide +kernel
theorem dX3_groupStates_43 : decode cX3_groupStates 43 = .ok (.aload_n 1, 1) := by decide +kernel
theorem dX3_groupStates_44 : decode cX3_groupStates 44 = .ok (.iload 7, 2) := by decide +kernel
theorem dX3_groupStates_46 : decode cX3_groupStates 46 = .ok (.iload_n 3, 1) := by decide +kernel
theorem dX3_groupStates_47 : decode cX3_groupStates 47 = .ok (.aload_n 0, 1) := by decide +kernel
theorem dX3_groupStates_48 : decode cX3_groupStates 48 = .ok (.getfield 15, 3) := by decide +kernel
theorem dX3_groupStates_51 : decode cX3_groupStates 51 = .ok (.invokestatic 45, 3) := by decide +kernel
theorem dX3_groupStates_54 : decode cX3_groupStates 54 = .ok (.iastore, 1) := by decide +kernel
theorem dX3_groupStates_55 : decode cX3_groupStates 55 = .ok (.iinc 7 1, 3) := by decide +kernel
theorem dX3_groupStates_58 : decode cX3_groupStates 58 = .ok (.goto (-27), 3) := by decide +kernel
theorem dX3_groupStates_61 : decode cX3_groupStates 61 = .ok (.aload_n 0, 1) := by decide +kernel
theorem dX3_groupStates_62 : decode cX3_groupStates 62 = .ok (.iload_n 2, 1) := by decide +kernel
theorem dX3_groupStates_63 : decode cX3_groupStates 63 = .ok (.invokevirtual 52, 3) := by decide +kernel
theorem dX3_groupStates_66 : decode cX3_groupStates 66 = .ok (.istore 7, 2) := by decide +kernel
theorem dX3_groupStates_68 : decode cX3_groupStates 68 = .ok (.iload 7, 2) := by decide +kernel
theorem dX3_groupStates_70 : decode cX3_groupStates 70 = .ok (.iload 4, 2) := by decide +kernel
theorem dX3_groupStates_72 : decode cX3_groupStates 72 = .ok (.if_icmp .le 7, 3) := by decide +kernel
theorem dX3_groupStates_75 : decode cX3_groupStates 75 = .ok (.iconst 1, 1) := by decide +kernel
theorem dX3_groupStates_76 : decode cX3_groupStates 76 = .ok (.goto 4, 3) := by decide +kernel
theorem dX3_groupStates_79 : decode cX3_groupStates 79 = .ok (.iconst 0, 1) := by decide +kernel
theorem dX3_groupStates_80 : decode cX3_groupStates 80 = .ok (.istore 5, 2) := by decide +kernel
theorem dX3_groupStates_82 : decode cX3_groupStates 82 = .ok (.iload 7, 2) := by decide +kernel
theorem dX3_groupStates_84 : decode cX3_groupStates 84 = .ok (.istore 4, 2) := by decide +kernel
theorem dX3_groupStates_86 : decode cX3_groupStates 86 = .ok (.iinc 6 1, 3) := by decide +kernel
theorem dX3_groupStates_89 : decode cX3_groupStates 89 = .ok (.goto (-72), 3) := by decide +kernel
theorem dX3_groupStates_92 : decode cX3_groupStates 92 = .ok (.return_, 1) := by decide +kernel
set_option maxRecDepth 20000 in
theorem ggX3_signatureOf_X5_cellOf : GoodIn wsX3_signatureOf wsX5_cellOf := goodIn_r _ [3] (by decide +kernel) (by decide +kernel)
set_option maxRecDepth 20000 in
theorem gX3_signatureOf_X5_cellOf_n56 : GoodIn wsX3_signatureOf (wsX5_cellOf) := ggX3_signatureOf_X5_cellOf
set_option maxRecDepth 20000 in
theorem ggX3_signatureOf_X5_targetOf : GoodIn wsX3_signatureOf wsX5_targetOf := goodIn_r _ [5] (by decide +kernel) (by decide +kernel)
set_option maxRecDepth 20000 in
theorem gX3_signatureOf_X5_targetOf_n60 : GoodIn wsX3_signatureOf (wsX5_targetOf) := ggX3_signatureOf_X5_targetOf
set_option maxRecDepth 20000 in
theorem ggX3_signatureOf_X5_outputOf : GoodIn wsX3_signatureOf wsX5_outputOf := goodIn_r _ [7] (by decide +kernel) (by decide +kernel)
set_option maxRecDepth 20000 in
theorem gX3_signatureOf_X5_outputOf_n63 : GoodIn wsX3_signatureOf (wsX5_outputOf) := ggX3_signatureOf_X5_outputOf
set_option maxRecDepth 20000 in
theorem ggX3_signatureOf_X5_arrowOf : GoodIn wsX3_signatureOf wsX5_arrowOf := goodIn_r _ [9] (by decide +kernel) (by decide +kernel)
set_option maxRecDepth 20000 in
theorem gX3_signatureOf_X5_arrowOf_n66 : GoodIn wsX3_signatureOf (wsX5_arrowOf) := ggX3_signatureOf_X5_arrowOf
theorem dX3_signatureOf_0 : decode cX3_signatureOf 0 = .ok (.iconst 0, 1) := by decide +kernel
theorem dX3_signatureOf_1 : decode cX3_signatureOf 1 = .ok (.istore 4, 2) := by decide +kernel
theorem dX3_signatureOf_3 : decode cX3_signatureOf 3 = .ok (.iconst 0, 1) := by decide +kernel
theorem dX3_signatureOf_4 : decode cX3_signatureOf 4 = .ok (.istore 5, 2) := by decide +kernel
theorem dX3_signatureOf_6 : decode cX3_signatureOf 6 = .ok (.iload 5, 2) := by decide +kernel
theorem dX3_signatureOf_8 : decode cX3_signatureOf 8 = .ok (.iload_n 2, 1) := by decide +kernel
theorem dX3_signatureOf_9 : decode cX3_signatureOf 9 = .ok (.if_icmp .ge 57, 3) := by decide +kernel
theorem dX3_signatureOf_12 : decode cX3_signatureOf 12 = .ok (.aload_n 0, 1) := by decide +kernel
theorem dX3_signatureOf_13 : decode cX3_signatureOf 13 = .ok (.iload_n 1, 1) := by decide +kernel
theorem dX3_signatureOf_14 : decode cX3_signatureOf 14 = .ok (.iload 5, 2) := by decide +kernel
theorem dX3_signatureOf_16 : decode cX3_signatureOf 16 = .ok (.invokestatic 56, 3) := by decide +kernel
theorem dX3_signatureOf_19 : decode cX3_signatureOf 19 = .ok (.iaload, 1) := by decide +kernel
theorem dX3_signatureOf_20 : decode cX3_signatureOf 20 = .ok (.istore 6, 2) := by decide +kernel
theorem dX3_signatureOf_22 : decode cX3_signatureOf 22 = .ok (.iconst 0, 1) := by decide +kernel
theorem dX3_signatureOf_23 : decode cX3_signatureOf 23 = .ok (.istore 7, 2) := by decide +kernel
theorem dX3_signatureOf_25 : decode cX3_signatureOf 25 = .ok (.iload 6, 2) := by decide +kernel
theorem dX3_signatureOf_27 : decode cX3_signatureOf 27 = .ok (.iconst (-1), 1) := by decide +kernel
theorem dX3_signatureOf_28 : decode cX3_signatureOf 28 = .ok (.if_icmp .eq 22, 3) := by decide +kernel
theorem dX3_signatureOf_31 : decode cX3_signatureOf 31 = .ok (.iconst 1, 1) := by decide +kernel
theorem dX3_signatureOf_32 : decode cX3_signatureOf 32 = .ok (.aload_n 3, 1) := by decide +kernel
theorem dX3_signatureOf_33 : decode cX3_signatureOf 33 = .ok (.iload 6, 2) := by decide +kernel
theorem dX3_signatureOf_35 : decode cX3_signatureOf 35 = .ok (.invokestatic 60, 3) := by decide +kernel
theorem dX3_signatureOf_38 : decode cX3_signatureOf 38 = .ok (.iaload, 1) := by decide +kernel
theorem dX3_signatureOf_39 : decode cX3_signatureOf 39 = .ok (.iload 6, 2) := by decide +kernel
theorem dX3_signatureOf_41 : decode cX3_signatureOf 41 = .ok (.invokestatic 63, 3) := by decide +kernel
theorem dX3_signatureOf_44 : decode cX3_signatureOf 44 = .ok (.invokestatic 66, 3) := by decide +kernel
theorem dX3_signatureOf_47 : decode cX3_signatureOf 47 = .ok (.iadd, 1) := by decide +kernel
theorem dX3_signatureOf_48 : decode cX3_signatureOf 48 = .ok (.istore 7, 2) := by decide +kernel
theorem dX3_signatureOf_50 : decode cX3_signatureOf 50 = .ok (.iload 4, 2) := by decide +kernel
theorem dX3_signatureOf_52 : decode cX3_signatureOf 52 = .ok (.bipush 7, 2) := by decide +kernel
theorem dX3_signatureOf_54 : decode cX3_signatureOf 54 = .ok (.ishl, 1) := by decide +kernel
theorem dX3_signatureOf_55 : decode cX3_signatureOf 55 = .ok (.iload 7, 2) := by decide +kernel
theorem dX3_signatureOf_57 : decode cX3_signatureOf 57 = .ok (.ior, 1) := by decide +kernel
theorem dX3_signatureOf_58 : decode cX3_signatureOf 58 = .ok (.istore 4, 2) := by decide +kernel
theorem dX3_signatureOf_60 : decode cX3_signatureOf 60 = .ok (.iinc 5 1, 3) := by decide +kernel
theorem dX3_signatureOf_63 : decode cX3_signatureOf 63 = .ok (.goto (-57), 3) := by decide +kernel
theorem dX3_signatureOf_66 : decode cX3_signatureOf 66 = .ok (.iload 4, 2) := by decide +kernel
theorem dX3_signatureOf_68 : decode cX3_signatureOf 68 = .ok (.ireturn, 1) := by decide +kernel
theorem dX3_groupBySignature_0 : decode cX3_groupBySignature 0 = .ok (.iconst 0, 1) := by decide +kernel
theorem dX3_groupBySignature_1 : decode cX3_groupBySignature 1 = .ok (.istore_n 2, 1) := by decide +kernel
theorem dX3_groupBySignature_2 : decode cX3_groupBySignature 2 = .ok (.iconst 0, 1) := by decide +kernel
theorem dX3_groupBySignature_3 : decode cX3_groupBySignature 3 = .ok (.istore_n 3, 1) := by decide +kernel
theorem dX3_groupBySignature_4 : decode cX3_groupBySignature 4 = .ok (.iload_n 3, 1) := by decide +kernel
theorem dX3_groupBySignature_5 : decode cX3_groupBySignature 5 = .ok (.iload_n 1, 1) := by decide +kernel
theorem dX3_groupBySignature_6 : decode cX3_groupBySignature 6 = .ok (.if_icmp .ge 72, 3) := by decide +kernel
theorem dX3_groupBySignature_9 : decode cX3_groupBySignature 9 = .ok (.iconst 0, 1) := by decide +kernel
theorem dX3_groupBySignature_10 : decode cX3_groupBySignature 10 = .ok (.istore 4, 2) := by decide +kernel
theorem dX3_groupBySignature_12 : decode cX3_groupBySignature 12 = .ok (.iload 4, 2) := by decide +kernel
theorem dX3_groupBySignature_14 : decode cX3_groupBySignature 14 = .ok (.iload_n 3, 1) := by decide +kernel
theorem dX3_groupBySignature_15 : decode cX3_groupBySignature 15 = .ok (.if_icmp .ge 25, 3) := by decide +kernel
theorem dX3_groupBySignature_18 : decode cX3_groupBySignature 18 = .ok (.aload_n 0, 1) := by decide +kernel
theorem dX3_groupBySignature_19 : decode cX3_groupBySignature 19 = .ok (.getfield 19, 3) := by decide +kernel
theorem dX3_groupBySignature_22 : decode cX3_groupBySignature 22 = .ok (.iload 4, 2) := by decide +kernel
theorem dX3_groupBySignature_24 : decode cX3_groupBySignature 24 = .ok (.iaload, 1) := by decide +kernel
theorem dX3_groupBySignature_25 : decode cX3_groupBySignature 25 = .ok (.aload_n 0, 1) := by decide +kernel
theorem dX3_groupBySignature_26 : decode cX3_groupBySignature 26 = .ok (.getfield 19, 3) := by decide +kernel
theorem dX3_groupBySignature_29 : decode cX3_groupBySignature 29 = .ok (.iload_n 3, 1) := by decide +kernel
theorem dX3_groupBySignature_30 : decode cX3_groupBySignature 30 = .ok (.iaload, 1) := by decide +kernel
theorem dX3_groupBySignature_31 : decode cX3_groupBySignature 31 = .ok (.if_icmp .eq 9, 3) := by decide +kernel
theorem dX3_groupBySignature_34 : decode cX3_groupBySignature 34 = .ok (.iinc 4 1, 3) := by decide +kernel
theorem dX3_groupBySignature_37 : decode cX3_groupBySignature 37 = .ok (.goto (-25), 3) := by decide +kernel
theorem dX3_groupBySignature_40 : decode cX3_groupBySignature 40 = .ok (.iload 4, 2) := by decide +kernel
theorem dX3_groupBySignature_42 : decode cX3_groupBySignature 42 = .ok (.iload_n 3, 1) := by decide +kernel
theorem dX3_groupBySignature_43 : decode cX3_groupBySignature 43 = .ok (.if_icmp .ge 19, 3) := by decide +kernel
theorem dX3_groupBySignature_46 : decode cX3_groupBySignature 46 = .ok (.aload_n 0, 1) := by decide +kernel
theorem dX3_groupBySignature_47 : decode cX3_groupBySignature 47 = .ok (.getfield 15, 3) := by decide +kernel
theorem dX3_groupBySignature_50 : decode cX3_groupBySignature 50 = .ok (.iload_n 3, 1) := by decide +kernel
theorem dX3_groupBySignature_51 : decode cX3_groupBySignature 51 = .ok (.aload_n 0, 1) := by decide +kernel
theorem dX3_groupBySignature_52 : decode cX3_groupBySignature 52 = .ok (.getfield 15, 3) := by decide +kernel
theorem dX3_groupBySignature_55 : decode cX3_groupBySignature 55 = .ok (.iload 4, 2) := by decide +kernel
theorem dX3_groupBySignature_57 : decode cX3_groupBySignature 57 = .ok (.iaload, 1) := by decide +kernel
theorem dX3_groupBySignature_58 : decode cX3_groupBySignature 58 = .ok (.iastore, 1) := by decide +kernel
theorem dX3_groupBySignature_59 : decode cX3_groupBySignature 59 = .ok (.goto 13, 3) := by decide +kernel
theorem dX3_groupBySignature_62 : decode cX3_groupBySignature 62 = .ok (.aload_n 0, 1) := by decide +kernel
theorem dX3_groupBySignature_63 : decode cX3_groupBySignature 63 = .ok (.getfield 15, 3) := by decide +kernel
theorem dX3_groupBySignature_66 : decode cX3_groupBySignature 66 = .ok (.iload_n 3, 1) := by decide +kernel
theorem dX3_groupBySignature_67 : decode cX3_groupBySignature 67 = .ok (.iload_n 2, 1) := by decide +kernel
theorem dX3_groupBySignature_68 : decode cX3_groupBySignature 68 = .ok (.iastore, 1) := by decide +kernel
theorem dX3_groupBySignature_69 : decode cX3_groupBySignature 69 = .ok (.iinc 2 1, 3) := by decide +kernel
theorem dX3_groupBySignature_72 : decode cX3_groupBySignature 72 = .ok (.iinc 3 1, 3) := by decide +kernel
theorem dX3_groupBySignature_75 : decode cX3_groupBySignature 75 = .ok (.goto (-71), 3) := by decide +kernel
theorem dX3_groupBySignature_78 : decode cX3_groupBySignature 78 = .ok (.iload_n 2, 1) := by decide +kernel
theorem dX3_groupBySignature_79 : decode cX3_groupBySignature 79 = .ok (.ireturn, 1) := by decide +kernel
set_option maxRecDepth 20000 in
theorem ggX3_numberGroups_J7_fill_53178 : GoodIn wsX3_numberGroups wsJ7_fill_53178 := goodIn_r _ [7] (by decide +kernel) (by decide +kernel)
set_option maxRecDepth 20000 in
theorem gX3_numberGroups_J7_fill_53178 : GoodIn wsX3_numberGroups (va_wsS RX3 49 yJ7_fill_53178 wsJ7_fill_53178) := goodIn_app (goodIn_of _ (by decide +kernel)) ggX3_numberGroups_J7_fill_53178
set_option maxRecDepth 20000 in
theorem ggX3_numberGroups_X3_numberGroupOf : GoodIn wsX3_numberGroups wsX3_numberGroupOf := goodIn_r _ [12, 1, 2, 3, 13, 19, 20, 21, 22, 23, 24] (by decide +kernel) (by decide +kernel)
set_option maxRecDepth 20000 in
theorem gX3_numberGroups_X3_numberGroupOf : GoodIn wsX3_numberGroups (wsV RX3 69 RX3 yX3_numberGroupOf wsX3_numberGroupOf) := goodIn_app (goodIn_of _ (by decide +kernel)) ggX3_numberGroups_X3_numberGroupOf
set_option maxRecDepth 20000 in
theorem ggX3_numberGroups_X5_cellOf : GoodIn wsX3_numberGroups wsX5_cellOf := goodIn_r _ [16] (by decide +kernel) (by decide +kernel)
set_option maxRecDepth 20000 in
theorem gX3_numberGroups_X5_cellOf_n56 : GoodIn wsX3_numberGroups (wsX5_cellOf) := ggX3_numberGroups_X5_cellOf
set_option maxRecDepth 20000 in
theorem ggX3_numberGroups_X5_targetOf : GoodIn wsX3_numberGroups wsX5_targetOf := goodIn_r _ [18] (by decide +kernel) (by decide +kernel)
set_option maxRecDepth 20000 in
theorem gX3_numberGroups_X5_targetOf_n60 : GoodIn wsX3_numberGroups (wsX5_targetOf) := ggX3_numberGroups_X5_targetOf
theorem dX3_numberGroups_0 : decode cX3_numberGroups 0 = .ok (.aload_n 0, 1) := by decide +kernel
theorem dX3_numberGroups_1 : decode cX3_numberGroups 1 = .ok (.getfield 22, 3) := by decide +kernel
theorem dX3_numberGroups_4 : decode cX3_numberGroups 4 = .ok (.iconst (-1), 1) := by decide +kernel
theorem dX3_numberGroups_5 : decode cX3_numberGroups 5 = .ok (.invokestatic 49, 3) := by decide +kernel
theorem dX3_numberGroups_8 : decode cX3_numberGroups 8 = .ok (.aload_n 0, 1) := by decide +kernel
theorem dX3_numberGroups_9 : decode cX3_numberGroups 9 = .ok (.iconst 0, 1) := by decide +kernel
theorem dX3_numberGroups_10 : decode cX3_numberGroups 10 = .ok (.putfield 28, 3) := by decide +kernel
theorem dX3_numberGroups_13 : decode cX3_numberGroups 13 = .ok (.aload_n 0, 1) := by decide +kernel
theorem dX3_numberGroups_14 : decode cX3_numberGroups 14 = .ok (.iconst 0, 1) := by decide +kernel
theorem dX3_numberGroups_15 : decode cX3_numberGroups 15 = .ok (.iload_n 2, 1) := by decide +kernel
theorem dX3_numberGroups_16 : decode cX3_numberGroups 16 = .ok (.invokevirtual 69, 3) := by decide +kernel
theorem dX3_numberGroups_19 : decode cX3_numberGroups 19 = .ok (.iconst 0, 1) := by decide +kernel
theorem dX3_numberGroups_20 : decode cX3_numberGroups 20 = .ok (.istore 4, 2) := by decide +kernel
theorem dX3_numberGroups_22 : decode cX3_numberGroups 22 = .ok (.iload 4, 2) := by decide +kernel
theorem dX3_numberGroups_24 : decode cX3_numberGroups 24 = .ok (.aload_n 0, 1) := by decide +kernel
theorem dX3_numberGroups_25 : decode cX3_numberGroups 25 = .ok (.getfield 28, 3) := by decide +kernel
theorem dX3_numberGroups_28 : decode cX3_numberGroups 28 = .ok (.if_icmp .ge 63, 3) := by decide +kernel
theorem dX3_numberGroups_31 : decode cX3_numberGroups 31 = .ok (.iload 4, 2) := by decide +kernel
theorem dX3_numberGroups_33 : decode cX3_numberGroups 33 = .ok (.bipush 8, 2) := by decide +kernel
theorem dX3_numberGroups_35 : decode cX3_numberGroups 35 = .ok (.if_icmp .ge 56, 3) := by decide +kernel
theorem dX3_numberGroups_38 : decode cX3_numberGroups 38 = .ok (.iconst 0, 1) := by decide +kernel
theorem dX3_numberGroups_39 : decode cX3_numberGroups 39 = .ok (.istore 5, 2) := by decide +kernel
theorem dX3_numberGroups_41 : decode cX3_numberGroups 41 = .ok (.iload 5, 2) := by decide +kernel
theorem dX3_numberGroups_43 : decode cX3_numberGroups 43 = .ok (.iload_n 3, 1) := by decide +kernel
theorem dX3_numberGroups_44 : decode cX3_numberGroups 44 = .ok (.if_icmp .ge 41, 3) := by decide +kernel
theorem dX3_numberGroups_47 : decode cX3_numberGroups 47 = .ok (.aload_n 1, 1) := by decide +kernel
theorem dX3_numberGroups_48 : decode cX3_numberGroups 48 = .ok (.aload_n 0, 1) := by decide +kernel
theorem dX3_numberGroups_49 : decode cX3_numberGroups 49 = .ok (.getfield 25, 3) := by decide +kernel
theorem dX3_numberGroups_52 : decode cX3_numberGroups 52 = .ok (.iload 4, 2) := by decide +kernel
theorem dX3_numberGroups_54 : decode cX3_numberGroups 54 = .ok (.iaload, 1) := by decide +kernel
theorem dX3_numberGroups_55 : decode cX3_numberGroups 55 = .ok (.iload 5, 2) := by decide +kernel
theorem dX3_numberGroups_57 : decode cX3_numberGroups 57 = .ok (.invokestatic 56, 3) := by decide +kernel
theorem dX3_numberGroups_60 : decode cX3_numberGroups 60 = .ok (.iaload, 1) := by decide +kernel
theorem dX3_numberGroups_61 : decode cX3_numberGroups 61 = .ok (.istore 6, 2) := by decide +kernel
theorem dX3_numberGroups_63 : decode cX3_numberGroups 63 = .ok (.iload 6, 2) := by decide +kernel
theorem dX3_numberGroups_65 : decode cX3_numberGroups 65 = .ok (.iconst (-1), 1) := by decide +kernel
theorem dX3_numberGroups_66 : decode cX3_numberGroups 66 = .ok (.if_icmp .eq 13, 3) := by decide +kernel
theorem dX3_numberGroups_69 : decode cX3_numberGroups 69 = .ok (.aload_n 0, 1) := by decide +kernel
theorem dX3_numberGroups_70 : decode cX3_numberGroups 70 = .ok (.iload 6, 2) := by decide +kernel
theorem dX3_numberGroups_72 : decode cX3_numberGroups 72 = .ok (.invokestatic 60, 3) := by decide +kernel
theorem dX3_numberGroups_75 : decode cX3_numberGroups 75 = .ok (.iload_n 2, 1) := by decide +kernel
theorem dX3_numberGroups_76 : decode cX3_numberGroups 76 = .ok (.invokevirtual 69, 3) := by decide +kernel
theorem dX3_numberGroups_79 : decode cX3_numberGroups 79 = .ok (.iinc 5 1, 3) := by decide +kernel
theorem dX3_numberGroups_82 : decode cX3_numberGroups 82 = .ok (.goto (-41), 3) := by decide +kernel
theorem dX3_numberGroups_85 : decode cX3_numberGroups 85 = .ok (.iinc 4 1, 3) := by decide +kernel
theorem dX3_numberGroups_88 : decode cX3_numberGroups 88 = .ok (.goto (-66), 3) := by decide +kernel
theorem dX3_numberGroups_91 : decode cX3_numberGroups 91 = .ok (.return_, 1) := by decide +kernel
theorem dX3_numberGroupOf_0 : decode cX3_numberGroupOf 0 = .ok (.aload_n 0, 1) := by decide +kernel
theorem dX3_numberGroupOf_1 : decode cX3_numberGroupOf 1 = .ok (.getfield 22, 3) := by decide +kernel
theorem dX3_numberGroupOf_4 : decode cX3_numberGroupOf 4 = .ok (.iload_n 1, 1) := by decide +kernel
theorem dX3_numberGroupOf_5 : decode cX3_numberGroupOf 5 = .ok (.iaload, 1) := by decide +kernel
theorem dX3_numberGroupOf_6 : decode cX3_numberGroupOf 6 = .ok (.ifCond .ge 12, 3) := by decide +kernel
theorem dX3_numberGroupOf_9 : decode cX3_numberGroupOf 9 = .ok (.aload_n 0, 1) := by decide +kernel
theorem dX3_numberGroupOf_10 : decode cX3_numberGroupOf 10 = .ok (.getfield 28, 3) := by decide +kernel
theorem dX3_numberGroupOf_13 : decode cX3_numberGroupOf 13 = .ok (.bipush 8, 2) := by decide +kernel
theorem dX3_numberGroupOf_15 : decode cX3_numberGroupOf 15 = .ok (.if_icmp .lt 4, 3) := by decide +kernel
theorem dX3_numberGroupOf_18 : decode cX3_numberGroupOf 18 = .ok (.return_, 1) := by decide +kernel
theorem dX3_numberGroupOf_19 : decode cX3_numberGroupOf 19 = .ok (.aload_n 0, 1) := by decide +kernel
theorem dX3_numberGroupOf_20 : decode cX3_numberGroupOf 20 = .ok (.getfield 25, 3) := by decide +kernel
theorem dX3_numberGroupOf_23 : decode cX3_numberGroupOf 23 = .ok (.aload_n 0, 1) := by decide +kernel
theorem dX3_numberGroupOf_24 : decode cX3_numberGroupOf 24 = .ok (.getfield 28, 3) := by decide +kernel
theorem dX3_numberGroupOf_27 : decode cX3_numberGroupOf 27 = .ok (.iload_n 1, 1) := by decide +kernel
theorem dX3_numberGroupOf_28 : decode cX3_numberGroupOf 28 = .ok (.iastore, 1) := by decide +kernel
theorem dX3_numberGroupOf_29 : decode cX3_numberGroupOf 29 = .ok (.iconst 0, 1) := by decide +kernel
theorem dX3_numberGroupOf_30 : decode cX3_numberGroupOf 30 = .ok (.istore_n 3, 1) := by decide +kernel
theorem dX3_numberGroupOf_31 : decode cX3_numberGroupOf 31 = .ok (.iload_n 3, 1) := by decide +kernel
theorem dX3_numberGroupOf_32 : decode cX3_numberGroupOf 32 = .ok (.iload_n 2, 1) := by decide +kernel
theorem dX3_numberGroupOf_33 : decode cX3_numberGroupOf 33 = .ok (.if_icmp .ge 34, 3) := by decide +kernel
theorem dX3_numberGroupOf_36 : decode cX3_numberGroupOf 36 = .ok (.aload_n 0, 1) := by decide +kernel
theorem dX3_numberGroupOf_37 : decode cX3_numberGroupOf 37 = .ok (.getfield 15, 3) := by decide +kernel
theorem dX3_numberGroupOf_40 : decode cX3_numberGroupOf 40 = .ok (.iload_n 3, 1) := by decide +kernel
theorem dX3_numberGroupOf_41 : decode cX3_numberGroupOf 41 = .ok (.iaload, 1) := by decide +kernel
theorem dX3_numberGroupOf_42 : decode cX3_numberGroupOf 42 = .ok (.aload_n 0, 1) := by decide +kernel
theorem dX3_numberGroupOf_43 : decode cX3_numberGroupOf 43 = .ok (.getfield 15, 3) := by decide +kernel
theorem dX3_numberGroupOf_46 : decode cX3_numberGroupOf 46 = .ok (.iload_n 1, 1) := by decide +kernel
theorem dX3_numberGroupOf_47 : decode cX3_numberGroupOf 47 = .ok (.iaload, 1) := by decide +kernel
theorem dX3_numberGroupOf_48 : decode cX3_numberGroupOf 48 = .ok (.if_icmp .ne 13, 3) := by decide +kernel
theorem dX3_numberGroupOf_51 : decode cX3_numberGroupOf 51 = .ok (.aload_n 0, 1) := by decide +kernel
theorem dX3_numberGroupOf_52 : decode cX3_numberGroupOf 52 = .ok (.getfield 22, 3) := by decide +kernel
theorem dX3_numberGroupOf_55 : decode cX3_numberGroupOf 55 = .ok (.iload_n 3, 1) := by decide +kernel
theorem dX3_numberGroupOf_56 : decode cX3_numberGroupOf 56 = .ok (.aload_n 0, 1) := by decide +kernel
theorem dX3_numberGroupOf_57 : decode cX3_numberGroupOf 57 = .ok (.getfield 28, 3) := by decide +kernel
theorem dX3_numberGroupOf_60 : decode cX3_numberGroupOf 60 = .ok (.iastore, 1) := by decide +kernel
theorem dX3_numberGroupOf_61 : decode cX3_numberGroupOf 61 = .ok (.iinc 3 1, 3) := by decide +kernel
theorem dX3_numberGroupOf_64 : decode cX3_numberGroupOf 64 = .ok (.goto (-33), 3) := by decide +kernel
theorem dX3_numberGroupOf_67 : decode cX3_numberGroupOf 67 = .ok (.aload_n 0, 1) := by decide +kernel
theorem dX3_numberGroupOf_68 : decode cX3_numberGroupOf 68 = .ok (.dup, 1) := by decide +kernel
theorem dX3_numberGroupOf_69 : decode cX3_numberGroupOf 69 = .ok (.getfield 28, 3) := by decide +kernel
theorem dX3_numberGroupOf_72 : decode cX3_numberGroupOf 72 = .ok (.iconst 1, 1) := by decide +kernel
theorem dX3_numberGroupOf_73 : decode cX3_numberGroupOf 73 = .ok (.iadd, 1) := by decide +kernel
theorem dX3_numberGroupOf_74 : decode cX3_numberGroupOf 74 = .ok (.putfield 28, 3) := by decide +kernel
theorem dX3_numberGroupOf_77 : decode cX3_numberGroupOf 77 = .ok (.return_, 1) := by decide +kernel
theorem dX4_init_0 : decode cX4_init 0 = .ok (.aload_n 0, 1) := by decide +kernel
theorem dX4_init_1 : decode cX4_init 1 = .ok (.invokespecial 3, 3) := by decide +kernel
theorem dX4_init_4 : decode cX4_init 4 = .ok (.aload_n 0, 1) := by decide +kernel
theorem dX4_init_5 : decode cX4_init 5 = .ok (.bipush 80, 2) := by decide +kernel
theorem dX4_init_7 : decode cX4_init 7 = .ok (.newarray .int, 2) := by decide +kernel
theorem dX4_init_9 : decode cX4_init 9 = .ok (.putfield 9, 3) := by decide +kernel
theorem dX4_init_12 : decode cX4_init 12 = .ok (.aload_n 0, 1) := by decide +kernel
theorem dX4_init_13 : decode cX4_init 13 = .ok (.iconst 0, 1) := by decide +kernel
theorem dX4_init_14 : decode cX4_init 14 = .ok (.putfield 15, 3) := by decide +kernel
theorem dX4_init_17 : decode cX4_init 17 = .ok (.aload_n 0, 1) := by decide +kernel
theorem dX4_init_18 : decode cX4_init 18 = .ok (.bipush 32, 2) := by decide +kernel
theorem dX4_init_20 : decode cX4_init 20 = .ok (.newarray .int, 2) := by decide +kernel
theorem dX4_init_22 : decode cX4_init 22 = .ok (.putfield 19, 3) := by decide +kernel
theorem dX4_init_25 : decode cX4_init 25 = .ok (.aload_n 0, 1) := by decide +kernel
theorem dX4_init_26 : decode cX4_init 26 = .ok (.iconst 0, 1) := by decide +kernel
theorem dX4_init_27 : decode cX4_init 27 = .ok (.putfield 22, 3) := by decide +kernel
theorem dX4_init_30 : decode cX4_init 30 = .ok (.aload_n 0, 1) := by decide +kernel
theorem dX4_init_31 : decode cX4_init 31 = .ok (.iconst 0, 1) := by decide +kernel
theorem dX4_init_32 : decode cX4_init 32 = .ok (.putfield 25, 3) := by decide +kernel
theorem dX4_init_35 : decode cX4_init 35 = .ok (.aload_n 0, 1) := by decide +kernel
theorem dX4_init_36 : decode cX4_init 36 = .ok (.iconst 0, 1) := by decide +kernel
theorem dX4_init_37 : decode cX4_init 37 = .ok (.putfield 28, 3) := by decide +kernel
theorem dX4_init_40 : decode cX4_init 40 = .ok (.aload_n 0, 1) := by decide +kernel
theorem dX4_init_41 : decode cX4_init 41 = .ok (.iconst 0, 1) := by decide +kernel
theorem dX4_init_42 : decode cX4_init 42 = .ok (.putfield 31, 3) := by decide +kernel
theorem dX4_init_45 : decode cX4_init 45 = .ok (.aload_n 0, 1) := by decide +kernel
theorem dX4_init_46 : decode cX4_init 46 = .ok (.iconst 0, 1) := by decide +kernel
theorem dX4_init_47 : decode cX4_init 47 = .ok (.putfield 34, 3) := by decide +kernel
theorem dX4_init_50 : decode cX4_init 50 = .ok (.aload_n 0, 1) := by decide +kernel
theorem dX4_init_51 : decode cX4_init 51 = .ok (.iconst 0, 1) := by decide +kernel
theorem dX4_init_52 : decode cX4_init 52 = .ok (.putfield 37, 3) := by decide +kernel
theorem dX4_init_55 : decode cX4_init 55 = .ok (.aload_n 0, 1) := by decide +kernel
theorem dX4_init_56 : decode cX4_init 56 = .ok (.iconst 0, 1) := by decide +kernel
theorem dX4_init_57 : decode cX4_init 57 = .ok (.putfield 40, 3) := by decide +kernel
theorem dX4_init_60 : decode cX4_init 60 = .ok (.return_, 1) := by decide +kernel
set_option maxRecDepth 20000 in
theorem ggX4_parse_J7_fill_53178 : GoodIn wsX4_parse wsJ7_fill_53178 := goodIn_r _ [11] (by decide +kernel) (by decide +kernel)
set_option maxRecDepth 20000 in
theorem gX4_parse_J7_fill_53178 : GoodIn wsX4_parse (va_wsS RX4 43 yJ7_fill_53178 wsJ7_fill_53178) := goodIn_app (goodIn_of _ (by decide +kernel)) ggX4_parse_J7_fill_53178
set_option maxRecDepth 20000 in
theorem ggX4_parse_X4_takes : GoodIn wsX4_parse wsX4_takes := goodIn_r _ [16, 3, 4, 17, 18, 19, 15, 20, 21, 1, 22, 23, 24, 25, 2, 26, 5, 27, 28, 29, 30, 31, 32, 33, 34, 35, 36, 37, 38, 39, 40, 41, 42, 43, 44, 45, 46, 47, 48, 49, 50, 51, 52, 53, 54, 55, 56] (by decide +kernel) (by decide +kernel)
set_option maxRecDepth 20000 in
theorem gX4_parse_X4_takes : GoodIn wsX4_parse (wsV RX4 49 RX4 yX4_takes wsX4_takes) := goodIn_app (goodIn_of _ (by decide +kernel)) ggX4_parse_X4_takes
theorem dX4_parse_0 : decode cX4_parse 0 = .ok (.aload_n 0, 1) := by decide +kernel
theorem dX4_parse_1 : decode cX4_parse 1 = .ok (.iload_n 1, 1) := by decide +kernel
theorem dX4_parse_2 : decode cX4_parse 2 = .ok (.putfield 25, 3) := by decide +kernel
theorem dX4_parse_5 : decode cX4_parse 5 = .ok (.aload_n 0, 1) := by decide +kernel
theorem dX4_parse_6 : decode cX4_parse 6 = .ok (.iload_n 2, 1) := by decide +kernel
theorem dX4_parse_7 : decode cX4_parse 7 = .ok (.putfield 28, 3) := by decide +kernel
theorem dX4_parse_10 : decode cX4_parse 10 = .ok (.aload_n 0, 1) := by decide +kernel
theorem dX4_parse_11 : decode cX4_parse 11 = .ok (.iconst 0, 1) := by decide +kernel
theorem dX4_parse_12 : decode cX4_parse 12 = .ok (.putfield 31, 3) := by decide +kernel
theorem dX4_parse_15 : decode cX4_parse 15 = .ok (.aload_n 0, 1) := by decide +kernel
theorem dX4_parse_16 : decode cX4_parse 16 = .ok (.iconst 0, 1) := by decide +kernel
theorem dX4_parse_17 : decode cX4_parse 17 = .ok (.putfield 22, 3) := by decide +kernel
theorem dX4_parse_20 : decode cX4_parse 20 = .ok (.aload_n 0, 1) := by decide +kernel
theorem dX4_parse_21 : decode cX4_parse 21 = .ok (.getfield 19, 3) := by decide +kernel
theorem dX4_parse_24 : decode cX4_parse 24 = .ok (.bipush (-2), 2) := by decide +kernel
theorem dX4_parse_26 : decode cX4_parse 26 = .ok (.invokestatic 43, 3) := by decide +kernel
theorem dX4_parse_29 : decode cX4_parse 29 = .ok (.iconst 0, 1) := by decide +kernel
theorem dX4_parse_30 : decode cX4_parse 30 = .ok (.istore_n 3, 1) := by decide +kernel
theorem dX4_parse_31 : decode cX4_parse 31 = .ok (.iload_n 3, 1) := by decide +kernel
theorem dX4_parse_32 : decode cX4_parse 32 = .ok (.aload_n 0, 1) := by decide +kernel
theorem dX4_parse_33 : decode cX4_parse 33 = .ok (.getfield 15, 3) := by decide +kernel
theorem dX4_parse_36 : decode cX4_parse 36 = .ok (.if_icmp .ge 24, 3) := by decide +kernel
theorem dX4_parse_39 : decode cX4_parse 39 = .ok (.aload_n 0, 1) := by decide +kernel
theorem dX4_parse_40 : decode cX4_parse 40 = .ok (.aload_n 0, 1) := by decide +kernel
theorem dX4_parse_41 : decode cX4_parse 41 = .ok (.getfield 9, 3) := by decide +kernel
theorem dX4_parse_44 : decode cX4_parse 44 = .ok (.iload_n 3, 1) := by decide +kernel
theorem dX4_parse_45 : decode cX4_parse 45 = .ok (.iaload, 1) := by decide +kernel
theorem dX4_parse_46 : decode cX4_parse 46 = .ok (.invokevirtual 49, 3) := by decide +kernel
theorem dX4_parse_49 : decode cX4_parse 49 = .ok (.ifCond .ne 5, 3) := by decide +kernel
theorem dX4_parse_52 : decode cX4_parse 52 = .ok (.iload_n 3, 1) := by decide +kernel
theorem dX4_parse_53 : decode cX4_parse 53 = .ok (.ireturn, 1) := by decide +kernel
theorem dX4_parse_54 : decode cX4_parse 54 = .ok (.iinc 3 1, 3) := by decide +kernel
theorem dX4_parse_57 : decode cX4_parse 57 = .ok (.goto (-26), 3) := by decide +kernel
theorem dX4_parse_60 : decode cX4_parse 60 = .ok (.aload_n 0, 1) := by decide +kernel
theorem dX4_parse_61 : decode cX4_parse 61 = .ok (.getfield 31, 3) := by decide +kernel
theorem dX4_parse_64 : decode cX4_parse 64 = .ok (.ifCond .ne 8, 3) := by decide +kernel
theorem dX4_parse_67 : decode cX4_parse 67 = .ok (.bipush (-5), 2) := by decide +kernel
theorem dX4_parse_69 : decode cX4_parse 69 = .ok (.goto 7, 3) := by decide +kernel
theorem dX4_parse_72 : decode cX4_parse 72 = .ok (.aload_n 0, 1) := by decide +kernel
theorem dX4_parse_73 : decode cX4_parse 73 = .ok (.getfield 15, 3) := by decide +kernel
theorem dX4_parse_76 : decode cX4_parse 76 = .ok (.ireturn, 1) := by decide +kernel
set_option maxRecDepth 20000 in
theorem ggX4_takes_X4_takesState : GoodIn wsX4_takes wsX4_takesState := goodIn_r _ [7, 8, 1, 9, 37, 38, 39, 40, 41, 42, 43, 44, 45, 46] (by decide +kernel) (by decide +kernel)
set_option maxRecDepth 20000 in
theorem gX4_takes_X4_takesState : GoodIn wsX4_takes (wsV RX4 53 RX4 yX4_takesState wsX4_takesState) := goodIn_app (goodIn_of _ (by decide +kernel)) ggX4_takes_X4_takesState
set_option maxRecDepth 20000 in
theorem ggX4_takes_X4_takesLetter : GoodIn wsX4_takes wsX4_takesLetter := goodIn_r _ [13, 14, 8, 15, 1, 16, 17, 18, 19, 37, 38, 39, 40, 41, 42, 43, 44, 45, 46] (by decide +kernel) (by decide +kernel)
set_option maxRecDepth 20000 in
theorem gX4_takes_X4_takesLetter : GoodIn wsX4_takes (wsV RX4 56 RX4 yX4_takesLetter wsX4_takesLetter) := goodIn_app (goodIn_of _ (by decide +kernel)) ggX4_takes_X4_takesLetter
set_option maxRecDepth 20000 in
theorem ggX4_takes_X4_takesKind : GoodIn wsX4_takes wsX4_takesKind := goodIn_r _ [23, 16, 15, 1, 37, 38, 39, 40, 41, 42, 43, 44, 45, 46] (by decide +kernel) (by decide +kernel)
set_option maxRecDepth 20000 in
theorem gX4_takes_X4_takesKind : GoodIn wsX4_takes (wsV RX4 59 RX4 yX4_takesKind wsX4_takesKind) := goodIn_app (goodIn_of _ (by decide +kernel)) ggX4_takes_X4_takesKind
set_option maxRecDepth 20000 in
theorem ggX4_takes_X4_takesTarget : GoodIn wsX4_takes wsX4_takesTarget := goodIn_r _ [27, 28, 1, 9, 37, 38, 39, 40, 41, 42, 43, 44, 45, 46] (by decide +kernel) (by decide +kernel)
set_option maxRecDepth 20000 in
theorem gX4_takes_X4_takesTarget : GoodIn wsX4_takes (wsV RX4 62 RX4 yX4_takesTarget wsX4_takesTarget) := goodIn_app (goodIn_of _ (by decide +kernel)) ggX4_takes_X4_takesTarget
set_option maxRecDepth 20000 in
theorem ggX4_takes_X4_takesOutput : GoodIn wsX4_takes wsX4_takesOutput := goodIn_r _ [32, 16, 15, 28, 1, 33, 18, 34, 35, 36, 37, 38, 39, 40, 41, 42, 43, 44, 45, 46] (by decide +kernel) (by decide +kernel)
set_option maxRecDepth 20000 in
theorem gX4_takes_X4_takesOutput : GoodIn wsX4_takes (wsV RX4 65 RX4 yX4_takesOutput wsX4_takesOutput) := goodIn_app (goodIn_of _ (by decide +kernel)) ggX4_takes_X4_takesOutput
theorem dX4_takes_0 : decode cX4_takes 0 = .ok (.aload_n 0, 1) := by decide +kernel
theorem dX4_takes_1 : decode cX4_takes 1 = .ok (.getfield 31, 3) := by decide +kernel
theorem dX4_takes_4 : decode cX4_takes 4 = .ok (.tableswitch 87 0 5 #[40, 46, 52, 58, 64, 81], 40) := by decide +kernel
theorem dX4_takes_44 : decode cX4_takes 44 = .ok (.aload_n 0, 1) := by decide +kernel
theorem dX4_takes_45 : decode cX4_takes 45 = .ok (.iload_n 1, 1) := by decide +kernel
theorem dX4_takes_46 : decode cX4_takes 46 = .ok (.invokevirtual 53, 3) := by decide +kernel
theorem dX4_takes_49 : decode cX4_takes 49 = .ok (.ireturn, 1) := by decide +kernel
theorem dX4_takes_50 : decode cX4_takes 50 = .ok (.aload_n 0, 1) := by decide +kernel
theorem dX4_takes_51 : decode cX4_takes 51 = .ok (.iload_n 1, 1) := by decide +kernel
theorem dX4_takes_52 : decode cX4_takes 52 = .ok (.invokevirtual 56, 3) := by decide +kernel
theorem dX4_takes_55 : decode cX4_takes 55 = .ok (.ireturn, 1) := by decide +kernel
theorem dX4_takes_56 : decode cX4_takes 56 = .ok (.aload_n 0, 1) := by decide +kernel
theorem dX4_takes_57 : decode cX4_takes 57 = .ok (.iload_n 1, 1) := by decide +kernel
theorem dX4_takes_58 : decode cX4_takes 58 = .ok (.invokevirtual 59, 3) := by decide +kernel
theorem dX4_takes_61 : decode cX4_takes 61 = .ok (.ireturn, 1) := by decide +kernel
theorem dX4_takes_62 : decode cX4_takes 62 = .ok (.aload_n 0, 1) := by decide +kernel
theorem dX4_takes_63 : decode cX4_takes 63 = .ok (.iload_n 1, 1) := by decide +kernel
theorem dX4_takes_64 : decode cX4_takes 64 = .ok (.invokevirtual 62, 3) := by decide +kernel
theorem dX4_takes_67 : decode cX4_takes 67 = .ok (.ireturn, 1) := by decide +kernel
theorem dX4_takes_68 : decode cX4_takes 68 = .ok (.aload_n 0, 1) := by decide +kernel
theorem dX4_takes_69 : decode cX4_takes 69 = .ok (.iconst 5, 1) := by decide +kernel
theorem dX4_takes_70 : decode cX4_takes 70 = .ok (.putfield 31, 3) := by decide +kernel
theorem dX4_takes_73 : decode cX4_takes 73 = .ok (.iload_n 1, 1) := by decide +kernel
theorem dX4_takes_74 : decode cX4_takes 74 = .ok (.bipush 47, 2) := by decide +kernel
theorem dX4_takes_76 : decode cX4_takes 76 = .ok (.if_icmp .ne 7, 3) := by decide +kernel
theorem dX4_takes_79 : decode cX4_takes 79 = .ok (.iconst 1, 1) := by decide +kernel
theorem dX4_takes_80 : decode cX4_takes 80 = .ok (.goto 4, 3) := by decide +kernel
theorem dX4_takes_83 : decode cX4_takes 83 = .ok (.iconst 0, 1) := by decide +kernel
theorem dX4_takes_84 : decode cX4_takes 84 = .ok (.ireturn, 1) := by decide +kernel
theorem dX4_takes_85 : decode cX4_takes 85 = .ok (.aload_n 0, 1) := by decide +kernel
theorem dX4_takes_86 : decode cX4_takes 86 = .ok (.iload_n 1, 1) := by decide +kernel
theorem dX4_takes_87 : decode cX4_takes 87 = .ok (.invokevirtual 65, 3) := by decide +kernel
theorem dX4_takes_90 : decode cX4_takes 90 = .ok (.ireturn, 1) := by decide +kernel
theorem dX4_takes_91 : decode cX4_takes 91 = .ok (.aload_n 0, 1) := by decide +kernel
theorem dX4_takes_92 : decode cX4_takes 92 = .ok (.iconst 0, 1) := by decide +kernel
theorem dX4_takes_93 : decode cX4_takes 93 = .ok (.putfield 31, 3) := by decide +kernel
theorem dX4_takes_96 : decode cX4_takes 96 = .ok (.aload_n 0, 1) := by decide +kernel
theorem dX4_takes_97 : decode cX4_takes 97 = .ok (.dup, 1) := by decide +kernel
theorem dX4_takes_98 : decode cX4_takes 98 = .ok (.getfield 22, 3) := by decide +kernel
theorem dX4_takes_101 : decode cX4_takes 101 = .ok (.iconst 1, 1) := by decide +kernel
theorem dX4_takes_102 : decode cX4_takes 102 = .ok (.iadd, 1) := by decide +kernel
theorem dX4_takes_103 : decode cX4_takes 103 = .ok (.putfield 22, 3) := by decide +kernel
theorem dX4_takes_106 : decode cX4_takes 106 = .ok (.iload_n 1, 1) := by decide +kernel
theorem dX4_takes_107 : decode cX4_takes 107 = .ok (.bipush 59, 2) := by decide +kernel
theorem dX4_takes_109 : decode cX4_takes 109 = .ok (.if_icmp .ne 7, 3) := by decide +kernel
theorem dX4_takes_112 : decode cX4_takes 112 = .ok (.iconst 1, 1) := by decide +kernel
theorem dX4_takes_113 : decode cX4_takes 113 = .ok (.goto 4, 3) := by decide +kernel
theorem dX4_takes_116 : decode cX4_takes 116 = .ok (.iconst 0, 1) := by decide +kernel
theorem dX4_takes_117 : decode cX4_takes 117 = .ok (.ireturn, 1) := by decide +kernel
theorem dX4_takesState_0 : decode cX4_takesState 0 = .ok (.aload_n 0, 1) := by decide +kernel
theorem dX4_takesState_1 : decode cX4_takesState 1 = .ok (.iload_n 1, 1) := by decide +kernel
theorem dX4_takesState_2 : decode cX4_takesState 2 = .ok (.bipush 48, 2) := by decide +kernel
theorem dX4_takesState_4 : decode cX4_takesState 4 = .ok (.isub, 1) := by decide +kernel
theorem dX4_takesState_5 : decode cX4_takesState 5 = .ok (.putfield 34, 3) := by decide +kernel
theorem dX4_takesState_8 : decode cX4_takesState 8 = .ok (.aload_n 0, 1) := by decide +kernel
theorem dX4_takesState_9 : decode cX4_takesState 9 = .ok (.iconst 1, 1) := by decide +kernel
theorem dX4_takesState_10 : decode cX4_takesState 10 = .ok (.putfield 31, 3) := by decide +kernel
theorem dX4_takesState_13 : decode cX4_takesState 13 = .ok (.aload_n 0, 1) := by decide +kernel
theorem dX4_takesState_14 : decode cX4_takesState 14 = .ok (.getfield 34, 3) := by decide +kernel
theorem dX4_takesState_17 : decode cX4_takesState 17 = .ok (.ifCond .lt 18, 3) := by decide +kernel
theorem dX4_takesState_20 : decode cX4_takesState 20 = .ok (.aload_n 0, 1) := by decide +kernel
theorem dX4_takesState_21 : decode cX4_takesState 21 = .ok (.getfield 34, 3) := by decide +kernel
theorem dX4_takesState_24 : decode cX4_takesState 24 = .ok (.aload_n 0, 1) := by decide +kernel
theorem dX4_takesState_25 : decode cX4_takesState 25 = .ok (.getfield 25, 3) := by decide +kernel
theorem dX4_takesState_28 : decode cX4_takesState 28 = .ok (.if_icmp .ge 7, 3) := by decide +kernel
theorem dX4_takesState_31 : decode cX4_takesState 31 = .ok (.iconst 1, 1) := by decide +kernel
theorem dX4_takesState_32 : decode cX4_takesState 32 = .ok (.goto 4, 3) := by decide +kernel
theorem dX4_takesState_35 : decode cX4_takesState 35 = .ok (.iconst 0, 1) := by decide +kernel
theorem dX4_takesState_36 : decode cX4_takesState 36 = .ok (.ireturn, 1) := by decide +kernel
set_option maxRecDepth 20000 in
theorem ggX4_takesLetter_X5_cellOf : GoodIn wsX4_takesLetter wsX5_cellOf := goodIn_r _ [8] (by decide +kernel) (by decide +kernel)
set_option maxRecDepth 20000 in
theorem gX4_takesLetter_X5_cellOf_n68 : GoodIn wsX4_takesLetter (wsX5_cellOf) := ggX4_takesLetter_X5_cellOf
theorem dX4_takesLetter_0 : decode cX4_takesLetter 0 = .ok (.iload_n 1, 1) := by decide +kernel
theorem dX4_takesLetter_1 : decode cX4_takesLetter 1 = .ok (.bipush 97, 2) := by decide +kernel
theorem dX4_takesLetter_3 : decode cX4_takesLetter 3 = .ok (.isub, 1) := by decide +kernel
theorem dX4_takesLetter_4 : decode cX4_takesLetter 4 = .ok (.istore_n 2, 1) := by decide +kernel
theorem dX4_takesLetter_5 : decode cX4_takesLetter 5 = .ok (.iload_n 2, 1) := by decide +kernel
theorem dX4_takesLetter_6 : decode cX4_takesLetter 6 = .ok (.ifCond .lt 11, 3) := by decide +kernel
theorem dX4_takesLetter_9 : decode cX4_takesLetter 9 = .ok (.iload_n 2, 1) := by decide +kernel
theorem dX4_takesLetter_10 : decode cX4_takesLetter 10 = .ok (.aload_n 0, 1) := by decide +kernel
theorem dX4_takesLetter_11 : decode cX4_takesLetter 11 = .ok (.getfield 28, 3) := by decide +kernel
theorem dX4_takesLetter_14 : decode cX4_takesLetter 14 = .ok (.if_icmp .lt 5, 3) := by decide +kernel
theorem dX4_takesLetter_17 : decode cX4_takesLetter 17 = .ok (.iconst 0, 1) := by decide +kernel
theorem dX4_takesLetter_18 : decode cX4_takesLetter 18 = .ok (.ireturn, 1) := by decide +kernel
theorem dX4_takesLetter_19 : decode cX4_takesLetter 19 = .ok (.aload_n 0, 1) := by decide +kernel
theorem dX4_takesLetter_20 : decode cX4_takesLetter 20 = .ok (.aload_n 0, 1) := by decide +kernel
theorem dX4_takesLetter_21 : decode cX4_takesLetter 21 = .ok (.getfield 34, 3) := by decide +kernel
theorem dX4_takesLetter_24 : decode cX4_takesLetter 24 = .ok (.iload_n 2, 1) := by decide +kernel
theorem dX4_takesLetter_25 : decode cX4_takesLetter 25 = .ok (.invokestatic 68, 3) := by decide +kernel
theorem dX4_takesLetter_28 : decode cX4_takesLetter 28 = .ok (.putfield 37, 3) := by decide +kernel
theorem dX4_takesLetter_31 : decode cX4_takesLetter 31 = .ok (.aload_n 0, 1) := by decide +kernel
theorem dX4_takesLetter_32 : decode cX4_takesLetter 32 = .ok (.iconst 2, 1) := by decide +kernel
theorem dX4_takesLetter_33 : decode cX4_takesLetter 33 = .ok (.putfield 31, 3) := by decide +kernel
theorem dX4_takesLetter_36 : decode cX4_takesLetter 36 = .ok (.aload_n 0, 1) := by decide +kernel
theorem dX4_takesLetter_37 : decode cX4_takesLetter 37 = .ok (.getfield 19, 3) := by decide +kernel
theorem dX4_takesLetter_40 : decode cX4_takesLetter 40 = .ok (.aload_n 0, 1) := by decide +kernel
theorem dX4_takesLetter_41 : decode cX4_takesLetter 41 = .ok (.getfield 37, 3) := by decide +kernel
theorem dX4_takesLetter_44 : decode cX4_takesLetter 44 = .ok (.iaload, 1) := by decide +kernel
theorem dX4_takesLetter_45 : decode cX4_takesLetter 45 = .ok (.bipush (-2), 2) := by decide +kernel
theorem dX4_takesLetter_47 : decode cX4_takesLetter 47 = .ok (.if_icmp .ne 7, 3) := by decide +kernel
theorem dX4_takesLetter_50 : decode cX4_takesLetter 50 = .ok (.iconst 1, 1) := by decide +kernel
theorem dX4_takesLetter_51 : decode cX4_takesLetter 51 = .ok (.goto 4, 3) := by decide +kernel
theorem dX4_takesLetter_54 : decode cX4_takesLetter 54 = .ok (.iconst 0, 1) := by decide +kernel
theorem dX4_takesLetter_55 : decode cX4_takesLetter 55 = .ok (.ireturn, 1) := by decide +kernel
theorem dX4_takesKind_0 : decode cX4_takesKind 0 = .ok (.iload_n 1, 1) := by decide +kernel
theorem dX4_takesKind_1 : decode cX4_takesKind 1 = .ok (.bipush 45, 2) := by decide +kernel
theorem dX4_takesKind_3 : decode cX4_takesKind 3 = .ok (.if_icmp .ne 21, 3) := by decide +kernel
theorem dX4_takesKind_6 : decode cX4_takesKind 6 = .ok (.aload_n 0, 1) := by decide +kernel
theorem dX4_takesKind_7 : decode cX4_takesKind 7 = .ok (.getfield 19, 3) := by decide +kernel
theorem dX4_takesKind_10 : decode cX4_takesKind 10 = .ok (.aload_n 0, 1) := by decide +kernel
theorem dX4_takesKind_11 : decode cX4_takesKind 11 = .ok (.getfield 37, 3) := by decide +kernel
theorem dX4_takesKind_14 : decode cX4_takesKind 14 = .ok (.iconst (-1), 1) := by decide +kernel
theorem dX4_takesKind_15 : decode cX4_takesKind 15 = .ok (.iastore, 1) := by decide +kernel
theorem dX4_takesKind_16 : decode cX4_takesKind 16 = .ok (.aload_n 0, 1) := by decide +kernel
theorem dX4_takesKind_17 : decode cX4_takesKind 17 = .ok (.bipush 6, 2) := by decide +kernel
theorem dX4_takesKind_19 : decode cX4_takesKind 19 = .ok (.putfield 31, 3) := by decide +kernel
theorem dX4_takesKind_22 : decode cX4_takesKind 22 = .ok (.iconst 1, 1) := by decide +kernel
theorem dX4_takesKind_23 : decode cX4_takesKind 23 = .ok (.ireturn, 1) := by decide +kernel
theorem dX4_takesKind_24 : decode cX4_takesKind 24 = .ok (.aload_n 0, 1) := by decide +kernel
theorem dX4_takesKind_25 : decode cX4_takesKind 25 = .ok (.iconst 3, 1) := by decide +kernel
theorem dX4_takesKind_26 : decode cX4_takesKind 26 = .ok (.putfield 31, 3) := by decide +kernel
theorem dX4_takesKind_29 : decode cX4_takesKind 29 = .ok (.iload_n 1, 1) := by decide +kernel
theorem dX4_takesKind_30 : decode cX4_takesKind 30 = .ok (.bipush 62, 2) := by decide +kernel
theorem dX4_takesKind_32 : decode cX4_takesKind 32 = .ok (.if_icmp .ne 7, 3) := by decide +kernel
theorem dX4_takesKind_35 : decode cX4_takesKind 35 = .ok (.iconst 1, 1) := by decide +kernel
theorem dX4_takesKind_36 : decode cX4_takesKind 36 = .ok (.goto 4, 3) := by decide +kernel
theorem dX4_takesKind_39 : decode cX4_takesKind 39 = .ok (.iconst 0, 1) := by decide +kernel
theorem dX4_takesKind_40 : decode cX4_takesKind 40 = .ok (.ireturn, 1) := by decide +kernel
theorem dX4_takesTarget_0 : decode cX4_takesTarget 0 = .ok (.aload_n 0, 1) := by decide +kernel
theorem dX4_takesTarget_1 : decode cX4_takesTarget 1 = .ok (.iload_n 1, 1) := by decide +kernel
theorem dX4_takesTarget_2 : decode cX4_takesTarget 2 = .ok (.bipush 48, 2) := by decide +kernel
theorem dX4_takesTarget_4 : decode cX4_takesTarget 4 = .ok (.isub, 1) := by decide +kernel
theorem dX4_takesTarget_5 : decode cX4_takesTarget 5 = .ok (.putfield 40, 3) := by decide +kernel
theorem dX4_takesTarget_8 : decode cX4_takesTarget 8 = .ok (.aload_n 0, 1) := by decide +kernel
theorem dX4_takesTarget_9 : decode cX4_takesTarget 9 = .ok (.iconst 4, 1) := by decide +kernel
theorem dX4_takesTarget_10 : decode cX4_takesTarget 10 = .ok (.putfield 31, 3) := by decide +kernel
theorem dX4_takesTarget_13 : decode cX4_takesTarget 13 = .ok (.aload_n 0, 1) := by decide +kernel
theorem dX4_takesTarget_14 : decode cX4_takesTarget 14 = .ok (.getfield 40, 3) := by decide +kernel
theorem dX4_takesTarget_17 : decode cX4_takesTarget 17 = .ok (.ifCond .lt 18, 3) := by decide +kernel
theorem dX4_takesTarget_20 : decode cX4_takesTarget 20 = .ok (.aload_n 0, 1) := by decide +kernel
theorem dX4_takesTarget_21 : decode cX4_takesTarget 21 = .ok (.getfield 40, 3) := by decide +kernel
theorem dX4_takesTarget_24 : decode cX4_takesTarget 24 = .ok (.aload_n 0, 1) := by decide +kernel
theorem dX4_takesTarget_25 : decode cX4_takesTarget 25 = .ok (.getfield 25, 3) := by decide +kernel
theorem dX4_takesTarget_28 : decode cX4_takesTarget 28 = .ok (.if_icmp .ge 7, 3) := by decide +kernel
theorem dX4_takesTarget_31 : decode cX4_takesTarget 31 = .ok (.iconst 1, 1) := by decide +kernel
theorem dX4_takesTarget_32 : decode cX4_takesTarget 32 = .ok (.goto 4, 3) := by decide +kernel
theorem dX4_takesTarget_35 : decode cX4_takesTarget 35 = .ok (.iconst 0, 1) := by decide +kernel
theorem dX4_takesTarget_36 : decode cX4_takesTarget 36 = .ok (.ireturn, 1) := by decide +kernel
set_option maxRecDepth 20000 in
theorem ggX4_takesOutput_X5_isOutput : GoodIn wsX4_takesOutput wsX5_isOutput := goodIn_r _ [7] (by decide +kernel) (by decide +kernel)
set_option maxRecDepth 20000 in
theorem gX4_takesOutput_X5_isOutput_n72 : GoodIn wsX4_takesOutput (wsX5_isOutput) := ggX4_takesOutput_X5_isOutput
set_option maxRecDepth 20000 in
theorem ggX4_takesOutput_X5_arrowOf : GoodIn wsX4_takesOutput wsX5_arrowOf := goodIn_r _ [9] (by decide +kernel) (by decide +kernel)
set_option maxRecDepth 20000 in
theorem gX4_takesOutput_X5_arrowOf_n75 : GoodIn wsX4_takesOutput (wsX5_arrowOf) := ggX4_takesOutput_X5_arrowOf
theorem dX4_takesOutput_0 : decode cX4_takesOutput 0 = .ok (.iload_n 1, 1) := by decide +kernel
theorem dX4_takesOutput_1 : decode cX4_takesOutput 1 = .ok (.bipush 48, 2) := by decide +kernel
theorem dX4_takesOutput_3 : decode cX4_takesOutput 3 = .ok (.isub, 1) := by decide +kernel
theorem dX4_takesOutput_4 : decode cX4_takesOutput 4 = .ok (.istore_n 2, 1) := by decide +kernel
theorem dX4_takesOutput_5 : decode cX4_takesOutput 5 = .ok (.iload_n 2, 1) := by decide +kernel
theorem dX4_takesOutput_6 : decode cX4_takesOutput 6 = .ok (.invokestatic 72, 3) := by decide +kernel
theorem dX4_takesOutput_9 : decode cX4_takesOutput 9 = .ok (.ifCond .ne 5, 3) := by decide +kernel
theorem dX4_takesOutput_12 : decode cX4_takesOutput 12 = .ok (.iconst 0, 1) := by decide +kernel
theorem dX4_takesOutput_13 : decode cX4_takesOutput 13 = .ok (.ireturn, 1) := by decide +kernel
theorem dX4_takesOutput_14 : decode cX4_takesOutput 14 = .ok (.aload_n 0, 1) := by decide +kernel
theorem dX4_takesOutput_15 : decode cX4_takesOutput 15 = .ok (.getfield 19, 3) := by decide +kernel
theorem dX4_takesOutput_18 : decode cX4_takesOutput 18 = .ok (.aload_n 0, 1) := by decide +kernel
theorem dX4_takesOutput_19 : decode cX4_takesOutput 19 = .ok (.getfield 37, 3) := by decide +kernel
theorem dX4_takesOutput_22 : decode cX4_takesOutput 22 = .ok (.aload_n 0, 1) := by decide +kernel
theorem dX4_takesOutput_23 : decode cX4_takesOutput 23 = .ok (.getfield 40, 3) := by decide +kernel
theorem dX4_takesOutput_26 : decode cX4_takesOutput 26 = .ok (.iload_n 2, 1) := by decide +kernel
theorem dX4_takesOutput_27 : decode cX4_takesOutput 27 = .ok (.invokestatic 75, 3) := by decide +kernel
theorem dX4_takesOutput_30 : decode cX4_takesOutput 30 = .ok (.iastore, 1) := by decide +kernel
theorem dX4_takesOutput_31 : decode cX4_takesOutput 31 = .ok (.aload_n 0, 1) := by decide +kernel
theorem dX4_takesOutput_32 : decode cX4_takesOutput 32 = .ok (.bipush 6, 2) := by decide +kernel
theorem dX4_takesOutput_34 : decode cX4_takesOutput 34 = .ok (.putfield 31, 3) := by decide +kernel
theorem dX4_takesOutput_37 : decode cX4_takesOutput 37 = .ok (.iconst 1, 1) := by decide +kernel
theorem dX4_takesOutput_38 : decode cX4_takesOutput 38 = .ok (.ireturn, 1) := by decide +kernel
set_option maxRecDepth 20000 in
theorem ggX5_init_X2_init : GoodIn wsX5_init wsX2_init := goodIn_r _ [32, 33, 2, 3, 34, 35, 36, 37, 15, 38, 39, 40, 41, 42, 43, 44, 45, 95, 96, 97, 98, 99, 100, 101] (by decide +kernel) (by decide +kernel)
set_option maxRecDepth 20000 in
theorem gX5_init_X2_init : GoodIn wsX5_init (wsX2_init) := ggX5_init_X2_init
set_option maxRecDepth 20000 in
theorem ggX5_init_X4_init : GoodIn wsX5_init wsX4_init := goodIn_r _ [47, 48, 2, 3, 15, 49, 50, 51, 52, 53, 54, 55, 56, 57, 58, 114, 115, 116, 117, 118, 119, 120, 121, 122, 123] (by decide +kernel) (by decide +kernel)
set_option maxRecDepth 20000 in
theorem gX5_init_X4_init_n26 : GoodIn wsX5_init (wsX4_init) := ggX5_init_X4_init
set_option maxRecDepth 20000 in
theorem ggX5_init_X0_init : GoodIn wsX5_init wsX0_init := goodIn_r _ [60, 61, 2, 3, 62, 15, 63, 64, 65, 66, 67, 68, 9, 69, 70, 124, 125, 126, 127, 128, 129, 130, 131, 132] (by decide +kernel) (by decide +kernel)
set_option maxRecDepth 20000 in
theorem gX5_init_X0_init_n53 : GoodIn wsX5_init (wsX0_init) := ggX5_init_X0_init
set_option maxRecDepth 20000 in
theorem ggX5_init_X1_init : GoodIn wsX5_init wsX1_init := goodIn_r _ [72, 73, 2, 3, 74, 75, 76, 77, 78, 79, 80, 81, 82, 15, 83, 84, 85, 86, 87, 88, 89, 90, 91, 92, 93, 94, 140, 141, 142, 143, 144, 145, 133, 134, 135, 136, 137, 138, 139] (by decide +kernel) (by decide +kernel)
set_option maxRecDepth 20000 in
theorem gX5_init_X1_init_n60 : GoodIn wsX5_init (wsX1_init) := ggX5_init_X1_init
theorem dX5_init_0 : decode cX5_init 0 = .ok (.aload_n 0, 1) := by decide +kernel
theorem dX5_init_1 : decode cX5_init 1 = .ok (.invokespecial 3, 3) := by decide +kernel
theorem dX5_init_4 : decode cX5_init 4 = .ok (.aload_n 0, 1) := by decide +kernel
theorem dX5_init_5 : decode cX5_init 5 = .ok (.new 9, 3) := by decide +kernel
theorem dX5_init_8 : decode cX5_init 8 = .ok (.dup, 1) := by decide +kernel
theorem dX5_init_9 : decode cX5_init 9 = .ok (.invokespecial 11, 3) := by decide +kernel
theorem dX5_init_12 : decode cX5_init 12 = .ok (.putfield 12, 3) := by decide +kernel
theorem dX5_init_15 : decode cX5_init 15 = .ok (.aload_n 0, 1) := by decide +kernel
theorem dX5_init_16 : decode cX5_init 16 = .ok (.iconst 2, 1) := by decide +kernel
theorem dX5_init_17 : decode cX5_init 17 = .ok (.anewarray 9, 3) := by decide +kernel
theorem dX5_init_20 : decode cX5_init 20 = .ok (.dup, 1) := by decide +kernel
theorem dX5_init_21 : decode cX5_init 21 = .ok (.iconst 0, 1) := by decide +kernel
theorem dX5_init_22 : decode cX5_init 22 = .ok (.new 9, 3) := by decide +kernel
theorem dX5_init_25 : decode cX5_init 25 = .ok (.dup, 1) := by decide +kernel
theorem dX5_init_26 : decode cX5_init 26 = .ok (.invokespecial 11, 3) := by decide +kernel
theorem dX5_init_29 : decode cX5_init 29 = .ok (.aastore, 1) := by decide +kernel
theorem dX5_init_30 : decode cX5_init 30 = .ok (.dup, 1) := by decide +kernel
theorem dX5_init_31 : decode cX5_init 31 = .ok (.iconst 1, 1) := by decide +kernel
theorem dX5_init_32 : decode cX5_init 32 = .ok (.new 9, 3) := by decide +kernel
theorem dX5_init_35 : decode cX5_init 35 = .ok (.dup, 1) := by decide +kernel
theorem dX5_init_36 : decode cX5_init 36 = .ok (.invokespecial 11, 3) := by decide +kernel
theorem dX5_init_39 : decode cX5_init 39 = .ok (.aastore, 1) := by decide +kernel
theorem dX5_init_40 : decode cX5_init 40 = .ok (.putfield 16, 3) := by decide +kernel
theorem dX5_init_43 : decode cX5_init 43 = .ok (.aload_n 0, 1) := by decide +kernel
theorem dX5_init_44 : decode cX5_init 44 = .ok (.iconst 2, 1) := by decide +kernel
theorem dX5_init_45 : decode cX5_init 45 = .ok (.newarray .boolean, 2) := by decide +kernel
theorem dX5_init_47 : decode cX5_init 47 = .ok (.putfield 20, 3) := by decide +kernel
theorem dX5_init_50 : decode cX5_init 50 = .ok (.aload_n 0, 1) := by decide +kernel
theorem dX5_init_51 : decode cX5_init 51 = .ok (.new 24, 3) := by decide +kernel
theorem dX5_init_54 : decode cX5_init 54 = .ok (.dup, 1) := by decide +kernel
theorem dX5_init_55 : decode cX5_init 55 = .ok (.invokespecial 26, 3) := by decide +kernel
theorem dX5_init_58 : decode cX5_init 58 = .ok (.putfield 27, 3) := by decide +kernel
theorem dX5_init_61 : decode cX5_init 61 = .ok (.aload_n 0, 1) := by decide +kernel
theorem dX5_init_62 : decode cX5_init 62 = .ok (.bipush 20, 2) := by decide +kernel
theorem dX5_init_64 : decode cX5_init 64 = .ok (.newarray .int, 2) := by decide +kernel
theorem dX5_init_66 : decode cX5_init 66 = .ok (.putfield 31, 3) := by decide +kernel
theorem dX5_init_69 : decode cX5_init 69 = .ok (.aload_n 0, 1) := by decide +kernel
theorem dX5_init_70 : decode cX5_init 70 = .ok (.iconst 0, 1) := by decide +kernel
theorem dX5_init_71 : decode cX5_init 71 = .ok (.putfield 35, 3) := by decide +kernel
theorem dX5_init_74 : decode cX5_init 74 = .ok (.aload_n 0, 1) := by decide +kernel
theorem dX5_init_75 : decode cX5_init 75 = .ok (.bipush 32, 2) := by decide +kernel
theorem dX5_init_77 : decode cX5_init 77 = .ok (.newarray .int, 2) := by decide +kernel
theorem dX5_init_79 : decode cX5_init 79 = .ok (.putfield 39, 3) := by decide +kernel
theorem dX5_init_82 : decode cX5_init 82 = .ok (.aload_n 0, 1) := by decide +kernel
theorem dX5_init_83 : decode cX5_init 83 = .ok (.bipush 32, 2) := by decide +kernel
theorem dX5_init_85 : decode cX5_init 85 = .ok (.newarray .int, 2) := by decide +kernel
theorem dX5_init_87 : decode cX5_init 87 = .ok (.putfield 42, 3) := by decide +kernel
theorem dX5_init_90 : decode cX5_init 90 = .ok (.aload_n 0, 1) := by decide +kernel
theorem dX5_init_91 : decode cX5_init 91 = .ok (.bipush 6, 2) := by decide +kernel
theorem dX5_init_93 : decode cX5_init 93 = .ok (.newarray .int, 2) := by decide +kernel
theorem dX5_init_95 : decode cX5_init 95 = .ok (.putfield 45, 3) := by decide +kernel
theorem dX5_init_98 : decode cX5_init 98 = .ok (.aload_n 0, 1) := by decide +kernel
theorem dX5_init_99 : decode cX5_init 99 = .ok (.bipush 64, 2) := by decide +kernel
theorem dX5_init_101 : decode cX5_init 101 = .ok (.newarray .int, 2) := by decide +kernel
theorem dX5_init_103 : decode cX5_init 103 = .ok (.putfield 48, 3) := by decide +kernel
theorem dX5_init_106 : decode cX5_init 106 = .ok (.aload_n 0, 1) := by decide +kernel
theorem dX5_init_107 : decode cX5_init 107 = .ok (.new 51, 3) := by decide +kernel
theorem dX5_init_110 : decode cX5_init 110 = .ok (.dup, 1) := by decide +kernel
theorem dX5_init_111 : decode cX5_init 111 = .ok (.invokespecial 53, 3) := by decide +kernel
theorem dX5_init_114 : decode cX5_init 114 = .ok (.putfield 54, 3) := by decide +kernel
theorem dX5_init_117 : decode cX5_init 117 = .ok (.aload_n 0, 1) := by decide +kernel
theorem dX5_init_118 : decode cX5_init 118 = .ok (.new 58, 3) := by decide +kernel
theorem dX5_init_121 : decode cX5_init 121 = .ok (.dup, 1) := by decide +kernel
theorem dX5_init_122 : decode cX5_init 122 = .ok (.invokespecial 60, 3) := by decide +kernel
theorem dX5_init_125 : decode cX5_init 125 = .ok (.putfield 61, 3) := by decide +kernel
theorem dX5_init_128 : decode cX5_init 128 = .ok (.return_, 1) := by decide +kernel
set_option maxRecDepth 20000 in
theorem ggX5_begin_X2_startAnew : GoodIn wsX5_begin wsX2_startAnew := goodIn_r _ [9, 10, 11, 12, 13, 14, 15, 16, 17, 18, 19, 32, 33, 34, 35, 36, 37, 38] (by decide +kernel) (by decide +kernel)
set_option maxRecDepth 20000 in
theorem gX5_begin_X2_startAnew : GoodIn wsX5_begin (wsV RX5 71 RX2 yX2_startAnew wsX2_startAnew) := goodIn_app (goodIn_of _ (by decide +kernel)) ggX5_begin_X2_startAnew
theorem dX5_begin_0 : decode cX5_begin 0 = .ok (.iload_n 1, 1) := by decide +kernel
theorem dX5_begin_1 : decode cX5_begin 1 = .ok (.iconst 1, 1) := by decide +kernel
theorem dX5_begin_2 : decode cX5_begin 2 = .ok (.if_icmp .lt 19, 3) := by decide +kernel
theorem dX5_begin_5 : decode cX5_begin 5 = .ok (.iload_n 1, 1) := by decide +kernel
theorem dX5_begin_6 : decode cX5_begin 6 = .ok (.bipush 8, 2) := by decide +kernel
theorem dX5_begin_8 : decode cX5_begin 8 = .ok (.if_icmp .gt 13, 3) := by decide +kernel
theorem dX5_begin_11 : decode cX5_begin 11 = .ok (.iload_n 2, 1) := by decide +kernel
theorem dX5_begin_12 : decode cX5_begin 12 = .ok (.iconst 1, 1) := by decide +kernel
theorem dX5_begin_13 : decode cX5_begin 13 = .ok (.if_icmp .lt 8, 3) := by decide +kernel
theorem dX5_begin_16 : decode cX5_begin 16 = .ok (.iload_n 2, 1) := by decide +kernel
theorem dX5_begin_17 : decode cX5_begin 17 = .ok (.iconst 4, 1) := by decide +kernel
theorem dX5_begin_18 : decode cX5_begin 18 = .ok (.if_icmp .le 6, 3) := by decide +kernel
theorem dX5_begin_21 : decode cX5_begin 21 = .ok (.bipush (-2), 2) := by decide +kernel
theorem dX5_begin_23 : decode cX5_begin 23 = .ok (.ireturn, 1) := by decide +kernel
theorem dX5_begin_24 : decode cX5_begin 24 = .ok (.bipush 10, 2) := by decide +kernel
theorem dX5_begin_26 : decode cX5_begin 26 = .ok (.aload_n 0, 1) := by decide +kernel
theorem dX5_begin_27 : decode cX5_begin 27 = .ok (.getfield 12, 3) := by decide +kernel
theorem dX5_begin_30 : decode cX5_begin 30 = .ok (.getfield 65, 3) := by decide +kernel
theorem dX5_begin_33 : decode cX5_begin 33 = .ok (.imul, 1) := by decide +kernel
theorem dX5_begin_34 : decode cX5_begin 34 = .ok (.aload_n 0, 1) := by decide +kernel
theorem dX5_begin_35 : decode cX5_begin 35 = .ok (.getfield 12, 3) := by decide +kernel
theorem dX5_begin_38 : decode cX5_begin 38 = .ok (.getfield 68, 3) := by decide +kernel
theorem dX5_begin_41 : decode cX5_begin 41 = .ok (.iadd, 1) := by decide +kernel
theorem dX5_begin_42 : decode cX5_begin 42 = .ok (.istore_n 3, 1) := by decide +kernel
theorem dX5_begin_43 : decode cX5_begin 43 = .ok (.aload_n 0, 1) := by decide +kernel
theorem dX5_begin_44 : decode cX5_begin 44 = .ok (.getfield 12, 3) := by decide +kernel
theorem dX5_begin_47 : decode cX5_begin 47 = .ok (.iload_n 1, 1) := by decide +kernel
theorem dX5_begin_48 : decode cX5_begin 48 = .ok (.iload_n 2, 1) := by decide +kernel
theorem dX5_begin_49 : decode cX5_begin 49 = .ok (.invokevirtual 71, 3) := by decide +kernel
theorem dX5_begin_52 : decode cX5_begin 52 = .ok (.aload_n 0, 1) := by decide +kernel
theorem dX5_begin_53 : decode cX5_begin 53 = .ok (.iconst 0, 1) := by decide +kernel
theorem dX5_begin_54 : decode cX5_begin 54 = .ok (.putfield 35, 3) := by decide +kernel
theorem dX5_begin_57 : decode cX5_begin 57 = .ok (.iload_n 3, 1) := by decide +kernel
theorem dX5_begin_58 : decode cX5_begin 58 = .ok (.ireturn, 1) := by decide +kernel
set_option maxRecDepth 20000 in
theorem ggX5_setArrow_X2_hasCell : GoodIn wsX5_setArrow wsX2_hasCell := goodIn_r _ [6, 7, 8, 9, 5, 10, 11, 12, 13, 14, 15, 16, 45, 46, 47, 48, 49, 50, 51] (by decide +kernel) (by decide +kernel)
set_option maxRecDepth 20000 in
theorem gX5_setArrow_X2_hasCell : GoodIn wsX5_setArrow (wsV RX5 75 RX2 yX2_hasCell wsX2_hasCell) := goodIn_app (goodIn_of _ (by decide +kernel)) ggX5_setArrow_X2_hasCell
set_option maxRecDepth 20000 in
theorem ggX5_setArrow_X2_hasState : GoodIn wsX5_setArrow wsX2_hasState := goodIn_r _ [10, 11, 45, 46, 47, 48, 49, 50, 51] (by decide +kernel) (by decide +kernel)
set_option maxRecDepth 20000 in
theorem gX5_setArrow_X2_hasState : GoodIn wsX5_setArrow (wsV RX5 79 RX2 yX2_hasState wsX2_hasState) := goodIn_app (goodIn_of _ (by decide +kernel)) ggX5_setArrow_X2_hasState
set_option maxRecDepth 20000 in
theorem ggX5_setArrow_X5_isOutput : GoodIn wsX5_setArrow wsX5_isOutput := goodIn_r _ [21] (by decide +kernel) (by decide +kernel)
set_option maxRecDepth 20000 in
theorem gX5_setArrow_X5_isOutput : GoodIn wsX5_setArrow (va_wsS RX5 83 yX5_isOutput wsX5_isOutput) := goodIn_app (goodIn_of _ (by decide +kernel)) ggX5_setArrow_X5_isOutput
set_option maxRecDepth 20000 in
theorem ggX5_setArrow_X5_cellOf : GoodIn wsX5_setArrow wsX5_cellOf := goodIn_r _ [24] (by decide +kernel) (by decide +kernel)
set_option maxRecDepth 20000 in
theorem gX5_setArrow_X5_cellOf : GoodIn wsX5_setArrow (va_wsS RX5 86 yX5_cellOf wsX5_cellOf) := goodIn_app (goodIn_of _ (by decide +kernel)) ggX5_setArrow_X5_cellOf
set_option maxRecDepth 20000 in
theorem ggX5_setArrow_X5_arrowOf : GoodIn wsX5_setArrow wsX5_arrowOf := goodIn_r _ [27] (by decide +kernel) (by decide +kernel)
set_option maxRecDepth 20000 in
theorem gX5_setArrow_X5_arrowOf : GoodIn wsX5_setArrow (va_wsS RX5 90 yX5_arrowOf wsX5_arrowOf) := goodIn_app (goodIn_of _ (by decide +kernel)) ggX5_setArrow_X5_arrowOf
set_option maxRecDepth 20000 in
theorem ggX5_setArrow_X5_replaceArrow : GoodIn wsX5_setArrow wsX5_replaceArrow := goodIn_r _ [31, 1, 32, 33, 34, 35, 36, 37, 38, 39, 40, 41, 42, 43, 44, 45, 46, 47, 48, 49, 50, 51] (by decide +kernel) (by decide +kernel)
set_option maxRecDepth 20000 in
theorem gX5_setArrow_X5_replaceArrow : GoodIn wsX5_setArrow (wsV RX5 93 RX5 yX5_replaceArrow wsX5_replaceArrow) := goodIn_app (goodIn_of _ (by decide +kernel)) ggX5_setArrow_X5_replaceArrow
theorem dX5_setArrow_0 : decode cX5_setArrow 0 = .ok (.aload_n 0, 1) := by decide +kernel
theorem dX5_setArrow_1 : decode cX5_setArrow 1 = .ok (.getfield 12, 3) := by decide +kernel
theorem dX5_setArrow_4 : decode cX5_setArrow 4 = .ok (.iload_n 1, 1) := by decide +kernel
theorem dX5_setArrow_5 : decode cX5_setArrow 5 = .ok (.iload_n 2, 1) := by decide +kernel
theorem dX5_setArrow_6 : decode cX5_setArrow 6 = .ok (.invokevirtual 75, 3) := by decide +kernel
theorem dX5_setArrow_9 : decode cX5_setArrow 9 = .ok (.ifCond .eq 14, 3) := by decide +kernel
theorem dX5_setArrow_12 : decode cX5_setArrow 12 = .ok (.aload_n 0, 1) := by decide +kernel
theorem dX5_setArrow_13 : decode cX5_setArrow 13 = .ok (.getfield 12, 3) := by decide +kernel
theorem dX5_setArrow_16 : decode cX5_setArrow 16 = .ok (.iload_n 3, 1) := by decide +kernel
theorem dX5_setArrow_17 : decode cX5_setArrow 17 = .ok (.invokevirtual 79, 3) := by decide +kernel
theorem dX5_setArrow_20 : decode cX5_setArrow 20 = .ok (.ifCond .ne 5, 3) := by decide +kernel
theorem dX5_setArrow_23 : decode cX5_setArrow 23 = .ok (.iconst (-1), 1) := by decide +kernel
theorem dX5_setArrow_24 : decode cX5_setArrow 24 = .ok (.ireturn, 1) := by decide +kernel
theorem dX5_setArrow_25 : decode cX5_setArrow 25 = .ok (.iload 4, 2) := by decide +kernel
theorem dX5_setArrow_27 : decode cX5_setArrow 27 = .ok (.invokestatic 83, 3) := by decide +kernel
theorem dX5_setArrow_30 : decode cX5_setArrow 30 = .ok (.ifCond .ne 6, 3) := by decide +kernel
theorem dX5_setArrow_33 : decode cX5_setArrow 33 = .ok (.bipush (-2), 2) := by decide +kernel
theorem dX5_setArrow_35 : decode cX5_setArrow 35 = .ok (.ireturn, 1) := by decide +kernel
theorem dX5_setArrow_36 : decode cX5_setArrow 36 = .ok (.aload_n 0, 1) := by decide +kernel
theorem dX5_setArrow_37 : decode cX5_setArrow 37 = .ok (.iload_n 1, 1) := by decide +kernel
theorem dX5_setArrow_38 : decode cX5_setArrow 38 = .ok (.iload_n 2, 1) := by decide +kernel
theorem dX5_setArrow_39 : decode cX5_setArrow 39 = .ok (.invokestatic 86, 3) := by decide +kernel
theorem dX5_setArrow_42 : decode cX5_setArrow 42 = .ok (.iload_n 3, 1) := by decide +kernel
theorem dX5_setArrow_43 : decode cX5_setArrow 43 = .ok (.iload 4, 2) := by decide +kernel
theorem dX5_setArrow_45 : decode cX5_setArrow 45 = .ok (.invokestatic 90, 3) := by decide +kernel
theorem dX5_setArrow_48 : decode cX5_setArrow 48 = .ok (.invokevirtual 93, 3) := by decide +kernel
theorem dX5_setArrow_51 : decode cX5_setArrow 51 = .ok (.ireturn, 1) := by decide +kernel
set_option maxRecDepth 20000 in
theorem ggX5_removeArrow_X2_hasCell : GoodIn wsX5_removeArrow wsX2_hasCell := goodIn_r _ [6, 7, 8, 9, 5, 10, 11, 12, 13, 14, 15, 16, 38, 39, 40, 41, 42, 43, 44] (by decide +kernel) (by decide +kernel)
set_option maxRecDepth 20000 in
theorem gX5_removeArrow_X2_hasCell : GoodIn wsX5_removeArrow (wsV RX5 75 RX2 yX2_hasCell wsX2_hasCell) := goodIn_app (goodIn_of _ (by decide +kernel)) ggX5_removeArrow_X2_hasCell
set_option maxRecDepth 20000 in
theorem ggX5_removeArrow_X5_cellOf : GoodIn wsX5_removeArrow wsX5_cellOf := goodIn_r _ [20] (by decide +kernel) (by decide +kernel)
set_option maxRecDepth 20000 in
theorem gX5_removeArrow_X5_cellOf : GoodIn wsX5_removeArrow (va_wsS RX5 86 yX5_cellOf wsX5_cellOf) := goodIn_app (goodIn_of _ (by decide +kernel)) ggX5_removeArrow_X5_cellOf
set_option maxRecDepth 20000 in
theorem ggX5_removeArrow_X5_replaceArrow : GoodIn wsX5_removeArrow wsX5_replaceArrow := goodIn_r _ [24, 1, 25, 26, 27, 28, 29, 30, 31, 32, 33, 34, 35, 36, 37, 38, 39, 40, 41, 42, 43, 44] (by decide +kernel) (by decide +kernel)
set_option maxRecDepth 20000 in
theorem gX5_removeArrow_X5_replaceArrow : GoodIn wsX5_removeArrow (wsV RX5 93 RX5 yX5_replaceArrow wsX5_replaceArrow) := goodIn_app (goodIn_of _ (by decide +kernel)) ggX5_removeArrow_X5_replaceArrow
theorem dX5_removeArrow_0 : decode cX5_removeArrow 0 = .ok (.aload_n 0, 1) := by decide +kernel
theorem dX5_removeArrow_1 : decode cX5_removeArrow 1 = .ok (.getfield 12, 3) := by decide +kernel
theorem dX5_removeArrow_4 : decode cX5_removeArrow 4 = .ok (.iload_n 1, 1) := by decide +kernel
theorem dX5_removeArrow_5 : decode cX5_removeArrow 5 = .ok (.iload_n 2, 1) := by decide +kernel
theorem dX5_removeArrow_6 : decode cX5_removeArrow 6 = .ok (.invokevirtual 75, 3) := by decide +kernel
theorem dX5_removeArrow_9 : decode cX5_removeArrow 9 = .ok (.ifCond .ne 5, 3) := by decide +kernel
theorem dX5_removeArrow_12 : decode cX5_removeArrow 12 = .ok (.iconst (-1), 1) := by decide +kernel
theorem dX5_removeArrow_13 : decode cX5_removeArrow 13 = .ok (.ireturn, 1) := by decide +kernel
theorem dX5_removeArrow_14 : decode cX5_removeArrow 14 = .ok (.aload_n 0, 1) := by decide +kernel
theorem dX5_removeArrow_15 : decode cX5_removeArrow 15 = .ok (.iload_n 1, 1) := by decide +kernel
theorem dX5_removeArrow_16 : decode cX5_removeArrow 16 = .ok (.iload_n 2, 1) := by decide +kernel
theorem dX5_removeArrow_17 : decode cX5_removeArrow 17 = .ok (.invokestatic 86, 3) := by decide +kernel
theorem dX5_removeArrow_20 : decode cX5_removeArrow 20 = .ok (.iconst (-1), 1) := by decide +kernel
theorem dX5_removeArrow_21 : decode cX5_removeArrow 21 = .ok (.invokevirtual 93, 3) := by decide +kernel
theorem dX5_removeArrow_24 : decode cX5_removeArrow 24 = .ok (.ireturn, 1) := by decide +kernel
theorem dX5_replaceArrow_0 : decode cX5_replaceArrow 0 = .ok (.aload_n 0, 1) := by decide +kernel
theorem dX5_replaceArrow_1 : decode cX5_replaceArrow 1 = .ok (.getfield 12, 3) := by decide +kernel
theorem dX5_replaceArrow_4 : decode cX5_replaceArrow 4 = .ok (.getfield 96, 3) := by decide +kernel
theorem dX5_replaceArrow_7 : decode cX5_replaceArrow 7 = .ok (.iload_n 1, 1) := by decide +kernel
theorem dX5_replaceArrow_8 : decode cX5_replaceArrow 8 = .ok (.iaload, 1) := by decide +kernel
theorem dX5_replaceArrow_9 : decode cX5_replaceArrow 9 = .ok (.istore_n 3, 1) := by decide +kernel
theorem dX5_replaceArrow_10 : decode cX5_replaceArrow 10 = .ok (.aload_n 0, 1) := by decide +kernel
theorem dX5_replaceArrow_11 : decode cX5_replaceArrow 11 = .ok (.getfield 12, 3) := by decide +kernel
theorem dX5_replaceArrow_14 : decode cX5_replaceArrow 14 = .ok (.getfield 96, 3) := by decide +kernel
theorem dX5_replaceArrow_17 : decode cX5_replaceArrow 17 = .ok (.iload_n 1, 1) := by decide +kernel
theorem dX5_replaceArrow_18 : decode cX5_replaceArrow 18 = .ok (.iload_n 2, 1) := by decide +kernel
theorem dX5_replaceArrow_19 : decode cX5_replaceArrow 19 = .ok (.iastore, 1) := by decide +kernel
theorem dX5_replaceArrow_20 : decode cX5_replaceArrow 20 = .ok (.iload_n 3, 1) := by decide +kernel
theorem dX5_replaceArrow_21 : decode cX5_replaceArrow 21 = .ok (.iconst (-1), 1) := by decide +kernel
theorem dX5_replaceArrow_22 : decode cX5_replaceArrow 22 = .ok (.if_icmp .ne 8, 3) := by decide +kernel
theorem dX5_replaceArrow_25 : decode cX5_replaceArrow 25 = .ok (.bipush (-5), 2) := by decide +kernel
theorem dX5_replaceArrow_27 : decode cX5_replaceArrow 27 = .ok (.goto 4, 3) := by decide +kernel
theorem dX5_replaceArrow_30 : decode cX5_replaceArrow 30 = .ok (.iload_n 3, 1) := by decide +kernel
theorem dX5_replaceArrow_31 : decode cX5_replaceArrow 31 = .ok (.ireturn, 1) := by decide +kernel
set_option maxRecDepth 20000 in
theorem ggX5_addFeature_X2_makeFeature : GoodIn wsX5_addFeature wsX2_makeFeature := goodIn_r _ [7, 8, 9, 10, 11, 12, 13, 14, 15, 16, 6, 17, 18, 31, 32, 33, 34, 35, 36, 37] (by decide +kernel) (by decide +kernel)
set_option maxRecDepth 20000 in
theorem gX5_addFeature_X2_makeFeature : GoodIn wsX5_addFeature (wsV RX5 102 RX2 yX2_makeFeature wsX2_makeFeature) := goodIn_app (goodIn_of _ (by decide +kernel)) ggX5_addFeature_X2_makeFeature
theorem dX5_addFeature_0 : decode cX5_addFeature 0 = .ok (.aload_n 0, 1) := by decide +kernel
theorem dX5_addFeature_1 : decode cX5_addFeature 1 = .ok (.getfield 12, 3) := by decide +kernel
theorem dX5_addFeature_4 : decode cX5_addFeature 4 = .ok (.getfield 99, 3) := by decide +kernel
theorem dX5_addFeature_7 : decode cX5_addFeature 7 = .ok (.bipush 6, 2) := by decide +kernel
theorem dX5_addFeature_9 : decode cX5_addFeature 9 = .ok (.if_icmp .lt 6, 3) := by decide +kernel
theorem dX5_addFeature_12 : decode cX5_addFeature 12 = .ok (.bipush (-4), 2) := by decide +kernel
theorem dX5_addFeature_14 : decode cX5_addFeature 14 = .ok (.ireturn, 1) := by decide +kernel
theorem dX5_addFeature_15 : decode cX5_addFeature 15 = .ok (.aload_n 0, 1) := by decide +kernel
theorem dX5_addFeature_16 : decode cX5_addFeature 16 = .ok (.getfield 12, 3) := by decide +kernel
theorem dX5_addFeature_19 : decode cX5_addFeature 19 = .ok (.invokevirtual 102, 3) := by decide +kernel
theorem dX5_addFeature_22 : decode cX5_addFeature 22 = .ok (.ireturn, 1) := by decide +kernel
set_option maxRecDepth 20000 in
theorem ggX5_change_X2_hasFeature : GoodIn wsX5_change wsX2_hasFeature := goodIn_r _ [7, 8, 51, 52, 53, 54, 55, 56, 57] (by decide +kernel) (by decide +kernel)
set_option maxRecDepth 20000 in
theorem gX5_change_X2_hasFeature : GoodIn wsX5_change (wsV RX5 106 RX2 yX2_hasFeature wsX2_hasFeature) := goodIn_app (goodIn_of _ (by decide +kernel)) ggX5_change_X2_hasFeature
set_option maxRecDepth 20000 in
theorem ggX5_change_X2_hasCell : GoodIn wsX5_change wsX2_hasCell := goodIn_r _ [12, 13, 14, 15, 6, 16, 17, 18, 19, 20, 21, 22, 51, 52, 53, 54, 55, 56, 57] (by decide +kernel) (by decide +kernel)
set_option maxRecDepth 20000 in
theorem gX5_change_X2_hasCell : GoodIn wsX5_change (wsV RX5 75 RX2 yX2_hasCell wsX2_hasCell) := goodIn_app (goodIn_of _ (by decide +kernel)) ggX5_change_X2_hasCell
set_option maxRecDepth 20000 in
theorem ggX5_change_X2_hasState : GoodIn wsX5_change wsX2_hasState := goodIn_r _ [16, 17, 51, 52, 53, 54, 55, 56, 57] (by decide +kernel) (by decide +kernel)
set_option maxRecDepth 20000 in
theorem gX5_change_X2_hasState : GoodIn wsX5_change (wsV RX5 79 RX2 yX2_hasState wsX2_hasState) := goodIn_app (goodIn_of _ (by decide +kernel)) ggX5_change_X2_hasState
set_option maxRecDepth 20000 in
theorem ggX5_change_X5_isOutput : GoodIn wsX5_change wsX5_isOutput := goodIn_r _ [27] (by decide +kernel) (by decide +kernel)
set_option maxRecDepth 20000 in
theorem gX5_change_X5_isOutput : GoodIn wsX5_change (va_wsS RX5 83 yX5_isOutput wsX5_isOutput) := goodIn_app (goodIn_of _ (by decide +kernel)) ggX5_change_X5_isOutput
set_option maxRecDepth 20000 in
theorem ggX5_change_X5_cellOf : GoodIn wsX5_change wsX5_cellOf := goodIn_r _ [30] (by decide +kernel) (by decide +kernel)
set_option maxRecDepth 20000 in
theorem gX5_change_X5_cellOf : GoodIn wsX5_change (va_wsS RX5 86 yX5_cellOf wsX5_cellOf) := goodIn_app (goodIn_of _ (by decide +kernel)) ggX5_change_X5_cellOf
set_option maxRecDepth 20000 in
theorem ggX5_change_X5_arrowOf : GoodIn wsX5_change wsX5_arrowOf := goodIn_r _ [33] (by decide +kernel) (by decide +kernel)
set_option maxRecDepth 20000 in
theorem gX5_change_X5_arrowOf : GoodIn wsX5_change (va_wsS RX5 90 yX5_arrowOf wsX5_arrowOf) := goodIn_app (goodIn_of _ (by decide +kernel)) ggX5_change_X5_arrowOf
set_option maxRecDepth 20000 in
theorem ggX5_change_X2_countEdits : GoodIn wsX5_change wsX2_countEdits := goodIn_r _ [37, 38, 51, 52, 53, 54, 55, 56, 57] (by decide +kernel) (by decide +kernel)
set_option maxRecDepth 20000 in
theorem gX5_change_X2_countEdits : GoodIn wsX5_change (wsV RX5 113 RX2 yX2_countEdits wsX2_countEdits) := goodIn_app (goodIn_of _ (by decide +kernel)) ggX5_change_X2_countEdits
theorem dX5_change_0 : decode cX5_change 0 = .ok (.aload_n 0, 1) := by decide +kernel
theorem dX5_change_1 : decode cX5_change 1 = .ok (.getfield 12, 3) := by decide +kernel
theorem dX5_change_4 : decode cX5_change 4 = .ok (.iload_n 1, 1) := by decide +kernel
theorem dX5_change_5 : decode cX5_change 5 = .ok (.invokevirtual 106, 3) := by decide +kernel
theorem dX5_change_8 : decode cX5_change 8 = .ok (.ifCond .eq 27, 3) := by decide +kernel
theorem dX5_change_11 : decode cX5_change 11 = .ok (.aload_n 0, 1) := by decide +kernel
theorem dX5_change_12 : decode cX5_change 12 = .ok (.getfield 12, 3) := by decide +kernel
theorem dX5_change_15 : decode cX5_change 15 = .ok (.iload_n 2, 1) := by decide +kernel
theorem dX5_change_16 : decode cX5_change 16 = .ok (.iload_n 3, 1) := by decide +kernel
theorem dX5_change_17 : decode cX5_change 17 = .ok (.invokevirtual 75, 3) := by decide +kernel
theorem dX5_change_20 : decode cX5_change 20 = .ok (.ifCond .eq 15, 3) := by decide +kernel
theorem dX5_change_23 : decode cX5_change 23 = .ok (.aload_n 0, 1) := by decide +kernel
theorem dX5_change_24 : decode cX5_change 24 = .ok (.getfield 12, 3) := by decide +kernel
theorem dX5_change_27 : decode cX5_change 27 = .ok (.iload 4, 2) := by decide +kernel
theorem dX5_change_29 : decode cX5_change 29 = .ok (.invokevirtual 79, 3) := by decide +kernel
theorem dX5_change_32 : decode cX5_change 32 = .ok (.ifCond .ne 5, 3) := by decide +kernel
theorem dX5_change_35 : decode cX5_change 35 = .ok (.iconst (-1), 1) := by decide +kernel
theorem dX5_change_36 : decode cX5_change 36 = .ok (.ireturn, 1) := by decide +kernel
theorem dX5_change_37 : decode cX5_change 37 = .ok (.iload 5, 2) := by decide +kernel
theorem dX5_change_39 : decode cX5_change 39 = .ok (.invokestatic 83, 3) := by decide +kernel
theorem dX5_change_42 : decode cX5_change 42 = .ok (.ifCond .ne 6, 3) := by decide +kernel
theorem dX5_change_45 : decode cX5_change 45 = .ok (.bipush (-2), 2) := by decide +kernel
theorem dX5_change_47 : decode cX5_change 47 = .ok (.ireturn, 1) := by decide +kernel
theorem dX5_change_48 : decode cX5_change 48 = .ok (.aload_n 0, 1) := by decide +kernel
theorem dX5_change_49 : decode cX5_change 49 = .ok (.getfield 12, 3) := by decide +kernel
theorem dX5_change_52 : decode cX5_change 52 = .ok (.getfield 109, 3) := by decide +kernel
theorem dX5_change_55 : decode cX5_change 55 = .ok (.iload_n 1, 1) := by decide +kernel
theorem dX5_change_56 : decode cX5_change 56 = .ok (.aaload, 1) := by decide +kernel
theorem dX5_change_57 : decode cX5_change 57 = .ok (.iload_n 2, 1) := by decide +kernel
theorem dX5_change_58 : decode cX5_change 58 = .ok (.iload_n 3, 1) := by decide +kernel
theorem dX5_change_59 : decode cX5_change 59 = .ok (.invokestatic 86, 3) := by decide +kernel
theorem dX5_change_62 : decode cX5_change 62 = .ok (.iload 4, 2) := by decide +kernel
theorem dX5_change_64 : decode cX5_change 64 = .ok (.iload 5, 2) := by decide +kernel
theorem dX5_change_66 : decode cX5_change 66 = .ok (.invokestatic 90, 3) := by decide +kernel
theorem dX5_change_69 : decode cX5_change 69 = .ok (.iastore, 1) := by decide +kernel
theorem dX5_change_70 : decode cX5_change 70 = .ok (.aload_n 0, 1) := by decide +kernel
theorem dX5_change_71 : decode cX5_change 71 = .ok (.getfield 12, 3) := by decide +kernel
theorem dX5_change_74 : decode cX5_change 74 = .ok (.iload_n 1, 1) := by decide +kernel
theorem dX5_change_75 : decode cX5_change 75 = .ok (.invokevirtual 113, 3) := by decide +kernel
theorem dX5_change_78 : decode cX5_change 78 = .ok (.ireturn, 1) := by decide +kernel
set_option maxRecDepth 20000 in
theorem ggX5_changeToNone_X2_hasFeature : GoodIn wsX5_changeToNone wsX2_hasFeature := goodIn_r _ [7, 8, 44, 45, 46, 47, 48, 49, 50] (by decide +kernel) (by decide +kernel)
set_option maxRecDepth 20000 in
theorem gX5_changeToNone_X2_hasFeature : GoodIn wsX5_changeToNone (wsV RX5 106 RX2 yX2_hasFeature wsX2_hasFeature) := goodIn_app (goodIn_of _ (by decide +kernel)) ggX5_changeToNone_X2_hasFeature
set_option maxRecDepth 20000 in
theorem ggX5_changeToNone_X2_hasCell : GoodIn wsX5_changeToNone wsX2_hasCell := goodIn_r _ [12, 13, 14, 15, 6, 16, 17, 18, 19, 20, 21, 22, 44, 45, 46, 47, 48, 49, 50] (by decide +kernel) (by decide +kernel)
set_option maxRecDepth 20000 in
theorem gX5_changeToNone_X2_hasCell : GoodIn wsX5_changeToNone (wsV RX5 75 RX2 yX2_hasCell wsX2_hasCell) := goodIn_app (goodIn_of _ (by decide +kernel)) ggX5_changeToNone_X2_hasCell
set_option maxRecDepth 20000 in
theorem ggX5_changeToNone_X5_cellOf : GoodIn wsX5_changeToNone wsX5_cellOf := goodIn_r _ [26] (by decide +kernel) (by decide +kernel)
set_option maxRecDepth 20000 in
theorem gX5_changeToNone_X5_cellOf : GoodIn wsX5_changeToNone (va_wsS RX5 86 yX5_cellOf wsX5_cellOf) := goodIn_app (goodIn_of _ (by decide +kernel)) ggX5_changeToNone_X5_cellOf
set_option maxRecDepth 20000 in
theorem ggX5_changeToNone_X2_countEdits : GoodIn wsX5_changeToNone wsX2_countEdits := goodIn_r _ [30, 31, 44, 45, 46, 47, 48, 49, 50] (by decide +kernel) (by decide +kernel)
set_option maxRecDepth 20000 in
theorem gX5_changeToNone_X2_countEdits : GoodIn wsX5_changeToNone (wsV RX5 113 RX2 yX2_countEdits wsX2_countEdits) := goodIn_app (goodIn_of _ (by decide +kernel)) ggX5_changeToNone_X2_countEdits
theorem dX5_changeToNone_0 : decode cX5_changeToNone 0 = .ok (.aload_n 0, 1) := by decide +kernel
theorem dX5_changeToNone_1 : decode cX5_changeToNone 1 = .ok (.getfield 12, 3) := by decide +kernel
theorem dX5_changeToNone_4 : decode cX5_changeToNone 4 = .ok (.iload_n 1, 1) := by decide +kernel
theorem dX5_changeToNone_5 : decode cX5_changeToNone 5 = .ok (.invokevirtual 106, 3) := by decide +kernel
theorem dX5_changeToNone_8 : decode cX5_changeToNone 8 = .ok (.ifCond .eq 15, 3) := by decide +kernel
theorem dX5_changeToNone_11 : decode cX5_changeToNone 11 = .ok (.aload_n 0, 1) := by decide +kernel
theorem dX5_changeToNone_12 : decode cX5_changeToNone 12 = .ok (.getfield 12, 3) := by decide +kernel
theorem dX5_changeToNone_15 : decode cX5_changeToNone 15 = .ok (.iload_n 2, 1) := by decide +kernel
theorem dX5_changeToNone_16 : decode cX5_changeToNone 16 = .ok (.iload_n 3, 1) := by decide +kernel
theorem dX5_changeToNone_17 : decode cX5_changeToNone 17 = .ok (.invokevirtual 75, 3) := by decide +kernel
theorem dX5_changeToNone_20 : decode cX5_changeToNone 20 = .ok (.ifCond .ne 5, 3) := by decide +kernel
theorem dX5_changeToNone_23 : decode cX5_changeToNone 23 = .ok (.iconst (-1), 1) := by decide +kernel
theorem dX5_changeToNone_24 : decode cX5_changeToNone 24 = .ok (.ireturn, 1) := by decide +kernel
theorem dX5_changeToNone_25 : decode cX5_changeToNone 25 = .ok (.aload_n 0, 1) := by decide +kernel
theorem dX5_changeToNone_26 : decode cX5_changeToNone 26 = .ok (.getfield 12, 3) := by decide +kernel
theorem dX5_changeToNone_29 : decode cX5_changeToNone 29 = .ok (.getfield 109, 3) := by decide +kernel
theorem dX5_changeToNone_32 : decode cX5_changeToNone 32 = .ok (.iload_n 1, 1) := by decide +kernel
theorem dX5_changeToNone_33 : decode cX5_changeToNone 33 = .ok (.aaload, 1) := by decide +kernel
theorem dX5_changeToNone_34 : decode cX5_changeToNone 34 = .ok (.iload_n 2, 1) := by decide +kernel
theorem dX5_changeToNone_35 : decode cX5_changeToNone 35 = .ok (.iload_n 3, 1) := by decide +kernel
theorem dX5_changeToNone_36 : decode cX5_changeToNone 36 = .ok (.invokestatic 86, 3) := by decide +kernel
theorem dX5_changeToNone_39 : decode cX5_changeToNone 39 = .ok (.iconst (-1), 1) := by decide +kernel
theorem dX5_changeToNone_40 : decode cX5_changeToNone 40 = .ok (.iastore, 1) := by decide +kernel
theorem dX5_changeToNone_41 : decode cX5_changeToNone 41 = .ok (.aload_n 0, 1) := by decide +kernel
theorem dX5_changeToNone_42 : decode cX5_changeToNone 42 = .ok (.getfield 12, 3) := by decide +kernel
theorem dX5_changeToNone_45 : decode cX5_changeToNone 45 = .ok (.iload_n 1, 1) := by decide +kernel
theorem dX5_changeToNone_46 : decode cX5_changeToNone 46 = .ok (.invokevirtual 113, 3) := by decide +kernel
theorem dX5_changeToNone_49 : decode cX5_changeToNone 49 = .ok (.ireturn, 1) := by decide +kernel
set_option maxRecDepth 20000 in
theorem ggX5_unchange_X2_hasFeature : GoodIn wsX5_unchange wsX2_hasFeature := goodIn_r _ [7, 8, 44, 45, 46, 47, 48, 49, 50] (by decide +kernel) (by decide +kernel)
set_option maxRecDepth 20000 in
theorem gX5_unchange_X2_hasFeature : GoodIn wsX5_unchange (wsV RX5 106 RX2 yX2_hasFeature wsX2_hasFeature) := goodIn_app (goodIn_of _ (by decide +kernel)) ggX5_unchange_X2_hasFeature
set_option maxRecDepth 20000 in
theorem ggX5_unchange_X2_hasCell : GoodIn wsX5_unchange wsX2_hasCell := goodIn_r _ [12, 13, 14, 15, 6, 16, 17, 18, 19, 20, 21, 22, 44, 45, 46, 47, 48, 49, 50] (by decide +kernel) (by decide +kernel)
set_option maxRecDepth 20000 in
theorem gX5_unchange_X2_hasCell : GoodIn wsX5_unchange (wsV RX5 75 RX2 yX2_hasCell wsX2_hasCell) := goodIn_app (goodIn_of _ (by decide +kernel)) ggX5_unchange_X2_hasCell
set_option maxRecDepth 20000 in
theorem ggX5_unchange_X5_cellOf : GoodIn wsX5_unchange wsX5_cellOf := goodIn_r _ [26] (by decide +kernel) (by decide +kernel)
set_option maxRecDepth 20000 in
theorem gX5_unchange_X5_cellOf : GoodIn wsX5_unchange (va_wsS RX5 86 yX5_cellOf wsX5_cellOf) := goodIn_app (goodIn_of _ (by decide +kernel)) ggX5_unchange_X5_cellOf
set_option maxRecDepth 20000 in
theorem ggX5_unchange_X2_countEdits : GoodIn wsX5_unchange wsX2_countEdits := goodIn_r _ [30, 31, 44, 45, 46, 47, 48, 49, 50] (by decide +kernel) (by decide +kernel)
set_option maxRecDepth 20000 in
theorem gX5_unchange_X2_countEdits : GoodIn wsX5_unchange (wsV RX5 113 RX2 yX2_countEdits wsX2_countEdits) := goodIn_app (goodIn_of _ (by decide +kernel)) ggX5_unchange_X2_countEdits
theorem dX5_unchange_0 : decode cX5_unchange 0 = .ok (.aload_n 0, 1) := by decide +kernel
theorem dX5_unchange_1 : decode cX5_unchange 1 = .ok (.getfield 12, 3) := by decide +kernel
theorem dX5_unchange_4 : decode cX5_unchange 4 = .ok (.iload_n 1, 1) := by decide +kernel
theorem dX5_unchange_5 : decode cX5_unchange 5 = .ok (.invokevirtual 106, 3) := by decide +kernel
theorem dX5_unchange_8 : decode cX5_unchange 8 = .ok (.ifCond .eq 15, 3) := by decide +kernel
theorem dX5_unchange_11 : decode cX5_unchange 11 = .ok (.aload_n 0, 1) := by decide +kernel
theorem dX5_unchange_12 : decode cX5_unchange 12 = .ok (.getfield 12, 3) := by decide +kernel
theorem dX5_unchange_15 : decode cX5_unchange 15 = .ok (.iload_n 2, 1) := by decide +kernel
theorem dX5_unchange_16 : decode cX5_unchange 16 = .ok (.iload_n 3, 1) := by decide +kernel
theorem dX5_unchange_17 : decode cX5_unchange 17 = .ok (.invokevirtual 75, 3) := by decide +kernel
theorem dX5_unchange_20 : decode cX5_unchange 20 = .ok (.ifCond .ne 5, 3) := by decide +kernel
theorem dX5_unchange_23 : decode cX5_unchange 23 = .ok (.iconst (-1), 1) := by decide +kernel
theorem dX5_unchange_24 : decode cX5_unchange 24 = .ok (.ireturn, 1) := by decide +kernel
theorem dX5_unchange_25 : decode cX5_unchange 25 = .ok (.iload_n 2, 1) := by decide +kernel
theorem dX5_unchange_26 : decode cX5_unchange 26 = .ok (.iload_n 3, 1) := by decide +kernel
theorem dX5_unchange_27 : decode cX5_unchange 27 = .ok (.invokestatic 86, 3) := by decide +kernel
theorem dX5_unchange_30 : decode cX5_unchange 30 = .ok (.istore 4, 2) := by decide +kernel
theorem dX5_unchange_32 : decode cX5_unchange 32 = .ok (.aload_n 0, 1) := by decide +kernel
theorem dX5_unchange_33 : decode cX5_unchange 33 = .ok (.getfield 12, 3) := by decide +kernel
theorem dX5_unchange_36 : decode cX5_unchange 36 = .ok (.getfield 109, 3) := by decide +kernel
theorem dX5_unchange_39 : decode cX5_unchange 39 = .ok (.iload_n 1, 1) := by decide +kernel
theorem dX5_unchange_40 : decode cX5_unchange 40 = .ok (.aaload, 1) := by decide +kernel
theorem dX5_unchange_41 : decode cX5_unchange 41 = .ok (.iload 4, 2) := by decide +kernel
theorem dX5_unchange_43 : decode cX5_unchange 43 = .ok (.iaload, 1) := by decide +kernel
theorem dX5_unchange_44 : decode cX5_unchange 44 = .ok (.bipush (-2), 2) := by decide +kernel
theorem dX5_unchange_46 : decode cX5_unchange 46 = .ok (.if_icmp .ne 6, 3) := by decide +kernel
theorem dX5_unchange_49 : decode cX5_unchange 49 = .ok (.bipush (-5), 2) := by decide +kernel
theorem dX5_unchange_51 : decode cX5_unchange 51 = .ok (.ireturn, 1) := by decide +kernel
theorem dX5_unchange_52 : decode cX5_unchange 52 = .ok (.aload_n 0, 1) := by decide +kernel
theorem dX5_unchange_53 : decode cX5_unchange 53 = .ok (.getfield 12, 3) := by decide +kernel
theorem dX5_unchange_56 : decode cX5_unchange 56 = .ok (.getfield 109, 3) := by decide +kernel
theorem dX5_unchange_59 : decode cX5_unchange 59 = .ok (.iload_n 1, 1) := by decide +kernel
theorem dX5_unchange_60 : decode cX5_unchange 60 = .ok (.aaload, 1) := by decide +kernel
theorem dX5_unchange_61 : decode cX5_unchange 61 = .ok (.iload 4, 2) := by decide +kernel
theorem dX5_unchange_63 : decode cX5_unchange 63 = .ok (.bipush (-2), 2) := by decide +kernel
theorem dX5_unchange_65 : decode cX5_unchange 65 = .ok (.iastore, 1) := by decide +kernel
theorem dX5_unchange_66 : decode cX5_unchange 66 = .ok (.aload_n 0, 1) := by decide +kernel
theorem dX5_unchange_67 : decode cX5_unchange 67 = .ok (.getfield 12, 3) := by decide +kernel
theorem dX5_unchange_70 : decode cX5_unchange 70 = .ok (.iload_n 1, 1) := by decide +kernel
theorem dX5_unchange_71 : decode cX5_unchange 71 = .ok (.invokevirtual 113, 3) := by decide +kernel
theorem dX5_unchange_74 : decode cX5_unchange 74 = .ok (.ireturn, 1) := by decide +kernel
set_option maxRecDepth 20000 in
theorem ggX5_setOn_X2_hasFeature : GoodIn wsX5_setOn wsX2_hasFeature := goodIn_r _ [6, 7, 32, 33, 34, 35, 36, 37, 38] (by decide +kernel) (by decide +kernel)
set_option maxRecDepth 20000 in
theorem gX5_setOn_X2_hasFeature : GoodIn wsX5_setOn (wsV RX5 106 RX2 yX2_hasFeature wsX2_hasFeature) := goodIn_app (goodIn_of _ (by decide +kernel)) ggX5_setOn_X2_hasFeature
set_option maxRecDepth 20000 in
theorem ggX5_setOn_X2_isOn : GoodIn wsX5_setOn wsX2_isOn := goodIn_r _ [11, 12, 13, 14, 15, 32, 33, 34, 35, 36, 37, 38] (by decide +kernel) (by decide +kernel)
set_option maxRecDepth 20000 in
theorem gX5_setOn_X2_isOn : GoodIn wsX5_setOn (wsV RX5 117 RX2 yX2_isOn wsX2_isOn) := goodIn_app (goodIn_of _ (by decide +kernel)) ggX5_setOn_X2_isOn
set_option maxRecDepth 20000 in
theorem ggX5_setOn_X2_turn : GoodIn wsX5_setOn wsX2_turn := goodIn_r _ [19, 12, 32, 33, 34, 35, 36, 37, 38] (by decide +kernel) (by decide +kernel)
set_option maxRecDepth 20000 in
theorem gX5_setOn_X2_turn : GoodIn wsX5_setOn (wsV RX5 120 RX2 yX2_turn wsX2_turn) := goodIn_app (goodIn_of _ (by decide +kernel)) ggX5_setOn_X2_turn
theorem dX5_setOn_0 : decode cX5_setOn 0 = .ok (.aload_n 0, 1) := by decide +kernel
theorem dX5_setOn_1 : decode cX5_setOn 1 = .ok (.getfield 12, 3) := by decide +kernel
theorem dX5_setOn_4 : decode cX5_setOn 4 = .ok (.iload_n 1, 1) := by decide +kernel
theorem dX5_setOn_5 : decode cX5_setOn 5 = .ok (.invokevirtual 106, 3) := by decide +kernel
theorem dX5_setOn_8 : decode cX5_setOn 8 = .ok (.ifCond .ne 5, 3) := by decide +kernel
theorem dX5_setOn_11 : decode cX5_setOn 11 = .ok (.iconst (-1), 1) := by decide +kernel
theorem dX5_setOn_12 : decode cX5_setOn 12 = .ok (.ireturn, 1) := by decide +kernel
theorem dX5_setOn_13 : decode cX5_setOn 13 = .ok (.aload_n 0, 1) := by decide +kernel
theorem dX5_setOn_14 : decode cX5_setOn 14 = .ok (.getfield 12, 3) := by decide +kernel
theorem dX5_setOn_17 : decode cX5_setOn 17 = .ok (.iload_n 1, 1) := by decide +kernel
theorem dX5_setOn_18 : decode cX5_setOn 18 = .ok (.invokevirtual 117, 3) := by decide +kernel
theorem dX5_setOn_21 : decode cX5_setOn 21 = .ok (.ifCond .eq 7, 3) := by decide +kernel
theorem dX5_setOn_24 : decode cX5_setOn 24 = .ok (.iconst 1, 1) := by decide +kernel
theorem dX5_setOn_25 : decode cX5_setOn 25 = .ok (.goto 4, 3) := by decide +kernel
theorem dX5_setOn_28 : decode cX5_setOn 28 = .ok (.iconst 0, 1) := by decide +kernel
theorem dX5_setOn_29 : decode cX5_setOn 29 = .ok (.istore_n 3, 1) := by decide +kernel
theorem dX5_setOn_30 : decode cX5_setOn 30 = .ok (.aload_n 0, 1) := by decide +kernel
theorem dX5_setOn_31 : decode cX5_setOn 31 = .ok (.getfield 12, 3) := by decide +kernel
theorem dX5_setOn_34 : decode cX5_setOn 34 = .ok (.iload_n 1, 1) := by decide +kernel
theorem dX5_setOn_35 : decode cX5_setOn 35 = .ok (.iload_n 2, 1) := by decide +kernel
theorem dX5_setOn_36 : decode cX5_setOn 36 = .ok (.invokevirtual 120, 3) := by decide +kernel
theorem dX5_setOn_39 : decode cX5_setOn 39 = .ok (.iload_n 3, 1) := by decide +kernel
theorem dX5_setOn_40 : decode cX5_setOn 40 = .ok (.ireturn, 1) := by decide +kernel
theorem dX5_features_0 : decode cX5_features 0 = .ok (.aload_n 0, 1) := by decide +kernel
theorem dX5_features_1 : decode cX5_features 1 = .ok (.getfield 12, 3) := by decide +kernel
theorem dX5_features_4 : decode cX5_features 4 = .ok (.getfield 99, 3) := by decide +kernel
theorem dX5_features_7 : decode cX5_features 7 = .ok (.ireturn, 1) := by decide +kernel
set_option maxRecDepth 20000 in
theorem ggX5_changes_X2_hasFeature : GoodIn wsX5_changes wsX2_hasFeature := goodIn_r _ [6, 7, 25, 26, 27, 28, 29, 30, 31] (by decide +kernel) (by decide +kernel)
set_option maxRecDepth 20000 in
theorem gX5_changes_X2_hasFeature : GoodIn wsX5_changes (wsV RX5 106 RX2 yX2_hasFeature wsX2_hasFeature) := goodIn_app (goodIn_of _ (by decide +kernel)) ggX5_changes_X2_hasFeature
set_option maxRecDepth 20000 in
theorem ggX5_changes_X2_countEdits : GoodIn wsX5_changes wsX2_countEdits := goodIn_r _ [11, 12, 25, 26, 27, 28, 29, 30, 31] (by decide +kernel) (by decide +kernel)
set_option maxRecDepth 20000 in
theorem gX5_changes_X2_countEdits : GoodIn wsX5_changes (wsV RX5 113 RX2 yX2_countEdits wsX2_countEdits) := goodIn_app (goodIn_of _ (by decide +kernel)) ggX5_changes_X2_countEdits
theorem dX5_changes_0 : decode cX5_changes 0 = .ok (.aload_n 0, 1) := by decide +kernel
theorem dX5_changes_1 : decode cX5_changes 1 = .ok (.getfield 12, 3) := by decide +kernel
theorem dX5_changes_4 : decode cX5_changes 4 = .ok (.iload_n 1, 1) := by decide +kernel
theorem dX5_changes_5 : decode cX5_changes 5 = .ok (.invokevirtual 106, 3) := by decide +kernel
theorem dX5_changes_8 : decode cX5_changes 8 = .ok (.ifCond .ne 5, 3) := by decide +kernel
theorem dX5_changes_11 : decode cX5_changes 11 = .ok (.iconst (-1), 1) := by decide +kernel
theorem dX5_changes_12 : decode cX5_changes 12 = .ok (.ireturn, 1) := by decide +kernel
theorem dX5_changes_13 : decode cX5_changes 13 = .ok (.aload_n 0, 1) := by decide +kernel
theorem dX5_changes_14 : decode cX5_changes 14 = .ok (.getfield 12, 3) := by decide +kernel
theorem dX5_changes_17 : decode cX5_changes 17 = .ok (.iload_n 1, 1) := by decide +kernel
theorem dX5_changes_18 : decode cX5_changes 18 = .ok (.invokevirtual 113, 3) := by decide +kernel
theorem dX5_changes_21 : decode cX5_changes 21 = .ok (.ireturn, 1) := by decide +kernel
theorem dX5_append_0 : decode cX5_append 0 = .ok (.iload_n 1, 1) := by decide +kernel
theorem dX5_append_1 : decode cX5_append 1 = .ok (.ifCond .lt 9, 3) := by decide +kernel
theorem dX5_append_4 : decode cX5_append 4 = .ok (.iload_n 1, 1) := by decide +kernel
theorem dX5_append_5 : decode cX5_append 5 = .ok (.bipush 127, 2) := by decide +kernel
theorem dX5_append_7 : decode cX5_append 7 = .ok (.if_icmp .le 6, 3) := by decide +kernel
theorem dX5_append_10 : decode cX5_append 10 = .ok (.bipush (-2), 2) := by decide +kernel
theorem dX5_append_12 : decode cX5_append 12 = .ok (.ireturn, 1) := by decide +kernel
theorem dX5_append_13 : decode cX5_append 13 = .ok (.aload_n 0, 1) := by decide +kernel
theorem dX5_append_14 : decode cX5_append 14 = .ok (.getfield 27, 3) := by decide +kernel
theorem dX5_append_17 : decode cX5_append 17 = .ok (.getfield 124, 3) := by decide +kernel
theorem dX5_append_20 : decode cX5_append 20 = .ok (.bipush 80, 2) := by decide +kernel
theorem dX5_append_22 : decode cX5_append 22 = .ok (.if_icmp .lt 6, 3) := by decide +kernel
theorem dX5_append_25 : decode cX5_append 25 = .ok (.bipush (-4), 2) := by decide +kernel
theorem dX5_append_27 : decode cX5_append 27 = .ok (.ireturn, 1) := by decide +kernel
theorem dX5_append_28 : decode cX5_append 28 = .ok (.aload_n 0, 1) := by decide +kernel
theorem dX5_append_29 : decode cX5_append 29 = .ok (.getfield 27, 3) := by decide +kernel
theorem dX5_append_32 : decode cX5_append 32 = .ok (.getfield 127, 3) := by decide +kernel
theorem dX5_append_35 : decode cX5_append 35 = .ok (.aload_n 0, 1) := by decide +kernel
theorem dX5_append_36 : decode cX5_append 36 = .ok (.getfield 27, 3) := by decide +kernel
theorem dX5_append_39 : decode cX5_append 39 = .ok (.getfield 124, 3) := by decide +kernel
theorem dX5_append_42 : decode cX5_append 42 = .ok (.iload_n 1, 1) := by decide +kernel
theorem dX5_append_43 : decode cX5_append 43 = .ok (.iastore, 1) := by decide +kernel
theorem dX5_append_44 : decode cX5_append 44 = .ok (.aload_n 0, 1) := by decide +kernel
theorem dX5_append_45 : decode cX5_append 45 = .ok (.getfield 27, 3) := by decide +kernel
theorem dX5_append_48 : decode cX5_append 48 = .ok (.dup, 1) := by decide +kernel
theorem dX5_append_49 : decode cX5_append 49 = .ok (.getfield 124, 3) := by decide +kernel
theorem dX5_append_52 : decode cX5_append 52 = .ok (.iconst 1, 1) := by decide +kernel
theorem dX5_append_53 : decode cX5_append 53 = .ok (.iadd, 1) := by decide +kernel
theorem dX5_append_54 : decode cX5_append 54 = .ok (.putfield 124, 3) := by decide +kernel
theorem dX5_append_57 : decode cX5_append 57 = .ok (.aload_n 0, 1) := by decide +kernel
theorem dX5_append_58 : decode cX5_append 58 = .ok (.getfield 27, 3) := by decide +kernel
theorem dX5_append_61 : decode cX5_append 61 = .ok (.getfield 124, 3) := by decide +kernel
theorem dX5_append_64 : decode cX5_append 64 = .ok (.ireturn, 1) := by decide +kernel
theorem dX5_clearText_0 : decode cX5_clearText 0 = .ok (.aload_n 0, 1) := by decide +kernel
theorem dX5_clearText_1 : decode cX5_clearText 1 = .ok (.getfield 27, 3) := by decide +kernel
theorem dX5_clearText_4 : decode cX5_clearText 4 = .ok (.getfield 124, 3) := by decide +kernel
theorem dX5_clearText_7 : decode cX5_clearText 7 = .ok (.istore_n 1, 1) := by decide +kernel
theorem dX5_clearText_8 : decode cX5_clearText 8 = .ok (.aload_n 0, 1) := by decide +kernel
theorem dX5_clearText_9 : decode cX5_clearText 9 = .ok (.getfield 27, 3) := by decide +kernel
theorem dX5_clearText_12 : decode cX5_clearText 12 = .ok (.iconst 0, 1) := by decide +kernel
theorem dX5_clearText_13 : decode cX5_clearText 13 = .ok (.putfield 124, 3) := by decide +kernel
theorem dX5_clearText_16 : decode cX5_clearText 16 = .ok (.iload_n 1, 1) := by decide +kernel
theorem dX5_clearText_17 : decode cX5_clearText 17 = .ok (.ireturn, 1) := by decide +kernel
set_option maxRecDepth 20000 in
theorem ggX5_faultPosition_X4_parse : GoodIn wsX5_faultPosition wsX4_parse := goodIn_r _ [9, 10, 11, 12, 13, 14, 15, 16, 17, 18, 19, 20, 21, 22, 23, 8, 24, 25, 26, 27, 28, 29, 30, 31, 32, 33, 34, 35, 36, 37, 38, 39, 40, 41, 42, 43, 44, 45, 46, 47, 48, 49, 50, 51, 52, 53, 54, 74, 75, 76, 77, 78, 79, 80, 81, 82, 83] (by decide +kernel) (by decide +kernel)
set_option maxRecDepth 20000 in
theorem gX5_faultPosition_X4_parse : GoodIn wsX5_faultPosition (wsV RX5 130 RX4 yX4_parse wsX4_parse) := goodIn_app (goodIn_of _ (by decide +kernel)) ggX5_faultPosition_X4_parse
theorem dX5_faultPosition_0 : decode cX5_faultPosition 0 = .ok (.aload_n 0, 1) := by decide +kernel
theorem dX5_faultPosition_1 : decode cX5_faultPosition 1 = .ok (.getfield 27, 3) := by decide +kernel
theorem dX5_faultPosition_4 : decode cX5_faultPosition 4 = .ok (.aload_n 0, 1) := by decide +kernel
theorem dX5_faultPosition_5 : decode cX5_faultPosition 5 = .ok (.getfield 12, 3) := by decide +kernel
theorem dX5_faultPosition_8 : decode cX5_faultPosition 8 = .ok (.getfield 65, 3) := by decide +kernel
theorem dX5_faultPosition_11 : decode cX5_faultPosition 11 = .ok (.aload_n 0, 1) := by decide +kernel
theorem dX5_faultPosition_12 : decode cX5_faultPosition 12 = .ok (.getfield 12, 3) := by decide +kernel
theorem dX5_faultPosition_15 : decode cX5_faultPosition 15 = .ok (.getfield 68, 3) := by decide +kernel
theorem dX5_faultPosition_18 : decode cX5_faultPosition 18 = .ok (.invokevirtual 130, 3) := by decide +kernel
theorem dX5_faultPosition_21 : decode cX5_faultPosition 21 = .ok (.ireturn, 1) := by decide +kernel
set_option maxRecDepth 20000 in
theorem ggX5_read_X2_hasFeature : GoodIn wsX5_read wsX2_hasFeature := goodIn_r _ [13, 14, 87, 88, 89, 90, 91, 92, 93] (by decide +kernel) (by decide +kernel)
set_option maxRecDepth 20000 in
theorem gX5_read_X2_hasFeature : GoodIn wsX5_read (wsV RX5 106 RX2 yX2_hasFeature wsX2_hasFeature) := goodIn_app (goodIn_of _ (by decide +kernel)) ggX5_read_X2_hasFeature
set_option maxRecDepth 20000 in
theorem ggX5_read_X4_parse : GoodIn wsX5_read wsX4_parse := goodIn_r _ [19, 20, 21, 22, 23, 24, 25, 26, 27, 28, 29, 30, 31, 32, 33, 18, 34, 35, 36, 37, 38, 39, 40, 41, 42, 43, 44, 45, 46, 47, 48, 49, 50, 51, 52, 53, 54, 55, 56, 57, 58, 59, 60, 61, 62, 63, 64, 94, 95, 96, 97, 98, 99, 100, 101, 102, 103] (by decide +kernel) (by decide +kernel)
set_option maxRecDepth 20000 in
theorem gX5_read_X4_parse : GoodIn wsX5_read (wsV RX5 130 RX4 yX4_parse wsX4_parse) := goodIn_app (goodIn_of _ (by decide +kernel)) ggX5_read_X4_parse
set_option maxRecDepth 20000 in
theorem ggX5_read_X5_putOn : GoodIn wsX5_read wsX5_putOn := goodIn_r _ [67] (by decide +kernel) (by decide +kernel)
set_option maxRecDepth 20000 in
theorem gX5_read_X5_putOn : GoodIn wsX5_read (va_wsS RX5 135 yX5_putOn wsX5_putOn) := goodIn_app (goodIn_of _ (by decide +kernel)) ggX5_read_X5_putOn
set_option maxRecDepth 20000 in
theorem ggX5_read_X5_copyRow : GoodIn wsX5_read wsX5_copyRow := goodIn_r _ [70, 71, 72, 73, 74] (by decide +kernel) (by decide +kernel)
set_option maxRecDepth 20000 in
theorem gX5_read_X5_copyRow : GoodIn wsX5_read (va_wsS RX5 139 yX5_copyRow wsX5_copyRow) := goodIn_app (goodIn_of _ (by decide +kernel)) ggX5_read_X5_copyRow
theorem dX5_read_0 : decode cX5_read 0 = .ok (.iload_n 1, 1) := by decide +kernel
theorem dX5_read_1 : decode cX5_read 1 = .ok (.iconst (-1), 1) := by decide +kernel
theorem dX5_read_2 : decode cX5_read 2 = .ok (.if_icmp .eq 16, 3) := by decide +kernel
theorem dX5_read_5 : decode cX5_read 5 = .ok (.aload_n 0, 1) := by decide +kernel
theorem dX5_read_6 : decode cX5_read 6 = .ok (.getfield 12, 3) := by decide +kernel
theorem dX5_read_9 : decode cX5_read 9 = .ok (.iload_n 1, 1) := by decide +kernel
theorem dX5_read_10 : decode cX5_read 10 = .ok (.invokevirtual 106, 3) := by decide +kernel
theorem dX5_read_13 : decode cX5_read 13 = .ok (.ifCond .ne 5, 3) := by decide +kernel
theorem dX5_read_16 : decode cX5_read 16 = .ok (.iconst (-1), 1) := by decide +kernel
theorem dX5_read_17 : decode cX5_read 17 = .ok (.ireturn, 1) := by decide +kernel
theorem dX5_read_18 : decode cX5_read 18 = .ok (.aload_n 0, 1) := by decide +kernel
theorem dX5_read_19 : decode cX5_read 19 = .ok (.getfield 27, 3) := by decide +kernel
theorem dX5_read_22 : decode cX5_read 22 = .ok (.aload_n 0, 1) := by decide +kernel
theorem dX5_read_23 : decode cX5_read 23 = .ok (.getfield 12, 3) := by decide +kernel
theorem dX5_read_26 : decode cX5_read 26 = .ok (.getfield 65, 3) := by decide +kernel
theorem dX5_read_29 : decode cX5_read 29 = .ok (.aload_n 0, 1) := by decide +kernel
theorem dX5_read_30 : decode cX5_read 30 = .ok (.getfield 12, 3) := by decide +kernel
theorem dX5_read_33 : decode cX5_read 33 = .ok (.getfield 68, 3) := by decide +kernel
theorem dX5_read_36 : decode cX5_read 36 = .ok (.invokevirtual 130, 3) := by decide +kernel
theorem dX5_read_39 : decode cX5_read 39 = .ok (.bipush (-5), 2) := by decide +kernel
theorem dX5_read_41 : decode cX5_read 41 = .ok (.if_icmp .eq 6, 3) := by decide +kernel
theorem dX5_read_44 : decode cX5_read 44 = .ok (.bipush (-3), 2) := by decide +kernel
theorem dX5_read_46 : decode cX5_read 46 = .ok (.ireturn, 1) := by decide +kernel
theorem dX5_read_47 : decode cX5_read 47 = .ok (.iload_n 1, 1) := by decide +kernel
theorem dX5_read_48 : decode cX5_read 48 = .ok (.iconst (-1), 1) := by decide +kernel
theorem dX5_read_49 : decode cX5_read 49 = .ok (.if_icmp .ne 30, 3) := by decide +kernel
theorem dX5_read_52 : decode cX5_read 52 = .ok (.aload_n 0, 1) := by decide +kernel
theorem dX5_read_53 : decode cX5_read 53 = .ok (.getfield 12, 3) := by decide +kernel
theorem dX5_read_56 : decode cX5_read 56 = .ok (.getfield 96, 3) := by decide +kernel
theorem dX5_read_59 : decode cX5_read 59 = .ok (.aload_n 0, 1) := by decide +kernel
theorem dX5_read_60 : decode cX5_read 60 = .ok (.getfield 27, 3) := by decide +kernel
theorem dX5_read_63 : decode cX5_read 63 = .ok (.getfield 133, 3) := by decide +kernel
theorem dX5_read_66 : decode cX5_read 66 = .ok (.aload_n 0, 1) := by decide +kernel
theorem dX5_read_67 : decode cX5_read 67 = .ok (.getfield 12, 3) := by decide +kernel
theorem dX5_read_70 : decode cX5_read 70 = .ok (.getfield 96, 3) := by decide +kernel
theorem dX5_read_73 : decode cX5_read 73 = .ok (.invokestatic 135, 3) := by decide +kernel
theorem dX5_read_76 : decode cX5_read 76 = .ok (.goto 22, 3) := by decide +kernel
theorem dX5_read_79 : decode cX5_read 79 = .ok (.aload_n 0, 1) := by decide +kernel
theorem dX5_read_80 : decode cX5_read 80 = .ok (.getfield 27, 3) := by decide +kernel
theorem dX5_read_83 : decode cX5_read 83 = .ok (.getfield 133, 3) := by decide +kernel
theorem dX5_read_86 : decode cX5_read 86 = .ok (.aload_n 0, 1) := by decide +kernel
theorem dX5_read_87 : decode cX5_read 87 = .ok (.getfield 12, 3) := by decide +kernel
theorem dX5_read_90 : decode cX5_read 90 = .ok (.getfield 109, 3) := by decide +kernel
theorem dX5_read_93 : decode cX5_read 93 = .ok (.iload_n 1, 1) := by decide +kernel
