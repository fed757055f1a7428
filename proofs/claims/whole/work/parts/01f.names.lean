theorem dX6_isChange_83 : decode cX6_isChange 83 = .ok (.getfield 7, 3) := by decide +kernel
theorem dX6_isChange_86 : decode cX6_isChange 86 = .ok (.iconst 0, 1) := by decide +kernel
theorem dX6_isChange_87 : decode cX6_isChange 87 = .ok (.iaload, 1) := by decide +kernel
theorem dX6_isChange_88 : decode cX6_isChange 88 = .ok (.iconst 1, 1) := by decide +kernel
theorem dX6_isChange_89 : decode cX6_isChange 89 = .ok (.isub, 1) := by decide +kernel
theorem dX6_isChange_90 : decode cX6_isChange 90 = .ok (.invokevirtual 112, 3) := by decide +kernel
theorem dX6_isChange_93 : decode cX6_isChange 93 = .ok (.istore 4, 2) := by decide +kernel
theorem dX6_isChange_95 : decode cX6_isChange 95 = .ok (.iload 4, 2) := by decide +kernel
theorem dX6_isChange_97 : decode cX6_isChange 97 = .ok (.ifCond .lt 12, 3) := by decide +kernel
theorem dX6_isChange_100 : decode cX6_isChange 100 = .ok (.aload_n 0, 1) := by decide +kernel
theorem dX6_isChange_101 : decode cX6_isChange 101 = .ok (.bipush 47, 2) := by decide +kernel
theorem dX6_isChange_103 : decode cX6_isChange 103 = .ok (.invokevirtual 115, 3) := by decide +kernel
theorem dX6_isChange_106 : decode cX6_isChange 106 = .ok (.ifCond .ne 5, 3) := by decide +kernel
theorem dX6_isChange_109 : decode cX6_isChange 109 = .ok (.iconst 0, 1) := by decide +kernel
theorem dX6_isChange_110 : decode cX6_isChange 110 = .ok (.ireturn, 1) := by decide +kernel
theorem dX6_isChange_111 : decode cX6_isChange 111 = .ok (.aload_n 0, 1) := by decide +kernel
theorem dX6_isChange_112 : decode cX6_isChange 112 = .ok (.bipush 9, 2) := by decide +kernel
theorem dX6_isChange_114 : decode cX6_isChange 114 = .ok (.invokevirtual 112, 3) := by decide +kernel
theorem dX6_isChange_117 : decode cX6_isChange 117 = .ok (.istore 5, 2) := by decide +kernel
theorem dX6_isChange_119 : decode cX6_isChange 119 = .ok (.bipush 10, 2) := by decide +kernel
theorem dX6_isChange_121 : decode cX6_isChange 121 = .ok (.iload 4, 2) := by decide +kernel
theorem dX6_isChange_123 : decode cX6_isChange 123 = .ok (.imul, 1) := by decide +kernel
theorem dX6_isChange_124 : decode cX6_isChange 124 = .ok (.iload 5, 2) := by decide +kernel
theorem dX6_isChange_126 : decode cX6_isChange 126 = .ok (.iadd, 1) := by decide +kernel
theorem dX6_isChange_127 : decode cX6_isChange 127 = .ok (.istore_n 3, 1) := by decide +kernel
theorem dX6_isChange_128 : decode cX6_isChange 128 = .ok (.iload 5, 2) := by decide +kernel
theorem dX6_isChange_130 : decode cX6_isChange 130 = .ok (.ifCond .ge 5, 3) := by decide +kernel
theorem dX6_isChange_133 : decode cX6_isChange 133 = .ok (.iconst 0, 1) := by decide +kernel
theorem dX6_isChange_134 : decode cX6_isChange 134 = .ok (.ireturn, 1) := by decide +kernel
theorem dX6_isChange_135 : decode cX6_isChange 135 = .ok (.aload_n 0, 1) := by decide +kernel
theorem dX6_isChange_136 : decode cX6_isChange 136 = .ok (.bipush 59, 2) := by decide +kernel
theorem dX6_isChange_138 : decode cX6_isChange 138 = .ok (.invokevirtual 115, 3) := by decide +kernel
theorem dX6_isChange_141 : decode cX6_isChange 141 = .ok (.ifCond .ne 5, 3) := by decide +kernel
theorem dX6_isChange_144 : decode cX6_isChange 144 = .ok (.iconst 0, 1) := by decide +kernel
theorem dX6_isChange_145 : decode cX6_isChange 145 = .ok (.ireturn, 1) := by decide +kernel
theorem dX6_isChange_146 : decode cX6_isChange 146 = .ok (.aload_n 0, 1) := by decide +kernel
theorem dX6_isChange_147 : decode cX6_isChange 147 = .ok (.getfield 26, 3) := by decide +kernel
theorem dX6_isChange_150 : decode cX6_isChange 150 = .ok (.iconst 4, 1) := by decide +kernel
theorem dX6_isChange_151 : decode cX6_isChange 151 = .ok (.iload_n 1, 1) := by decide +kernel
theorem dX6_isChange_152 : decode cX6_isChange 152 = .ok (.imul, 1) := by decide +kernel
theorem dX6_isChange_153 : decode cX6_isChange 153 = .ok (.iload_n 2, 1) := by decide +kernel
theorem dX6_isChange_154 : decode cX6_isChange 154 = .ok (.iadd, 1) := by decide +kernel
theorem dX6_isChange_155 : decode cX6_isChange 155 = .ok (.iload_n 3, 1) := by decide +kernel
theorem dX6_isChange_156 : decode cX6_isChange 156 = .ok (.iastore, 1) := by decide +kernel
theorem dX6_isChange_157 : decode cX6_isChange 157 = .ok (.aload_n 0, 1) := by decide +kernel
theorem dX6_isChange_158 : decode cX6_isChange 158 = .ok (.dup, 1) := by decide +kernel
theorem dX6_isChange_159 : decode cX6_isChange 159 = .ok (.getfield 118, 3) := by decide +kernel
theorem dX6_isChange_162 : decode cX6_isChange 162 = .ok (.iconst 1, 1) := by decide +kernel
theorem dX6_isChange_163 : decode cX6_isChange 163 = .ok (.iadd, 1) := by decide +kernel
theorem dX6_isChange_164 : decode cX6_isChange 164 = .ok (.putfield 118, 3) := by decide +kernel
theorem dX6_isChange_167 : decode cX6_isChange 167 = .ok (.iconst 1, 1) := by decide +kernel
theorem dX6_isChange_168 : decode cX6_isChange 168 = .ok (.ireturn, 1) := by decide +kernel
set_option maxRecDepth 20000 in
theorem ggX6_isText_X6_isChange : GoodIn wsX6_isText wsX6_isChange := goodIn_r _ [9, 10, 3, 1, 2, 11, 12, 13, 8, 14, 15, 16, 17, 18, 4, 19, 20, 21, 22, 23, 24, 25, 26, 27, 28, 29, 30, 31, 32, 33, 34, 35, 36, 37, 38, 39, 40, 41, 42, 43, 44, 45, 46, 47, 48, 49, 50, 51, 52] (by decide +kernel) (by decide +kernel)
set_option maxRecDepth 20000 in
theorem gX6_isText_X6_isChange : GoodIn wsX6_isText (wsV RX6 121 RX6 yX6_isChange wsX6_isChange) := goodIn_app (goodIn_of _ (by decide +kernel)) ggX6_isText_X6_isChange
theorem dX6_isText_0 : decode cX6_isText 0 = .ok (.aload_n 0, 1) := by decide +kernel
theorem dX6_isText_1 : decode cX6_isText 1 = .ok (.iconst 0, 1) := by decide +kernel
theorem dX6_isText_2 : decode cX6_isText 2 = .ok (.putfield 105, 3) := by decide +kernel
theorem dX6_isText_5 : decode cX6_isText 5 = .ok (.aload_n 0, 1) := by decide +kernel
theorem dX6_isText_6 : decode cX6_isText 6 = .ok (.iconst 0, 1) := by decide +kernel
theorem dX6_isText_7 : decode cX6_isText 7 = .ok (.putfield 118, 3) := by decide +kernel
theorem dX6_isText_10 : decode cX6_isText 10 = .ok (.iconst 0, 1) := by decide +kernel
theorem dX6_isText_11 : decode cX6_isText 11 = .ok (.istore_n 1, 1) := by decide +kernel
theorem dX6_isText_12 : decode cX6_isText 12 = .ok (.iload_n 1, 1) := by decide +kernel
theorem dX6_isText_13 : decode cX6_isText 13 = .ok (.bipush 32, 2) := by decide +kernel
theorem dX6_isText_15 : decode cX6_isText 15 = .ok (.if_icmp .ge 16, 3) := by decide +kernel
theorem dX6_isText_18 : decode cX6_isText 18 = .ok (.aload_n 0, 1) := by decide +kernel
theorem dX6_isText_19 : decode cX6_isText 19 = .ok (.getfield 26, 3) := by decide +kernel
theorem dX6_isText_22 : decode cX6_isText 22 = .ok (.iload_n 1, 1) := by decide +kernel
theorem dX6_isText_23 : decode cX6_isText 23 = .ok (.iconst (-1), 1) := by decide +kernel
theorem dX6_isText_24 : decode cX6_isText 24 = .ok (.iastore, 1) := by decide +kernel
theorem dX6_isText_25 : decode cX6_isText 25 = .ok (.iinc 1 1, 3) := by decide +kernel
theorem dX6_isText_28 : decode cX6_isText 28 = .ok (.goto (-16), 3) := by decide +kernel
theorem dX6_isText_31 : decode cX6_isText 31 = .ok (.iconst 1, 1) := by decide +kernel
theorem dX6_isText_32 : decode cX6_isText 32 = .ok (.istore_n 1, 1) := by decide +kernel
theorem dX6_isText_33 : decode cX6_isText 33 = .ok (.iload_n 1, 1) := by decide +kernel
theorem dX6_isText_34 : decode cX6_isText 34 = .ok (.ifCond .eq 22, 3) := by decide +kernel
theorem dX6_isText_37 : decode cX6_isText 37 = .ok (.aload_n 0, 1) := by decide +kernel
theorem dX6_isText_38 : decode cX6_isText 38 = .ok (.getfield 105, 3) := by decide +kernel
theorem dX6_isText_41 : decode cX6_isText 41 = .ok (.aload_n 0, 1) := by decide +kernel
theorem dX6_isText_42 : decode cX6_isText 42 = .ok (.getfield 102, 3) := by decide +kernel
theorem dX6_isText_45 : decode cX6_isText 45 = .ok (.if_icmp .ge 11, 3) := by decide +kernel
theorem dX6_isText_48 : decode cX6_isText 48 = .ok (.aload_n 0, 1) := by decide +kernel
theorem dX6_isText_49 : decode cX6_isText 49 = .ok (.invokevirtual 121, 3) := by decide +kernel
theorem dX6_isText_52 : decode cX6_isText 52 = .ok (.istore_n 1, 1) := by decide +kernel
theorem dX6_isText_53 : decode cX6_isText 53 = .ok (.goto (-20), 3) := by decide +kernel
theorem dX6_isText_56 : decode cX6_isText 56 = .ok (.iload_n 1, 1) := by decide +kernel
theorem dX6_isText_57 : decode cX6_isText 57 = .ok (.ireturn, 1) := by decide +kernel
set_option maxRecDepth 20000 in
theorem ggX6_faultPosition_X6_isText : GoodIn wsX6_faultPosition wsX6_isText := goodIn_r _ [6, 1, 7, 8, 9, 10, 11, 12, 5, 13, 14, 15, 16, 17, 18, 19, 20, 21, 22, 23, 24, 25, 26, 27, 28, 29, 30, 31, 32, 33, 34, 35, 36, 37, 38, 39, 40, 41, 42, 43, 44, 45, 46, 47, 48, 49, 50, 51, 52, 53, 54, 55, 56] (by decide +kernel) (by decide +kernel)
set_option maxRecDepth 20000 in
theorem gX6_faultPosition_X6_isText : GoodIn wsX6_faultPosition (wsV RX6 125 RX6 yX6_isText wsX6_isText) := goodIn_app (goodIn_of _ (by decide +kernel)) ggX6_faultPosition_X6_isText
theorem dX6_faultPosition_0 : decode cX6_faultPosition 0 = .ok (.aload_n 0, 1) := by decide +kernel
theorem dX6_faultPosition_1 : decode cX6_faultPosition 1 = .ok (.invokevirtual 125, 3) := by decide +kernel
theorem dX6_faultPosition_4 : decode cX6_faultPosition 4 = .ok (.ifCond .eq 8, 3) := by decide +kernel
theorem dX6_faultPosition_7 : decode cX6_faultPosition 7 = .ok (.bipush (-5), 2) := by decide +kernel
theorem dX6_faultPosition_9 : decode cX6_faultPosition 9 = .ok (.goto 7, 3) := by decide +kernel
theorem dX6_faultPosition_12 : decode cX6_faultPosition 12 = .ok (.aload_n 0, 1) := by decide +kernel
theorem dX6_faultPosition_13 : decode cX6_faultPosition 13 = .ok (.getfield 105, 3) := by decide +kernel
theorem dX6_faultPosition_16 : decode cX6_faultPosition 16 = .ok (.ireturn, 1) := by decide +kernel
set_option maxRecDepth 20000 in
theorem ggX6_read_X6_isFeature : GoodIn wsX6_read wsX6_isFeature := goodIn_r _ [8, 1, 9, 10, 7, 11, 42, 43, 44, 45, 46, 47, 48, 49, 50, 51, 52, 53, 54, 55, 56, 57, 58, 59, 60, 61, 62, 63] (by decide +kernel) (by decide +kernel)
set_option maxRecDepth 20000 in
theorem gX6_read_X6_isFeature : GoodIn wsX6_read (wsV RX6 92 RX6 yX6_isFeature wsX6_isFeature) := goodIn_app (goodIn_of _ (by decide +kernel)) ggX6_read_X6_isFeature
set_option maxRecDepth 20000 in
theorem ggX6_read_X6_isText : GoodIn wsX6_read wsX6_isText := goodIn_r _ [15, 16, 3, 2, 17, 18, 19, 20, 7, 21, 1, 22, 23, 24, 25, 26, 27, 28, 29, 30, 9, 10, 11, 31, 32, 33, 34, 35, 36, 37, 38, 42, 43, 44, 45, 46, 47, 48, 49, 50, 51, 52, 53, 54, 55, 56, 57, 58, 59, 60, 61, 62, 63] (by decide +kernel) (by decide +kernel)
set_option maxRecDepth 20000 in
theorem gX6_read_X6_isText : GoodIn wsX6_read (wsV RX6 125 RX6 yX6_isText wsX6_isText) := goodIn_app (goodIn_of _ (by decide +kernel)) ggX6_read_X6_isText
set_option maxRecDepth 20000 in
theorem ggX6_read_X6_at : GoodIn wsX6_read wsX6_at := goodIn_r _ [41] (by decide +kernel) (by decide +kernel)
set_option maxRecDepth 20000 in
theorem gX6_read_X6_at : GoodIn wsX6_read (va_wsS RX6 85 yX6_at wsX6_at) := goodIn_app (goodIn_of _ (by decide +kernel)) ggX6_read_X6_at
theorem dX6_read_0 : decode cX6_read 0 = .ok (.iload_n 1, 1) := by decide +kernel
theorem dX6_read_1 : decode cX6_read 1 = .ok (.iconst (-1), 1) := by decide +kernel
theorem dX6_read_2 : decode cX6_read 2 = .ok (.if_icmp .eq 13, 3) := by decide +kernel
theorem dX6_read_5 : decode cX6_read 5 = .ok (.aload_n 0, 1) := by decide +kernel
theorem dX6_read_6 : decode cX6_read 6 = .ok (.iload_n 1, 1) := by decide +kernel
theorem dX6_read_7 : decode cX6_read 7 = .ok (.invokevirtual 92, 3) := by decide +kernel
theorem dX6_read_10 : decode cX6_read 10 = .ok (.ifCond .ne 5, 3) := by decide +kernel
theorem dX6_read_13 : decode cX6_read 13 = .ok (.iconst (-1), 1) := by decide +kernel
theorem dX6_read_14 : decode cX6_read 14 = .ok (.ireturn, 1) := by decide +kernel
theorem dX6_read_15 : decode cX6_read 15 = .ok (.aload_n 0, 1) := by decide +kernel
theorem dX6_read_16 : decode cX6_read 16 = .ok (.invokevirtual 125, 3) := by decide +kernel
theorem dX6_read_19 : decode cX6_read 19 = .ok (.ifCond .ne 6, 3) := by decide +kernel
theorem dX6_read_22 : decode cX6_read 22 = .ok (.bipush (-3), 2) := by decide +kernel
theorem dX6_read_24 : decode cX6_read 24 = .ok (.ireturn, 1) := by decide +kernel
theorem dX6_read_25 : decode cX6_read 25 = .ok (.iconst 0, 1) := by decide +kernel
theorem dX6_read_26 : decode cX6_read 26 = .ok (.istore_n 2, 1) := by decide +kernel
theorem dX6_read_27 : decode cX6_read 27 = .ok (.iload_n 2, 1) := by decide +kernel
theorem dX6_read_28 : decode cX6_read 28 = .ok (.bipush 32, 2) := by decide +kernel
theorem dX6_read_30 : decode cX6_read 30 = .ok (.if_icmp .ge 72, 3) := by decide +kernel
theorem dX6_read_33 : decode cX6_read 33 = .ok (.iload_n 1, 1) := by decide +kernel
theorem dX6_read_34 : decode cX6_read 34 = .ok (.ifCond .lt 24, 3) := by decide +kernel
theorem dX6_read_37 : decode cX6_read 37 = .ok (.aload_n 0, 1) := by decide +kernel
theorem dX6_read_38 : decode cX6_read 38 = .ok (.getfield 7, 3) := by decide +kernel
theorem dX6_read_41 : decode cX6_read 41 = .ok (.iload_n 1, 1) := by decide +kernel
theorem dX6_read_42 : decode cX6_read 42 = .ok (.iconst 1, 1) := by decide +kernel
theorem dX6_read_43 : decode cX6_read 43 = .ok (.iload_n 2, 1) := by decide +kernel
theorem dX6_read_44 : decode cX6_read 44 = .ok (.iadd, 1) := by decide +kernel
theorem dX6_read_45 : decode cX6_read 45 = .ok (.invokestatic 85, 3) := by decide +kernel
theorem dX6_read_48 : decode cX6_read 48 = .ok (.aload_n 0, 1) := by decide +kernel
theorem dX6_read_49 : decode cX6_read 49 = .ok (.getfield 26, 3) := by decide +kernel
theorem dX6_read_52 : decode cX6_read 52 = .ok (.iload_n 2, 1) := by decide +kernel
theorem dX6_read_53 : decode cX6_read 53 = .ok (.iaload, 1) := by decide +kernel
theorem dX6_read_54 : decode cX6_read 54 = .ok (.iastore, 1) := by decide +kernel
theorem dX6_read_55 : decode cX6_read 55 = .ok (.goto 41, 3) := by decide +kernel
theorem dX6_read_58 : decode cX6_read 58 = .ok (.aload_n 0, 1) := by decide +kernel
theorem dX6_read_59 : decode cX6_read 59 = .ok (.getfield 26, 3) := by decide +kernel
theorem dX6_read_62 : decode cX6_read 62 = .ok (.iload_n 2, 1) := by decide +kernel
theorem dX6_read_63 : decode cX6_read 63 = .ok (.iaload, 1) := by decide +kernel
theorem dX6_read_64 : decode cX6_read 64 = .ok (.ifCond .lt 32, 3) := by decide +kernel
theorem dX6_read_67 : decode cX6_read 67 = .ok (.aload_n 0, 1) := by decide +kernel
theorem dX6_read_68 : decode cX6_read 68 = .ok (.getfield 7, 3) := by decide +kernel
theorem dX6_read_71 : decode cX6_read 71 = .ok (.iconst 2, 1) := by decide +kernel
theorem dX6_read_72 : decode cX6_read 72 = .ok (.iload_n 2, 1) := by decide +kernel
theorem dX6_read_73 : decode cX6_read 73 = .ok (.iadd, 1) := by decide +kernel
theorem dX6_read_74 : decode cX6_read 74 = .ok (.aload_n 0, 1) := by decide +kernel
theorem dX6_read_75 : decode cX6_read 75 = .ok (.getfield 26, 3) := by decide +kernel
theorem dX6_read_78 : decode cX6_read 78 = .ok (.iload_n 2, 1) := by decide +kernel
theorem dX6_read_79 : decode cX6_read 79 = .ok (.iaload, 1) := by decide +kernel
theorem dX6_read_80 : decode cX6_read 80 = .ok (.bipush 100, 2) := by decide +kernel
theorem dX6_read_82 : decode cX6_read 82 = .ok (.if_icmp .ne 7, 3) := by decide +kernel
theorem dX6_read_85 : decode cX6_read 85 = .ok (.iconst (-1), 1) := by decide +kernel
theorem dX6_read_86 : decode cX6_read 86 = .ok (.goto 9, 3) := by decide +kernel
theorem dX6_read_89 : decode cX6_read 89 = .ok (.aload_n 0, 1) := by decide +kernel
theorem dX6_read_90 : decode cX6_read 90 = .ok (.getfield 26, 3) := by decide +kernel
theorem dX6_read_93 : decode cX6_read 93 = .ok (.iload_n 2, 1) := by decide +kernel
theorem dX6_read_94 : decode cX6_read 94 = .ok (.iaload, 1) := by decide +kernel
theorem dX6_read_95 : decode cX6_read 95 = .ok (.iastore, 1) := by decide +kernel
theorem dX6_read_96 : decode cX6_read 96 = .ok (.iinc 2 1, 3) := by decide +kernel
theorem dX6_read_99 : decode cX6_read 99 = .ok (.goto (-72), 3) := by decide +kernel
theorem dX6_read_102 : decode cX6_read 102 = .ok (.aload_n 0, 1) := by decide +kernel
theorem dX6_read_103 : decode cX6_read 103 = .ok (.getfield 118, 3) := by decide +kernel
theorem dX6_read_106 : decode cX6_read 106 = .ok (.ireturn, 1) := by decide +kernel
theorem dX6_base_0 : decode cX6_base 0 = .ok (.iconst 0, 1) := by decide +kernel
theorem dX6_base_1 : decode cX6_base 1 = .ok (.istore_n 2, 1) := by decide +kernel
theorem dX6_base_2 : decode cX6_base 2 = .ok (.iload_n 2, 1) := by decide +kernel
theorem dX6_base_3 : decode cX6_base 3 = .ok (.bipush 32, 2) := by decide +kernel
theorem dX6_base_5 : decode cX6_base 5 = .ok (.if_icmp .ge 20, 3) := by decide +kernel
theorem dX6_base_8 : decode cX6_base 8 = .ok (.aload_n 1, 1) := by decide +kernel
theorem dX6_base_9 : decode cX6_base 9 = .ok (.iload_n 2, 1) := by decide +kernel
theorem dX6_base_10 : decode cX6_base 10 = .ok (.aload_n 0, 1) := by decide +kernel
theorem dX6_base_11 : decode cX6_base 11 = .ok (.getfield 7, 3) := by decide +kernel
theorem dX6_base_14 : decode cX6_base 14 = .ok (.iconst 2, 1) := by decide +kernel
theorem dX6_base_15 : decode cX6_base 15 = .ok (.iload_n 2, 1) := by decide +kernel
theorem dX6_base_16 : decode cX6_base 16 = .ok (.iadd, 1) := by decide +kernel
theorem dX6_base_17 : decode cX6_base 17 = .ok (.iaload, 1) := by decide +kernel
theorem dX6_base_18 : decode cX6_base 18 = .ok (.iastore, 1) := by decide +kernel
theorem dX6_base_19 : decode cX6_base 19 = .ok (.iinc 2 1, 3) := by decide +kernel
theorem dX6_base_22 : decode cX6_base 22 = .ok (.goto (-20), 3) := by decide +kernel
theorem dX6_base_25 : decode cX6_base 25 = .ok (.return_, 1) := by decide +kernel
set_option maxRecDepth 20000 in
theorem ggX6_putsOn_X6_at : GoodIn wsX6_putsOn wsX6_at := goodIn_r _ [5] (by decide +kernel) (by decide +kernel)
set_option maxRecDepth 20000 in
theorem gX6_putsOn_X6_at : GoodIn wsX6_putsOn (va_wsS RX6 85 yX6_at wsX6_at) := goodIn_app (goodIn_of _ (by decide +kernel)) ggX6_putsOn_X6_at
theorem dX6_putsOn_0 : decode cX6_putsOn 0 = .ok (.iconst 0, 1) := by decide +kernel
theorem dX6_putsOn_1 : decode cX6_putsOn 1 = .ok (.istore_n 3, 1) := by decide +kernel
theorem dX6_putsOn_2 : decode cX6_putsOn 2 = .ok (.iload_n 3, 1) := by decide +kernel
theorem dX6_putsOn_3 : decode cX6_putsOn 3 = .ok (.bipush 32, 2) := by decide +kernel
theorem dX6_putsOn_5 : decode cX6_putsOn 5 = .ok (.if_icmp .ge 50, 3) := by decide +kernel
theorem dX6_putsOn_8 : decode cX6_putsOn 8 = .ok (.aload_n 0, 1) := by decide +kernel
theorem dX6_putsOn_9 : decode cX6_putsOn 9 = .ok (.getfield 7, 3) := by decide +kernel
theorem dX6_putsOn_12 : decode cX6_putsOn 12 = .ok (.iload_n 2, 1) := by decide +kernel
theorem dX6_putsOn_13 : decode cX6_putsOn 13 = .ok (.iconst 1, 1) := by decide +kernel
theorem dX6_putsOn_14 : decode cX6_putsOn 14 = .ok (.iload_n 3, 1) := by decide +kernel
theorem dX6_putsOn_15 : decode cX6_putsOn 15 = .ok (.iadd, 1) := by decide +kernel
theorem dX6_putsOn_16 : decode cX6_putsOn 16 = .ok (.invokestatic 85, 3) := by decide +kernel
theorem dX6_putsOn_19 : decode cX6_putsOn 19 = .ok (.iaload, 1) := by decide +kernel
theorem dX6_putsOn_20 : decode cX6_putsOn 20 = .ok (.istore 4, 2) := by decide +kernel
theorem dX6_putsOn_22 : decode cX6_putsOn 22 = .ok (.aload_n 1, 1) := by decide +kernel
theorem dX6_putsOn_23 : decode cX6_putsOn 23 = .ok (.iload_n 3, 1) := by decide +kernel
theorem dX6_putsOn_24 : decode cX6_putsOn 24 = .ok (.iload 4, 2) := by decide +kernel
theorem dX6_putsOn_26 : decode cX6_putsOn 26 = .ok (.ifCond .ge 9, 3) := by decide +kernel
theorem dX6_putsOn_29 : decode cX6_putsOn 29 = .ok (.aload_n 1, 1) := by decide +kernel
theorem dX6_putsOn_30 : decode cX6_putsOn 30 = .ok (.iload_n 3, 1) := by decide +kernel
theorem dX6_putsOn_31 : decode cX6_putsOn 31 = .ok (.iaload, 1) := by decide +kernel
theorem dX6_putsOn_32 : decode cX6_putsOn 32 = .ok (.goto 16, 3) := by decide +kernel
theorem dX6_putsOn_35 : decode cX6_putsOn 35 = .ok (.iload 4, 2) := by decide +kernel
theorem dX6_putsOn_37 : decode cX6_putsOn 37 = .ok (.bipush 100, 2) := by decide +kernel
theorem dX6_putsOn_39 : decode cX6_putsOn 39 = .ok (.if_icmp .ne 7, 3) := by decide +kernel
theorem dX6_putsOn_42 : decode cX6_putsOn 42 = .ok (.iconst (-1), 1) := by decide +kernel
theorem dX6_putsOn_43 : decode cX6_putsOn 43 = .ok (.goto 5, 3) := by decide +kernel
theorem dX6_putsOn_46 : decode cX6_putsOn 46 = .ok (.iload 4, 2) := by decide +kernel
theorem dX6_putsOn_48 : decode cX6_putsOn 48 = .ok (.iastore, 1) := by decide +kernel
theorem dX6_putsOn_49 : decode cX6_putsOn 49 = .ok (.iinc 3 1, 3) := by decide +kernel
theorem dX6_putsOn_52 : decode cX6_putsOn 52 = .ok (.goto (-50), 3) := by decide +kernel
theorem dX6_putsOn_55 : decode cX6_putsOn 55 = .ok (.return_, 1) := by decide +kernel
theorem dX6_output_0 : decode cX6_output 0 = .ok (.iload_n 1, 1) := by decide +kernel
theorem dX6_output_1 : decode cX6_output 1 = .ok (.bipush 8, 2) := by decide +kernel
theorem dX6_output_3 : decode cX6_output 3 = .ok (.if_icmp .eq 13, 3) := by decide +kernel
theorem dX6_output_6 : decode cX6_output 6 = .ok (.aload_n 0, 1) := by decide +kernel
theorem dX6_output_7 : decode cX6_output 7 = .ok (.iconst 4, 1) := by decide +kernel
theorem dX6_output_8 : decode cX6_output 8 = .ok (.iload_n 1, 1) := by decide +kernel
theorem dX6_output_9 : decode cX6_output 9 = .ok (.imul, 1) := by decide +kernel
theorem dX6_output_10 : decode cX6_output 10 = .ok (.iload_n 2, 1) := by decide +kernel
theorem dX6_output_11 : decode cX6_output 11 = .ok (.iadd, 1) := by decide +kernel
theorem dX6_output_12 : decode cX6_output 12 = .ok (.iaload, 1) := by decide +kernel
theorem dX6_output_13 : decode cX6_output 13 = .ok (.ifCond .ge 8, 3) := by decide +kernel
theorem dX6_output_16 : decode cX6_output 16 = .ok (.bipush 10, 2) := by decide +kernel
theorem dX6_output_18 : decode cX6_output 18 = .ok (.goto 13, 3) := by decide +kernel
theorem dX6_output_21 : decode cX6_output 21 = .ok (.aload_n 0, 1) := by decide +kernel
theorem dX6_output_22 : decode cX6_output 22 = .ok (.iconst 4, 1) := by decide +kernel
theorem dX6_output_23 : decode cX6_output 23 = .ok (.iload_n 1, 1) := by decide +kernel
theorem dX6_output_24 : decode cX6_output 24 = .ok (.imul, 1) := by decide +kernel
theorem dX6_output_25 : decode cX6_output 25 = .ok (.iload_n 2, 1) := by decide +kernel
theorem dX6_output_26 : decode cX6_output 26 = .ok (.iadd, 1) := by decide +kernel
theorem dX6_output_27 : decode cX6_output 27 = .ok (.iaload, 1) := by decide +kernel
theorem dX6_output_28 : decode cX6_output 28 = .ok (.bipush 10, 2) := by decide +kernel
theorem dX6_output_30 : decode cX6_output 30 = .ok (.irem, 1) := by decide +kernel
theorem dX6_output_31 : decode cX6_output 31 = .ok (.ireturn, 1) := by decide +kernel
theorem dX6_next_0 : decode cX6_next 0 = .ok (.iload_n 1, 1) := by decide +kernel
theorem dX6_next_1 : decode cX6_next 1 = .ok (.bipush 8, 2) := by decide +kernel
theorem dX6_next_3 : decode cX6_next 3 = .ok (.if_icmp .eq 13, 3) := by decide +kernel
theorem dX6_next_6 : decode cX6_next 6 = .ok (.aload_n 0, 1) := by decide +kernel
theorem dX6_next_7 : decode cX6_next 7 = .ok (.iconst 4, 1) := by decide +kernel
theorem dX6_next_8 : decode cX6_next 8 = .ok (.iload_n 1, 1) := by decide +kernel
theorem dX6_next_9 : decode cX6_next 9 = .ok (.imul, 1) := by decide +kernel
theorem dX6_next_10 : decode cX6_next 10 = .ok (.iload_n 2, 1) := by decide +kernel
theorem dX6_next_11 : decode cX6_next 11 = .ok (.iadd, 1) := by decide +kernel
theorem dX6_next_12 : decode cX6_next 12 = .ok (.iaload, 1) := by decide +kernel
theorem dX6_next_13 : decode cX6_next 13 = .ok (.ifCond .ge 8, 3) := by decide +kernel
theorem dX6_next_16 : decode cX6_next 16 = .ok (.bipush 8, 2) := by decide +kernel
theorem dX6_next_18 : decode cX6_next 18 = .ok (.goto 13, 3) := by decide +kernel
theorem dX6_next_21 : decode cX6_next 21 = .ok (.aload_n 0, 1) := by decide +kernel
theorem dX6_next_22 : decode cX6_next 22 = .ok (.iconst 4, 1) := by decide +kernel
theorem dX6_next_23 : decode cX6_next 23 = .ok (.iload_n 1, 1) := by decide +kernel
theorem dX6_next_24 : decode cX6_next 24 = .ok (.imul, 1) := by decide +kernel
theorem dX6_next_25 : decode cX6_next 25 = .ok (.iload_n 2, 1) := by decide +kernel
theorem dX6_next_26 : decode cX6_next 26 = .ok (.iadd, 1) := by decide +kernel
theorem dX6_next_27 : decode cX6_next 27 = .ok (.iaload, 1) := by decide +kernel
theorem dX6_next_28 : decode cX6_next 28 = .ok (.bipush 10, 2) := by decide +kernel
theorem dX6_next_30 : decode cX6_next 30 = .ok (.idiv, 1) := by decide +kernel
theorem dX6_next_31 : decode cX6_next 31 = .ok (.ireturn, 1) := by decide +kernel
set_option maxRecDepth 20000 in
theorem ggX6_findApart_X6_output : GoodIn wsX6_findApart wsX6_output := goodIn_r _ [11] (by decide +kernel) (by decide +kernel)
set_option maxRecDepth 20000 in
theorem gX6_findApart_X6_output : GoodIn wsX6_findApart (va_wsS RX6 128 yX6_output wsX6_output) := goodIn_app (goodIn_of _ (by decide +kernel)) ggX6_findApart_X6_output
set_option maxRecDepth 20000 in
theorem ggX6_findApart_X6_tells : GoodIn wsX6_findApart wsX6_tells := goodIn_r _ [15, 3, 16, 7, 20, 21, 22, 23, 24, 25, 26, 27, 28, 29, 30, 31, 32, 33, 34, 35, 36, 37, 38, 39, 40, 41] (by decide +kernel) (by decide +kernel)
set_option maxRecDepth 20000 in
theorem gX6_findApart_X6_tells : GoodIn wsX6_findApart (wsV RX6 132 RX6 yX6_tells wsX6_tells) := goodIn_app (goodIn_of _ (by decide +kernel)) ggX6_findApart_X6_tells
set_option maxRecDepth 20000 in
theorem ggX6_findApart_X6_next : GoodIn wsX6_findApart wsX6_next := goodIn_r _ [19] (by decide +kernel) (by decide +kernel)
set_option maxRecDepth 20000 in
theorem gX6_findApart_X6_next : GoodIn wsX6_findApart (va_wsS RX6 135 yX6_next wsX6_next) := goodIn_app (goodIn_of _ (by decide +kernel)) ggX6_findApart_X6_next
theorem dX6_findApart_0 : decode cX6_findApart 0 = .ok (.iconst 0, 1) := by decide +kernel
theorem dX6_findApart_1 : decode cX6_findApart 1 = .ok (.istore_n 1, 1) := by decide +kernel
theorem dX6_findApart_2 : decode cX6_findApart 2 = .ok (.iload_n 1, 1) := by decide +kernel
theorem dX6_findApart_3 : decode cX6_findApart 3 = .ok (.bipush 81, 2) := by decide +kernel
theorem dX6_findApart_5 : decode cX6_findApart 5 = .ok (.if_icmp .ge 24, 3) := by decide +kernel
theorem dX6_findApart_8 : decode cX6_findApart 8 = .ok (.aload_n 0, 1) := by decide +kernel
theorem dX6_findApart_9 : decode cX6_findApart 9 = .ok (.getfield 44, 3) := by decide +kernel
theorem dX6_findApart_12 : decode cX6_findApart 12 = .ok (.iload_n 1, 1) := by decide +kernel
theorem dX6_findApart_13 : decode cX6_findApart 13 = .ok (.iload_n 1, 1) := by decide +kernel
theorem dX6_findApart_14 : decode cX6_findApart 14 = .ok (.ifCond .ne 7, 3) := by decide +kernel
theorem dX6_findApart_17 : decode cX6_findApart 17 = .ok (.iconst 1, 1) := by decide +kernel
theorem dX6_findApart_18 : decode cX6_findApart 18 = .ok (.goto 4, 3) := by decide +kernel
theorem dX6_findApart_21 : decode cX6_findApart 21 = .ok (.iconst 0, 1) := by decide +kernel
theorem dX6_findApart_22 : decode cX6_findApart 22 = .ok (.bastore, 1) := by decide +kernel
theorem dX6_findApart_23 : decode cX6_findApart 23 = .ok (.iinc 1 1, 3) := by decide +kernel
theorem dX6_findApart_26 : decode cX6_findApart 26 = .ok (.goto (-24), 3) := by decide +kernel
theorem dX6_findApart_29 : decode cX6_findApart 29 = .ok (.aload_n 0, 1) := by decide +kernel
theorem dX6_findApart_30 : decode cX6_findApart 30 = .ok (.getfield 35, 3) := by decide +kernel
theorem dX6_findApart_33 : decode cX6_findApart 33 = .ok (.iconst 0, 1) := by decide +kernel
theorem dX6_findApart_34 : decode cX6_findApart 34 = .ok (.iconst 0, 1) := by decide +kernel
theorem dX6_findApart_35 : decode cX6_findApart 35 = .ok (.iastore, 1) := by decide +kernel
theorem dX6_findApart_36 : decode cX6_findApart 36 = .ok (.aload_n 0, 1) := by decide +kernel
theorem dX6_findApart_37 : decode cX6_findApart 37 = .ok (.getfield 38, 3) := by decide +kernel
theorem dX6_findApart_40 : decode cX6_findApart 40 = .ok (.iconst 0, 1) := by decide +kernel
theorem dX6_findApart_41 : decode cX6_findApart 41 = .ok (.iconst (-1), 1) := by decide +kernel
theorem dX6_findApart_42 : decode cX6_findApart 42 = .ok (.iastore, 1) := by decide +kernel
theorem dX6_findApart_43 : decode cX6_findApart 43 = .ok (.iconst 1, 1) := by decide +kernel
theorem dX6_findApart_44 : decode cX6_findApart 44 = .ok (.istore_n 1, 1) := by decide +kernel
theorem dX6_findApart_45 : decode cX6_findApart 45 = .ok (.iconst 0, 1) := by decide +kernel
theorem dX6_findApart_46 : decode cX6_findApart 46 = .ok (.istore_n 2, 1) := by decide +kernel
theorem dX6_findApart_47 : decode cX6_findApart 47 = .ok (.iload_n 2, 1) := by decide +kernel
theorem dX6_findApart_48 : decode cX6_findApart 48 = .ok (.iload_n 1, 1) := by decide +kernel
theorem dX6_findApart_49 : decode cX6_findApart 49 = .ok (.if_icmp .ge 153, 3) := by decide +kernel
theorem dX6_findApart_52 : decode cX6_findApart 52 = .ok (.aload_n 0, 1) := by decide +kernel
theorem dX6_findApart_53 : decode cX6_findApart 53 = .ok (.getfield 35, 3) := by decide +kernel
theorem dX6_findApart_56 : decode cX6_findApart 56 = .ok (.iload_n 2, 1) := by decide +kernel
theorem dX6_findApart_57 : decode cX6_findApart 57 = .ok (.iaload, 1) := by decide +kernel
theorem dX6_findApart_58 : decode cX6_findApart 58 = .ok (.bipush 9, 2) := by decide +kernel
theorem dX6_findApart_60 : decode cX6_findApart 60 = .ok (.idiv, 1) := by decide +kernel
theorem dX6_findApart_61 : decode cX6_findApart 61 = .ok (.istore_n 3, 1) := by decide +kernel
theorem dX6_findApart_62 : decode cX6_findApart 62 = .ok (.aload_n 0, 1) := by decide +kernel
theorem dX6_findApart_63 : decode cX6_findApart 63 = .ok (.getfield 35, 3) := by decide +kernel
theorem dX6_findApart_66 : decode cX6_findApart 66 = .ok (.iload_n 2, 1) := by decide +kernel
theorem dX6_findApart_67 : decode cX6_findApart 67 = .ok (.iaload, 1) := by decide +kernel
theorem dX6_findApart_68 : decode cX6_findApart 68 = .ok (.bipush 9, 2) := by decide +kernel
theorem dX6_findApart_70 : decode cX6_findApart 70 = .ok (.irem, 1) := by decide +kernel
theorem dX6_findApart_71 : decode cX6_findApart 71 = .ok (.istore 4, 2) := by decide +kernel
theorem dX6_findApart_73 : decode cX6_findApart 73 = .ok (.iconst 0, 1) := by decide +kernel
theorem dX6_findApart_74 : decode cX6_findApart 74 = .ok (.istore 5, 2) := by decide +kernel
theorem dX6_findApart_76 : decode cX6_findApart 76 = .ok (.iload 5, 2) := by decide +kernel
theorem dX6_findApart_78 : decode cX6_findApart 78 = .ok (.aload_n 0, 1) := by decide +kernel
theorem dX6_findApart_79 : decode cX6_findApart 79 = .ok (.getfield 7, 3) := by decide +kernel
theorem dX6_findApart_82 : decode cX6_findApart 82 = .ok (.iconst 1, 1) := by decide +kernel
theorem dX6_findApart_83 : decode cX6_findApart 83 = .ok (.iaload, 1) := by decide +kernel
theorem dX6_findApart_84 : decode cX6_findApart 84 = .ok (.if_icmp .ge 112, 3) := by decide +kernel
theorem dX6_findApart_87 : decode cX6_findApart 87 = .ok (.aload_n 0, 1) := by decide +kernel
theorem dX6_findApart_88 : decode cX6_findApart 88 = .ok (.getfield 29, 3) := by decide +kernel
theorem dX6_findApart_91 : decode cX6_findApart 91 = .ok (.iload_n 3, 1) := by decide +kernel
theorem dX6_findApart_92 : decode cX6_findApart 92 = .ok (.iload 5, 2) := by decide +kernel
theorem dX6_findApart_94 : decode cX6_findApart 94 = .ok (.invokestatic 128, 3) := by decide +kernel
theorem dX6_findApart_97 : decode cX6_findApart 97 = .ok (.aload_n 0, 1) := by decide +kernel
theorem dX6_findApart_98 : decode cX6_findApart 98 = .ok (.getfield 32, 3) := by decide +kernel
theorem dX6_findApart_101 : decode cX6_findApart 101 = .ok (.iload 4, 2) := by decide +kernel
theorem dX6_findApart_103 : decode cX6_findApart 103 = .ok (.iload 5, 2) := by decide +kernel
theorem dX6_findApart_105 : decode cX6_findApart 105 = .ok (.invokestatic 128, 3) := by decide +kernel
theorem dX6_findApart_108 : decode cX6_findApart 108 = .ok (.if_icmp .eq 11, 3) := by decide +kernel
theorem dX6_findApart_111 : decode cX6_findApart 111 = .ok (.aload_n 0, 1) := by decide +kernel
theorem dX6_findApart_112 : decode cX6_findApart 112 = .ok (.iload_n 2, 1) := by decide +kernel
theorem dX6_findApart_113 : decode cX6_findApart 113 = .ok (.iload 5, 2) := by decide +kernel
theorem dX6_findApart_115 : decode cX6_findApart 115 = .ok (.invokevirtual 132, 3) := by decide +kernel
theorem dX6_findApart_118 : decode cX6_findApart 118 = .ok (.ireturn, 1) := by decide +kernel
theorem dX6_findApart_119 : decode cX6_findApart 119 = .ok (.bipush 9, 2) := by decide +kernel
theorem dX6_findApart_121 : decode cX6_findApart 121 = .ok (.aload_n 0, 1) := by decide +kernel
theorem dX6_findApart_122 : decode cX6_findApart 122 = .ok (.getfield 29, 3) := by decide +kernel
theorem dX6_findApart_125 : decode cX6_findApart 125 = .ok (.iload_n 3, 1) := by decide +kernel
theorem dX6_findApart_126 : decode cX6_findApart 126 = .ok (.iload 5, 2) := by decide +kernel
theorem dX6_findApart_128 : decode cX6_findApart 128 = .ok (.invokestatic 135, 3) := by decide +kernel
theorem dX6_findApart_131 : decode cX6_findApart 131 = .ok (.imul, 1) := by decide +kernel
theorem dX6_findApart_132 : decode cX6_findApart 132 = .ok (.aload_n 0, 1) := by decide +kernel
theorem dX6_findApart_133 : decode cX6_findApart 133 = .ok (.getfield 32, 3) := by decide +kernel
theorem dX6_findApart_136 : decode cX6_findApart 136 = .ok (.iload 4, 2) := by decide +kernel
theorem dX6_findApart_138 : decode cX6_findApart 138 = .ok (.iload 5, 2) := by decide +kernel
theorem dX6_findApart_140 : decode cX6_findApart 140 = .ok (.invokestatic 135, 3) := by decide +kernel
theorem dX6_findApart_143 : decode cX6_findApart 143 = .ok (.iadd, 1) := by decide +kernel
theorem dX6_findApart_144 : decode cX6_findApart 144 = .ok (.istore 6, 2) := by decide +kernel
theorem dX6_findApart_146 : decode cX6_findApart 146 = .ok (.aload_n 0, 1) := by decide +kernel
theorem dX6_findApart_147 : decode cX6_findApart 147 = .ok (.getfield 44, 3) := by decide +kernel
theorem dX6_findApart_150 : decode cX6_findApart 150 = .ok (.iload 6, 2) := by decide +kernel
theorem dX6_findApart_152 : decode cX6_findApart 152 = .ok (.baload, 1) := by decide +kernel
theorem dX6_findApart_153 : decode cX6_findApart 153 = .ok (.ifCond .ne 37, 3) := by decide +kernel
theorem dX6_findApart_156 : decode cX6_findApart 156 = .ok (.aload_n 0, 1) := by decide +kernel
theorem dX6_findApart_157 : decode cX6_findApart 157 = .ok (.getfield 44, 3) := by decide +kernel
theorem dX6_findApart_160 : decode cX6_findApart 160 = .ok (.iload 6, 2) := by decide +kernel
theorem dX6_findApart_162 : decode cX6_findApart 162 = .ok (.iconst 1, 1) := by decide +kernel
theorem dX6_findApart_163 : decode cX6_findApart 163 = .ok (.bastore, 1) := by decide +kernel
theorem dX6_findApart_164 : decode cX6_findApart 164 = .ok (.aload_n 0, 1) := by decide +kernel
theorem dX6_findApart_165 : decode cX6_findApart 165 = .ok (.getfield 35, 3) := by decide +kernel
theorem dX6_findApart_168 : decode cX6_findApart 168 = .ok (.iload_n 1, 1) := by decide +kernel
theorem dX6_findApart_169 : decode cX6_findApart 169 = .ok (.iload 6, 2) := by decide +kernel
theorem dX6_findApart_171 : decode cX6_findApart 171 = .ok (.iastore, 1) := by decide +kernel
theorem dX6_findApart_172 : decode cX6_findApart 172 = .ok (.aload_n 0, 1) := by decide +kernel
theorem dX6_findApart_173 : decode cX6_findApart 173 = .ok (.getfield 38, 3) := by decide +kernel
theorem dX6_findApart_176 : decode cX6_findApart 176 = .ok (.iload_n 1, 1) := by decide +kernel
theorem dX6_findApart_177 : decode cX6_findApart 177 = .ok (.iload_n 2, 1) := by decide +kernel
theorem dX6_findApart_178 : decode cX6_findApart 178 = .ok (.iastore, 1) := by decide +kernel
theorem dX6_findApart_179 : decode cX6_findApart 179 = .ok (.aload_n 0, 1) := by decide +kernel
theorem dX6_findApart_180 : decode cX6_findApart 180 = .ok (.getfield 41, 3) := by decide +kernel
theorem dX6_findApart_183 : decode cX6_findApart 183 = .ok (.iload_n 1, 1) := by decide +kernel
theorem dX6_findApart_184 : decode cX6_findApart 184 = .ok (.iload 5, 2) := by decide +kernel
theorem dX6_findApart_186 : decode cX6_findApart 186 = .ok (.iastore, 1) := by decide +kernel
theorem dX6_findApart_187 : decode cX6_findApart 187 = .ok (.iinc 1 1, 3) := by decide +kernel
theorem dX6_findApart_190 : decode cX6_findApart 190 = .ok (.iinc 5 1, 3) := by decide +kernel
theorem dX6_findApart_193 : decode cX6_findApart 193 = .ok (.goto (-117), 3) := by decide +kernel
theorem dX6_findApart_196 : decode cX6_findApart 196 = .ok (.iinc 2 1, 3) := by decide +kernel
theorem dX6_findApart_199 : decode cX6_findApart 199 = .ok (.goto (-152), 3) := by decide +kernel
theorem dX6_findApart_202 : decode cX6_findApart 202 = .ok (.iconst 0, 1) := by decide +kernel
theorem dX6_findApart_203 : decode cX6_findApart 203 = .ok (.ireturn, 1) := by decide +kernel
theorem dX6_tells_0 : decode cX6_tells 0 = .ok (.iconst 1, 1) := by decide +kernel
theorem dX6_tells_1 : decode cX6_tells 1 = .ok (.istore_n 3, 1) := by decide +kernel
theorem dX6_tells_2 : decode cX6_tells 2 = .ok (.iload_n 1, 1) := by decide +kernel
theorem dX6_tells_3 : decode cX6_tells 3 = .ok (.istore 4, 2) := by decide +kernel
theorem dX6_tells_5 : decode cX6_tells 5 = .ok (.iload 4, 2) := by decide +kernel
theorem dX6_tells_7 : decode cX6_tells 7 = .ok (.ifCond .le 18, 3) := by decide +kernel
theorem dX6_tells_10 : decode cX6_tells 10 = .ok (.iinc 3 1, 3) := by decide +kernel
theorem dX6_tells_13 : decode cX6_tells 13 = .ok (.aload_n 0, 1) := by decide +kernel
theorem dX6_tells_14 : decode cX6_tells 14 = .ok (.getfield 38, 3) := by decide +kernel
theorem dX6_tells_17 : decode cX6_tells 17 = .ok (.iload 4, 2) := by decide +kernel
theorem dX6_tells_19 : decode cX6_tells 19 = .ok (.iaload, 1) := by decide +kernel
theorem dX6_tells_20 : decode cX6_tells 20 = .ok (.istore 4, 2) := by decide +kernel
theorem dX6_tells_22 : decode cX6_tells 22 = .ok (.goto (-17), 3) := by decide +kernel
theorem dX6_tells_25 : decode cX6_tells 25 = .ok (.aload_n 0, 1) := by decide +kernel
theorem dX6_tells_26 : decode cX6_tells 26 = .ok (.getfield 47, 3) := by decide +kernel
theorem dX6_tells_29 : decode cX6_tells 29 = .ok (.iload_n 3, 1) := by decide +kernel
theorem dX6_tells_30 : decode cX6_tells 30 = .ok (.iconst 1, 1) := by decide +kernel
theorem dX6_tells_31 : decode cX6_tells 31 = .ok (.isub, 1) := by decide +kernel
theorem dX6_tells_32 : decode cX6_tells 32 = .ok (.iload_n 2, 1) := by decide +kernel
theorem dX6_tells_33 : decode cX6_tells 33 = .ok (.iastore, 1) := by decide +kernel
theorem dX6_tells_34 : decode cX6_tells 34 = .ok (.iload_n 3, 1) := by decide +kernel
theorem dX6_tells_35 : decode cX6_tells 35 = .ok (.iconst 2, 1) := by decide +kernel
theorem dX6_tells_36 : decode cX6_tells 36 = .ok (.isub, 1) := by decide +kernel
theorem dX6_tells_37 : decode cX6_tells 37 = .ok (.istore 4, 2) := by decide +kernel
theorem dX6_tells_39 : decode cX6_tells 39 = .ok (.iload_n 1, 1) := by decide +kernel
theorem dX6_tells_40 : decode cX6_tells 40 = .ok (.istore 5, 2) := by decide +kernel
theorem dX6_tells_42 : decode cX6_tells 42 = .ok (.iload 5, 2) := by decide +kernel
theorem dX6_tells_44 : decode cX6_tells 44 = .ok (.ifCond .le 32, 3) := by decide +kernel
theorem dX6_tells_47 : decode cX6_tells 47 = .ok (.aload_n 0, 1) := by decide +kernel
theorem dX6_tells_48 : decode cX6_tells 48 = .ok (.getfield 47, 3) := by decide +kernel
theorem dX6_tells_51 : decode cX6_tells 51 = .ok (.iload 4, 2) := by decide +kernel
theorem dX6_tells_53 : decode cX6_tells 53 = .ok (.aload_n 0, 1) := by decide +kernel
theorem dX6_tells_54 : decode cX6_tells 54 = .ok (.getfield 41, 3) := by decide +kernel
theorem dX6_tells_57 : decode cX6_tells 57 = .ok (.iload 5, 2) := by decide +kernel
theorem dX6_tells_59 : decode cX6_tells 59 = .ok (.iaload, 1) := by decide +kernel
theorem dX6_tells_60 : decode cX6_tells 60 = .ok (.iastore, 1) := by decide +kernel
theorem dX6_tells_61 : decode cX6_tells 61 = .ok (.iinc 4 (-1), 3) := by decide +kernel
theorem dX6_tells_64 : decode cX6_tells 64 = .ok (.aload_n 0, 1) := by decide +kernel
theorem dX6_tells_65 : decode cX6_tells 65 = .ok (.getfield 38, 3) := by decide +kernel
theorem dX6_tells_68 : decode cX6_tells 68 = .ok (.iload 5, 2) := by decide +kernel
theorem dX6_tells_70 : decode cX6_tells 70 = .ok (.iaload, 1) := by decide +kernel
theorem dX6_tells_71 : decode cX6_tells 71 = .ok (.istore 5, 2) := by decide +kernel
theorem dX6_tells_73 : decode cX6_tells 73 = .ok (.goto (-31), 3) := by decide +kernel
theorem dX6_tells_76 : decode cX6_tells 76 = .ok (.iload_n 3, 1) := by decide +kernel
theorem dX6_tells_77 : decode cX6_tells 77 = .ok (.ireturn, 1) := by decide +kernel
set_option maxRecDepth 20000 in
theorem ggX6_findWitness_X6_base : GoodIn wsX6_findWitness wsX6_base := goodIn_r _ [7, 8, 35, 36, 37, 38, 39, 40, 41, 42, 43, 44, 45, 46, 47, 48, 49, 50, 51, 52, 53, 54, 55, 56] (by decide +kernel) (by decide +kernel)
set_option maxRecDepth 20000 in
theorem gX6_findWitness_X6_base : GoodIn wsX6_findWitness (wsV RX6 138 RX6 yX6_base wsX6_base) := goodIn_app (goodIn_of _ (by decide +kernel)) ggX6_findWitness_X6_base
set_option maxRecDepth 20000 in
theorem ggX6_findWitness_X6_putsOn : GoodIn wsX6_findWitness wsX6_putsOn := goodIn_r _ [12, 8, 13, 14, 6, 15, 35, 36, 37, 38, 39, 40, 41, 42, 43, 44, 45, 46, 47, 48, 49, 50, 51, 52, 53, 54, 55, 56] (by decide +kernel) (by decide +kernel)
set_option maxRecDepth 20000 in
theorem gX6_findWitness_X6_putsOn : GoodIn wsX6_findWitness (wsV RX6 142 RX6 yX6_putsOn wsX6_putsOn) := goodIn_app (goodIn_of _ (by decide +kernel)) ggX6_findWitness_X6_putsOn
set_option maxRecDepth 20000 in
theorem ggX6_findWitness_X6_findApart : GoodIn wsX6_findWitness wsX6_findApart := goodIn_r _ [19, 20, 21, 22, 8, 1, 2, 23, 24, 25, 6, 26, 27, 28, 29, 30, 31, 32, 33, 34, 35, 36, 37, 38, 39, 40, 41, 42, 43, 44, 45, 46, 47, 48, 49, 50, 51, 52, 53, 54, 55, 56] (by decide +kernel) (by decide +kernel)
set_option maxRecDepth 20000 in
theorem gX6_findWitness_X6_findApart : GoodIn wsX6_findWitness (wsV RX6 146 RX6 yX6_findApart wsX6_findApart) := goodIn_app (goodIn_of _ (by decide +kernel)) ggX6_findWitness_X6_findApart
theorem dX6_findWitness_0 : decode cX6_findWitness 0 = .ok (.aload_n 0, 1) := by decide +kernel
theorem dX6_findWitness_1 : decode cX6_findWitness 1 = .ok (.aload_n 0, 1) := by decide +kernel
theorem dX6_findWitness_2 : decode cX6_findWitness 2 = .ok (.getfield 29, 3) := by decide +kernel
theorem dX6_findWitness_5 : decode cX6_findWitness 5 = .ok (.invokevirtual 138, 3) := by decide +kernel
theorem dX6_findWitness_8 : decode cX6_findWitness 8 = .ok (.aload_n 0, 1) := by decide +kernel
theorem dX6_findWitness_9 : decode cX6_findWitness 9 = .ok (.aload_n 0, 1) := by decide +kernel
theorem dX6_findWitness_10 : decode cX6_findWitness 10 = .ok (.getfield 29, 3) := by decide +kernel
theorem dX6_findWitness_13 : decode cX6_findWitness 13 = .ok (.iload_n 1, 1) := by decide +kernel
theorem dX6_findWitness_14 : decode cX6_findWitness 14 = .ok (.invokevirtual 142, 3) := by decide +kernel
theorem dX6_findWitness_17 : decode cX6_findWitness 17 = .ok (.aload_n 0, 1) := by decide +kernel
theorem dX6_findWitness_18 : decode cX6_findWitness 18 = .ok (.aload_n 0, 1) := by decide +kernel
theorem dX6_findWitness_19 : decode cX6_findWitness 19 = .ok (.getfield 29, 3) := by decide +kernel
theorem dX6_findWitness_22 : decode cX6_findWitness 22 = .ok (.iload_n 2, 1) := by decide +kernel
theorem dX6_findWitness_23 : decode cX6_findWitness 23 = .ok (.invokevirtual 142, 3) := by decide +kernel
theorem dX6_findWitness_26 : decode cX6_findWitness 26 = .ok (.aload_n 0, 1) := by decide +kernel
theorem dX6_findWitness_27 : decode cX6_findWitness 27 = .ok (.aload_n 0, 1) := by decide +kernel
theorem dX6_findWitness_28 : decode cX6_findWitness 28 = .ok (.getfield 32, 3) := by decide +kernel
theorem dX6_findWitness_31 : decode cX6_findWitness 31 = .ok (.invokevirtual 138, 3) := by decide +kernel
theorem dX6_findWitness_34 : decode cX6_findWitness 34 = .ok (.aload_n 0, 1) := by decide +kernel
theorem dX6_findWitness_35 : decode cX6_findWitness 35 = .ok (.aload_n 0, 1) := by decide +kernel
theorem dX6_findWitness_36 : decode cX6_findWitness 36 = .ok (.getfield 32, 3) := by decide +kernel
theorem dX6_findWitness_39 : decode cX6_findWitness 39 = .ok (.iload_n 2, 1) := by decide +kernel
theorem dX6_findWitness_40 : decode cX6_findWitness 40 = .ok (.invokevirtual 142, 3) := by decide +kernel
theorem dX6_findWitness_43 : decode cX6_findWitness 43 = .ok (.aload_n 0, 1) := by decide +kernel
theorem dX6_findWitness_44 : decode cX6_findWitness 44 = .ok (.aload_n 0, 1) := by decide +kernel
theorem dX6_findWitness_45 : decode cX6_findWitness 45 = .ok (.getfield 32, 3) := by decide +kernel
theorem dX6_findWitness_48 : decode cX6_findWitness 48 = .ok (.iload_n 1, 1) := by decide +kernel
theorem dX6_findWitness_49 : decode cX6_findWitness 49 = .ok (.invokevirtual 142, 3) := by decide +kernel
theorem dX6_findWitness_52 : decode cX6_findWitness 52 = .ok (.aload_n 0, 1) := by decide +kernel
theorem dX6_findWitness_53 : decode cX6_findWitness 53 = .ok (.invokevirtual 146, 3) := by decide +kernel
theorem dX6_findWitness_56 : decode cX6_findWitness 56 = .ok (.ireturn, 1) := by decide +kernel
set_option maxRecDepth 20000 in
theorem ggX6_isPair_X6_isFeature : GoodIn wsX6_isPair wsX6_isFeature := goodIn_r _ [5, 6, 7, 8, 4, 9, 10, 11, 12, 13, 14, 15, 16, 17, 18, 19, 20, 21, 22, 23, 24, 25, 26, 27, 28, 29, 30, 31] (by decide +kernel) (by decide +kernel)
set_option maxRecDepth 20000 in
theorem gX6_isPair_X6_isFeature : GoodIn wsX6_isPair (wsV RX6 92 RX6 yX6_isFeature wsX6_isFeature) := goodIn_app (goodIn_of _ (by decide +kernel)) ggX6_isPair_X6_isFeature
theorem dX6_isPair_0 : decode cX6_isPair 0 = .ok (.aload_n 0, 1) := by decide +kernel
theorem dX6_isPair_1 : decode cX6_isPair 1 = .ok (.iload_n 1, 1) := by decide +kernel
theorem dX6_isPair_2 : decode cX6_isPair 2 = .ok (.invokevirtual 92, 3) := by decide +kernel
theorem dX6_isPair_5 : decode cX6_isPair 5 = .ok (.ifCond .eq 20, 3) := by decide +kernel
theorem dX6_isPair_8 : decode cX6_isPair 8 = .ok (.aload_n 0, 1) := by decide +kernel
theorem dX6_isPair_9 : decode cX6_isPair 9 = .ok (.iload_n 2, 1) := by decide +kernel
theorem dX6_isPair_10 : decode cX6_isPair 10 = .ok (.invokevirtual 92, 3) := by decide +kernel
theorem dX6_isPair_13 : decode cX6_isPair 13 = .ok (.ifCond .eq 12, 3) := by decide +kernel
theorem dX6_isPair_16 : decode cX6_isPair 16 = .ok (.iload_n 1, 1) := by decide +kernel
theorem dX6_isPair_17 : decode cX6_isPair 17 = .ok (.iload_n 2, 1) := by decide +kernel
theorem dX6_isPair_18 : decode cX6_isPair 18 = .ok (.if_icmp .eq 7, 3) := by decide +kernel
theorem dX6_isPair_21 : decode cX6_isPair 21 = .ok (.iconst 1, 1) := by decide +kernel
theorem dX6_isPair_22 : decode cX6_isPair 22 = .ok (.goto 4, 3) := by decide +kernel
theorem dX6_isPair_25 : decode cX6_isPair 25 = .ok (.iconst 0, 1) := by decide +kernel
theorem dX6_isPair_26 : decode cX6_isPair 26 = .ok (.ireturn, 1) := by decide +kernel
set_option maxRecDepth 20000 in
theorem ggX6_clash_X6_isPair : GoodIn wsX6_clash wsX6_isPair := goodIn_r _ [5, 6, 7, 8, 4, 9, 10, 11, 12, 13, 50, 51, 52, 53, 54, 55, 56, 57, 58, 59, 60, 61, 62, 63, 64, 65, 66, 67, 68, 69, 70, 71] (by decide +kernel) (by decide +kernel)
set_option maxRecDepth 20000 in
theorem gX6_clash_X6_isPair : GoodIn wsX6_clash (wsV RX6 149 RX6 yX6_isPair wsX6_isPair) := goodIn_app (goodIn_of _ (by decide +kernel)) ggX6_clash_X6_isPair
set_option maxRecDepth 20000 in
theorem ggX6_clash_X6_findWitness : GoodIn wsX6_clash wsX6_findWitness := goodIn_r _ [17, 18, 19, 20, 21, 22, 4, 23, 10, 24, 25, 26, 27, 28, 29, 30, 31, 32, 33, 34, 35, 36, 37, 38, 39, 40, 41, 42, 43, 44, 45, 46, 47, 48, 49, 50, 51, 52, 53, 54, 55, 56, 57, 58, 59, 60, 61, 62, 63, 64, 65, 66, 67, 68, 69, 70, 71] (by decide +kernel) (by decide +kernel)
set_option maxRecDepth 20000 in
theorem gX6_clash_X6_findWitness : GoodIn wsX6_clash (wsV RX6 153 RX6 yX6_findWitness wsX6_findWitness) := goodIn_app (goodIn_of _ (by decide +kernel)) ggX6_clash_X6_findWitness
theorem dX6_clash_0 : decode cX6_clash 0 = .ok (.aload_n 0, 1) := by decide +kernel
theorem dX6_clash_1 : decode cX6_clash 1 = .ok (.iload_n 1, 1) := by decide +kernel
theorem dX6_clash_2 : decode cX6_clash 2 = .ok (.iload_n 2, 1) := by decide +kernel
theorem dX6_clash_3 : decode cX6_clash 3 = .ok (.invokevirtual 149, 3) := by decide +kernel
theorem dX6_clash_6 : decode cX6_clash 6 = .ok (.ifCond .ne 7, 3) := by decide +kernel
theorem dX6_clash_9 : decode cX6_clash 9 = .ok (.iconst (-1), 1) := by decide +kernel
theorem dX6_clash_10 : decode cX6_clash 10 = .ok (.goto 17, 3) := by decide +kernel
theorem dX6_clash_13 : decode cX6_clash 13 = .ok (.aload_n 0, 1) := by decide +kernel
theorem dX6_clash_14 : decode cX6_clash 14 = .ok (.iload_n 1, 1) := by decide +kernel
theorem dX6_clash_15 : decode cX6_clash 15 = .ok (.iload_n 2, 1) := by decide +kernel
theorem dX6_clash_16 : decode cX6_clash 16 = .ok (.invokevirtual 153, 3) := by decide +kernel
theorem dX6_clash_19 : decode cX6_clash 19 = .ok (.ifCond .le 7, 3) := by decide +kernel
theorem dX6_clash_22 : decode cX6_clash 22 = .ok (.iconst 1, 1) := by decide +kernel
theorem dX6_clash_23 : decode cX6_clash 23 = .ok (.goto 4, 3) := by decide +kernel
theorem dX6_clash_26 : decode cX6_clash 26 = .ok (.iconst 0, 1) := by decide +kernel
theorem dX6_clash_27 : decode cX6_clash 27 = .ok (.ireturn, 1) := by decide +kernel
set_option maxRecDepth 20000 in
theorem ggX6_witness_X6_isPair : GoodIn wsX6_witness wsX6_isPair := goodIn_r _ [6, 7, 8, 9, 5, 10, 11, 12, 13, 14, 50, 51, 52, 53, 54, 55, 56, 57, 58, 59, 60, 61, 62, 63, 64, 65, 66, 67, 68, 69, 70, 71] (by decide +kernel) (by decide +kernel)
set_option maxRecDepth 20000 in
theorem gX6_witness_X6_isPair : GoodIn wsX6_witness (wsV RX6 149 RX6 yX6_isPair wsX6_isPair) := goodIn_app (goodIn_of _ (by decide +kernel)) ggX6_witness_X6_isPair
set_option maxRecDepth 20000 in
theorem ggX6_witness_X6_findWitness : GoodIn wsX6_witness wsX6_findWitness := goodIn_r _ [18, 19, 20, 21, 22, 23, 5, 24, 11, 25, 26, 27, 28, 29, 30, 31, 32, 33, 34, 35, 36, 37, 38, 39, 40, 41, 42, 43, 44, 45, 46, 1, 47, 48, 49, 50, 51, 52, 53, 54, 55, 56, 57, 58, 59, 60, 61, 62, 63, 64, 65, 66, 67, 68, 69, 70, 71] (by decide +kernel) (by decide +kernel)
set_option maxRecDepth 20000 in
theorem gX6_witness_X6_findWitness : GoodIn wsX6_witness (wsV RX6 153 RX6 yX6_findWitness wsX6_findWitness) := goodIn_app (goodIn_of _ (by decide +kernel)) ggX6_witness_X6_findWitness
theorem dX6_witness_0 : decode cX6_witness 0 = .ok (.aload_n 0, 1) := by decide +kernel
theorem dX6_witness_1 : decode cX6_witness 1 = .ok (.iload_n 1, 1) := by decide +kernel
theorem dX6_witness_2 : decode cX6_witness 2 = .ok (.iload_n 2, 1) := by decide +kernel
theorem dX6_witness_3 : decode cX6_witness 3 = .ok (.invokevirtual 149, 3) := by decide +kernel
theorem dX6_witness_6 : decode cX6_witness 6 = .ok (.ifCond .eq 7, 3) := by decide +kernel
theorem dX6_witness_9 : decode cX6_witness 9 = .ok (.iload_n 3, 1) := by decide +kernel
theorem dX6_witness_10 : decode cX6_witness 10 = .ok (.ifCond .ge 5, 3) := by decide +kernel
theorem dX6_witness_13 : decode cX6_witness 13 = .ok (.iconst (-1), 1) := by decide +kernel
theorem dX6_witness_14 : decode cX6_witness 14 = .ok (.ireturn, 1) := by decide +kernel
theorem dX6_witness_15 : decode cX6_witness 15 = .ok (.aload_n 0, 1) := by decide +kernel
theorem dX6_witness_16 : decode cX6_witness 16 = .ok (.iload_n 1, 1) := by decide +kernel
theorem dX6_witness_17 : decode cX6_witness 17 = .ok (.iload_n 2, 1) := by decide +kernel
theorem dX6_witness_18 : decode cX6_witness 18 = .ok (.invokevirtual 153, 3) := by decide +kernel
theorem dX6_witness_21 : decode cX6_witness 21 = .ok (.istore 4, 2) := by decide +kernel
theorem dX6_witness_23 : decode cX6_witness 23 = .ok (.iload_n 3, 1) := by decide +kernel
theorem dX6_witness_24 : decode cX6_witness 24 = .ok (.iload 4, 2) := by decide +kernel
theorem dX6_witness_26 : decode cX6_witness 26 = .ok (.if_icmp .ge 12, 3) := by decide +kernel
theorem dX6_witness_29 : decode cX6_witness 29 = .ok (.aload_n 0, 1) := by decide +kernel
theorem dX6_witness_30 : decode cX6_witness 30 = .ok (.getfield 47, 3) := by decide +kernel
theorem dX6_witness_33 : decode cX6_witness 33 = .ok (.iload_n 3, 1) := by decide +kernel
theorem dX6_witness_34 : decode cX6_witness 34 = .ok (.iaload, 1) := by decide +kernel
theorem dX6_witness_35 : decode cX6_witness 35 = .ok (.goto 5, 3) := by decide +kernel
theorem dX6_witness_38 : decode cX6_witness 38 = .ok (.bipush (-5), 2) := by decide +kernel
theorem dX6_witness_40 : decode cX6_witness 40 = .ok (.ireturn, 1) := by decide +kernel
set_option maxRecDepth 20000 in
theorem ggX6_isOn_X6_at : GoodIn wsX6_isOn wsX6_at := goodIn_r _ [5] (by decide +kernel) (by decide +kernel)
set_option maxRecDepth 20000 in
theorem gX6_isOn_X6_at : GoodIn wsX6_isOn (va_wsS RX6 85 yX6_at wsX6_at) := goodIn_app (goodIn_of _ (by decide +kernel)) ggX6_isOn_X6_at
theorem dX6_isOn_0 : decode cX6_isOn 0 = .ok (.aload_n 0, 1) := by decide +kernel
theorem dX6_isOn_1 : decode cX6_isOn 1 = .ok (.getfield 7, 3) := by decide +kernel
theorem dX6_isOn_4 : decode cX6_isOn 4 = .ok (.iload_n 1, 1) := by decide +kernel
theorem dX6_isOn_5 : decode cX6_isOn 5 = .ok (.iconst 0, 1) := by decide +kernel
theorem dX6_isOn_6 : decode cX6_isOn 6 = .ok (.invokestatic 85, 3) := by decide +kernel
theorem dX6_isOn_9 : decode cX6_isOn 9 = .ok (.iaload, 1) := by decide +kernel
theorem dX6_isOn_10 : decode cX6_isOn 10 = .ok (.iconst 1, 1) := by decide +kernel
theorem dX6_isOn_11 : decode cX6_isOn 11 = .ok (.if_icmp .ne 7, 3) := by decide +kernel
theorem dX6_isOn_14 : decode cX6_isOn 14 = .ok (.iconst 1, 1) := by decide +kernel
theorem dX6_isOn_15 : decode cX6_isOn 15 = .ok (.goto 4, 3) := by decide +kernel
theorem dX6_isOn_18 : decode cX6_isOn 18 = .ok (.iconst 0, 1) := by decide +kernel
theorem dX6_isOn_19 : decode cX6_isOn 19 = .ok (.ireturn, 1) := by decide +kernel
set_option maxRecDepth 20000 in
theorem ggX6_clashesNow_X6_isOn : GoodIn wsX6_clashesNow wsX6_isOn := goodIn_r _ [6, 1, 7, 8, 5, 9, 43, 44, 45, 46, 47, 48, 49, 50, 51, 52, 53, 54, 55, 56, 57, 58, 59, 60, 61, 62, 63, 64] (by decide +kernel) (by decide +kernel)
set_option maxRecDepth 20000 in
theorem gX6_clashesNow_X6_isOn : GoodIn wsX6_clashesNow (wsV RX6 156 RX6 yX6_isOn wsX6_isOn) := goodIn_app (goodIn_of _ (by decide +kernel)) ggX6_clashesNow_X6_isOn
set_option maxRecDepth 20000 in
theorem ggX6_clashesNow_X6_findWitness : GoodIn wsX6_clashesNow wsX6_findWitness := goodIn_r _ [13, 14, 15, 16, 17, 18, 5, 19, 1, 20, 21, 22, 23, 7, 8, 9, 24, 25, 26, 27, 28, 29, 30, 31, 32, 33, 34, 35, 36, 37, 38, 39, 40, 41, 42, 43, 44, 45, 46, 47, 48, 49, 50, 51, 52, 53, 54, 55, 56, 57, 58, 59, 60, 61, 62, 63, 64] (by decide +kernel) (by decide +kernel)
set_option maxRecDepth 20000 in
theorem gX6_clashesNow_X6_findWitness : GoodIn wsX6_clashesNow (wsV RX6 153 RX6 yX6_findWitness wsX6_findWitness) := goodIn_app (goodIn_of _ (by decide +kernel)) ggX6_clashesNow_X6_findWitness
theorem dX6_clashesNow_0 : decode cX6_clashesNow 0 = .ok (.iconst 0, 1) := by decide +kernel
theorem dX6_clashesNow_1 : decode cX6_clashesNow 1 = .ok (.istore_n 1, 1) := by decide +kernel
theorem dX6_clashesNow_2 : decode cX6_clashesNow 2 = .ok (.iconst 0, 1) := by decide +kernel
theorem dX6_clashesNow_3 : decode cX6_clashesNow 3 = .ok (.istore_n 2, 1) := by decide +kernel
theorem dX6_clashesNow_4 : decode cX6_clashesNow 4 = .ok (.iload_n 2, 1) := by decide +kernel
theorem dX6_clashesNow_5 : decode cX6_clashesNow 5 = .ok (.aload_n 0, 1) := by decide +kernel
theorem dX6_clashesNow_6 : decode cX6_clashesNow 6 = .ok (.getfield 7, 3) := by decide +kernel
theorem dX6_clashesNow_9 : decode cX6_clashesNow 9 = .ok (.bipush 34, 2) := by decide +kernel
theorem dX6_clashesNow_11 : decode cX6_clashesNow 11 = .ok (.iaload, 1) := by decide +kernel
theorem dX6_clashesNow_12 : decode cX6_clashesNow 12 = .ok (.if_icmp .ge 55, 3) := by decide +kernel
theorem dX6_clashesNow_15 : decode cX6_clashesNow 15 = .ok (.iconst 0, 1) := by decide +kernel
theorem dX6_clashesNow_16 : decode cX6_clashesNow 16 = .ok (.istore_n 3, 1) := by decide +kernel
theorem dX6_clashesNow_17 : decode cX6_clashesNow 17 = .ok (.iload_n 3, 1) := by decide +kernel
theorem dX6_clashesNow_18 : decode cX6_clashesNow 18 = .ok (.iload_n 2, 1) := by decide +kernel
theorem dX6_clashesNow_19 : decode cX6_clashesNow 19 = .ok (.if_icmp .ge 42, 3) := by decide +kernel
theorem dX6_clashesNow_22 : decode cX6_clashesNow 22 = .ok (.iload_n 1, 1) := by decide +kernel
theorem dX6_clashesNow_23 : decode cX6_clashesNow 23 = .ok (.aload_n 0, 1) := by decide +kernel
theorem dX6_clashesNow_24 : decode cX6_clashesNow 24 = .ok (.iload_n 2, 1) := by decide +kernel
theorem dX6_clashesNow_25 : decode cX6_clashesNow 25 = .ok (.invokevirtual 156, 3) := by decide +kernel
theorem dX6_clashesNow_28 : decode cX6_clashesNow 28 = .ok (.ifCond .eq 24, 3) := by decide +kernel
theorem dX6_clashesNow_31 : decode cX6_clashesNow 31 = .ok (.aload_n 0, 1) := by decide +kernel
theorem dX6_clashesNow_32 : decode cX6_clashesNow 32 = .ok (.iload_n 3, 1) := by decide +kernel
theorem dX6_clashesNow_33 : decode cX6_clashesNow 33 = .ok (.invokevirtual 156, 3) := by decide +kernel
theorem dX6_clashesNow_36 : decode cX6_clashesNow 36 = .ok (.ifCond .eq 16, 3) := by decide +kernel
theorem dX6_clashesNow_39 : decode cX6_clashesNow 39 = .ok (.aload_n 0, 1) := by decide +kernel
theorem dX6_clashesNow_40 : decode cX6_clashesNow 40 = .ok (.iload_n 3, 1) := by decide +kernel
theorem dX6_clashesNow_41 : decode cX6_clashesNow 41 = .ok (.iload_n 2, 1) := by decide +kernel
theorem dX6_clashesNow_42 : decode cX6_clashesNow 42 = .ok (.invokevirtual 153, 3) := by decide +kernel
theorem dX6_clashesNow_45 : decode cX6_clashesNow 45 = .ok (.ifCond .le 7, 3) := by decide +kernel
theorem dX6_clashesNow_48 : decode cX6_clashesNow 48 = .ok (.iconst 1, 1) := by decide +kernel
theorem dX6_clashesNow_49 : decode cX6_clashesNow 49 = .ok (.goto 4, 3) := by decide +kernel
theorem dX6_clashesNow_52 : decode cX6_clashesNow 52 = .ok (.iconst 0, 1) := by decide +kernel
theorem dX6_clashesNow_53 : decode cX6_clashesNow 53 = .ok (.iadd, 1) := by decide +kernel
theorem dX6_clashesNow_54 : decode cX6_clashesNow 54 = .ok (.istore_n 1, 1) := by decide +kernel
theorem dX6_clashesNow_55 : decode cX6_clashesNow 55 = .ok (.iinc 3 1, 3) := by decide +kernel
theorem dX6_clashesNow_58 : decode cX6_clashesNow 58 = .ok (.goto (-41), 3) := by decide +kernel
theorem dX6_clashesNow_61 : decode cX6_clashesNow 61 = .ok (.iinc 2 1, 3) := by decide +kernel
theorem dX6_clashesNow_64 : decode cX6_clashesNow 64 = .ok (.goto (-60), 3) := by decide +kernel
theorem dX6_clashesNow_67 : decode cX6_clashesNow 67 = .ok (.iload_n 1, 1) := by decide +kernel
theorem dX6_clashesNow_68 : decode cX6_clashesNow 68 = .ok (.ireturn, 1) := by decide +kernel
set_option maxRecDepth 20000 in
theorem ggX6_clashes_X6_clashesNow : GoodIn wsX6_clashes wsX6_clashesNow := goodIn_r _ [5, 6, 7, 8, 9, 4, 10, 11, 12, 13, 14, 15, 16, 17, 18, 19, 20, 21, 22, 23, 24, 25, 26, 27, 28, 29, 30, 31, 32, 33, 34, 35, 36, 37, 38, 39, 40, 41, 42, 43, 44, 45, 46, 47, 48, 49, 50, 51, 52, 53, 54, 55, 56, 57, 58, 59, 60, 61, 62, 63, 64, 65, 66, 67, 68] (by decide +kernel) (by decide +kernel)
set_option maxRecDepth 20000 in
theorem gX6_clashes_X6_clashesNow : GoodIn wsX6_clashes (wsV RX6 159 RX6 yX6_clashesNow wsX6_clashesNow) := goodIn_app (goodIn_of _ (by decide +kernel)) ggX6_clashes_X6_clashesNow
theorem dX6_clashes_0 : decode cX6_clashes 0 = .ok (.aload_n 0, 1) := by decide +kernel
theorem dX6_clashes_1 : decode cX6_clashes 1 = .ok (.invokevirtual 159, 3) := by decide +kernel
theorem dX6_clashes_4 : decode cX6_clashes 4 = .ok (.ireturn, 1) := by decide +kernel
set_option maxRecDepth 20000 in
theorem ggX6_findThose_X6_isOn : GoodIn wsX6_findThose wsX6_isOn := goodIn_r _ [8, 2, 9, 10, 7, 11, 12, 13, 14, 15, 16, 17, 18, 19, 20, 21, 22, 23, 24, 25, 26, 27, 28, 29, 30, 31, 32, 33] (by decide +kernel) (by decide +kernel)
set_option maxRecDepth 20000 in
theorem gX6_findThose_X6_isOn : GoodIn wsX6_findThose (wsV RX6 156 RX6 yX6_isOn wsX6_isOn) := goodIn_app (goodIn_of _ (by decide +kernel)) ggX6_findThose_X6_isOn
theorem dX6_findThose_0 : decode cX6_findThose 0 = .ok (.aload_n 0, 1) := by decide +kernel
theorem dX6_findThose_1 : decode cX6_findThose 1 = .ok (.iconst 0, 1) := by decide +kernel
theorem dX6_findThose_2 : decode cX6_findThose 2 = .ok (.putfield 162, 3) := by decide +kernel
theorem dX6_findThose_5 : decode cX6_findThose 5 = .ok (.iconst 1, 1) := by decide +kernel
theorem dX6_findThose_6 : decode cX6_findThose 6 = .ok (.istore_n 1, 1) := by decide +kernel
theorem dX6_findThose_7 : decode cX6_findThose 7 = .ok (.iconst 0, 1) := by decide +kernel
theorem dX6_findThose_8 : decode cX6_findThose 8 = .ok (.istore_n 2, 1) := by decide +kernel
theorem dX6_findThose_9 : decode cX6_findThose 9 = .ok (.iload_n 2, 1) := by decide +kernel
theorem dX6_findThose_10 : decode cX6_findThose 10 = .ok (.aload_n 0, 1) := by decide +kernel
theorem dX6_findThose_11 : decode cX6_findThose 11 = .ok (.getfield 7, 3) := by decide +kernel
theorem dX6_findThose_14 : decode cX6_findThose 14 = .ok (.bipush 34, 2) := by decide +kernel
theorem dX6_findThose_16 : decode cX6_findThose 16 = .ok (.iaload, 1) := by decide +kernel
theorem dX6_findThose_17 : decode cX6_findThose 17 = .ok (.if_icmp .ge 44, 3) := by decide +kernel
theorem dX6_findThose_20 : decode cX6_findThose 20 = .ok (.aload_n 0, 1) := by decide +kernel
theorem dX6_findThose_21 : decode cX6_findThose 21 = .ok (.iload_n 2, 1) := by decide +kernel
theorem dX6_findThose_22 : decode cX6_findThose 22 = .ok (.invokevirtual 156, 3) := by decide +kernel
theorem dX6_findThose_25 : decode cX6_findThose 25 = .ok (.ifCond .eq 30, 3) := by decide +kernel
theorem dX6_findThose_28 : decode cX6_findThose 28 = .ok (.aload_n 0, 1) := by decide +kernel
theorem dX6_findThose_29 : decode cX6_findThose 29 = .ok (.getfield 50, 3) := by decide +kernel
theorem dX6_findThose_32 : decode cX6_findThose 32 = .ok (.aload_n 0, 1) := by decide +kernel
theorem dX6_findThose_33 : decode cX6_findThose 33 = .ok (.getfield 162, 3) := by decide +kernel
theorem dX6_findThose_36 : decode cX6_findThose 36 = .ok (.iload_n 2, 1) := by decide +kernel
theorem dX6_findThose_37 : decode cX6_findThose 37 = .ok (.iastore, 1) := by decide +kernel
theorem dX6_findThose_38 : decode cX6_findThose 38 = .ok (.aload_n 0, 1) := by decide +kernel
theorem dX6_findThose_39 : decode cX6_findThose 39 = .ok (.dup, 1) := by decide +kernel
theorem dX6_findThose_40 : decode cX6_findThose 40 = .ok (.getfield 162, 3) := by decide +kernel
theorem dX6_findThose_43 : decode cX6_findThose 43 = .ok (.iconst 1, 1) := by decide +kernel
theorem dX6_findThose_44 : decode cX6_findThose 44 = .ok (.iadd, 1) := by decide +kernel
theorem dX6_findThose_45 : decode cX6_findThose 45 = .ok (.putfield 162, 3) := by decide +kernel
theorem dX6_findThose_48 : decode cX6_findThose 48 = .ok (.iload_n 1, 1) := by decide +kernel
theorem dX6_findThose_49 : decode cX6_findThose 49 = .ok (.aload_n 0, 1) := by decide +kernel
theorem dX6_findThose_50 : decode cX6_findThose 50 = .ok (.getfield 162, 3) := by decide +kernel
theorem dX6_findThose_53 : decode cX6_findThose 53 = .ok (.imul, 1) := by decide +kernel
theorem dX6_findThose_54 : decode cX6_findThose 54 = .ok (.istore_n 1, 1) := by decide +kernel
theorem dX6_findThose_55 : decode cX6_findThose 55 = .ok (.iinc 2 1, 3) := by decide +kernel
theorem dX6_findThose_58 : decode cX6_findThose 58 = .ok (.goto (-49), 3) := by decide +kernel
theorem dX6_findThose_61 : decode cX6_findThose 61 = .ok (.iload_n 1, 1) := by decide +kernel
theorem dX6_findThose_62 : decode cX6_findThose 62 = .ok (.ireturn, 1) := by decide +kernel
theorem dX6_findOrder_0 : decode cX6_findOrder 0 = .ok (.iconst 0, 1) := by decide +kernel
theorem dX6_findOrder_1 : decode cX6_findOrder 1 = .ok (.istore_n 2, 1) := by decide +kernel
theorem dX6_findOrder_2 : decode cX6_findOrder 2 = .ok (.iload_n 1, 1) := by decide +kernel
theorem dX6_findOrder_3 : decode cX6_findOrder 3 = .ok (.istore_n 3, 1) := by decide +kernel
theorem dX6_findOrder_4 : decode cX6_findOrder 4 = .ok (.iconst 1, 1) := by decide +kernel
theorem dX6_findOrder_5 : decode cX6_findOrder 5 = .ok (.istore 4, 2) := by decide +kernel
theorem dX6_findOrder_7 : decode cX6_findOrder 7 = .ok (.iconst 2, 1) := by decide +kernel
theorem dX6_findOrder_8 : decode cX6_findOrder 8 = .ok (.istore 5, 2) := by decide +kernel
theorem dX6_findOrder_10 : decode cX6_findOrder 10 = .ok (.iload 5, 2) := by decide +kernel
theorem dX6_findOrder_12 : decode cX6_findOrder 12 = .ok (.aload_n 0, 1) := by decide +kernel
theorem dX6_findOrder_13 : decode cX6_findOrder 13 = .ok (.getfield 162, 3) := by decide +kernel
theorem dX6_findOrder_16 : decode cX6_findOrder 16 = .ok (.if_icmp .ge 16, 3) := by decide +kernel
theorem dX6_findOrder_19 : decode cX6_findOrder 19 = .ok (.iload 4, 2) := by decide +kernel
theorem dX6_findOrder_21 : decode cX6_findOrder 21 = .ok (.iload 5, 2) := by decide +kernel
theorem dX6_findOrder_23 : decode cX6_findOrder 23 = .ok (.imul, 1) := by decide +kernel
theorem dX6_findOrder_24 : decode cX6_findOrder 24 = .ok (.istore 4, 2) := by decide +kernel
theorem dX6_findOrder_26 : decode cX6_findOrder 26 = .ok (.iinc 5 1, 3) := by decide +kernel
theorem dX6_findOrder_29 : decode cX6_findOrder 29 = .ok (.goto (-19), 3) := by decide +kernel
theorem dX6_findOrder_32 : decode cX6_findOrder 32 = .ok (.iconst 0, 1) := by decide +kernel
theorem dX6_findOrder_33 : decode cX6_findOrder 33 = .ok (.istore 5, 2) := by decide +kernel
theorem dX6_findOrder_35 : decode cX6_findOrder 35 = .ok (.iload 5, 2) := by decide +kernel
theorem dX6_findOrder_37 : decode cX6_findOrder 37 = .ok (.aload_n 0, 1) := by decide +kernel
theorem dX6_findOrder_38 : decode cX6_findOrder 38 = .ok (.getfield 162, 3) := by decide +kernel
theorem dX6_findOrder_41 : decode cX6_findOrder 41 = .ok (.if_icmp .ge 116, 3) := by decide +kernel
theorem dX6_findOrder_44 : decode cX6_findOrder 44 = .ok (.iload_n 3, 1) := by decide +kernel
theorem dX6_findOrder_45 : decode cX6_findOrder 45 = .ok (.iload 4, 2) := by decide +kernel
theorem dX6_findOrder_47 : decode cX6_findOrder 47 = .ok (.idiv, 1) := by decide +kernel
theorem dX6_findOrder_48 : decode cX6_findOrder 48 = .ok (.istore 6, 2) := by decide +kernel
theorem dX6_findOrder_50 : decode cX6_findOrder 50 = .ok (.iload_n 3, 1) := by decide +kernel
theorem dX6_findOrder_51 : decode cX6_findOrder 51 = .ok (.iload 4, 2) := by decide +kernel
theorem dX6_findOrder_53 : decode cX6_findOrder 53 = .ok (.irem, 1) := by decide +kernel
theorem dX6_findOrder_54 : decode cX6_findOrder 54 = .ok (.istore_n 3, 1) := by decide +kernel
theorem dX6_findOrder_55 : decode cX6_findOrder 55 = .ok (.aload_n 0, 1) := by decide +kernel
theorem dX6_findOrder_56 : decode cX6_findOrder 56 = .ok (.getfield 162, 3) := by decide +kernel
theorem dX6_findOrder_59 : decode cX6_findOrder 59 = .ok (.iconst 1, 1) := by decide +kernel
theorem dX6_findOrder_60 : decode cX6_findOrder 60 = .ok (.isub, 1) := by decide +kernel
theorem dX6_findOrder_61 : decode cX6_findOrder 61 = .ok (.iload 5, 2) := by decide +kernel
theorem dX6_findOrder_63 : decode cX6_findOrder 63 = .ok (.isub, 1) := by decide +kernel
theorem dX6_findOrder_64 : decode cX6_findOrder 64 = .ok (.iconst 1, 1) := by decide +kernel
theorem dX6_findOrder_65 : decode cX6_findOrder 65 = .ok (.if_icmp .le 18, 3) := by decide +kernel
theorem dX6_findOrder_68 : decode cX6_findOrder 68 = .ok (.iload 4, 2) := by decide +kernel
theorem dX6_findOrder_70 : decode cX6_findOrder 70 = .ok (.aload_n 0, 1) := by decide +kernel
theorem dX6_findOrder_71 : decode cX6_findOrder 71 = .ok (.getfield 162, 3) := by decide +kernel
theorem dX6_findOrder_74 : decode cX6_findOrder 74 = .ok (.iconst 1, 1) := by decide +kernel
theorem dX6_findOrder_75 : decode cX6_findOrder 75 = .ok (.isub, 1) := by decide +kernel
theorem dX6_findOrder_76 : decode cX6_findOrder 76 = .ok (.iload 5, 2) := by decide +kernel
theorem dX6_findOrder_78 : decode cX6_findOrder 78 = .ok (.isub, 1) := by decide +kernel
theorem dX6_findOrder_79 : decode cX6_findOrder 79 = .ok (.idiv, 1) := by decide +kernel
theorem dX6_findOrder_80 : decode cX6_findOrder 80 = .ok (.goto 4, 3) := by decide +kernel
theorem dX6_findOrder_83 : decode cX6_findOrder 83 = .ok (.iconst 1, 1) := by decide +kernel
theorem dX6_findOrder_84 : decode cX6_findOrder 84 = .ok (.istore 4, 2) := by decide +kernel
theorem dX6_findOrder_86 : decode cX6_findOrder 86 = .ok (.iconst 0, 1) := by decide +kernel
theorem dX6_findOrder_87 : decode cX6_findOrder 87 = .ok (.istore 7, 2) := by decide +kernel
theorem dX6_findOrder_89 : decode cX6_findOrder 89 = .ok (.iload_n 2, 1) := by decide +kernel
theorem dX6_findOrder_90 : decode cX6_findOrder 90 = .ok (.iload 7, 2) := by decide +kernel
theorem dX6_findOrder_92 : decode cX6_findOrder 92 = .ok (.ishr, 1) := by decide +kernel
theorem dX6_findOrder_93 : decode cX6_findOrder 93 = .ok (.iconst 1, 1) := by decide +kernel
theorem dX6_findOrder_94 : decode cX6_findOrder 94 = .ok (.iand, 1) := by decide +kernel
theorem dX6_findOrder_95 : decode cX6_findOrder 95 = .ok (.iconst 1, 1) := by decide +kernel
theorem dX6_findOrder_96 : decode cX6_findOrder 96 = .ok (.if_icmp .eq 8, 3) := by decide +kernel
theorem dX6_findOrder_99 : decode cX6_findOrder 99 = .ok (.iload 6, 2) := by decide +kernel
theorem dX6_findOrder_101 : decode cX6_findOrder 101 = .ok (.ifCond .le 29, 3) := by decide +kernel
theorem dX6_findOrder_104 : decode cX6_findOrder 104 = .ok (.iload 6, 2) := by decide +kernel
theorem dX6_findOrder_106 : decode cX6_findOrder 106 = .ok (.iload_n 2, 1) := by decide +kernel
theorem dX6_findOrder_107 : decode cX6_findOrder 107 = .ok (.iload 7, 2) := by decide +kernel
theorem dX6_findOrder_109 : decode cX6_findOrder 109 = .ok (.ishr, 1) := by decide +kernel
theorem dX6_findOrder_110 : decode cX6_findOrder 110 = .ok (.iconst 1, 1) := by decide +kernel
theorem dX6_findOrder_111 : decode cX6_findOrder 111 = .ok (.iand, 1) := by decide +kernel
theorem dX6_findOrder_112 : decode cX6_findOrder 112 = .ok (.iconst 1, 1) := by decide +kernel
theorem dX6_findOrder_113 : decode cX6_findOrder 113 = .ok (.if_icmp .ne 7, 3) := by decide +kernel
theorem dX6_findOrder_116 : decode cX6_findOrder 116 = .ok (.iconst 0, 1) := by decide +kernel
theorem dX6_findOrder_117 : decode cX6_findOrder 117 = .ok (.goto 4, 3) := by decide +kernel
theorem dX6_findOrder_120 : decode cX6_findOrder 120 = .ok (.iconst 1, 1) := by decide +kernel
theorem dX6_findOrder_121 : decode cX6_findOrder 121 = .ok (.isub, 1) := by decide +kernel
theorem dX6_findOrder_122 : decode cX6_findOrder 122 = .ok (.istore 6, 2) := by decide +kernel
theorem dX6_findOrder_124 : decode cX6_findOrder 124 = .ok (.iinc 7 1, 3) := by decide +kernel
theorem dX6_findOrder_127 : decode cX6_findOrder 127 = .ok (.goto (-38), 3) := by decide +kernel
theorem dX6_findOrder_130 : decode cX6_findOrder 130 = .ok (.iload_n 2, 1) := by decide +kernel
theorem dX6_findOrder_131 : decode cX6_findOrder 131 = .ok (.iconst 1, 1) := by decide +kernel
theorem dX6_findOrder_132 : decode cX6_findOrder 132 = .ok (.iload 7, 2) := by decide +kernel
theorem dX6_findOrder_134 : decode cX6_findOrder 134 = .ok (.ishl, 1) := by decide +kernel
theorem dX6_findOrder_135 : decode cX6_findOrder 135 = .ok (.ior, 1) := by decide +kernel
theorem dX6_findOrder_136 : decode cX6_findOrder 136 = .ok (.istore_n 2, 1) := by decide +kernel
theorem dX6_findOrder_137 : decode cX6_findOrder 137 = .ok (.aload_n 0, 1) := by decide +kernel
theorem dX6_findOrder_138 : decode cX6_findOrder 138 = .ok (.getfield 53, 3) := by decide +kernel
theorem dX6_findOrder_141 : decode cX6_findOrder 141 = .ok (.iload 5, 2) := by decide +kernel
theorem dX6_findOrder_143 : decode cX6_findOrder 143 = .ok (.aload_n 0, 1) := by decide +kernel
theorem dX6_findOrder_144 : decode cX6_findOrder 144 = .ok (.getfield 50, 3) := by decide +kernel
theorem dX6_findOrder_147 : decode cX6_findOrder 147 = .ok (.iload 7, 2) := by decide +kernel
theorem dX6_findOrder_149 : decode cX6_findOrder 149 = .ok (.iaload, 1) := by decide +kernel
theorem dX6_findOrder_150 : decode cX6_findOrder 150 = .ok (.iastore, 1) := by decide +kernel
theorem dX6_findOrder_151 : decode cX6_findOrder 151 = .ok (.iinc 5 1, 3) := by decide +kernel
theorem dX6_findOrder_154 : decode cX6_findOrder 154 = .ok (.goto (-119), 3) := by decide +kernel
theorem dX6_findOrder_157 : decode cX6_findOrder 157 = .ok (.return_, 1) := by decide +kernel
set_option maxRecDepth 20000 in
theorem ggX6_putsOrder_X6_base : GoodIn wsX6_putsOrder wsX6_base := goodIn_r _ [7, 8, 16, 17, 18, 19, 20, 21, 22, 23, 24, 25, 26, 27, 28, 29, 30, 31, 32, 33, 34, 35, 36, 37] (by decide +kernel) (by decide +kernel)
set_option maxRecDepth 20000 in
theorem gX6_putsOrder_X6_base : GoodIn wsX6_putsOrder (wsV RX6 138 RX6 yX6_base wsX6_base) := goodIn_app (goodIn_of _ (by decide +kernel)) ggX6_putsOrder_X6_base
set_option maxRecDepth 20000 in
theorem ggX6_putsOrder_X6_putsOn : GoodIn wsX6_putsOrder wsX6_putsOn := goodIn_r _ [12, 8, 13, 14, 6, 15, 16, 17, 18, 19, 20, 21, 22, 23, 24, 25, 26, 27, 28, 29, 30, 31, 32, 33, 34, 35, 36, 37] (by decide +kernel) (by decide +kernel)
set_option maxRecDepth 20000 in
theorem gX6_putsOrder_X6_putsOn : GoodIn wsX6_putsOrder (wsV RX6 142 RX6 yX6_putsOn wsX6_putsOn) := goodIn_app (goodIn_of _ (by decide +kernel)) ggX6_putsOrder_X6_putsOn
theorem dX6_putsOrder_0 : decode cX6_putsOrder 0 = .ok (.aload_n 0, 1) := by decide +kernel
theorem dX6_putsOrder_1 : decode cX6_putsOrder 1 = .ok (.aload_n 1, 1) := by decide +kernel
theorem dX6_putsOrder_2 : decode cX6_putsOrder 2 = .ok (.invokevirtual 138, 3) := by decide +kernel
theorem dX6_putsOrder_5 : decode cX6_putsOrder 5 = .ok (.iconst 0, 1) := by decide +kernel
theorem dX6_putsOrder_6 : decode cX6_putsOrder 6 = .ok (.istore_n 2, 1) := by decide +kernel
theorem dX6_putsOrder_7 : decode cX6_putsOrder 7 = .ok (.iload_n 2, 1) := by decide +kernel
theorem dX6_putsOrder_8 : decode cX6_putsOrder 8 = .ok (.aload_n 0, 1) := by decide +kernel
theorem dX6_putsOrder_9 : decode cX6_putsOrder 9 = .ok (.getfield 162, 3) := by decide +kernel
theorem dX6_putsOrder_12 : decode cX6_putsOrder 12 = .ok (.if_icmp .ge 20, 3) := by decide +kernel
theorem dX6_putsOrder_15 : decode cX6_putsOrder 15 = .ok (.aload_n 0, 1) := by decide +kernel
theorem dX6_putsOrder_16 : decode cX6_putsOrder 16 = .ok (.aload_n 1, 1) := by decide +kernel
theorem dX6_putsOrder_17 : decode cX6_putsOrder 17 = .ok (.aload_n 0, 1) := by decide +kernel
theorem dX6_putsOrder_18 : decode cX6_putsOrder 18 = .ok (.getfield 53, 3) := by decide +kernel
theorem dX6_putsOrder_21 : decode cX6_putsOrder 21 = .ok (.iload_n 2, 1) := by decide +kernel
theorem dX6_putsOrder_22 : decode cX6_putsOrder 22 = .ok (.iaload, 1) := by decide +kernel
theorem dX6_putsOrder_23 : decode cX6_putsOrder 23 = .ok (.invokevirtual 142, 3) := by decide +kernel
theorem dX6_putsOrder_26 : decode cX6_putsOrder 26 = .ok (.iinc 2 1, 3) := by decide +kernel
theorem dX6_putsOrder_29 : decode cX6_putsOrder 29 = .ok (.goto (-22), 3) := by decide +kernel
theorem dX6_putsOrder_32 : decode cX6_putsOrder 32 = .ok (.return_, 1) := by decide +kernel
set_option maxRecDepth 20000 in
theorem ggX6_results_X6_findThose : GoodIn wsX6_results wsX6_findThose := goodIn_r _ [8, 9, 10, 11, 12, 13, 14, 7, 15, 16, 17, 18, 55, 56, 57, 58, 59, 60, 61, 62, 63, 64, 65, 66, 67, 68, 69, 70, 71, 72, 73, 74, 75, 76] (by decide +kernel) (by decide +kernel)
set_option maxRecDepth 20000 in
theorem gX6_results_X6_findThose : GoodIn wsX6_results (wsV RX6 165 RX6 yX6_findThose wsX6_findThose) := goodIn_app (goodIn_of _ (by decide +kernel)) ggX6_results_X6_findThose
set_option maxRecDepth 20000 in
theorem ggX6_results_X6_findOrder : GoodIn wsX6_results wsX6_findOrder := goodIn_r _ [22, 9, 23, 11, 55, 56, 57, 58, 59, 60, 61, 62, 63, 64, 65, 66, 67, 68, 69, 70, 71, 72, 73, 74, 75, 76] (by decide +kernel) (by decide +kernel)
set_option maxRecDepth 20000 in
theorem gX6_results_X6_findOrder : GoodIn wsX6_results (wsV RX6 168 RX6 yX6_findOrder wsX6_findOrder) := goodIn_app (goodIn_of _ (by decide +kernel)) ggX6_results_X6_findOrder
set_option maxRecDepth 20000 in
theorem ggX6_results_X6_putsOrder : GoodIn wsX6_results wsX6_putsOrder := goodIn_r _ [27, 9, 23, 28, 29, 30, 7, 31, 10, 32, 33, 34, 35, 16, 17, 18, 55, 56, 57, 58, 59, 60, 61, 62, 63, 64, 65, 66, 67, 68, 69, 70, 71, 72, 73, 74, 75, 76] (by decide +kernel) (by decide +kernel)
set_option maxRecDepth 20000 in
theorem gX6_results_X6_putsOrder : GoodIn wsX6_results (wsV RX6 171 RX6 yX6_putsOrder wsX6_putsOrder) := goodIn_app (goodIn_of _ (by decide +kernel)) ggX6_results_X6_putsOrder
set_option maxRecDepth 20000 in
theorem ggX6_results_X6_findApart : GoodIn wsX6_results wsX6_findApart := goodIn_r _ [39, 40, 41, 42, 10, 1, 2, 43, 44, 45, 7, 46, 47, 48, 49, 50, 51, 52, 53, 54, 55, 56, 57, 58, 59, 60, 61, 62, 63, 64, 65, 66, 67, 68, 69, 70, 71, 72, 73, 74, 75, 76] (by decide +kernel) (by decide +kernel)
set_option maxRecDepth 20000 in
theorem gX6_results_X6_findApart : GoodIn wsX6_results (wsV RX6 146 RX6 yX6_findApart wsX6_findApart) := goodIn_app (goodIn_of _ (by decide +kernel)) ggX6_results_X6_findApart
theorem dX6_results_0 : decode cX6_results 0 = .ok (.aload_n 0, 1) := by decide +kernel
theorem dX6_results_1 : decode cX6_results 1 = .ok (.invokevirtual 165, 3) := by decide +kernel
theorem dX6_results_4 : decode cX6_results 4 = .ok (.istore_n 1, 1) := by decide +kernel
theorem dX6_results_5 : decode cX6_results 5 = .ok (.iconst 0, 1) := by decide +kernel
theorem dX6_results_6 : decode cX6_results 6 = .ok (.istore_n 2, 1) := by decide +kernel
theorem dX6_results_7 : decode cX6_results 7 = .ok (.iconst 0, 1) := by decide +kernel
theorem dX6_results_8 : decode cX6_results 8 = .ok (.istore_n 3, 1) := by decide +kernel
theorem dX6_results_9 : decode cX6_results 9 = .ok (.iload_n 3, 1) := by decide +kernel
theorem dX6_results_10 : decode cX6_results 10 = .ok (.iload_n 1, 1) := by decide +kernel
theorem dX6_results_11 : decode cX6_results 11 = .ok (.if_icmp .ge 138, 3) := by decide +kernel
theorem dX6_results_14 : decode cX6_results 14 = .ok (.aload_n 0, 1) := by decide +kernel
theorem dX6_results_15 : decode cX6_results 15 = .ok (.iload_n 3, 1) := by decide +kernel
theorem dX6_results_16 : decode cX6_results 16 = .ok (.invokevirtual 168, 3) := by decide +kernel
theorem dX6_results_19 : decode cX6_results 19 = .ok (.aload_n 0, 1) := by decide +kernel
theorem dX6_results_20 : decode cX6_results 20 = .ok (.aload_n 0, 1) := by decide +kernel
theorem dX6_results_21 : decode cX6_results 21 = .ok (.getfield 29, 3) := by decide +kernel
theorem dX6_results_24 : decode cX6_results 24 = .ok (.invokevirtual 171, 3) := by decide +kernel
theorem dX6_results_27 : decode cX6_results 27 = .ok (.iconst 1, 1) := by decide +kernel
theorem dX6_results_28 : decode cX6_results 28 = .ok (.istore 4, 2) := by decide +kernel
theorem dX6_results_30 : decode cX6_results 30 = .ok (.iconst 0, 1) := by decide +kernel
theorem dX6_results_31 : decode cX6_results 31 = .ok (.istore 5, 2) := by decide +kernel
theorem dX6_results_33 : decode cX6_results 33 = .ok (.iload 5, 2) := by decide +kernel
theorem dX6_results_35 : decode cX6_results 35 = .ok (.iload_n 2, 1) := by decide +kernel
theorem dX6_results_36 : decode cX6_results 36 = .ok (.if_icmp .ge 64, 3) := by decide +kernel
theorem dX6_results_39 : decode cX6_results 39 = .ok (.iload 4, 2) := by decide +kernel
theorem dX6_results_41 : decode cX6_results 41 = .ok (.ifCond .eq 59, 3) := by decide +kernel
theorem dX6_results_44 : decode cX6_results 44 = .ok (.iconst 0, 1) := by decide +kernel
theorem dX6_results_45 : decode cX6_results 45 = .ok (.istore 6, 2) := by decide +kernel
theorem dX6_results_47 : decode cX6_results 47 = .ok (.iload 6, 2) := by decide +kernel
theorem dX6_results_49 : decode cX6_results 49 = .ok (.bipush 32, 2) := by decide +kernel
theorem dX6_results_51 : decode cX6_results 51 = .ok (.if_icmp .ge 29, 3) := by decide +kernel
theorem dX6_results_54 : decode cX6_results 54 = .ok (.aload_n 0, 1) := by decide +kernel
theorem dX6_results_55 : decode cX6_results 55 = .ok (.getfield 32, 3) := by decide +kernel
theorem dX6_results_58 : decode cX6_results 58 = .ok (.iload 6, 2) := by decide +kernel
theorem dX6_results_60 : decode cX6_results 60 = .ok (.aload_n 0, 1) := by decide +kernel
theorem dX6_results_61 : decode cX6_results 61 = .ok (.getfield 56, 3) := by decide +kernel
theorem dX6_results_64 : decode cX6_results 64 = .ok (.bipush 32, 2) := by decide +kernel
theorem dX6_results_66 : decode cX6_results 66 = .ok (.iload 5, 2) := by decide +kernel
theorem dX6_results_68 : decode cX6_results 68 = .ok (.imul, 1) := by decide +kernel
theorem dX6_results_69 : decode cX6_results 69 = .ok (.iload 6, 2) := by decide +kernel
theorem dX6_results_71 : decode cX6_results 71 = .ok (.iadd, 1) := by decide +kernel
theorem dX6_results_72 : decode cX6_results 72 = .ok (.iaload, 1) := by decide +kernel
theorem dX6_results_73 : decode cX6_results 73 = .ok (.iastore, 1) := by decide +kernel
theorem dX6_results_74 : decode cX6_results 74 = .ok (.iinc 6 1, 3) := by decide +kernel
theorem dX6_results_77 : decode cX6_results 77 = .ok (.goto (-30), 3) := by decide +kernel
theorem dX6_results_80 : decode cX6_results 80 = .ok (.aload_n 0, 1) := by decide +kernel
theorem dX6_results_81 : decode cX6_results 81 = .ok (.invokevirtual 146, 3) := by decide +kernel
theorem dX6_results_84 : decode cX6_results 84 = .ok (.ifCond .le 7, 3) := by decide +kernel
theorem dX6_results_87 : decode cX6_results 87 = .ok (.iconst 1, 1) := by decide +kernel
theorem dX6_results_88 : decode cX6_results 88 = .ok (.goto 4, 3) := by decide +kernel
theorem dX6_results_91 : decode cX6_results 91 = .ok (.iconst 0, 1) := by decide +kernel
theorem dX6_results_92 : decode cX6_results 92 = .ok (.istore 4, 2) := by decide +kernel
theorem dX6_results_94 : decode cX6_results 94 = .ok (.iinc 5 1, 3) := by decide +kernel
theorem dX6_results_97 : decode cX6_results 97 = .ok (.goto (-64), 3) := by decide +kernel
theorem dX6_results_100 : decode cX6_results 100 = .ok (.iload 4, 2) := by decide +kernel
theorem dX6_results_102 : decode cX6_results 102 = .ok (.ifCond .eq 41, 3) := by decide +kernel
theorem dX6_results_105 : decode cX6_results 105 = .ok (.iconst 0, 1) := by decide +kernel
theorem dX6_results_106 : decode cX6_results 106 = .ok (.istore 5, 2) := by decide +kernel
theorem dX6_results_108 : decode cX6_results 108 = .ok (.iload 5, 2) := by decide +kernel
theorem dX6_results_110 : decode cX6_results 110 = .ok (.bipush 32, 2) := by decide +kernel
theorem dX6_results_112 : decode cX6_results 112 = .ok (.if_icmp .ge 28, 3) := by decide +kernel
theorem dX6_results_115 : decode cX6_results 115 = .ok (.aload_n 0, 1) := by decide +kernel
theorem dX6_results_116 : decode cX6_results 116 = .ok (.getfield 56, 3) := by decide +kernel
theorem dX6_results_119 : decode cX6_results 119 = .ok (.bipush 32, 2) := by decide +kernel
theorem dX6_results_121 : decode cX6_results 121 = .ok (.iload_n 2, 1) := by decide +kernel
theorem dX6_results_122 : decode cX6_results 122 = .ok (.imul, 1) := by decide +kernel
theorem dX6_results_123 : decode cX6_results 123 = .ok (.iload 5, 2) := by decide +kernel
theorem dX6_results_125 : decode cX6_results 125 = .ok (.iadd, 1) := by decide +kernel
theorem dX6_results_126 : decode cX6_results 126 = .ok (.aload_n 0, 1) := by decide +kernel
theorem dX6_results_127 : decode cX6_results 127 = .ok (.getfield 29, 3) := by decide +kernel
theorem dX6_results_130 : decode cX6_results 130 = .ok (.iload 5, 2) := by decide +kernel
theorem dX6_results_132 : decode cX6_results 132 = .ok (.iaload, 1) := by decide +kernel
theorem dX6_results_133 : decode cX6_results 133 = .ok (.iastore, 1) := by decide +kernel
theorem dX6_results_134 : decode cX6_results 134 = .ok (.iinc 5 1, 3) := by decide +kernel
theorem dX6_results_137 : decode cX6_results 137 = .ok (.goto (-29), 3) := by decide +kernel
theorem dX6_results_140 : decode cX6_results 140 = .ok (.iinc 2 1, 3) := by decide +kernel
theorem dX6_results_143 : decode cX6_results 143 = .ok (.iinc 3 1, 3) := by decide +kernel
theorem dX6_results_146 : decode cX6_results 146 = .ok (.goto (-137), 3) := by decide +kernel
theorem dX6_results_149 : decode cX6_results 149 = .ok (.iload_n 2, 1) := by decide +kernel
theorem dX6_results_150 : decode cX6_results 150 = .ok (.ireturn, 1) := by decide +kernel
theorem dX6_reached_0 : decode cX6_reached 0 = .ok (.iconst 1, 1) := by decide +kernel
theorem dX6_reached_1 : decode cX6_reached 1 = .ok (.istore_n 2, 1) := by decide +kernel
theorem dX6_reached_2 : decode cX6_reached 2 = .ok (.iconst 0, 1) := by decide +kernel
theorem dX6_reached_3 : decode cX6_reached 3 = .ok (.istore_n 3, 1) := by decide +kernel
theorem dX6_reached_4 : decode cX6_reached 4 = .ok (.iload_n 3, 1) := by decide +kernel
theorem dX6_reached_5 : decode cX6_reached 5 = .ok (.bipush 8, 2) := by decide +kernel
theorem dX6_reached_7 : decode cX6_reached 7 = .ok (.if_icmp .ge 60, 3) := by decide +kernel
theorem dX6_reached_10 : decode cX6_reached 10 = .ok (.iconst 0, 1) := by decide +kernel
theorem dX6_reached_11 : decode cX6_reached 11 = .ok (.istore 4, 2) := by decide +kernel
theorem dX6_reached_13 : decode cX6_reached 13 = .ok (.iload 4, 2) := by decide +kernel
theorem dX6_reached_15 : decode cX6_reached 15 = .ok (.bipush 32, 2) := by decide +kernel
theorem dX6_reached_17 : decode cX6_reached 17 = .ok (.if_icmp .ge 44, 3) := by decide +kernel
theorem dX6_reached_20 : decode cX6_reached 20 = .ok (.iload_n 2, 1) := by decide +kernel
theorem dX6_reached_21 : decode cX6_reached 21 = .ok (.iload_n 2, 1) := by decide +kernel
theorem dX6_reached_22 : decode cX6_reached 22 = .ok (.iload 4, 2) := by decide +kernel
theorem dX6_reached_24 : decode cX6_reached 24 = .ok (.iconst 4, 1) := by decide +kernel
theorem dX6_reached_25 : decode cX6_reached 25 = .ok (.idiv, 1) := by decide +kernel
theorem dX6_reached_26 : decode cX6_reached 26 = .ok (.ishr, 1) := by decide +kernel
theorem dX6_reached_27 : decode cX6_reached 27 = .ok (.iconst 1, 1) := by decide +kernel
theorem dX6_reached_28 : decode cX6_reached 28 = .ok (.iand, 1) := by decide +kernel
theorem dX6_reached_29 : decode cX6_reached 29 = .ok (.iconst 1, 1) := by decide +kernel
theorem dX6_reached_30 : decode cX6_reached 30 = .ok (.if_icmp .ne 22, 3) := by decide +kernel
theorem dX6_reached_33 : decode cX6_reached 33 = .ok (.aload_n 1, 1) := by decide +kernel
theorem dX6_reached_34 : decode cX6_reached 34 = .ok (.iload 4, 2) := by decide +kernel
theorem dX6_reached_36 : decode cX6_reached 36 = .ok (.iaload, 1) := by decide +kernel
theorem dX6_reached_37 : decode cX6_reached 37 = .ok (.ifCond .lt 15, 3) := by decide +kernel
theorem dX6_reached_40 : decode cX6_reached 40 = .ok (.iconst 1, 1) := by decide +kernel
theorem dX6_reached_41 : decode cX6_reached 41 = .ok (.aload_n 1, 1) := by decide +kernel
theorem dX6_reached_42 : decode cX6_reached 42 = .ok (.iload 4, 2) := by decide +kernel
theorem dX6_reached_44 : decode cX6_reached 44 = .ok (.iaload, 1) := by decide +kernel
theorem dX6_reached_45 : decode cX6_reached 45 = .ok (.bipush 10, 2) := by decide +kernel
theorem dX6_reached_47 : decode cX6_reached 47 = .ok (.idiv, 1) := by decide +kernel
theorem dX6_reached_48 : decode cX6_reached 48 = .ok (.ishl, 1) := by decide +kernel
theorem dX6_reached_49 : decode cX6_reached 49 = .ok (.goto 4, 3) := by decide +kernel
theorem dX6_reached_52 : decode cX6_reached 52 = .ok (.iconst 0, 1) := by decide +kernel
theorem dX6_reached_53 : decode cX6_reached 53 = .ok (.ior, 1) := by decide +kernel
theorem dX6_reached_54 : decode cX6_reached 54 = .ok (.istore_n 2, 1) := by decide +kernel
theorem dX6_reached_55 : decode cX6_reached 55 = .ok (.iinc 4 1, 3) := by decide +kernel
theorem dX6_reached_58 : decode cX6_reached 58 = .ok (.goto (-45), 3) := by decide +kernel
theorem dX6_reached_61 : decode cX6_reached 61 = .ok (.iinc 3 1, 3) := by decide +kernel
theorem dX6_reached_64 : decode cX6_reached 64 = .ok (.goto (-60), 3) := by decide +kernel
theorem dX6_reached_67 : decode cX6_reached 67 = .ok (.iload_n 2, 1) := by decide +kernel
theorem dX6_reached_68 : decode cX6_reached 68 = .ok (.ireturn, 1) := by decide +kernel
set_option maxRecDepth 20000 in
theorem ggX6_reachNow_X6_base : GoodIn wsX6_reachNow wsX6_base := goodIn_r _ [7, 2, 19, 20, 21, 22, 23, 24, 25, 26, 27, 28, 29, 30, 31, 32, 33, 34, 35, 36, 37, 38, 39, 40] (by decide +kernel) (by decide +kernel)
set_option maxRecDepth 20000 in
theorem gX6_reachNow_X6_base : GoodIn wsX6_reachNow (wsV RX6 138 RX6 yX6_base wsX6_base) := goodIn_app (goodIn_of _ (by decide +kernel)) ggX6_reachNow_X6_base
set_option maxRecDepth 20000 in
theorem ggX6_reachNow_X6_reached : GoodIn wsX6_reachNow wsX6_reached := goodIn_r _ [11] (by decide +kernel) (by decide +kernel)
set_option maxRecDepth 20000 in
theorem gX6_reachNow_X6_reached : GoodIn wsX6_reachNow (wsV RX6 174 RX6 yX6_reached wsX6_reached) := goodIn_app (goodIn_of _ (by decide +kernel)) ggX6_reachNow_X6_reached
set_option maxRecDepth 20000 in
theorem ggX6_reachNow_X6_putsOn : GoodIn wsX6_reachNow wsX6_putsOn := goodIn_r _ [15, 2, 16, 17, 6, 18, 19, 20, 21, 22, 23, 24, 25, 26, 27, 28, 29, 30, 31, 32, 33, 34, 35, 36, 37, 38, 39, 40] (by decide +kernel) (by decide +kernel)
set_option maxRecDepth 20000 in
theorem gX6_reachNow_X6_putsOn : GoodIn wsX6_reachNow (wsV RX6 142 RX6 yX6_putsOn wsX6_putsOn) := goodIn_app (goodIn_of _ (by decide +kernel)) ggX6_reachNow_X6_putsOn
set_option maxRecDepth 20000 in
theorem ggX6_reachNow_X6_at : GoodIn wsX6_reachNow wsX6_at := goodIn_r _ [18] (by decide +kernel) (by decide +kernel)
set_option maxRecDepth 20000 in
theorem gX6_reachNow_X6_at : GoodIn wsX6_reachNow (va_wsS RX6 85 yX6_at wsX6_at) := goodIn_app (goodIn_of _ (by decide +kernel)) ggX6_reachNow_X6_at
theorem dX6_reachNow_0 : decode cX6_reachNow 0 = .ok (.aload_n 0, 1) := by decide +kernel
theorem dX6_reachNow_1 : decode cX6_reachNow 1 = .ok (.aload_n 0, 1) := by decide +kernel
theorem dX6_reachNow_2 : decode cX6_reachNow 2 = .ok (.getfield 29, 3) := by decide +kernel
theorem dX6_reachNow_5 : decode cX6_reachNow 5 = .ok (.invokevirtual 138, 3) := by decide +kernel
theorem dX6_reachNow_8 : decode cX6_reachNow 8 = .ok (.aload_n 0, 1) := by decide +kernel
theorem dX6_reachNow_9 : decode cX6_reachNow 9 = .ok (.aload_n 0, 1) := by decide +kernel
theorem dX6_reachNow_10 : decode cX6_reachNow 10 = .ok (.getfield 29, 3) := by decide +kernel
theorem dX6_reachNow_13 : decode cX6_reachNow 13 = .ok (.invokevirtual 174, 3) := by decide +kernel
theorem dX6_reachNow_16 : decode cX6_reachNow 16 = .ok (.istore_n 2, 1) := by decide +kernel
theorem dX6_reachNow_17 : decode cX6_reachNow 17 = .ok (.aload_n 0, 1) := by decide +kernel
theorem dX6_reachNow_18 : decode cX6_reachNow 18 = .ok (.aload_n 0, 1) := by decide +kernel
theorem dX6_reachNow_19 : decode cX6_reachNow 19 = .ok (.getfield 29, 3) := by decide +kernel
theorem dX6_reachNow_22 : decode cX6_reachNow 22 = .ok (.iload_n 1, 1) := by decide +kernel
theorem dX6_reachNow_23 : decode cX6_reachNow 23 = .ok (.invokevirtual 142, 3) := by decide +kernel
theorem dX6_reachNow_26 : decode cX6_reachNow 26 = .ok (.iload_n 2, 1) := by decide +kernel
theorem dX6_reachNow_27 : decode cX6_reachNow 27 = .ok (.aload_n 0, 1) := by decide +kernel
theorem dX6_reachNow_28 : decode cX6_reachNow 28 = .ok (.aload_n 0, 1) := by decide +kernel
theorem dX6_reachNow_29 : decode cX6_reachNow 29 = .ok (.getfield 29, 3) := by decide +kernel
theorem dX6_reachNow_32 : decode cX6_reachNow 32 = .ok (.invokevirtual 174, 3) := by decide +kernel
theorem dX6_reachNow_35 : decode cX6_reachNow 35 = .ok (.ior, 1) := by decide +kernel
theorem dX6_reachNow_36 : decode cX6_reachNow 36 = .ok (.istore_n 2, 1) := by decide +kernel
theorem dX6_reachNow_37 : decode cX6_reachNow 37 = .ok (.iconst 0, 1) := by decide +kernel
theorem dX6_reachNow_38 : decode cX6_reachNow 38 = .ok (.istore_n 3, 1) := by decide +kernel
theorem dX6_reachNow_39 : decode cX6_reachNow 39 = .ok (.iconst 0, 1) := by decide +kernel
theorem dX6_reachNow_40 : decode cX6_reachNow 40 = .ok (.istore 4, 2) := by decide +kernel
theorem dX6_reachNow_42 : decode cX6_reachNow 42 = .ok (.iload 4, 2) := by decide +kernel
theorem dX6_reachNow_44 : decode cX6_reachNow 44 = .ok (.bipush 32, 2) := by decide +kernel
theorem dX6_reachNow_46 : decode cX6_reachNow 46 = .ok (.if_icmp .ge 45, 3) := by decide +kernel
theorem dX6_reachNow_49 : decode cX6_reachNow 49 = .ok (.iload_n 3, 1) := by decide +kernel
theorem dX6_reachNow_50 : decode cX6_reachNow 50 = .ok (.aload_n 0, 1) := by decide +kernel
theorem dX6_reachNow_51 : decode cX6_reachNow 51 = .ok (.getfield 7, 3) := by decide +kernel
theorem dX6_reachNow_54 : decode cX6_reachNow 54 = .ok (.iload_n 1, 1) := by decide +kernel
theorem dX6_reachNow_55 : decode cX6_reachNow 55 = .ok (.iconst 1, 1) := by decide +kernel
theorem dX6_reachNow_56 : decode cX6_reachNow 56 = .ok (.iload 4, 2) := by decide +kernel
theorem dX6_reachNow_58 : decode cX6_reachNow 58 = .ok (.iadd, 1) := by decide +kernel
theorem dX6_reachNow_59 : decode cX6_reachNow 59 = .ok (.invokestatic 85, 3) := by decide +kernel
theorem dX6_reachNow_62 : decode cX6_reachNow 62 = .ok (.iaload, 1) := by decide +kernel
theorem dX6_reachNow_63 : decode cX6_reachNow 63 = .ok (.ifCond .lt 19, 3) := by decide +kernel
theorem dX6_reachNow_66 : decode cX6_reachNow 66 = .ok (.iload_n 2, 1) := by decide +kernel
theorem dX6_reachNow_67 : decode cX6_reachNow 67 = .ok (.iload 4, 2) := by decide +kernel
theorem dX6_reachNow_69 : decode cX6_reachNow 69 = .ok (.iconst 4, 1) := by decide +kernel
theorem dX6_reachNow_70 : decode cX6_reachNow 70 = .ok (.idiv, 1) := by decide +kernel
theorem dX6_reachNow_71 : decode cX6_reachNow 71 = .ok (.ishr, 1) := by decide +kernel
theorem dX6_reachNow_72 : decode cX6_reachNow 72 = .ok (.iconst 1, 1) := by decide +kernel
theorem dX6_reachNow_73 : decode cX6_reachNow 73 = .ok (.iand, 1) := by decide +kernel
theorem dX6_reachNow_74 : decode cX6_reachNow 74 = .ok (.iconst 1, 1) := by decide +kernel
theorem dX6_reachNow_75 : decode cX6_reachNow 75 = .ok (.if_icmp .ne 7, 3) := by decide +kernel
theorem dX6_reachNow_78 : decode cX6_reachNow 78 = .ok (.iconst 1, 1) := by decide +kernel
theorem dX6_reachNow_79 : decode cX6_reachNow 79 = .ok (.goto 4, 3) := by decide +kernel
theorem dX6_reachNow_82 : decode cX6_reachNow 82 = .ok (.iconst 0, 1) := by decide +kernel
theorem dX6_reachNow_83 : decode cX6_reachNow 83 = .ok (.iadd, 1) := by decide +kernel
theorem dX6_reachNow_84 : decode cX6_reachNow 84 = .ok (.istore_n 3, 1) := by decide +kernel
theorem dX6_reachNow_85 : decode cX6_reachNow 85 = .ok (.iinc 4 1, 3) := by decide +kernel
theorem dX6_reachNow_88 : decode cX6_reachNow 88 = .ok (.goto (-46), 3) := by decide +kernel
theorem dX6_reachNow_91 : decode cX6_reachNow 91 = .ok (.iload_n 3, 1) := by decide +kernel
theorem dX6_reachNow_92 : decode cX6_reachNow 92 = .ok (.ireturn, 1) := by decide +kernel
set_option maxRecDepth 20000 in
theorem ggX6_reach_X6_isFeature : GoodIn wsX6_reach wsX6_isFeature := goodIn_r _ [5, 6, 7, 8, 4, 9, 30, 31, 32, 33, 34, 35, 36, 37, 38, 39, 40, 41, 42, 43, 44, 45, 46, 47, 48, 49, 50, 51] (by decide +kernel) (by decide +kernel)
set_option maxRecDepth 20000 in
theorem gX6_reach_X6_isFeature : GoodIn wsX6_reach (wsV RX6 92 RX6 yX6_isFeature wsX6_isFeature) := goodIn_app (goodIn_of _ (by decide +kernel)) ggX6_reach_X6_isFeature
set_option maxRecDepth 20000 in
theorem ggX6_reach_X6_reachNow : GoodIn wsX6_reach wsX6_reachNow := goodIn_r _ [13, 14, 6, 15, 16, 17, 4, 18, 19, 20, 21, 22, 23, 24, 25, 26, 27, 28, 29, 30, 31, 32, 33, 34, 35, 36, 37, 38, 39, 40, 41, 42, 43, 44, 45, 46, 47, 48, 49, 50, 51] (by decide +kernel) (by decide +kernel)
set_option maxRecDepth 20000 in
theorem gX6_reach_X6_reachNow : GoodIn wsX6_reach (wsV RX6 178 RX6 yX6_reachNow wsX6_reachNow) := goodIn_app (goodIn_of _ (by decide +kernel)) ggX6_reach_X6_reachNow
theorem dX6_reach_0 : decode cX6_reach 0 = .ok (.aload_n 0, 1) := by decide +kernel
theorem dX6_reach_1 : decode cX6_reach 1 = .ok (.iload_n 1, 1) := by decide +kernel
theorem dX6_reach_2 : decode cX6_reach 2 = .ok (.invokevirtual 92, 3) := by decide +kernel
theorem dX6_reach_5 : decode cX6_reach 5 = .ok (.ifCond .eq 11, 3) := by decide +kernel
theorem dX6_reach_8 : decode cX6_reach 8 = .ok (.aload_n 0, 1) := by decide +kernel
theorem dX6_reach_9 : decode cX6_reach 9 = .ok (.iload_n 1, 1) := by decide +kernel
theorem dX6_reach_10 : decode cX6_reach 10 = .ok (.invokevirtual 178, 3) := by decide +kernel
theorem dX6_reach_13 : decode cX6_reach 13 = .ok (.goto 4, 3) := by decide +kernel
theorem dX6_reach_16 : decode cX6_reach 16 = .ok (.iconst (-1), 1) := by decide +kernel
theorem dX6_reach_17 : decode cX6_reach 17 = .ok (.ireturn, 1) := by decide +kernel
set_option maxRecDepth 20000 in
theorem ggX6_findBehind_X6_at : GoodIn wsX6_findBehind wsX6_at := goodIn_r _ [6] (by decide +kernel) (by decide +kernel)
set_option maxRecDepth 20000 in
theorem gX6_findBehind_X6_at : GoodIn wsX6_findBehind (va_wsS RX6 85 yX6_at wsX6_at) := goodIn_app (goodIn_of _ (by decide +kernel)) ggX6_findBehind_X6_at
theorem dX6_findBehind_0 : decode cX6_findBehind 0 = .ok (.iconst 0, 1) := by decide +kernel
theorem dX6_findBehind_1 : decode cX6_findBehind 1 = .ok (.istore_n 1, 1) := by decide +kernel
theorem dX6_findBehind_2 : decode cX6_findBehind 2 = .ok (.iload_n 1, 1) := by decide +kernel
theorem dX6_findBehind_3 : decode cX6_findBehind 3 = .ok (.bipush 6, 2) := by decide +kernel
theorem dX6_findBehind_5 : decode cX6_findBehind 5 = .ok (.if_icmp .ge 41, 3) := by decide +kernel
theorem dX6_findBehind_8 : decode cX6_findBehind 8 = .ok (.aload_n 0, 1) := by decide +kernel
theorem dX6_findBehind_9 : decode cX6_findBehind 9 = .ok (.getfield 59, 3) := by decide +kernel
theorem dX6_findBehind_12 : decode cX6_findBehind 12 = .ok (.iload_n 1, 1) := by decide +kernel
theorem dX6_findBehind_13 : decode cX6_findBehind 13 = .ok (.iload_n 1, 1) := by decide +kernel
theorem dX6_findBehind_14 : decode cX6_findBehind 14 = .ok (.aload_n 0, 1) := by decide +kernel
theorem dX6_findBehind_15 : decode cX6_findBehind 15 = .ok (.getfield 7, 3) := by decide +kernel
theorem dX6_findBehind_18 : decode cX6_findBehind 18 = .ok (.bipush 34, 2) := by decide +kernel
theorem dX6_findBehind_20 : decode cX6_findBehind 20 = .ok (.iaload, 1) := by decide +kernel
theorem dX6_findBehind_21 : decode cX6_findBehind 21 = .ok (.if_icmp .ge 17, 3) := by decide +kernel
theorem dX6_findBehind_24 : decode cX6_findBehind 24 = .ok (.aload_n 0, 1) := by decide +kernel
theorem dX6_findBehind_25 : decode cX6_findBehind 25 = .ok (.getfield 7, 3) := by decide +kernel
theorem dX6_findBehind_28 : decode cX6_findBehind 28 = .ok (.iload_n 1, 1) := by decide +kernel
theorem dX6_findBehind_29 : decode cX6_findBehind 29 = .ok (.bipush 33, 2) := by decide +kernel
theorem dX6_findBehind_31 : decode cX6_findBehind 31 = .ok (.invokestatic 85, 3) := by decide +kernel
theorem dX6_findBehind_34 : decode cX6_findBehind 34 = .ok (.iaload, 1) := by decide +kernel
theorem dX6_findBehind_35 : decode cX6_findBehind 35 = .ok (.goto 4, 3) := by decide +kernel
theorem dX6_findBehind_38 : decode cX6_findBehind 38 = .ok (.iconst 0, 1) := by decide +kernel
theorem dX6_findBehind_39 : decode cX6_findBehind 39 = .ok (.iastore, 1) := by decide +kernel
theorem dX6_findBehind_40 : decode cX6_findBehind 40 = .ok (.iinc 1 1, 3) := by decide +kernel
theorem dX6_findBehind_43 : decode cX6_findBehind 43 = .ok (.goto (-41), 3) := by decide +kernel
theorem dX6_findBehind_46 : decode cX6_findBehind 46 = .ok (.iconst 0, 1) := by decide +kernel
theorem dX6_findBehind_47 : decode cX6_findBehind 47 = .ok (.istore_n 1, 1) := by decide +kernel
theorem dX6_findBehind_48 : decode cX6_findBehind 48 = .ok (.iload_n 1, 1) := by decide +kernel
theorem dX6_findBehind_49 : decode cX6_findBehind 49 = .ok (.bipush 6, 2) := by decide +kernel
theorem dX6_findBehind_51 : decode cX6_findBehind 51 = .ok (.if_icmp .ge 70, 3) := by decide +kernel
theorem dX6_findBehind_54 : decode cX6_findBehind 54 = .ok (.iconst 0, 1) := by decide +kernel
theorem dX6_findBehind_55 : decode cX6_findBehind 55 = .ok (.istore_n 2, 1) := by decide +kernel
theorem dX6_findBehind_56 : decode cX6_findBehind 56 = .ok (.iload_n 2, 1) := by decide +kernel
theorem dX6_findBehind_57 : decode cX6_findBehind 57 = .ok (.bipush 6, 2) := by decide +kernel
theorem dX6_findBehind_59 : decode cX6_findBehind 59 = .ok (.if_icmp .ge 56, 3) := by decide +kernel
theorem dX6_findBehind_62 : decode cX6_findBehind 62 = .ok (.iconst 0, 1) := by decide +kernel
theorem dX6_findBehind_63 : decode cX6_findBehind 63 = .ok (.istore_n 3, 1) := by decide +kernel
theorem dX6_findBehind_64 : decode cX6_findBehind 64 = .ok (.iload_n 3, 1) := by decide +kernel
theorem dX6_findBehind_65 : decode cX6_findBehind 65 = .ok (.bipush 6, 2) := by decide +kernel
theorem dX6_findBehind_67 : decode cX6_findBehind 67 = .ok (.if_icmp .ge 42, 3) := by decide +kernel
theorem dX6_findBehind_70 : decode cX6_findBehind 70 = .ok (.aload_n 0, 1) := by decide +kernel
theorem dX6_findBehind_71 : decode cX6_findBehind 71 = .ok (.getfield 59, 3) := by decide +kernel
theorem dX6_findBehind_74 : decode cX6_findBehind 74 = .ok (.iload_n 2, 1) := by decide +kernel
theorem dX6_findBehind_75 : decode cX6_findBehind 75 = .ok (.dup2, 1) := by decide +kernel
theorem dX6_findBehind_76 : decode cX6_findBehind 76 = .ok (.iaload, 1) := by decide +kernel
theorem dX6_findBehind_77 : decode cX6_findBehind 77 = .ok (.aload_n 0, 1) := by decide +kernel
theorem dX6_findBehind_78 : decode cX6_findBehind 78 = .ok (.getfield 59, 3) := by decide +kernel
theorem dX6_findBehind_81 : decode cX6_findBehind 81 = .ok (.iload_n 2, 1) := by decide +kernel
theorem dX6_findBehind_82 : decode cX6_findBehind 82 = .ok (.iaload, 1) := by decide +kernel
theorem dX6_findBehind_83 : decode cX6_findBehind 83 = .ok (.iload_n 3, 1) := by decide +kernel
theorem dX6_findBehind_84 : decode cX6_findBehind 84 = .ok (.ishr, 1) := by decide +kernel
theorem dX6_findBehind_85 : decode cX6_findBehind 85 = .ok (.iconst 1, 1) := by decide +kernel
theorem dX6_findBehind_86 : decode cX6_findBehind 86 = .ok (.iand, 1) := by decide +kernel
theorem dX6_findBehind_87 : decode cX6_findBehind 87 = .ok (.iconst 1, 1) := by decide +kernel
theorem dX6_findBehind_88 : decode cX6_findBehind 88 = .ok (.if_icmp .ne 12, 3) := by decide +kernel
theorem dX6_findBehind_91 : decode cX6_findBehind 91 = .ok (.aload_n 0, 1) := by decide +kernel
theorem dX6_findBehind_92 : decode cX6_findBehind 92 = .ok (.getfield 59, 3) := by decide +kernel
theorem dX6_findBehind_95 : decode cX6_findBehind 95 = .ok (.iload_n 3, 1) := by decide +kernel
theorem dX6_findBehind_96 : decode cX6_findBehind 96 = .ok (.iaload, 1) := by decide +kernel
theorem dX6_findBehind_97 : decode cX6_findBehind 97 = .ok (.goto 4, 3) := by decide +kernel
theorem dX6_findBehind_100 : decode cX6_findBehind 100 = .ok (.iconst 0, 1) := by decide +kernel
theorem dX6_findBehind_101 : decode cX6_findBehind 101 = .ok (.ior, 1) := by decide +kernel
theorem dX6_findBehind_102 : decode cX6_findBehind 102 = .ok (.iastore, 1) := by decide +kernel
theorem dX6_findBehind_103 : decode cX6_findBehind 103 = .ok (.iinc 3 1, 3) := by decide +kernel
theorem dX6_findBehind_106 : decode cX6_findBehind 106 = .ok (.goto (-42), 3) := by decide +kernel
theorem dX6_findBehind_109 : decode cX6_findBehind 109 = .ok (.iinc 2 1, 3) := by decide +kernel
