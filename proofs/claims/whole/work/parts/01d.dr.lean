theorem dX4_init_0 : decode cX4_init 0 = .ok (.aload_n 0, 1) := by decide +kernel
theorem dX4_init_1 : decode cX4_init 1 = .ok (.invokespecial 1, 3) := by decide +kernel
theorem dX4_init_4 : decode cX4_init 4 = .ok (.aload_n 0, 1) := by decide +kernel
theorem dX4_init_5 : decode cX4_init 5 = .ok (.iconst 5, 1) := by decide +kernel
theorem dX4_init_6 : decode cX4_init 6 = .ok (.newarray .int, 2) := by decide +kernel
theorem dX4_init_8 : decode cX4_init 8 = .ok (.putfield 7, 3) := by decide +kernel
theorem dX4_init_11 : decode cX4_init 11 = .ok (.aload_n 0, 1) := by decide +kernel
theorem dX4_init_12 : decode cX4_init 12 = .ok (.iconst 5, 1) := by decide +kernel
theorem dX4_init_13 : decode cX4_init 13 = .ok (.newarray .int, 2) := by decide +kernel
theorem dX4_init_15 : decode cX4_init 15 = .ok (.putfield 13, 3) := by decide +kernel
theorem dX4_init_18 : decode cX4_init 18 = .ok (.aload_n 0, 1) := by decide +kernel
theorem dX4_init_19 : decode cX4_init 19 = .ok (.iconst 5, 1) := by decide +kernel
theorem dX4_init_20 : decode cX4_init 20 = .ok (.newarray .int, 2) := by decide +kernel
theorem dX4_init_22 : decode cX4_init 22 = .ok (.putfield 16, 3) := by decide +kernel
theorem dX4_init_25 : decode cX4_init 25 = .ok (.aload_n 0, 1) := by decide +kernel
theorem dX4_init_26 : decode cX4_init 26 = .ok (.iconst 5, 1) := by decide +kernel
theorem dX4_init_27 : decode cX4_init 27 = .ok (.newarray .int, 2) := by decide +kernel
theorem dX4_init_29 : decode cX4_init 29 = .ok (.putfield 19, 3) := by decide +kernel
theorem dX4_init_32 : decode cX4_init 32 = .ok (.aload_n 0, 1) := by decide +kernel
theorem dX4_init_33 : decode cX4_init 33 = .ok (.iconst 5, 1) := by decide +kernel
theorem dX4_init_34 : decode cX4_init 34 = .ok (.newarray .int, 2) := by decide +kernel
theorem dX4_init_36 : decode cX4_init 36 = .ok (.putfield 22, 3) := by decide +kernel
theorem dX4_init_39 : decode cX4_init 39 = .ok (.aload_n 0, 1) := by decide +kernel
theorem dX4_init_40 : decode cX4_init 40 = .ok (.bipush 120, 2) := by decide +kernel
theorem dX4_init_42 : decode cX4_init 42 = .ok (.newarray .boolean, 2) := by decide +kernel
theorem dX4_init_44 : decode cX4_init 44 = .ok (.putfield 25, 3) := by decide +kernel
theorem dX4_init_47 : decode cX4_init 47 = .ok (.aload_n 0, 1) := by decide +kernel
theorem dX4_init_48 : decode cX4_init 48 = .ok (.bipush 40, 2) := by decide +kernel
theorem dX4_init_50 : decode cX4_init 50 = .ok (.newarray .int, 2) := by decide +kernel
theorem dX4_init_52 : decode cX4_init 52 = .ok (.putfield 29, 3) := by decide +kernel
theorem dX4_init_55 : decode cX4_init 55 = .ok (.aload_n 0, 1) := by decide +kernel
theorem dX4_init_56 : decode cX4_init 56 = .ok (.bipush 40, 2) := by decide +kernel
theorem dX4_init_58 : decode cX4_init 58 = .ok (.newarray .int, 2) := by decide +kernel
theorem dX4_init_60 : decode cX4_init 60 = .ok (.putfield 32, 3) := by decide +kernel
theorem dX4_init_63 : decode cX4_init 63 = .ok (.aload_n 0, 1) := by decide +kernel
theorem dX4_init_64 : decode cX4_init 64 = .ok (.bipush 40, 2) := by decide +kernel
theorem dX4_init_66 : decode cX4_init 66 = .ok (.newarray .int, 2) := by decide +kernel
theorem dX4_init_68 : decode cX4_init 68 = .ok (.putfield 35, 3) := by decide +kernel
theorem dX4_init_71 : decode cX4_init 71 = .ok (.aload_n 0, 1) := by decide +kernel
theorem dX4_init_72 : decode cX4_init 72 = .ok (.bipush 40, 2) := by decide +kernel
theorem dX4_init_74 : decode cX4_init 74 = .ok (.newarray .int, 2) := by decide +kernel
theorem dX4_init_76 : decode cX4_init 76 = .ok (.putfield 38, 3) := by decide +kernel
theorem dX4_init_79 : decode cX4_init 79 = .ok (.aload_n 0, 1) := by decide +kernel
theorem dX4_init_80 : decode cX4_init 80 = .ok (.bipush 40, 2) := by decide +kernel
theorem dX4_init_82 : decode cX4_init 82 = .ok (.newarray .int, 2) := by decide +kernel
theorem dX4_init_84 : decode cX4_init 84 = .ok (.putfield 41, 3) := by decide +kernel
theorem dX4_init_87 : decode cX4_init 87 = .ok (.aload_n 0, 1) := by decide +kernel
theorem dX4_init_88 : decode cX4_init 88 = .ok (.bipush 40, 2) := by decide +kernel
theorem dX4_init_90 : decode cX4_init 90 = .ok (.newarray .int, 2) := by decide +kernel
theorem dX4_init_92 : decode cX4_init 92 = .ok (.putfield 44, 3) := by decide +kernel
theorem dX4_init_95 : decode cX4_init 95 = .ok (.aload_n 0, 1) := by decide +kernel
theorem dX4_init_96 : decode cX4_init 96 = .ok (.bipush 40, 2) := by decide +kernel
theorem dX4_init_98 : decode cX4_init 98 = .ok (.newarray .char, 2) := by decide +kernel
theorem dX4_init_100 : decode cX4_init 100 = .ok (.putfield 47, 3) := by decide +kernel
theorem dX4_init_103 : decode cX4_init 103 = .ok (.aload_n 0, 1) := by decide +kernel
theorem dX4_init_104 : decode cX4_init 104 = .ok (.bipush 40, 2) := by decide +kernel
theorem dX4_init_106 : decode cX4_init 106 = .ok (.newarray .int, 2) := by decide +kernel
theorem dX4_init_108 : decode cX4_init 108 = .ok (.putfield 51, 3) := by decide +kernel
theorem dX4_init_111 : decode cX4_init 111 = .ok (.aload_n 0, 1) := by decide +kernel
theorem dX4_init_112 : decode cX4_init 112 = .ok (.bipush 40, 2) := by decide +kernel
theorem dX4_init_114 : decode cX4_init 114 = .ok (.newarray .int, 2) := by decide +kernel
theorem dX4_init_116 : decode cX4_init 116 = .ok (.putfield 54, 3) := by decide +kernel
theorem dX4_init_119 : decode cX4_init 119 = .ok (.aload_n 0, 1) := by decide +kernel
theorem dX4_init_120 : decode cX4_init 120 = .ok (.bipush 40, 2) := by decide +kernel
theorem dX4_init_122 : decode cX4_init 122 = .ok (.newarray .int, 2) := by decide +kernel
theorem dX4_init_124 : decode cX4_init 124 = .ok (.putfield 57, 3) := by decide +kernel
theorem dX4_init_127 : decode cX4_init 127 = .ok (.aload_n 0, 1) := by decide +kernel
theorem dX4_init_128 : decode cX4_init 128 = .ok (.bipush 40, 2) := by decide +kernel
theorem dX4_init_130 : decode cX4_init 130 = .ok (.newarray .long, 2) := by decide +kernel
theorem dX4_init_132 : decode cX4_init 132 = .ok (.putfield 60, 3) := by decide +kernel
theorem dX4_init_135 : decode cX4_init 135 = .ok (.aload_n 0, 1) := by decide +kernel
theorem dX4_init_136 : decode cX4_init 136 = .ok (.bipush 6, 2) := by decide +kernel
theorem dX4_init_138 : decode cX4_init 138 = .ok (.newarray .int, 2) := by decide +kernel
theorem dX4_init_140 : decode cX4_init 140 = .ok (.putfield 64, 3) := by decide +kernel
theorem dX4_init_143 : decode cX4_init 143 = .ok (.aload_n 0, 1) := by decide +kernel
theorem dX4_init_144 : decode cX4_init 144 = .ok (.bipush 6, 2) := by decide +kernel
theorem dX4_init_146 : decode cX4_init 146 = .ok (.newarray .int, 2) := by decide +kernel
theorem dX4_init_148 : decode cX4_init 148 = .ok (.putfield 67, 3) := by decide +kernel
theorem dX4_init_151 : decode cX4_init 151 = .ok (.aload_n 0, 1) := by decide +kernel
theorem dX4_init_152 : decode cX4_init 152 = .ok (.bipush 6, 2) := by decide +kernel
theorem dX4_init_154 : decode cX4_init 154 = .ok (.newarray .int, 2) := by decide +kernel
theorem dX4_init_156 : decode cX4_init 156 = .ok (.putfield 70, 3) := by decide +kernel
theorem dX4_init_159 : decode cX4_init 159 = .ok (.aload_n 0, 1) := by decide +kernel
theorem dX4_init_160 : decode cX4_init 160 = .ok (.sipush 1441, 3) := by decide +kernel
theorem dX4_init_163 : decode cX4_init 163 = .ok (.newarray .int, 2) := by decide +kernel
theorem dX4_init_165 : decode cX4_init 165 = .ok (.putfield 73, 3) := by decide +kernel
theorem dX4_init_168 : decode cX4_init 168 = .ok (.aload_n 0, 1) := by decide +kernel
theorem dX4_init_169 : decode cX4_init 169 = .ok (.bipush 8, 2) := by decide +kernel
theorem dX4_init_171 : decode cX4_init 171 = .ok (.newarray .int, 2) := by decide +kernel
theorem dX4_init_173 : decode cX4_init 173 = .ok (.putfield 76, 3) := by decide +kernel
theorem dX4_init_176 : decode cX4_init 176 = .ok (.return_, 1) := by decide +kernel
theorem dX4_thrown_0 : decode cX4_thrown 0 = .ok (.aload_n 0, 1) := by decide +kernel
theorem dX4_thrown_1 : decode cX4_thrown 1 = .ok (.getfield 79, 3) := by decide +kernel
theorem dX4_thrown_4 : decode cX4_thrown 4 = .ok (.ireturn, 1) := by decide +kernel
theorem dX4_fails_0 : decode cX4_fails 0 = .ok (.aload_n 0, 1) := by decide +kernel
theorem dX4_fails_1 : decode cX4_fails 1 = .ok (.iload_n 1, 1) := by decide +kernel
theorem dX4_fails_2 : decode cX4_fails 2 = .ok (.putfield 79, 3) := by decide +kernel
theorem dX4_fails_5 : decode cX4_fails 5 = .ok (.iload_n 1, 1) := by decide +kernel
theorem dX4_fails_6 : decode cX4_fails 6 = .ok (.ifCond .le 7, 3) := by decide +kernel
theorem dX4_fails_9 : decode cX4_fails 9 = .ok (.iconst 1, 1) := by decide +kernel
theorem dX4_fails_10 : decode cX4_fails 10 = .ok (.goto 4, 3) := by decide +kernel
theorem dX4_fails_13 : decode cX4_fails 13 = .ok (.iconst 0, 1) := by decide +kernel
theorem dX4_fails_14 : decode cX4_fails 14 = .ok (.ireturn, 1) := by decide +kernel
theorem dX4_tells_0 : decode cX4_tells 0 = .ok (.aload_n 0, 1) := by decide +kernel
theorem dX4_tells_1 : decode cX4_tells 1 = .ok (.iconst 0, 1) := by decide +kernel
theorem dX4_tells_2 : decode cX4_tells 2 = .ok (.putfield 79, 3) := by decide +kernel
theorem dX4_tells_5 : decode cX4_tells 5 = .ok (.iload_n 1, 1) := by decide +kernel
theorem dX4_tells_6 : decode cX4_tells 6 = .ok (.ireturn, 1) := by decide +kernel
theorem dX4_in_0 : decode cX4_in 0 = .ok (.iload_n 0, 1) := by decide +kernel
theorem dX4_in_1 : decode cX4_in 1 = .ok (.iload_n 1, 1) := by decide +kernel
theorem dX4_in_2 : decode cX4_in 2 = .ok (.if_icmp .lt 12, 3) := by decide +kernel
theorem dX4_in_5 : decode cX4_in 5 = .ok (.iload_n 0, 1) := by decide +kernel
theorem dX4_in_6 : decode cX4_in 6 = .ok (.iload_n 2, 1) := by decide +kernel
theorem dX4_in_7 : decode cX4_in 7 = .ok (.if_icmp .gt 7, 3) := by decide +kernel
theorem dX4_in_10 : decode cX4_in 10 = .ok (.iconst 1, 1) := by decide +kernel
theorem dX4_in_11 : decode cX4_in 11 = .ok (.goto 4, 3) := by decide +kernel
theorem dX4_in_14 : decode cX4_in 14 = .ok (.iconst 0, 1) := by decide +kernel
theorem dX4_in_15 : decode cX4_in 15 = .ok (.ireturn, 1) := by decide +kernel
set_option maxRecDepth 20000 in
theorem ggX4_isPlace_X4_in : GoodIn wsX4_isPlace wsX4_in := goodIn_r _ [4] (by decide +kernel) (by decide +kernel)
set_option maxRecDepth 20000 in
theorem gX4_isPlace_X4_in : GoodIn wsX4_isPlace (va_wsS RX4 83 yX4_in wsX4_in) := goodIn_app (goodIn_of _ (by decide +kernel)) ggX4_isPlace_X4_in
theorem dX4_isPlace_0 : decode cX4_isPlace 0 = .ok (.iload_n 0, 1) := by decide +kernel
theorem dX4_isPlace_1 : decode cX4_isPlace 1 = .ok (.iconst 0, 1) := by decide +kernel
theorem dX4_isPlace_2 : decode cX4_isPlace 2 = .ok (.bipush 39, 2) := by decide +kernel
theorem dX4_isPlace_4 : decode cX4_isPlace 4 = .ok (.invokestatic 83, 3) := by decide +kernel
theorem dX4_isPlace_7 : decode cX4_isPlace 7 = .ok (.ifCond .eq 17, 3) := by decide +kernel
theorem dX4_isPlace_10 : decode cX4_isPlace 10 = .ok (.iload_n 1, 1) := by decide +kernel
theorem dX4_isPlace_11 : decode cX4_isPlace 11 = .ok (.iconst 0, 1) := by decide +kernel
theorem dX4_isPlace_12 : decode cX4_isPlace 12 = .ok (.bipush 39, 2) := by decide +kernel
theorem dX4_isPlace_14 : decode cX4_isPlace 14 = .ok (.invokestatic 83, 3) := by decide +kernel
theorem dX4_isPlace_17 : decode cX4_isPlace 17 = .ok (.ifCond .eq 7, 3) := by decide +kernel
theorem dX4_isPlace_20 : decode cX4_isPlace 20 = .ok (.iconst 1, 1) := by decide +kernel
theorem dX4_isPlace_21 : decode cX4_isPlace 21 = .ok (.goto 4, 3) := by decide +kernel
theorem dX4_isPlace_24 : decode cX4_isPlace 24 = .ok (.iconst 0, 1) := by decide +kernel
theorem dX4_isPlace_25 : decode cX4_isPlace 25 = .ok (.ireturn, 1) := by decide +kernel
set_option maxRecDepth 20000 in
theorem ggX4_isNoCrane_X4_in : GoodIn wsX4_isNoCrane wsX4_in := goodIn_r _ [5] (by decide +kernel) (by decide +kernel)
set_option maxRecDepth 20000 in
theorem gX4_isNoCrane_X4_in : GoodIn wsX4_isNoCrane (va_wsS RX4 83 yX4_in wsX4_in) := goodIn_app (goodIn_of _ (by decide +kernel)) ggX4_isNoCrane_X4_in
theorem dX4_isNoCrane_0 : decode cX4_isNoCrane 0 = .ok (.iload_n 1, 1) := by decide +kernel
theorem dX4_isNoCrane_1 : decode cX4_isNoCrane 1 = .ok (.iconst 0, 1) := by decide +kernel
theorem dX4_isNoCrane_2 : decode cX4_isNoCrane 2 = .ok (.aload_n 0, 1) := by decide +kernel
theorem dX4_isNoCrane_3 : decode cX4_isNoCrane 3 = .ok (.getfield 87, 3) := by decide +kernel
theorem dX4_isNoCrane_6 : decode cX4_isNoCrane 6 = .ok (.iconst 1, 1) := by decide +kernel
theorem dX4_isNoCrane_7 : decode cX4_isNoCrane 7 = .ok (.isub, 1) := by decide +kernel
theorem dX4_isNoCrane_8 : decode cX4_isNoCrane 8 = .ok (.invokestatic 83, 3) := by decide +kernel
theorem dX4_isNoCrane_11 : decode cX4_isNoCrane 11 = .ok (.ifCond .ne 7, 3) := by decide +kernel
theorem dX4_isNoCrane_14 : decode cX4_isNoCrane 14 = .ok (.iconst 1, 1) := by decide +kernel
theorem dX4_isNoCrane_15 : decode cX4_isNoCrane 15 = .ok (.goto 4, 3) := by decide +kernel
theorem dX4_isNoCrane_18 : decode cX4_isNoCrane 18 = .ok (.iconst 0, 1) := by decide +kernel
theorem dX4_isNoCrane_19 : decode cX4_isNoCrane 19 = .ok (.ireturn, 1) := by decide +kernel
set_option maxRecDepth 20000 in
theorem ggX4_isNoLift_X4_in : GoodIn wsX4_isNoLift wsX4_in := goodIn_r _ [5] (by decide +kernel) (by decide +kernel)
set_option maxRecDepth 20000 in
theorem gX4_isNoLift_X4_in : GoodIn wsX4_isNoLift (va_wsS RX4 83 yX4_in wsX4_in) := goodIn_app (goodIn_of _ (by decide +kernel)) ggX4_isNoLift_X4_in
theorem dX4_isNoLift_0 : decode cX4_isNoLift 0 = .ok (.iload_n 1, 1) := by decide +kernel
theorem dX4_isNoLift_1 : decode cX4_isNoLift 1 = .ok (.iconst 0, 1) := by decide +kernel
theorem dX4_isNoLift_2 : decode cX4_isNoLift 2 = .ok (.aload_n 0, 1) := by decide +kernel
theorem dX4_isNoLift_3 : decode cX4_isNoLift 3 = .ok (.getfield 90, 3) := by decide +kernel
theorem dX4_isNoLift_6 : decode cX4_isNoLift 6 = .ok (.iconst 1, 1) := by decide +kernel
theorem dX4_isNoLift_7 : decode cX4_isNoLift 7 = .ok (.isub, 1) := by decide +kernel
theorem dX4_isNoLift_8 : decode cX4_isNoLift 8 = .ok (.invokestatic 83, 3) := by decide +kernel
theorem dX4_isNoLift_11 : decode cX4_isNoLift 11 = .ok (.ifCond .ne 7, 3) := by decide +kernel
theorem dX4_isNoLift_14 : decode cX4_isNoLift 14 = .ok (.iconst 1, 1) := by decide +kernel
theorem dX4_isNoLift_15 : decode cX4_isNoLift 15 = .ok (.goto 4, 3) := by decide +kernel
theorem dX4_isNoLift_18 : decode cX4_isNoLift 18 = .ok (.iconst 0, 1) := by decide +kernel
theorem dX4_isNoLift_19 : decode cX4_isNoLift 19 = .ok (.ireturn, 1) := by decide +kernel
set_option maxRecDepth 20000 in
theorem ggX4_isNone_X4_isNoLift : GoodIn wsX4_isNone wsX4_isNoLift := goodIn_r _ [5, 6, 7, 8, 4, 9, 15, 16, 17, 18, 19, 20, 21, 22, 23, 24, 25, 26, 27, 28, 29, 30, 31, 32, 33, 34, 35, 36, 37, 38, 39, 40, 41, 42] (by decide +kernel) (by decide +kernel)
set_option maxRecDepth 20000 in
theorem gX4_isNone_X4_isNoLift : GoodIn wsX4_isNone (wsV RX4 93 RX4 yX4_isNoLift wsX4_isNoLift) := goodIn_app (goodIn_of _ (by decide +kernel)) ggX4_isNone_X4_isNoLift
set_option maxRecDepth 20000 in
theorem ggX4_isNone_X4_fails : GoodIn wsX4_isNone wsX4_fails := goodIn_r _ [13, 14, 15, 16, 17, 18, 19, 20, 21, 22, 23, 24, 25, 26, 27, 28, 29, 30, 31, 32, 33, 34, 35, 36, 37, 38, 39, 40, 41, 42] (by decide +kernel) (by decide +kernel)
set_option maxRecDepth 20000 in
theorem gX4_isNone_X4_fails : GoodIn wsX4_isNone (wsV RX4 97 RX4 yX4_fails wsX4_fails) := goodIn_app (goodIn_of _ (by decide +kernel)) ggX4_isNone_X4_fails
theorem dX4_isNone_0 : decode cX4_isNone 0 = .ok (.aload_n 0, 1) := by decide +kernel
theorem dX4_isNone_1 : decode cX4_isNone 1 = .ok (.aload_n 0, 1) := by decide +kernel
theorem dX4_isNone_2 : decode cX4_isNone 2 = .ok (.iload_n 1, 1) := by decide +kernel
theorem dX4_isNone_3 : decode cX4_isNone 3 = .ok (.invokevirtual 93, 3) := by decide +kernel
theorem dX4_isNone_6 : decode cX4_isNone 6 = .ok (.ifCond .eq 7, 3) := by decide +kernel
theorem dX4_isNone_9 : decode cX4_isNone 9 = .ok (.iconst 1, 1) := by decide +kernel
theorem dX4_isNone_10 : decode cX4_isNone 10 = .ok (.goto 4, 3) := by decide +kernel
theorem dX4_isNone_13 : decode cX4_isNone 13 = .ok (.iconst 0, 1) := by decide +kernel
theorem dX4_isNone_14 : decode cX4_isNone 14 = .ok (.invokevirtual 97, 3) := by decide +kernel
theorem dX4_isNone_17 : decode cX4_isNone 17 = .ok (.ireturn, 1) := by decide +kernel
set_option maxRecDepth 20000 in
theorem ggX4_isNobody_X4_isNoCrane : GoodIn wsX4_isNobody wsX4_isNoCrane := goodIn_r _ [5, 6, 7, 8, 4, 9, 15, 16, 17, 18, 19, 20, 21, 22, 23, 24, 25, 26, 27, 28, 29, 30, 31, 32, 33, 34, 35, 36, 37, 38, 39, 40, 41, 42] (by decide +kernel) (by decide +kernel)
set_option maxRecDepth 20000 in
theorem gX4_isNobody_X4_isNoCrane : GoodIn wsX4_isNobody (wsV RX4 100 RX4 yX4_isNoCrane wsX4_isNoCrane) := goodIn_app (goodIn_of _ (by decide +kernel)) ggX4_isNobody_X4_isNoCrane
set_option maxRecDepth 20000 in
theorem ggX4_isNobody_X4_fails : GoodIn wsX4_isNobody wsX4_fails := goodIn_r _ [13, 14, 15, 16, 17, 18, 19, 20, 21, 22, 23, 24, 25, 26, 27, 28, 29, 30, 31, 32, 33, 34, 35, 36, 37, 38, 39, 40, 41, 42] (by decide +kernel) (by decide +kernel)
set_option maxRecDepth 20000 in
theorem gX4_isNobody_X4_fails : GoodIn wsX4_isNobody (wsV RX4 97 RX4 yX4_fails wsX4_fails) := goodIn_app (goodIn_of _ (by decide +kernel)) ggX4_isNobody_X4_fails
theorem dX4_isNobody_0 : decode cX4_isNobody 0 = .ok (.aload_n 0, 1) := by decide +kernel
theorem dX4_isNobody_1 : decode cX4_isNobody 1 = .ok (.aload_n 0, 1) := by decide +kernel
theorem dX4_isNobody_2 : decode cX4_isNobody 2 = .ok (.iload_n 1, 1) := by decide +kernel
theorem dX4_isNobody_3 : decode cX4_isNobody 3 = .ok (.invokevirtual 100, 3) := by decide +kernel
theorem dX4_isNobody_6 : decode cX4_isNobody 6 = .ok (.ifCond .eq 7, 3) := by decide +kernel
theorem dX4_isNobody_9 : decode cX4_isNobody 9 = .ok (.iconst 1, 1) := by decide +kernel
theorem dX4_isNobody_10 : decode cX4_isNobody 10 = .ok (.goto 4, 3) := by decide +kernel
theorem dX4_isNobody_13 : decode cX4_isNobody 13 = .ok (.iconst 0, 1) := by decide +kernel
theorem dX4_isNobody_14 : decode cX4_isNobody 14 = .ok (.invokevirtual 97, 3) := by decide +kernel
theorem dX4_isNobody_17 : decode cX4_isNobody 17 = .ok (.ireturn, 1) := by decide +kernel
set_option maxRecDepth 20000 in
theorem ggX4_addCrane_X4_isPlace : GoodIn wsX4_addCrane wsX4_isPlace := goodIn_r _ [10, 11, 12, 9, 13] (by decide +kernel) (by decide +kernel)
set_option maxRecDepth 20000 in
theorem gX4_addCrane_X4_isPlace : GoodIn wsX4_addCrane (va_wsS RX4 103 yX4_isPlace wsX4_isPlace) := goodIn_app (goodIn_of _ (by decide +kernel)) ggX4_addCrane_X4_isPlace
set_option maxRecDepth 20000 in
theorem ggX4_addCrane_X4_in : GoodIn wsX4_addCrane wsX4_in := goodIn_r _ [13] (by decide +kernel) (by decide +kernel)
set_option maxRecDepth 20000 in
theorem gX4_addCrane_X4_in : GoodIn wsX4_addCrane (va_wsS RX4 83 yX4_in wsX4_in) := goodIn_app (goodIn_of _ (by decide +kernel)) ggX4_addCrane_X4_in
set_option maxRecDepth 20000 in
theorem ggX4_addCrane_X4_fails : GoodIn wsX4_addCrane wsX4_fails := goodIn_r _ [17, 18, 19, 20, 21, 22, 23, 24, 25, 26, 27, 28, 29, 30, 31, 32, 33, 34, 35, 36, 37, 38, 39, 40, 41, 42, 43, 44, 45, 46] (by decide +kernel) (by decide +kernel)
set_option maxRecDepth 20000 in
theorem gX4_addCrane_X4_fails : GoodIn wsX4_addCrane (wsV RX4 97 RX4 yX4_fails wsX4_fails) := goodIn_app (goodIn_of _ (by decide +kernel)) ggX4_addCrane_X4_fails
theorem dX4_addCrane_0 : decode cX4_addCrane 0 = .ok (.iload_n 1, 1) := by decide +kernel
theorem dX4_addCrane_1 : decode cX4_addCrane 1 = .ok (.iload_n 2, 1) := by decide +kernel
theorem dX4_addCrane_2 : decode cX4_addCrane 2 = .ok (.invokestatic 103, 3) := by decide +kernel
theorem dX4_addCrane_5 : decode cX4_addCrane 5 = .ok (.ifCond .eq 41, 3) := by decide +kernel
theorem dX4_addCrane_8 : decode cX4_addCrane 8 = .ok (.iload_n 3, 1) := by decide +kernel
theorem dX4_addCrane_9 : decode cX4_addCrane 9 = .ok (.iconst 1, 1) := by decide +kernel
theorem dX4_addCrane_10 : decode cX4_addCrane 10 = .ok (.bipush 40, 2) := by decide +kernel
theorem dX4_addCrane_12 : decode cX4_addCrane 12 = .ok (.invokestatic 83, 3) := by decide +kernel
theorem dX4_addCrane_15 : decode cX4_addCrane 15 = .ok (.ifCond .eq 31, 3) := by decide +kernel
theorem dX4_addCrane_18 : decode cX4_addCrane 18 = .ok (.iload 4, 2) := by decide +kernel
theorem dX4_addCrane_20 : decode cX4_addCrane 20 = .ok (.iconst 1, 1) := by decide +kernel
theorem dX4_addCrane_21 : decode cX4_addCrane 21 = .ok (.sipush 999, 3) := by decide +kernel
theorem dX4_addCrane_24 : decode cX4_addCrane 24 = .ok (.invokestatic 83, 3) := by decide +kernel
theorem dX4_addCrane_27 : decode cX4_addCrane 27 = .ok (.ifCond .eq 19, 3) := by decide +kernel
theorem dX4_addCrane_30 : decode cX4_addCrane 30 = .ok (.iload 5, 2) := by decide +kernel
theorem dX4_addCrane_32 : decode cX4_addCrane 32 = .ok (.iconst 1, 1) := by decide +kernel
theorem dX4_addCrane_33 : decode cX4_addCrane 33 = .ok (.sipush 9999, 3) := by decide +kernel
theorem dX4_addCrane_36 : decode cX4_addCrane 36 = .ok (.invokestatic 83, 3) := by decide +kernel
theorem dX4_addCrane_39 : decode cX4_addCrane 39 = .ok (.ifCond .eq 7, 3) := by decide +kernel
theorem dX4_addCrane_42 : decode cX4_addCrane 42 = .ok (.iconst 1, 1) := by decide +kernel
theorem dX4_addCrane_43 : decode cX4_addCrane 43 = .ok (.goto 4, 3) := by decide +kernel
theorem dX4_addCrane_46 : decode cX4_addCrane 46 = .ok (.iconst 0, 1) := by decide +kernel
theorem dX4_addCrane_47 : decode cX4_addCrane 47 = .ok (.istore 6, 2) := by decide +kernel
theorem dX4_addCrane_49 : decode cX4_addCrane 49 = .ok (.aload_n 0, 1) := by decide +kernel
theorem dX4_addCrane_50 : decode cX4_addCrane 50 = .ok (.iload 6, 2) := by decide +kernel
theorem dX4_addCrane_52 : decode cX4_addCrane 52 = .ok (.ifCond .ne 7, 3) := by decide +kernel
theorem dX4_addCrane_55 : decode cX4_addCrane 55 = .ok (.iconst 1, 1) := by decide +kernel
theorem dX4_addCrane_56 : decode cX4_addCrane 56 = .ok (.goto 16, 3) := by decide +kernel
theorem dX4_addCrane_59 : decode cX4_addCrane 59 = .ok (.aload_n 0, 1) := by decide +kernel
theorem dX4_addCrane_60 : decode cX4_addCrane 60 = .ok (.getfield 87, 3) := by decide +kernel
theorem dX4_addCrane_63 : decode cX4_addCrane 63 = .ok (.iconst 5, 1) := by decide +kernel
theorem dX4_addCrane_64 : decode cX4_addCrane 64 = .ok (.if_icmp .ne 7, 3) := by decide +kernel
theorem dX4_addCrane_67 : decode cX4_addCrane 67 = .ok (.iconst 2, 1) := by decide +kernel
theorem dX4_addCrane_68 : decode cX4_addCrane 68 = .ok (.goto 4, 3) := by decide +kernel
theorem dX4_addCrane_71 : decode cX4_addCrane 71 = .ok (.iconst 0, 1) := by decide +kernel
theorem dX4_addCrane_72 : decode cX4_addCrane 72 = .ok (.invokevirtual 97, 3) := by decide +kernel
theorem dX4_addCrane_75 : decode cX4_addCrane 75 = .ok (.ifCond .eq 5, 3) := by decide +kernel
theorem dX4_addCrane_78 : decode cX4_addCrane 78 = .ok (.iconst 0, 1) := by decide +kernel
theorem dX4_addCrane_79 : decode cX4_addCrane 79 = .ok (.ireturn, 1) := by decide +kernel
theorem dX4_addCrane_80 : decode cX4_addCrane 80 = .ok (.aload_n 0, 1) := by decide +kernel
theorem dX4_addCrane_81 : decode cX4_addCrane 81 = .ok (.getfield 7, 3) := by decide +kernel
theorem dX4_addCrane_84 : decode cX4_addCrane 84 = .ok (.aload_n 0, 1) := by decide +kernel
theorem dX4_addCrane_85 : decode cX4_addCrane 85 = .ok (.getfield 87, 3) := by decide +kernel
theorem dX4_addCrane_88 : decode cX4_addCrane 88 = .ok (.iload_n 1, 1) := by decide +kernel
theorem dX4_addCrane_89 : decode cX4_addCrane 89 = .ok (.iastore, 1) := by decide +kernel
theorem dX4_addCrane_90 : decode cX4_addCrane 90 = .ok (.aload_n 0, 1) := by decide +kernel
theorem dX4_addCrane_91 : decode cX4_addCrane 91 = .ok (.getfield 13, 3) := by decide +kernel
theorem dX4_addCrane_94 : decode cX4_addCrane 94 = .ok (.aload_n 0, 1) := by decide +kernel
theorem dX4_addCrane_95 : decode cX4_addCrane 95 = .ok (.getfield 87, 3) := by decide +kernel
theorem dX4_addCrane_98 : decode cX4_addCrane 98 = .ok (.iload_n 2, 1) := by decide +kernel
theorem dX4_addCrane_99 : decode cX4_addCrane 99 = .ok (.iastore, 1) := by decide +kernel
theorem dX4_addCrane_100 : decode cX4_addCrane 100 = .ok (.aload_n 0, 1) := by decide +kernel
theorem dX4_addCrane_101 : decode cX4_addCrane 101 = .ok (.getfield 16, 3) := by decide +kernel
theorem dX4_addCrane_104 : decode cX4_addCrane 104 = .ok (.aload_n 0, 1) := by decide +kernel
theorem dX4_addCrane_105 : decode cX4_addCrane 105 = .ok (.getfield 87, 3) := by decide +kernel
theorem dX4_addCrane_108 : decode cX4_addCrane 108 = .ok (.iload_n 3, 1) := by decide +kernel
theorem dX4_addCrane_109 : decode cX4_addCrane 109 = .ok (.iastore, 1) := by decide +kernel
theorem dX4_addCrane_110 : decode cX4_addCrane 110 = .ok (.aload_n 0, 1) := by decide +kernel
theorem dX4_addCrane_111 : decode cX4_addCrane 111 = .ok (.getfield 19, 3) := by decide +kernel
theorem dX4_addCrane_114 : decode cX4_addCrane 114 = .ok (.aload_n 0, 1) := by decide +kernel
theorem dX4_addCrane_115 : decode cX4_addCrane 115 = .ok (.getfield 87, 3) := by decide +kernel
theorem dX4_addCrane_118 : decode cX4_addCrane 118 = .ok (.iload 4, 2) := by decide +kernel
theorem dX4_addCrane_120 : decode cX4_addCrane 120 = .ok (.iastore, 1) := by decide +kernel
theorem dX4_addCrane_121 : decode cX4_addCrane 121 = .ok (.aload_n 0, 1) := by decide +kernel
theorem dX4_addCrane_122 : decode cX4_addCrane 122 = .ok (.getfield 22, 3) := by decide +kernel
theorem dX4_addCrane_125 : decode cX4_addCrane 125 = .ok (.aload_n 0, 1) := by decide +kernel
theorem dX4_addCrane_126 : decode cX4_addCrane 126 = .ok (.getfield 87, 3) := by decide +kernel
theorem dX4_addCrane_129 : decode cX4_addCrane 129 = .ok (.iload 5, 2) := by decide +kernel
theorem dX4_addCrane_131 : decode cX4_addCrane 131 = .ok (.iastore, 1) := by decide +kernel
theorem dX4_addCrane_132 : decode cX4_addCrane 132 = .ok (.aload_n 0, 1) := by decide +kernel
theorem dX4_addCrane_133 : decode cX4_addCrane 133 = .ok (.dup, 1) := by decide +kernel
theorem dX4_addCrane_134 : decode cX4_addCrane 134 = .ok (.getfield 87, 3) := by decide +kernel
theorem dX4_addCrane_137 : decode cX4_addCrane 137 = .ok (.iconst 1, 1) := by decide +kernel
theorem dX4_addCrane_138 : decode cX4_addCrane 138 = .ok (.iadd, 1) := by decide +kernel
theorem dX4_addCrane_139 : decode cX4_addCrane 139 = .ok (.putfield 87, 3) := by decide +kernel
theorem dX4_addCrane_142 : decode cX4_addCrane 142 = .ok (.aload_n 0, 1) := by decide +kernel
theorem dX4_addCrane_143 : decode cX4_addCrane 143 = .ok (.getfield 87, 3) := by decide +kernel
theorem dX4_addCrane_146 : decode cX4_addCrane 146 = .ok (.iconst 1, 1) := by decide +kernel
theorem dX4_addCrane_147 : decode cX4_addCrane 147 = .ok (.isub, 1) := by decide +kernel
theorem dX4_addCrane_148 : decode cX4_addCrane 148 = .ok (.ireturn, 1) := by decide +kernel
theorem dX4_permitted_0 : decode cX4_permitted 0 = .ok (.iconst 0, 1) := by decide +kernel
theorem dX4_permitted_1 : decode cX4_permitted 1 = .ok (.istore_n 2, 1) := by decide +kernel
theorem dX4_permitted_2 : decode cX4_permitted 2 = .ok (.iconst 0, 1) := by decide +kernel
theorem dX4_permitted_3 : decode cX4_permitted 3 = .ok (.istore_n 3, 1) := by decide +kernel
theorem dX4_permitted_4 : decode cX4_permitted 4 = .ok (.iload_n 3, 1) := by decide +kernel
theorem dX4_permitted_5 : decode cX4_permitted 5 = .ok (.bipush 24, 2) := by decide +kernel
theorem dX4_permitted_7 : decode cX4_permitted 7 = .ok (.if_icmp .ge 31, 3) := by decide +kernel
theorem dX4_permitted_10 : decode cX4_permitted 10 = .ok (.iload_n 2, 1) := by decide +kernel
theorem dX4_permitted_11 : decode cX4_permitted 11 = .ok (.aload_n 0, 1) := by decide +kernel
theorem dX4_permitted_12 : decode cX4_permitted 12 = .ok (.getfield 25, 3) := by decide +kernel
theorem dX4_permitted_15 : decode cX4_permitted 15 = .ok (.bipush 24, 2) := by decide +kernel
theorem dX4_permitted_17 : decode cX4_permitted 17 = .ok (.iload_n 1, 1) := by decide +kernel
theorem dX4_permitted_18 : decode cX4_permitted 18 = .ok (.imul, 1) := by decide +kernel
theorem dX4_permitted_19 : decode cX4_permitted 19 = .ok (.iload_n 3, 1) := by decide +kernel
theorem dX4_permitted_20 : decode cX4_permitted 20 = .ok (.iadd, 1) := by decide +kernel
theorem dX4_permitted_21 : decode cX4_permitted 21 = .ok (.baload, 1) := by decide +kernel
theorem dX4_permitted_22 : decode cX4_permitted 22 = .ok (.ifCond .eq 7, 3) := by decide +kernel
theorem dX4_permitted_25 : decode cX4_permitted 25 = .ok (.iconst 1, 1) := by decide +kernel
theorem dX4_permitted_26 : decode cX4_permitted 26 = .ok (.goto 4, 3) := by decide +kernel
theorem dX4_permitted_29 : decode cX4_permitted 29 = .ok (.iconst 0, 1) := by decide +kernel
theorem dX4_permitted_30 : decode cX4_permitted 30 = .ok (.iadd, 1) := by decide +kernel
theorem dX4_permitted_31 : decode cX4_permitted 31 = .ok (.istore_n 2, 1) := by decide +kernel
theorem dX4_permitted_32 : decode cX4_permitted 32 = .ok (.iinc 3 1, 3) := by decide +kernel
theorem dX4_permitted_35 : decode cX4_permitted 35 = .ok (.goto (-31), 3) := by decide +kernel
theorem dX4_permitted_38 : decode cX4_permitted 38 = .ok (.iload_n 2, 1) := by decide +kernel
theorem dX4_permitted_39 : decode cX4_permitted 39 = .ok (.ireturn, 1) := by decide +kernel
set_option maxRecDepth 20000 in
theorem ggX4_isNoSpan_X4_isNoCrane : GoodIn wsX4_isNoSpan wsX4_isNoCrane := goodIn_r _ [5, 6, 7, 8, 4, 9, 15, 16, 17, 18, 19, 20, 21, 22, 23, 24, 25, 26, 27, 28, 29, 30, 31, 32, 33, 34, 35, 36, 37, 38, 39, 40, 41, 42] (by decide +kernel) (by decide +kernel)
set_option maxRecDepth 20000 in
theorem gX4_isNoSpan_X4_isNoCrane : GoodIn wsX4_isNoSpan (wsV RX4 100 RX4 yX4_isNoCrane wsX4_isNoCrane) := goodIn_app (goodIn_of _ (by decide +kernel)) ggX4_isNoSpan_X4_isNoCrane
set_option maxRecDepth 20000 in
theorem ggX4_isNoSpan_X4_in : GoodIn wsX4_isNoSpan wsX4_in := goodIn_r _ [9] (by decide +kernel) (by decide +kernel)
set_option maxRecDepth 20000 in
theorem gX4_isNoSpan_X4_in : GoodIn wsX4_isNoSpan (va_wsS RX4 83 yX4_in wsX4_in) := goodIn_app (goodIn_of _ (by decide +kernel)) ggX4_isNoSpan_X4_in
set_option maxRecDepth 20000 in
theorem ggX4_isNoSpan_X4_fails : GoodIn wsX4_isNoSpan wsX4_fails := goodIn_r _ [13, 14, 15, 16, 17, 18, 19, 20, 21, 22, 23, 24, 25, 26, 27, 28, 29, 30, 31, 32, 33, 34, 35, 36, 37, 38, 39, 40, 41, 42] (by decide +kernel) (by decide +kernel)
set_option maxRecDepth 20000 in
theorem gX4_isNoSpan_X4_fails : GoodIn wsX4_isNoSpan (wsV RX4 97 RX4 yX4_fails wsX4_fails) := goodIn_app (goodIn_of _ (by decide +kernel)) ggX4_isNoSpan_X4_fails
theorem dX4_isNoSpan_0 : decode cX4_isNoSpan 0 = .ok (.aload_n 0, 1) := by decide +kernel
theorem dX4_isNoSpan_1 : decode cX4_isNoSpan 1 = .ok (.aload_n 0, 1) := by decide +kernel
theorem dX4_isNoSpan_2 : decode cX4_isNoSpan 2 = .ok (.iload_n 1, 1) := by decide +kernel
theorem dX4_isNoSpan_3 : decode cX4_isNoSpan 3 = .ok (.invokevirtual 100, 3) := by decide +kernel
theorem dX4_isNoSpan_6 : decode cX4_isNoSpan 6 = .ok (.ifCond .eq 7, 3) := by decide +kernel
theorem dX4_isNoSpan_9 : decode cX4_isNoSpan 9 = .ok (.iconst 1, 1) := by decide +kernel
theorem dX4_isNoSpan_10 : decode cX4_isNoSpan 10 = .ok (.goto 36, 3) := by decide +kernel
theorem dX4_isNoSpan_13 : decode cX4_isNoSpan 13 = .ok (.iload_n 2, 1) := by decide +kernel
theorem dX4_isNoSpan_14 : decode cX4_isNoSpan 14 = .ok (.iconst 0, 1) := by decide +kernel
theorem dX4_isNoSpan_15 : decode cX4_isNoSpan 15 = .ok (.bipush 23, 2) := by decide +kernel
theorem dX4_isNoSpan_17 : decode cX4_isNoSpan 17 = .ok (.invokestatic 83, 3) := by decide +kernel
theorem dX4_isNoSpan_20 : decode cX4_isNoSpan 20 = .ok (.ifCond .eq 21, 3) := by decide +kernel
theorem dX4_isNoSpan_23 : decode cX4_isNoSpan 23 = .ok (.iload_n 3, 1) := by decide +kernel
theorem dX4_isNoSpan_24 : decode cX4_isNoSpan 24 = .ok (.iconst 1, 1) := by decide +kernel
theorem dX4_isNoSpan_25 : decode cX4_isNoSpan 25 = .ok (.bipush 24, 2) := by decide +kernel
theorem dX4_isNoSpan_27 : decode cX4_isNoSpan 27 = .ok (.invokestatic 83, 3) := by decide +kernel
theorem dX4_isNoSpan_30 : decode cX4_isNoSpan 30 = .ok (.ifCond .eq 11, 3) := by decide +kernel
theorem dX4_isNoSpan_33 : decode cX4_isNoSpan 33 = .ok (.iload_n 2, 1) := by decide +kernel
theorem dX4_isNoSpan_34 : decode cX4_isNoSpan 34 = .ok (.iload_n 3, 1) := by decide +kernel
theorem dX4_isNoSpan_35 : decode cX4_isNoSpan 35 = .ok (.iadd, 1) := by decide +kernel
theorem dX4_isNoSpan_36 : decode cX4_isNoSpan 36 = .ok (.bipush 24, 2) := by decide +kernel
theorem dX4_isNoSpan_38 : decode cX4_isNoSpan 38 = .ok (.if_icmp .le 7, 3) := by decide +kernel
theorem dX4_isNoSpan_41 : decode cX4_isNoSpan 41 = .ok (.iconst 2, 1) := by decide +kernel
theorem dX4_isNoSpan_42 : decode cX4_isNoSpan 42 = .ok (.goto 4, 3) := by decide +kernel
theorem dX4_isNoSpan_45 : decode cX4_isNoSpan 45 = .ok (.iconst 0, 1) := by decide +kernel
theorem dX4_isNoSpan_46 : decode cX4_isNoSpan 46 = .ok (.invokevirtual 97, 3) := by decide +kernel
theorem dX4_isNoSpan_49 : decode cX4_isNoSpan 49 = .ok (.ireturn, 1) := by decide +kernel
set_option maxRecDepth 20000 in
theorem ggX4_permit_X4_isNoSpan : GoodIn wsX4_permit wsX4_isNoSpan := goodIn_r _ [6, 7, 8, 9, 5, 10, 11, 12, 13, 14, 15, 16, 17, 18, 19, 24, 25, 26, 27, 28, 29, 30, 31, 32, 33, 34, 35, 36, 37, 38, 39, 40, 41, 42, 43, 44, 45, 46, 47, 48, 49, 50, 51] (by decide +kernel) (by decide +kernel)
set_option maxRecDepth 20000 in
theorem gX4_permit_X4_isNoSpan : GoodIn wsX4_permit (wsV RX4 107 RX4 yX4_isNoSpan wsX4_isNoSpan) := goodIn_app (goodIn_of _ (by decide +kernel)) ggX4_permit_X4_isNoSpan
set_option maxRecDepth 20000 in
theorem ggX4_permit_X4_permitted : GoodIn wsX4_permit wsX4_permitted := goodIn_r _ [23, 1, 24, 25, 26, 27, 28, 29, 30, 31, 32, 33, 34, 35, 36, 37, 38, 39, 40, 41, 42, 43, 44, 45, 46, 47, 48, 49, 50, 51] (by decide +kernel) (by decide +kernel)
set_option maxRecDepth 20000 in
theorem gX4_permit_X4_permitted : GoodIn wsX4_permit (wsV RX4 110 RX4 yX4_permitted wsX4_permitted) := goodIn_app (goodIn_of _ (by decide +kernel)) ggX4_permit_X4_permitted
theorem dX4_permit_0 : decode cX4_permit 0 = .ok (.aload_n 0, 1) := by decide +kernel
theorem dX4_permit_1 : decode cX4_permit 1 = .ok (.iload_n 1, 1) := by decide +kernel
theorem dX4_permit_2 : decode cX4_permit 2 = .ok (.iload_n 2, 1) := by decide +kernel
theorem dX4_permit_3 : decode cX4_permit 3 = .ok (.iload_n 3, 1) := by decide +kernel
theorem dX4_permit_4 : decode cX4_permit 4 = .ok (.invokevirtual 107, 3) := by decide +kernel
theorem dX4_permit_7 : decode cX4_permit 7 = .ok (.ifCond .eq 5, 3) := by decide +kernel
theorem dX4_permit_10 : decode cX4_permit 10 = .ok (.iconst 0, 1) := by decide +kernel
theorem dX4_permit_11 : decode cX4_permit 11 = .ok (.ireturn, 1) := by decide +kernel
theorem dX4_permit_12 : decode cX4_permit 12 = .ok (.iload_n 2, 1) := by decide +kernel
theorem dX4_permit_13 : decode cX4_permit 13 = .ok (.istore 4, 2) := by decide +kernel
theorem dX4_permit_15 : decode cX4_permit 15 = .ok (.iload 4, 2) := by decide +kernel
theorem dX4_permit_17 : decode cX4_permit 17 = .ok (.iload_n 2, 1) := by decide +kernel
theorem dX4_permit_18 : decode cX4_permit 18 = .ok (.iload_n 3, 1) := by decide +kernel
theorem dX4_permit_19 : decode cX4_permit 19 = .ok (.iadd, 1) := by decide +kernel
theorem dX4_permit_20 : decode cX4_permit 20 = .ok (.if_icmp .ge 22, 3) := by decide +kernel
theorem dX4_permit_23 : decode cX4_permit 23 = .ok (.aload_n 0, 1) := by decide +kernel
theorem dX4_permit_24 : decode cX4_permit 24 = .ok (.getfield 25, 3) := by decide +kernel
theorem dX4_permit_27 : decode cX4_permit 27 = .ok (.bipush 24, 2) := by decide +kernel
theorem dX4_permit_29 : decode cX4_permit 29 = .ok (.iload_n 1, 1) := by decide +kernel
theorem dX4_permit_30 : decode cX4_permit 30 = .ok (.imul, 1) := by decide +kernel
theorem dX4_permit_31 : decode cX4_permit 31 = .ok (.iload 4, 2) := by decide +kernel
theorem dX4_permit_33 : decode cX4_permit 33 = .ok (.iadd, 1) := by decide +kernel
theorem dX4_permit_34 : decode cX4_permit 34 = .ok (.iconst 1, 1) := by decide +kernel
theorem dX4_permit_35 : decode cX4_permit 35 = .ok (.bastore, 1) := by decide +kernel
theorem dX4_permit_36 : decode cX4_permit 36 = .ok (.iinc 4 1, 3) := by decide +kernel
theorem dX4_permit_39 : decode cX4_permit 39 = .ok (.goto (-24), 3) := by decide +kernel
theorem dX4_permit_42 : decode cX4_permit 42 = .ok (.aload_n 0, 1) := by decide +kernel
theorem dX4_permit_43 : decode cX4_permit 43 = .ok (.iload_n 1, 1) := by decide +kernel
theorem dX4_permit_44 : decode cX4_permit 44 = .ok (.invokevirtual 110, 3) := by decide +kernel
theorem dX4_permit_47 : decode cX4_permit 47 = .ok (.ireturn, 1) := by decide +kernel
set_option maxRecDepth 20000 in
theorem ggX4_endPermit_X4_isNoSpan : GoodIn wsX4_endPermit wsX4_isNoSpan := goodIn_r _ [6, 7, 8, 9, 5, 10, 11, 12, 13, 14, 15, 16, 17, 18, 19, 55, 56, 57, 58, 59, 60, 61, 62, 63, 64, 65, 66, 67, 68, 69, 70, 71, 72, 73, 74, 75, 76, 77, 78, 79, 80, 81, 82] (by decide +kernel) (by decide +kernel)
set_option maxRecDepth 20000 in
theorem gX4_endPermit_X4_isNoSpan : GoodIn wsX4_endPermit (wsV RX4 107 RX4 yX4_isNoSpan wsX4_isNoSpan) := goodIn_app (goodIn_of _ (by decide +kernel)) ggX4_endPermit_X4_isNoSpan
set_option maxRecDepth 20000 in
theorem ggX4_endPermit_X4_drops : GoodIn wsX4_endPermit wsX4_drops := goodIn_ca (goodIn_r _ [23, 24, 25, 26, 27, 28, 29, 30, 31, 5, 32, 33, 34, 35, 36, 37, 38, 39, 40, 41, 42, 43, 44, 45, 46, 47, 48, 49, 50, 51, 52, 53, 54, 1, 55, 56, 57, 58, 59, 60, 61, 62, 63, 64, 65, 66, 67, 68, 69, 70, 71, 72, 73, 74, 75, 76, 77, 78, 79, 80, 81, 82] (by decide +kernel) (by decide +kernel)) (goodIn_sub (fun _ h => List.mem_cons_of_mem _ (List.mem_append_right _ h)) (by decide +kernel))
set_option maxRecDepth 20000 in
theorem gX4_endPermit_X4_drops : GoodIn wsX4_endPermit (wsV RX4 114 RX4 yX4_drops wsX4_drops) := goodIn_app (goodIn_of _ (by decide +kernel)) ggX4_endPermit_X4_drops
theorem dX4_endPermit_0 : decode cX4_endPermit 0 = .ok (.aload_n 0, 1) := by decide +kernel
theorem dX4_endPermit_1 : decode cX4_endPermit 1 = .ok (.iload_n 1, 1) := by decide +kernel
theorem dX4_endPermit_2 : decode cX4_endPermit 2 = .ok (.iload_n 2, 1) := by decide +kernel
theorem dX4_endPermit_3 : decode cX4_endPermit 3 = .ok (.iload_n 3, 1) := by decide +kernel
theorem dX4_endPermit_4 : decode cX4_endPermit 4 = .ok (.invokevirtual 107, 3) := by decide +kernel
theorem dX4_endPermit_7 : decode cX4_endPermit 7 = .ok (.ifCond .eq 5, 3) := by decide +kernel
theorem dX4_endPermit_10 : decode cX4_endPermit 10 = .ok (.iconst 0, 1) := by decide +kernel
theorem dX4_endPermit_11 : decode cX4_endPermit 11 = .ok (.ireturn, 1) := by decide +kernel
theorem dX4_endPermit_12 : decode cX4_endPermit 12 = .ok (.iload_n 2, 1) := by decide +kernel
theorem dX4_endPermit_13 : decode cX4_endPermit 13 = .ok (.istore 4, 2) := by decide +kernel
theorem dX4_endPermit_15 : decode cX4_endPermit 15 = .ok (.iload 4, 2) := by decide +kernel
theorem dX4_endPermit_17 : decode cX4_endPermit 17 = .ok (.iload_n 2, 1) := by decide +kernel
theorem dX4_endPermit_18 : decode cX4_endPermit 18 = .ok (.iload_n 3, 1) := by decide +kernel
theorem dX4_endPermit_19 : decode cX4_endPermit 19 = .ok (.iadd, 1) := by decide +kernel
theorem dX4_endPermit_20 : decode cX4_endPermit 20 = .ok (.if_icmp .ge 22, 3) := by decide +kernel
theorem dX4_endPermit_23 : decode cX4_endPermit 23 = .ok (.aload_n 0, 1) := by decide +kernel
theorem dX4_endPermit_24 : decode cX4_endPermit 24 = .ok (.getfield 25, 3) := by decide +kernel
theorem dX4_endPermit_27 : decode cX4_endPermit 27 = .ok (.bipush 24, 2) := by decide +kernel
theorem dX4_endPermit_29 : decode cX4_endPermit 29 = .ok (.iload_n 1, 1) := by decide +kernel
theorem dX4_endPermit_30 : decode cX4_endPermit 30 = .ok (.imul, 1) := by decide +kernel
theorem dX4_endPermit_31 : decode cX4_endPermit 31 = .ok (.iload 4, 2) := by decide +kernel
theorem dX4_endPermit_33 : decode cX4_endPermit 33 = .ok (.iadd, 1) := by decide +kernel
theorem dX4_endPermit_34 : decode cX4_endPermit 34 = .ok (.iconst 0, 1) := by decide +kernel
theorem dX4_endPermit_35 : decode cX4_endPermit 35 = .ok (.bastore, 1) := by decide +kernel
theorem dX4_endPermit_36 : decode cX4_endPermit 36 = .ok (.iinc 4 1, 3) := by decide +kernel
theorem dX4_endPermit_39 : decode cX4_endPermit 39 = .ok (.goto (-24), 3) := by decide +kernel
theorem dX4_endPermit_42 : decode cX4_endPermit 42 = .ok (.aload_n 0, 1) := by decide +kernel
theorem dX4_endPermit_43 : decode cX4_endPermit 43 = .ok (.invokevirtual 114, 3) := by decide +kernel
theorem dX4_endPermit_46 : decode cX4_endPermit 46 = .ok (.ireturn, 1) := by decide +kernel
set_option maxRecDepth 20000 in
theorem ggX4_setWind_X4_in : GoodIn wsX4_setWind wsX4_in := goodIn_r _ [5] (by decide +kernel) (by decide +kernel)
set_option maxRecDepth 20000 in
theorem gX4_setWind_X4_in : GoodIn wsX4_setWind (va_wsS RX4 83 yX4_in wsX4_in) := goodIn_app (goodIn_of _ (by decide +kernel)) ggX4_setWind_X4_in
set_option maxRecDepth 20000 in
theorem ggX4_setWind_X4_fails : GoodIn wsX4_setWind wsX4_fails := goodIn_r _ [9, 10, 46, 47, 48, 49, 50, 51, 52, 53, 54, 55, 56, 57, 58, 59, 60, 61, 62, 63, 64, 65, 66, 67, 68, 69, 70, 71, 72, 73] (by decide +kernel) (by decide +kernel)
set_option maxRecDepth 20000 in
theorem gX4_setWind_X4_fails : GoodIn wsX4_setWind (wsV RX4 97 RX4 yX4_fails wsX4_fails) := goodIn_app (goodIn_of _ (by decide +kernel)) ggX4_setWind_X4_fails
set_option maxRecDepth 20000 in
theorem ggX4_setWind_X4_drops : GoodIn wsX4_setWind wsX4_drops := goodIn_ca (goodIn_r _ [14, 15, 16, 17, 18, 19, 20, 21, 22, 4, 23, 24, 25, 26, 27, 28, 29, 30, 31, 32, 1, 33, 34, 35, 36, 37, 38, 39, 40, 41, 42, 43, 44, 45, 46, 47, 48, 49, 50, 51, 52, 53, 54, 55, 56, 57, 58, 59, 60, 61, 62, 63, 64, 65, 66, 67, 68, 69, 70, 71, 72, 73] (by decide +kernel) (by decide +kernel)) (goodIn_sub (fun _ h => List.mem_cons_of_mem _ (List.mem_append_right _ h)) (by decide +kernel))
set_option maxRecDepth 20000 in
theorem gX4_setWind_X4_drops : GoodIn wsX4_setWind (wsV RX4 114 RX4 yX4_drops wsX4_drops) := goodIn_app (goodIn_of _ (by decide +kernel)) ggX4_setWind_X4_drops
theorem dX4_setWind_0 : decode cX4_setWind 0 = .ok (.aload_n 0, 1) := by decide +kernel
theorem dX4_setWind_1 : decode cX4_setWind 1 = .ok (.iload_n 1, 1) := by decide +kernel
theorem dX4_setWind_2 : decode cX4_setWind 2 = .ok (.iconst 0, 1) := by decide +kernel
theorem dX4_setWind_3 : decode cX4_setWind 3 = .ok (.bipush 40, 2) := by decide +kernel
theorem dX4_setWind_5 : decode cX4_setWind 5 = .ok (.invokestatic 83, 3) := by decide +kernel
theorem dX4_setWind_8 : decode cX4_setWind 8 = .ok (.ifCond .eq 7, 3) := by decide +kernel
theorem dX4_setWind_11 : decode cX4_setWind 11 = .ok (.iconst 0, 1) := by decide +kernel
theorem dX4_setWind_12 : decode cX4_setWind 12 = .ok (.goto 4, 3) := by decide +kernel
theorem dX4_setWind_15 : decode cX4_setWind 15 = .ok (.iconst 1, 1) := by decide +kernel
theorem dX4_setWind_16 : decode cX4_setWind 16 = .ok (.invokevirtual 97, 3) := by decide +kernel
theorem dX4_setWind_19 : decode cX4_setWind 19 = .ok (.ifCond .eq 5, 3) := by decide +kernel
theorem dX4_setWind_22 : decode cX4_setWind 22 = .ok (.iconst 0, 1) := by decide +kernel
theorem dX4_setWind_23 : decode cX4_setWind 23 = .ok (.ireturn, 1) := by decide +kernel
theorem dX4_setWind_24 : decode cX4_setWind 24 = .ok (.aload_n 0, 1) := by decide +kernel
theorem dX4_setWind_25 : decode cX4_setWind 25 = .ok (.iload_n 1, 1) := by decide +kernel
theorem dX4_setWind_26 : decode cX4_setWind 26 = .ok (.putfield 118, 3) := by decide +kernel
theorem dX4_setWind_29 : decode cX4_setWind 29 = .ok (.aload_n 0, 1) := by decide +kernel
theorem dX4_setWind_30 : decode cX4_setWind 30 = .ok (.invokevirtual 114, 3) := by decide +kernel
theorem dX4_setWind_33 : decode cX4_setWind 33 = .ok (.ireturn, 1) := by decide +kernel
set_option maxRecDepth 20000 in
theorem ggX4_drops_X4_isHeavy : GoodIn wsX4_drops wsX4_isHeavy := goodIn_ca (goodIn_r _ [10, 11, 12, 13, 14, 15, 16, 17, 18, 9, 19, 20, 21, 22, 23, 24, 25, 26, 27, 28, 34, 35, 36, 37, 38, 39, 40, 41, 42, 43, 44, 45, 46, 47, 48, 49, 50, 51, 52, 53, 54, 55, 56, 57, 58, 59, 60, 61] (by decide +kernel) (by decide +kernel)) (goodIn_sub (fun _ h => List.mem_cons_of_mem _ (List.mem_append_right _ h)) (by decide +kernel))
set_option maxRecDepth 20000 in
theorem gX4_drops_X4_isHeavy : GoodIn wsX4_drops (wsV RX4 121 RX4 yX4_isHeavy wsX4_isHeavy) := goodIn_app (goodIn_of _ (by decide +kernel)) ggX4_drops_X4_isHeavy
set_option maxRecDepth 20000 in
theorem ggX4_drops_X4_hasPermit : GoodIn wsX4_drops wsX4_hasPermit := goodIn_r _ [32, 33, 34, 35, 36, 37, 38, 39, 40, 41, 42, 43, 44, 45, 46, 47, 48, 49, 50, 51, 52, 53, 54, 55, 56, 57, 58, 59, 60, 61] (by decide +kernel) (by decide +kernel)
set_option maxRecDepth 20000 in
theorem gX4_drops_X4_hasPermit : GoodIn wsX4_drops (wsV RX4 124 RX4 yX4_hasPermit wsX4_hasPermit) := goodIn_app (goodIn_of _ (by decide +kernel)) ggX4_drops_X4_hasPermit
theorem dX4_drops_0 : decode cX4_drops 0 = .ok (.iconst 0, 1) := by decide +kernel
theorem dX4_drops_1 : decode cX4_drops 1 = .ok (.istore_n 1, 1) := by decide +kernel
theorem dX4_drops_2 : decode cX4_drops 2 = .ok (.iconst 0, 1) := by decide +kernel
theorem dX4_drops_3 : decode cX4_drops 3 = .ok (.istore_n 2, 1) := by decide +kernel
theorem dX4_drops_4 : decode cX4_drops 4 = .ok (.iload_n 2, 1) := by decide +kernel
theorem dX4_drops_5 : decode cX4_drops 5 = .ok (.aload_n 0, 1) := by decide +kernel
theorem dX4_drops_6 : decode cX4_drops 6 = .ok (.getfield 90, 3) := by decide +kernel
theorem dX4_drops_9 : decode cX4_drops 9 = .ok (.if_icmp .ge 73, 3) := by decide +kernel
theorem dX4_drops_12 : decode cX4_drops 12 = .ok (.aload_n 0, 1) := by decide +kernel
theorem dX4_drops_13 : decode cX4_drops 13 = .ok (.getfield 47, 3) := by decide +kernel
theorem dX4_drops_16 : decode cX4_drops 16 = .ok (.iload_n 2, 1) := by decide +kernel
theorem dX4_drops_17 : decode cX4_drops 17 = .ok (.caload, 1) := by decide +kernel
theorem dX4_drops_18 : decode cX4_drops 18 = .ok (.bipush 112, 2) := by decide +kernel
theorem dX4_drops_20 : decode cX4_drops 20 = .ok (.if_icmp .ne 56, 3) := by decide +kernel
theorem dX4_drops_23 : decode cX4_drops 23 = .ok (.aload_n 0, 1) := by decide +kernel
theorem dX4_drops_24 : decode cX4_drops 24 = .ok (.iload_n 2, 1) := by decide +kernel
theorem dX4_drops_25 : decode cX4_drops 25 = .ok (.aload_n 0, 1) := by decide +kernel
theorem dX4_drops_26 : decode cX4_drops 26 = .ok (.getfield 51, 3) := by decide +kernel
theorem dX4_drops_29 : decode cX4_drops 29 = .ok (.iload_n 2, 1) := by decide +kernel
theorem dX4_drops_30 : decode cX4_drops 30 = .ok (.iaload, 1) := by decide +kernel
theorem dX4_drops_31 : decode cX4_drops 31 = .ok (.invokevirtual 121, 3) := by decide +kernel
theorem dX4_drops_34 : decode cX4_drops 34 = .ok (.ifCond .ne 31, 3) := by decide +kernel
theorem dX4_drops_37 : decode cX4_drops 37 = .ok (.aload_n 0, 1) := by decide +kernel
theorem dX4_drops_38 : decode cX4_drops 38 = .ok (.aload_n 0, 1) := by decide +kernel
theorem dX4_drops_39 : decode cX4_drops 39 = .ok (.getfield 51, 3) := by decide +kernel
theorem dX4_drops_42 : decode cX4_drops 42 = .ok (.iload_n 2, 1) := by decide +kernel
theorem dX4_drops_43 : decode cX4_drops 43 = .ok (.iaload, 1) := by decide +kernel
theorem dX4_drops_44 : decode cX4_drops 44 = .ok (.aload_n 0, 1) := by decide +kernel
theorem dX4_drops_45 : decode cX4_drops 45 = .ok (.getfield 54, 3) := by decide +kernel
theorem dX4_drops_48 : decode cX4_drops 48 = .ok (.iload_n 2, 1) := by decide +kernel
theorem dX4_drops_49 : decode cX4_drops 49 = .ok (.iaload, 1) := by decide +kernel
theorem dX4_drops_50 : decode cX4_drops 50 = .ok (.aload_n 0, 1) := by decide +kernel
theorem dX4_drops_51 : decode cX4_drops 51 = .ok (.getfield 44, 3) := by decide +kernel
theorem dX4_drops_54 : decode cX4_drops 54 = .ok (.iload_n 2, 1) := by decide +kernel
theorem dX4_drops_55 : decode cX4_drops 55 = .ok (.iaload, 1) := by decide +kernel
theorem dX4_drops_56 : decode cX4_drops 56 = .ok (.invokevirtual 124, 3) := by decide +kernel
theorem dX4_drops_59 : decode cX4_drops 59 = .ok (.ifCond .eq 6, 3) := by decide +kernel
theorem dX4_drops_62 : decode cX4_drops 62 = .ok (.goto 14, 3) := by decide +kernel
theorem dX4_drops_65 : decode cX4_drops 65 = .ok (.aload_n 0, 1) := by decide +kernel
theorem dX4_drops_66 : decode cX4_drops 66 = .ok (.getfield 47, 3) := by decide +kernel
theorem dX4_drops_69 : decode cX4_drops 69 = .ok (.iload_n 2, 1) := by decide +kernel
theorem dX4_drops_70 : decode cX4_drops 70 = .ok (.bipush 119, 2) := by decide +kernel
theorem dX4_drops_72 : decode cX4_drops 72 = .ok (.castore, 1) := by decide +kernel
theorem dX4_drops_73 : decode cX4_drops 73 = .ok (.iinc 1 1, 3) := by decide +kernel
theorem dX4_drops_76 : decode cX4_drops 76 = .ok (.iinc 2 1, 3) := by decide +kernel
theorem dX4_drops_79 : decode cX4_drops 79 = .ok (.goto (-75), 3) := by decide +kernel
theorem dX4_drops_82 : decode cX4_drops 82 = .ok (.iload_n 1, 1) := by decide +kernel
theorem dX4_drops_83 : decode cX4_drops 83 = .ok (.ireturn, 1) := by decide +kernel
theorem dX4_away_0 : decode cX4_away 0 = .ok (.aload_n 0, 1) := by decide +kernel
theorem dX4_away_1 : decode cX4_away 1 = .ok (.getfield 7, 3) := by decide +kernel
theorem dX4_away_4 : decode cX4_away 4 = .ok (.iload_n 1, 1) := by decide +kernel
theorem dX4_away_5 : decode cX4_away 5 = .ok (.iaload, 1) := by decide +kernel
theorem dX4_away_6 : decode cX4_away 6 = .ok (.iload_n 2, 1) := by decide +kernel
theorem dX4_away_7 : decode cX4_away 7 = .ok (.isub, 1) := by decide +kernel
theorem dX4_away_8 : decode cX4_away 8 = .ok (.aload_n 0, 1) := by decide +kernel
theorem dX4_away_9 : decode cX4_away 9 = .ok (.getfield 7, 3) := by decide +kernel
theorem dX4_away_12 : decode cX4_away 12 = .ok (.iload_n 1, 1) := by decide +kernel
theorem dX4_away_13 : decode cX4_away 13 = .ok (.iaload, 1) := by decide +kernel
theorem dX4_away_14 : decode cX4_away 14 = .ok (.iload_n 2, 1) := by decide +kernel
theorem dX4_away_15 : decode cX4_away 15 = .ok (.isub, 1) := by decide +kernel
theorem dX4_away_16 : decode cX4_away 16 = .ok (.imul, 1) := by decide +kernel
theorem dX4_away_17 : decode cX4_away 17 = .ok (.aload_n 0, 1) := by decide +kernel
theorem dX4_away_18 : decode cX4_away 18 = .ok (.getfield 13, 3) := by decide +kernel
theorem dX4_away_21 : decode cX4_away 21 = .ok (.iload_n 1, 1) := by decide +kernel
theorem dX4_away_22 : decode cX4_away 22 = .ok (.iaload, 1) := by decide +kernel
theorem dX4_away_23 : decode cX4_away 23 = .ok (.iload_n 3, 1) := by decide +kernel
theorem dX4_away_24 : decode cX4_away 24 = .ok (.isub, 1) := by decide +kernel
theorem dX4_away_25 : decode cX4_away 25 = .ok (.aload_n 0, 1) := by decide +kernel
theorem dX4_away_26 : decode cX4_away 26 = .ok (.getfield 13, 3) := by decide +kernel
theorem dX4_away_29 : decode cX4_away 29 = .ok (.iload_n 1, 1) := by decide +kernel
theorem dX4_away_30 : decode cX4_away 30 = .ok (.iaload, 1) := by decide +kernel
theorem dX4_away_31 : decode cX4_away 31 = .ok (.iload_n 3, 1) := by decide +kernel
theorem dX4_away_32 : decode cX4_away 32 = .ok (.isub, 1) := by decide +kernel
theorem dX4_away_33 : decode cX4_away 33 = .ok (.imul, 1) := by decide +kernel
theorem dX4_away_34 : decode cX4_away 34 = .ok (.iadd, 1) := by decide +kernel
theorem dX4_away_35 : decode cX4_away 35 = .ok (.ireturn, 1) := by decide +kernel
set_option maxRecDepth 20000 in
theorem ggX4_reaches_X4_away : GoodIn wsX4_reaches wsX4_away := goodIn_r _ [6, 7, 8, 9, 10, 11, 12, 13, 14, 15, 16, 17, 18, 19, 20, 21, 22, 23, 24, 25, 26, 27, 28, 29, 30, 31, 32, 33, 34, 35, 36] (by decide +kernel) (by decide +kernel)
set_option maxRecDepth 20000 in
theorem gX4_reaches_X4_away : GoodIn wsX4_reaches (wsV RX4 127 RX4 yX4_away wsX4_away) := goodIn_app (goodIn_of _ (by decide +kernel)) ggX4_reaches_X4_away
theorem dX4_reaches_0 : decode cX4_reaches 0 = .ok (.aload_n 0, 1) := by decide +kernel
theorem dX4_reaches_1 : decode cX4_reaches 1 = .ok (.iload_n 1, 1) := by decide +kernel
theorem dX4_reaches_2 : decode cX4_reaches 2 = .ok (.iload_n 2, 1) := by decide +kernel
theorem dX4_reaches_3 : decode cX4_reaches 3 = .ok (.iload_n 3, 1) := by decide +kernel
theorem dX4_reaches_4 : decode cX4_reaches 4 = .ok (.invokevirtual 127, 3) := by decide +kernel
theorem dX4_reaches_7 : decode cX4_reaches 7 = .ok (.aload_n 0, 1) := by decide +kernel
theorem dX4_reaches_8 : decode cX4_reaches 8 = .ok (.getfield 16, 3) := by decide +kernel
theorem dX4_reaches_11 : decode cX4_reaches 11 = .ok (.iload_n 1, 1) := by decide +kernel
theorem dX4_reaches_12 : decode cX4_reaches 12 = .ok (.iaload, 1) := by decide +kernel
theorem dX4_reaches_13 : decode cX4_reaches 13 = .ok (.aload_n 0, 1) := by decide +kernel
theorem dX4_reaches_14 : decode cX4_reaches 14 = .ok (.getfield 16, 3) := by decide +kernel
theorem dX4_reaches_17 : decode cX4_reaches 17 = .ok (.iload_n 1, 1) := by decide +kernel
theorem dX4_reaches_18 : decode cX4_reaches 18 = .ok (.iaload, 1) := by decide +kernel
theorem dX4_reaches_19 : decode cX4_reaches 19 = .ok (.imul, 1) := by decide +kernel
theorem dX4_reaches_20 : decode cX4_reaches 20 = .ok (.if_icmp .gt 7, 3) := by decide +kernel
theorem dX4_reaches_23 : decode cX4_reaches 23 = .ok (.iconst 1, 1) := by decide +kernel
theorem dX4_reaches_24 : decode cX4_reaches 24 = .ok (.goto 4, 3) := by decide +kernel
theorem dX4_reaches_27 : decode cX4_reaches 27 = .ok (.iconst 0, 1) := by decide +kernel
theorem dX4_reaches_28 : decode cX4_reaches 28 = .ok (.ireturn, 1) := by decide +kernel
set_option maxRecDepth 20000 in
theorem ggX4_limitAt_X4_away : GoodIn wsX4_limitAt wsX4_away := goodIn_r _ [8, 9, 10, 11, 12, 13, 14, 15, 16, 17, 18, 19, 20, 21, 22, 23, 24, 25, 26, 27, 28, 29, 30, 31, 32, 33, 34, 35, 36, 37, 38] (by decide +kernel) (by decide +kernel)
set_option maxRecDepth 20000 in
theorem gX4_limitAt_X4_away : GoodIn wsX4_limitAt (wsV RX4 127 RX4 yX4_away wsX4_away) := goodIn_app (goodIn_of _ (by decide +kernel)) ggX4_limitAt_X4_away
theorem dX4_limitAt_0 : decode cX4_limitAt 0 = .ok (.aload_n 0, 1) := by decide +kernel
theorem dX4_limitAt_1 : decode cX4_limitAt 1 = .ok (.getfield 118, 3) := by decide +kernel
theorem dX4_limitAt_4 : decode cX4_limitAt 4 = .ok (.bipush 20, 2) := by decide +kernel
theorem dX4_limitAt_6 : decode cX4_limitAt 6 = .ok (.if_icmp .le 5, 3) := by decide +kernel
theorem dX4_limitAt_9 : decode cX4_limitAt 9 = .ok (.iconst 0, 1) := by decide +kernel
theorem dX4_limitAt_10 : decode cX4_limitAt 10 = .ok (.ireturn, 1) := by decide +kernel
theorem dX4_limitAt_11 : decode cX4_limitAt 11 = .ok (.iconst 1, 1) := by decide +kernel
theorem dX4_limitAt_12 : decode cX4_limitAt 12 = .ok (.istore 4, 2) := by decide +kernel
theorem dX4_limitAt_14 : decode cX4_limitAt 14 = .ok (.iload 4, 2) := by decide +kernel
theorem dX4_limitAt_16 : decode cX4_limitAt 16 = .ok (.iload 4, 2) := by decide +kernel
theorem dX4_limitAt_18 : decode cX4_limitAt 18 = .ok (.imul, 1) := by decide +kernel
theorem dX4_limitAt_19 : decode cX4_limitAt 19 = .ok (.aload_n 0, 1) := by decide +kernel
theorem dX4_limitAt_20 : decode cX4_limitAt 20 = .ok (.iload_n 1, 1) := by decide +kernel
theorem dX4_limitAt_21 : decode cX4_limitAt 21 = .ok (.iload_n 2, 1) := by decide +kernel
theorem dX4_limitAt_22 : decode cX4_limitAt 22 = .ok (.iload_n 3, 1) := by decide +kernel
theorem dX4_limitAt_23 : decode cX4_limitAt 23 = .ok (.invokevirtual 127, 3) := by decide +kernel
theorem dX4_limitAt_26 : decode cX4_limitAt 26 = .ok (.if_icmp .ge 9, 3) := by decide +kernel
theorem dX4_limitAt_29 : decode cX4_limitAt 29 = .ok (.iinc 4 1, 3) := by decide +kernel
theorem dX4_limitAt_32 : decode cX4_limitAt 32 = .ok (.goto (-18), 3) := by decide +kernel
theorem dX4_limitAt_35 : decode cX4_limitAt 35 = .ok (.aload_n 0, 1) := by decide +kernel
theorem dX4_limitAt_36 : decode cX4_limitAt 36 = .ok (.getfield 22, 3) := by decide +kernel
theorem dX4_limitAt_39 : decode cX4_limitAt 39 = .ok (.iload_n 1, 1) := by decide +kernel
theorem dX4_limitAt_40 : decode cX4_limitAt 40 = .ok (.iaload, 1) := by decide +kernel
theorem dX4_limitAt_41 : decode cX4_limitAt 41 = .ok (.iload 4, 2) := by decide +kernel
theorem dX4_limitAt_43 : decode cX4_limitAt 43 = .ok (.idiv, 1) := by decide +kernel
theorem dX4_limitAt_44 : decode cX4_limitAt 44 = .ok (.aload_n 0, 1) := by decide +kernel
theorem dX4_limitAt_45 : decode cX4_limitAt 45 = .ok (.getfield 19, 3) := by decide +kernel
theorem dX4_limitAt_48 : decode cX4_limitAt 48 = .ok (.iload_n 1, 1) := by decide +kernel
theorem dX4_limitAt_49 : decode cX4_limitAt 49 = .ok (.iaload, 1) := by decide +kernel
theorem dX4_limitAt_50 : decode cX4_limitAt 50 = .ok (.if_icmp .ge 15, 3) := by decide +kernel
theorem dX4_limitAt_53 : decode cX4_limitAt 53 = .ok (.aload_n 0, 1) := by decide +kernel
theorem dX4_limitAt_54 : decode cX4_limitAt 54 = .ok (.getfield 22, 3) := by decide +kernel
theorem dX4_limitAt_57 : decode cX4_limitAt 57 = .ok (.iload_n 1, 1) := by decide +kernel
theorem dX4_limitAt_58 : decode cX4_limitAt 58 = .ok (.iaload, 1) := by decide +kernel
theorem dX4_limitAt_59 : decode cX4_limitAt 59 = .ok (.iload 4, 2) := by decide +kernel
theorem dX4_limitAt_61 : decode cX4_limitAt 61 = .ok (.idiv, 1) := by decide +kernel
theorem dX4_limitAt_62 : decode cX4_limitAt 62 = .ok (.goto 9, 3) := by decide +kernel
theorem dX4_limitAt_65 : decode cX4_limitAt 65 = .ok (.aload_n 0, 1) := by decide +kernel
theorem dX4_limitAt_66 : decode cX4_limitAt 66 = .ok (.getfield 19, 3) := by decide +kernel
theorem dX4_limitAt_69 : decode cX4_limitAt 69 = .ok (.iload_n 1, 1) := by decide +kernel
theorem dX4_limitAt_70 : decode cX4_limitAt 70 = .ok (.iaload, 1) := by decide +kernel
theorem dX4_limitAt_71 : decode cX4_limitAt 71 = .ok (.istore 5, 2) := by decide +kernel
theorem dX4_limitAt_73 : decode cX4_limitAt 73 = .ok (.iload 5, 2) := by decide +kernel
theorem dX4_limitAt_75 : decode cX4_limitAt 75 = .ok (.bipush 100, 2) := by decide +kernel
theorem dX4_limitAt_77 : decode cX4_limitAt 77 = .ok (.iconst 3, 1) := by decide +kernel
theorem dX4_limitAt_78 : decode cX4_limitAt 78 = .ok (.aload_n 0, 1) := by decide +kernel
theorem dX4_limitAt_79 : decode cX4_limitAt 79 = .ok (.getfield 118, 3) := by decide +kernel
theorem dX4_limitAt_82 : decode cX4_limitAt 82 = .ok (.imul, 1) := by decide +kernel
theorem dX4_limitAt_83 : decode cX4_limitAt 83 = .ok (.isub, 1) := by decide +kernel
theorem dX4_limitAt_84 : decode cX4_limitAt 84 = .ok (.imul, 1) := by decide +kernel
theorem dX4_limitAt_85 : decode cX4_limitAt 85 = .ok (.bipush 100, 2) := by decide +kernel
theorem dX4_limitAt_87 : decode cX4_limitAt 87 = .ok (.idiv, 1) := by decide +kernel
theorem dX4_limitAt_88 : decode cX4_limitAt 88 = .ok (.ireturn, 1) := by decide +kernel
set_option maxRecDepth 20000 in
theorem ggX4_air_X4_isBetween : GoodIn wsX4_air wsX4_isBetween := goodIn_r _ [4, 5, 6, 3, 7] (by decide +kernel) (by decide +kernel)
set_option maxRecDepth 20000 in
theorem gX4_air_X4_isBetween : GoodIn wsX4_air (va_wsS RX4 131 yX4_isBetween wsX4_isBetween) := goodIn_app (goodIn_of _ (by decide +kernel)) ggX4_air_X4_isBetween
theorem dX4_air_0 : decode cX4_air 0 = .ok (.lconst 0, 1) := by decide +kernel
theorem dX4_air_1 : decode cX4_air 1 = .ok (.lstore 4, 2) := by decide +kernel
theorem dX4_air_3 : decode cX4_air 3 = .ok (.iconst 0, 1) := by decide +kernel
theorem dX4_air_4 : decode cX4_air 4 = .ok (.istore 6, 2) := by decide +kernel
theorem dX4_air_6 : decode cX4_air 6 = .ok (.iload 6, 2) := by decide +kernel
theorem dX4_air_8 : decode cX4_air 8 = .ok (.bipush 64, 2) := by decide +kernel
theorem dX4_air_10 : decode cX4_air 10 = .ok (.if_icmp .ge 56, 3) := by decide +kernel
theorem dX4_air_13 : decode cX4_air 13 = .ok (.iload 6, 2) := by decide +kernel
theorem dX4_air_15 : decode cX4_air 15 = .ok (.bipush 8, 2) := by decide +kernel
theorem dX4_air_17 : decode cX4_air 17 = .ok (.irem, 1) := by decide +kernel
theorem dX4_air_18 : decode cX4_air 18 = .ok (.iload_n 0, 1) := by decide +kernel
theorem dX4_air_19 : decode cX4_air 19 = .ok (.iconst 5, 1) := by decide +kernel
theorem dX4_air_20 : decode cX4_air 20 = .ok (.idiv, 1) := by decide +kernel
theorem dX4_air_21 : decode cX4_air 21 = .ok (.iload_n 2, 1) := by decide +kernel
theorem dX4_air_22 : decode cX4_air 22 = .ok (.iconst 5, 1) := by decide +kernel
theorem dX4_air_23 : decode cX4_air 23 = .ok (.idiv, 1) := by decide +kernel
theorem dX4_air_24 : decode cX4_air 24 = .ok (.invokestatic 131, 3) := by decide +kernel
theorem dX4_air_27 : decode cX4_air 27 = .ok (.istore 7, 2) := by decide +kernel
theorem dX4_air_29 : decode cX4_air 29 = .ok (.iload 7, 2) := by decide +kernel
theorem dX4_air_31 : decode cX4_air 31 = .ok (.ifCond .eq 29, 3) := by decide +kernel
theorem dX4_air_34 : decode cX4_air 34 = .ok (.iload 6, 2) := by decide +kernel
theorem dX4_air_36 : decode cX4_air 36 = .ok (.bipush 8, 2) := by decide +kernel
theorem dX4_air_38 : decode cX4_air 38 = .ok (.idiv, 1) := by decide +kernel
theorem dX4_air_39 : decode cX4_air 39 = .ok (.iload_n 1, 1) := by decide +kernel
theorem dX4_air_40 : decode cX4_air 40 = .ok (.iconst 5, 1) := by decide +kernel
theorem dX4_air_41 : decode cX4_air 41 = .ok (.idiv, 1) := by decide +kernel
theorem dX4_air_42 : decode cX4_air 42 = .ok (.iload_n 3, 1) := by decide +kernel
theorem dX4_air_43 : decode cX4_air 43 = .ok (.iconst 5, 1) := by decide +kernel
theorem dX4_air_44 : decode cX4_air 44 = .ok (.idiv, 1) := by decide +kernel
theorem dX4_air_45 : decode cX4_air 45 = .ok (.invokestatic 131, 3) := by decide +kernel
theorem dX4_air_48 : decode cX4_air 48 = .ok (.ifCond .eq 12, 3) := by decide +kernel
theorem dX4_air_51 : decode cX4_air 51 = .ok (.lload 4, 2) := by decide +kernel
theorem dX4_air_53 : decode cX4_air 53 = .ok (.lconst 1, 1) := by decide +kernel
theorem dX4_air_54 : decode cX4_air 54 = .ok (.iload 6, 2) := by decide +kernel
theorem dX4_air_56 : decode cX4_air 56 = .ok (.lshl, 1) := by decide +kernel
theorem dX4_air_57 : decode cX4_air 57 = .ok (.lor, 1) := by decide +kernel
theorem dX4_air_58 : decode cX4_air 58 = .ok (.lstore 4, 2) := by decide +kernel
theorem dX4_air_60 : decode cX4_air 60 = .ok (.iinc 6 1, 3) := by decide +kernel
theorem dX4_air_63 : decode cX4_air 63 = .ok (.goto (-57), 3) := by decide +kernel
theorem dX4_air_66 : decode cX4_air 66 = .ok (.lload 4, 2) := by decide +kernel
theorem dX4_air_68 : decode cX4_air 68 = .ok (.lreturn, 1) := by decide +kernel
set_option maxRecDepth 20000 in
theorem ggX4_isBetween_X4_in : GoodIn wsX4_isBetween wsX4_in := goodIn_r _ [4] (by decide +kernel) (by decide +kernel)
set_option maxRecDepth 20000 in
theorem gX4_isBetween_X4_in : GoodIn wsX4_isBetween (va_wsS RX4 83 yX4_in wsX4_in) := goodIn_app (goodIn_of _ (by decide +kernel)) ggX4_isBetween_X4_in
theorem dX4_isBetween_0 : decode cX4_isBetween 0 = .ok (.iload_n 1, 1) := by decide +kernel
theorem dX4_isBetween_1 : decode cX4_isBetween 1 = .ok (.iload_n 2, 1) := by decide +kernel
theorem dX4_isBetween_2 : decode cX4_isBetween 2 = .ok (.if_icmp .ge 12, 3) := by decide +kernel
theorem dX4_isBetween_5 : decode cX4_isBetween 5 = .ok (.iload_n 0, 1) := by decide +kernel
theorem dX4_isBetween_6 : decode cX4_isBetween 6 = .ok (.iload_n 1, 1) := by decide +kernel
theorem dX4_isBetween_7 : decode cX4_isBetween 7 = .ok (.iload_n 2, 1) := by decide +kernel
theorem dX4_isBetween_8 : decode cX4_isBetween 8 = .ok (.invokestatic 83, 3) := by decide +kernel
theorem dX4_isBetween_11 : decode cX4_isBetween 11 = .ok (.goto 9, 3) := by decide +kernel
theorem dX4_isBetween_14 : decode cX4_isBetween 14 = .ok (.iload_n 0, 1) := by decide +kernel
theorem dX4_isBetween_15 : decode cX4_isBetween 15 = .ok (.iload_n 2, 1) := by decide +kernel
theorem dX4_isBetween_16 : decode cX4_isBetween 16 = .ok (.iload_n 1, 1) := by decide +kernel
theorem dX4_isBetween_17 : decode cX4_isBetween 17 = .ok (.invokestatic 83, 3) := by decide +kernel
theorem dX4_isBetween_20 : decode cX4_isBetween 20 = .ok (.ireturn, 1) := by decide +kernel
set_option maxRecDepth 20000 in
theorem ggX4_lays_X4_air : GoodIn wsX4_lays wsX4_air := goodIn_r _ [14, 15, 16, 13, 17, 18, 19, 20] (by decide +kernel) (by decide +kernel)
set_option maxRecDepth 20000 in
theorem gX4_lays_X4_air : GoodIn wsX4_lays (va_wsS RX4 134 yX4_air wsX4_air) := goodIn_app (goodIn_of _ (by decide +kernel)) ggX4_lays_X4_air
theorem dX4_lays_0 : decode cX4_lays 0 = .ok (.aload_n 0, 1) := by decide +kernel
theorem dX4_lays_1 : decode cX4_lays 1 = .ok (.getfield 29, 3) := by decide +kernel
theorem dX4_lays_4 : decode cX4_lays 4 = .ok (.aload_n 0, 1) := by decide +kernel
theorem dX4_lays_5 : decode cX4_lays 5 = .ok (.getfield 90, 3) := by decide +kernel
theorem dX4_lays_8 : decode cX4_lays 8 = .ok (.iload_n 1, 1) := by decide +kernel
theorem dX4_lays_9 : decode cX4_lays 9 = .ok (.iastore, 1) := by decide +kernel
theorem dX4_lays_10 : decode cX4_lays 10 = .ok (.aload_n 0, 1) := by decide +kernel
theorem dX4_lays_11 : decode cX4_lays 11 = .ok (.getfield 32, 3) := by decide +kernel
theorem dX4_lays_14 : decode cX4_lays 14 = .ok (.aload_n 0, 1) := by decide +kernel
theorem dX4_lays_15 : decode cX4_lays 15 = .ok (.getfield 90, 3) := by decide +kernel
theorem dX4_lays_18 : decode cX4_lays 18 = .ok (.iload_n 2, 1) := by decide +kernel
theorem dX4_lays_19 : decode cX4_lays 19 = .ok (.iastore, 1) := by decide +kernel
theorem dX4_lays_20 : decode cX4_lays 20 = .ok (.aload_n 0, 1) := by decide +kernel
theorem dX4_lays_21 : decode cX4_lays 21 = .ok (.getfield 35, 3) := by decide +kernel
theorem dX4_lays_24 : decode cX4_lays 24 = .ok (.aload_n 0, 1) := by decide +kernel
theorem dX4_lays_25 : decode cX4_lays 25 = .ok (.getfield 90, 3) := by decide +kernel
theorem dX4_lays_28 : decode cX4_lays 28 = .ok (.iload_n 3, 1) := by decide +kernel
theorem dX4_lays_29 : decode cX4_lays 29 = .ok (.iastore, 1) := by decide +kernel
theorem dX4_lays_30 : decode cX4_lays 30 = .ok (.aload_n 0, 1) := by decide +kernel
theorem dX4_lays_31 : decode cX4_lays 31 = .ok (.getfield 38, 3) := by decide +kernel
theorem dX4_lays_34 : decode cX4_lays 34 = .ok (.aload_n 0, 1) := by decide +kernel
theorem dX4_lays_35 : decode cX4_lays 35 = .ok (.getfield 90, 3) := by decide +kernel
theorem dX4_lays_38 : decode cX4_lays 38 = .ok (.iload 4, 2) := by decide +kernel
theorem dX4_lays_40 : decode cX4_lays 40 = .ok (.iastore, 1) := by decide +kernel
theorem dX4_lays_41 : decode cX4_lays 41 = .ok (.aload_n 0, 1) := by decide +kernel
theorem dX4_lays_42 : decode cX4_lays 42 = .ok (.getfield 41, 3) := by decide +kernel
theorem dX4_lays_45 : decode cX4_lays 45 = .ok (.aload_n 0, 1) := by decide +kernel
theorem dX4_lays_46 : decode cX4_lays 46 = .ok (.getfield 90, 3) := by decide +kernel
theorem dX4_lays_49 : decode cX4_lays 49 = .ok (.iload 5, 2) := by decide +kernel
theorem dX4_lays_51 : decode cX4_lays 51 = .ok (.iastore, 1) := by decide +kernel
theorem dX4_lays_52 : decode cX4_lays 52 = .ok (.aload_n 0, 1) := by decide +kernel
theorem dX4_lays_53 : decode cX4_lays 53 = .ok (.getfield 44, 3) := by decide +kernel
theorem dX4_lays_56 : decode cX4_lays 56 = .ok (.aload_n 0, 1) := by decide +kernel
theorem dX4_lays_57 : decode cX4_lays 57 = .ok (.getfield 90, 3) := by decide +kernel
theorem dX4_lays_60 : decode cX4_lays 60 = .ok (.iload 6, 2) := by decide +kernel
theorem dX4_lays_62 : decode cX4_lays 62 = .ok (.iastore, 1) := by decide +kernel
theorem dX4_lays_63 : decode cX4_lays 63 = .ok (.aload_n 0, 1) := by decide +kernel
theorem dX4_lays_64 : decode cX4_lays 64 = .ok (.getfield 47, 3) := by decide +kernel
theorem dX4_lays_67 : decode cX4_lays 67 = .ok (.aload_n 0, 1) := by decide +kernel
theorem dX4_lays_68 : decode cX4_lays 68 = .ok (.getfield 90, 3) := by decide +kernel
theorem dX4_lays_71 : decode cX4_lays 71 = .ok (.bipush 119, 2) := by decide +kernel
theorem dX4_lays_73 : decode cX4_lays 73 = .ok (.castore, 1) := by decide +kernel
theorem dX4_lays_74 : decode cX4_lays 74 = .ok (.aload_n 0, 1) := by decide +kernel
theorem dX4_lays_75 : decode cX4_lays 75 = .ok (.getfield 57, 3) := by decide +kernel
theorem dX4_lays_78 : decode cX4_lays 78 = .ok (.aload_n 0, 1) := by decide +kernel
theorem dX4_lays_79 : decode cX4_lays 79 = .ok (.getfield 90, 3) := by decide +kernel
theorem dX4_lays_82 : decode cX4_lays 82 = .ok (.iload 7, 2) := by decide +kernel
theorem dX4_lays_84 : decode cX4_lays 84 = .ok (.iastore, 1) := by decide +kernel
theorem dX4_lays_85 : decode cX4_lays 85 = .ok (.aload_n 0, 1) := by decide +kernel
theorem dX4_lays_86 : decode cX4_lays 86 = .ok (.getfield 60, 3) := by decide +kernel
theorem dX4_lays_89 : decode cX4_lays 89 = .ok (.aload_n 0, 1) := by decide +kernel
theorem dX4_lays_90 : decode cX4_lays 90 = .ok (.getfield 90, 3) := by decide +kernel
theorem dX4_lays_93 : decode cX4_lays 93 = .ok (.iload_n 1, 1) := by decide +kernel
theorem dX4_lays_94 : decode cX4_lays 94 = .ok (.iload_n 2, 1) := by decide +kernel
theorem dX4_lays_95 : decode cX4_lays 95 = .ok (.iload_n 3, 1) := by decide +kernel
theorem dX4_lays_96 : decode cX4_lays 96 = .ok (.iload 4, 2) := by decide +kernel
theorem dX4_lays_98 : decode cX4_lays 98 = .ok (.invokestatic 134, 3) := by decide +kernel
theorem dX4_lays_101 : decode cX4_lays 101 = .ok (.lastore, 1) := by decide +kernel
theorem dX4_lays_102 : decode cX4_lays 102 = .ok (.aload_n 0, 1) := by decide +kernel
theorem dX4_lays_103 : decode cX4_lays 103 = .ok (.dup, 1) := by decide +kernel
theorem dX4_lays_104 : decode cX4_lays 104 = .ok (.getfield 90, 3) := by decide +kernel
theorem dX4_lays_107 : decode cX4_lays 107 = .ok (.iconst 1, 1) := by decide +kernel
theorem dX4_lays_108 : decode cX4_lays 108 = .ok (.iadd, 1) := by decide +kernel
theorem dX4_lays_109 : decode cX4_lays 109 = .ok (.putfield 90, 3) := by decide +kernel
theorem dX4_lays_112 : decode cX4_lays 112 = .ok (.return_, 1) := by decide +kernel
set_option maxRecDepth 20000 in
theorem ggX4_isLift_X4_isPlace : GoodIn wsX4_isLift wsX4_isPlace := goodIn_r _ [4, 5, 6, 3, 7] (by decide +kernel) (by decide +kernel)
set_option maxRecDepth 20000 in
theorem gX4_isLift_X4_isPlace : GoodIn wsX4_isLift (va_wsS RX4 103 yX4_isPlace wsX4_isPlace) := goodIn_app (goodIn_of _ (by decide +kernel)) ggX4_isLift_X4_isPlace
set_option maxRecDepth 20000 in
theorem ggX4_isLift_X4_in : GoodIn wsX4_isLift wsX4_in := goodIn_r _ [7] (by decide +kernel) (by decide +kernel)
set_option maxRecDepth 20000 in
theorem gX4_isLift_X4_in : GoodIn wsX4_isLift (va_wsS RX4 83 yX4_in wsX4_in) := goodIn_app (goodIn_of _ (by decide +kernel)) ggX4_isLift_X4_in
theorem dX4_isLift_0 : decode cX4_isLift 0 = .ok (.iload_n 0, 1) := by decide +kernel
theorem dX4_isLift_1 : decode cX4_isLift 1 = .ok (.iload_n 1, 1) := by decide +kernel
theorem dX4_isLift_2 : decode cX4_isLift 2 = .ok (.invokestatic 103, 3) := by decide +kernel
theorem dX4_isLift_5 : decode cX4_isLift 5 = .ok (.ifCond .eq 38, 3) := by decide +kernel
theorem dX4_isLift_8 : decode cX4_isLift 8 = .ok (.iload_n 2, 1) := by decide +kernel
theorem dX4_isLift_9 : decode cX4_isLift 9 = .ok (.iload_n 3, 1) := by decide +kernel
theorem dX4_isLift_10 : decode cX4_isLift 10 = .ok (.invokestatic 103, 3) := by decide +kernel
theorem dX4_isLift_13 : decode cX4_isLift 13 = .ok (.ifCond .eq 30, 3) := by decide +kernel
theorem dX4_isLift_16 : decode cX4_isLift 16 = .ok (.iload 4, 2) := by decide +kernel
theorem dX4_isLift_18 : decode cX4_isLift 18 = .ok (.iconst 1, 1) := by decide +kernel
theorem dX4_isLift_19 : decode cX4_isLift 19 = .ok (.sipush 999, 3) := by decide +kernel
theorem dX4_isLift_22 : decode cX4_isLift 22 = .ok (.invokestatic 83, 3) := by decide +kernel
theorem dX4_isLift_25 : decode cX4_isLift 25 = .ok (.ifCond .eq 18, 3) := by decide +kernel
theorem dX4_isLift_28 : decode cX4_isLift 28 = .ok (.iload 5, 2) := by decide +kernel
theorem dX4_isLift_30 : decode cX4_isLift 30 = .ok (.iconst 1, 1) := by decide +kernel
theorem dX4_isLift_31 : decode cX4_isLift 31 = .ok (.bipush 60, 2) := by decide +kernel
theorem dX4_isLift_33 : decode cX4_isLift 33 = .ok (.invokestatic 83, 3) := by decide +kernel
theorem dX4_isLift_36 : decode cX4_isLift 36 = .ok (.ifCond .eq 7, 3) := by decide +kernel
theorem dX4_isLift_39 : decode cX4_isLift 39 = .ok (.iconst 1, 1) := by decide +kernel
theorem dX4_isLift_40 : decode cX4_isLift 40 = .ok (.goto 4, 3) := by decide +kernel
theorem dX4_isLift_43 : decode cX4_isLift 43 = .ok (.iconst 0, 1) := by decide +kernel
theorem dX4_isLift_44 : decode cX4_isLift 44 = .ok (.ireturn, 1) := by decide +kernel
set_option maxRecDepth 20000 in
theorem ggX4_addLift_X4_isLift : GoodIn wsX4_addLift wsX4_isLift := goodIn_r _ [5, 6, 7, 4, 8, 9, 10, 11] (by decide +kernel) (by decide +kernel)
set_option maxRecDepth 20000 in
theorem gX4_addLift_X4_isLift : GoodIn wsX4_addLift (va_wsS RX4 138 yX4_isLift wsX4_isLift) := goodIn_app (goodIn_of _ (by decide +kernel)) ggX4_addLift_X4_isLift
set_option maxRecDepth 20000 in
theorem ggX4_addLift_X4_fails : GoodIn wsX4_addLift wsX4_fails := goodIn_r _ [15, 16, 36, 37, 38, 39, 40, 41, 42, 43, 44, 45, 46, 47, 48, 49, 50, 51, 52, 53, 54, 55, 56, 57, 58, 59, 60, 61, 62, 63] (by decide +kernel) (by decide +kernel)
set_option maxRecDepth 20000 in
theorem gX4_addLift_X4_fails : GoodIn wsX4_addLift (wsV RX4 97 RX4 yX4_fails wsX4_fails) := goodIn_app (goodIn_of _ (by decide +kernel)) ggX4_addLift_X4_fails
set_option maxRecDepth 20000 in
theorem ggX4_addLift_X4_lays : GoodIn wsX4_addLift wsX4_lays := goodIn_r _ [20, 21, 1, 22, 23, 24, 25, 26, 27, 28, 29, 30, 31, 4, 32, 33, 34, 35, 9, 10, 11, 36, 37, 38, 39, 40, 41, 42, 43, 44, 45, 46, 47, 48, 49, 50, 51, 52, 53, 54, 55, 56, 57, 58, 59, 60, 61, 62, 63] (by decide +kernel) (by decide +kernel)
set_option maxRecDepth 20000 in
theorem gX4_addLift_X4_lays : GoodIn wsX4_addLift (wsV RX4 142 RX4 yX4_lays wsX4_lays) := goodIn_app (goodIn_of _ (by decide +kernel)) ggX4_addLift_X4_lays
theorem dX4_addLift_0 : decode cX4_addLift 0 = .ok (.aload_n 0, 1) := by decide +kernel
theorem dX4_addLift_1 : decode cX4_addLift 1 = .ok (.iload_n 1, 1) := by decide +kernel
theorem dX4_addLift_2 : decode cX4_addLift 2 = .ok (.iload_n 2, 1) := by decide +kernel
theorem dX4_addLift_3 : decode cX4_addLift 3 = .ok (.iload_n 3, 1) := by decide +kernel
theorem dX4_addLift_4 : decode cX4_addLift 4 = .ok (.iload 4, 2) := by decide +kernel
theorem dX4_addLift_6 : decode cX4_addLift 6 = .ok (.iload 5, 2) := by decide +kernel
theorem dX4_addLift_8 : decode cX4_addLift 8 = .ok (.iload 6, 2) := by decide +kernel
theorem dX4_addLift_10 : decode cX4_addLift 10 = .ok (.invokestatic 138, 3) := by decide +kernel
theorem dX4_addLift_13 : decode cX4_addLift 13 = .ok (.ifCond .ne 7, 3) := by decide +kernel
theorem dX4_addLift_16 : decode cX4_addLift 16 = .ok (.iconst 1, 1) := by decide +kernel
theorem dX4_addLift_17 : decode cX4_addLift 17 = .ok (.goto 17, 3) := by decide +kernel
theorem dX4_addLift_20 : decode cX4_addLift 20 = .ok (.aload_n 0, 1) := by decide +kernel
theorem dX4_addLift_21 : decode cX4_addLift 21 = .ok (.getfield 90, 3) := by decide +kernel
theorem dX4_addLift_24 : decode cX4_addLift 24 = .ok (.bipush 40, 2) := by decide +kernel
theorem dX4_addLift_26 : decode cX4_addLift 26 = .ok (.if_icmp .ne 7, 3) := by decide +kernel
theorem dX4_addLift_29 : decode cX4_addLift 29 = .ok (.iconst 2, 1) := by decide +kernel
theorem dX4_addLift_30 : decode cX4_addLift 30 = .ok (.goto 4, 3) := by decide +kernel
theorem dX4_addLift_33 : decode cX4_addLift 33 = .ok (.iconst 0, 1) := by decide +kernel
theorem dX4_addLift_34 : decode cX4_addLift 34 = .ok (.invokevirtual 97, 3) := by decide +kernel
theorem dX4_addLift_37 : decode cX4_addLift 37 = .ok (.ifCond .eq 5, 3) := by decide +kernel
theorem dX4_addLift_40 : decode cX4_addLift 40 = .ok (.iconst 0, 1) := by decide +kernel
theorem dX4_addLift_41 : decode cX4_addLift 41 = .ok (.ireturn, 1) := by decide +kernel
theorem dX4_addLift_42 : decode cX4_addLift 42 = .ok (.aload_n 0, 1) := by decide +kernel
theorem dX4_addLift_43 : decode cX4_addLift 43 = .ok (.iload_n 1, 1) := by decide +kernel
theorem dX4_addLift_44 : decode cX4_addLift 44 = .ok (.iload_n 2, 1) := by decide +kernel
theorem dX4_addLift_45 : decode cX4_addLift 45 = .ok (.iload_n 3, 1) := by decide +kernel
theorem dX4_addLift_46 : decode cX4_addLift 46 = .ok (.iload 4, 2) := by decide +kernel
theorem dX4_addLift_48 : decode cX4_addLift 48 = .ok (.iload 5, 2) := by decide +kernel
theorem dX4_addLift_50 : decode cX4_addLift 50 = .ok (.iload 6, 2) := by decide +kernel
theorem dX4_addLift_52 : decode cX4_addLift 52 = .ok (.iconst (-1), 1) := by decide +kernel
theorem dX4_addLift_53 : decode cX4_addLift 53 = .ok (.invokevirtual 142, 3) := by decide +kernel
theorem dX4_addLift_56 : decode cX4_addLift 56 = .ok (.aload_n 0, 1) := by decide +kernel
theorem dX4_addLift_57 : decode cX4_addLift 57 = .ok (.getfield 90, 3) := by decide +kernel
theorem dX4_addLift_60 : decode cX4_addLift 60 = .ok (.iconst 1, 1) := by decide +kernel
theorem dX4_addLift_61 : decode cX4_addLift 61 = .ok (.isub, 1) := by decide +kernel
theorem dX4_addLift_62 : decode cX4_addLift 62 = .ok (.ireturn, 1) := by decide +kernel
set_option maxRecDepth 20000 in
theorem ggX4_addPour_X4_isLift : GoodIn wsX4_addPour wsX4_isLift := goodIn_r _ [9, 10, 11, 8, 12, 13, 14, 15] (by decide +kernel) (by decide +kernel)
set_option maxRecDepth 20000 in
theorem gX4_addPour_X4_isLift : GoodIn wsX4_addPour (va_wsS RX4 138 yX4_isLift wsX4_isLift) := goodIn_app (goodIn_of _ (by decide +kernel)) ggX4_addPour_X4_isLift
set_option maxRecDepth 20000 in
theorem ggX4_addPour_X4_in : GoodIn wsX4_addPour wsX4_in := goodIn_r _ [15] (by decide +kernel) (by decide +kernel)
set_option maxRecDepth 20000 in
theorem gX4_addPour_X4_in : GoodIn wsX4_addPour (va_wsS RX4 83 yX4_in wsX4_in) := goodIn_app (goodIn_of _ (by decide +kernel)) ggX4_addPour_X4_in
set_option maxRecDepth 20000 in
theorem ggX4_addPour_X4_fails : GoodIn wsX4_addPour wsX4_fails := goodIn_r _ [19, 20, 40, 41, 42, 43, 44, 45, 46, 47, 48, 49, 50, 51, 52, 53, 54, 55, 56, 57, 58, 59, 60, 61, 62, 63, 64, 65, 66, 67] (by decide +kernel) (by decide +kernel)
set_option maxRecDepth 20000 in
theorem gX4_addPour_X4_fails : GoodIn wsX4_addPour (wsV RX4 97 RX4 yX4_fails wsX4_fails) := goodIn_app (goodIn_of _ (by decide +kernel)) ggX4_addPour_X4_fails
set_option maxRecDepth 20000 in
theorem ggX4_addPour_X4_lays : GoodIn wsX4_addPour wsX4_lays := goodIn_r _ [24, 25, 2, 26, 27, 28, 29, 30, 31, 32, 33, 34, 35, 8, 36, 37, 38, 39, 13, 14, 15, 40, 41, 42, 43, 44, 45, 46, 47, 48, 49, 50, 51, 52, 53, 54, 55, 56, 57, 58, 59, 60, 61, 62, 63, 64, 65, 66, 67] (by decide +kernel) (by decide +kernel)
set_option maxRecDepth 20000 in
theorem gX4_addPour_X4_lays : GoodIn wsX4_addPour (wsV RX4 142 RX4 yX4_lays wsX4_lays) := goodIn_app (goodIn_of _ (by decide +kernel)) ggX4_addPour_X4_lays
theorem dX4_addPour_0 : decode cX4_addPour 0 = .ok (.iload_n 1, 1) := by decide +kernel
theorem dX4_addPour_1 : decode cX4_addPour 1 = .ok (.iload_n 2, 1) := by decide +kernel
theorem dX4_addPour_2 : decode cX4_addPour 2 = .ok (.iload_n 3, 1) := by decide +kernel
theorem dX4_addPour_3 : decode cX4_addPour 3 = .ok (.iload 4, 2) := by decide +kernel
theorem dX4_addPour_5 : decode cX4_addPour 5 = .ok (.iload 5, 2) := by decide +kernel
theorem dX4_addPour_7 : decode cX4_addPour 7 = .ok (.iload 6, 2) := by decide +kernel
theorem dX4_addPour_9 : decode cX4_addPour 9 = .ok (.invokestatic 138, 3) := by decide +kernel
theorem dX4_addPour_12 : decode cX4_addPour 12 = .ok (.ifCond .eq 29, 3) := by decide +kernel
theorem dX4_addPour_15 : decode cX4_addPour 15 = .ok (.iload 7, 2) := by decide +kernel
theorem dX4_addPour_17 : decode cX4_addPour 17 = .ok (.iconst 2, 1) := by decide +kernel
theorem dX4_addPour_18 : decode cX4_addPour 18 = .ok (.bipush 8, 2) := by decide +kernel
theorem dX4_addPour_20 : decode cX4_addPour 20 = .ok (.invokestatic 83, 3) := by decide +kernel
theorem dX4_addPour_23 : decode cX4_addPour 23 = .ok (.ifCond .eq 18, 3) := by decide +kernel
theorem dX4_addPour_26 : decode cX4_addPour 26 = .ok (.iload 8, 2) := by decide +kernel
theorem dX4_addPour_28 : decode cX4_addPour 28 = .ok (.iconst 0, 1) := by decide +kernel
theorem dX4_addPour_29 : decode cX4_addPour 29 = .ok (.bipush 60, 2) := by decide +kernel
theorem dX4_addPour_31 : decode cX4_addPour 31 = .ok (.invokestatic 83, 3) := by decide +kernel
theorem dX4_addPour_34 : decode cX4_addPour 34 = .ok (.ifCond .eq 7, 3) := by decide +kernel
theorem dX4_addPour_37 : decode cX4_addPour 37 = .ok (.iconst 1, 1) := by decide +kernel
theorem dX4_addPour_38 : decode cX4_addPour 38 = .ok (.goto 4, 3) := by decide +kernel
theorem dX4_addPour_41 : decode cX4_addPour 41 = .ok (.iconst 0, 1) := by decide +kernel
theorem dX4_addPour_42 : decode cX4_addPour 42 = .ok (.istore 9, 2) := by decide +kernel
theorem dX4_addPour_44 : decode cX4_addPour 44 = .ok (.aload_n 0, 1) := by decide +kernel
theorem dX4_addPour_45 : decode cX4_addPour 45 = .ok (.iload 9, 2) := by decide +kernel
theorem dX4_addPour_47 : decode cX4_addPour 47 = .ok (.ifCond .ne 7, 3) := by decide +kernel
theorem dX4_addPour_50 : decode cX4_addPour 50 = .ok (.iconst 1, 1) := by decide +kernel
theorem dX4_addPour_51 : decode cX4_addPour 51 = .ok (.goto 29, 3) := by decide +kernel
theorem dX4_addPour_54 : decode cX4_addPour 54 = .ok (.aload_n 0, 1) := by decide +kernel
theorem dX4_addPour_55 : decode cX4_addPour 55 = .ok (.getfield 146, 3) := by decide +kernel
theorem dX4_addPour_58 : decode cX4_addPour 58 = .ok (.bipush 6, 2) := by decide +kernel
theorem dX4_addPour_60 : decode cX4_addPour 60 = .ok (.if_icmp .eq 15, 3) := by decide +kernel
theorem dX4_addPour_63 : decode cX4_addPour 63 = .ok (.aload_n 0, 1) := by decide +kernel
theorem dX4_addPour_64 : decode cX4_addPour 64 = .ok (.getfield 90, 3) := by decide +kernel
theorem dX4_addPour_67 : decode cX4_addPour 67 = .ok (.iload 7, 2) := by decide +kernel
theorem dX4_addPour_69 : decode cX4_addPour 69 = .ok (.iadd, 1) := by decide +kernel
theorem dX4_addPour_70 : decode cX4_addPour 70 = .ok (.bipush 40, 2) := by decide +kernel
theorem dX4_addPour_72 : decode cX4_addPour 72 = .ok (.if_icmp .le 7, 3) := by decide +kernel
theorem dX4_addPour_75 : decode cX4_addPour 75 = .ok (.iconst 2, 1) := by decide +kernel
theorem dX4_addPour_76 : decode cX4_addPour 76 = .ok (.goto 4, 3) := by decide +kernel
theorem dX4_addPour_79 : decode cX4_addPour 79 = .ok (.iconst 0, 1) := by decide +kernel
theorem dX4_addPour_80 : decode cX4_addPour 80 = .ok (.invokevirtual 97, 3) := by decide +kernel
theorem dX4_addPour_83 : decode cX4_addPour 83 = .ok (.ifCond .eq 5, 3) := by decide +kernel
theorem dX4_addPour_86 : decode cX4_addPour 86 = .ok (.iconst 0, 1) := by decide +kernel
theorem dX4_addPour_87 : decode cX4_addPour 87 = .ok (.ireturn, 1) := by decide +kernel
theorem dX4_addPour_88 : decode cX4_addPour 88 = .ok (.aload_n 0, 1) := by decide +kernel
theorem dX4_addPour_89 : decode cX4_addPour 89 = .ok (.getfield 64, 3) := by decide +kernel
theorem dX4_addPour_92 : decode cX4_addPour 92 = .ok (.aload_n 0, 1) := by decide +kernel
theorem dX4_addPour_93 : decode cX4_addPour 93 = .ok (.getfield 146, 3) := by decide +kernel
theorem dX4_addPour_96 : decode cX4_addPour 96 = .ok (.aload_n 0, 1) := by decide +kernel
theorem dX4_addPour_97 : decode cX4_addPour 97 = .ok (.getfield 90, 3) := by decide +kernel
theorem dX4_addPour_100 : decode cX4_addPour 100 = .ok (.iastore, 1) := by decide +kernel
theorem dX4_addPour_101 : decode cX4_addPour 101 = .ok (.aload_n 0, 1) := by decide +kernel
theorem dX4_addPour_102 : decode cX4_addPour 102 = .ok (.getfield 67, 3) := by decide +kernel
theorem dX4_addPour_105 : decode cX4_addPour 105 = .ok (.aload_n 0, 1) := by decide +kernel
theorem dX4_addPour_106 : decode cX4_addPour 106 = .ok (.getfield 146, 3) := by decide +kernel
theorem dX4_addPour_109 : decode cX4_addPour 109 = .ok (.iload 7, 2) := by decide +kernel
theorem dX4_addPour_111 : decode cX4_addPour 111 = .ok (.iastore, 1) := by decide +kernel
theorem dX4_addPour_112 : decode cX4_addPour 112 = .ok (.aload_n 0, 1) := by decide +kernel
theorem dX4_addPour_113 : decode cX4_addPour 113 = .ok (.getfield 70, 3) := by decide +kernel
theorem dX4_addPour_116 : decode cX4_addPour 116 = .ok (.aload_n 0, 1) := by decide +kernel
theorem dX4_addPour_117 : decode cX4_addPour 117 = .ok (.getfield 146, 3) := by decide +kernel
theorem dX4_addPour_120 : decode cX4_addPour 120 = .ok (.iload 8, 2) := by decide +kernel
theorem dX4_addPour_122 : decode cX4_addPour 122 = .ok (.iastore, 1) := by decide +kernel
theorem dX4_addPour_123 : decode cX4_addPour 123 = .ok (.iconst 0, 1) := by decide +kernel
theorem dX4_addPour_124 : decode cX4_addPour 124 = .ok (.istore 10, 2) := by decide +kernel
theorem dX4_addPour_126 : decode cX4_addPour 126 = .ok (.iload 10, 2) := by decide +kernel
theorem dX4_addPour_128 : decode cX4_addPour 128 = .ok (.iload 7, 2) := by decide +kernel
theorem dX4_addPour_130 : decode cX4_addPour 130 = .ok (.if_icmp .ge 26, 3) := by decide +kernel
theorem dX4_addPour_133 : decode cX4_addPour 133 = .ok (.aload_n 0, 1) := by decide +kernel
theorem dX4_addPour_134 : decode cX4_addPour 134 = .ok (.iload_n 1, 1) := by decide +kernel
theorem dX4_addPour_135 : decode cX4_addPour 135 = .ok (.iload_n 2, 1) := by decide +kernel
theorem dX4_addPour_136 : decode cX4_addPour 136 = .ok (.iload_n 3, 1) := by decide +kernel
theorem dX4_addPour_137 : decode cX4_addPour 137 = .ok (.iload 4, 2) := by decide +kernel
theorem dX4_addPour_139 : decode cX4_addPour 139 = .ok (.iload 5, 2) := by decide +kernel
theorem dX4_addPour_141 : decode cX4_addPour 141 = .ok (.iload 6, 2) := by decide +kernel
theorem dX4_addPour_143 : decode cX4_addPour 143 = .ok (.aload_n 0, 1) := by decide +kernel
theorem dX4_addPour_144 : decode cX4_addPour 144 = .ok (.getfield 146, 3) := by decide +kernel
theorem dX4_addPour_147 : decode cX4_addPour 147 = .ok (.invokevirtual 142, 3) := by decide +kernel
theorem dX4_addPour_150 : decode cX4_addPour 150 = .ok (.iinc 10 1, 3) := by decide +kernel
theorem dX4_addPour_153 : decode cX4_addPour 153 = .ok (.goto (-27), 3) := by decide +kernel
theorem dX4_addPour_156 : decode cX4_addPour 156 = .ok (.aload_n 0, 1) := by decide +kernel
theorem dX4_addPour_157 : decode cX4_addPour 157 = .ok (.dup, 1) := by decide +kernel
theorem dX4_addPour_158 : decode cX4_addPour 158 = .ok (.getfield 146, 3) := by decide +kernel
theorem dX4_addPour_161 : decode cX4_addPour 161 = .ok (.iconst 1, 1) := by decide +kernel
theorem dX4_addPour_162 : decode cX4_addPour 162 = .ok (.iadd, 1) := by decide +kernel
theorem dX4_addPour_163 : decode cX4_addPour 163 = .ok (.putfield 146, 3) := by decide +kernel
theorem dX4_addPour_166 : decode cX4_addPour 166 = .ok (.aload_n 0, 1) := by decide +kernel
theorem dX4_addPour_167 : decode cX4_addPour 167 = .ok (.getfield 146, 3) := by decide +kernel
theorem dX4_addPour_170 : decode cX4_addPour 170 = .ok (.iconst 1, 1) := by decide +kernel
theorem dX4_addPour_171 : decode cX4_addPour 171 = .ok (.isub, 1) := by decide +kernel
theorem dX4_addPour_172 : decode cX4_addPour 172 = .ok (.ireturn, 1) := by decide +kernel
set_option maxRecDepth 20000 in
theorem ggX4_reachesBoth_X4_reaches : GoodIn wsX4_reachesBoth wsX4_reaches := goodIn_r _ [9, 10, 11, 12, 13, 8, 14, 15, 16, 17, 18, 19, 20, 21, 22, 23, 24, 25, 26, 27, 28, 29, 30, 31, 32, 33, 34, 35, 36, 37, 38, 39, 40, 41, 42, 43, 44] (by decide +kernel) (by decide +kernel)
set_option maxRecDepth 20000 in
theorem gX4_reachesBoth_X4_reaches : GoodIn wsX4_reachesBoth (wsV RX4 149 RX4 yX4_reaches wsX4_reaches) := goodIn_app (goodIn_of _ (by decide +kernel)) ggX4_reachesBoth_X4_reaches
theorem dX4_reachesBoth_0 : decode cX4_reachesBoth 0 = .ok (.aload_n 0, 1) := by decide +kernel
theorem dX4_reachesBoth_1 : decode cX4_reachesBoth 1 = .ok (.iload_n 2, 1) := by decide +kernel
theorem dX4_reachesBoth_2 : decode cX4_reachesBoth 2 = .ok (.aload_n 0, 1) := by decide +kernel
theorem dX4_reachesBoth_3 : decode cX4_reachesBoth 3 = .ok (.getfield 29, 3) := by decide +kernel
theorem dX4_reachesBoth_6 : decode cX4_reachesBoth 6 = .ok (.iload_n 1, 1) := by decide +kernel
theorem dX4_reachesBoth_7 : decode cX4_reachesBoth 7 = .ok (.iaload, 1) := by decide +kernel
theorem dX4_reachesBoth_8 : decode cX4_reachesBoth 8 = .ok (.aload_n 0, 1) := by decide +kernel
theorem dX4_reachesBoth_9 : decode cX4_reachesBoth 9 = .ok (.getfield 32, 3) := by decide +kernel
theorem dX4_reachesBoth_12 : decode cX4_reachesBoth 12 = .ok (.iload_n 1, 1) := by decide +kernel
theorem dX4_reachesBoth_13 : decode cX4_reachesBoth 13 = .ok (.iaload, 1) := by decide +kernel
theorem dX4_reachesBoth_14 : decode cX4_reachesBoth 14 = .ok (.invokevirtual 149, 3) := by decide +kernel
theorem dX4_reachesBoth_17 : decode cX4_reachesBoth 17 = .ok (.ifCond .eq 27, 3) := by decide +kernel
theorem dX4_reachesBoth_20 : decode cX4_reachesBoth 20 = .ok (.aload_n 0, 1) := by decide +kernel
theorem dX4_reachesBoth_21 : decode cX4_reachesBoth 21 = .ok (.iload_n 2, 1) := by decide +kernel
theorem dX4_reachesBoth_22 : decode cX4_reachesBoth 22 = .ok (.aload_n 0, 1) := by decide +kernel
theorem dX4_reachesBoth_23 : decode cX4_reachesBoth 23 = .ok (.getfield 35, 3) := by decide +kernel
theorem dX4_reachesBoth_26 : decode cX4_reachesBoth 26 = .ok (.iload_n 1, 1) := by decide +kernel
theorem dX4_reachesBoth_27 : decode cX4_reachesBoth 27 = .ok (.iaload, 1) := by decide +kernel
theorem dX4_reachesBoth_28 : decode cX4_reachesBoth 28 = .ok (.aload_n 0, 1) := by decide +kernel
theorem dX4_reachesBoth_29 : decode cX4_reachesBoth 29 = .ok (.getfield 38, 3) := by decide +kernel
theorem dX4_reachesBoth_32 : decode cX4_reachesBoth 32 = .ok (.iload_n 1, 1) := by decide +kernel
theorem dX4_reachesBoth_33 : decode cX4_reachesBoth 33 = .ok (.iaload, 1) := by decide +kernel
theorem dX4_reachesBoth_34 : decode cX4_reachesBoth 34 = .ok (.invokevirtual 149, 3) := by decide +kernel
theorem dX4_reachesBoth_37 : decode cX4_reachesBoth 37 = .ok (.ifCond .eq 7, 3) := by decide +kernel
theorem dX4_reachesBoth_40 : decode cX4_reachesBoth 40 = .ok (.iconst 1, 1) := by decide +kernel
theorem dX4_reachesBoth_41 : decode cX4_reachesBoth 41 = .ok (.goto 4, 3) := by decide +kernel
theorem dX4_reachesBoth_44 : decode cX4_reachesBoth 44 = .ok (.iconst 0, 1) := by decide +kernel
theorem dX4_reachesBoth_45 : decode cX4_reachesBoth 45 = .ok (.ireturn, 1) := by decide +kernel
set_option maxRecDepth 20000 in
theorem ggX4_isHeavy_X4_limitAt : GoodIn wsX4_isHeavy wsX4_limitAt := goodIn_ca (goodIn_r _ [10, 11, 12, 13, 14, 15, 16, 9, 17, 18, 19, 20, 21, 22, 23, 24, 25, 26, 27, 28, 29, 30, 31, 32, 33, 34, 35, 36, 37, 38, 39, 40, 41, 42, 43, 44, 45, 46, 47] (by decide +kernel) (by decide +kernel)) (goodIn_sub (fun _ h => List.mem_cons_of_mem _ (List.mem_append_right _ h)) (by decide +kernel))
set_option maxRecDepth 20000 in
theorem gX4_isHeavy_X4_limitAt : GoodIn wsX4_isHeavy (wsV RX4 152 RX4 yX4_limitAt wsX4_limitAt) := goodIn_app (goodIn_of _ (by decide +kernel)) ggX4_isHeavy_X4_limitAt
theorem dX4_isHeavy_0 : decode cX4_isHeavy 0 = .ok (.aload_n 0, 1) := by decide +kernel
theorem dX4_isHeavy_1 : decode cX4_isHeavy 1 = .ok (.getfield 41, 3) := by decide +kernel
theorem dX4_isHeavy_4 : decode cX4_isHeavy 4 = .ok (.iload_n 1, 1) := by decide +kernel
theorem dX4_isHeavy_5 : decode cX4_isHeavy 5 = .ok (.iaload, 1) := by decide +kernel
theorem dX4_isHeavy_6 : decode cX4_isHeavy 6 = .ok (.aload_n 0, 1) := by decide +kernel
theorem dX4_isHeavy_7 : decode cX4_isHeavy 7 = .ok (.iload_n 2, 1) := by decide +kernel
theorem dX4_isHeavy_8 : decode cX4_isHeavy 8 = .ok (.aload_n 0, 1) := by decide +kernel
theorem dX4_isHeavy_9 : decode cX4_isHeavy 9 = .ok (.getfield 29, 3) := by decide +kernel
theorem dX4_isHeavy_12 : decode cX4_isHeavy 12 = .ok (.iload_n 1, 1) := by decide +kernel
theorem dX4_isHeavy_13 : decode cX4_isHeavy 13 = .ok (.iaload, 1) := by decide +kernel
theorem dX4_isHeavy_14 : decode cX4_isHeavy 14 = .ok (.aload_n 0, 1) := by decide +kernel
theorem dX4_isHeavy_15 : decode cX4_isHeavy 15 = .ok (.getfield 32, 3) := by decide +kernel
theorem dX4_isHeavy_18 : decode cX4_isHeavy 18 = .ok (.iload_n 1, 1) := by decide +kernel
theorem dX4_isHeavy_19 : decode cX4_isHeavy 19 = .ok (.iaload, 1) := by decide +kernel
theorem dX4_isHeavy_20 : decode cX4_isHeavy 20 = .ok (.invokevirtual 152, 3) := by decide +kernel
theorem dX4_isHeavy_23 : decode cX4_isHeavy 23 = .ok (.if_icmp .gt 29, 3) := by decide +kernel
theorem dX4_isHeavy_26 : decode cX4_isHeavy 26 = .ok (.aload_n 0, 1) := by decide +kernel
theorem dX4_isHeavy_27 : decode cX4_isHeavy 27 = .ok (.getfield 41, 3) := by decide +kernel
theorem dX4_isHeavy_30 : decode cX4_isHeavy 30 = .ok (.iload_n 1, 1) := by decide +kernel
theorem dX4_isHeavy_31 : decode cX4_isHeavy 31 = .ok (.iaload, 1) := by decide +kernel
theorem dX4_isHeavy_32 : decode cX4_isHeavy 32 = .ok (.aload_n 0, 1) := by decide +kernel
theorem dX4_isHeavy_33 : decode cX4_isHeavy 33 = .ok (.iload_n 2, 1) := by decide +kernel
theorem dX4_isHeavy_34 : decode cX4_isHeavy 34 = .ok (.aload_n 0, 1) := by decide +kernel
theorem dX4_isHeavy_35 : decode cX4_isHeavy 35 = .ok (.getfield 35, 3) := by decide +kernel
theorem dX4_isHeavy_38 : decode cX4_isHeavy 38 = .ok (.iload_n 1, 1) := by decide +kernel
theorem dX4_isHeavy_39 : decode cX4_isHeavy 39 = .ok (.iaload, 1) := by decide +kernel
theorem dX4_isHeavy_40 : decode cX4_isHeavy 40 = .ok (.aload_n 0, 1) := by decide +kernel
theorem dX4_isHeavy_41 : decode cX4_isHeavy 41 = .ok (.getfield 38, 3) := by decide +kernel
theorem dX4_isHeavy_44 : decode cX4_isHeavy 44 = .ok (.iload_n 1, 1) := by decide +kernel
theorem dX4_isHeavy_45 : decode cX4_isHeavy 45 = .ok (.iaload, 1) := by decide +kernel
theorem dX4_isHeavy_46 : decode cX4_isHeavy 46 = .ok (.invokevirtual 152, 3) := by decide +kernel
theorem dX4_isHeavy_49 : decode cX4_isHeavy 49 = .ok (.if_icmp .le 7, 3) := by decide +kernel
theorem dX4_isHeavy_52 : decode cX4_isHeavy 52 = .ok (.iconst 1, 1) := by decide +kernel
theorem dX4_isHeavy_53 : decode cX4_isHeavy 53 = .ok (.goto 4, 3) := by decide +kernel
theorem dX4_isHeavy_56 : decode cX4_isHeavy 56 = .ok (.iconst 0, 1) := by decide +kernel
theorem dX4_isHeavy_57 : decode cX4_isHeavy 57 = .ok (.ireturn, 1) := by decide +kernel
theorem dX4_hasPermit_0 : decode cX4_hasPermit 0 = .ok (.iload_n 2, 1) := by decide +kernel
theorem dX4_hasPermit_1 : decode cX4_hasPermit 1 = .ok (.bipush 60, 2) := by decide +kernel
theorem dX4_hasPermit_3 : decode cX4_hasPermit 3 = .ok (.idiv, 1) := by decide +kernel
theorem dX4_hasPermit_4 : decode cX4_hasPermit 4 = .ok (.istore 4, 2) := by decide +kernel
theorem dX4_hasPermit_6 : decode cX4_hasPermit 6 = .ok (.iload 4, 2) := by decide +kernel
theorem dX4_hasPermit_8 : decode cX4_hasPermit 8 = .ok (.iload_n 2, 1) := by decide +kernel
theorem dX4_hasPermit_9 : decode cX4_hasPermit 9 = .ok (.iload_n 3, 1) := by decide +kernel
theorem dX4_hasPermit_10 : decode cX4_hasPermit 10 = .ok (.iadd, 1) := by decide +kernel
theorem dX4_hasPermit_11 : decode cX4_hasPermit 11 = .ok (.iconst 1, 1) := by decide +kernel
theorem dX4_hasPermit_12 : decode cX4_hasPermit 12 = .ok (.isub, 1) := by decide +kernel
theorem dX4_hasPermit_13 : decode cX4_hasPermit 13 = .ok (.bipush 60, 2) := by decide +kernel
theorem dX4_hasPermit_15 : decode cX4_hasPermit 15 = .ok (.idiv, 1) := by decide +kernel
theorem dX4_hasPermit_16 : decode cX4_hasPermit 16 = .ok (.if_icmp .gt 26, 3) := by decide +kernel
theorem dX4_hasPermit_19 : decode cX4_hasPermit 19 = .ok (.aload_n 0, 1) := by decide +kernel
theorem dX4_hasPermit_20 : decode cX4_hasPermit 20 = .ok (.getfield 25, 3) := by decide +kernel
theorem dX4_hasPermit_23 : decode cX4_hasPermit 23 = .ok (.bipush 24, 2) := by decide +kernel
theorem dX4_hasPermit_25 : decode cX4_hasPermit 25 = .ok (.iload_n 1, 1) := by decide +kernel
theorem dX4_hasPermit_26 : decode cX4_hasPermit 26 = .ok (.imul, 1) := by decide +kernel
theorem dX4_hasPermit_27 : decode cX4_hasPermit 27 = .ok (.iload 4, 2) := by decide +kernel
theorem dX4_hasPermit_29 : decode cX4_hasPermit 29 = .ok (.iadd, 1) := by decide +kernel
theorem dX4_hasPermit_30 : decode cX4_hasPermit 30 = .ok (.baload, 1) := by decide +kernel
theorem dX4_hasPermit_31 : decode cX4_hasPermit 31 = .ok (.ifCond .ne 5, 3) := by decide +kernel
theorem dX4_hasPermit_34 : decode cX4_hasPermit 34 = .ok (.iconst 0, 1) := by decide +kernel
theorem dX4_hasPermit_35 : decode cX4_hasPermit 35 = .ok (.ireturn, 1) := by decide +kernel
theorem dX4_hasPermit_36 : decode cX4_hasPermit 36 = .ok (.iinc 4 1, 3) := by decide +kernel
theorem dX4_hasPermit_39 : decode cX4_hasPermit 39 = .ok (.goto (-33), 3) := by decide +kernel
theorem dX4_hasPermit_42 : decode cX4_hasPermit 42 = .ok (.iconst 1, 1) := by decide +kernel
theorem dX4_hasPermit_43 : decode cX4_hasPermit 43 = .ok (.ireturn, 1) := by decide +kernel
theorem dX4_isIn_0 : decode cX4_isIn 0 = .ok (.aload_n 0, 1) := by decide +kernel
theorem dX4_isIn_1 : decode cX4_isIn 1 = .ok (.getfield 47, 3) := by decide +kernel
theorem dX4_isIn_4 : decode cX4_isIn 4 = .ok (.iload_n 1, 1) := by decide +kernel
theorem dX4_isIn_5 : decode cX4_isIn 5 = .ok (.caload, 1) := by decide +kernel
theorem dX4_isIn_6 : decode cX4_isIn 6 = .ok (.bipush 119, 2) := by decide +kernel
theorem dX4_isIn_8 : decode cX4_isIn 8 = .ok (.if_icmp .eq 36, 3) := by decide +kernel
theorem dX4_isIn_11 : decode cX4_isIn 11 = .ok (.aload_n 0, 1) := by decide +kernel
theorem dX4_isIn_12 : decode cX4_isIn 12 = .ok (.getfield 54, 3) := by decide +kernel
theorem dX4_isIn_15 : decode cX4_isIn 15 = .ok (.iload_n 1, 1) := by decide +kernel
theorem dX4_isIn_16 : decode cX4_isIn 16 = .ok (.iaload, 1) := by decide +kernel
theorem dX4_isIn_17 : decode cX4_isIn 17 = .ok (.iload_n 2, 1) := by decide +kernel
theorem dX4_isIn_18 : decode cX4_isIn 18 = .ok (.iload_n 3, 1) := by decide +kernel
theorem dX4_isIn_19 : decode cX4_isIn 19 = .ok (.iadd, 1) := by decide +kernel
theorem dX4_isIn_20 : decode cX4_isIn 20 = .ok (.if_icmp .ge 24, 3) := by decide +kernel
theorem dX4_isIn_23 : decode cX4_isIn 23 = .ok (.iload_n 2, 1) := by decide +kernel
theorem dX4_isIn_24 : decode cX4_isIn 24 = .ok (.aload_n 0, 1) := by decide +kernel
theorem dX4_isIn_25 : decode cX4_isIn 25 = .ok (.getfield 54, 3) := by decide +kernel
theorem dX4_isIn_28 : decode cX4_isIn 28 = .ok (.iload_n 1, 1) := by decide +kernel
theorem dX4_isIn_29 : decode cX4_isIn 29 = .ok (.iaload, 1) := by decide +kernel
theorem dX4_isIn_30 : decode cX4_isIn 30 = .ok (.aload_n 0, 1) := by decide +kernel
theorem dX4_isIn_31 : decode cX4_isIn 31 = .ok (.getfield 44, 3) := by decide +kernel
theorem dX4_isIn_34 : decode cX4_isIn 34 = .ok (.iload_n 1, 1) := by decide +kernel
theorem dX4_isIn_35 : decode cX4_isIn 35 = .ok (.iaload, 1) := by decide +kernel
theorem dX4_isIn_36 : decode cX4_isIn 36 = .ok (.iadd, 1) := by decide +kernel
theorem dX4_isIn_37 : decode cX4_isIn 37 = .ok (.if_icmp .ge 7, 3) := by decide +kernel
theorem dX4_isIn_40 : decode cX4_isIn 40 = .ok (.iconst 1, 1) := by decide +kernel
theorem dX4_isIn_41 : decode cX4_isIn 41 = .ok (.goto 4, 3) := by decide +kernel
theorem dX4_isIn_44 : decode cX4_isIn 44 = .ok (.iconst 0, 1) := by decide +kernel
theorem dX4_isIn_45 : decode cX4_isIn 45 = .ok (.ireturn, 1) := by decide +kernel
set_option maxRecDepth 20000 in
theorem ggX4_why_X4_reachesBoth : GoodIn wsX4_why wsX4_reachesBoth := goodIn_r _ [10, 11, 12, 13, 14, 15, 16, 17, 9, 18, 19, 20, 21, 22, 23, 24, 25, 49, 50, 51, 52, 53, 54, 55, 56, 57, 58, 59, 60, 61, 62, 63, 64, 65, 66, 67, 68, 69, 70, 71, 72, 73, 74, 75, 76] (by decide +kernel) (by decide +kernel)
set_option maxRecDepth 20000 in
theorem gX4_why_X4_reachesBoth : GoodIn wsX4_why (wsV RX4 155 RX4 yX4_reachesBoth wsX4_reachesBoth) := goodIn_app (goodIn_of _ (by decide +kernel)) ggX4_why_X4_reachesBoth
set_option maxRecDepth 20000 in
theorem ggX4_why_X4_isHeavy : GoodIn wsX4_why wsX4_isHeavy := goodIn_ca (goodIn_r _ [29, 30, 11, 12, 13, 14, 31, 32, 33, 9, 34, 35, 36, 37, 20, 21, 22, 23, 24, 25, 49, 50, 51, 52, 53, 54, 55, 56, 57, 58, 59, 60, 61, 62, 63, 64, 65, 66, 67, 68, 69, 70, 71, 72, 73, 74, 75, 76] (by decide +kernel) (by decide +kernel)) (goodIn_sub (fun _ h => List.mem_cons_of_mem _ (List.mem_append_right _ h)) (by decide +kernel))
set_option maxRecDepth 20000 in
theorem gX4_why_X4_isHeavy : GoodIn wsX4_why (wsV RX4 121 RX4 yX4_isHeavy wsX4_isHeavy) := goodIn_app (goodIn_of _ (by decide +kernel)) ggX4_why_X4_isHeavy
set_option maxRecDepth 20000 in
theorem ggX4_why_X4_hasPermit : GoodIn wsX4_why wsX4_hasPermit := goodIn_r _ [41, 42, 49, 50, 51, 52, 53, 54, 55, 56, 57, 58, 59, 60, 61, 62, 63, 64, 65, 66, 67, 68, 69, 70, 71, 72, 73, 74, 75, 76] (by decide +kernel) (by decide +kernel)
set_option maxRecDepth 20000 in
theorem gX4_why_X4_hasPermit : GoodIn wsX4_why (wsV RX4 124 RX4 yX4_hasPermit wsX4_hasPermit) := goodIn_app (goodIn_of _ (by decide +kernel)) ggX4_why_X4_hasPermit
set_option maxRecDepth 20000 in
theorem ggX4_why_X4_isIn : GoodIn wsX4_why wsX4_isIn := goodIn_r _ [46, 47, 48, 2, 49, 50, 51, 52, 53, 54, 55, 56, 57, 58, 59, 60, 61, 62, 63, 64, 65, 66, 67, 68, 69, 70, 71, 72, 73, 74, 75, 76] (by decide +kernel) (by decide +kernel)
set_option maxRecDepth 20000 in
theorem gX4_why_X4_isIn : GoodIn wsX4_why (wsV RX4 161 RX4 yX4_isIn wsX4_isIn) := goodIn_app (goodIn_of _ (by decide +kernel)) ggX4_why_X4_isIn
theorem dX4_why_0 : decode cX4_why 0 = .ok (.aload_n 0, 1) := by decide +kernel
theorem dX4_why_1 : decode cX4_why 1 = .ok (.iload_n 1, 1) := by decide +kernel
theorem dX4_why_2 : decode cX4_why 2 = .ok (.iload_n 2, 1) := by decide +kernel
theorem dX4_why_3 : decode cX4_why 3 = .ok (.invokevirtual 155, 3) := by decide +kernel
theorem dX4_why_6 : decode cX4_why 6 = .ok (.ifCond .ne 6, 3) := by decide +kernel
theorem dX4_why_9 : decode cX4_why 9 = .ok (.bipush 114, 2) := by decide +kernel
theorem dX4_why_11 : decode cX4_why 11 = .ok (.ireturn, 1) := by decide +kernel
theorem dX4_why_12 : decode cX4_why 12 = .ok (.aload_n 0, 1) := by decide +kernel
theorem dX4_why_13 : decode cX4_why 13 = .ok (.iload_n 1, 1) := by decide +kernel
theorem dX4_why_14 : decode cX4_why 14 = .ok (.iload_n 2, 1) := by decide +kernel
theorem dX4_why_15 : decode cX4_why 15 = .ok (.invokevirtual 121, 3) := by decide +kernel
theorem dX4_why_18 : decode cX4_why 18 = .ok (.ifCond .eq 6, 3) := by decide +kernel
theorem dX4_why_21 : decode cX4_why 21 = .ok (.bipush 103, 2) := by decide +kernel
theorem dX4_why_23 : decode cX4_why 23 = .ok (.ireturn, 1) := by decide +kernel
theorem dX4_why_24 : decode cX4_why 24 = .ok (.iload_n 3, 1) := by decide +kernel
theorem dX4_why_25 : decode cX4_why 25 = .ok (.aload_n 0, 1) := by decide +kernel
theorem dX4_why_26 : decode cX4_why 26 = .ok (.getfield 158, 3) := by decide +kernel
theorem dX4_why_29 : decode cX4_why 29 = .ok (.if_icmp .lt 17, 3) := by decide +kernel
theorem dX4_why_32 : decode cX4_why 32 = .ok (.iload_n 3, 1) := by decide +kernel
theorem dX4_why_33 : decode cX4_why 33 = .ok (.sipush 1440, 3) := by decide +kernel
theorem dX4_why_36 : decode cX4_why 36 = .ok (.aload_n 0, 1) := by decide +kernel
theorem dX4_why_37 : decode cX4_why 37 = .ok (.getfield 44, 3) := by decide +kernel
theorem dX4_why_40 : decode cX4_why 40 = .ok (.iload_n 1, 1) := by decide +kernel
theorem dX4_why_41 : decode cX4_why 41 = .ok (.iaload, 1) := by decide +kernel
theorem dX4_why_42 : decode cX4_why 42 = .ok (.isub, 1) := by decide +kernel
theorem dX4_why_43 : decode cX4_why 43 = .ok (.if_icmp .le 6, 3) := by decide +kernel
theorem dX4_why_46 : decode cX4_why 46 = .ok (.bipush 109, 2) := by decide +kernel
theorem dX4_why_48 : decode cX4_why 48 = .ok (.ireturn, 1) := by decide +kernel
theorem dX4_why_49 : decode cX4_why 49 = .ok (.aload_n 0, 1) := by decide +kernel
theorem dX4_why_50 : decode cX4_why 50 = .ok (.iload_n 2, 1) := by decide +kernel
theorem dX4_why_51 : decode cX4_why 51 = .ok (.iload_n 3, 1) := by decide +kernel
theorem dX4_why_52 : decode cX4_why 52 = .ok (.aload_n 0, 1) := by decide +kernel
theorem dX4_why_53 : decode cX4_why 53 = .ok (.getfield 44, 3) := by decide +kernel
theorem dX4_why_56 : decode cX4_why 56 = .ok (.iload_n 1, 1) := by decide +kernel
theorem dX4_why_57 : decode cX4_why 57 = .ok (.iaload, 1) := by decide +kernel
theorem dX4_why_58 : decode cX4_why 58 = .ok (.invokevirtual 124, 3) := by decide +kernel
theorem dX4_why_61 : decode cX4_why 61 = .ok (.ifCond .ne 6, 3) := by decide +kernel
theorem dX4_why_64 : decode cX4_why 64 = .ok (.bipush 104, 2) := by decide +kernel
theorem dX4_why_66 : decode cX4_why 66 = .ok (.ireturn, 1) := by decide +kernel
theorem dX4_why_67 : decode cX4_why 67 = .ok (.iconst 0, 1) := by decide +kernel
theorem dX4_why_68 : decode cX4_why 68 = .ok (.istore 4, 2) := by decide +kernel
theorem dX4_why_70 : decode cX4_why 70 = .ok (.iconst 0, 1) := by decide +kernel
theorem dX4_why_71 : decode cX4_why 71 = .ok (.istore 5, 2) := by decide +kernel
theorem dX4_why_73 : decode cX4_why 73 = .ok (.iload 5, 2) := by decide +kernel
theorem dX4_why_75 : decode cX4_why 75 = .ok (.aload_n 0, 1) := by decide +kernel
theorem dX4_why_76 : decode cX4_why 76 = .ok (.getfield 90, 3) := by decide +kernel
theorem dX4_why_79 : decode cX4_why 79 = .ok (.if_icmp .ge 79, 3) := by decide +kernel
theorem dX4_why_82 : decode cX4_why 82 = .ok (.iload 5, 2) := by decide +kernel
theorem dX4_why_84 : decode cX4_why 84 = .ok (.iload_n 1, 1) := by decide +kernel
theorem dX4_why_85 : decode cX4_why 85 = .ok (.if_icmp .eq 67, 3) := by decide +kernel
theorem dX4_why_88 : decode cX4_why 88 = .ok (.aload_n 0, 1) := by decide +kernel
theorem dX4_why_89 : decode cX4_why 89 = .ok (.iload 5, 2) := by decide +kernel
theorem dX4_why_91 : decode cX4_why 91 = .ok (.iload_n 3, 1) := by decide +kernel
theorem dX4_why_92 : decode cX4_why 92 = .ok (.aload_n 0, 1) := by decide +kernel
theorem dX4_why_93 : decode cX4_why 93 = .ok (.getfield 44, 3) := by decide +kernel
theorem dX4_why_96 : decode cX4_why 96 = .ok (.iload_n 1, 1) := by decide +kernel
theorem dX4_why_97 : decode cX4_why 97 = .ok (.iaload, 1) := by decide +kernel
theorem dX4_why_98 : decode cX4_why 98 = .ok (.invokevirtual 161, 3) := by decide +kernel
theorem dX4_why_101 : decode cX4_why 101 = .ok (.ifCond .ne 6, 3) := by decide +kernel
theorem dX4_why_104 : decode cX4_why 104 = .ok (.goto 48, 3) := by decide +kernel
theorem dX4_why_107 : decode cX4_why 107 = .ok (.aload_n 0, 1) := by decide +kernel
theorem dX4_why_108 : decode cX4_why 108 = .ok (.getfield 51, 3) := by decide +kernel
theorem dX4_why_111 : decode cX4_why 111 = .ok (.iload 5, 2) := by decide +kernel
theorem dX4_why_113 : decode cX4_why 113 = .ok (.iaload, 1) := by decide +kernel
theorem dX4_why_114 : decode cX4_why 114 = .ok (.iload_n 2, 1) := by decide +kernel
theorem dX4_why_115 : decode cX4_why 115 = .ok (.if_icmp .ne 6, 3) := by decide +kernel
theorem dX4_why_118 : decode cX4_why 118 = .ok (.bipush 99, 2) := by decide +kernel
theorem dX4_why_120 : decode cX4_why 120 = .ok (.ireturn, 1) := by decide +kernel
theorem dX4_why_121 : decode cX4_why 121 = .ok (.iload 4, 2) := by decide +kernel
theorem dX4_why_123 : decode cX4_why 123 = .ok (.ifCond .ne 22, 3) := by decide +kernel
theorem dX4_why_126 : decode cX4_why 126 = .ok (.aload_n 0, 1) := by decide +kernel
theorem dX4_why_127 : decode cX4_why 127 = .ok (.getfield 60, 3) := by decide +kernel
theorem dX4_why_130 : decode cX4_why 130 = .ok (.iload 5, 2) := by decide +kernel
theorem dX4_why_132 : decode cX4_why 132 = .ok (.laload, 1) := by decide +kernel
theorem dX4_why_133 : decode cX4_why 133 = .ok (.aload_n 0, 1) := by decide +kernel
theorem dX4_why_134 : decode cX4_why 134 = .ok (.getfield 60, 3) := by decide +kernel
theorem dX4_why_137 : decode cX4_why 137 = .ok (.iload_n 1, 1) := by decide +kernel
theorem dX4_why_138 : decode cX4_why 138 = .ok (.laload, 1) := by decide +kernel
theorem dX4_why_139 : decode cX4_why 139 = .ok (.land, 1) := by decide +kernel
theorem dX4_why_140 : decode cX4_why 140 = .ok (.lconst 0, 1) := by decide +kernel
theorem dX4_why_141 : decode cX4_why 141 = .ok (.lcmp, 1) := by decide +kernel
theorem dX4_why_142 : decode cX4_why 142 = .ok (.ifCond .eq 7, 3) := by decide +kernel
theorem dX4_why_145 : decode cX4_why 145 = .ok (.iconst 1, 1) := by decide +kernel
theorem dX4_why_146 : decode cX4_why 146 = .ok (.goto 4, 3) := by decide +kernel
theorem dX4_why_149 : decode cX4_why 149 = .ok (.iconst 0, 1) := by decide +kernel
theorem dX4_why_150 : decode cX4_why 150 = .ok (.istore 4, 2) := by decide +kernel
theorem dX4_why_152 : decode cX4_why 152 = .ok (.iinc 5 1, 3) := by decide +kernel
theorem dX4_why_155 : decode cX4_why 155 = .ok (.goto (-82), 3) := by decide +kernel
theorem dX4_why_158 : decode cX4_why 158 = .ok (.iload 4, 2) := by decide +kernel
theorem dX4_why_160 : decode cX4_why 160 = .ok (.ifCond .eq 8, 3) := by decide +kernel
theorem dX4_why_163 : decode cX4_why 163 = .ok (.bipush 97, 2) := by decide +kernel
theorem dX4_why_165 : decode cX4_why 165 = .ok (.goto 5, 3) := by decide +kernel
theorem dX4_why_168 : decode cX4_why 168 = .ok (.bipush 45, 2) := by decide +kernel
theorem dX4_why_170 : decode cX4_why 170 = .ok (.ireturn, 1) := by decide +kernel
set_option maxRecDepth 20000 in
theorem ggX4_isOpen_X4_isIn : GoodIn wsX4_isOpen wsX4_isIn := goodIn_r _ [10, 11, 12, 13, 14, 15, 16, 17, 18, 19, 20, 21, 22, 23, 24, 25, 26, 27, 28, 29, 30, 31, 32, 33, 34, 35, 36, 37, 38, 39, 40, 41] (by decide +kernel) (by decide +kernel)
set_option maxRecDepth 20000 in
theorem gX4_isOpen_X4_isIn : GoodIn wsX4_isOpen (wsV RX4 161 RX4 yX4_isIn wsX4_isIn) := goodIn_app (goodIn_of _ (by decide +kernel)) ggX4_isOpen_X4_isIn
theorem dX4_isOpen_0 : decode cX4_isOpen 0 = .ok (.iload_n 3, 1) := by decide +kernel
theorem dX4_isOpen_1 : decode cX4_isOpen 1 = .ok (.aload_n 0, 1) := by decide +kernel
theorem dX4_isOpen_2 : decode cX4_isOpen 2 = .ok (.getfield 158, 3) := by decide +kernel
theorem dX4_isOpen_5 : decode cX4_isOpen 5 = .ok (.if_icmp .lt 20, 3) := by decide +kernel
theorem dX4_isOpen_8 : decode cX4_isOpen 8 = .ok (.aload_n 0, 1) := by decide +kernel
theorem dX4_isOpen_9 : decode cX4_isOpen 9 = .ok (.getfield 25, 3) := by decide +kernel
theorem dX4_isOpen_12 : decode cX4_isOpen 12 = .ok (.bipush 24, 2) := by decide +kernel
theorem dX4_isOpen_14 : decode cX4_isOpen 14 = .ok (.iload_n 2, 1) := by decide +kernel
theorem dX4_isOpen_15 : decode cX4_isOpen 15 = .ok (.imul, 1) := by decide +kernel
theorem dX4_isOpen_16 : decode cX4_isOpen 16 = .ok (.iload_n 3, 1) := by decide +kernel
theorem dX4_isOpen_17 : decode cX4_isOpen 17 = .ok (.bipush 60, 2) := by decide +kernel
theorem dX4_isOpen_19 : decode cX4_isOpen 19 = .ok (.idiv, 1) := by decide +kernel
theorem dX4_isOpen_20 : decode cX4_isOpen 20 = .ok (.iadd, 1) := by decide +kernel
theorem dX4_isOpen_21 : decode cX4_isOpen 21 = .ok (.baload, 1) := by decide +kernel
theorem dX4_isOpen_22 : decode cX4_isOpen 22 = .ok (.ifCond .ne 5, 3) := by decide +kernel
theorem dX4_isOpen_25 : decode cX4_isOpen 25 = .ok (.iconst 0, 1) := by decide +kernel
theorem dX4_isOpen_26 : decode cX4_isOpen 26 = .ok (.ireturn, 1) := by decide +kernel
theorem dX4_isOpen_27 : decode cX4_isOpen 27 = .ok (.iconst 0, 1) := by decide +kernel
theorem dX4_isOpen_28 : decode cX4_isOpen 28 = .ok (.istore 4, 2) := by decide +kernel
theorem dX4_isOpen_30 : decode cX4_isOpen 30 = .ok (.iload 4, 2) := by decide +kernel
theorem dX4_isOpen_32 : decode cX4_isOpen 32 = .ok (.aload_n 0, 1) := by decide +kernel
theorem dX4_isOpen_33 : decode cX4_isOpen 33 = .ok (.getfield 90, 3) := by decide +kernel
theorem dX4_isOpen_36 : decode cX4_isOpen 36 = .ok (.if_icmp .ge 58, 3) := by decide +kernel
theorem dX4_isOpen_39 : decode cX4_isOpen 39 = .ok (.iload 4, 2) := by decide +kernel
theorem dX4_isOpen_41 : decode cX4_isOpen 41 = .ok (.iload_n 1, 1) := by decide +kernel
theorem dX4_isOpen_42 : decode cX4_isOpen 42 = .ok (.if_icmp .eq 46, 3) := by decide +kernel
theorem dX4_isOpen_45 : decode cX4_isOpen 45 = .ok (.aload_n 0, 1) := by decide +kernel
theorem dX4_isOpen_46 : decode cX4_isOpen 46 = .ok (.iload 4, 2) := by decide +kernel
theorem dX4_isOpen_48 : decode cX4_isOpen 48 = .ok (.iload_n 3, 1) := by decide +kernel
theorem dX4_isOpen_49 : decode cX4_isOpen 49 = .ok (.iconst 1, 1) := by decide +kernel
theorem dX4_isOpen_50 : decode cX4_isOpen 50 = .ok (.invokevirtual 161, 3) := by decide +kernel
theorem dX4_isOpen_53 : decode cX4_isOpen 53 = .ok (.ifCond .eq 35, 3) := by decide +kernel
theorem dX4_isOpen_56 : decode cX4_isOpen 56 = .ok (.aload_n 0, 1) := by decide +kernel
theorem dX4_isOpen_57 : decode cX4_isOpen 57 = .ok (.getfield 51, 3) := by decide +kernel
theorem dX4_isOpen_60 : decode cX4_isOpen 60 = .ok (.iload 4, 2) := by decide +kernel
theorem dX4_isOpen_62 : decode cX4_isOpen 62 = .ok (.iaload, 1) := by decide +kernel
theorem dX4_isOpen_63 : decode cX4_isOpen 63 = .ok (.iload_n 2, 1) := by decide +kernel
theorem dX4_isOpen_64 : decode cX4_isOpen 64 = .ok (.if_icmp .eq 22, 3) := by decide +kernel
theorem dX4_isOpen_67 : decode cX4_isOpen 67 = .ok (.aload_n 0, 1) := by decide +kernel
theorem dX4_isOpen_68 : decode cX4_isOpen 68 = .ok (.getfield 60, 3) := by decide +kernel
theorem dX4_isOpen_71 : decode cX4_isOpen 71 = .ok (.iload 4, 2) := by decide +kernel
theorem dX4_isOpen_73 : decode cX4_isOpen 73 = .ok (.laload, 1) := by decide +kernel
theorem dX4_isOpen_74 : decode cX4_isOpen 74 = .ok (.aload_n 0, 1) := by decide +kernel
theorem dX4_isOpen_75 : decode cX4_isOpen 75 = .ok (.getfield 60, 3) := by decide +kernel
theorem dX4_isOpen_78 : decode cX4_isOpen 78 = .ok (.iload_n 1, 1) := by decide +kernel
theorem dX4_isOpen_79 : decode cX4_isOpen 79 = .ok (.laload, 1) := by decide +kernel
theorem dX4_isOpen_80 : decode cX4_isOpen 80 = .ok (.land, 1) := by decide +kernel
theorem dX4_isOpen_81 : decode cX4_isOpen 81 = .ok (.lconst 0, 1) := by decide +kernel
theorem dX4_isOpen_82 : decode cX4_isOpen 82 = .ok (.lcmp, 1) := by decide +kernel
theorem dX4_isOpen_83 : decode cX4_isOpen 83 = .ok (.ifCond .eq 5, 3) := by decide +kernel
theorem dX4_isOpen_86 : decode cX4_isOpen 86 = .ok (.iconst 0, 1) := by decide +kernel
theorem dX4_isOpen_87 : decode cX4_isOpen 87 = .ok (.ireturn, 1) := by decide +kernel
theorem dX4_isOpen_88 : decode cX4_isOpen 88 = .ok (.iinc 4 1, 3) := by decide +kernel
theorem dX4_isOpen_91 : decode cX4_isOpen 91 = .ok (.goto (-61), 3) := by decide +kernel
theorem dX4_isOpen_94 : decode cX4_isOpen 94 = .ok (.iconst 1, 1) := by decide +kernel
theorem dX4_isOpen_95 : decode cX4_isOpen 95 = .ok (.ireturn, 1) := by decide +kernel
set_option maxRecDepth 20000 in
theorem ggX4_looks_X4_reachesBoth : GoodIn wsX4_looks wsX4_reachesBoth := goodIn_r _ [6, 7, 8, 9, 10, 11, 12, 13, 5, 14, 15, 16, 17, 18, 19, 20, 21, 50, 51, 52, 53, 54, 55, 56, 57, 58, 59, 60, 61, 62, 63, 64, 65, 66, 67, 68, 69, 70, 71, 72, 73, 74, 75, 76, 77] (by decide +kernel) (by decide +kernel)
set_option maxRecDepth 20000 in
theorem gX4_looks_X4_reachesBoth : GoodIn wsX4_looks (wsV RX4 155 RX4 yX4_reachesBoth wsX4_reachesBoth) := goodIn_app (goodIn_of _ (by decide +kernel)) ggX4_looks_X4_reachesBoth
set_option maxRecDepth 20000 in
theorem ggX4_looks_X4_isHeavy : GoodIn wsX4_looks wsX4_isHeavy := goodIn_ca (goodIn_r _ [25, 26, 7, 8, 9, 10, 27, 28, 29, 5, 30, 31, 32, 33, 16, 17, 18, 19, 20, 21, 50, 51, 52, 53, 54, 55, 56, 57, 58, 59, 60, 61, 62, 63, 64, 65, 66, 67, 68, 69, 70, 71, 72, 73, 74, 75, 76, 77] (by decide +kernel) (by decide +kernel)) (goodIn_sub (fun _ h => List.mem_cons_of_mem _ (List.mem_append_right _ h)) (by decide +kernel))
set_option maxRecDepth 20000 in
theorem gX4_looks_X4_isHeavy : GoodIn wsX4_looks (wsV RX4 121 RX4 yX4_isHeavy wsX4_isHeavy) := goodIn_app (goodIn_of _ (by decide +kernel)) ggX4_looks_X4_isHeavy
set_option maxRecDepth 20000 in
theorem ggX4_looks_X4_isOpen : GoodIn wsX4_looks wsX4_isOpen := goodIn_r _ [37, 38, 39, 40, 41, 42, 43, 44, 45, 5, 46, 47, 48, 49, 50, 51, 52, 53, 54, 55, 56, 57, 58, 59, 60, 61, 62, 63, 64, 65, 66, 67, 68, 69, 70, 71, 72, 73, 74, 75, 76, 77] (by decide +kernel) (by decide +kernel)
set_option maxRecDepth 20000 in
theorem gX4_looks_X4_isOpen : GoodIn wsX4_looks (wsV RX4 164 RX4 yX4_isOpen wsX4_isOpen) := goodIn_app (goodIn_of _ (by decide +kernel)) ggX4_looks_X4_isOpen
theorem dX4_looks_0 : decode cX4_looks 0 = .ok (.aload_n 0, 1) := by decide +kernel
theorem dX4_looks_1 : decode cX4_looks 1 = .ok (.iload_n 1, 1) := by decide +kernel
theorem dX4_looks_2 : decode cX4_looks 2 = .ok (.iload_n 2, 1) := by decide +kernel
theorem dX4_looks_3 : decode cX4_looks 3 = .ok (.invokevirtual 155, 3) := by decide +kernel
theorem dX4_looks_6 : decode cX4_looks 6 = .ok (.ifCond .eq 16, 3) := by decide +kernel
theorem dX4_looks_9 : decode cX4_looks 9 = .ok (.aload_n 0, 1) := by decide +kernel
theorem dX4_looks_10 : decode cX4_looks 10 = .ok (.iload_n 1, 1) := by decide +kernel
theorem dX4_looks_11 : decode cX4_looks 11 = .ok (.iload_n 2, 1) := by decide +kernel
theorem dX4_looks_12 : decode cX4_looks 12 = .ok (.invokevirtual 121, 3) := by decide +kernel
theorem dX4_looks_15 : decode cX4_looks 15 = .ok (.ifCond .ne 7, 3) := by decide +kernel
theorem dX4_looks_18 : decode cX4_looks 18 = .ok (.iconst 1, 1) := by decide +kernel
theorem dX4_looks_19 : decode cX4_looks 19 = .ok (.goto 4, 3) := by decide +kernel
theorem dX4_looks_22 : decode cX4_looks 22 = .ok (.iconst 0, 1) := by decide +kernel
theorem dX4_looks_23 : decode cX4_looks 23 = .ok (.istore_n 3, 1) := by decide +kernel
theorem dX4_looks_24 : decode cX4_looks 24 = .ok (.aload_n 0, 1) := by decide +kernel
theorem dX4_looks_25 : decode cX4_looks 25 = .ok (.getfield 73, 3) := by decide +kernel
theorem dX4_looks_28 : decode cX4_looks 28 = .ok (.sipush 1440, 3) := by decide +kernel
theorem dX4_looks_31 : decode cX4_looks 31 = .ok (.iconst 0, 1) := by decide +kernel
theorem dX4_looks_32 : decode cX4_looks 32 = .ok (.iastore, 1) := by decide +kernel
theorem dX4_looks_33 : decode cX4_looks 33 = .ok (.sipush 1439, 3) := by decide +kernel
theorem dX4_looks_36 : decode cX4_looks 36 = .ok (.istore 4, 2) := by decide +kernel
theorem dX4_looks_38 : decode cX4_looks 38 = .ok (.iload 4, 2) := by decide +kernel
theorem dX4_looks_40 : decode cX4_looks 40 = .ok (.ifCond .lt 46, 3) := by decide +kernel
theorem dX4_looks_43 : decode cX4_looks 43 = .ok (.aload_n 0, 1) := by decide +kernel
theorem dX4_looks_44 : decode cX4_looks 44 = .ok (.getfield 73, 3) := by decide +kernel
theorem dX4_looks_47 : decode cX4_looks 47 = .ok (.iload 4, 2) := by decide +kernel
theorem dX4_looks_49 : decode cX4_looks 49 = .ok (.iload_n 3, 1) := by decide +kernel
theorem dX4_looks_50 : decode cX4_looks 50 = .ok (.ifCond .eq 28, 3) := by decide +kernel
theorem dX4_looks_53 : decode cX4_looks 53 = .ok (.aload_n 0, 1) := by decide +kernel
theorem dX4_looks_54 : decode cX4_looks 54 = .ok (.iload_n 1, 1) := by decide +kernel
theorem dX4_looks_55 : decode cX4_looks 55 = .ok (.iload_n 2, 1) := by decide +kernel
theorem dX4_looks_56 : decode cX4_looks 56 = .ok (.iload 4, 2) := by decide +kernel
theorem dX4_looks_58 : decode cX4_looks 58 = .ok (.invokevirtual 164, 3) := by decide +kernel
theorem dX4_looks_61 : decode cX4_looks 61 = .ok (.ifCond .eq 17, 3) := by decide +kernel
theorem dX4_looks_64 : decode cX4_looks 64 = .ok (.aload_n 0, 1) := by decide +kernel
theorem dX4_looks_65 : decode cX4_looks 65 = .ok (.getfield 73, 3) := by decide +kernel
theorem dX4_looks_68 : decode cX4_looks 68 = .ok (.iload 4, 2) := by decide +kernel
theorem dX4_looks_70 : decode cX4_looks 70 = .ok (.iconst 1, 1) := by decide +kernel
theorem dX4_looks_71 : decode cX4_looks 71 = .ok (.iadd, 1) := by decide +kernel
theorem dX4_looks_72 : decode cX4_looks 72 = .ok (.iaload, 1) := by decide +kernel
theorem dX4_looks_73 : decode cX4_looks 73 = .ok (.iconst 1, 1) := by decide +kernel
theorem dX4_looks_74 : decode cX4_looks 74 = .ok (.iadd, 1) := by decide +kernel
theorem dX4_looks_75 : decode cX4_looks 75 = .ok (.goto 4, 3) := by decide +kernel
theorem dX4_looks_78 : decode cX4_looks 78 = .ok (.iconst 0, 1) := by decide +kernel
theorem dX4_looks_79 : decode cX4_looks 79 = .ok (.iastore, 1) := by decide +kernel
theorem dX4_looks_80 : decode cX4_looks 80 = .ok (.iinc 4 (-1), 3) := by decide +kernel
theorem dX4_looks_83 : decode cX4_looks 83 = .ok (.goto (-45), 3) := by decide +kernel
theorem dX4_looks_86 : decode cX4_looks 86 = .ok (.return_, 1) := by decide +kernel
theorem dX4_fitsFrom_0 : decode cX4_fitsFrom 0 = .ok (.iload_n 2, 1) := by decide +kernel
theorem dX4_fitsFrom_1 : decode cX4_fitsFrom 1 = .ok (.istore_n 3, 1) := by decide +kernel
theorem dX4_fitsFrom_2 : decode cX4_fitsFrom 2 = .ok (.iload_n 3, 1) := by decide +kernel
theorem dX4_fitsFrom_3 : decode cX4_fitsFrom 3 = .ok (.sipush 1440, 3) := by decide +kernel
theorem dX4_fitsFrom_6 : decode cX4_fitsFrom 6 = .ok (.if_icmp .ge 26, 3) := by decide +kernel
theorem dX4_fitsFrom_9 : decode cX4_fitsFrom 9 = .ok (.aload_n 0, 1) := by decide +kernel
theorem dX4_fitsFrom_10 : decode cX4_fitsFrom 10 = .ok (.getfield 73, 3) := by decide +kernel
theorem dX4_fitsFrom_13 : decode cX4_fitsFrom 13 = .ok (.iload_n 3, 1) := by decide +kernel
theorem dX4_fitsFrom_14 : decode cX4_fitsFrom 14 = .ok (.iaload, 1) := by decide +kernel
theorem dX4_fitsFrom_15 : decode cX4_fitsFrom 15 = .ok (.aload_n 0, 1) := by decide +kernel
theorem dX4_fitsFrom_16 : decode cX4_fitsFrom 16 = .ok (.getfield 44, 3) := by decide +kernel
theorem dX4_fitsFrom_19 : decode cX4_fitsFrom 19 = .ok (.iload_n 1, 1) := by decide +kernel
theorem dX4_fitsFrom_20 : decode cX4_fitsFrom 20 = .ok (.iaload, 1) := by decide +kernel
theorem dX4_fitsFrom_21 : decode cX4_fitsFrom 21 = .ok (.if_icmp .lt 5, 3) := by decide +kernel
theorem dX4_fitsFrom_24 : decode cX4_fitsFrom 24 = .ok (.iload_n 3, 1) := by decide +kernel
theorem dX4_fitsFrom_25 : decode cX4_fitsFrom 25 = .ok (.ireturn, 1) := by decide +kernel
theorem dX4_fitsFrom_26 : decode cX4_fitsFrom 26 = .ok (.iinc 3 1, 3) := by decide +kernel
theorem dX4_fitsFrom_29 : decode cX4_fitsFrom 29 = .ok (.goto (-27), 3) := by decide +kernel
theorem dX4_fitsFrom_32 : decode cX4_fitsFrom 32 = .ok (.iconst (-1), 1) := by decide +kernel
theorem dX4_fitsFrom_33 : decode cX4_fitsFrom 33 = .ok (.ireturn, 1) := by decide +kernel
set_option maxRecDepth 20000 in
theorem ggX4_first_X4_looks : GoodIn wsX4_first wsX4_looks := goodIn_ca (goodIn_r _ [5, 6, 7, 8, 9, 4, 10, 11, 12, 13, 14, 15, 16, 17, 18, 19, 20, 21, 22, 23, 24, 25, 26, 27, 28, 29, 30, 31, 32, 33, 34, 35, 36, 37, 38, 39, 40, 41, 42, 43, 44, 45, 46, 47, 48, 49, 50, 51, 52, 53, 58, 59, 60, 61, 62, 63, 64, 65, 66, 67, 68, 69, 70, 71, 72, 73, 74, 75, 76, 77, 78, 79, 80, 81, 82, 83, 84, 85] (by decide +kernel) (by decide +kernel)) (goodIn_sub (fun _ h => List.mem_cons_of_mem _ (List.mem_append_right _ h)) (by decide +kernel))
set_option maxRecDepth 20000 in
theorem gX4_first_X4_looks : GoodIn wsX4_first (wsV RX4 167 RX4 yX4_looks wsX4_looks) := goodIn_app (goodIn_of _ (by decide +kernel)) ggX4_first_X4_looks
set_option maxRecDepth 20000 in
theorem ggX4_first_X4_fitsFrom : GoodIn wsX4_first wsX4_fitsFrom := goodIn_r _ [57, 6, 53, 58, 59, 60, 61, 62, 63, 64, 65, 66, 67, 68, 69, 70, 71, 72, 73, 74, 75, 76, 77, 78, 79, 80, 81, 82, 83, 84, 85] (by decide +kernel) (by decide +kernel)
set_option maxRecDepth 20000 in
theorem gX4_first_X4_fitsFrom : GoodIn wsX4_first (wsV RX4 171 RX4 yX4_fitsFrom wsX4_fitsFrom) := goodIn_app (goodIn_of _ (by decide +kernel)) ggX4_first_X4_fitsFrom
theorem dX4_first_0 : decode cX4_first 0 = .ok (.aload_n 0, 1) := by decide +kernel
theorem dX4_first_1 : decode cX4_first 1 = .ok (.iload_n 1, 1) := by decide +kernel
theorem dX4_first_2 : decode cX4_first 2 = .ok (.iload_n 2, 1) := by decide +kernel
theorem dX4_first_3 : decode cX4_first 3 = .ok (.invokevirtual 167, 3) := by decide +kernel
theorem dX4_first_6 : decode cX4_first 6 = .ok (.aload_n 0, 1) := by decide +kernel
theorem dX4_first_7 : decode cX4_first 7 = .ok (.iload_n 1, 1) := by decide +kernel
theorem dX4_first_8 : decode cX4_first 8 = .ok (.iconst 0, 1) := by decide +kernel
theorem dX4_first_9 : decode cX4_first 9 = .ok (.invokevirtual 171, 3) := by decide +kernel
theorem dX4_first_12 : decode cX4_first 12 = .ok (.ireturn, 1) := by decide +kernel
theorem dX4_takes_0 : decode cX4_takes 0 = .ok (.aload_n 0, 1) := by decide +kernel
theorem dX4_takes_1 : decode cX4_takes 1 = .ok (.getfield 47, 3) := by decide +kernel
theorem dX4_takes_4 : decode cX4_takes 4 = .ok (.iload_n 1, 1) := by decide +kernel
theorem dX4_takes_5 : decode cX4_takes 5 = .ok (.bipush 112, 2) := by decide +kernel
theorem dX4_takes_7 : decode cX4_takes 7 = .ok (.castore, 1) := by decide +kernel
theorem dX4_takes_8 : decode cX4_takes 8 = .ok (.aload_n 0, 1) := by decide +kernel
theorem dX4_takes_9 : decode cX4_takes 9 = .ok (.getfield 51, 3) := by decide +kernel
theorem dX4_takes_12 : decode cX4_takes 12 = .ok (.iload_n 1, 1) := by decide +kernel
theorem dX4_takes_13 : decode cX4_takes 13 = .ok (.iload_n 2, 1) := by decide +kernel
theorem dX4_takes_14 : decode cX4_takes 14 = .ok (.iastore, 1) := by decide +kernel
theorem dX4_takes_15 : decode cX4_takes 15 = .ok (.aload_n 0, 1) := by decide +kernel
theorem dX4_takes_16 : decode cX4_takes 16 = .ok (.getfield 54, 3) := by decide +kernel
theorem dX4_takes_19 : decode cX4_takes 19 = .ok (.iload_n 1, 1) := by decide +kernel
theorem dX4_takes_20 : decode cX4_takes 20 = .ok (.iload_n 3, 1) := by decide +kernel
theorem dX4_takes_21 : decode cX4_takes 21 = .ok (.iastore, 1) := by decide +kernel
theorem dX4_takes_22 : decode cX4_takes 22 = .ok (.return_, 1) := by decide +kernel
set_option maxRecDepth 20000 in
theorem ggX4_isNoPair_X4_isNoLift : GoodIn wsX4_isNoPair wsX4_isNoLift := goodIn_r _ [5, 6, 7, 8, 4, 9, 20, 21, 22, 23, 24, 25, 26, 27, 28, 29, 30, 31, 32, 33, 34, 35, 36, 37, 38, 39, 40, 41, 42, 43, 44, 45, 46, 47] (by decide +kernel) (by decide +kernel)
set_option maxRecDepth 20000 in
theorem gX4_isNoPair_X4_isNoLift : GoodIn wsX4_isNoPair (wsV RX4 93 RX4 yX4_isNoLift wsX4_isNoLift) := goodIn_app (goodIn_of _ (by decide +kernel)) ggX4_isNoPair_X4_isNoLift
set_option maxRecDepth 20000 in
theorem ggX4_isNoPair_X4_isNoCrane : GoodIn wsX4_isNoPair wsX4_isNoCrane := goodIn_r _ [13, 14, 7, 8, 4, 9, 20, 21, 22, 23, 24, 25, 26, 27, 28, 29, 30, 31, 32, 33, 34, 35, 36, 37, 38, 39, 40, 41, 42, 43, 44, 45, 46, 47] (by decide +kernel) (by decide +kernel)
set_option maxRecDepth 20000 in
theorem gX4_isNoPair_X4_isNoCrane : GoodIn wsX4_isNoPair (wsV RX4 100 RX4 yX4_isNoCrane wsX4_isNoCrane) := goodIn_app (goodIn_of _ (by decide +kernel)) ggX4_isNoPair_X4_isNoCrane
set_option maxRecDepth 20000 in
theorem ggX4_isNoPair_X4_fails : GoodIn wsX4_isNoPair wsX4_fails := goodIn_r _ [18, 19, 20, 21, 22, 23, 24, 25, 26, 27, 28, 29, 30, 31, 32, 33, 34, 35, 36, 37, 38, 39, 40, 41, 42, 43, 44, 45, 46, 47] (by decide +kernel) (by decide +kernel)
set_option maxRecDepth 20000 in
theorem gX4_isNoPair_X4_fails : GoodIn wsX4_isNoPair (wsV RX4 97 RX4 yX4_fails wsX4_fails) := goodIn_app (goodIn_of _ (by decide +kernel)) ggX4_isNoPair_X4_fails
theorem dX4_isNoPair_0 : decode cX4_isNoPair 0 = .ok (.aload_n 0, 1) := by decide +kernel
theorem dX4_isNoPair_1 : decode cX4_isNoPair 1 = .ok (.aload_n 0, 1) := by decide +kernel
theorem dX4_isNoPair_2 : decode cX4_isNoPair 2 = .ok (.iload_n 1, 1) := by decide +kernel
theorem dX4_isNoPair_3 : decode cX4_isNoPair 3 = .ok (.invokevirtual 93, 3) := by decide +kernel
theorem dX4_isNoPair_6 : decode cX4_isNoPair 6 = .ok (.ifCond .ne 11, 3) := by decide +kernel
theorem dX4_isNoPair_9 : decode cX4_isNoPair 9 = .ok (.aload_n 0, 1) := by decide +kernel
theorem dX4_isNoPair_10 : decode cX4_isNoPair 10 = .ok (.iload_n 2, 1) := by decide +kernel
theorem dX4_isNoPair_11 : decode cX4_isNoPair 11 = .ok (.invokevirtual 100, 3) := by decide +kernel
theorem dX4_isNoPair_14 : decode cX4_isNoPair 14 = .ok (.ifCond .eq 7, 3) := by decide +kernel
theorem dX4_isNoPair_17 : decode cX4_isNoPair 17 = .ok (.iconst 1, 1) := by decide +kernel
theorem dX4_isNoPair_18 : decode cX4_isNoPair 18 = .ok (.goto 4, 3) := by decide +kernel
theorem dX4_isNoPair_21 : decode cX4_isNoPair 21 = .ok (.iconst 0, 1) := by decide +kernel
theorem dX4_isNoPair_22 : decode cX4_isNoPair 22 = .ok (.invokevirtual 97, 3) := by decide +kernel
theorem dX4_isNoPair_25 : decode cX4_isNoPair 25 = .ok (.ireturn, 1) := by decide +kernel
set_option maxRecDepth 20000 in
theorem ggX4_isBound_X4_isNoPair : GoodIn wsX4_isBound wsX4_isNoPair := goodIn_r _ [7, 8, 9, 10, 6, 11, 12, 13, 14, 15, 16, 17, 18, 19, 20, 21, 22, 23, 24, 25, 26, 27, 28, 29, 30, 31, 32, 33, 34, 35, 36, 37, 38, 39, 40, 41, 42, 43, 44, 45, 46, 47, 48, 49, 50, 51, 52, 53] (by decide +kernel) (by decide +kernel)
set_option maxRecDepth 20000 in
theorem gX4_isBound_X4_isNoPair : GoodIn wsX4_isBound (wsV RX4 175 RX4 yX4_isNoPair wsX4_isNoPair) := goodIn_app (goodIn_of _ (by decide +kernel)) ggX4_isBound_X4_isNoPair
set_option maxRecDepth 20000 in
theorem ggX4_isBound_X4_fails : GoodIn wsX4_isBound wsX4_fails := goodIn_r _ [24, 25, 26, 27, 28, 29, 30, 31, 32, 33, 34, 35, 36, 37, 38, 39, 40, 41, 42, 43, 44, 45, 46, 47, 48, 49, 50, 51, 52, 53] (by decide +kernel) (by decide +kernel)
set_option maxRecDepth 20000 in
theorem gX4_isBound_X4_fails : GoodIn wsX4_isBound (wsV RX4 97 RX4 yX4_fails wsX4_fails) := goodIn_app (goodIn_of _ (by decide +kernel)) ggX4_isBound_X4_fails
theorem dX4_isBound_0 : decode cX4_isBound 0 = .ok (.aload_n 0, 1) := by decide +kernel
theorem dX4_isBound_1 : decode cX4_isBound 1 = .ok (.iload_n 1, 1) := by decide +kernel
theorem dX4_isBound_2 : decode cX4_isBound 2 = .ok (.iload_n 2, 1) := by decide +kernel
theorem dX4_isBound_3 : decode cX4_isBound 3 = .ok (.invokevirtual 175, 3) := by decide +kernel
theorem dX4_isBound_6 : decode cX4_isBound 6 = .ok (.ifCond .ne 35, 3) := by decide +kernel
theorem dX4_isBound_9 : decode cX4_isBound 9 = .ok (.aload_n 0, 1) := by decide +kernel
theorem dX4_isBound_10 : decode cX4_isBound 10 = .ok (.aload_n 0, 1) := by decide +kernel
theorem dX4_isBound_11 : decode cX4_isBound 11 = .ok (.getfield 47, 3) := by decide +kernel
theorem dX4_isBound_14 : decode cX4_isBound 14 = .ok (.iload_n 1, 1) := by decide +kernel
theorem dX4_isBound_15 : decode cX4_isBound 15 = .ok (.caload, 1) := by decide +kernel
theorem dX4_isBound_16 : decode cX4_isBound 16 = .ok (.bipush 119, 2) := by decide +kernel
theorem dX4_isBound_18 : decode cX4_isBound 18 = .ok (.if_icmp .ne 12, 3) := by decide +kernel
theorem dX4_isBound_21 : decode cX4_isBound 21 = .ok (.aload_n 0, 1) := by decide +kernel
theorem dX4_isBound_22 : decode cX4_isBound 22 = .ok (.getfield 57, 3) := by decide +kernel
theorem dX4_isBound_25 : decode cX4_isBound 25 = .ok (.iload_n 1, 1) := by decide +kernel
theorem dX4_isBound_26 : decode cX4_isBound 26 = .ok (.iaload, 1) := by decide +kernel
theorem dX4_isBound_27 : decode cX4_isBound 27 = .ok (.ifCond .lt 7, 3) := by decide +kernel
theorem dX4_isBound_30 : decode cX4_isBound 30 = .ok (.iconst 2, 1) := by decide +kernel
theorem dX4_isBound_31 : decode cX4_isBound 31 = .ok (.goto 4, 3) := by decide +kernel
theorem dX4_isBound_34 : decode cX4_isBound 34 = .ok (.iconst 0, 1) := by decide +kernel
theorem dX4_isBound_35 : decode cX4_isBound 35 = .ok (.invokevirtual 97, 3) := by decide +kernel
theorem dX4_isBound_38 : decode cX4_isBound 38 = .ok (.ifCond .eq 7, 3) := by decide +kernel
theorem dX4_isBound_41 : decode cX4_isBound 41 = .ok (.iconst 1, 1) := by decide +kernel
theorem dX4_isBound_42 : decode cX4_isBound 42 = .ok (.goto 4, 3) := by decide +kernel
theorem dX4_isBound_45 : decode cX4_isBound 45 = .ok (.iconst 0, 1) := by decide +kernel
theorem dX4_isBound_46 : decode cX4_isBound 46 = .ok (.ireturn, 1) := by decide +kernel
set_option maxRecDepth 20000 in
theorem ggX4_plan_X4_isBound : GoodIn wsX4_plan wsX4_isBound := goodIn_r _ [5, 6, 7, 8, 9, 10, 4, 11, 12, 13, 14, 15, 16, 17, 18, 19, 20, 21, 22, 23, 24, 25, 26, 27, 28, 29, 92, 93, 94, 95, 96, 97, 98, 99, 100, 101, 102, 103, 104, 105, 106, 107, 108, 109, 110, 111, 112, 113, 114, 115, 116, 117, 118, 119] (by decide +kernel) (by decide +kernel)
set_option maxRecDepth 20000 in
theorem gX4_plan_X4_isBound : GoodIn wsX4_plan (wsV RX4 178 RX4 yX4_isBound wsX4_isBound) := goodIn_app (goodIn_of _ (by decide +kernel)) ggX4_plan_X4_isBound
set_option maxRecDepth 20000 in
theorem ggX4_plan_X4_first : GoodIn wsX4_plan wsX4_first := goodIn_ca (goodIn_r _ [33, 34, 35, 36, 4, 37, 38, 39, 40, 41, 42, 43, 44, 45, 46, 47, 48, 49, 50, 51, 52, 53, 54, 55, 56, 57, 58, 59, 60, 61, 62, 63, 64, 65, 66, 67, 68, 69, 70, 71, 72, 73, 74, 75, 16, 76, 77, 78, 79, 80, 81, 6, 82, 83, 84, 85, 86, 87, 92, 93, 94, 95, 96, 97, 98, 99, 100, 101, 102, 103, 104, 105, 106, 107, 108, 109, 110, 111, 112, 113, 114, 115, 116, 117, 118, 119] (by decide +kernel) (by decide +kernel)) (goodIn_sub (fun _ h => List.mem_cons_of_mem _ (List.mem_append_right _ h)) (by decide +kernel))
set_option maxRecDepth 20000 in
theorem gX4_plan_X4_first : GoodIn wsX4_plan (wsV RX4 181 RX4 yX4_first wsX4_first) := goodIn_app (goodIn_of _ (by decide +kernel)) ggX4_plan_X4_first
set_option maxRecDepth 20000 in
theorem ggX4_plan_X4_fails : GoodIn wsX4_plan wsX4_fails := goodIn_r _ [28, 29, 92, 93, 94, 95, 96, 97, 98, 99, 100, 101, 102, 103, 104, 105, 106, 107, 108, 109, 110, 111, 112, 113, 114, 115, 116, 117, 118, 119] (by decide +kernel) (by decide +kernel)
set_option maxRecDepth 20000 in
theorem gX4_plan_X4_fails : GoodIn wsX4_plan (wsV RX4 97 RX4 yX4_fails wsX4_fails) := goodIn_app (goodIn_of _ (by decide +kernel)) ggX4_plan_X4_fails
set_option maxRecDepth 20000 in
theorem ggX4_plan_X4_takes : GoodIn wsX4_plan wsX4_takes := goodIn_r _ [91, 6, 76, 82, 92, 93, 94, 95, 96, 97, 98, 99, 100, 101, 102, 103, 104, 105, 106, 107, 108, 109, 110, 111, 112, 113, 114, 115, 116, 117, 118, 119] (by decide +kernel) (by decide +kernel)
set_option maxRecDepth 20000 in
theorem gX4_plan_X4_takes : GoodIn wsX4_plan (wsV RX4 184 RX4 yX4_takes wsX4_takes) := goodIn_app (goodIn_of _ (by decide +kernel)) ggX4_plan_X4_takes
theorem dX4_plan_0 : decode cX4_plan 0 = .ok (.aload_n 0, 1) := by decide +kernel
theorem dX4_plan_1 : decode cX4_plan 1 = .ok (.iload_n 1, 1) := by decide +kernel
theorem dX4_plan_2 : decode cX4_plan 2 = .ok (.iload_n 2, 1) := by decide +kernel
theorem dX4_plan_3 : decode cX4_plan 3 = .ok (.invokevirtual 178, 3) := by decide +kernel
theorem dX4_plan_6 : decode cX4_plan 6 = .ok (.ifCond .eq 5, 3) := by decide +kernel
theorem dX4_plan_9 : decode cX4_plan 9 = .ok (.iconst 0, 1) := by decide +kernel
theorem dX4_plan_10 : decode cX4_plan 10 = .ok (.ireturn, 1) := by decide +kernel
theorem dX4_plan_11 : decode cX4_plan 11 = .ok (.aload_n 0, 1) := by decide +kernel
theorem dX4_plan_12 : decode cX4_plan 12 = .ok (.iload_n 1, 1) := by decide +kernel
theorem dX4_plan_13 : decode cX4_plan 13 = .ok (.iload_n 2, 1) := by decide +kernel
theorem dX4_plan_14 : decode cX4_plan 14 = .ok (.invokevirtual 181, 3) := by decide +kernel
theorem dX4_plan_17 : decode cX4_plan 17 = .ok (.istore_n 3, 1) := by decide +kernel
theorem dX4_plan_18 : decode cX4_plan 18 = .ok (.aload_n 0, 1) := by decide +kernel
theorem dX4_plan_19 : decode cX4_plan 19 = .ok (.iload_n 3, 1) := by decide +kernel
theorem dX4_plan_20 : decode cX4_plan 20 = .ok (.ifCond .ge 7, 3) := by decide +kernel
theorem dX4_plan_23 : decode cX4_plan 23 = .ok (.iconst 3, 1) := by decide +kernel
theorem dX4_plan_24 : decode cX4_plan 24 = .ok (.goto 4, 3) := by decide +kernel
theorem dX4_plan_27 : decode cX4_plan 27 = .ok (.iconst 0, 1) := by decide +kernel
theorem dX4_plan_28 : decode cX4_plan 28 = .ok (.invokevirtual 97, 3) := by decide +kernel
theorem dX4_plan_31 : decode cX4_plan 31 = .ok (.ifCond .eq 5, 3) := by decide +kernel
theorem dX4_plan_34 : decode cX4_plan 34 = .ok (.iconst 0, 1) := by decide +kernel
theorem dX4_plan_35 : decode cX4_plan 35 = .ok (.ireturn, 1) := by decide +kernel
theorem dX4_plan_36 : decode cX4_plan 36 = .ok (.aload_n 0, 1) := by decide +kernel
theorem dX4_plan_37 : decode cX4_plan 37 = .ok (.iload_n 1, 1) := by decide +kernel
theorem dX4_plan_38 : decode cX4_plan 38 = .ok (.iload_n 2, 1) := by decide +kernel
theorem dX4_plan_39 : decode cX4_plan 39 = .ok (.iload_n 3, 1) := by decide +kernel
theorem dX4_plan_40 : decode cX4_plan 40 = .ok (.invokevirtual 184, 3) := by decide +kernel
theorem dX4_plan_43 : decode cX4_plan 43 = .ok (.iload_n 3, 1) := by decide +kernel
theorem dX4_plan_44 : decode cX4_plan 44 = .ok (.ireturn, 1) := by decide +kernel
set_option maxRecDepth 20000 in
theorem ggX4_planAt_X4_isBound : GoodIn wsX4_planAt wsX4_isBound := goodIn_r _ [6, 7, 8, 9, 10, 11, 5, 12, 13, 14, 15, 16, 17, 18, 19, 20, 21, 22, 23, 24, 25, 26, 27, 28, 29, 30, 83, 84, 85, 86, 87, 88, 89, 90, 91, 92, 93, 94, 95, 96, 97, 98, 99, 100, 101, 102, 103, 104, 105, 106, 107, 108, 109, 110] (by decide +kernel) (by decide +kernel)
set_option maxRecDepth 20000 in
theorem gX4_planAt_X4_isBound : GoodIn wsX4_planAt (wsV RX4 178 RX4 yX4_isBound wsX4_isBound) := goodIn_app (goodIn_of _ (by decide +kernel)) ggX4_planAt_X4_isBound
set_option maxRecDepth 20000 in
theorem ggX4_planAt_X4_why : GoodIn wsX4_planAt wsX4_why := goodIn_ca (goodIn_r _ [34, 35, 1, 17, 36, 37, 38, 39, 40, 5, 41, 42, 43, 44, 45, 46, 47, 48, 49, 50, 51, 52, 53, 54, 55, 56, 57, 58, 59, 60, 61, 62, 63, 64, 65, 66, 67, 68, 69, 70, 71, 72, 73, 74, 75, 76, 77, 7, 78, 83, 84, 85, 86, 87, 88, 89, 90, 91, 92, 93, 94, 95, 96, 97, 98, 99, 100, 101, 102, 103, 104, 105, 106, 107, 108, 109, 110] (by decide +kernel) (by decide +kernel)) (goodIn_sub (fun _ h => List.mem_cons_of_mem _ (List.mem_append_right _ h)) (by decide +kernel))
set_option maxRecDepth 20000 in
theorem gX4_planAt_X4_why : GoodIn wsX4_planAt (wsV RX4 188 RX4 yX4_why wsX4_why) := goodIn_app (goodIn_of _ (by decide +kernel)) ggX4_planAt_X4_why
set_option maxRecDepth 20000 in
theorem ggX4_planAt_X4_fails : GoodIn wsX4_planAt wsX4_fails := goodIn_r _ [29, 30, 83, 84, 85, 86, 87, 88, 89, 90, 91, 92, 93, 94, 95, 96, 97, 98, 99, 100, 101, 102, 103, 104, 105, 106, 107, 108, 109, 110] (by decide +kernel) (by decide +kernel)
set_option maxRecDepth 20000 in
theorem gX4_planAt_X4_fails : GoodIn wsX4_planAt (wsV RX4 97 RX4 yX4_fails wsX4_fails) := goodIn_app (goodIn_of _ (by decide +kernel)) ggX4_planAt_X4_fails
set_option maxRecDepth 20000 in
theorem ggX4_planAt_X4_takes : GoodIn wsX4_planAt wsX4_takes := goodIn_r _ [82, 7, 36, 78, 83, 84, 85, 86, 87, 88, 89, 90, 91, 92, 93, 94, 95, 96, 97, 98, 99, 100, 101, 102, 103, 104, 105, 106, 107, 108, 109, 110] (by decide +kernel) (by decide +kernel)
set_option maxRecDepth 20000 in
theorem gX4_planAt_X4_takes : GoodIn wsX4_planAt (wsV RX4 184 RX4 yX4_takes wsX4_takes) := goodIn_app (goodIn_of _ (by decide +kernel)) ggX4_planAt_X4_takes
theorem dX4_planAt_0 : decode cX4_planAt 0 = .ok (.aload_n 0, 1) := by decide +kernel
theorem dX4_planAt_1 : decode cX4_planAt 1 = .ok (.iload_n 1, 1) := by decide +kernel
theorem dX4_planAt_2 : decode cX4_planAt 2 = .ok (.iload_n 2, 1) := by decide +kernel
theorem dX4_planAt_3 : decode cX4_planAt 3 = .ok (.invokevirtual 178, 3) := by decide +kernel
theorem dX4_planAt_6 : decode cX4_planAt 6 = .ok (.ifCond .ne 27, 3) := by decide +kernel
theorem dX4_planAt_9 : decode cX4_planAt 9 = .ok (.aload_n 0, 1) := by decide +kernel
theorem dX4_planAt_10 : decode cX4_planAt 10 = .ok (.aload_n 0, 1) := by decide +kernel
theorem dX4_planAt_11 : decode cX4_planAt 11 = .ok (.iload_n 1, 1) := by decide +kernel
theorem dX4_planAt_12 : decode cX4_planAt 12 = .ok (.iload_n 2, 1) := by decide +kernel
theorem dX4_planAt_13 : decode cX4_planAt 13 = .ok (.iload_n 3, 1) := by decide +kernel
theorem dX4_planAt_14 : decode cX4_planAt 14 = .ok (.invokevirtual 188, 3) := by decide +kernel
theorem dX4_planAt_17 : decode cX4_planAt 17 = .ok (.bipush 45, 2) := by decide +kernel
theorem dX4_planAt_19 : decode cX4_planAt 19 = .ok (.if_icmp .ne 7, 3) := by decide +kernel
theorem dX4_planAt_22 : decode cX4_planAt 22 = .ok (.iconst 0, 1) := by decide +kernel
theorem dX4_planAt_23 : decode cX4_planAt 23 = .ok (.goto 4, 3) := by decide +kernel
theorem dX4_planAt_26 : decode cX4_planAt 26 = .ok (.iconst 3, 1) := by decide +kernel
theorem dX4_planAt_27 : decode cX4_planAt 27 = .ok (.invokevirtual 97, 3) := by decide +kernel
theorem dX4_planAt_30 : decode cX4_planAt 30 = .ok (.ifCond .eq 5, 3) := by decide +kernel
theorem dX4_planAt_33 : decode cX4_planAt 33 = .ok (.iconst 0, 1) := by decide +kernel
theorem dX4_planAt_34 : decode cX4_planAt 34 = .ok (.ireturn, 1) := by decide +kernel
theorem dX4_planAt_35 : decode cX4_planAt 35 = .ok (.aload_n 0, 1) := by decide +kernel
theorem dX4_planAt_36 : decode cX4_planAt 36 = .ok (.iload_n 1, 1) := by decide +kernel
theorem dX4_planAt_37 : decode cX4_planAt 37 = .ok (.iload_n 2, 1) := by decide +kernel
theorem dX4_planAt_38 : decode cX4_planAt 38 = .ok (.iload_n 3, 1) := by decide +kernel
theorem dX4_planAt_39 : decode cX4_planAt 39 = .ok (.invokevirtual 184, 3) := by decide +kernel
theorem dX4_planAt_42 : decode cX4_planAt 42 = .ok (.iload_n 3, 1) := by decide +kernel
theorem dX4_planAt_43 : decode cX4_planAt 43 = .ok (.aload_n 0, 1) := by decide +kernel
theorem dX4_planAt_44 : decode cX4_planAt 44 = .ok (.getfield 44, 3) := by decide +kernel
theorem dX4_planAt_47 : decode cX4_planAt 47 = .ok (.iload_n 1, 1) := by decide +kernel
theorem dX4_planAt_48 : decode cX4_planAt 48 = .ok (.iaload, 1) := by decide +kernel
theorem dX4_planAt_49 : decode cX4_planAt 49 = .ok (.iadd, 1) := by decide +kernel
theorem dX4_planAt_50 : decode cX4_planAt 50 = .ok (.ireturn, 1) := by decide +kernel
set_option maxRecDepth 20000 in
theorem ggX4_fitsAll_X4_fitsFrom : GoodIn wsX4_fitsAll wsX4_fitsFrom := goodIn_r _ [10, 11, 4, 12, 13, 14, 15, 16, 17, 18, 19, 20, 21, 22, 23, 24, 25, 26, 27, 28, 29, 30, 31, 32, 33, 34, 35, 36, 37, 38, 39] (by decide +kernel) (by decide +kernel)
set_option maxRecDepth 20000 in
theorem gX4_fitsAll_X4_fitsFrom : GoodIn wsX4_fitsAll (wsV RX4 171 RX4 yX4_fitsFrom wsX4_fitsFrom) := goodIn_app (goodIn_of _ (by decide +kernel)) ggX4_fitsAll_X4_fitsFrom
theorem dX4_fitsAll_0 : decode cX4_fitsAll 0 = .ok (.aload_n 0, 1) := by decide +kernel
theorem dX4_fitsAll_1 : decode cX4_fitsAll 1 = .ok (.getfield 64, 3) := by decide +kernel
theorem dX4_fitsAll_4 : decode cX4_fitsAll 4 = .ok (.iload_n 1, 1) := by decide +kernel
theorem dX4_fitsAll_5 : decode cX4_fitsAll 5 = .ok (.iaload, 1) := by decide +kernel
theorem dX4_fitsAll_6 : decode cX4_fitsAll 6 = .ok (.istore_n 3, 1) := by decide +kernel
theorem dX4_fitsAll_7 : decode cX4_fitsAll 7 = .ok (.aload_n 0, 1) := by decide +kernel
theorem dX4_fitsAll_8 : decode cX4_fitsAll 8 = .ok (.getfield 76, 3) := by decide +kernel
theorem dX4_fitsAll_11 : decode cX4_fitsAll 11 = .ok (.iconst 0, 1) := by decide +kernel
theorem dX4_fitsAll_12 : decode cX4_fitsAll 12 = .ok (.iload_n 2, 1) := by decide +kernel
theorem dX4_fitsAll_13 : decode cX4_fitsAll 13 = .ok (.iastore, 1) := by decide +kernel
theorem dX4_fitsAll_14 : decode cX4_fitsAll 14 = .ok (.iconst 1, 1) := by decide +kernel
theorem dX4_fitsAll_15 : decode cX4_fitsAll 15 = .ok (.istore 4, 2) := by decide +kernel
theorem dX4_fitsAll_17 : decode cX4_fitsAll 17 = .ok (.iload 4, 2) := by decide +kernel
theorem dX4_fitsAll_19 : decode cX4_fitsAll 19 = .ok (.aload_n 0, 1) := by decide +kernel
theorem dX4_fitsAll_20 : decode cX4_fitsAll 20 = .ok (.getfield 67, 3) := by decide +kernel
theorem dX4_fitsAll_23 : decode cX4_fitsAll 23 = .ok (.iload_n 1, 1) := by decide +kernel
theorem dX4_fitsAll_24 : decode cX4_fitsAll 24 = .ok (.iaload, 1) := by decide +kernel
theorem dX4_fitsAll_25 : decode cX4_fitsAll 25 = .ok (.if_icmp .ge 72, 3) := by decide +kernel
theorem dX4_fitsAll_28 : decode cX4_fitsAll 28 = .ok (.aload_n 0, 1) := by decide +kernel
theorem dX4_fitsAll_29 : decode cX4_fitsAll 29 = .ok (.getfield 76, 3) := by decide +kernel
theorem dX4_fitsAll_32 : decode cX4_fitsAll 32 = .ok (.iload 4, 2) := by decide +kernel
theorem dX4_fitsAll_34 : decode cX4_fitsAll 34 = .ok (.iconst 1, 1) := by decide +kernel
theorem dX4_fitsAll_35 : decode cX4_fitsAll 35 = .ok (.isub, 1) := by decide +kernel
theorem dX4_fitsAll_36 : decode cX4_fitsAll 36 = .ok (.iaload, 1) := by decide +kernel
theorem dX4_fitsAll_37 : decode cX4_fitsAll 37 = .ok (.aload_n 0, 1) := by decide +kernel
theorem dX4_fitsAll_38 : decode cX4_fitsAll 38 = .ok (.getfield 44, 3) := by decide +kernel
theorem dX4_fitsAll_41 : decode cX4_fitsAll 41 = .ok (.iload_n 3, 1) := by decide +kernel
theorem dX4_fitsAll_42 : decode cX4_fitsAll 42 = .ok (.iaload, 1) := by decide +kernel
theorem dX4_fitsAll_43 : decode cX4_fitsAll 43 = .ok (.iadd, 1) := by decide +kernel
theorem dX4_fitsAll_44 : decode cX4_fitsAll 44 = .ok (.istore 5, 2) := by decide +kernel
theorem dX4_fitsAll_46 : decode cX4_fitsAll 46 = .ok (.aload_n 0, 1) := by decide +kernel
theorem dX4_fitsAll_47 : decode cX4_fitsAll 47 = .ok (.getfield 76, 3) := by decide +kernel
theorem dX4_fitsAll_50 : decode cX4_fitsAll 50 = .ok (.iload 4, 2) := by decide +kernel
theorem dX4_fitsAll_52 : decode cX4_fitsAll 52 = .ok (.aload_n 0, 1) := by decide +kernel
theorem dX4_fitsAll_53 : decode cX4_fitsAll 53 = .ok (.iload_n 3, 1) := by decide +kernel
theorem dX4_fitsAll_54 : decode cX4_fitsAll 54 = .ok (.iload 5, 2) := by decide +kernel
theorem dX4_fitsAll_56 : decode cX4_fitsAll 56 = .ok (.invokevirtual 171, 3) := by decide +kernel
theorem dX4_fitsAll_59 : decode cX4_fitsAll 59 = .ok (.iastore, 1) := by decide +kernel
theorem dX4_fitsAll_60 : decode cX4_fitsAll 60 = .ok (.aload_n 0, 1) := by decide +kernel
theorem dX4_fitsAll_61 : decode cX4_fitsAll 61 = .ok (.getfield 76, 3) := by decide +kernel
theorem dX4_fitsAll_64 : decode cX4_fitsAll 64 = .ok (.iload 4, 2) := by decide +kernel
theorem dX4_fitsAll_66 : decode cX4_fitsAll 66 = .ok (.iaload, 1) := by decide +kernel
theorem dX4_fitsAll_67 : decode cX4_fitsAll 67 = .ok (.ifCond .lt 22, 3) := by decide +kernel
theorem dX4_fitsAll_70 : decode cX4_fitsAll 70 = .ok (.aload_n 0, 1) := by decide +kernel
theorem dX4_fitsAll_71 : decode cX4_fitsAll 71 = .ok (.getfield 76, 3) := by decide +kernel
theorem dX4_fitsAll_74 : decode cX4_fitsAll 74 = .ok (.iload 4, 2) := by decide +kernel
theorem dX4_fitsAll_76 : decode cX4_fitsAll 76 = .ok (.iaload, 1) := by decide +kernel
theorem dX4_fitsAll_77 : decode cX4_fitsAll 77 = .ok (.iload 5, 2) := by decide +kernel
theorem dX4_fitsAll_79 : decode cX4_fitsAll 79 = .ok (.isub, 1) := by decide +kernel
theorem dX4_fitsAll_80 : decode cX4_fitsAll 80 = .ok (.aload_n 0, 1) := by decide +kernel
theorem dX4_fitsAll_81 : decode cX4_fitsAll 81 = .ok (.getfield 70, 3) := by decide +kernel
theorem dX4_fitsAll_84 : decode cX4_fitsAll 84 = .ok (.iload_n 1, 1) := by decide +kernel
theorem dX4_fitsAll_85 : decode cX4_fitsAll 85 = .ok (.iaload, 1) := by decide +kernel
theorem dX4_fitsAll_86 : decode cX4_fitsAll 86 = .ok (.if_icmp .le 5, 3) := by decide +kernel
theorem dX4_fitsAll_89 : decode cX4_fitsAll 89 = .ok (.iconst 0, 1) := by decide +kernel
theorem dX4_fitsAll_90 : decode cX4_fitsAll 90 = .ok (.ireturn, 1) := by decide +kernel
theorem dX4_fitsAll_91 : decode cX4_fitsAll 91 = .ok (.iinc 4 1, 3) := by decide +kernel
theorem dX4_fitsAll_94 : decode cX4_fitsAll 94 = .ok (.goto (-77), 3) := by decide +kernel
theorem dX4_fitsAll_97 : decode cX4_fitsAll 97 = .ok (.iconst 1, 1) := by decide +kernel
theorem dX4_fitsAll_98 : decode cX4_fitsAll 98 = .ok (.ireturn, 1) := by decide +kernel
theorem dX4_isWaiting_0 : decode cX4_isWaiting 0 = .ok (.iconst 0, 1) := by decide +kernel
theorem dX4_isWaiting_1 : decode cX4_isWaiting 1 = .ok (.istore_n 2, 1) := by decide +kernel
theorem dX4_isWaiting_2 : decode cX4_isWaiting 2 = .ok (.iload_n 2, 1) := by decide +kernel
theorem dX4_isWaiting_3 : decode cX4_isWaiting 3 = .ok (.aload_n 0, 1) := by decide +kernel
theorem dX4_isWaiting_4 : decode cX4_isWaiting 4 = .ok (.getfield 67, 3) := by decide +kernel
theorem dX4_isWaiting_7 : decode cX4_isWaiting 7 = .ok (.iload_n 1, 1) := by decide +kernel
theorem dX4_isWaiting_8 : decode cX4_isWaiting 8 = .ok (.iaload, 1) := by decide +kernel
theorem dX4_isWaiting_9 : decode cX4_isWaiting 9 = .ok (.if_icmp .ge 29, 3) := by decide +kernel
theorem dX4_isWaiting_12 : decode cX4_isWaiting 12 = .ok (.aload_n 0, 1) := by decide +kernel
theorem dX4_isWaiting_13 : decode cX4_isWaiting 13 = .ok (.getfield 47, 3) := by decide +kernel
theorem dX4_isWaiting_16 : decode cX4_isWaiting 16 = .ok (.aload_n 0, 1) := by decide +kernel
theorem dX4_isWaiting_17 : decode cX4_isWaiting 17 = .ok (.getfield 64, 3) := by decide +kernel
theorem dX4_isWaiting_20 : decode cX4_isWaiting 20 = .ok (.iload_n 1, 1) := by decide +kernel
theorem dX4_isWaiting_21 : decode cX4_isWaiting 21 = .ok (.iaload, 1) := by decide +kernel
theorem dX4_isWaiting_22 : decode cX4_isWaiting 22 = .ok (.iload_n 2, 1) := by decide +kernel
theorem dX4_isWaiting_23 : decode cX4_isWaiting 23 = .ok (.iadd, 1) := by decide +kernel
theorem dX4_isWaiting_24 : decode cX4_isWaiting 24 = .ok (.caload, 1) := by decide +kernel
theorem dX4_isWaiting_25 : decode cX4_isWaiting 25 = .ok (.bipush 119, 2) := by decide +kernel
theorem dX4_isWaiting_27 : decode cX4_isWaiting 27 = .ok (.if_icmp .eq 5, 3) := by decide +kernel
theorem dX4_isWaiting_30 : decode cX4_isWaiting 30 = .ok (.iconst 0, 1) := by decide +kernel
theorem dX4_isWaiting_31 : decode cX4_isWaiting 31 = .ok (.ireturn, 1) := by decide +kernel
theorem dX4_isWaiting_32 : decode cX4_isWaiting 32 = .ok (.iinc 2 1, 3) := by decide +kernel
theorem dX4_isWaiting_35 : decode cX4_isWaiting 35 = .ok (.goto (-33), 3) := by decide +kernel
theorem dX4_isWaiting_38 : decode cX4_isWaiting 38 = .ok (.iconst 1, 1) := by decide +kernel
theorem dX4_isWaiting_39 : decode cX4_isWaiting 39 = .ok (.ireturn, 1) := by decide +kernel
set_option maxRecDepth 20000 in
theorem ggX4_planPour_X4_in : GoodIn wsX4_planPour wsX4_in := goodIn_r _ [8] (by decide +kernel) (by decide +kernel)
set_option maxRecDepth 20000 in
theorem gX4_planPour_X4_in : GoodIn wsX4_planPour (va_wsS RX4 83 yX4_in wsX4_in) := goodIn_app (goodIn_of _ (by decide +kernel)) ggX4_planPour_X4_in
set_option maxRecDepth 20000 in
theorem ggX4_planPour_X4_isNoCrane : GoodIn wsX4_planPour wsX4_isNoCrane := goodIn_r _ [12, 13, 5, 6, 7, 8, 88, 89, 90, 91, 92, 93, 94, 95, 96, 97, 98, 99, 100, 101, 102, 103, 104, 105, 106, 107, 108, 109, 110, 111, 112, 113, 114, 115] (by decide +kernel) (by decide +kernel)
set_option maxRecDepth 20000 in
theorem gX4_planPour_X4_isNoCrane : GoodIn wsX4_planPour (wsV RX4 100 RX4 yX4_isNoCrane wsX4_isNoCrane) := goodIn_app (goodIn_of _ (by decide +kernel)) ggX4_planPour_X4_isNoCrane
set_option maxRecDepth 20000 in
theorem ggX4_planPour_X4_isWaiting : GoodIn wsX4_planPour wsX4_isWaiting := goodIn_r _ [17, 3, 18, 2, 88, 89, 90, 91, 92, 93, 94, 95, 96, 97, 98, 99, 100, 101, 102, 103, 104, 105, 106, 107, 108, 109, 110, 111, 112, 113, 114, 115] (by decide +kernel) (by decide +kernel)
set_option maxRecDepth 20000 in
theorem gX4_planPour_X4_isWaiting : GoodIn wsX4_planPour (wsV RX4 192 RX4 yX4_isWaiting wsX4_isWaiting) := goodIn_app (goodIn_of _ (by decide +kernel)) ggX4_planPour_X4_isWaiting
set_option maxRecDepth 20000 in
theorem ggX4_planPour_X4_fails : GoodIn wsX4_planPour wsX4_fails := goodIn_r _ [22, 23, 88, 89, 90, 91, 92, 93, 94, 95, 96, 97, 98, 99, 100, 101, 102, 103, 104, 105, 106, 107, 108, 109, 110, 111, 112, 113, 114, 115] (by decide +kernel) (by decide +kernel)
set_option maxRecDepth 20000 in
theorem gX4_planPour_X4_fails : GoodIn wsX4_planPour (wsV RX4 97 RX4 yX4_fails wsX4_fails) := goodIn_app (goodIn_of _ (by decide +kernel)) ggX4_planPour_X4_fails
set_option maxRecDepth 20000 in
theorem ggX4_planPour_X4_looks : GoodIn wsX4_planPour wsX4_looks := goodIn_ca (goodIn_r _ [27, 28, 29, 30, 31, 7, 32, 33, 34, 35, 36, 37, 38, 39, 40, 41, 42, 43, 44, 45, 46, 47, 48, 49, 50, 51, 52, 53, 54, 55, 56, 57, 58, 59, 60, 61, 62, 63, 64, 65, 66, 67, 68, 69, 70, 71, 72, 18, 73, 74, 88, 89, 90, 91, 92, 93, 94, 95, 96, 97, 98, 99, 100, 101, 102, 103, 104, 105, 106, 107, 108, 109, 110, 111, 112, 113, 114, 115] (by decide +kernel) (by decide +kernel)) (goodIn_sub (fun _ h => List.mem_cons_of_mem _ (List.mem_append_right _ h)) (by decide +kernel))
set_option maxRecDepth 20000 in
theorem gX4_planPour_X4_looks : GoodIn wsX4_planPour (wsV RX4 167 RX4 yX4_looks wsX4_looks) := goodIn_app (goodIn_of _ (by decide +kernel)) ggX4_planPour_X4_looks
set_option maxRecDepth 20000 in
theorem ggX4_planPour_X4_fitsFrom : GoodIn wsX4_planPour wsX4_fitsFrom := goodIn_r _ [78, 28, 74, 88, 89, 90, 91, 92, 93, 94, 95, 96, 97, 98, 99, 100, 101, 102, 103, 104, 105, 106, 107, 108, 109, 110, 111, 112, 113, 114, 115] (by decide +kernel) (by decide +kernel)
set_option maxRecDepth 20000 in
theorem gX4_planPour_X4_fitsFrom : GoodIn wsX4_planPour (wsV RX4 171 RX4 yX4_fitsFrom wsX4_fitsFrom) := goodIn_app (goodIn_of _ (by decide +kernel)) ggX4_planPour_X4_fitsFrom
set_option maxRecDepth 20000 in
theorem ggX4_planPour_X4_fitsAll : GoodIn wsX4_planPour wsX4_fitsAll := goodIn_r _ [82, 2, 4, 3, 74, 83, 75, 76, 77, 7, 78, 28, 88, 89, 90, 91, 92, 93, 94, 95, 96, 97, 98, 99, 100, 101, 102, 103, 104, 105, 106, 107, 108, 109, 110, 111, 112, 113, 114, 115] (by decide +kernel) (by decide +kernel)
set_option maxRecDepth 20000 in
theorem gX4_planPour_X4_fitsAll : GoodIn wsX4_planPour (wsV RX4 195 RX4 yX4_fitsAll wsX4_fitsAll) := goodIn_app (goodIn_of _ (by decide +kernel)) ggX4_planPour_X4_fitsAll
set_option maxRecDepth 20000 in
theorem ggX4_planPour_X4_takes : GoodIn wsX4_planPour wsX4_takes := goodIn_r _ [87, 18, 67, 73, 88, 89, 90, 91, 92, 93, 94, 95, 96, 97, 98, 99, 100, 101, 102, 103, 104, 105, 106, 107, 108, 109, 110, 111, 112, 113, 114, 115] (by decide +kernel) (by decide +kernel)
set_option maxRecDepth 20000 in
theorem gX4_planPour_X4_takes : GoodIn wsX4_planPour (wsV RX4 184 RX4 yX4_takes wsX4_takes) := goodIn_app (goodIn_of _ (by decide +kernel)) ggX4_planPour_X4_takes
theorem dX4_planPour_0 : decode cX4_planPour 0 = .ok (.aload_n 0, 1) := by decide +kernel
theorem dX4_planPour_1 : decode cX4_planPour 1 = .ok (.iload_n 1, 1) := by decide +kernel
theorem dX4_planPour_2 : decode cX4_planPour 2 = .ok (.iconst 0, 1) := by decide +kernel
theorem dX4_planPour_3 : decode cX4_planPour 3 = .ok (.aload_n 0, 1) := by decide +kernel
theorem dX4_planPour_4 : decode cX4_planPour 4 = .ok (.getfield 146, 3) := by decide +kernel
theorem dX4_planPour_7 : decode cX4_planPour 7 = .ok (.iconst 1, 1) := by decide +kernel
theorem dX4_planPour_8 : decode cX4_planPour 8 = .ok (.isub, 1) := by decide +kernel
theorem dX4_planPour_9 : decode cX4_planPour 9 = .ok (.invokestatic 83, 3) := by decide +kernel
theorem dX4_planPour_12 : decode cX4_planPour 12 = .ok (.ifCond .eq 11, 3) := by decide +kernel
theorem dX4_planPour_15 : decode cX4_planPour 15 = .ok (.aload_n 0, 1) := by decide +kernel
theorem dX4_planPour_16 : decode cX4_planPour 16 = .ok (.iload_n 2, 1) := by decide +kernel
theorem dX4_planPour_17 : decode cX4_planPour 17 = .ok (.invokevirtual 100, 3) := by decide +kernel
theorem dX4_planPour_20 : decode cX4_planPour 20 = .ok (.ifCond .eq 7, 3) := by decide +kernel
theorem dX4_planPour_23 : decode cX4_planPour 23 = .ok (.iconst 1, 1) := by decide +kernel
theorem dX4_planPour_24 : decode cX4_planPour 24 = .ok (.goto 16, 3) := by decide +kernel
theorem dX4_planPour_27 : decode cX4_planPour 27 = .ok (.aload_n 0, 1) := by decide +kernel
theorem dX4_planPour_28 : decode cX4_planPour 28 = .ok (.iload_n 1, 1) := by decide +kernel
theorem dX4_planPour_29 : decode cX4_planPour 29 = .ok (.invokevirtual 192, 3) := by decide +kernel
theorem dX4_planPour_32 : decode cX4_planPour 32 = .ok (.ifCond .eq 7, 3) := by decide +kernel
theorem dX4_planPour_35 : decode cX4_planPour 35 = .ok (.iconst 0, 1) := by decide +kernel
theorem dX4_planPour_36 : decode cX4_planPour 36 = .ok (.goto 4, 3) := by decide +kernel
theorem dX4_planPour_39 : decode cX4_planPour 39 = .ok (.iconst 2, 1) := by decide +kernel
theorem dX4_planPour_40 : decode cX4_planPour 40 = .ok (.invokevirtual 97, 3) := by decide +kernel
theorem dX4_planPour_43 : decode cX4_planPour 43 = .ok (.ifCond .eq 5, 3) := by decide +kernel
theorem dX4_planPour_46 : decode cX4_planPour 46 = .ok (.iconst 0, 1) := by decide +kernel
theorem dX4_planPour_47 : decode cX4_planPour 47 = .ok (.ireturn, 1) := by decide +kernel
theorem dX4_planPour_48 : decode cX4_planPour 48 = .ok (.aload_n 0, 1) := by decide +kernel
theorem dX4_planPour_49 : decode cX4_planPour 49 = .ok (.aload_n 0, 1) := by decide +kernel
theorem dX4_planPour_50 : decode cX4_planPour 50 = .ok (.getfield 64, 3) := by decide +kernel
theorem dX4_planPour_53 : decode cX4_planPour 53 = .ok (.iload_n 1, 1) := by decide +kernel
theorem dX4_planPour_54 : decode cX4_planPour 54 = .ok (.iaload, 1) := by decide +kernel
theorem dX4_planPour_55 : decode cX4_planPour 55 = .ok (.iload_n 2, 1) := by decide +kernel
theorem dX4_planPour_56 : decode cX4_planPour 56 = .ok (.invokevirtual 167, 3) := by decide +kernel
theorem dX4_planPour_59 : decode cX4_planPour 59 = .ok (.aload_n 0, 1) := by decide +kernel
theorem dX4_planPour_60 : decode cX4_planPour 60 = .ok (.aload_n 0, 1) := by decide +kernel
theorem dX4_planPour_61 : decode cX4_planPour 61 = .ok (.getfield 64, 3) := by decide +kernel
theorem dX4_planPour_64 : decode cX4_planPour 64 = .ok (.iload_n 1, 1) := by decide +kernel
theorem dX4_planPour_65 : decode cX4_planPour 65 = .ok (.iaload, 1) := by decide +kernel
theorem dX4_planPour_66 : decode cX4_planPour 66 = .ok (.iconst 0, 1) := by decide +kernel
theorem dX4_planPour_67 : decode cX4_planPour 67 = .ok (.invokevirtual 171, 3) := by decide +kernel
theorem dX4_planPour_70 : decode cX4_planPour 70 = .ok (.istore_n 3, 1) := by decide +kernel
theorem dX4_planPour_71 : decode cX4_planPour 71 = .ok (.iload_n 3, 1) := by decide +kernel
theorem dX4_planPour_72 : decode cX4_planPour 72 = .ok (.ifCond .lt 29, 3) := by decide +kernel
theorem dX4_planPour_75 : decode cX4_planPour 75 = .ok (.aload_n 0, 1) := by decide +kernel
theorem dX4_planPour_76 : decode cX4_planPour 76 = .ok (.iload_n 1, 1) := by decide +kernel
theorem dX4_planPour_77 : decode cX4_planPour 77 = .ok (.iload_n 3, 1) := by decide +kernel
theorem dX4_planPour_78 : decode cX4_planPour 78 = .ok (.invokevirtual 195, 3) := by decide +kernel
theorem dX4_planPour_81 : decode cX4_planPour 81 = .ok (.ifCond .ne 20, 3) := by decide +kernel
theorem dX4_planPour_84 : decode cX4_planPour 84 = .ok (.aload_n 0, 1) := by decide +kernel
theorem dX4_planPour_85 : decode cX4_planPour 85 = .ok (.aload_n 0, 1) := by decide +kernel
theorem dX4_planPour_86 : decode cX4_planPour 86 = .ok (.getfield 64, 3) := by decide +kernel
theorem dX4_planPour_89 : decode cX4_planPour 89 = .ok (.iload_n 1, 1) := by decide +kernel
theorem dX4_planPour_90 : decode cX4_planPour 90 = .ok (.iaload, 1) := by decide +kernel
theorem dX4_planPour_91 : decode cX4_planPour 91 = .ok (.iload_n 3, 1) := by decide +kernel
theorem dX4_planPour_92 : decode cX4_planPour 92 = .ok (.iconst 1, 1) := by decide +kernel
theorem dX4_planPour_93 : decode cX4_planPour 93 = .ok (.iadd, 1) := by decide +kernel
theorem dX4_planPour_94 : decode cX4_planPour 94 = .ok (.invokevirtual 171, 3) := by decide +kernel
theorem dX4_planPour_97 : decode cX4_planPour 97 = .ok (.istore_n 3, 1) := by decide +kernel
theorem dX4_planPour_98 : decode cX4_planPour 98 = .ok (.goto (-27), 3) := by decide +kernel
theorem dX4_planPour_101 : decode cX4_planPour 101 = .ok (.aload_n 0, 1) := by decide +kernel
theorem dX4_planPour_102 : decode cX4_planPour 102 = .ok (.iload_n 3, 1) := by decide +kernel
theorem dX4_planPour_103 : decode cX4_planPour 103 = .ok (.ifCond .ge 7, 3) := by decide +kernel
theorem dX4_planPour_106 : decode cX4_planPour 106 = .ok (.iconst 3, 1) := by decide +kernel
theorem dX4_planPour_107 : decode cX4_planPour 107 = .ok (.goto 4, 3) := by decide +kernel
theorem dX4_planPour_110 : decode cX4_planPour 110 = .ok (.iconst 0, 1) := by decide +kernel
theorem dX4_planPour_111 : decode cX4_planPour 111 = .ok (.invokevirtual 97, 3) := by decide +kernel
theorem dX4_planPour_114 : decode cX4_planPour 114 = .ok (.ifCond .eq 5, 3) := by decide +kernel
theorem dX4_planPour_117 : decode cX4_planPour 117 = .ok (.iconst 0, 1) := by decide +kernel
theorem dX4_planPour_118 : decode cX4_planPour 118 = .ok (.ireturn, 1) := by decide +kernel
theorem dX4_planPour_119 : decode cX4_planPour 119 = .ok (.iconst 0, 1) := by decide +kernel
theorem dX4_planPour_120 : decode cX4_planPour 120 = .ok (.istore 4, 2) := by decide +kernel
theorem dX4_planPour_122 : decode cX4_planPour 122 = .ok (.iload 4, 2) := by decide +kernel
theorem dX4_planPour_124 : decode cX4_planPour 124 = .ok (.aload_n 0, 1) := by decide +kernel
theorem dX4_planPour_125 : decode cX4_planPour 125 = .ok (.getfield 67, 3) := by decide +kernel
theorem dX4_planPour_128 : decode cX4_planPour 128 = .ok (.iload_n 1, 1) := by decide +kernel
theorem dX4_planPour_129 : decode cX4_planPour 129 = .ok (.iaload, 1) := by decide +kernel
theorem dX4_planPour_130 : decode cX4_planPour 130 = .ok (.if_icmp .ge 30, 3) := by decide +kernel
theorem dX4_planPour_133 : decode cX4_planPour 133 = .ok (.aload_n 0, 1) := by decide +kernel
theorem dX4_planPour_134 : decode cX4_planPour 134 = .ok (.aload_n 0, 1) := by decide +kernel
theorem dX4_planPour_135 : decode cX4_planPour 135 = .ok (.getfield 64, 3) := by decide +kernel
theorem dX4_planPour_138 : decode cX4_planPour 138 = .ok (.iload_n 1, 1) := by decide +kernel
theorem dX4_planPour_139 : decode cX4_planPour 139 = .ok (.iaload, 1) := by decide +kernel
theorem dX4_planPour_140 : decode cX4_planPour 140 = .ok (.iload 4, 2) := by decide +kernel
theorem dX4_planPour_142 : decode cX4_planPour 142 = .ok (.iadd, 1) := by decide +kernel
theorem dX4_planPour_143 : decode cX4_planPour 143 = .ok (.iload_n 2, 1) := by decide +kernel
theorem dX4_planPour_144 : decode cX4_planPour 144 = .ok (.aload_n 0, 1) := by decide +kernel
theorem dX4_planPour_145 : decode cX4_planPour 145 = .ok (.getfield 76, 3) := by decide +kernel
theorem dX4_planPour_148 : decode cX4_planPour 148 = .ok (.iload 4, 2) := by decide +kernel
theorem dX4_planPour_150 : decode cX4_planPour 150 = .ok (.iaload, 1) := by decide +kernel
theorem dX4_planPour_151 : decode cX4_planPour 151 = .ok (.invokevirtual 184, 3) := by decide +kernel
theorem dX4_planPour_154 : decode cX4_planPour 154 = .ok (.iinc 4 1, 3) := by decide +kernel
theorem dX4_planPour_157 : decode cX4_planPour 157 = .ok (.goto (-35), 3) := by decide +kernel
theorem dX4_planPour_160 : decode cX4_planPour 160 = .ok (.iload_n 3, 1) := by decide +kernel
theorem dX4_planPour_161 : decode cX4_planPour 161 = .ok (.ireturn, 1) := by decide +kernel
set_option maxRecDepth 20000 in
theorem ggX4_unplan_X4_isNone : GoodIn wsX4_unplan wsX4_isNone := goodIn_r _ [8, 9, 10, 11, 7, 12, 2, 13, 14, 15, 16, 17, 18, 19, 20, 21, 22, 23, 24, 25, 26, 27, 28, 29, 30, 31, 32, 33, 34, 35, 36, 37, 38, 39, 40, 41, 42, 43, 44, 45, 46, 47, 48] (by decide +kernel) (by decide +kernel)
set_option maxRecDepth 20000 in
theorem gX4_unplan_X4_isNone : GoodIn wsX4_unplan (wsV RX4 198 RX4 yX4_isNone wsX4_isNone) := goodIn_app (goodIn_of _ (by decide +kernel)) ggX4_unplan_X4_isNone
set_option maxRecDepth 20000 in
theorem ggX4_unplan_X4_fails : GoodIn wsX4_unplan wsX4_fails := goodIn_r _ [19, 20, 21, 22, 23, 24, 25, 26, 27, 28, 29, 30, 31, 32, 33, 34, 35, 36, 37, 38, 39, 40, 41, 42, 43, 44, 45, 46, 47, 48] (by decide +kernel) (by decide +kernel)
set_option maxRecDepth 20000 in
theorem gX4_unplan_X4_fails : GoodIn wsX4_unplan (wsV RX4 97 RX4 yX4_fails wsX4_fails) := goodIn_app (goodIn_of _ (by decide +kernel)) ggX4_unplan_X4_fails
theorem dX4_unplan_0 : decode cX4_unplan 0 = .ok (.aload_n 0, 1) := by decide +kernel
theorem dX4_unplan_1 : decode cX4_unplan 1 = .ok (.iload_n 1, 1) := by decide +kernel
theorem dX4_unplan_2 : decode cX4_unplan 2 = .ok (.invokevirtual 198, 3) := by decide +kernel
theorem dX4_unplan_5 : decode cX4_unplan 5 = .ok (.ifCond .ne 26, 3) := by decide +kernel
theorem dX4_unplan_8 : decode cX4_unplan 8 = .ok (.aload_n 0, 1) := by decide +kernel
theorem dX4_unplan_9 : decode cX4_unplan 9 = .ok (.aload_n 0, 1) := by decide +kernel
theorem dX4_unplan_10 : decode cX4_unplan 10 = .ok (.getfield 47, 3) := by decide +kernel
theorem dX4_unplan_13 : decode cX4_unplan 13 = .ok (.iload_n 1, 1) := by decide +kernel
theorem dX4_unplan_14 : decode cX4_unplan 14 = .ok (.caload, 1) := by decide +kernel
theorem dX4_unplan_15 : decode cX4_unplan 15 = .ok (.bipush 112, 2) := by decide +kernel
theorem dX4_unplan_17 : decode cX4_unplan 17 = .ok (.if_icmp .eq 7, 3) := by decide +kernel
theorem dX4_unplan_20 : decode cX4_unplan 20 = .ok (.iconst 2, 1) := by decide +kernel
theorem dX4_unplan_21 : decode cX4_unplan 21 = .ok (.goto 4, 3) := by decide +kernel
theorem dX4_unplan_24 : decode cX4_unplan 24 = .ok (.iconst 0, 1) := by decide +kernel
theorem dX4_unplan_25 : decode cX4_unplan 25 = .ok (.invokevirtual 97, 3) := by decide +kernel
theorem dX4_unplan_28 : decode cX4_unplan 28 = .ok (.ifCond .eq 5, 3) := by decide +kernel
theorem dX4_unplan_31 : decode cX4_unplan 31 = .ok (.iconst 0, 1) := by decide +kernel
theorem dX4_unplan_32 : decode cX4_unplan 32 = .ok (.ireturn, 1) := by decide +kernel
theorem dX4_unplan_33 : decode cX4_unplan 33 = .ok (.iconst 0, 1) := by decide +kernel
theorem dX4_unplan_34 : decode cX4_unplan 34 = .ok (.istore_n 2, 1) := by decide +kernel
theorem dX4_unplan_35 : decode cX4_unplan 35 = .ok (.iconst 0, 1) := by decide +kernel
theorem dX4_unplan_36 : decode cX4_unplan 36 = .ok (.istore_n 3, 1) := by decide +kernel
theorem dX4_unplan_37 : decode cX4_unplan 37 = .ok (.iload_n 3, 1) := by decide +kernel
theorem dX4_unplan_38 : decode cX4_unplan 38 = .ok (.aload_n 0, 1) := by decide +kernel
theorem dX4_unplan_39 : decode cX4_unplan 39 = .ok (.getfield 90, 3) := by decide +kernel
theorem dX4_unplan_42 : decode cX4_unplan 42 = .ok (.if_icmp .ge 63, 3) := by decide +kernel
theorem dX4_unplan_45 : decode cX4_unplan 45 = .ok (.aload_n 0, 1) := by decide +kernel
theorem dX4_unplan_46 : decode cX4_unplan 46 = .ok (.getfield 47, 3) := by decide +kernel
theorem dX4_unplan_49 : decode cX4_unplan 49 = .ok (.iload_n 3, 1) := by decide +kernel
theorem dX4_unplan_50 : decode cX4_unplan 50 = .ok (.caload, 1) := by decide +kernel
theorem dX4_unplan_51 : decode cX4_unplan 51 = .ok (.bipush 112, 2) := by decide +kernel
theorem dX4_unplan_53 : decode cX4_unplan 53 = .ok (.if_icmp .ne 46, 3) := by decide +kernel
theorem dX4_unplan_56 : decode cX4_unplan 56 = .ok (.iload_n 3, 1) := by decide +kernel
theorem dX4_unplan_57 : decode cX4_unplan 57 = .ok (.iload_n 1, 1) := by decide +kernel
theorem dX4_unplan_58 : decode cX4_unplan 58 = .ok (.if_icmp .eq 30, 3) := by decide +kernel
theorem dX4_unplan_61 : decode cX4_unplan 61 = .ok (.aload_n 0, 1) := by decide +kernel
theorem dX4_unplan_62 : decode cX4_unplan 62 = .ok (.getfield 57, 3) := by decide +kernel
theorem dX4_unplan_65 : decode cX4_unplan 65 = .ok (.iload_n 1, 1) := by decide +kernel
theorem dX4_unplan_66 : decode cX4_unplan 66 = .ok (.iaload, 1) := by decide +kernel
theorem dX4_unplan_67 : decode cX4_unplan 67 = .ok (.ifCond .lt 32, 3) := by decide +kernel
theorem dX4_unplan_70 : decode cX4_unplan 70 = .ok (.aload_n 0, 1) := by decide +kernel
theorem dX4_unplan_71 : decode cX4_unplan 71 = .ok (.getfield 57, 3) := by decide +kernel
theorem dX4_unplan_74 : decode cX4_unplan 74 = .ok (.iload_n 3, 1) := by decide +kernel
theorem dX4_unplan_75 : decode cX4_unplan 75 = .ok (.iaload, 1) := by decide +kernel
theorem dX4_unplan_76 : decode cX4_unplan 76 = .ok (.aload_n 0, 1) := by decide +kernel
theorem dX4_unplan_77 : decode cX4_unplan 77 = .ok (.getfield 57, 3) := by decide +kernel
theorem dX4_unplan_80 : decode cX4_unplan 80 = .ok (.iload_n 1, 1) := by decide +kernel
theorem dX4_unplan_81 : decode cX4_unplan 81 = .ok (.iaload, 1) := by decide +kernel
theorem dX4_unplan_82 : decode cX4_unplan 82 = .ok (.if_icmp .eq 6, 3) := by decide +kernel
theorem dX4_unplan_85 : decode cX4_unplan 85 = .ok (.goto 14, 3) := by decide +kernel
theorem dX4_unplan_88 : decode cX4_unplan 88 = .ok (.aload_n 0, 1) := by decide +kernel
theorem dX4_unplan_89 : decode cX4_unplan 89 = .ok (.getfield 47, 3) := by decide +kernel
theorem dX4_unplan_92 : decode cX4_unplan 92 = .ok (.iload_n 3, 1) := by decide +kernel
theorem dX4_unplan_93 : decode cX4_unplan 93 = .ok (.bipush 119, 2) := by decide +kernel
theorem dX4_unplan_95 : decode cX4_unplan 95 = .ok (.castore, 1) := by decide +kernel
theorem dX4_unplan_96 : decode cX4_unplan 96 = .ok (.iinc 2 1, 3) := by decide +kernel
theorem dX4_unplan_99 : decode cX4_unplan 99 = .ok (.iinc 3 1, 3) := by decide +kernel
theorem dX4_unplan_102 : decode cX4_unplan 102 = .ok (.goto (-65), 3) := by decide +kernel
theorem dX4_unplan_105 : decode cX4_unplan 105 = .ok (.iload_n 2, 1) := by decide +kernel
theorem dX4_unplan_106 : decode cX4_unplan 106 = .ok (.ireturn, 1) := by decide +kernel
set_option maxRecDepth 20000 in
theorem ggX4_pass_X4_in : GoodIn wsX4_pass wsX4_in := goodIn_r _ [9] (by decide +kernel) (by decide +kernel)
set_option maxRecDepth 20000 in
theorem gX4_pass_X4_in : GoodIn wsX4_pass (va_wsS RX4 83 yX4_in wsX4_in) := goodIn_app (goodIn_of _ (by decide +kernel)) ggX4_pass_X4_in
set_option maxRecDepth 20000 in
theorem ggX4_pass_X4_fails : GoodIn wsX4_pass wsX4_fails := goodIn_r _ [13, 14, 15, 16, 17, 18, 19, 20, 21, 22, 23, 24, 25, 26, 27, 28, 29, 30, 31, 32, 33, 34, 35, 36, 37, 38, 39, 40, 41, 42] (by decide +kernel) (by decide +kernel)
set_option maxRecDepth 20000 in
theorem gX4_pass_X4_fails : GoodIn wsX4_pass (wsV RX4 97 RX4 yX4_fails wsX4_fails) := goodIn_app (goodIn_of _ (by decide +kernel)) ggX4_pass_X4_fails
theorem dX4_pass_0 : decode cX4_pass 0 = .ok (.aload_n 0, 1) := by decide +kernel
theorem dX4_pass_1 : decode cX4_pass 1 = .ok (.iload_n 1, 1) := by decide +kernel
theorem dX4_pass_2 : decode cX4_pass 2 = .ok (.iconst 1, 1) := by decide +kernel
theorem dX4_pass_3 : decode cX4_pass 3 = .ok (.sipush 240, 3) := by decide +kernel
theorem dX4_pass_6 : decode cX4_pass 6 = .ok (.invokestatic 83, 3) := by decide +kernel
theorem dX4_pass_9 : decode cX4_pass 9 = .ok (.ifCond .ne 7, 3) := by decide +kernel
theorem dX4_pass_12 : decode cX4_pass 12 = .ok (.iconst 1, 1) := by decide +kernel
theorem dX4_pass_13 : decode cX4_pass 13 = .ok (.goto 20, 3) := by decide +kernel
theorem dX4_pass_16 : decode cX4_pass 16 = .ok (.aload_n 0, 1) := by decide +kernel
theorem dX4_pass_17 : decode cX4_pass 17 = .ok (.getfield 158, 3) := by decide +kernel
theorem dX4_pass_20 : decode cX4_pass 20 = .ok (.iload_n 1, 1) := by decide +kernel
theorem dX4_pass_21 : decode cX4_pass 21 = .ok (.iadd, 1) := by decide +kernel
theorem dX4_pass_22 : decode cX4_pass 22 = .ok (.sipush 1440, 3) := by decide +kernel
theorem dX4_pass_25 : decode cX4_pass 25 = .ok (.if_icmp .le 7, 3) := by decide +kernel
theorem dX4_pass_28 : decode cX4_pass 28 = .ok (.iconst 2, 1) := by decide +kernel
theorem dX4_pass_29 : decode cX4_pass 29 = .ok (.goto 4, 3) := by decide +kernel
theorem dX4_pass_32 : decode cX4_pass 32 = .ok (.iconst 0, 1) := by decide +kernel
theorem dX4_pass_33 : decode cX4_pass 33 = .ok (.invokevirtual 97, 3) := by decide +kernel
theorem dX4_pass_36 : decode cX4_pass 36 = .ok (.ifCond .eq 5, 3) := by decide +kernel
theorem dX4_pass_39 : decode cX4_pass 39 = .ok (.iconst 0, 1) := by decide +kernel
theorem dX4_pass_40 : decode cX4_pass 40 = .ok (.ireturn, 1) := by decide +kernel
theorem dX4_pass_41 : decode cX4_pass 41 = .ok (.aload_n 0, 1) := by decide +kernel
theorem dX4_pass_42 : decode cX4_pass 42 = .ok (.dup, 1) := by decide +kernel
theorem dX4_pass_43 : decode cX4_pass 43 = .ok (.getfield 158, 3) := by decide +kernel
theorem dX4_pass_46 : decode cX4_pass 46 = .ok (.iload_n 1, 1) := by decide +kernel
theorem dX4_pass_47 : decode cX4_pass 47 = .ok (.iadd, 1) := by decide +kernel
theorem dX4_pass_48 : decode cX4_pass 48 = .ok (.putfield 158, 3) := by decide +kernel
theorem dX4_pass_51 : decode cX4_pass 51 = .ok (.iconst 0, 1) := by decide +kernel
theorem dX4_pass_52 : decode cX4_pass 52 = .ok (.istore_n 2, 1) := by decide +kernel
theorem dX4_pass_53 : decode cX4_pass 53 = .ok (.iconst 0, 1) := by decide +kernel
theorem dX4_pass_54 : decode cX4_pass 54 = .ok (.istore_n 3, 1) := by decide +kernel
theorem dX4_pass_55 : decode cX4_pass 55 = .ok (.iload_n 3, 1) := by decide +kernel
theorem dX4_pass_56 : decode cX4_pass 56 = .ok (.aload_n 0, 1) := by decide +kernel
theorem dX4_pass_57 : decode cX4_pass 57 = .ok (.getfield 90, 3) := by decide +kernel
theorem dX4_pass_60 : decode cX4_pass 60 = .ok (.if_icmp .ge 89, 3) := by decide +kernel
theorem dX4_pass_63 : decode cX4_pass 63 = .ok (.aload_n 0, 1) := by decide +kernel
theorem dX4_pass_64 : decode cX4_pass 64 = .ok (.getfield 47, 3) := by decide +kernel
theorem dX4_pass_67 : decode cX4_pass 67 = .ok (.iload_n 3, 1) := by decide +kernel
theorem dX4_pass_68 : decode cX4_pass 68 = .ok (.caload, 1) := by decide +kernel
theorem dX4_pass_69 : decode cX4_pass 69 = .ok (.bipush 112, 2) := by decide +kernel
theorem dX4_pass_71 : decode cX4_pass 71 = .ok (.if_icmp .eq 17, 3) := by decide +kernel
theorem dX4_pass_74 : decode cX4_pass 74 = .ok (.aload_n 0, 1) := by decide +kernel
theorem dX4_pass_75 : decode cX4_pass 75 = .ok (.getfield 47, 3) := by decide +kernel
theorem dX4_pass_78 : decode cX4_pass 78 = .ok (.iload_n 3, 1) := by decide +kernel
theorem dX4_pass_79 : decode cX4_pass 79 = .ok (.caload, 1) := by decide +kernel
theorem dX4_pass_80 : decode cX4_pass 80 = .ok (.bipush 117, 2) := by decide +kernel
theorem dX4_pass_82 : decode cX4_pass 82 = .ok (.if_icmp .eq 6, 3) := by decide +kernel
theorem dX4_pass_85 : decode cX4_pass 85 = .ok (.goto 58, 3) := by decide +kernel
theorem dX4_pass_88 : decode cX4_pass 88 = .ok (.aload_n 0, 1) := by decide +kernel
theorem dX4_pass_89 : decode cX4_pass 89 = .ok (.getfield 54, 3) := by decide +kernel
theorem dX4_pass_92 : decode cX4_pass 92 = .ok (.iload_n 3, 1) := by decide +kernel
theorem dX4_pass_93 : decode cX4_pass 93 = .ok (.iaload, 1) := by decide +kernel
theorem dX4_pass_94 : decode cX4_pass 94 = .ok (.aload_n 0, 1) := by decide +kernel
theorem dX4_pass_95 : decode cX4_pass 95 = .ok (.getfield 158, 3) := by decide +kernel
theorem dX4_pass_98 : decode cX4_pass 98 = .ok (.if_icmp .ge 11, 3) := by decide +kernel
theorem dX4_pass_101 : decode cX4_pass 101 = .ok (.aload_n 0, 1) := by decide +kernel
theorem dX4_pass_102 : decode cX4_pass 102 = .ok (.getfield 47, 3) := by decide +kernel
theorem dX4_pass_105 : decode cX4_pass 105 = .ok (.iload_n 3, 1) := by decide +kernel
theorem dX4_pass_106 : decode cX4_pass 106 = .ok (.bipush 117, 2) := by decide +kernel
theorem dX4_pass_108 : decode cX4_pass 108 = .ok (.castore, 1) := by decide +kernel
theorem dX4_pass_109 : decode cX4_pass 109 = .ok (.aload_n 0, 1) := by decide +kernel
theorem dX4_pass_110 : decode cX4_pass 110 = .ok (.getfield 54, 3) := by decide +kernel
theorem dX4_pass_113 : decode cX4_pass 113 = .ok (.iload_n 3, 1) := by decide +kernel
theorem dX4_pass_114 : decode cX4_pass 114 = .ok (.iaload, 1) := by decide +kernel
theorem dX4_pass_115 : decode cX4_pass 115 = .ok (.aload_n 0, 1) := by decide +kernel
theorem dX4_pass_116 : decode cX4_pass 116 = .ok (.getfield 44, 3) := by decide +kernel
theorem dX4_pass_119 : decode cX4_pass 119 = .ok (.iload_n 3, 1) := by decide +kernel
theorem dX4_pass_120 : decode cX4_pass 120 = .ok (.iaload, 1) := by decide +kernel
theorem dX4_pass_121 : decode cX4_pass 121 = .ok (.iadd, 1) := by decide +kernel
theorem dX4_pass_122 : decode cX4_pass 122 = .ok (.aload_n 0, 1) := by decide +kernel
theorem dX4_pass_123 : decode cX4_pass 123 = .ok (.getfield 158, 3) := by decide +kernel
theorem dX4_pass_126 : decode cX4_pass 126 = .ok (.if_icmp .le 6, 3) := by decide +kernel
theorem dX4_pass_129 : decode cX4_pass 129 = .ok (.goto 14, 3) := by decide +kernel
theorem dX4_pass_132 : decode cX4_pass 132 = .ok (.aload_n 0, 1) := by decide +kernel
theorem dX4_pass_133 : decode cX4_pass 133 = .ok (.getfield 47, 3) := by decide +kernel
theorem dX4_pass_136 : decode cX4_pass 136 = .ok (.iload_n 3, 1) := by decide +kernel
theorem dX4_pass_137 : decode cX4_pass 137 = .ok (.bipush 100, 2) := by decide +kernel
theorem dX4_pass_139 : decode cX4_pass 139 = .ok (.castore, 1) := by decide +kernel
theorem dX4_pass_140 : decode cX4_pass 140 = .ok (.iinc 2 1, 3) := by decide +kernel
theorem dX4_pass_143 : decode cX4_pass 143 = .ok (.iinc 3 1, 3) := by decide +kernel
theorem dX4_pass_146 : decode cX4_pass 146 = .ok (.goto (-91), 3) := by decide +kernel
theorem dX4_pass_149 : decode cX4_pass 149 = .ok (.iload_n 2, 1) := by decide +kernel
theorem dX4_pass_150 : decode cX4_pass 150 = .ok (.ireturn, 1) := by decide +kernel
set_option maxRecDepth 20000 in
theorem ggX4_now_X4_tells : GoodIn wsX4_now wsX4_tells := goodIn_r _ [6, 7, 8, 9, 10, 11, 12, 13, 14, 15, 16, 17, 18, 19, 20, 21, 22, 23, 24, 25, 26, 27, 28, 29, 30, 31, 32, 33, 34, 35] (by decide +kernel) (by decide +kernel)
set_option maxRecDepth 20000 in
theorem gX4_now_X4_tells : GoodIn wsX4_now (wsV RX4 201 RX4 yX4_tells wsX4_tells) := goodIn_app (goodIn_of _ (by decide +kernel)) ggX4_now_X4_tells
theorem dX4_now_0 : decode cX4_now 0 = .ok (.aload_n 0, 1) := by decide +kernel
theorem dX4_now_1 : decode cX4_now 1 = .ok (.aload_n 0, 1) := by decide +kernel
theorem dX4_now_2 : decode cX4_now 2 = .ok (.getfield 158, 3) := by decide +kernel
theorem dX4_now_5 : decode cX4_now 5 = .ok (.invokevirtual 201, 3) := by decide +kernel
theorem dX4_now_8 : decode cX4_now 8 = .ok (.ireturn, 1) := by decide +kernel
set_option maxRecDepth 20000 in
theorem ggX4_cranes_X4_tells : GoodIn wsX4_cranes wsX4_tells := goodIn_r _ [6, 7, 8, 9, 10, 11, 12, 13, 14, 15, 16, 17, 18, 19, 20, 21, 22, 23, 24, 25, 26, 27, 28, 29, 30, 31, 32, 33, 34, 35] (by decide +kernel) (by decide +kernel)
set_option maxRecDepth 20000 in
theorem gX4_cranes_X4_tells : GoodIn wsX4_cranes (wsV RX4 201 RX4 yX4_tells wsX4_tells) := goodIn_app (goodIn_of _ (by decide +kernel)) ggX4_cranes_X4_tells
theorem dX4_cranes_0 : decode cX4_cranes 0 = .ok (.aload_n 0, 1) := by decide +kernel
theorem dX4_cranes_1 : decode cX4_cranes 1 = .ok (.aload_n 0, 1) := by decide +kernel
theorem dX4_cranes_2 : decode cX4_cranes 2 = .ok (.getfield 87, 3) := by decide +kernel
theorem dX4_cranes_5 : decode cX4_cranes 5 = .ok (.invokevirtual 201, 3) := by decide +kernel
theorem dX4_cranes_8 : decode cX4_cranes 8 = .ok (.ireturn, 1) := by decide +kernel
set_option maxRecDepth 20000 in
theorem ggX4_lifts_X4_tells : GoodIn wsX4_lifts wsX4_tells := goodIn_r _ [6, 7, 8, 9, 10, 11, 12, 13, 14, 15, 16, 17, 18, 19, 20, 21, 22, 23, 24, 25, 26, 27, 28, 29, 30, 31, 32, 33, 34, 35] (by decide +kernel) (by decide +kernel)
set_option maxRecDepth 20000 in
theorem gX4_lifts_X4_tells : GoodIn wsX4_lifts (wsV RX4 201 RX4 yX4_tells wsX4_tells) := goodIn_app (goodIn_of _ (by decide +kernel)) ggX4_lifts_X4_tells
theorem dX4_lifts_0 : decode cX4_lifts 0 = .ok (.aload_n 0, 1) := by decide +kernel
theorem dX4_lifts_1 : decode cX4_lifts 1 = .ok (.aload_n 0, 1) := by decide +kernel
theorem dX4_lifts_2 : decode cX4_lifts 2 = .ok (.getfield 90, 3) := by decide +kernel
theorem dX4_lifts_5 : decode cX4_lifts 5 = .ok (.invokevirtual 201, 3) := by decide +kernel
theorem dX4_lifts_8 : decode cX4_lifts 8 = .ok (.ireturn, 1) := by decide +kernel
set_option maxRecDepth 20000 in
theorem ggX4_limit_X4_isNoCrane : GoodIn wsX4_limit wsX4_isNoCrane := goodIn_r _ [5, 6, 7, 8, 4, 9, 36, 37, 38, 39, 40, 41, 42, 43, 44, 45, 46, 47, 48, 49, 50, 51, 52, 53, 54, 55, 56, 57, 58, 59, 60, 61, 62, 63] (by decide +kernel) (by decide +kernel)
set_option maxRecDepth 20000 in
theorem gX4_limit_X4_isNoCrane : GoodIn wsX4_limit (wsV RX4 100 RX4 yX4_isNoCrane wsX4_isNoCrane) := goodIn_app (goodIn_of _ (by decide +kernel)) ggX4_limit_X4_isNoCrane
set_option maxRecDepth 20000 in
theorem ggX4_limit_X4_isPlace : GoodIn wsX4_limit wsX4_isPlace := goodIn_r _ [12, 7, 8, 4, 9] (by decide +kernel) (by decide +kernel)
set_option maxRecDepth 20000 in
theorem gX4_limit_X4_isPlace : GoodIn wsX4_limit (va_wsS RX4 103 yX4_isPlace wsX4_isPlace) := goodIn_app (goodIn_of _ (by decide +kernel)) ggX4_limit_X4_isPlace
set_option maxRecDepth 20000 in
theorem ggX4_limit_X4_fails : GoodIn wsX4_limit wsX4_fails := goodIn_r _ [16, 17, 36, 37, 38, 39, 40, 41, 42, 43, 44, 45, 46, 47, 48, 49, 50, 51, 52, 53, 54, 55, 56, 57, 58, 59, 60, 61, 62, 63] (by decide +kernel) (by decide +kernel)
set_option maxRecDepth 20000 in
theorem gX4_limit_X4_fails : GoodIn wsX4_limit (wsV RX4 97 RX4 yX4_fails wsX4_fails) := goodIn_app (goodIn_of _ (by decide +kernel)) ggX4_limit_X4_fails
set_option maxRecDepth 20000 in
theorem ggX4_limit_X4_reaches : GoodIn wsX4_limit wsX4_reaches := goodIn_r _ [21, 22, 23, 24, 25, 4, 26, 27, 28, 36, 37, 38, 39, 40, 41, 42, 43, 44, 45, 46, 47, 48, 49, 50, 51, 52, 53, 54, 55, 56, 57, 58, 59, 60, 61, 62, 63] (by decide +kernel) (by decide +kernel)
set_option maxRecDepth 20000 in
theorem gX4_limit_X4_reaches : GoodIn wsX4_limit (wsV RX4 149 RX4 yX4_reaches wsX4_reaches) := goodIn_app (goodIn_of _ (by decide +kernel)) ggX4_limit_X4_reaches
set_option maxRecDepth 20000 in
theorem ggX4_limit_X4_limitAt : GoodIn wsX4_limit wsX4_limitAt := goodIn_ca (goodIn_r _ [32, 33, 34, 35, 23, 24, 25, 4, 26, 27, 28, 36, 37, 38, 39, 40, 41, 42, 43, 44, 45, 46, 47, 48, 49, 50, 51, 52, 53, 54, 55, 56, 57, 58, 59, 60, 61, 62, 63] (by decide +kernel) (by decide +kernel)) (goodIn_sub (fun _ h => List.mem_cons_of_mem _ (List.mem_append_right _ h)) (by decide +kernel))
set_option maxRecDepth 20000 in
theorem gX4_limit_X4_limitAt : GoodIn wsX4_limit (wsV RX4 152 RX4 yX4_limitAt wsX4_limitAt) := goodIn_app (goodIn_of _ (by decide +kernel)) ggX4_limit_X4_limitAt
theorem dX4_limit_0 : decode cX4_limit 0 = .ok (.aload_n 0, 1) := by decide +kernel
theorem dX4_limit_1 : decode cX4_limit 1 = .ok (.aload_n 0, 1) := by decide +kernel
theorem dX4_limit_2 : decode cX4_limit 2 = .ok (.iload_n 1, 1) := by decide +kernel
theorem dX4_limit_3 : decode cX4_limit 3 = .ok (.invokevirtual 100, 3) := by decide +kernel
theorem dX4_limit_6 : decode cX4_limit 6 = .ok (.ifCond .eq 7, 3) := by decide +kernel
theorem dX4_limit_9 : decode cX4_limit 9 = .ok (.iconst 1, 1) := by decide +kernel
theorem dX4_limit_10 : decode cX4_limit 10 = .ok (.goto 16, 3) := by decide +kernel
theorem dX4_limit_13 : decode cX4_limit 13 = .ok (.iload_n 2, 1) := by decide +kernel
theorem dX4_limit_14 : decode cX4_limit 14 = .ok (.iload_n 3, 1) := by decide +kernel
theorem dX4_limit_15 : decode cX4_limit 15 = .ok (.invokestatic 103, 3) := by decide +kernel
theorem dX4_limit_18 : decode cX4_limit 18 = .ok (.ifCond .eq 7, 3) := by decide +kernel
theorem dX4_limit_21 : decode cX4_limit 21 = .ok (.iconst 0, 1) := by decide +kernel
theorem dX4_limit_22 : decode cX4_limit 22 = .ok (.goto 4, 3) := by decide +kernel
theorem dX4_limit_25 : decode cX4_limit 25 = .ok (.iconst 2, 1) := by decide +kernel
theorem dX4_limit_26 : decode cX4_limit 26 = .ok (.invokevirtual 97, 3) := by decide +kernel
theorem dX4_limit_29 : decode cX4_limit 29 = .ok (.ifCond .ne 13, 3) := by decide +kernel
theorem dX4_limit_32 : decode cX4_limit 32 = .ok (.aload_n 0, 1) := by decide +kernel
theorem dX4_limit_33 : decode cX4_limit 33 = .ok (.iload_n 1, 1) := by decide +kernel
theorem dX4_limit_34 : decode cX4_limit 34 = .ok (.iload_n 2, 1) := by decide +kernel
theorem dX4_limit_35 : decode cX4_limit 35 = .ok (.iload_n 3, 1) := by decide +kernel
theorem dX4_limit_36 : decode cX4_limit 36 = .ok (.invokevirtual 149, 3) := by decide +kernel
theorem dX4_limit_39 : decode cX4_limit 39 = .ok (.ifCond .ne 7, 3) := by decide +kernel
theorem dX4_limit_42 : decode cX4_limit 42 = .ok (.iconst 0, 1) := by decide +kernel
theorem dX4_limit_43 : decode cX4_limit 43 = .ok (.goto 10, 3) := by decide +kernel
theorem dX4_limit_46 : decode cX4_limit 46 = .ok (.aload_n 0, 1) := by decide +kernel
theorem dX4_limit_47 : decode cX4_limit 47 = .ok (.iload_n 1, 1) := by decide +kernel
theorem dX4_limit_48 : decode cX4_limit 48 = .ok (.iload_n 2, 1) := by decide +kernel
theorem dX4_limit_49 : decode cX4_limit 49 = .ok (.iload_n 3, 1) := by decide +kernel
theorem dX4_limit_50 : decode cX4_limit 50 = .ok (.invokevirtual 152, 3) := by decide +kernel
theorem dX4_limit_53 : decode cX4_limit 53 = .ok (.ireturn, 1) := by decide +kernel
set_option maxRecDepth 20000 in
theorem ggX4_both_X4_isNoCrane : GoodIn wsX4_both wsX4_isNoCrane := goodIn_r _ [5, 6, 7, 8, 4, 9, 26, 27, 28, 29, 30, 31, 32, 33, 34, 35, 36, 37, 38, 39, 40, 41, 42, 43, 44, 45, 46, 47, 48, 49, 50, 51, 52, 53] (by decide +kernel) (by decide +kernel)
set_option maxRecDepth 20000 in
theorem gX4_both_X4_isNoCrane : GoodIn wsX4_both (wsV RX4 100 RX4 yX4_isNoCrane wsX4_isNoCrane) := goodIn_app (goodIn_of _ (by decide +kernel)) ggX4_both_X4_isNoCrane
set_option maxRecDepth 20000 in
theorem ggX4_both_X4_fails : GoodIn wsX4_both wsX4_fails := goodIn_r _ [13, 14, 26, 27, 28, 29, 30, 31, 32, 33, 34, 35, 36, 37, 38, 39, 40, 41, 42, 43, 44, 45, 46, 47, 48, 49, 50, 51, 52, 53] (by decide +kernel) (by decide +kernel)
set_option maxRecDepth 20000 in
theorem gX4_both_X4_fails : GoodIn wsX4_both (wsV RX4 97 RX4 yX4_fails wsX4_fails) := goodIn_app (goodIn_of _ (by decide +kernel)) ggX4_both_X4_fails
set_option maxRecDepth 20000 in
theorem ggX4_both_X4_reaches : GoodIn wsX4_both wsX4_reaches := goodIn_r _ [18, 19, 20, 21, 22, 4, 23, 24, 25, 26, 27, 28, 29, 30, 31, 32, 33, 34, 35, 36, 37, 38, 39, 40, 41, 42, 43, 44, 45, 46, 47, 48, 49, 50, 51, 52, 53] (by decide +kernel) (by decide +kernel)
set_option maxRecDepth 20000 in
theorem gX4_both_X4_reaches : GoodIn wsX4_both (wsV RX4 149 RX4 yX4_reaches wsX4_reaches) := goodIn_app (goodIn_of _ (by decide +kernel)) ggX4_both_X4_reaches
theorem dX4_both_0 : decode cX4_both 0 = .ok (.aload_n 0, 1) := by decide +kernel
theorem dX4_both_1 : decode cX4_both 1 = .ok (.aload_n 0, 1) := by decide +kernel
theorem dX4_both_2 : decode cX4_both 2 = .ok (.iload_n 1, 1) := by decide +kernel
theorem dX4_both_3 : decode cX4_both 3 = .ok (.invokevirtual 100, 3) := by decide +kernel
theorem dX4_both_6 : decode cX4_both 6 = .ok (.ifCond .ne 11, 3) := by decide +kernel
theorem dX4_both_9 : decode cX4_both 9 = .ok (.aload_n 0, 1) := by decide +kernel
theorem dX4_both_10 : decode cX4_both 10 = .ok (.iload_n 2, 1) := by decide +kernel
theorem dX4_both_11 : decode cX4_both 11 = .ok (.invokevirtual 100, 3) := by decide +kernel
theorem dX4_both_14 : decode cX4_both 14 = .ok (.ifCond .eq 7, 3) := by decide +kernel
theorem dX4_both_17 : decode cX4_both 17 = .ok (.iconst 1, 1) := by decide +kernel
theorem dX4_both_18 : decode cX4_both 18 = .ok (.goto 4, 3) := by decide +kernel
theorem dX4_both_21 : decode cX4_both 21 = .ok (.iconst 0, 1) := by decide +kernel
theorem dX4_both_22 : decode cX4_both 22 = .ok (.invokevirtual 97, 3) := by decide +kernel
theorem dX4_both_25 : decode cX4_both 25 = .ok (.ifCond .eq 5, 3) := by decide +kernel
theorem dX4_both_28 : decode cX4_both 28 = .ok (.iconst 0, 1) := by decide +kernel
theorem dX4_both_29 : decode cX4_both 29 = .ok (.ireturn, 1) := by decide +kernel
theorem dX4_both_30 : decode cX4_both 30 = .ok (.iconst 0, 1) := by decide +kernel
theorem dX4_both_31 : decode cX4_both 31 = .ok (.istore_n 3, 1) := by decide +kernel
theorem dX4_both_32 : decode cX4_both 32 = .ok (.iconst 0, 1) := by decide +kernel
theorem dX4_both_33 : decode cX4_both 33 = .ok (.istore 4, 2) := by decide +kernel
theorem dX4_both_35 : decode cX4_both 35 = .ok (.iload 4, 2) := by decide +kernel
theorem dX4_both_37 : decode cX4_both 37 = .ok (.sipush 1600, 3) := by decide +kernel
theorem dX4_both_40 : decode cX4_both 40 = .ok (.if_icmp .ge 53, 3) := by decide +kernel
theorem dX4_both_43 : decode cX4_both 43 = .ok (.iload_n 3, 1) := by decide +kernel
theorem dX4_both_44 : decode cX4_both 44 = .ok (.aload_n 0, 1) := by decide +kernel
theorem dX4_both_45 : decode cX4_both 45 = .ok (.iload_n 1, 1) := by decide +kernel
theorem dX4_both_46 : decode cX4_both 46 = .ok (.iload 4, 2) := by decide +kernel
theorem dX4_both_48 : decode cX4_both 48 = .ok (.bipush 40, 2) := by decide +kernel
theorem dX4_both_50 : decode cX4_both 50 = .ok (.irem, 1) := by decide +kernel
theorem dX4_both_51 : decode cX4_both 51 = .ok (.iload 4, 2) := by decide +kernel
theorem dX4_both_53 : decode cX4_both 53 = .ok (.bipush 40, 2) := by decide +kernel
theorem dX4_both_55 : decode cX4_both 55 = .ok (.idiv, 1) := by decide +kernel
theorem dX4_both_56 : decode cX4_both 56 = .ok (.invokevirtual 149, 3) := by decide +kernel
theorem dX4_both_59 : decode cX4_both 59 = .ok (.ifCond .eq 25, 3) := by decide +kernel
theorem dX4_both_62 : decode cX4_both 62 = .ok (.aload_n 0, 1) := by decide +kernel
theorem dX4_both_63 : decode cX4_both 63 = .ok (.iload_n 2, 1) := by decide +kernel
theorem dX4_both_64 : decode cX4_both 64 = .ok (.iload 4, 2) := by decide +kernel
theorem dX4_both_66 : decode cX4_both 66 = .ok (.bipush 40, 2) := by decide +kernel
theorem dX4_both_68 : decode cX4_both 68 = .ok (.irem, 1) := by decide +kernel
theorem dX4_both_69 : decode cX4_both 69 = .ok (.iload 4, 2) := by decide +kernel
theorem dX4_both_71 : decode cX4_both 71 = .ok (.bipush 40, 2) := by decide +kernel
theorem dX4_both_73 : decode cX4_both 73 = .ok (.idiv, 1) := by decide +kernel
theorem dX4_both_74 : decode cX4_both 74 = .ok (.invokevirtual 149, 3) := by decide +kernel
theorem dX4_both_77 : decode cX4_both 77 = .ok (.ifCond .eq 7, 3) := by decide +kernel
theorem dX4_both_80 : decode cX4_both 80 = .ok (.iconst 1, 1) := by decide +kernel
theorem dX4_both_81 : decode cX4_both 81 = .ok (.goto 4, 3) := by decide +kernel
theorem dX4_both_84 : decode cX4_both 84 = .ok (.iconst 0, 1) := by decide +kernel
theorem dX4_both_85 : decode cX4_both 85 = .ok (.iadd, 1) := by decide +kernel
theorem dX4_both_86 : decode cX4_both 86 = .ok (.istore_n 3, 1) := by decide +kernel
theorem dX4_both_87 : decode cX4_both 87 = .ok (.iinc 4 1, 3) := by decide +kernel
theorem dX4_both_90 : decode cX4_both 90 = .ok (.goto (-55), 3) := by decide +kernel
theorem dX4_both_93 : decode cX4_both 93 = .ok (.iload_n 3, 1) := by decide +kernel
theorem dX4_both_94 : decode cX4_both 94 = .ok (.ireturn, 1) := by decide +kernel
set_option maxRecDepth 20000 in
theorem ggX4_overlap_X4_both : GoodIn wsX4_overlap wsX4_both := goodIn_r _ [5, 6, 7, 8, 4, 9, 10, 11, 12, 13, 14, 15, 16, 17, 18, 19, 20, 21, 22, 23, 24, 25, 26, 27, 28, 29, 30, 31, 32, 33, 34, 35, 36, 37, 38, 39, 40, 41, 42, 43, 44, 45, 46, 47, 48, 49, 50, 51, 52, 53, 54, 55, 56, 57] (by decide +kernel) (by decide +kernel)
set_option maxRecDepth 20000 in
theorem gX4_overlap_X4_both : GoodIn wsX4_overlap (wsV RX4 204 RX4 yX4_both wsX4_both) := goodIn_app (goodIn_of _ (by decide +kernel)) ggX4_overlap_X4_both
theorem dX4_overlap_0 : decode cX4_overlap 0 = .ok (.aload_n 0, 1) := by decide +kernel
theorem dX4_overlap_1 : decode cX4_overlap 1 = .ok (.iload_n 1, 1) := by decide +kernel
theorem dX4_overlap_2 : decode cX4_overlap 2 = .ok (.iload_n 2, 1) := by decide +kernel
theorem dX4_overlap_3 : decode cX4_overlap 3 = .ok (.invokevirtual 204, 3) := by decide +kernel
theorem dX4_overlap_6 : decode cX4_overlap 6 = .ok (.ifCond .le 7, 3) := by decide +kernel
theorem dX4_overlap_9 : decode cX4_overlap 9 = .ok (.iconst 1, 1) := by decide +kernel
theorem dX4_overlap_10 : decode cX4_overlap 10 = .ok (.goto 4, 3) := by decide +kernel
theorem dX4_overlap_13 : decode cX4_overlap 13 = .ok (.iconst 0, 1) := by decide +kernel
theorem dX4_overlap_14 : decode cX4_overlap 14 = .ok (.ireturn, 1) := by decide +kernel
set_option maxRecDepth 20000 in
theorem ggX4_bothReach_X4_both : GoodIn wsX4_bothReach wsX4_both := goodIn_r _ [5, 6, 7, 8, 4, 9, 10, 11, 12, 13, 14, 15, 16, 17, 18, 19, 20, 21, 22, 23, 24, 25, 26, 27, 28, 29, 30, 31, 32, 33, 34, 35, 36, 37, 38, 39, 40, 41, 42, 43, 44, 45, 46, 47, 48, 49, 50, 51, 52, 53, 54, 55, 56, 57] (by decide +kernel) (by decide +kernel)
set_option maxRecDepth 20000 in
theorem gX4_bothReach_X4_both : GoodIn wsX4_bothReach (wsV RX4 204 RX4 yX4_both wsX4_both) := goodIn_app (goodIn_of _ (by decide +kernel)) ggX4_bothReach_X4_both
theorem dX4_bothReach_0 : decode cX4_bothReach 0 = .ok (.aload_n 0, 1) := by decide +kernel
theorem dX4_bothReach_1 : decode cX4_bothReach 1 = .ok (.iload_n 1, 1) := by decide +kernel
theorem dX4_bothReach_2 : decode cX4_bothReach 2 = .ok (.iload_n 2, 1) := by decide +kernel
theorem dX4_bothReach_3 : decode cX4_bothReach 3 = .ok (.invokevirtual 204, 3) := by decide +kernel
theorem dX4_bothReach_6 : decode cX4_bothReach 6 = .ok (.ireturn, 1) := by decide +kernel
set_option maxRecDepth 20000 in
theorem ggX4_reason_X4_isNoPair : GoodIn wsX4_reason wsX4_isNoPair := goodIn_r _ [5, 6, 7, 8, 4, 9, 10, 11, 12, 13, 14, 15, 16, 17, 18, 19, 20, 21, 22, 23, 74, 75, 76, 77, 78, 79, 80, 81, 82, 83, 84, 85, 86, 87, 88, 89, 90, 91, 92, 93, 94, 95, 96, 97, 98, 99, 100, 101] (by decide +kernel) (by decide +kernel)
set_option maxRecDepth 20000 in
theorem gX4_reason_X4_isNoPair : GoodIn wsX4_reason (wsV RX4 175 RX4 yX4_isNoPair wsX4_isNoPair) := goodIn_app (goodIn_of _ (by decide +kernel)) ggX4_reason_X4_isNoPair
set_option maxRecDepth 20000 in
theorem ggX4_reason_X4_why : GoodIn wsX4_reason wsX4_why := goodIn_ca (goodIn_r _ [27, 28, 29, 10, 30, 31, 32, 33, 34, 4, 35, 36, 37, 38, 39, 40, 41, 42, 43, 44, 45, 46, 47, 48, 49, 50, 51, 52, 53, 54, 55, 56, 57, 58, 59, 60, 61, 62, 63, 64, 65, 66, 67, 68, 69, 70, 71, 72, 73, 74, 75, 76, 77, 78, 79, 80, 81, 82, 83, 84, 85, 86, 87, 88, 89, 90, 91, 92, 93, 94, 95, 96, 97, 98, 99, 100, 101] (by decide +kernel) (by decide +kernel)) (goodIn_sub (fun _ h => List.mem_cons_of_mem _ (List.mem_append_right _ h)) (by decide +kernel))
set_option maxRecDepth 20000 in
theorem gX4_reason_X4_why : GoodIn wsX4_reason (wsV RX4 188 RX4 yX4_why wsX4_why) := goodIn_app (goodIn_of _ (by decide +kernel)) ggX4_reason_X4_why
theorem dX4_reason_0 : decode cX4_reason 0 = .ok (.aload_n 0, 1) := by decide +kernel
theorem dX4_reason_1 : decode cX4_reason 1 = .ok (.iload_n 1, 1) := by decide +kernel
theorem dX4_reason_2 : decode cX4_reason 2 = .ok (.iload_n 2, 1) := by decide +kernel
theorem dX4_reason_3 : decode cX4_reason 3 = .ok (.invokevirtual 175, 3) := by decide +kernel
theorem dX4_reason_6 : decode cX4_reason 6 = .ok (.ifCond .eq 8, 3) := by decide +kernel
theorem dX4_reason_9 : decode cX4_reason 9 = .ok (.bipush 32, 2) := by decide +kernel
theorem dX4_reason_11 : decode cX4_reason 11 = .ok (.goto 10, 3) := by decide +kernel
theorem dX4_reason_14 : decode cX4_reason 14 = .ok (.aload_n 0, 1) := by decide +kernel
theorem dX4_reason_15 : decode cX4_reason 15 = .ok (.iload_n 1, 1) := by decide +kernel
theorem dX4_reason_16 : decode cX4_reason 16 = .ok (.iload_n 2, 1) := by decide +kernel
theorem dX4_reason_17 : decode cX4_reason 17 = .ok (.iload_n 3, 1) := by decide +kernel
theorem dX4_reason_18 : decode cX4_reason 18 = .ok (.invokevirtual 188, 3) := by decide +kernel
theorem dX4_reason_21 : decode cX4_reason 21 = .ok (.ireturn, 1) := by decide +kernel
set_option maxRecDepth 20000 in
theorem ggX4_earliestOf_X4_isNoPair : GoodIn wsX4_earliestOf wsX4_isNoPair := goodIn_r _ [5, 6, 7, 8, 4, 9, 10, 11, 12, 13, 14, 15, 16, 17, 18, 19, 20, 21, 22, 23, 83, 84, 85, 86, 87, 88, 89, 90, 91, 92, 93, 94, 95, 96, 97, 98, 99, 100, 101, 102, 103, 104, 105, 106, 107, 108, 109, 110] (by decide +kernel) (by decide +kernel)
set_option maxRecDepth 20000 in
theorem gX4_earliestOf_X4_isNoPair : GoodIn wsX4_earliestOf (wsV RX4 175 RX4 yX4_isNoPair wsX4_isNoPair) := goodIn_app (goodIn_of _ (by decide +kernel)) ggX4_earliestOf_X4_isNoPair
set_option maxRecDepth 20000 in
theorem ggX4_earliestOf_X4_first : GoodIn wsX4_earliestOf wsX4_first := goodIn_ca (goodIn_r _ [27, 28, 29, 30, 4, 31, 32, 33, 34, 35, 36, 37, 38, 39, 40, 41, 42, 43, 44, 45, 46, 47, 48, 49, 50, 51, 52, 53, 54, 55, 56, 57, 58, 59, 60, 61, 62, 63, 64, 65, 66, 67, 68, 69, 10, 70, 71, 72, 73, 74, 75, 76, 77, 78, 79, 80, 81, 82, 83, 84, 85, 86, 87, 88, 89, 90, 91, 92, 93, 94, 95, 96, 97, 98, 99, 100, 101, 102, 103, 104, 105, 106, 107, 108, 109, 110] (by decide +kernel) (by decide +kernel)) (goodIn_sub (fun _ h => List.mem_cons_of_mem _ (List.mem_append_right _ h)) (by decide +kernel))
set_option maxRecDepth 20000 in
theorem gX4_earliestOf_X4_first : GoodIn wsX4_earliestOf (wsV RX4 181 RX4 yX4_first wsX4_first) := goodIn_app (goodIn_of _ (by decide +kernel)) ggX4_earliestOf_X4_first
set_option maxRecDepth 20000 in
theorem ggX4_earliestOf_X4_fails : GoodIn wsX4_earliestOf wsX4_fails := goodIn_r _ [22, 23, 83, 84, 85, 86, 87, 88, 89, 90, 91, 92, 93, 94, 95, 96, 97, 98, 99, 100, 101, 102, 103, 104, 105, 106, 107, 108, 109, 110] (by decide +kernel) (by decide +kernel)
set_option maxRecDepth 20000 in
theorem gX4_earliestOf_X4_fails : GoodIn wsX4_earliestOf (wsV RX4 97 RX4 yX4_fails wsX4_fails) := goodIn_app (goodIn_of _ (by decide +kernel)) ggX4_earliestOf_X4_fails
theorem dX4_earliestOf_0 : decode cX4_earliestOf 0 = .ok (.aload_n 0, 1) := by decide +kernel
theorem dX4_earliestOf_1 : decode cX4_earliestOf 1 = .ok (.iload_n 1, 1) := by decide +kernel
theorem dX4_earliestOf_2 : decode cX4_earliestOf 2 = .ok (.iload_n 2, 1) := by decide +kernel
theorem dX4_earliestOf_3 : decode cX4_earliestOf 3 = .ok (.invokevirtual 175, 3) := by decide +kernel
theorem dX4_earliestOf_6 : decode cX4_earliestOf 6 = .ok (.ifCond .eq 5, 3) := by decide +kernel
theorem dX4_earliestOf_9 : decode cX4_earliestOf 9 = .ok (.iconst 0, 1) := by decide +kernel
theorem dX4_earliestOf_10 : decode cX4_earliestOf 10 = .ok (.ireturn, 1) := by decide +kernel
theorem dX4_earliestOf_11 : decode cX4_earliestOf 11 = .ok (.aload_n 0, 1) := by decide +kernel
theorem dX4_earliestOf_12 : decode cX4_earliestOf 12 = .ok (.iload_n 1, 1) := by decide +kernel
theorem dX4_earliestOf_13 : decode cX4_earliestOf 13 = .ok (.iload_n 2, 1) := by decide +kernel
theorem dX4_earliestOf_14 : decode cX4_earliestOf 14 = .ok (.invokevirtual 181, 3) := by decide +kernel
theorem dX4_earliestOf_17 : decode cX4_earliestOf 17 = .ok (.istore_n 3, 1) := by decide +kernel
theorem dX4_earliestOf_18 : decode cX4_earliestOf 18 = .ok (.aload_n 0, 1) := by decide +kernel
theorem dX4_earliestOf_19 : decode cX4_earliestOf 19 = .ok (.iload_n 3, 1) := by decide +kernel
theorem dX4_earliestOf_20 : decode cX4_earliestOf 20 = .ok (.ifCond .ge 7, 3) := by decide +kernel
theorem dX4_earliestOf_23 : decode cX4_earliestOf 23 = .ok (.iconst 2, 1) := by decide +kernel
theorem dX4_earliestOf_24 : decode cX4_earliestOf 24 = .ok (.goto 4, 3) := by decide +kernel
theorem dX4_earliestOf_27 : decode cX4_earliestOf 27 = .ok (.iconst 0, 1) := by decide +kernel
theorem dX4_earliestOf_28 : decode cX4_earliestOf 28 = .ok (.invokevirtual 97, 3) := by decide +kernel
theorem dX4_earliestOf_31 : decode cX4_earliestOf 31 = .ok (.ifCond .eq 7, 3) := by decide +kernel
theorem dX4_earliestOf_34 : decode cX4_earliestOf 34 = .ok (.iconst 0, 1) := by decide +kernel
theorem dX4_earliestOf_35 : decode cX4_earliestOf 35 = .ok (.goto 4, 3) := by decide +kernel
theorem dX4_earliestOf_38 : decode cX4_earliestOf 38 = .ok (.iload_n 3, 1) := by decide +kernel
theorem dX4_earliestOf_39 : decode cX4_earliestOf 39 = .ok (.ireturn, 1) := by decide +kernel
set_option maxRecDepth 20000 in
theorem ggX4_earliest_X4_earliestOf : GoodIn wsX4_earliest wsX4_earliestOf := goodIn_ca (goodIn_r _ [5, 6, 7, 8, 4, 9, 10, 11, 12, 13, 14, 15, 16, 17, 18, 19, 20, 21, 22, 23, 24, 25, 26, 27, 28, 29, 30, 31, 32, 33, 34, 35, 36, 37, 38, 39, 40, 41, 42, 43, 44, 45, 46, 47, 48, 49, 50, 51, 52, 53, 54, 55, 56, 57, 58, 59, 60, 61, 62, 63, 64, 65, 66, 67, 68, 69, 70, 71, 72, 73, 74, 75, 76, 77, 78, 79, 80, 81, 82, 83, 84, 85, 86, 87, 88, 89, 90, 91, 92, 93, 94, 95, 96, 97, 98, 99, 100, 101, 102, 103, 104, 105, 106, 107, 108, 109, 110, 111, 112, 113, 114] (by decide +kernel) (by decide +kernel)) (goodIn_sub (fun _ h => List.mem_cons_of_mem _ (List.mem_append_right _ h)) (by decide +kernel))
set_option maxRecDepth 20000 in
theorem gX4_earliest_X4_earliestOf : GoodIn wsX4_earliest (wsV RX4 207 RX4 yX4_earliestOf wsX4_earliestOf) := goodIn_app (goodIn_of _ (by decide +kernel)) ggX4_earliest_X4_earliestOf
theorem dX4_earliest_0 : decode cX4_earliest 0 = .ok (.aload_n 0, 1) := by decide +kernel
theorem dX4_earliest_1 : decode cX4_earliest 1 = .ok (.iload_n 1, 1) := by decide +kernel
theorem dX4_earliest_2 : decode cX4_earliest 2 = .ok (.iload_n 2, 1) := by decide +kernel
theorem dX4_earliest_3 : decode cX4_earliest 3 = .ok (.invokevirtual 207, 3) := by decide +kernel
theorem dX4_earliest_6 : decode cX4_earliest 6 = .ok (.ireturn, 1) := by decide +kernel
set_option maxRecDepth 20000 in
theorem ggX4_earliestByMinutes_X4_earliestOf : GoodIn wsX4_earliestByMinutes wsX4_earliestOf := goodIn_ca (goodIn_r _ [5, 6, 7, 8, 4, 9, 10, 11, 12, 13, 14, 15, 16, 17, 18, 19, 20, 21, 22, 23, 24, 25, 26, 27, 28, 29, 30, 31, 32, 33, 34, 35, 36, 37, 38, 39, 40, 41, 42, 43, 44, 45, 46, 47, 48, 49, 50, 51, 52, 53, 54, 55, 56, 57, 58, 59, 60, 61, 62, 63, 64, 65, 66, 67, 68, 69, 70, 71, 72, 73, 74, 75, 76, 77, 78, 79, 80, 81, 82, 83, 84, 85, 86, 87, 88, 89, 90, 91, 92, 93, 94, 95, 96, 97, 98, 99, 100, 101, 102, 103, 104, 105, 106, 107, 108, 109, 110, 111, 112, 113, 114] (by decide +kernel) (by decide +kernel)) (goodIn_sub (fun _ h => List.mem_cons_of_mem _ (List.mem_append_right _ h)) (by decide +kernel))
set_option maxRecDepth 20000 in
theorem gX4_earliestByMinutes_X4_earliestOf : GoodIn wsX4_earliestByMinutes (wsV RX4 207 RX4 yX4_earliestOf wsX4_earliestOf) := goodIn_app (goodIn_of _ (by decide +kernel)) ggX4_earliestByMinutes_X4_earliestOf
theorem dX4_earliestByMinutes_0 : decode cX4_earliestByMinutes 0 = .ok (.aload_n 0, 1) := by decide +kernel
theorem dX4_earliestByMinutes_1 : decode cX4_earliestByMinutes 1 = .ok (.iload_n 1, 1) := by decide +kernel
theorem dX4_earliestByMinutes_2 : decode cX4_earliestByMinutes 2 = .ok (.iload_n 2, 1) := by decide +kernel
theorem dX4_earliestByMinutes_3 : decode cX4_earliestByMinutes 3 = .ok (.invokevirtual 207, 3) := by decide +kernel
theorem dX4_earliestByMinutes_6 : decode cX4_earliestByMinutes 6 = .ok (.ireturn, 1) := by decide +kernel
set_option maxRecDepth 20000 in
theorem ggX4_stateOf_X4_isNone : GoodIn wsX4_stateOf wsX4_isNone := goodIn_r _ [6, 7, 8, 9, 5, 10, 11, 12, 13, 14, 15, 16, 17, 18, 19, 20, 21, 22, 23, 24, 25, 26, 27, 28, 29, 30, 31, 32, 33, 34, 35, 36, 37, 38, 39, 40, 41, 42, 43, 44, 45, 46, 47] (by decide +kernel) (by decide +kernel)
set_option maxRecDepth 20000 in
theorem gX4_stateOf_X4_isNone : GoodIn wsX4_stateOf (wsV RX4 198 RX4 yX4_isNone wsX4_isNone) := goodIn_app (goodIn_of _ (by decide +kernel)) ggX4_stateOf_X4_isNone
theorem dX4_stateOf_0 : decode cX4_stateOf 0 = .ok (.aload_n 0, 1) := by decide +kernel
theorem dX4_stateOf_1 : decode cX4_stateOf 1 = .ok (.iload_n 1, 1) := by decide +kernel
theorem dX4_stateOf_2 : decode cX4_stateOf 2 = .ok (.invokevirtual 198, 3) := by decide +kernel
theorem dX4_stateOf_5 : decode cX4_stateOf 5 = .ok (.ifCond .eq 8, 3) := by decide +kernel
theorem dX4_stateOf_8 : decode cX4_stateOf 8 = .ok (.bipush 32, 2) := by decide +kernel
theorem dX4_stateOf_10 : decode cX4_stateOf 10 = .ok (.goto 9, 3) := by decide +kernel
theorem dX4_stateOf_13 : decode cX4_stateOf 13 = .ok (.aload_n 0, 1) := by decide +kernel
theorem dX4_stateOf_14 : decode cX4_stateOf 14 = .ok (.getfield 47, 3) := by decide +kernel
theorem dX4_stateOf_17 : decode cX4_stateOf 17 = .ok (.iload_n 1, 1) := by decide +kernel
theorem dX4_stateOf_18 : decode cX4_stateOf 18 = .ok (.caload, 1) := by decide +kernel
theorem dX4_stateOf_19 : decode cX4_stateOf 19 = .ok (.ireturn, 1) := by decide +kernel
set_option maxRecDepth 20000 in
theorem ggX4_isLoose_X4_isNone : GoodIn wsX4_isLoose wsX4_isNone := goodIn_r _ [6, 7, 8, 9, 5, 10, 11, 12, 13, 14, 15, 16, 17, 18, 19, 20, 21, 22, 23, 24, 25, 26, 27, 28, 29, 30, 31, 32, 33, 34, 35, 36, 37, 38, 39, 40, 41, 42, 43, 44, 45, 46, 47] (by decide +kernel) (by decide +kernel)
set_option maxRecDepth 20000 in
theorem gX4_isLoose_X4_isNone : GoodIn wsX4_isLoose (wsV RX4 198 RX4 yX4_isNone wsX4_isNone) := goodIn_app (goodIn_of _ (by decide +kernel)) ggX4_isLoose_X4_isNone
set_option maxRecDepth 20000 in
theorem ggX4_isLoose_X4_fails : GoodIn wsX4_isLoose wsX4_fails := goodIn_r _ [18, 19, 20, 21, 22, 23, 24, 25, 26, 27, 28, 29, 30, 31, 32, 33, 34, 35, 36, 37, 38, 39, 40, 41, 42, 43, 44, 45, 46, 47] (by decide +kernel) (by decide +kernel)
set_option maxRecDepth 20000 in
theorem gX4_isLoose_X4_fails : GoodIn wsX4_isLoose (wsV RX4 97 RX4 yX4_fails wsX4_fails) := goodIn_app (goodIn_of _ (by decide +kernel)) ggX4_isLoose_X4_fails
theorem dX4_isLoose_0 : decode cX4_isLoose 0 = .ok (.aload_n 0, 1) := by decide +kernel
theorem dX4_isLoose_1 : decode cX4_isLoose 1 = .ok (.iload_n 1, 1) := by decide +kernel
theorem dX4_isLoose_2 : decode cX4_isLoose 2 = .ok (.invokevirtual 198, 3) := by decide +kernel
theorem dX4_isLoose_5 : decode cX4_isLoose 5 = .ok (.ifCond .ne 26, 3) := by decide +kernel
theorem dX4_isLoose_8 : decode cX4_isLoose 8 = .ok (.aload_n 0, 1) := by decide +kernel
theorem dX4_isLoose_9 : decode cX4_isLoose 9 = .ok (.aload_n 0, 1) := by decide +kernel
theorem dX4_isLoose_10 : decode cX4_isLoose 10 = .ok (.getfield 47, 3) := by decide +kernel
theorem dX4_isLoose_13 : decode cX4_isLoose 13 = .ok (.iload_n 1, 1) := by decide +kernel
theorem dX4_isLoose_14 : decode cX4_isLoose 14 = .ok (.caload, 1) := by decide +kernel
theorem dX4_isLoose_15 : decode cX4_isLoose 15 = .ok (.bipush 119, 2) := by decide +kernel
theorem dX4_isLoose_17 : decode cX4_isLoose 17 = .ok (.if_icmp .ne 7, 3) := by decide +kernel
theorem dX4_isLoose_20 : decode cX4_isLoose 20 = .ok (.iconst 2, 1) := by decide +kernel
theorem dX4_isLoose_21 : decode cX4_isLoose 21 = .ok (.goto 4, 3) := by decide +kernel
theorem dX4_isLoose_24 : decode cX4_isLoose 24 = .ok (.iconst 0, 1) := by decide +kernel
theorem dX4_isLoose_25 : decode cX4_isLoose 25 = .ok (.invokevirtual 97, 3) := by decide +kernel
theorem dX4_isLoose_28 : decode cX4_isLoose 28 = .ok (.ifCond .eq 7, 3) := by decide +kernel
theorem dX4_isLoose_31 : decode cX4_isLoose 31 = .ok (.iconst 1, 1) := by decide +kernel
theorem dX4_isLoose_32 : decode cX4_isLoose 32 = .ok (.goto 4, 3) := by decide +kernel
theorem dX4_isLoose_35 : decode cX4_isLoose 35 = .ok (.iconst 0, 1) := by decide +kernel
theorem dX4_isLoose_36 : decode cX4_isLoose 36 = .ok (.ireturn, 1) := by decide +kernel
set_option maxRecDepth 20000 in
theorem ggX4_startOf_X4_isLoose : GoodIn wsX4_startOf wsX4_isLoose := goodIn_r _ [6, 7, 8, 9, 10, 5, 11, 12, 13, 14, 15, 16, 17, 18, 19, 20, 21, 22, 23, 24, 25, 26, 27, 28, 29, 30, 31, 32, 33, 34, 35, 36, 37, 38, 39, 40, 41, 42, 43, 44, 45, 46, 47, 48, 49, 50, 51, 52] (by decide +kernel) (by decide +kernel)
set_option maxRecDepth 20000 in
theorem gX4_startOf_X4_isLoose : GoodIn wsX4_startOf (wsV RX4 210 RX4 yX4_isLoose wsX4_isLoose) := goodIn_app (goodIn_of _ (by decide +kernel)) ggX4_startOf_X4_isLoose
theorem dX4_startOf_0 : decode cX4_startOf 0 = .ok (.aload_n 0, 1) := by decide +kernel
theorem dX4_startOf_1 : decode cX4_startOf 1 = .ok (.iload_n 1, 1) := by decide +kernel
theorem dX4_startOf_2 : decode cX4_startOf 2 = .ok (.invokevirtual 210, 3) := by decide +kernel
theorem dX4_startOf_5 : decode cX4_startOf 5 = .ok (.ifCond .eq 7, 3) := by decide +kernel
theorem dX4_startOf_8 : decode cX4_startOf 8 = .ok (.iconst 0, 1) := by decide +kernel
theorem dX4_startOf_9 : decode cX4_startOf 9 = .ok (.goto 9, 3) := by decide +kernel
theorem dX4_startOf_12 : decode cX4_startOf 12 = .ok (.aload_n 0, 1) := by decide +kernel
theorem dX4_startOf_13 : decode cX4_startOf 13 = .ok (.getfield 54, 3) := by decide +kernel
theorem dX4_startOf_16 : decode cX4_startOf 16 = .ok (.iload_n 1, 1) := by decide +kernel
theorem dX4_startOf_17 : decode cX4_startOf 17 = .ok (.iaload, 1) := by decide +kernel
theorem dX4_startOf_18 : decode cX4_startOf 18 = .ok (.ireturn, 1) := by decide +kernel
set_option maxRecDepth 20000 in
theorem ggX4_craneOf_X4_isLoose : GoodIn wsX4_craneOf wsX4_isLoose := goodIn_r _ [6, 7, 8, 9, 10, 5, 11, 12, 13, 14, 15, 16, 17, 18, 19, 20, 21, 22, 23, 24, 25, 26, 27, 28, 29, 30, 31, 32, 33, 34, 35, 36, 37, 38, 39, 40, 41, 42, 43, 44, 45, 46, 47, 48, 49, 50, 51, 52] (by decide +kernel) (by decide +kernel)
set_option maxRecDepth 20000 in
theorem gX4_craneOf_X4_isLoose : GoodIn wsX4_craneOf (wsV RX4 210 RX4 yX4_isLoose wsX4_isLoose) := goodIn_app (goodIn_of _ (by decide +kernel)) ggX4_craneOf_X4_isLoose
theorem dX4_craneOf_0 : decode cX4_craneOf 0 = .ok (.aload_n 0, 1) := by decide +kernel
theorem dX4_craneOf_1 : decode cX4_craneOf 1 = .ok (.iload_n 1, 1) := by decide +kernel
theorem dX4_craneOf_2 : decode cX4_craneOf 2 = .ok (.invokevirtual 210, 3) := by decide +kernel
theorem dX4_craneOf_5 : decode cX4_craneOf 5 = .ok (.ifCond .eq 7, 3) := by decide +kernel
theorem dX4_craneOf_8 : decode cX4_craneOf 8 = .ok (.iconst 0, 1) := by decide +kernel
theorem dX4_craneOf_9 : decode cX4_craneOf 9 = .ok (.goto 9, 3) := by decide +kernel
theorem dX4_craneOf_12 : decode cX4_craneOf 12 = .ok (.aload_n 0, 1) := by decide +kernel
theorem dX4_craneOf_13 : decode cX4_craneOf 13 = .ok (.getfield 51, 3) := by decide +kernel
theorem dX4_craneOf_16 : decode cX4_craneOf 16 = .ok (.iload_n 1, 1) := by decide +kernel
theorem dX4_craneOf_17 : decode cX4_craneOf 17 = .ok (.iaload, 1) := by decide +kernel
theorem dX4_craneOf_18 : decode cX4_craneOf 18 = .ok (.ireturn, 1) := by decide +kernel
set_option maxRecDepth 20000 in
theorem ggX4_pourOf_X4_isNone : GoodIn wsX4_pourOf wsX4_isNone := goodIn_r _ [6, 7, 8, 9, 5, 10, 11, 12, 13, 14, 15, 16, 17, 18, 19, 20, 21, 22, 23, 24, 25, 26, 27, 28, 29, 30, 31, 32, 33, 34, 35, 36, 37, 38, 39, 40, 41, 42, 43, 44, 45, 46, 47] (by decide +kernel) (by decide +kernel)
set_option maxRecDepth 20000 in
theorem gX4_pourOf_X4_isNone : GoodIn wsX4_pourOf (wsV RX4 198 RX4 yX4_isNone wsX4_isNone) := goodIn_app (goodIn_of _ (by decide +kernel)) ggX4_pourOf_X4_isNone
theorem dX4_pourOf_0 : decode cX4_pourOf 0 = .ok (.aload_n 0, 1) := by decide +kernel
theorem dX4_pourOf_1 : decode cX4_pourOf 1 = .ok (.iload_n 1, 1) := by decide +kernel
theorem dX4_pourOf_2 : decode cX4_pourOf 2 = .ok (.invokevirtual 198, 3) := by decide +kernel
theorem dX4_pourOf_5 : decode cX4_pourOf 5 = .ok (.ifCond .eq 7, 3) := by decide +kernel
theorem dX4_pourOf_8 : decode cX4_pourOf 8 = .ok (.iconst 0, 1) := by decide +kernel
theorem dX4_pourOf_9 : decode cX4_pourOf 9 = .ok (.goto 9, 3) := by decide +kernel
theorem dX4_pourOf_12 : decode cX4_pourOf 12 = .ok (.aload_n 0, 1) := by decide +kernel
theorem dX4_pourOf_13 : decode cX4_pourOf 13 = .ok (.getfield 57, 3) := by decide +kernel
theorem dX4_pourOf_16 : decode cX4_pourOf 16 = .ok (.iload_n 1, 1) := by decide +kernel
theorem dX4_pourOf_17 : decode cX4_pourOf 17 = .ok (.iaload, 1) := by decide +kernel
theorem dX4_pourOf_18 : decode cX4_pourOf 18 = .ok (.ireturn, 1) := by decide +kernel
set_option maxRecDepth 20000 in
theorem ggX4_airOf_X4_isNone : GoodIn wsX4_airOf wsX4_isNone := goodIn_r _ [6, 7, 8, 9, 5, 10, 11, 12, 13, 14, 15, 16, 17, 18, 19, 20, 21, 22, 23, 24, 25, 26, 27, 28, 29, 30, 31, 32, 33, 34, 35, 36, 37, 38, 39, 40, 41, 42, 43, 44, 45, 46, 47] (by decide +kernel) (by decide +kernel)
set_option maxRecDepth 20000 in
theorem gX4_airOf_X4_isNone : GoodIn wsX4_airOf (wsV RX4 198 RX4 yX4_isNone wsX4_isNone) := goodIn_app (goodIn_of _ (by decide +kernel)) ggX4_airOf_X4_isNone
theorem dX4_airOf_0 : decode cX4_airOf 0 = .ok (.aload_n 0, 1) := by decide +kernel
theorem dX4_airOf_1 : decode cX4_airOf 1 = .ok (.iload_n 1, 1) := by decide +kernel
theorem dX4_airOf_2 : decode cX4_airOf 2 = .ok (.invokevirtual 198, 3) := by decide +kernel
theorem dX4_airOf_5 : decode cX4_airOf 5 = .ok (.ifCond .eq 7, 3) := by decide +kernel
theorem dX4_airOf_8 : decode cX4_airOf 8 = .ok (.lconst 0, 1) := by decide +kernel
theorem dX4_airOf_9 : decode cX4_airOf 9 = .ok (.goto 9, 3) := by decide +kernel
theorem dX4_airOf_12 : decode cX4_airOf 12 = .ok (.aload_n 0, 1) := by decide +kernel
theorem dX4_airOf_13 : decode cX4_airOf 13 = .ok (.getfield 60, 3) := by decide +kernel
theorem dX4_airOf_16 : decode cX4_airOf 16 = .ok (.iload_n 1, 1) := by decide +kernel
theorem dX4_airOf_17 : decode cX4_airOf 17 = .ok (.laload, 1) := by decide +kernel
theorem dX4_airOf_18 : decode cX4_airOf 18 = .ok (.lreturn, 1) := by decide +kernel
set_option maxRecDepth 20000 in
theorem ggX4_shareAir_X4_isNoLift : GoodIn wsX4_shareAir wsX4_isNoLift := goodIn_r _ [6, 7, 8, 9, 5, 10, 16, 17, 18, 19, 20, 21, 22, 23, 24, 25, 26, 27, 28, 29, 30, 31, 32, 33, 34, 35, 36, 37, 38, 39, 40, 41, 42, 43] (by decide +kernel) (by decide +kernel)
set_option maxRecDepth 20000 in
theorem gX4_shareAir_X4_isNoLift : GoodIn wsX4_shareAir (wsV RX4 93 RX4 yX4_isNoLift wsX4_isNoLift) := goodIn_app (goodIn_of _ (by decide +kernel)) ggX4_shareAir_X4_isNoLift
set_option maxRecDepth 20000 in
theorem ggX4_shareAir_X4_fails : GoodIn wsX4_shareAir wsX4_fails := goodIn_r _ [14, 15, 16, 17, 18, 19, 20, 21, 22, 23, 24, 25, 26, 27, 28, 29, 30, 31, 32, 33, 34, 35, 36, 37, 38, 39, 40, 41, 42, 43] (by decide +kernel) (by decide +kernel)
set_option maxRecDepth 20000 in
theorem gX4_shareAir_X4_fails : GoodIn wsX4_shareAir (wsV RX4 97 RX4 yX4_fails wsX4_fails) := goodIn_app (goodIn_of _ (by decide +kernel)) ggX4_shareAir_X4_fails
theorem dX4_shareAir_0 : decode cX4_shareAir 0 = .ok (.aload_n 0, 1) := by decide +kernel
theorem dX4_shareAir_1 : decode cX4_shareAir 1 = .ok (.aload_n 0, 1) := by decide +kernel
theorem dX4_shareAir_2 : decode cX4_shareAir 2 = .ok (.iload_n 1, 1) := by decide +kernel
theorem dX4_shareAir_3 : decode cX4_shareAir 3 = .ok (.invokevirtual 93, 3) := by decide +kernel
theorem dX4_shareAir_6 : decode cX4_shareAir 6 = .ok (.ifCond .ne 11, 3) := by decide +kernel
theorem dX4_shareAir_9 : decode cX4_shareAir 9 = .ok (.aload_n 0, 1) := by decide +kernel
theorem dX4_shareAir_10 : decode cX4_shareAir 10 = .ok (.iload_n 2, 1) := by decide +kernel
theorem dX4_shareAir_11 : decode cX4_shareAir 11 = .ok (.invokevirtual 93, 3) := by decide +kernel
theorem dX4_shareAir_14 : decode cX4_shareAir 14 = .ok (.ifCond .eq 7, 3) := by decide +kernel
theorem dX4_shareAir_17 : decode cX4_shareAir 17 = .ok (.iconst 1, 1) := by decide +kernel
theorem dX4_shareAir_18 : decode cX4_shareAir 18 = .ok (.goto 4, 3) := by decide +kernel
theorem dX4_shareAir_21 : decode cX4_shareAir 21 = .ok (.iconst 0, 1) := by decide +kernel
theorem dX4_shareAir_22 : decode cX4_shareAir 22 = .ok (.invokevirtual 97, 3) := by decide +kernel
theorem dX4_shareAir_25 : decode cX4_shareAir 25 = .ok (.ifCond .ne 25, 3) := by decide +kernel
theorem dX4_shareAir_28 : decode cX4_shareAir 28 = .ok (.aload_n 0, 1) := by decide +kernel
theorem dX4_shareAir_29 : decode cX4_shareAir 29 = .ok (.getfield 60, 3) := by decide +kernel
theorem dX4_shareAir_32 : decode cX4_shareAir 32 = .ok (.iload_n 1, 1) := by decide +kernel
theorem dX4_shareAir_33 : decode cX4_shareAir 33 = .ok (.laload, 1) := by decide +kernel
theorem dX4_shareAir_34 : decode cX4_shareAir 34 = .ok (.aload_n 0, 1) := by decide +kernel
theorem dX4_shareAir_35 : decode cX4_shareAir 35 = .ok (.getfield 60, 3) := by decide +kernel
theorem dX4_shareAir_38 : decode cX4_shareAir 38 = .ok (.iload_n 2, 1) := by decide +kernel
theorem dX4_shareAir_39 : decode cX4_shareAir 39 = .ok (.laload, 1) := by decide +kernel
theorem dX4_shareAir_40 : decode cX4_shareAir 40 = .ok (.land, 1) := by decide +kernel
theorem dX4_shareAir_41 : decode cX4_shareAir 41 = .ok (.lconst 0, 1) := by decide +kernel
theorem dX4_shareAir_42 : decode cX4_shareAir 42 = .ok (.lcmp, 1) := by decide +kernel
theorem dX4_shareAir_43 : decode cX4_shareAir 43 = .ok (.ifCond .eq 7, 3) := by decide +kernel
theorem dX4_shareAir_46 : decode cX4_shareAir 46 = .ok (.iconst 1, 1) := by decide +kernel
theorem dX4_shareAir_47 : decode cX4_shareAir 47 = .ok (.goto 4, 3) := by decide +kernel
theorem dX4_shareAir_50 : decode cX4_shareAir 50 = .ok (.iconst 0, 1) := by decide +kernel
theorem dX4_shareAir_51 : decode cX4_shareAir 51 = .ok (.ireturn, 1) := by decide +kernel
set_option maxRecDepth 20000 in
theorem ggX4_at_X4_isIn : GoodIn wsX4_at wsX4_isIn := goodIn_r _ [7, 8, 9, 10, 11, 12, 13, 14, 15, 16, 17, 18, 19, 20, 21, 22, 23, 24, 25, 26, 27, 28, 29, 30, 31, 32, 33, 34, 35, 36, 37, 38] (by decide +kernel) (by decide +kernel)
set_option maxRecDepth 20000 in
theorem gX4_at_X4_isIn : GoodIn wsX4_at (wsV RX4 161 RX4 yX4_isIn wsX4_isIn) := goodIn_app (goodIn_of _ (by decide +kernel)) ggX4_at_X4_isIn
theorem dX4_at_0 : decode cX4_at 0 = .ok (.iconst 0, 1) := by decide +kernel
theorem dX4_at_1 : decode cX4_at 1 = .ok (.istore_n 3, 1) := by decide +kernel
theorem dX4_at_2 : decode cX4_at 2 = .ok (.iload_n 3, 1) := by decide +kernel
theorem dX4_at_3 : decode cX4_at 3 = .ok (.aload_n 0, 1) := by decide +kernel
theorem dX4_at_4 : decode cX4_at 4 = .ok (.getfield 90, 3) := by decide +kernel
theorem dX4_at_7 : decode cX4_at 7 = .ok (.if_icmp .ge 31, 3) := by decide +kernel
theorem dX4_at_10 : decode cX4_at 10 = .ok (.aload_n 0, 1) := by decide +kernel
theorem dX4_at_11 : decode cX4_at 11 = .ok (.iload_n 3, 1) := by decide +kernel
theorem dX4_at_12 : decode cX4_at 12 = .ok (.iload_n 2, 1) := by decide +kernel
theorem dX4_at_13 : decode cX4_at 13 = .ok (.iconst 1, 1) := by decide +kernel
theorem dX4_at_14 : decode cX4_at 14 = .ok (.invokevirtual 161, 3) := by decide +kernel
theorem dX4_at_17 : decode cX4_at 17 = .ok (.ifCond .eq 15, 3) := by decide +kernel
theorem dX4_at_20 : decode cX4_at 20 = .ok (.aload_n 0, 1) := by decide +kernel
theorem dX4_at_21 : decode cX4_at 21 = .ok (.getfield 51, 3) := by decide +kernel
theorem dX4_at_24 : decode cX4_at 24 = .ok (.iload_n 3, 1) := by decide +kernel
theorem dX4_at_25 : decode cX4_at 25 = .ok (.iaload, 1) := by decide +kernel
theorem dX4_at_26 : decode cX4_at 26 = .ok (.iload_n 1, 1) := by decide +kernel
theorem dX4_at_27 : decode cX4_at 27 = .ok (.if_icmp .ne 5, 3) := by decide +kernel
theorem dX4_at_30 : decode cX4_at 30 = .ok (.iload_n 3, 1) := by decide +kernel
theorem dX4_at_31 : decode cX4_at 31 = .ok (.ireturn, 1) := by decide +kernel
theorem dX4_at_32 : decode cX4_at 32 = .ok (.iinc 3 1, 3) := by decide +kernel
theorem dX4_at_35 : decode cX4_at 35 = .ok (.goto (-33), 3) := by decide +kernel
theorem dX4_at_38 : decode cX4_at 38 = .ok (.iconst (-1), 1) := by decide +kernel
theorem dX4_at_39 : decode cX4_at 39 = .ok (.ireturn, 1) := by decide +kernel
set_option maxRecDepth 20000 in
theorem ggX4_asked_X4_isNoCrane : GoodIn wsX4_asked wsX4_isNoCrane := goodIn_r _ [5, 6, 7, 8, 4, 9, 28, 29, 30, 31, 32, 33, 34, 35, 36, 37, 38, 39, 40, 41, 42, 43, 44, 45, 46, 47, 48, 49, 50, 51, 52, 53, 54, 55] (by decide +kernel) (by decide +kernel)
set_option maxRecDepth 20000 in
theorem gX4_asked_X4_isNoCrane : GoodIn wsX4_asked (wsV RX4 100 RX4 yX4_isNoCrane wsX4_isNoCrane) := goodIn_app (goodIn_of _ (by decide +kernel)) ggX4_asked_X4_isNoCrane
set_option maxRecDepth 20000 in
theorem ggX4_asked_X4_in : GoodIn wsX4_asked wsX4_in := goodIn_r _ [9] (by decide +kernel) (by decide +kernel)
set_option maxRecDepth 20000 in
theorem gX4_asked_X4_in : GoodIn wsX4_asked (va_wsS RX4 83 yX4_in wsX4_in) := goodIn_app (goodIn_of _ (by decide +kernel)) ggX4_asked_X4_in
set_option maxRecDepth 20000 in
theorem ggX4_asked_X4_fails : GoodIn wsX4_asked wsX4_fails := goodIn_r _ [13, 14, 28, 29, 30, 31, 32, 33, 34, 35, 36, 37, 38, 39, 40, 41, 42, 43, 44, 45, 46, 47, 48, 49, 50, 51, 52, 53, 54, 55] (by decide +kernel) (by decide +kernel)
set_option maxRecDepth 20000 in
theorem gX4_asked_X4_fails : GoodIn wsX4_asked (wsV RX4 97 RX4 yX4_fails wsX4_fails) := goodIn_app (goodIn_of _ (by decide +kernel)) ggX4_asked_X4_fails
set_option maxRecDepth 20000 in
theorem ggX4_asked_X4_at : GoodIn wsX4_asked wsX4_at := goodIn_r _ [18, 19, 20, 21, 22, 23, 4, 24, 25, 26, 27, 28, 29, 30, 31, 32, 33, 34, 35, 36, 37, 38, 39, 40, 41, 42, 43, 44, 45, 46, 47, 48, 49, 50, 51, 52, 53, 54, 55] (by decide +kernel) (by decide +kernel)
set_option maxRecDepth 20000 in
theorem gX4_asked_X4_at : GoodIn wsX4_asked (wsV RX4 213 RX4 yX4_at wsX4_at) := goodIn_app (goodIn_of _ (by decide +kernel)) ggX4_asked_X4_at
theorem dX4_asked_0 : decode cX4_asked 0 = .ok (.aload_n 0, 1) := by decide +kernel
theorem dX4_asked_1 : decode cX4_asked 1 = .ok (.aload_n 0, 1) := by decide +kernel
theorem dX4_asked_2 : decode cX4_asked 2 = .ok (.iload_n 1, 1) := by decide +kernel
theorem dX4_asked_3 : decode cX4_asked 3 = .ok (.invokevirtual 100, 3) := by decide +kernel
theorem dX4_asked_6 : decode cX4_asked 6 = .ok (.ifCond .eq 7, 3) := by decide +kernel
theorem dX4_asked_9 : decode cX4_asked 9 = .ok (.iconst 1, 1) := by decide +kernel
theorem dX4_asked_10 : decode cX4_asked 10 = .ok (.goto 19, 3) := by decide +kernel
theorem dX4_asked_13 : decode cX4_asked 13 = .ok (.iload_n 2, 1) := by decide +kernel
theorem dX4_asked_14 : decode cX4_asked 14 = .ok (.iconst 0, 1) := by decide +kernel
theorem dX4_asked_15 : decode cX4_asked 15 = .ok (.sipush 1439, 3) := by decide +kernel
theorem dX4_asked_18 : decode cX4_asked 18 = .ok (.invokestatic 83, 3) := by decide +kernel
theorem dX4_asked_21 : decode cX4_asked 21 = .ok (.ifCond .eq 7, 3) := by decide +kernel
theorem dX4_asked_24 : decode cX4_asked 24 = .ok (.iconst 0, 1) := by decide +kernel
theorem dX4_asked_25 : decode cX4_asked 25 = .ok (.goto 4, 3) := by decide +kernel
theorem dX4_asked_28 : decode cX4_asked 28 = .ok (.iconst 2, 1) := by decide +kernel
theorem dX4_asked_29 : decode cX4_asked 29 = .ok (.invokevirtual 97, 3) := by decide +kernel
theorem dX4_asked_32 : decode cX4_asked 32 = .ok (.ifCond .eq 7, 3) := by decide +kernel
theorem dX4_asked_35 : decode cX4_asked 35 = .ok (.iconst 0, 1) := by decide +kernel
theorem dX4_asked_36 : decode cX4_asked 36 = .ok (.goto 9, 3) := by decide +kernel
theorem dX4_asked_39 : decode cX4_asked 39 = .ok (.aload_n 0, 1) := by decide +kernel
theorem dX4_asked_40 : decode cX4_asked 40 = .ok (.iload_n 1, 1) := by decide +kernel
theorem dX4_asked_41 : decode cX4_asked 41 = .ok (.iload_n 2, 1) := by decide +kernel
theorem dX4_asked_42 : decode cX4_asked 42 = .ok (.invokevirtual 213, 3) := by decide +kernel
theorem dX4_asked_45 : decode cX4_asked 45 = .ok (.ireturn, 1) := by decide +kernel
set_option maxRecDepth 20000 in
theorem ggX4_liftAt_X4_asked : GoodIn wsX4_liftAt wsX4_asked := goodIn_r _ [5, 6, 7, 8, 4, 9, 10, 11, 12, 13, 14, 15, 16, 17, 18, 19, 20, 21, 22, 23, 24, 25, 26, 27, 28, 29, 30, 31, 32, 33, 34, 35, 36, 37, 38, 39, 40, 41, 42, 43, 44, 45, 46, 47, 48, 49, 50, 51, 52, 53, 54, 55, 56, 57, 58, 59] (by decide +kernel) (by decide +kernel)
set_option maxRecDepth 20000 in
theorem gX4_liftAt_X4_asked : GoodIn wsX4_liftAt (wsV RX4 216 RX4 yX4_asked wsX4_asked) := goodIn_app (goodIn_of _ (by decide +kernel)) ggX4_liftAt_X4_asked
theorem dX4_liftAt_0 : decode cX4_liftAt 0 = .ok (.aload_n 0, 1) := by decide +kernel
theorem dX4_liftAt_1 : decode cX4_liftAt 1 = .ok (.iload_n 1, 1) := by decide +kernel
theorem dX4_liftAt_2 : decode cX4_liftAt 2 = .ok (.iload_n 2, 1) := by decide +kernel
theorem dX4_liftAt_3 : decode cX4_liftAt 3 = .ok (.invokevirtual 216, 3) := by decide +kernel
theorem dX4_liftAt_6 : decode cX4_liftAt 6 = .ok (.ireturn, 1) := by decide +kernel
set_option maxRecDepth 20000 in
theorem ggX4_liftByMinutes_X4_asked : GoodIn wsX4_liftByMinutes wsX4_asked := goodIn_r _ [5, 6, 7, 8, 4, 9, 10, 11, 12, 13, 14, 15, 16, 17, 18, 19, 20, 21, 22, 23, 24, 25, 26, 27, 28, 29, 30, 31, 32, 33, 34, 35, 36, 37, 38, 39, 40, 41, 42, 43, 44, 45, 46, 47, 48, 49, 50, 51, 52, 53, 54, 55, 56, 57, 58, 59] (by decide +kernel) (by decide +kernel)
set_option maxRecDepth 20000 in
theorem gX4_liftByMinutes_X4_asked : GoodIn wsX4_liftByMinutes (wsV RX4 216 RX4 yX4_asked wsX4_asked) := goodIn_app (goodIn_of _ (by decide +kernel)) ggX4_liftByMinutes_X4_asked
theorem dX4_liftByMinutes_0 : decode cX4_liftByMinutes 0 = .ok (.aload_n 0, 1) := by decide +kernel
theorem dX4_liftByMinutes_1 : decode cX4_liftByMinutes 1 = .ok (.iload_n 1, 1) := by decide +kernel
theorem dX4_liftByMinutes_2 : decode cX4_liftByMinutes 2 = .ok (.iload_n 2, 1) := by decide +kernel
theorem dX4_liftByMinutes_3 : decode cX4_liftByMinutes 3 = .ok (.invokevirtual 216, 3) := by decide +kernel
theorem dX4_liftByMinutes_6 : decode cX4_liftByMinutes 6 = .ok (.ireturn, 1) := by decide +kernel
set_option maxRecDepth 20000 in
theorem ggX4_permittedMinutes_X4_at : GoodIn wsX4_permittedMinutes wsX4_at := goodIn_r _ [6, 7, 8, 9, 10, 11, 5, 12, 13, 14, 15, 16, 17, 18, 19, 20, 21, 22, 23, 24, 25, 26, 27, 28, 29, 30, 31, 32, 33, 34, 35, 36, 37, 38, 39, 40, 41, 42, 43] (by decide +kernel) (by decide +kernel)
set_option maxRecDepth 20000 in
theorem gX4_permittedMinutes_X4_at : GoodIn wsX4_permittedMinutes (wsV RX4 213 RX4 yX4_at wsX4_at) := goodIn_app (goodIn_of _ (by decide +kernel)) ggX4_permittedMinutes_X4_at
theorem dX4_permittedMinutes_0 : decode cX4_permittedMinutes 0 = .ok (.iconst 0, 1) := by decide +kernel
theorem dX4_permittedMinutes_1 : decode cX4_permittedMinutes 1 = .ok (.istore_n 3, 1) := by decide +kernel
theorem dX4_permittedMinutes_2 : decode cX4_permittedMinutes 2 = .ok (.iconst 0, 1) := by decide +kernel
theorem dX4_permittedMinutes_3 : decode cX4_permittedMinutes 3 = .ok (.istore 4, 2) := by decide +kernel
theorem dX4_permittedMinutes_5 : decode cX4_permittedMinutes 5 = .ok (.iload 4, 2) := by decide +kernel
theorem dX4_permittedMinutes_7 : decode cX4_permittedMinutes 7 = .ok (.sipush 1440, 3) := by decide +kernel
theorem dX4_permittedMinutes_10 : decode cX4_permittedMinutes 10 = .ok (.if_icmp .ge 54, 3) := by decide +kernel
theorem dX4_permittedMinutes_13 : decode cX4_permittedMinutes 13 = .ok (.iload_n 3, 1) := by decide +kernel
theorem dX4_permittedMinutes_14 : decode cX4_permittedMinutes 14 = .ok (.aload_n 0, 1) := by decide +kernel
theorem dX4_permittedMinutes_15 : decode cX4_permittedMinutes 15 = .ok (.getfield 25, 3) := by decide +kernel
theorem dX4_permittedMinutes_18 : decode cX4_permittedMinutes 18 = .ok (.bipush 24, 2) := by decide +kernel
theorem dX4_permittedMinutes_20 : decode cX4_permittedMinutes 20 = .ok (.iload_n 1, 1) := by decide +kernel
theorem dX4_permittedMinutes_21 : decode cX4_permittedMinutes 21 = .ok (.imul, 1) := by decide +kernel
theorem dX4_permittedMinutes_22 : decode cX4_permittedMinutes 22 = .ok (.iload 4, 2) := by decide +kernel
theorem dX4_permittedMinutes_24 : decode cX4_permittedMinutes 24 = .ok (.bipush 60, 2) := by decide +kernel
theorem dX4_permittedMinutes_26 : decode cX4_permittedMinutes 26 = .ok (.idiv, 1) := by decide +kernel
theorem dX4_permittedMinutes_27 : decode cX4_permittedMinutes 27 = .ok (.iadd, 1) := by decide +kernel
theorem dX4_permittedMinutes_28 : decode cX4_permittedMinutes 28 = .ok (.baload, 1) := by decide +kernel
theorem dX4_permittedMinutes_29 : decode cX4_permittedMinutes 29 = .ok (.ifCond .eq 26, 3) := by decide +kernel
theorem dX4_permittedMinutes_32 : decode cX4_permittedMinutes 32 = .ok (.aload_n 0, 1) := by decide +kernel
theorem dX4_permittedMinutes_33 : decode cX4_permittedMinutes 33 = .ok (.iload_n 1, 1) := by decide +kernel
theorem dX4_permittedMinutes_34 : decode cX4_permittedMinutes 34 = .ok (.iload 4, 2) := by decide +kernel
theorem dX4_permittedMinutes_36 : decode cX4_permittedMinutes 36 = .ok (.invokevirtual 213, 3) := by decide +kernel
theorem dX4_permittedMinutes_39 : decode cX4_permittedMinutes 39 = .ok (.ifCond .lt 7, 3) := by decide +kernel
theorem dX4_permittedMinutes_42 : decode cX4_permittedMinutes 42 = .ok (.iconst 1, 1) := by decide +kernel
theorem dX4_permittedMinutes_43 : decode cX4_permittedMinutes 43 = .ok (.goto 4, 3) := by decide +kernel
theorem dX4_permittedMinutes_46 : decode cX4_permittedMinutes 46 = .ok (.iconst 0, 1) := by decide +kernel
theorem dX4_permittedMinutes_47 : decode cX4_permittedMinutes 47 = .ok (.iload_n 2, 1) := by decide +kernel
theorem dX4_permittedMinutes_48 : decode cX4_permittedMinutes 48 = .ok (.if_icmp .ne 7, 3) := by decide +kernel
theorem dX4_permittedMinutes_51 : decode cX4_permittedMinutes 51 = .ok (.iconst 1, 1) := by decide +kernel
theorem dX4_permittedMinutes_52 : decode cX4_permittedMinutes 52 = .ok (.goto 4, 3) := by decide +kernel
theorem dX4_permittedMinutes_55 : decode cX4_permittedMinutes 55 = .ok (.iconst 0, 1) := by decide +kernel
theorem dX4_permittedMinutes_56 : decode cX4_permittedMinutes 56 = .ok (.iadd, 1) := by decide +kernel
theorem dX4_permittedMinutes_57 : decode cX4_permittedMinutes 57 = .ok (.istore_n 3, 1) := by decide +kernel
theorem dX4_permittedMinutes_58 : decode cX4_permittedMinutes 58 = .ok (.iinc 4 1, 3) := by decide +kernel
theorem dX4_permittedMinutes_61 : decode cX4_permittedMinutes 61 = .ok (.goto (-56), 3) := by decide +kernel
theorem dX4_permittedMinutes_64 : decode cX4_permittedMinutes 64 = .ok (.iload_n 3, 1) := by decide +kernel
theorem dX4_permittedMinutes_65 : decode cX4_permittedMinutes 65 = .ok (.ireturn, 1) := by decide +kernel
set_option maxRecDepth 20000 in
theorem ggX4_freeMinutes_X4_isNobody : GoodIn wsX4_freeMinutes wsX4_isNobody := goodIn_r _ [5, 6, 7, 8, 4, 9, 10, 11, 12, 13, 14, 15, 16, 17, 18, 37, 38, 39, 40, 41, 42, 43, 44, 45, 46, 47, 48, 49, 50, 51, 52, 53, 54, 55, 56, 57, 58, 59, 60, 61, 62, 63, 64] (by decide +kernel) (by decide +kernel)
set_option maxRecDepth 20000 in
theorem gX4_freeMinutes_X4_isNobody : GoodIn wsX4_freeMinutes (wsV RX4 219 RX4 yX4_isNobody wsX4_isNobody) := goodIn_app (goodIn_of _ (by decide +kernel)) ggX4_freeMinutes_X4_isNobody
set_option maxRecDepth 20000 in
theorem ggX4_freeMinutes_X4_permittedMinutes : GoodIn wsX4_freeMinutes wsX4_permittedMinutes := goodIn_r _ [22, 23, 24, 25, 26, 4, 27, 28, 29, 30, 31, 32, 33, 34, 35, 36, 37, 38, 39, 40, 41, 42, 43, 44, 45, 46, 47, 48, 49, 50, 51, 52, 53, 54, 55, 56, 57, 58, 59, 60, 61, 62, 63, 64] (by decide +kernel) (by decide +kernel)
set_option maxRecDepth 20000 in
theorem gX4_freeMinutes_X4_permittedMinutes : GoodIn wsX4_freeMinutes (wsV RX4 222 RX4 yX4_permittedMinutes wsX4_permittedMinutes) := goodIn_app (goodIn_of _ (by decide +kernel)) ggX4_freeMinutes_X4_permittedMinutes
theorem dX4_freeMinutes_0 : decode cX4_freeMinutes 0 = .ok (.aload_n 0, 1) := by decide +kernel
theorem dX4_freeMinutes_1 : decode cX4_freeMinutes 1 = .ok (.iload_n 1, 1) := by decide +kernel
theorem dX4_freeMinutes_2 : decode cX4_freeMinutes 2 = .ok (.invokevirtual 219, 3) := by decide +kernel
theorem dX4_freeMinutes_5 : decode cX4_freeMinutes 5 = .ok (.ifCond .eq 7, 3) := by decide +kernel
theorem dX4_freeMinutes_8 : decode cX4_freeMinutes 8 = .ok (.iconst 0, 1) := by decide +kernel
theorem dX4_freeMinutes_9 : decode cX4_freeMinutes 9 = .ok (.goto 9, 3) := by decide +kernel
theorem dX4_freeMinutes_12 : decode cX4_freeMinutes 12 = .ok (.aload_n 0, 1) := by decide +kernel
theorem dX4_freeMinutes_13 : decode cX4_freeMinutes 13 = .ok (.iload_n 1, 1) := by decide +kernel
theorem dX4_freeMinutes_14 : decode cX4_freeMinutes 14 = .ok (.iconst 0, 1) := by decide +kernel
theorem dX4_freeMinutes_15 : decode cX4_freeMinutes 15 = .ok (.invokevirtual 222, 3) := by decide +kernel
theorem dX4_freeMinutes_18 : decode cX4_freeMinutes 18 = .ok (.ireturn, 1) := by decide +kernel
set_option maxRecDepth 20000 in
theorem ggX4_isNoMinute_X4_in : GoodIn wsX4_isNoMinute wsX4_in := goodIn_r _ [4] (by decide +kernel) (by decide +kernel)
set_option maxRecDepth 20000 in
theorem gX4_isNoMinute_X4_in : GoodIn wsX4_isNoMinute (va_wsS RX4 83 yX4_in wsX4_in) := goodIn_app (goodIn_of _ (by decide +kernel)) ggX4_isNoMinute_X4_in
set_option maxRecDepth 20000 in
theorem ggX4_isNoMinute_X4_fails : GoodIn wsX4_isNoMinute wsX4_fails := goodIn_r _ [8, 9, 10, 11, 12, 13, 14, 15, 16, 17, 18, 19, 20, 21, 22, 23, 24, 25, 26, 27, 28, 29, 30, 31, 32, 33, 34, 35, 36, 37] (by decide +kernel) (by decide +kernel)
set_option maxRecDepth 20000 in
theorem gX4_isNoMinute_X4_fails : GoodIn wsX4_isNoMinute (wsV RX4 97 RX4 yX4_fails wsX4_fails) := goodIn_app (goodIn_of _ (by decide +kernel)) ggX4_isNoMinute_X4_fails
theorem dX4_isNoMinute_0 : decode cX4_isNoMinute 0 = .ok (.aload_n 0, 1) := by decide +kernel
theorem dX4_isNoMinute_1 : decode cX4_isNoMinute 1 = .ok (.iload_n 1, 1) := by decide +kernel
theorem dX4_isNoMinute_2 : decode cX4_isNoMinute 2 = .ok (.iconst 0, 1) := by decide +kernel
theorem dX4_isNoMinute_3 : decode cX4_isNoMinute 3 = .ok (.sipush 1439, 3) := by decide +kernel
theorem dX4_isNoMinute_6 : decode cX4_isNoMinute 6 = .ok (.invokestatic 83, 3) := by decide +kernel
theorem dX4_isNoMinute_9 : decode cX4_isNoMinute 9 = .ok (.ifCond .eq 7, 3) := by decide +kernel
theorem dX4_isNoMinute_12 : decode cX4_isNoMinute 12 = .ok (.iconst 0, 1) := by decide +kernel
theorem dX4_isNoMinute_13 : decode cX4_isNoMinute 13 = .ok (.goto 4, 3) := by decide +kernel
theorem dX4_isNoMinute_16 : decode cX4_isNoMinute 16 = .ok (.iconst 1, 1) := by decide +kernel
theorem dX4_isNoMinute_17 : decode cX4_isNoMinute 17 = .ok (.invokevirtual 97, 3) := by decide +kernel
theorem dX4_isNoMinute_20 : decode cX4_isNoMinute 20 = .ok (.ireturn, 1) := by decide +kernel
set_option maxRecDepth 20000 in
theorem ggX4_atWork_X4_isNoMinute : GoodIn wsX4_atWork wsX4_isNoMinute := goodIn_r _ [6, 7, 8, 5, 9, 10, 11, 12, 13, 14, 28, 29, 30, 31, 32, 33, 34, 35, 36, 37, 38, 39, 40, 41, 42, 43, 44, 45, 46, 47, 48, 49, 50, 51, 52, 53, 54, 55] (by decide +kernel) (by decide +kernel)
set_option maxRecDepth 20000 in
theorem gX4_atWork_X4_isNoMinute : GoodIn wsX4_atWork (wsV RX4 226 RX4 yX4_isNoMinute wsX4_isNoMinute) := goodIn_app (goodIn_of _ (by decide +kernel)) ggX4_atWork_X4_isNoMinute
set_option maxRecDepth 20000 in
theorem ggX4_atWork_X4_at : GoodIn wsX4_atWork wsX4_at := goodIn_r _ [18, 19, 20, 21, 22, 23, 5, 24, 25, 26, 27, 28, 29, 30, 31, 32, 33, 34, 35, 36, 37, 38, 39, 40, 41, 42, 43, 44, 45, 46, 47, 48, 49, 50, 51, 52, 53, 54, 55] (by decide +kernel) (by decide +kernel)
set_option maxRecDepth 20000 in
theorem gX4_atWork_X4_at : GoodIn wsX4_atWork (wsV RX4 213 RX4 yX4_at wsX4_at) := goodIn_app (goodIn_of _ (by decide +kernel)) ggX4_atWork_X4_at
theorem dX4_atWork_0 : decode cX4_atWork 0 = .ok (.aload_n 0, 1) := by decide +kernel
theorem dX4_atWork_1 : decode cX4_atWork 1 = .ok (.iload_n 1, 1) := by decide +kernel
theorem dX4_atWork_2 : decode cX4_atWork 2 = .ok (.invokevirtual 226, 3) := by decide +kernel
theorem dX4_atWork_5 : decode cX4_atWork 5 = .ok (.ifCond .eq 5, 3) := by decide +kernel
theorem dX4_atWork_8 : decode cX4_atWork 8 = .ok (.iconst 0, 1) := by decide +kernel
theorem dX4_atWork_9 : decode cX4_atWork 9 = .ok (.ireturn, 1) := by decide +kernel
theorem dX4_atWork_10 : decode cX4_atWork 10 = .ok (.iconst 0, 1) := by decide +kernel
theorem dX4_atWork_11 : decode cX4_atWork 11 = .ok (.istore_n 2, 1) := by decide +kernel
theorem dX4_atWork_12 : decode cX4_atWork 12 = .ok (.iconst 0, 1) := by decide +kernel
theorem dX4_atWork_13 : decode cX4_atWork 13 = .ok (.istore_n 3, 1) := by decide +kernel
theorem dX4_atWork_14 : decode cX4_atWork 14 = .ok (.iload_n 3, 1) := by decide +kernel
theorem dX4_atWork_15 : decode cX4_atWork 15 = .ok (.aload_n 0, 1) := by decide +kernel
theorem dX4_atWork_16 : decode cX4_atWork 16 = .ok (.getfield 87, 3) := by decide +kernel
theorem dX4_atWork_19 : decode cX4_atWork 19 = .ok (.if_icmp .ge 26, 3) := by decide +kernel
theorem dX4_atWork_22 : decode cX4_atWork 22 = .ok (.iload_n 2, 1) := by decide +kernel
theorem dX4_atWork_23 : decode cX4_atWork 23 = .ok (.aload_n 0, 1) := by decide +kernel
theorem dX4_atWork_24 : decode cX4_atWork 24 = .ok (.iload_n 3, 1) := by decide +kernel
theorem dX4_atWork_25 : decode cX4_atWork 25 = .ok (.iload_n 1, 1) := by decide +kernel
theorem dX4_atWork_26 : decode cX4_atWork 26 = .ok (.invokevirtual 213, 3) := by decide +kernel
theorem dX4_atWork_29 : decode cX4_atWork 29 = .ok (.ifCond .lt 7, 3) := by decide +kernel
theorem dX4_atWork_32 : decode cX4_atWork 32 = .ok (.iconst 1, 1) := by decide +kernel
theorem dX4_atWork_33 : decode cX4_atWork 33 = .ok (.goto 4, 3) := by decide +kernel
theorem dX4_atWork_36 : decode cX4_atWork 36 = .ok (.iconst 0, 1) := by decide +kernel
theorem dX4_atWork_37 : decode cX4_atWork 37 = .ok (.iadd, 1) := by decide +kernel
theorem dX4_atWork_38 : decode cX4_atWork 38 = .ok (.istore_n 2, 1) := by decide +kernel
theorem dX4_atWork_39 : decode cX4_atWork 39 = .ok (.iinc 3 1, 3) := by decide +kernel
theorem dX4_atWork_42 : decode cX4_atWork 42 = .ok (.goto (-28), 3) := by decide +kernel
theorem dX4_atWork_45 : decode cX4_atWork 45 = .ok (.iload_n 2, 1) := by decide +kernel
theorem dX4_atWork_46 : decode cX4_atWork 46 = .ok (.ireturn, 1) := by decide +kernel
set_option maxRecDepth 20000 in
theorem ggX4_airIn_X4_at : GoodIn wsX4_airIn wsX4_at := goodIn_r _ [7, 8, 9, 10, 11, 12, 6, 13, 14, 15, 16, 17, 18, 19, 20, 21, 22, 23, 24, 25, 26, 27, 28, 29, 30, 31, 32, 33, 34, 35, 36, 37, 38, 39, 40, 41, 42, 43, 44] (by decide +kernel) (by decide +kernel)
set_option maxRecDepth 20000 in
theorem gX4_airIn_X4_at : GoodIn wsX4_airIn (wsV RX4 213 RX4 yX4_at wsX4_at) := goodIn_app (goodIn_of _ (by decide +kernel)) ggX4_airIn_X4_at
theorem dX4_airIn_0 : decode cX4_airIn 0 = .ok (.lconst 0, 1) := by decide +kernel
theorem dX4_airIn_1 : decode cX4_airIn 1 = .ok (.lstore_n 2, 1) := by decide +kernel
theorem dX4_airIn_2 : decode cX4_airIn 2 = .ok (.iconst 0, 1) := by decide +kernel
theorem dX4_airIn_3 : decode cX4_airIn 3 = .ok (.istore 4, 2) := by decide +kernel
theorem dX4_airIn_5 : decode cX4_airIn 5 = .ok (.iload 4, 2) := by decide +kernel
theorem dX4_airIn_7 : decode cX4_airIn 7 = .ok (.aload_n 0, 1) := by decide +kernel
theorem dX4_airIn_8 : decode cX4_airIn 8 = .ok (.getfield 87, 3) := by decide +kernel
theorem dX4_airIn_11 : decode cX4_airIn 11 = .ok (.if_icmp .ge 34, 3) := by decide +kernel
theorem dX4_airIn_14 : decode cX4_airIn 14 = .ok (.aload_n 0, 1) := by decide +kernel
theorem dX4_airIn_15 : decode cX4_airIn 15 = .ok (.iload 4, 2) := by decide +kernel
theorem dX4_airIn_17 : decode cX4_airIn 17 = .ok (.iload_n 1, 1) := by decide +kernel
theorem dX4_airIn_18 : decode cX4_airIn 18 = .ok (.invokevirtual 213, 3) := by decide +kernel
theorem dX4_airIn_21 : decode cX4_airIn 21 = .ok (.ifCond .lt 18, 3) := by decide +kernel
theorem dX4_airIn_24 : decode cX4_airIn 24 = .ok (.lload_n 2, 1) := by decide +kernel
theorem dX4_airIn_25 : decode cX4_airIn 25 = .ok (.aload_n 0, 1) := by decide +kernel
theorem dX4_airIn_26 : decode cX4_airIn 26 = .ok (.getfield 60, 3) := by decide +kernel
theorem dX4_airIn_29 : decode cX4_airIn 29 = .ok (.aload_n 0, 1) := by decide +kernel
theorem dX4_airIn_30 : decode cX4_airIn 30 = .ok (.iload 4, 2) := by decide +kernel
theorem dX4_airIn_32 : decode cX4_airIn 32 = .ok (.iload_n 1, 1) := by decide +kernel
theorem dX4_airIn_33 : decode cX4_airIn 33 = .ok (.invokevirtual 213, 3) := by decide +kernel
theorem dX4_airIn_36 : decode cX4_airIn 36 = .ok (.laload, 1) := by decide +kernel
theorem dX4_airIn_37 : decode cX4_airIn 37 = .ok (.lor, 1) := by decide +kernel
theorem dX4_airIn_38 : decode cX4_airIn 38 = .ok (.lstore_n 2, 1) := by decide +kernel
theorem dX4_airIn_39 : decode cX4_airIn 39 = .ok (.iinc 4 1, 3) := by decide +kernel
theorem dX4_airIn_42 : decode cX4_airIn 42 = .ok (.goto (-37), 3) := by decide +kernel
theorem dX4_airIn_45 : decode cX4_airIn 45 = .ok (.lload_n 2, 1) := by decide +kernel
theorem dX4_airIn_46 : decode cX4_airIn 46 = .ok (.lreturn, 1) := by decide +kernel
set_option maxRecDepth 20000 in
theorem ggX4_airAt_X4_isNoMinute : GoodIn wsX4_airAt wsX4_isNoMinute := goodIn_r _ [5, 6, 7, 4, 8, 9, 10, 11, 12, 13, 33, 34, 35, 36, 37, 38, 39, 40, 41, 42, 43, 44, 45, 46, 47, 48, 49, 50, 51, 52, 53, 54, 55, 56, 57, 58, 59, 60] (by decide +kernel) (by decide +kernel)
set_option maxRecDepth 20000 in
theorem gX4_airAt_X4_isNoMinute : GoodIn wsX4_airAt (wsV RX4 226 RX4 yX4_isNoMinute wsX4_isNoMinute) := goodIn_app (goodIn_of _ (by decide +kernel)) ggX4_airAt_X4_isNoMinute
set_option maxRecDepth 20000 in
theorem ggX4_airAt_X4_airIn : GoodIn wsX4_airAt wsX4_airIn := goodIn_r _ [17, 18, 19, 20, 21, 22, 4, 23, 24, 25, 26, 27, 28, 29, 30, 31, 32, 33, 34, 35, 36, 37, 38, 39, 40, 41, 42, 43, 44, 45, 46, 47, 48, 49, 50, 51, 52, 53, 54, 55, 56, 57, 58, 59, 60] (by decide +kernel) (by decide +kernel)
set_option maxRecDepth 20000 in
theorem gX4_airAt_X4_airIn : GoodIn wsX4_airAt (wsV RX4 229 RX4 yX4_airIn wsX4_airIn) := goodIn_app (goodIn_of _ (by decide +kernel)) ggX4_airAt_X4_airIn
theorem dX4_airAt_0 : decode cX4_airAt 0 = .ok (.aload_n 0, 1) := by decide +kernel
theorem dX4_airAt_1 : decode cX4_airAt 1 = .ok (.iload_n 1, 1) := by decide +kernel
theorem dX4_airAt_2 : decode cX4_airAt 2 = .ok (.invokevirtual 226, 3) := by decide +kernel
theorem dX4_airAt_5 : decode cX4_airAt 5 = .ok (.ifCond .eq 7, 3) := by decide +kernel
theorem dX4_airAt_8 : decode cX4_airAt 8 = .ok (.lconst 0, 1) := by decide +kernel
theorem dX4_airAt_9 : decode cX4_airAt 9 = .ok (.goto 8, 3) := by decide +kernel
theorem dX4_airAt_12 : decode cX4_airAt 12 = .ok (.aload_n 0, 1) := by decide +kernel
theorem dX4_airAt_13 : decode cX4_airAt 13 = .ok (.iload_n 1, 1) := by decide +kernel
theorem dX4_airAt_14 : decode cX4_airAt 14 = .ok (.invokevirtual 229, 3) := by decide +kernel
theorem dX4_airAt_17 : decode cX4_airAt 17 = .ok (.lreturn, 1) := by decide +kernel
set_option maxRecDepth 20000 in
theorem ggX4_squaresAt_X4_isNoMinute : GoodIn wsX4_squaresAt wsX4_isNoMinute := goodIn_r _ [5, 6, 7, 4, 8, 9, 10, 11, 12, 13, 33, 34, 35, 36, 37, 38, 39, 40, 41, 42, 43, 44, 45, 46, 47, 48, 49, 50, 51, 52, 53, 54, 55, 56, 57, 58, 59, 60] (by decide +kernel) (by decide +kernel)
set_option maxRecDepth 20000 in
theorem gX4_squaresAt_X4_isNoMinute : GoodIn wsX4_squaresAt (wsV RX4 226 RX4 yX4_isNoMinute wsX4_isNoMinute) := goodIn_app (goodIn_of _ (by decide +kernel)) ggX4_squaresAt_X4_isNoMinute
set_option maxRecDepth 20000 in
theorem ggX4_squaresAt_X4_airIn : GoodIn wsX4_squaresAt wsX4_airIn := goodIn_r _ [17, 18, 19, 20, 21, 22, 4, 23, 24, 25, 26, 27, 28, 29, 30, 31, 32, 33, 34, 35, 36, 37, 38, 39, 40, 41, 42, 43, 44, 45, 46, 47, 48, 49, 50, 51, 52, 53, 54, 55, 56, 57, 58, 59, 60] (by decide +kernel) (by decide +kernel)
set_option maxRecDepth 20000 in
theorem gX4_squaresAt_X4_airIn : GoodIn wsX4_squaresAt (wsV RX4 229 RX4 yX4_airIn wsX4_airIn) := goodIn_app (goodIn_of _ (by decide +kernel)) ggX4_squaresAt_X4_airIn
theorem dX4_squaresAt_0 : decode cX4_squaresAt 0 = .ok (.aload_n 0, 1) := by decide +kernel
theorem dX4_squaresAt_1 : decode cX4_squaresAt 1 = .ok (.iload_n 1, 1) := by decide +kernel
theorem dX4_squaresAt_2 : decode cX4_squaresAt 2 = .ok (.invokevirtual 226, 3) := by decide +kernel
theorem dX4_squaresAt_5 : decode cX4_squaresAt 5 = .ok (.ifCond .eq 5, 3) := by decide +kernel
theorem dX4_squaresAt_8 : decode cX4_squaresAt 8 = .ok (.iconst 0, 1) := by decide +kernel
theorem dX4_squaresAt_9 : decode cX4_squaresAt 9 = .ok (.ireturn, 1) := by decide +kernel
theorem dX4_squaresAt_10 : decode cX4_squaresAt 10 = .ok (.iconst 0, 1) := by decide +kernel
theorem dX4_squaresAt_11 : decode cX4_squaresAt 11 = .ok (.istore_n 2, 1) := by decide +kernel
theorem dX4_squaresAt_12 : decode cX4_squaresAt 12 = .ok (.iconst 0, 1) := by decide +kernel
theorem dX4_squaresAt_13 : decode cX4_squaresAt 13 = .ok (.istore_n 3, 1) := by decide +kernel
theorem dX4_squaresAt_14 : decode cX4_squaresAt 14 = .ok (.iload_n 3, 1) := by decide +kernel
theorem dX4_squaresAt_15 : decode cX4_squaresAt 15 = .ok (.bipush 64, 2) := by decide +kernel
theorem dX4_squaresAt_17 : decode cX4_squaresAt 17 = .ok (.if_icmp .ge 31, 3) := by decide +kernel
theorem dX4_squaresAt_20 : decode cX4_squaresAt 20 = .ok (.iload_n 2, 1) := by decide +kernel
theorem dX4_squaresAt_21 : decode cX4_squaresAt 21 = .ok (.aload_n 0, 1) := by decide +kernel
theorem dX4_squaresAt_22 : decode cX4_squaresAt 22 = .ok (.iload_n 1, 1) := by decide +kernel
theorem dX4_squaresAt_23 : decode cX4_squaresAt 23 = .ok (.invokevirtual 229, 3) := by decide +kernel
theorem dX4_squaresAt_26 : decode cX4_squaresAt 26 = .ok (.iload_n 3, 1) := by decide +kernel
theorem dX4_squaresAt_27 : decode cX4_squaresAt 27 = .ok (.lshr, 1) := by decide +kernel
theorem dX4_squaresAt_28 : decode cX4_squaresAt 28 = .ok (.lconst 1, 1) := by decide +kernel
theorem dX4_squaresAt_29 : decode cX4_squaresAt 29 = .ok (.land, 1) := by decide +kernel
theorem dX4_squaresAt_30 : decode cX4_squaresAt 30 = .ok (.lconst 1, 1) := by decide +kernel
theorem dX4_squaresAt_31 : decode cX4_squaresAt 31 = .ok (.lcmp, 1) := by decide +kernel
theorem dX4_squaresAt_32 : decode cX4_squaresAt 32 = .ok (.ifCond .ne 7, 3) := by decide +kernel
theorem dX4_squaresAt_35 : decode cX4_squaresAt 35 = .ok (.iconst 1, 1) := by decide +kernel
theorem dX4_squaresAt_36 : decode cX4_squaresAt 36 = .ok (.goto 4, 3) := by decide +kernel
theorem dX4_squaresAt_39 : decode cX4_squaresAt 39 = .ok (.iconst 0, 1) := by decide +kernel
theorem dX4_squaresAt_40 : decode cX4_squaresAt 40 = .ok (.iadd, 1) := by decide +kernel
theorem dX4_squaresAt_41 : decode cX4_squaresAt 41 = .ok (.istore_n 2, 1) := by decide +kernel
theorem dX4_squaresAt_42 : decode cX4_squaresAt 42 = .ok (.iinc 3 1, 3) := by decide +kernel
theorem dX4_squaresAt_45 : decode cX4_squaresAt 45 = .ok (.goto (-31), 3) := by decide +kernel
theorem dX4_squaresAt_48 : decode cX4_squaresAt 48 = .ok (.iload_n 2, 1) := by decide +kernel
theorem dX4_squaresAt_49 : decode cX4_squaresAt 49 = .ok (.ireturn, 1) := by decide +kernel
set_option maxRecDepth 20000 in
theorem ggX4_pours_X4_tells : GoodIn wsX4_pours wsX4_tells := goodIn_r _ [6, 7, 8, 9, 10, 11, 12, 13, 14, 15, 16, 17, 18, 19, 20, 21, 22, 23, 24, 25, 26, 27, 28, 29, 30, 31, 32, 33, 34, 35] (by decide +kernel) (by decide +kernel)
set_option maxRecDepth 20000 in
theorem gX4_pours_X4_tells : GoodIn wsX4_pours (wsV RX4 201 RX4 yX4_tells wsX4_tells) := goodIn_app (goodIn_of _ (by decide +kernel)) ggX4_pours_X4_tells
theorem dX4_pours_0 : decode cX4_pours 0 = .ok (.aload_n 0, 1) := by decide +kernel
theorem dX4_pours_1 : decode cX4_pours 1 = .ok (.aload_n 0, 1) := by decide +kernel
theorem dX4_pours_2 : decode cX4_pours 2 = .ok (.getfield 146, 3) := by decide +kernel
theorem dX4_pours_5 : decode cX4_pours 5 = .ok (.invokevirtual 201, 3) := by decide +kernel
theorem dX4_pours_8 : decode cX4_pours 8 = .ok (.ireturn, 1) := by decide +kernel
set_option maxRecDepth 20000 in
theorem ggX4_isNoPour_X4_in : GoodIn wsX4_isNoPour wsX4_in := goodIn_r _ [5] (by decide +kernel) (by decide +kernel)
set_option maxRecDepth 20000 in
theorem gX4_isNoPour_X4_in : GoodIn wsX4_isNoPour (va_wsS RX4 83 yX4_in wsX4_in) := goodIn_app (goodIn_of _ (by decide +kernel)) ggX4_isNoPour_X4_in
set_option maxRecDepth 20000 in
theorem ggX4_isNoPour_X4_fails : GoodIn wsX4_isNoPour wsX4_fails := goodIn_r _ [9, 10, 11, 12, 13, 14, 15, 16, 17, 18, 19, 20, 21, 22, 23, 24, 25, 26, 27, 28, 29, 30, 31, 32, 33, 34, 35, 36, 37, 38] (by decide +kernel) (by decide +kernel)
set_option maxRecDepth 20000 in
theorem gX4_isNoPour_X4_fails : GoodIn wsX4_isNoPour (wsV RX4 97 RX4 yX4_fails wsX4_fails) := goodIn_app (goodIn_of _ (by decide +kernel)) ggX4_isNoPour_X4_fails
theorem dX4_isNoPour_0 : decode cX4_isNoPour 0 = .ok (.aload_n 0, 1) := by decide +kernel
theorem dX4_isNoPour_1 : decode cX4_isNoPour 1 = .ok (.iload_n 1, 1) := by decide +kernel
theorem dX4_isNoPour_2 : decode cX4_isNoPour 2 = .ok (.iconst 0, 1) := by decide +kernel
theorem dX4_isNoPour_3 : decode cX4_isNoPour 3 = .ok (.aload_n 0, 1) := by decide +kernel
theorem dX4_isNoPour_4 : decode cX4_isNoPour 4 = .ok (.getfield 146, 3) := by decide +kernel
theorem dX4_isNoPour_7 : decode cX4_isNoPour 7 = .ok (.iconst 1, 1) := by decide +kernel
theorem dX4_isNoPour_8 : decode cX4_isNoPour 8 = .ok (.isub, 1) := by decide +kernel
theorem dX4_isNoPour_9 : decode cX4_isNoPour 9 = .ok (.invokestatic 83, 3) := by decide +kernel
theorem dX4_isNoPour_12 : decode cX4_isNoPour 12 = .ok (.ifCond .eq 7, 3) := by decide +kernel
theorem dX4_isNoPour_15 : decode cX4_isNoPour 15 = .ok (.iconst 0, 1) := by decide +kernel
theorem dX4_isNoPour_16 : decode cX4_isNoPour 16 = .ok (.goto 4, 3) := by decide +kernel
theorem dX4_isNoPour_19 : decode cX4_isNoPour 19 = .ok (.iconst 1, 1) := by decide +kernel
theorem dX4_isNoPour_20 : decode cX4_isNoPour 20 = .ok (.invokevirtual 97, 3) := by decide +kernel
theorem dX4_isNoPour_23 : decode cX4_isNoPour 23 = .ok (.ireturn, 1) := by decide +kernel
set_option maxRecDepth 20000 in
theorem ggX4_firstOf_X4_isNoPour : GoodIn wsX4_firstOf wsX4_isNoPour := goodIn_r _ [6, 7, 8, 9, 5, 10, 11, 12, 13, 14, 15, 16, 17, 18, 19, 20, 21, 22, 23, 24, 25, 26, 27, 28, 29, 30, 31, 32, 33, 34, 35, 36, 37, 38, 39, 40, 41, 42, 43] (by decide +kernel) (by decide +kernel)
set_option maxRecDepth 20000 in
theorem gX4_firstOf_X4_isNoPour : GoodIn wsX4_firstOf (wsV RX4 233 RX4 yX4_isNoPour wsX4_isNoPour) := goodIn_app (goodIn_of _ (by decide +kernel)) ggX4_firstOf_X4_isNoPour
theorem dX4_firstOf_0 : decode cX4_firstOf 0 = .ok (.aload_n 0, 1) := by decide +kernel
theorem dX4_firstOf_1 : decode cX4_firstOf 1 = .ok (.iload_n 1, 1) := by decide +kernel
theorem dX4_firstOf_2 : decode cX4_firstOf 2 = .ok (.invokevirtual 233, 3) := by decide +kernel
theorem dX4_firstOf_5 : decode cX4_firstOf 5 = .ok (.ifCond .eq 7, 3) := by decide +kernel
theorem dX4_firstOf_8 : decode cX4_firstOf 8 = .ok (.iconst 0, 1) := by decide +kernel
theorem dX4_firstOf_9 : decode cX4_firstOf 9 = .ok (.goto 9, 3) := by decide +kernel
theorem dX4_firstOf_12 : decode cX4_firstOf 12 = .ok (.aload_n 0, 1) := by decide +kernel
theorem dX4_firstOf_13 : decode cX4_firstOf 13 = .ok (.getfield 64, 3) := by decide +kernel
theorem dX4_firstOf_16 : decode cX4_firstOf 16 = .ok (.iload_n 1, 1) := by decide +kernel
theorem dX4_firstOf_17 : decode cX4_firstOf 17 = .ok (.iaload, 1) := by decide +kernel
theorem dX4_firstOf_18 : decode cX4_firstOf 18 = .ok (.ireturn, 1) := by decide +kernel
set_option maxRecDepth 20000 in
theorem ggX4_loadsOf_X4_isNoPour : GoodIn wsX4_loadsOf wsX4_isNoPour := goodIn_r _ [6, 7, 8, 9, 5, 10, 11, 12, 13, 14, 15, 16, 17, 18, 19, 20, 21, 22, 23, 24, 25, 26, 27, 28, 29, 30, 31, 32, 33, 34, 35, 36, 37, 38, 39, 40, 41, 42, 43] (by decide +kernel) (by decide +kernel)
set_option maxRecDepth 20000 in
theorem gX4_loadsOf_X4_isNoPour : GoodIn wsX4_loadsOf (wsV RX4 233 RX4 yX4_isNoPour wsX4_isNoPour) := goodIn_app (goodIn_of _ (by decide +kernel)) ggX4_loadsOf_X4_isNoPour
theorem dX4_loadsOf_0 : decode cX4_loadsOf 0 = .ok (.aload_n 0, 1) := by decide +kernel
theorem dX4_loadsOf_1 : decode cX4_loadsOf 1 = .ok (.iload_n 1, 1) := by decide +kernel
theorem dX4_loadsOf_2 : decode cX4_loadsOf 2 = .ok (.invokevirtual 233, 3) := by decide +kernel
theorem dX4_loadsOf_5 : decode cX4_loadsOf 5 = .ok (.ifCond .eq 7, 3) := by decide +kernel
theorem dX4_loadsOf_8 : decode cX4_loadsOf 8 = .ok (.iconst 0, 1) := by decide +kernel
theorem dX4_loadsOf_9 : decode cX4_loadsOf 9 = .ok (.goto 9, 3) := by decide +kernel
theorem dX4_loadsOf_12 : decode cX4_loadsOf 12 = .ok (.aload_n 0, 1) := by decide +kernel
theorem dX4_loadsOf_13 : decode cX4_loadsOf 13 = .ok (.getfield 67, 3) := by decide +kernel
theorem dX4_loadsOf_16 : decode cX4_loadsOf 16 = .ok (.iload_n 1, 1) := by decide +kernel
theorem dX4_loadsOf_17 : decode cX4_loadsOf 17 = .ok (.iaload, 1) := by decide +kernel
theorem dX4_loadsOf_18 : decode cX4_loadsOf 18 = .ok (.ireturn, 1) := by decide +kernel
theorem dX4_inState_0 : decode cX4_inState 0 = .ok (.iconst 0, 1) := by decide +kernel
theorem dX4_inState_1 : decode cX4_inState 1 = .ok (.istore_n 3, 1) := by decide +kernel
theorem dX4_inState_2 : decode cX4_inState 2 = .ok (.iconst 0, 1) := by decide +kernel
theorem dX4_inState_3 : decode cX4_inState 3 = .ok (.istore 4, 2) := by decide +kernel
theorem dX4_inState_5 : decode cX4_inState 5 = .ok (.iload 4, 2) := by decide +kernel
theorem dX4_inState_7 : decode cX4_inState 7 = .ok (.aload_n 0, 1) := by decide +kernel
theorem dX4_inState_8 : decode cX4_inState 8 = .ok (.getfield 67, 3) := by decide +kernel
theorem dX4_inState_11 : decode cX4_inState 11 = .ok (.iload_n 1, 1) := by decide +kernel
theorem dX4_inState_12 : decode cX4_inState 12 = .ok (.iaload, 1) := by decide +kernel
theorem dX4_inState_13 : decode cX4_inState 13 = .ok (.if_icmp .ge 35, 3) := by decide +kernel
theorem dX4_inState_16 : decode cX4_inState 16 = .ok (.iload_n 3, 1) := by decide +kernel
theorem dX4_inState_17 : decode cX4_inState 17 = .ok (.aload_n 0, 1) := by decide +kernel
theorem dX4_inState_18 : decode cX4_inState 18 = .ok (.getfield 47, 3) := by decide +kernel
theorem dX4_inState_21 : decode cX4_inState 21 = .ok (.aload_n 0, 1) := by decide +kernel
theorem dX4_inState_22 : decode cX4_inState 22 = .ok (.getfield 64, 3) := by decide +kernel
theorem dX4_inState_25 : decode cX4_inState 25 = .ok (.iload_n 1, 1) := by decide +kernel
theorem dX4_inState_26 : decode cX4_inState 26 = .ok (.iaload, 1) := by decide +kernel
theorem dX4_inState_27 : decode cX4_inState 27 = .ok (.iload 4, 2) := by decide +kernel
theorem dX4_inState_29 : decode cX4_inState 29 = .ok (.iadd, 1) := by decide +kernel
theorem dX4_inState_30 : decode cX4_inState 30 = .ok (.caload, 1) := by decide +kernel
theorem dX4_inState_31 : decode cX4_inState 31 = .ok (.iload_n 2, 1) := by decide +kernel
theorem dX4_inState_32 : decode cX4_inState 32 = .ok (.if_icmp .ne 7, 3) := by decide +kernel
theorem dX4_inState_35 : decode cX4_inState 35 = .ok (.iconst 1, 1) := by decide +kernel
theorem dX4_inState_36 : decode cX4_inState 36 = .ok (.goto 4, 3) := by decide +kernel
theorem dX4_inState_39 : decode cX4_inState 39 = .ok (.iconst 0, 1) := by decide +kernel
theorem dX4_inState_40 : decode cX4_inState 40 = .ok (.iadd, 1) := by decide +kernel
theorem dX4_inState_41 : decode cX4_inState 41 = .ok (.istore_n 3, 1) := by decide +kernel
theorem dX4_inState_42 : decode cX4_inState 42 = .ok (.iinc 4 1, 3) := by decide +kernel
theorem dX4_inState_45 : decode cX4_inState 45 = .ok (.goto (-40), 3) := by decide +kernel
theorem dX4_inState_48 : decode cX4_inState 48 = .ok (.iload_n 3, 1) := by decide +kernel
theorem dX4_inState_49 : decode cX4_inState 49 = .ok (.ireturn, 1) := by decide +kernel
set_option maxRecDepth 20000 in
theorem ggX4_longestWait_X4_isNoPour : GoodIn wsX4_longestWait wsX4_isNoPour := goodIn_r _ [9, 10, 11, 12, 8, 13, 14, 15, 16, 17, 18, 24, 25, 26, 27, 28, 29, 30, 31, 32, 33, 34, 35, 36, 37, 38, 39, 40, 41, 42, 43, 44, 45, 46, 47, 48, 49, 50, 51] (by decide +kernel) (by decide +kernel)
set_option maxRecDepth 20000 in
theorem gX4_longestWait_X4_isNoPour : GoodIn wsX4_longestWait (wsV RX4 233 RX4 yX4_isNoPour wsX4_isNoPour) := goodIn_app (goodIn_of _ (by decide +kernel)) ggX4_longestWait_X4_isNoPour
set_option maxRecDepth 20000 in
theorem ggX4_longestWait_X4_inState : GoodIn wsX4_longestWait wsX4_inState := goodIn_r _ [22, 2, 23, 1, 24, 25, 26, 27, 28, 29, 30, 31, 32, 33, 34, 35, 36, 37, 38, 39, 40, 41, 42, 43, 44, 45, 46, 47, 48, 49, 50, 51] (by decide +kernel) (by decide +kernel)
set_option maxRecDepth 20000 in
theorem gX4_longestWait_X4_inState : GoodIn wsX4_longestWait (wsV RX4 236 RX4 yX4_inState wsX4_inState) := goodIn_app (goodIn_of _ (by decide +kernel)) ggX4_longestWait_X4_inState
set_option maxRecDepth 20000 in
theorem ggX4_longestWait_X4_fails : GoodIn wsX4_longestWait wsX4_fails := goodIn_r _ [17, 18, 24, 25, 26, 27, 28, 29, 30, 31, 32, 33, 34, 35, 36, 37, 38, 39, 40, 41, 42, 43, 44, 45, 46, 47, 48, 49, 50, 51] (by decide +kernel) (by decide +kernel)
set_option maxRecDepth 20000 in
theorem gX4_longestWait_X4_fails : GoodIn wsX4_longestWait (wsV RX4 97 RX4 yX4_fails wsX4_fails) := goodIn_app (goodIn_of _ (by decide +kernel)) ggX4_longestWait_X4_fails
theorem dX4_longestWait_0 : decode cX4_longestWait 0 = .ok (.aload_n 0, 1) := by decide +kernel
theorem dX4_longestWait_1 : decode cX4_longestWait 1 = .ok (.iload_n 1, 1) := by decide +kernel
theorem dX4_longestWait_2 : decode cX4_longestWait 2 = .ok (.invokevirtual 233, 3) := by decide +kernel
theorem dX4_longestWait_5 : decode cX4_longestWait 5 = .ok (.ifCond .ne 25, 3) := by decide +kernel
theorem dX4_longestWait_8 : decode cX4_longestWait 8 = .ok (.aload_n 0, 1) := by decide +kernel
theorem dX4_longestWait_9 : decode cX4_longestWait 9 = .ok (.aload_n 0, 1) := by decide +kernel
theorem dX4_longestWait_10 : decode cX4_longestWait 10 = .ok (.iload_n 1, 1) := by decide +kernel
theorem dX4_longestWait_11 : decode cX4_longestWait 11 = .ok (.bipush 119, 2) := by decide +kernel
theorem dX4_longestWait_13 : decode cX4_longestWait 13 = .ok (.invokevirtual 236, 3) := by decide +kernel
theorem dX4_longestWait_16 : decode cX4_longestWait 16 = .ok (.ifCond .le 7, 3) := by decide +kernel
theorem dX4_longestWait_19 : decode cX4_longestWait 19 = .ok (.iconst 2, 1) := by decide +kernel
theorem dX4_longestWait_20 : decode cX4_longestWait 20 = .ok (.goto 4, 3) := by decide +kernel
theorem dX4_longestWait_23 : decode cX4_longestWait 23 = .ok (.iconst 0, 1) := by decide +kernel
theorem dX4_longestWait_24 : decode cX4_longestWait 24 = .ok (.invokevirtual 97, 3) := by decide +kernel
theorem dX4_longestWait_27 : decode cX4_longestWait 27 = .ok (.ifCond .eq 5, 3) := by decide +kernel
theorem dX4_longestWait_30 : decode cX4_longestWait 30 = .ok (.iconst 0, 1) := by decide +kernel
theorem dX4_longestWait_31 : decode cX4_longestWait 31 = .ok (.ireturn, 1) := by decide +kernel
theorem dX4_longestWait_32 : decode cX4_longestWait 32 = .ok (.iconst 0, 1) := by decide +kernel
theorem dX4_longestWait_33 : decode cX4_longestWait 33 = .ok (.istore_n 2, 1) := by decide +kernel
theorem dX4_longestWait_34 : decode cX4_longestWait 34 = .ok (.aload_n 0, 1) := by decide +kernel
theorem dX4_longestWait_35 : decode cX4_longestWait 35 = .ok (.getfield 64, 3) := by decide +kernel
theorem dX4_longestWait_38 : decode cX4_longestWait 38 = .ok (.iload_n 1, 1) := by decide +kernel
theorem dX4_longestWait_39 : decode cX4_longestWait 39 = .ok (.iaload, 1) := by decide +kernel
theorem dX4_longestWait_40 : decode cX4_longestWait 40 = .ok (.iconst 1, 1) := by decide +kernel
theorem dX4_longestWait_41 : decode cX4_longestWait 41 = .ok (.iadd, 1) := by decide +kernel
theorem dX4_longestWait_42 : decode cX4_longestWait 42 = .ok (.istore_n 3, 1) := by decide +kernel
theorem dX4_longestWait_43 : decode cX4_longestWait 43 = .ok (.iload_n 3, 1) := by decide +kernel
theorem dX4_longestWait_44 : decode cX4_longestWait 44 = .ok (.aload_n 0, 1) := by decide +kernel
theorem dX4_longestWait_45 : decode cX4_longestWait 45 = .ok (.getfield 64, 3) := by decide +kernel
theorem dX4_longestWait_48 : decode cX4_longestWait 48 = .ok (.iload_n 1, 1) := by decide +kernel
theorem dX4_longestWait_49 : decode cX4_longestWait 49 = .ok (.iaload, 1) := by decide +kernel
theorem dX4_longestWait_50 : decode cX4_longestWait 50 = .ok (.aload_n 0, 1) := by decide +kernel
theorem dX4_longestWait_51 : decode cX4_longestWait 51 = .ok (.getfield 67, 3) := by decide +kernel
theorem dX4_longestWait_54 : decode cX4_longestWait 54 = .ok (.iload_n 1, 1) := by decide +kernel
theorem dX4_longestWait_55 : decode cX4_longestWait 55 = .ok (.iaload, 1) := by decide +kernel
theorem dX4_longestWait_56 : decode cX4_longestWait 56 = .ok (.iadd, 1) := by decide +kernel
theorem dX4_longestWait_57 : decode cX4_longestWait 57 = .ok (.if_icmp .ge 48, 3) := by decide +kernel
theorem dX4_longestWait_60 : decode cX4_longestWait 60 = .ok (.aload_n 0, 1) := by decide +kernel
theorem dX4_longestWait_61 : decode cX4_longestWait 61 = .ok (.getfield 54, 3) := by decide +kernel
theorem dX4_longestWait_64 : decode cX4_longestWait 64 = .ok (.iload_n 3, 1) := by decide +kernel
theorem dX4_longestWait_65 : decode cX4_longestWait 65 = .ok (.iaload, 1) := by decide +kernel
theorem dX4_longestWait_66 : decode cX4_longestWait 66 = .ok (.aload_n 0, 1) := by decide +kernel
theorem dX4_longestWait_67 : decode cX4_longestWait 67 = .ok (.getfield 54, 3) := by decide +kernel
theorem dX4_longestWait_70 : decode cX4_longestWait 70 = .ok (.iload_n 3, 1) := by decide +kernel
theorem dX4_longestWait_71 : decode cX4_longestWait 71 = .ok (.iconst 1, 1) := by decide +kernel
theorem dX4_longestWait_72 : decode cX4_longestWait 72 = .ok (.isub, 1) := by decide +kernel
theorem dX4_longestWait_73 : decode cX4_longestWait 73 = .ok (.iaload, 1) := by decide +kernel
theorem dX4_longestWait_74 : decode cX4_longestWait 74 = .ok (.isub, 1) := by decide +kernel
theorem dX4_longestWait_75 : decode cX4_longestWait 75 = .ok (.aload_n 0, 1) := by decide +kernel
theorem dX4_longestWait_76 : decode cX4_longestWait 76 = .ok (.getfield 44, 3) := by decide +kernel
theorem dX4_longestWait_79 : decode cX4_longestWait 79 = .ok (.iload_n 3, 1) := by decide +kernel
theorem dX4_longestWait_80 : decode cX4_longestWait 80 = .ok (.iconst 1, 1) := by decide +kernel
theorem dX4_longestWait_81 : decode cX4_longestWait 81 = .ok (.isub, 1) := by decide +kernel
theorem dX4_longestWait_82 : decode cX4_longestWait 82 = .ok (.iaload, 1) := by decide +kernel
theorem dX4_longestWait_83 : decode cX4_longestWait 83 = .ok (.isub, 1) := by decide +kernel
theorem dX4_longestWait_84 : decode cX4_longestWait 84 = .ok (.istore 4, 2) := by decide +kernel
theorem dX4_longestWait_86 : decode cX4_longestWait 86 = .ok (.iload 4, 2) := by decide +kernel
theorem dX4_longestWait_88 : decode cX4_longestWait 88 = .ok (.iload_n 2, 1) := by decide +kernel
theorem dX4_longestWait_89 : decode cX4_longestWait 89 = .ok (.if_icmp .le 8, 3) := by decide +kernel
theorem dX4_longestWait_92 : decode cX4_longestWait 92 = .ok (.iload 4, 2) := by decide +kernel
theorem dX4_longestWait_94 : decode cX4_longestWait 94 = .ok (.goto 4, 3) := by decide +kernel
theorem dX4_longestWait_97 : decode cX4_longestWait 97 = .ok (.iload_n 2, 1) := by decide +kernel
theorem dX4_longestWait_98 : decode cX4_longestWait 98 = .ok (.istore_n 2, 1) := by decide +kernel
theorem dX4_longestWait_99 : decode cX4_longestWait 99 = .ok (.iinc 3 1, 3) := by decide +kernel
theorem dX4_longestWait_102 : decode cX4_longestWait 102 = .ok (.goto (-59), 3) := by decide +kernel
theorem dX4_longestWait_105 : decode cX4_longestWait 105 = .ok (.iload_n 2, 1) := by decide +kernel
theorem dX4_longestWait_106 : decode cX4_longestWait 106 = .ok (.ireturn, 1) := by decide +kernel
set_option maxRecDepth 20000 in
theorem ggX4_isBroken_X4_isNoPour : GoodIn wsX4_isBroken wsX4_isNoPour := goodIn_r _ [5, 6, 7, 8, 4, 9, 10, 11, 12, 13, 14, 22, 23, 24, 25, 26, 27, 28, 29, 30, 31, 32, 33, 34, 35, 36, 37, 38, 39, 40, 41, 42, 43, 44, 45, 46, 47, 48, 49] (by decide +kernel) (by decide +kernel)
set_option maxRecDepth 20000 in
theorem gX4_isBroken_X4_isNoPour : GoodIn wsX4_isBroken (wsV RX4 233 RX4 yX4_isNoPour wsX4_isNoPour) := goodIn_app (goodIn_of _ (by decide +kernel)) ggX4_isBroken_X4_isNoPour
set_option maxRecDepth 20000 in
theorem ggX4_isBroken_X4_inState : GoodIn wsX4_isBroken wsX4_inState := goodIn_r _ [18, 19, 20, 21, 22, 23, 24, 25, 26, 27, 28, 29, 30, 31, 32, 33, 34, 35, 36, 37, 38, 39, 40, 41, 42, 43, 44, 45, 46, 47, 48, 49] (by decide +kernel) (by decide +kernel)
set_option maxRecDepth 20000 in
theorem gX4_isBroken_X4_inState : GoodIn wsX4_isBroken (wsV RX4 236 RX4 yX4_inState wsX4_inState) := goodIn_app (goodIn_of _ (by decide +kernel)) ggX4_isBroken_X4_inState
theorem dX4_isBroken_0 : decode cX4_isBroken 0 = .ok (.aload_n 0, 1) := by decide +kernel
theorem dX4_isBroken_1 : decode cX4_isBroken 1 = .ok (.iload_n 1, 1) := by decide +kernel
theorem dX4_isBroken_2 : decode cX4_isBroken 2 = .ok (.invokevirtual 233, 3) := by decide +kernel
theorem dX4_isBroken_5 : decode cX4_isBroken 5 = .ok (.ifCond .ne 35, 3) := by decide +kernel
theorem dX4_isBroken_8 : decode cX4_isBroken 8 = .ok (.aload_n 0, 1) := by decide +kernel
theorem dX4_isBroken_9 : decode cX4_isBroken 9 = .ok (.iload_n 1, 1) := by decide +kernel
theorem dX4_isBroken_10 : decode cX4_isBroken 10 = .ok (.bipush 119, 2) := by decide +kernel
theorem dX4_isBroken_12 : decode cX4_isBroken 12 = .ok (.invokevirtual 236, 3) := by decide +kernel
theorem dX4_isBroken_15 : decode cX4_isBroken 15 = .ok (.ifCond .le 25, 3) := by decide +kernel
theorem dX4_isBroken_18 : decode cX4_isBroken 18 = .ok (.aload_n 0, 1) := by decide +kernel
theorem dX4_isBroken_19 : decode cX4_isBroken 19 = .ok (.iload_n 1, 1) := by decide +kernel
theorem dX4_isBroken_20 : decode cX4_isBroken 20 = .ok (.bipush 117, 2) := by decide +kernel
theorem dX4_isBroken_22 : decode cX4_isBroken 22 = .ok (.invokevirtual 236, 3) := by decide +kernel
theorem dX4_isBroken_25 : decode cX4_isBroken 25 = .ok (.aload_n 0, 1) := by decide +kernel
theorem dX4_isBroken_26 : decode cX4_isBroken 26 = .ok (.iload_n 1, 1) := by decide +kernel
theorem dX4_isBroken_27 : decode cX4_isBroken 27 = .ok (.bipush 100, 2) := by decide +kernel
theorem dX4_isBroken_29 : decode cX4_isBroken 29 = .ok (.invokevirtual 236, 3) := by decide +kernel
theorem dX4_isBroken_32 : decode cX4_isBroken 32 = .ok (.iadd, 1) := by decide +kernel
theorem dX4_isBroken_33 : decode cX4_isBroken 33 = .ok (.ifCond .le 7, 3) := by decide +kernel
theorem dX4_isBroken_36 : decode cX4_isBroken 36 = .ok (.iconst 1, 1) := by decide +kernel
theorem dX4_isBroken_37 : decode cX4_isBroken 37 = .ok (.goto 4, 3) := by decide +kernel
theorem dX4_isBroken_40 : decode cX4_isBroken 40 = .ok (.iconst 0, 1) := by decide +kernel
theorem dX4_isBroken_41 : decode cX4_isBroken 41 = .ok (.ireturn, 1) := by decide +kernel
theorem dX4_waiting_0 : decode cX4_waiting 0 = .ok (.aload_n 0, 1) := by decide +kernel
theorem dX4_waiting_1 : decode cX4_waiting 1 = .ok (.iconst 0, 1) := by decide +kernel
theorem dX4_waiting_2 : decode cX4_waiting 2 = .ok (.putfield 79, 3) := by decide +kernel
theorem dX4_waiting_5 : decode cX4_waiting 5 = .ok (.iconst 0, 1) := by decide +kernel
theorem dX4_waiting_6 : decode cX4_waiting 6 = .ok (.istore_n 1, 1) := by decide +kernel
theorem dX4_waiting_7 : decode cX4_waiting 7 = .ok (.iconst 0, 1) := by decide +kernel
theorem dX4_waiting_8 : decode cX4_waiting 8 = .ok (.istore_n 2, 1) := by decide +kernel
theorem dX4_waiting_9 : decode cX4_waiting 9 = .ok (.iload_n 2, 1) := by decide +kernel
theorem dX4_waiting_10 : decode cX4_waiting 10 = .ok (.aload_n 0, 1) := by decide +kernel
theorem dX4_waiting_11 : decode cX4_waiting 11 = .ok (.getfield 90, 3) := by decide +kernel
theorem dX4_waiting_14 : decode cX4_waiting 14 = .ok (.if_icmp .ge 28, 3) := by decide +kernel
theorem dX4_waiting_17 : decode cX4_waiting 17 = .ok (.iload_n 1, 1) := by decide +kernel
theorem dX4_waiting_18 : decode cX4_waiting 18 = .ok (.aload_n 0, 1) := by decide +kernel
theorem dX4_waiting_19 : decode cX4_waiting 19 = .ok (.getfield 47, 3) := by decide +kernel
theorem dX4_waiting_22 : decode cX4_waiting 22 = .ok (.iload_n 2, 1) := by decide +kernel
theorem dX4_waiting_23 : decode cX4_waiting 23 = .ok (.caload, 1) := by decide +kernel
theorem dX4_waiting_24 : decode cX4_waiting 24 = .ok (.bipush 119, 2) := by decide +kernel
theorem dX4_waiting_26 : decode cX4_waiting 26 = .ok (.if_icmp .ne 7, 3) := by decide +kernel
theorem dX4_waiting_29 : decode cX4_waiting 29 = .ok (.iconst 1, 1) := by decide +kernel
theorem dX4_waiting_30 : decode cX4_waiting 30 = .ok (.goto 4, 3) := by decide +kernel
theorem dX4_waiting_33 : decode cX4_waiting 33 = .ok (.iconst 0, 1) := by decide +kernel
theorem dX4_waiting_34 : decode cX4_waiting 34 = .ok (.iadd, 1) := by decide +kernel
theorem dX4_waiting_35 : decode cX4_waiting 35 = .ok (.istore_n 1, 1) := by decide +kernel
theorem dX4_waiting_36 : decode cX4_waiting 36 = .ok (.iinc 2 1, 3) := by decide +kernel
theorem dX4_waiting_39 : decode cX4_waiting 39 = .ok (.goto (-30), 3) := by decide +kernel
theorem dX4_waiting_42 : decode cX4_waiting 42 = .ok (.iload_n 1, 1) := by decide +kernel
theorem dX4_waiting_43 : decode cX4_waiting 43 = .ok (.ireturn, 1) := by decide +kernel
set_option maxRecDepth 20000 in
theorem ggX4_minutesOf_X4_isNobody : GoodIn wsX4_minutesOf wsX4_isNobody := goodIn_r _ [9, 10, 11, 12, 8, 13, 14, 15, 16, 17, 18, 19, 20, 21, 22, 23, 24, 25, 26, 27, 28, 29, 30, 31, 32, 33, 34, 35, 36, 37, 38, 39, 40, 41, 42, 43, 44, 45, 46, 47, 48, 49, 50] (by decide +kernel) (by decide +kernel)
set_option maxRecDepth 20000 in
theorem gX4_minutesOf_X4_isNobody : GoodIn wsX4_minutesOf (wsV RX4 219 RX4 yX4_isNobody wsX4_isNobody) := goodIn_app (goodIn_of _ (by decide +kernel)) ggX4_minutesOf_X4_isNobody
theorem dX4_minutesOf_0 : decode cX4_minutesOf 0 = .ok (.aload_n 0, 1) := by decide +kernel
theorem dX4_minutesOf_1 : decode cX4_minutesOf 1 = .ok (.iload_n 1, 1) := by decide +kernel
theorem dX4_minutesOf_2 : decode cX4_minutesOf 2 = .ok (.invokevirtual 219, 3) := by decide +kernel
theorem dX4_minutesOf_5 : decode cX4_minutesOf 5 = .ok (.ifCond .eq 5, 3) := by decide +kernel
theorem dX4_minutesOf_8 : decode cX4_minutesOf 8 = .ok (.iconst 0, 1) := by decide +kernel
theorem dX4_minutesOf_9 : decode cX4_minutesOf 9 = .ok (.ireturn, 1) := by decide +kernel
theorem dX4_minutesOf_10 : decode cX4_minutesOf 10 = .ok (.iconst 0, 1) := by decide +kernel
theorem dX4_minutesOf_11 : decode cX4_minutesOf 11 = .ok (.istore_n 2, 1) := by decide +kernel
theorem dX4_minutesOf_12 : decode cX4_minutesOf 12 = .ok (.iconst 0, 1) := by decide +kernel
theorem dX4_minutesOf_13 : decode cX4_minutesOf 13 = .ok (.istore_n 3, 1) := by decide +kernel
theorem dX4_minutesOf_14 : decode cX4_minutesOf 14 = .ok (.iload_n 3, 1) := by decide +kernel
theorem dX4_minutesOf_15 : decode cX4_minutesOf 15 = .ok (.aload_n 0, 1) := by decide +kernel
theorem dX4_minutesOf_16 : decode cX4_minutesOf 16 = .ok (.getfield 90, 3) := by decide +kernel
theorem dX4_minutesOf_19 : decode cX4_minutesOf 19 = .ok (.if_icmp .ge 43, 3) := by decide +kernel
theorem dX4_minutesOf_22 : decode cX4_minutesOf 22 = .ok (.iload_n 2, 1) := by decide +kernel
theorem dX4_minutesOf_23 : decode cX4_minutesOf 23 = .ok (.aload_n 0, 1) := by decide +kernel
theorem dX4_minutesOf_24 : decode cX4_minutesOf 24 = .ok (.getfield 47, 3) := by decide +kernel
theorem dX4_minutesOf_27 : decode cX4_minutesOf 27 = .ok (.iload_n 3, 1) := by decide +kernel
theorem dX4_minutesOf_28 : decode cX4_minutesOf 28 = .ok (.caload, 1) := by decide +kernel
theorem dX4_minutesOf_29 : decode cX4_minutesOf 29 = .ok (.bipush 119, 2) := by decide +kernel
theorem dX4_minutesOf_31 : decode cX4_minutesOf 31 = .ok (.if_icmp .eq 22, 3) := by decide +kernel
theorem dX4_minutesOf_34 : decode cX4_minutesOf 34 = .ok (.aload_n 0, 1) := by decide +kernel
theorem dX4_minutesOf_35 : decode cX4_minutesOf 35 = .ok (.getfield 51, 3) := by decide +kernel
theorem dX4_minutesOf_38 : decode cX4_minutesOf 38 = .ok (.iload_n 3, 1) := by decide +kernel
theorem dX4_minutesOf_39 : decode cX4_minutesOf 39 = .ok (.iaload, 1) := by decide +kernel
theorem dX4_minutesOf_40 : decode cX4_minutesOf 40 = .ok (.iload_n 1, 1) := by decide +kernel
theorem dX4_minutesOf_41 : decode cX4_minutesOf 41 = .ok (.if_icmp .ne 12, 3) := by decide +kernel
theorem dX4_minutesOf_44 : decode cX4_minutesOf 44 = .ok (.aload_n 0, 1) := by decide +kernel
theorem dX4_minutesOf_45 : decode cX4_minutesOf 45 = .ok (.getfield 44, 3) := by decide +kernel
theorem dX4_minutesOf_48 : decode cX4_minutesOf 48 = .ok (.iload_n 3, 1) := by decide +kernel
theorem dX4_minutesOf_49 : decode cX4_minutesOf 49 = .ok (.iaload, 1) := by decide +kernel
theorem dX4_minutesOf_50 : decode cX4_minutesOf 50 = .ok (.goto 4, 3) := by decide +kernel
theorem dX4_minutesOf_53 : decode cX4_minutesOf 53 = .ok (.iconst 0, 1) := by decide +kernel
theorem dX4_minutesOf_54 : decode cX4_minutesOf 54 = .ok (.iadd, 1) := by decide +kernel
theorem dX4_minutesOf_55 : decode cX4_minutesOf 55 = .ok (.istore_n 2, 1) := by decide +kernel
theorem dX4_minutesOf_56 : decode cX4_minutesOf 56 = .ok (.iinc 3 1, 3) := by decide +kernel
theorem dX4_minutesOf_59 : decode cX4_minutesOf 59 = .ok (.goto (-45), 3) := by decide +kernel
theorem dX4_minutesOf_62 : decode cX4_minutesOf 62 = .ok (.iload_n 2, 1) := by decide +kernel
theorem dX4_minutesOf_63 : decode cX4_minutesOf 63 = .ok (.ireturn, 1) := by decide +kernel
theorem dX4_lifted_0 : decode cX4_lifted 0 = .ok (.aload_n 0, 1) := by decide +kernel
theorem dX4_lifted_1 : decode cX4_lifted 1 = .ok (.iconst 0, 1) := by decide +kernel
theorem dX4_lifted_2 : decode cX4_lifted 2 = .ok (.putfield 79, 3) := by decide +kernel
theorem dX4_lifted_5 : decode cX4_lifted 5 = .ok (.lconst 0, 1) := by decide +kernel
theorem dX4_lifted_6 : decode cX4_lifted 6 = .ok (.lstore_n 1, 1) := by decide +kernel
theorem dX4_lifted_7 : decode cX4_lifted 7 = .ok (.iconst 0, 1) := by decide +kernel
theorem dX4_lifted_8 : decode cX4_lifted 8 = .ok (.istore_n 3, 1) := by decide +kernel
theorem dX4_lifted_9 : decode cX4_lifted 9 = .ok (.iload_n 3, 1) := by decide +kernel
theorem dX4_lifted_10 : decode cX4_lifted 10 = .ok (.aload_n 0, 1) := by decide +kernel
theorem dX4_lifted_11 : decode cX4_lifted 11 = .ok (.getfield 90, 3) := by decide +kernel
theorem dX4_lifted_14 : decode cX4_lifted 14 = .ok (.if_icmp .ge 34, 3) := by decide +kernel
theorem dX4_lifted_17 : decode cX4_lifted 17 = .ok (.lload_n 1, 1) := by decide +kernel
theorem dX4_lifted_18 : decode cX4_lifted 18 = .ok (.aload_n 0, 1) := by decide +kernel
theorem dX4_lifted_19 : decode cX4_lifted 19 = .ok (.getfield 47, 3) := by decide +kernel
theorem dX4_lifted_22 : decode cX4_lifted 22 = .ok (.iload_n 3, 1) := by decide +kernel
theorem dX4_lifted_23 : decode cX4_lifted 23 = .ok (.caload, 1) := by decide +kernel
theorem dX4_lifted_24 : decode cX4_lifted 24 = .ok (.bipush 100, 2) := by decide +kernel
theorem dX4_lifted_26 : decode cX4_lifted 26 = .ok (.if_icmp .ne 13, 3) := by decide +kernel
theorem dX4_lifted_29 : decode cX4_lifted 29 = .ok (.aload_n 0, 1) := by decide +kernel
theorem dX4_lifted_30 : decode cX4_lifted 30 = .ok (.getfield 41, 3) := by decide +kernel
theorem dX4_lifted_33 : decode cX4_lifted 33 = .ok (.iload_n 3, 1) := by decide +kernel
theorem dX4_lifted_34 : decode cX4_lifted 34 = .ok (.iaload, 1) := by decide +kernel
theorem dX4_lifted_35 : decode cX4_lifted 35 = .ok (.i2l, 1) := by decide +kernel
theorem dX4_lifted_36 : decode cX4_lifted 36 = .ok (.goto 4, 3) := by decide +kernel
theorem dX4_lifted_39 : decode cX4_lifted 39 = .ok (.lconst 0, 1) := by decide +kernel
theorem dX4_lifted_40 : decode cX4_lifted 40 = .ok (.ladd, 1) := by decide +kernel
theorem dX4_lifted_41 : decode cX4_lifted 41 = .ok (.lstore_n 1, 1) := by decide +kernel
theorem dX4_lifted_42 : decode cX4_lifted 42 = .ok (.iinc 3 1, 3) := by decide +kernel
theorem dX4_lifted_45 : decode cX4_lifted 45 = .ok (.goto (-36), 3) := by decide +kernel
theorem dX4_lifted_48 : decode cX4_lifted 48 = .ok (.lload_n 1, 1) := by decide +kernel
theorem dX4_lifted_49 : decode cX4_lifted 49 = .ok (.lreturn, 1) := by decide +kernel
set_option maxRecDepth 20000 in
theorem ggX4_code_X4_isNobody : GoodIn wsX4_code wsX4_isNobody := goodIn_r _ [9, 10, 11, 12, 8, 13, 14, 15, 16, 17, 18, 19, 20, 21, 22, 23, 24, 25, 26, 27, 28, 29, 30, 31, 32, 33, 34, 35, 36, 37, 38, 39, 40, 41, 42, 43, 44, 45, 46, 47, 48, 49, 50] (by decide +kernel) (by decide +kernel)
set_option maxRecDepth 20000 in
theorem gX4_code_X4_isNobody : GoodIn wsX4_code (wsV RX4 219 RX4 yX4_isNobody wsX4_isNobody) := goodIn_app (goodIn_of _ (by decide +kernel)) ggX4_code_X4_isNobody
theorem dX4_code_0 : decode cX4_code 0 = .ok (.aload_n 0, 1) := by decide +kernel
theorem dX4_code_1 : decode cX4_code 1 = .ok (.iload_n 1, 1) := by decide +kernel
theorem dX4_code_2 : decode cX4_code 2 = .ok (.invokevirtual 219, 3) := by decide +kernel
theorem dX4_code_5 : decode cX4_code 5 = .ok (.ifCond .eq 7, 3) := by decide +kernel
theorem dX4_code_8 : decode cX4_code 8 = .ok (.iconst 0, 1) := by decide +kernel
theorem dX4_code_9 : decode cX4_code 9 = .ok (.goto 37, 3) := by decide +kernel
theorem dX4_code_12 : decode cX4_code 12 = .ok (.aload_n 0, 1) := by decide +kernel
theorem dX4_code_13 : decode cX4_code 13 = .ok (.getfield 7, 3) := by decide +kernel
theorem dX4_code_16 : decode cX4_code 16 = .ok (.iload_n 1, 1) := by decide +kernel
theorem dX4_code_17 : decode cX4_code 17 = .ok (.iaload, 1) := by decide +kernel
theorem dX4_code_18 : decode cX4_code 18 = .ok (.aload_n 0, 1) := by decide +kernel
theorem dX4_code_19 : decode cX4_code 19 = .ok (.getfield 13, 3) := by decide +kernel
theorem dX4_code_22 : decode cX4_code 22 = .ok (.iload_n 1, 1) := by decide +kernel
theorem dX4_code_23 : decode cX4_code 23 = .ok (.iaload, 1) := by decide +kernel
theorem dX4_code_24 : decode cX4_code 24 = .ok (.bipush 6, 2) := by decide +kernel
theorem dX4_code_26 : decode cX4_code 26 = .ok (.ishl, 1) := by decide +kernel
theorem dX4_code_27 : decode cX4_code 27 = .ok (.ior, 1) := by decide +kernel
theorem dX4_code_28 : decode cX4_code 28 = .ok (.aload_n 0, 1) := by decide +kernel
theorem dX4_code_29 : decode cX4_code 29 = .ok (.getfield 16, 3) := by decide +kernel
theorem dX4_code_32 : decode cX4_code 32 = .ok (.iload_n 1, 1) := by decide +kernel
theorem dX4_code_33 : decode cX4_code 33 = .ok (.iaload, 1) := by decide +kernel
theorem dX4_code_34 : decode cX4_code 34 = .ok (.bipush 12, 2) := by decide +kernel
theorem dX4_code_36 : decode cX4_code 36 = .ok (.ishl, 1) := by decide +kernel
theorem dX4_code_37 : decode cX4_code 37 = .ok (.ior, 1) := by decide +kernel
theorem dX4_code_38 : decode cX4_code 38 = .ok (.aload_n 0, 1) := by decide +kernel
theorem dX4_code_39 : decode cX4_code 39 = .ok (.getfield 118, 3) := by decide +kernel
theorem dX4_code_42 : decode cX4_code 42 = .ok (.bipush 18, 2) := by decide +kernel
theorem dX4_code_44 : decode cX4_code 44 = .ok (.ishl, 1) := by decide +kernel
theorem dX4_code_45 : decode cX4_code 45 = .ok (.ior, 1) := by decide +kernel
theorem dX4_code_46 : decode cX4_code 46 = .ok (.ireturn, 1) := by decide +kernel
set_option maxRecDepth 20000 in
theorem ggX4_workShare_X4_isNobody : GoodIn wsX4_workShare wsX4_isNobody := goodIn_r _ [5, 6, 7, 8, 4, 9, 10, 11, 12, 13, 14, 15, 16, 17, 18, 41, 42, 43, 44, 45, 46, 47, 48, 49, 50, 51, 52, 53, 54, 55, 56, 57, 58, 59, 60, 61, 62, 63, 64, 65, 66, 67, 68] (by decide +kernel) (by decide +kernel)
set_option maxRecDepth 20000 in
theorem gX4_workShare_X4_isNobody : GoodIn wsX4_workShare (wsV RX4 219 RX4 yX4_isNobody wsX4_isNobody) := goodIn_app (goodIn_of _ (by decide +kernel)) ggX4_workShare_X4_isNobody
set_option maxRecDepth 20000 in
theorem ggX4_workShare_X4_permitted : GoodIn wsX4_workShare wsX4_permitted := goodIn_r _ [22, 23, 41, 42, 43, 44, 45, 46, 47, 48, 49, 50, 51, 52, 53, 54, 55, 56, 57, 58, 59, 60, 61, 62, 63, 64, 65, 66, 67, 68] (by decide +kernel) (by decide +kernel)
set_option maxRecDepth 20000 in
theorem gX4_workShare_X4_permitted : GoodIn wsX4_workShare (wsV RX4 110 RX4 yX4_permitted wsX4_permitted) := goodIn_app (goodIn_of _ (by decide +kernel)) ggX4_workShare_X4_permitted
set_option maxRecDepth 20000 in
theorem ggX4_workShare_X4_fails : GoodIn wsX4_workShare wsX4_fails := goodIn_r _ [17, 18, 41, 42, 43, 44, 45, 46, 47, 48, 49, 50, 51, 52, 53, 54, 55, 56, 57, 58, 59, 60, 61, 62, 63, 64, 65, 66, 67, 68] (by decide +kernel) (by decide +kernel)
set_option maxRecDepth 20000 in
theorem gX4_workShare_X4_fails : GoodIn wsX4_workShare (wsV RX4 97 RX4 yX4_fails wsX4_fails) := goodIn_app (goodIn_of _ (by decide +kernel)) ggX4_workShare_X4_fails
set_option maxRecDepth 20000 in
theorem ggX4_workShare_X4_permittedMinutes : GoodIn wsX4_workShare wsX4_permittedMinutes := goodIn_r _ [27, 23, 28, 29, 30, 4, 31, 32, 33, 34, 35, 36, 37, 38, 39, 40, 41, 42, 43, 44, 45, 46, 47, 48, 49, 50, 51, 52, 53, 54, 55, 56, 57, 58, 59, 60, 61, 62, 63, 64, 65, 66, 67, 68] (by decide +kernel) (by decide +kernel)
set_option maxRecDepth 20000 in
theorem gX4_workShare_X4_permittedMinutes : GoodIn wsX4_workShare (wsV RX4 222 RX4 yX4_permittedMinutes wsX4_permittedMinutes) := goodIn_app (goodIn_of _ (by decide +kernel)) ggX4_workShare_X4_permittedMinutes
theorem dX4_workShare_0 : decode cX4_workShare 0 = .ok (.aload_n 0, 1) := by decide +kernel
theorem dX4_workShare_1 : decode cX4_workShare 1 = .ok (.iload_n 1, 1) := by decide +kernel
theorem dX4_workShare_2 : decode cX4_workShare 2 = .ok (.invokevirtual 219, 3) := by decide +kernel
theorem dX4_workShare_5 : decode cX4_workShare 5 = .ok (.ifCond .ne 23, 3) := by decide +kernel
theorem dX4_workShare_8 : decode cX4_workShare 8 = .ok (.aload_n 0, 1) := by decide +kernel
theorem dX4_workShare_9 : decode cX4_workShare 9 = .ok (.aload_n 0, 1) := by decide +kernel
theorem dX4_workShare_10 : decode cX4_workShare 10 = .ok (.iload_n 1, 1) := by decide +kernel
theorem dX4_workShare_11 : decode cX4_workShare 11 = .ok (.invokevirtual 110, 3) := by decide +kernel
theorem dX4_workShare_14 : decode cX4_workShare 14 = .ok (.ifCond .ne 7, 3) := by decide +kernel
theorem dX4_workShare_17 : decode cX4_workShare 17 = .ok (.iconst 2, 1) := by decide +kernel
theorem dX4_workShare_18 : decode cX4_workShare 18 = .ok (.goto 4, 3) := by decide +kernel
theorem dX4_workShare_21 : decode cX4_workShare 21 = .ok (.iconst 0, 1) := by decide +kernel
theorem dX4_workShare_22 : decode cX4_workShare 22 = .ok (.invokevirtual 97, 3) := by decide +kernel
theorem dX4_workShare_25 : decode cX4_workShare 25 = .ok (.ifCond .eq 5, 3) := by decide +kernel
theorem dX4_workShare_28 : decode cX4_workShare 28 = .ok (.fconst 0, 1) := by decide +kernel
theorem dX4_workShare_29 : decode cX4_workShare 29 = .ok (.freturn, 1) := by decide +kernel
theorem dX4_workShare_30 : decode cX4_workShare 30 = .ok (.aload_n 0, 1) := by decide +kernel
theorem dX4_workShare_31 : decode cX4_workShare 31 = .ok (.iload_n 1, 1) := by decide +kernel
theorem dX4_workShare_32 : decode cX4_workShare 32 = .ok (.iconst 1, 1) := by decide +kernel
theorem dX4_workShare_33 : decode cX4_workShare 33 = .ok (.invokevirtual 222, 3) := by decide +kernel
theorem dX4_workShare_36 : decode cX4_workShare 36 = .ok (.i2f, 1) := by decide +kernel
theorem dX4_workShare_37 : decode cX4_workShare 37 = .ok (.bipush 60, 2) := by decide +kernel
theorem dX4_workShare_39 : decode cX4_workShare 39 = .ok (.aload_n 0, 1) := by decide +kernel
theorem dX4_workShare_40 : decode cX4_workShare 40 = .ok (.iload_n 1, 1) := by decide +kernel
theorem dX4_workShare_41 : decode cX4_workShare 41 = .ok (.invokevirtual 110, 3) := by decide +kernel
theorem dX4_workShare_44 : decode cX4_workShare 44 = .ok (.imul, 1) := by decide +kernel
theorem dX4_workShare_45 : decode cX4_workShare 45 = .ok (.i2f, 1) := by decide +kernel
theorem dX4_workShare_46 : decode cX4_workShare 46 = .ok (.fdiv, 1) := by decide +kernel
theorem dX4_workShare_47 : decode cX4_workShare 47 = .ok (.freturn, 1) := by decide +kernel
set_option maxRecDepth 20000 in
theorem ggX4_meanStart_X4_fails : GoodIn wsX4_meanStart wsX4_fails := goodIn_r _ [8, 9, 10, 11, 12, 13, 14, 15, 16, 17, 18, 19, 20, 21, 22, 23, 24, 25, 26, 27, 28, 29, 30, 31, 32, 33, 34, 35, 36, 37] (by decide +kernel) (by decide +kernel)
set_option maxRecDepth 20000 in
theorem gX4_meanStart_X4_fails : GoodIn wsX4_meanStart (wsV RX4 97 RX4 yX4_fails wsX4_fails) := goodIn_app (goodIn_of _ (by decide +kernel)) ggX4_meanStart_X4_fails
theorem dX4_meanStart_0 : decode cX4_meanStart 0 = .ok (.iconst 0, 1) := by decide +kernel
theorem dX4_meanStart_1 : decode cX4_meanStart 1 = .ok (.istore_n 1, 1) := by decide +kernel
theorem dX4_meanStart_2 : decode cX4_meanStart 2 = .ok (.iconst 0, 1) := by decide +kernel
theorem dX4_meanStart_3 : decode cX4_meanStart 3 = .ok (.istore_n 2, 1) := by decide +kernel
theorem dX4_meanStart_4 : decode cX4_meanStart 4 = .ok (.iconst 0, 1) := by decide +kernel
theorem dX4_meanStart_5 : decode cX4_meanStart 5 = .ok (.istore_n 3, 1) := by decide +kernel
theorem dX4_meanStart_6 : decode cX4_meanStart 6 = .ok (.iload_n 3, 1) := by decide +kernel
theorem dX4_meanStart_7 : decode cX4_meanStart 7 = .ok (.aload_n 0, 1) := by decide +kernel
theorem dX4_meanStart_8 : decode cX4_meanStart 8 = .ok (.getfield 90, 3) := by decide +kernel
theorem dX4_meanStart_11 : decode cX4_meanStart 11 = .ok (.if_icmp .ge 35, 3) := by decide +kernel
theorem dX4_meanStart_14 : decode cX4_meanStart 14 = .ok (.aload_n 0, 1) := by decide +kernel
theorem dX4_meanStart_15 : decode cX4_meanStart 15 = .ok (.getfield 47, 3) := by decide +kernel
theorem dX4_meanStart_18 : decode cX4_meanStart 18 = .ok (.iload_n 3, 1) := by decide +kernel
theorem dX4_meanStart_19 : decode cX4_meanStart 19 = .ok (.caload, 1) := by decide +kernel
theorem dX4_meanStart_20 : decode cX4_meanStart 20 = .ok (.bipush 119, 2) := by decide +kernel
theorem dX4_meanStart_22 : decode cX4_meanStart 22 = .ok (.if_icmp .ne 6, 3) := by decide +kernel
theorem dX4_meanStart_25 : decode cX4_meanStart 25 = .ok (.goto 15, 3) := by decide +kernel
theorem dX4_meanStart_28 : decode cX4_meanStart 28 = .ok (.iload_n 1, 1) := by decide +kernel
theorem dX4_meanStart_29 : decode cX4_meanStart 29 = .ok (.aload_n 0, 1) := by decide +kernel
theorem dX4_meanStart_30 : decode cX4_meanStart 30 = .ok (.getfield 54, 3) := by decide +kernel
theorem dX4_meanStart_33 : decode cX4_meanStart 33 = .ok (.iload_n 3, 1) := by decide +kernel
theorem dX4_meanStart_34 : decode cX4_meanStart 34 = .ok (.iaload, 1) := by decide +kernel
theorem dX4_meanStart_35 : decode cX4_meanStart 35 = .ok (.iadd, 1) := by decide +kernel
theorem dX4_meanStart_36 : decode cX4_meanStart 36 = .ok (.istore_n 1, 1) := by decide +kernel
theorem dX4_meanStart_37 : decode cX4_meanStart 37 = .ok (.iinc 2 1, 3) := by decide +kernel
theorem dX4_meanStart_40 : decode cX4_meanStart 40 = .ok (.iinc 3 1, 3) := by decide +kernel
theorem dX4_meanStart_43 : decode cX4_meanStart 43 = .ok (.goto (-37), 3) := by decide +kernel
theorem dX4_meanStart_46 : decode cX4_meanStart 46 = .ok (.aload_n 0, 1) := by decide +kernel
theorem dX4_meanStart_47 : decode cX4_meanStart 47 = .ok (.iload_n 2, 1) := by decide +kernel
theorem dX4_meanStart_48 : decode cX4_meanStart 48 = .ok (.ifCond .ne 7, 3) := by decide +kernel
theorem dX4_meanStart_51 : decode cX4_meanStart 51 = .ok (.iconst 1, 1) := by decide +kernel
theorem dX4_meanStart_52 : decode cX4_meanStart 52 = .ok (.goto 4, 3) := by decide +kernel
theorem dX4_meanStart_55 : decode cX4_meanStart 55 = .ok (.iconst 0, 1) := by decide +kernel
theorem dX4_meanStart_56 : decode cX4_meanStart 56 = .ok (.invokevirtual 97, 3) := by decide +kernel
theorem dX4_meanStart_59 : decode cX4_meanStart 59 = .ok (.ifCond .eq 7, 3) := by decide +kernel
theorem dX4_meanStart_62 : decode cX4_meanStart 62 = .ok (.dconst 0, 1) := by decide +kernel
theorem dX4_meanStart_63 : decode cX4_meanStart 63 = .ok (.goto 8, 3) := by decide +kernel
theorem dX4_meanStart_66 : decode cX4_meanStart 66 = .ok (.iload_n 1, 1) := by decide +kernel
theorem dX4_meanStart_67 : decode cX4_meanStart 67 = .ok (.i2d, 1) := by decide +kernel
theorem dX4_meanStart_68 : decode cX4_meanStart 68 = .ok (.iload_n 2, 1) := by decide +kernel
theorem dX4_meanStart_69 : decode cX4_meanStart 69 = .ok (.i2d, 1) := by decide +kernel
theorem dX4_meanStart_70 : decode cX4_meanStart 70 = .ok (.ddiv, 1) := by decide +kernel
theorem dX4_meanStart_71 : decode cX4_meanStart 71 = .ok (.dreturn, 1) := by decide +kernel
theorem dJ6_bitCount_0f7a4_0 : decode cJ6_bitCount_0f7a4 0 = .ok (.iload_n 0, 1) := by decide +kernel
theorem dJ6_bitCount_0f7a4_1 : decode cJ6_bitCount_0f7a4 1 = .ok (.iload_n 0, 1) := by decide +kernel
theorem dJ6_bitCount_0f7a4_2 : decode cJ6_bitCount_0f7a4 2 = .ok (.iconst 1, 1) := by decide +kernel
theorem dJ6_bitCount_0f7a4_3 : decode cJ6_bitCount_0f7a4 3 = .ok (.iushr, 1) := by decide +kernel
theorem dJ6_bitCount_0f7a4_4 : decode cJ6_bitCount_0f7a4 4 = .ok (.ldc_w 265, 3) := by decide +kernel
theorem dJ6_bitCount_0f7a4_7 : decode cJ6_bitCount_0f7a4 7 = .ok (.iand, 1) := by decide +kernel
theorem dJ6_bitCount_0f7a4_8 : decode cJ6_bitCount_0f7a4 8 = .ok (.isub, 1) := by decide +kernel
theorem dJ6_bitCount_0f7a4_9 : decode cJ6_bitCount_0f7a4 9 = .ok (.istore_n 0, 1) := by decide +kernel
theorem dJ6_bitCount_0f7a4_10 : decode cJ6_bitCount_0f7a4 10 = .ok (.iload_n 0, 1) := by decide +kernel
theorem dJ6_bitCount_0f7a4_11 : decode cJ6_bitCount_0f7a4 11 = .ok (.ldc_w 266, 3) := by decide +kernel
theorem dJ6_bitCount_0f7a4_14 : decode cJ6_bitCount_0f7a4 14 = .ok (.iand, 1) := by decide +kernel
theorem dJ6_bitCount_0f7a4_15 : decode cJ6_bitCount_0f7a4 15 = .ok (.iload_n 0, 1) := by decide +kernel
theorem dJ6_bitCount_0f7a4_16 : decode cJ6_bitCount_0f7a4 16 = .ok (.iconst 2, 1) := by decide +kernel
theorem dJ6_bitCount_0f7a4_17 : decode cJ6_bitCount_0f7a4 17 = .ok (.iushr, 1) := by decide +kernel
theorem dJ6_bitCount_0f7a4_18 : decode cJ6_bitCount_0f7a4 18 = .ok (.ldc_w 266, 3) := by decide +kernel
theorem dJ6_bitCount_0f7a4_21 : decode cJ6_bitCount_0f7a4 21 = .ok (.iand, 1) := by decide +kernel
theorem dJ6_bitCount_0f7a4_22 : decode cJ6_bitCount_0f7a4 22 = .ok (.iadd, 1) := by decide +kernel
theorem dJ6_bitCount_0f7a4_23 : decode cJ6_bitCount_0f7a4 23 = .ok (.istore_n 0, 1) := by decide +kernel
theorem dJ6_bitCount_0f7a4_24 : decode cJ6_bitCount_0f7a4 24 = .ok (.iload_n 0, 1) := by decide +kernel
theorem dJ6_bitCount_0f7a4_25 : decode cJ6_bitCount_0f7a4 25 = .ok (.iload_n 0, 1) := by decide +kernel
theorem dJ6_bitCount_0f7a4_26 : decode cJ6_bitCount_0f7a4 26 = .ok (.iconst 4, 1) := by decide +kernel
theorem dJ6_bitCount_0f7a4_27 : decode cJ6_bitCount_0f7a4 27 = .ok (.iushr, 1) := by decide +kernel
theorem dJ6_bitCount_0f7a4_28 : decode cJ6_bitCount_0f7a4 28 = .ok (.iadd, 1) := by decide +kernel
theorem dJ6_bitCount_0f7a4_29 : decode cJ6_bitCount_0f7a4 29 = .ok (.ldc_w 267, 3) := by decide +kernel
theorem dJ6_bitCount_0f7a4_32 : decode cJ6_bitCount_0f7a4 32 = .ok (.iand, 1) := by decide +kernel
theorem dJ6_bitCount_0f7a4_33 : decode cJ6_bitCount_0f7a4 33 = .ok (.istore_n 0, 1) := by decide +kernel
theorem dJ6_bitCount_0f7a4_34 : decode cJ6_bitCount_0f7a4 34 = .ok (.iload_n 0, 1) := by decide +kernel
theorem dJ6_bitCount_0f7a4_35 : decode cJ6_bitCount_0f7a4 35 = .ok (.iload_n 0, 1) := by decide +kernel
theorem dJ6_bitCount_0f7a4_36 : decode cJ6_bitCount_0f7a4 36 = .ok (.bipush 8, 2) := by decide +kernel
theorem dJ6_bitCount_0f7a4_38 : decode cJ6_bitCount_0f7a4 38 = .ok (.iushr, 1) := by decide +kernel
theorem dJ6_bitCount_0f7a4_39 : decode cJ6_bitCount_0f7a4 39 = .ok (.iadd, 1) := by decide +kernel
theorem dJ6_bitCount_0f7a4_40 : decode cJ6_bitCount_0f7a4 40 = .ok (.istore_n 0, 1) := by decide +kernel
theorem dJ6_bitCount_0f7a4_41 : decode cJ6_bitCount_0f7a4 41 = .ok (.iload_n 0, 1) := by decide +kernel
theorem dJ6_bitCount_0f7a4_42 : decode cJ6_bitCount_0f7a4 42 = .ok (.iload_n 0, 1) := by decide +kernel
theorem dJ6_bitCount_0f7a4_43 : decode cJ6_bitCount_0f7a4 43 = .ok (.bipush 16, 2) := by decide +kernel
theorem dJ6_bitCount_0f7a4_45 : decode cJ6_bitCount_0f7a4 45 = .ok (.iushr, 1) := by decide +kernel
theorem dJ6_bitCount_0f7a4_46 : decode cJ6_bitCount_0f7a4 46 = .ok (.iadd, 1) := by decide +kernel
theorem dJ6_bitCount_0f7a4_47 : decode cJ6_bitCount_0f7a4 47 = .ok (.istore_n 0, 1) := by decide +kernel
theorem dJ6_bitCount_0f7a4_48 : decode cJ6_bitCount_0f7a4 48 = .ok (.iload_n 0, 1) := by decide +kernel
theorem dJ6_bitCount_0f7a4_49 : decode cJ6_bitCount_0f7a4 49 = .ok (.bipush 63, 2) := by decide +kernel
theorem dJ6_bitCount_0f7a4_51 : decode cJ6_bitCount_0f7a4 51 = .ok (.iand, 1) := by decide +kernel
theorem dJ6_bitCount_0f7a4_52 : decode cJ6_bitCount_0f7a4 52 = .ok (.ireturn, 1) := by decide +kernel
theorem dJ13_bitCount_95d88_0 : decode cJ13_bitCount_95d88 0 = .ok (.lload_n 0, 1) := by decide +kernel
theorem dJ13_bitCount_95d88_1 : decode cJ13_bitCount_95d88 1 = .ok (.lload_n 0, 1) := by decide +kernel
theorem dJ13_bitCount_95d88_2 : decode cJ13_bitCount_95d88 2 = .ok (.iconst 1, 1) := by decide +kernel
theorem dJ13_bitCount_95d88_3 : decode cJ13_bitCount_95d88 3 = .ok (.lushr, 1) := by decide +kernel
theorem dJ13_bitCount_95d88_4 : decode cJ13_bitCount_95d88 4 = .ok (.ldc2_w 314, 3) := by decide +kernel
theorem dJ13_bitCount_95d88_7 : decode cJ13_bitCount_95d88 7 = .ok (.land, 1) := by decide +kernel
theorem dJ13_bitCount_95d88_8 : decode cJ13_bitCount_95d88 8 = .ok (.lsub, 1) := by decide +kernel
theorem dJ13_bitCount_95d88_9 : decode cJ13_bitCount_95d88 9 = .ok (.lstore_n 0, 1) := by decide +kernel
theorem dJ13_bitCount_95d88_10 : decode cJ13_bitCount_95d88 10 = .ok (.lload_n 0, 1) := by decide +kernel
theorem dJ13_bitCount_95d88_11 : decode cJ13_bitCount_95d88 11 = .ok (.ldc2_w 316, 3) := by decide +kernel
theorem dJ13_bitCount_95d88_14 : decode cJ13_bitCount_95d88 14 = .ok (.land, 1) := by decide +kernel
theorem dJ13_bitCount_95d88_15 : decode cJ13_bitCount_95d88 15 = .ok (.lload_n 0, 1) := by decide +kernel
theorem dJ13_bitCount_95d88_16 : decode cJ13_bitCount_95d88 16 = .ok (.iconst 2, 1) := by decide +kernel
theorem dJ13_bitCount_95d88_17 : decode cJ13_bitCount_95d88 17 = .ok (.lushr, 1) := by decide +kernel
theorem dJ13_bitCount_95d88_18 : decode cJ13_bitCount_95d88 18 = .ok (.ldc2_w 316, 3) := by decide +kernel
theorem dJ13_bitCount_95d88_21 : decode cJ13_bitCount_95d88 21 = .ok (.land, 1) := by decide +kernel
theorem dJ13_bitCount_95d88_22 : decode cJ13_bitCount_95d88 22 = .ok (.ladd, 1) := by decide +kernel
theorem dJ13_bitCount_95d88_23 : decode cJ13_bitCount_95d88 23 = .ok (.lstore_n 0, 1) := by decide +kernel
theorem dJ13_bitCount_95d88_24 : decode cJ13_bitCount_95d88 24 = .ok (.lload_n 0, 1) := by decide +kernel
theorem dJ13_bitCount_95d88_25 : decode cJ13_bitCount_95d88 25 = .ok (.lload_n 0, 1) := by decide +kernel
theorem dJ13_bitCount_95d88_26 : decode cJ13_bitCount_95d88 26 = .ok (.iconst 4, 1) := by decide +kernel
theorem dJ13_bitCount_95d88_27 : decode cJ13_bitCount_95d88 27 = .ok (.lushr, 1) := by decide +kernel
theorem dJ13_bitCount_95d88_28 : decode cJ13_bitCount_95d88 28 = .ok (.ladd, 1) := by decide +kernel
theorem dJ13_bitCount_95d88_29 : decode cJ13_bitCount_95d88 29 = .ok (.ldc2_w 318, 3) := by decide +kernel
theorem dJ13_bitCount_95d88_32 : decode cJ13_bitCount_95d88 32 = .ok (.land, 1) := by decide +kernel
theorem dJ13_bitCount_95d88_33 : decode cJ13_bitCount_95d88 33 = .ok (.lstore_n 0, 1) := by decide +kernel
theorem dJ13_bitCount_95d88_34 : decode cJ13_bitCount_95d88 34 = .ok (.lload_n 0, 1) := by decide +kernel
theorem dJ13_bitCount_95d88_35 : decode cJ13_bitCount_95d88 35 = .ok (.lload_n 0, 1) := by decide +kernel
theorem dJ13_bitCount_95d88_36 : decode cJ13_bitCount_95d88 36 = .ok (.bipush 8, 2) := by decide +kernel
theorem dJ13_bitCount_95d88_38 : decode cJ13_bitCount_95d88 38 = .ok (.lushr, 1) := by decide +kernel
theorem dJ13_bitCount_95d88_39 : decode cJ13_bitCount_95d88 39 = .ok (.ladd, 1) := by decide +kernel
theorem dJ13_bitCount_95d88_40 : decode cJ13_bitCount_95d88 40 = .ok (.lstore_n 0, 1) := by decide +kernel
theorem dJ13_bitCount_95d88_41 : decode cJ13_bitCount_95d88 41 = .ok (.lload_n 0, 1) := by decide +kernel
theorem dJ13_bitCount_95d88_42 : decode cJ13_bitCount_95d88 42 = .ok (.lload_n 0, 1) := by decide +kernel
theorem dJ13_bitCount_95d88_43 : decode cJ13_bitCount_95d88 43 = .ok (.bipush 16, 2) := by decide +kernel
theorem dJ13_bitCount_95d88_45 : decode cJ13_bitCount_95d88 45 = .ok (.lushr, 1) := by decide +kernel
theorem dJ13_bitCount_95d88_46 : decode cJ13_bitCount_95d88 46 = .ok (.ladd, 1) := by decide +kernel
theorem dJ13_bitCount_95d88_47 : decode cJ13_bitCount_95d88 47 = .ok (.lstore_n 0, 1) := by decide +kernel
theorem dJ13_bitCount_95d88_48 : decode cJ13_bitCount_95d88 48 = .ok (.lload_n 0, 1) := by decide +kernel
theorem dJ13_bitCount_95d88_49 : decode cJ13_bitCount_95d88 49 = .ok (.lload_n 0, 1) := by decide +kernel
theorem dJ13_bitCount_95d88_50 : decode cJ13_bitCount_95d88 50 = .ok (.bipush 32, 2) := by decide +kernel
theorem dJ13_bitCount_95d88_52 : decode cJ13_bitCount_95d88 52 = .ok (.lushr, 1) := by decide +kernel
theorem dJ13_bitCount_95d88_53 : decode cJ13_bitCount_95d88 53 = .ok (.ladd, 1) := by decide +kernel
theorem dJ13_bitCount_95d88_54 : decode cJ13_bitCount_95d88 54 = .ok (.lstore_n 0, 1) := by decide +kernel
theorem dJ13_bitCount_95d88_55 : decode cJ13_bitCount_95d88 55 = .ok (.lload_n 0, 1) := by decide +kernel
theorem dJ13_bitCount_95d88_56 : decode cJ13_bitCount_95d88 56 = .ok (.l2i, 1) := by decide +kernel
theorem dJ13_bitCount_95d88_57 : decode cJ13_bitCount_95d88 57 = .ok (.bipush 127, 2) := by decide +kernel
theorem dJ13_bitCount_95d88_59 : decode cJ13_bitCount_95d88 59 = .ok (.iand, 1) := by decide +kernel
theorem dJ13_bitCount_95d88_60 : decode cJ13_bitCount_95d88 60 = .ok (.ireturn, 1) := by decide +kernel
theorem dJ9_max_7cf53_0 : decode cJ9_max_7cf53 0 = .ok (.iload_n 0, 1) := by decide +kernel
theorem dJ9_max_7cf53_1 : decode cJ9_max_7cf53 1 = .ok (.iload_n 1, 1) := by decide +kernel
theorem dJ9_max_7cf53_2 : decode cJ9_max_7cf53 2 = .ok (.if_icmp .lt 7, 3) := by decide +kernel
theorem dJ9_max_7cf53_5 : decode cJ9_max_7cf53 5 = .ok (.iload_n 0, 1) := by decide +kernel
theorem dJ9_max_7cf53_6 : decode cJ9_max_7cf53 6 = .ok (.goto 4, 3) := by decide +kernel
theorem dJ9_max_7cf53_9 : decode cJ9_max_7cf53 9 = .ok (.iload_n 1, 1) := by decide +kernel
theorem dJ9_max_7cf53_10 : decode cJ9_max_7cf53 10 = .ok (.ireturn, 1) := by decide +kernel
theorem dJ9_min_7cf53_0 : decode cJ9_min_7cf53 0 = .ok (.iload_n 0, 1) := by decide +kernel
theorem dJ9_min_7cf53_1 : decode cJ9_min_7cf53 1 = .ok (.iload_n 1, 1) := by decide +kernel
theorem dJ9_min_7cf53_2 : decode cJ9_min_7cf53 2 = .ok (.if_icmp .gt 7, 3) := by decide +kernel
theorem dJ9_min_7cf53_5 : decode cJ9_min_7cf53 5 = .ok (.iload_n 0, 1) := by decide +kernel
theorem dJ9_min_7cf53_6 : decode cJ9_min_7cf53 6 = .ok (.goto 4, 3) := by decide +kernel
theorem dJ9_min_7cf53_9 : decode cJ9_min_7cf53 9 = .ok (.iload_n 1, 1) := by decide +kernel
theorem dJ9_min_7cf53_10 : decode cJ9_min_7cf53 10 = .ok (.ireturn, 1) := by decide +kernel
theorem dJ7_fill_53178_0 : decode cJ7_fill_53178 0 = .ok (.iconst 0, 1) := by decide +kernel
theorem dJ7_fill_53178_1 : decode cJ7_fill_53178 1 = .ok (.istore_n 2, 1) := by decide +kernel
theorem dJ7_fill_53178_2 : decode cJ7_fill_53178 2 = .ok (.aload_n 0, 1) := by decide +kernel
theorem dJ7_fill_53178_3 : decode cJ7_fill_53178 3 = .ok (.arraylength, 1) := by decide +kernel
theorem dJ7_fill_53178_4 : decode cJ7_fill_53178 4 = .ok (.istore_n 3, 1) := by decide +kernel
theorem dJ7_fill_53178_5 : decode cJ7_fill_53178 5 = .ok (.iload_n 2, 1) := by decide +kernel
theorem dJ7_fill_53178_6 : decode cJ7_fill_53178 6 = .ok (.iload_n 3, 1) := by decide +kernel
theorem dJ7_fill_53178_7 : decode cJ7_fill_53178 7 = .ok (.if_icmp .ge 13, 3) := by decide +kernel
theorem dJ7_fill_53178_10 : decode cJ7_fill_53178 10 = .ok (.aload_n 0, 1) := by decide +kernel
theorem dJ7_fill_53178_11 : decode cJ7_fill_53178 11 = .ok (.iload_n 2, 1) := by decide +kernel
theorem dJ7_fill_53178_12 : decode cJ7_fill_53178 12 = .ok (.iload_n 1, 1) := by decide +kernel
theorem dJ7_fill_53178_13 : decode cJ7_fill_53178 13 = .ok (.iastore, 1) := by decide +kernel
theorem dJ7_fill_53178_14 : decode cJ7_fill_53178 14 = .ok (.iinc 2 1, 3) := by decide +kernel
theorem dJ7_fill_53178_17 : decode cJ7_fill_53178 17 = .ok (.goto (-12), 3) := by decide +kernel
theorem dJ7_fill_53178_20 : decode cJ7_fill_53178 20 = .ok (.return_, 1) := by decide +kernel
set_option maxRecDepth 20000 in
theorem ggL_addCrane_X3_addCrane : GoodIn wsL_addCrane wsX3_addCrane := goodIn_ca (goodIn_ca (goodIn_r _ [7, 8, 9, 10, 11, 12, 13, 14, 15, 16, 17, 18, 6, 19, 20, 21, 22, 23, 24, 25, 26, 27, 28, 29, 30, 31, 32, 33, 34, 35, 36, 37, 38, 39, 40, 41, 42, 43, 44, 45, 46, 47, 48, 49] (by decide +kernel) (by decide +kernel)) (goodIn_sub (fun _ h => List.mem_cons_of_mem _ (List.mem_append_left _ (List.mem_append_right _ h))) (by decide +kernel))) (goodIn_sub (fun _ h => List.mem_cons_of_mem _ (List.mem_append_right _ h)) (by decide +kernel))
set_option maxRecDepth 20000 in
theorem gL_addCrane_X3_addCrane : GoodIn wsL_addCrane (wsV RL 7 RX3 yX3_addCrane wsX3_addCrane) := goodIn_app (goodIn_of _ (by decide +kernel)) ggL_addCrane_X3_addCrane
