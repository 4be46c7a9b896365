theorem dX0_init_0 : decode cX0_init 0 = .ok (.aload_n 0, 1) := by decide +kernel
theorem dX0_init_1 : decode cX0_init 1 = .ok (.invokespecial 3, 3) := by decide +kernel
theorem dX0_init_4 : decode cX0_init 4 = .ok (.aload_n 0, 1) := by decide +kernel
theorem dX0_init_5 : decode cX0_init 5 = .ok (.iload_n 1, 1) := by decide +kernel
theorem dX0_init_6 : decode cX0_init 6 = .ok (.putfield 9, 3) := by decide +kernel
theorem dX0_init_9 : decode cX0_init 9 = .ok (.aload_n 0, 1) := by decide +kernel
theorem dX0_init_10 : decode cX0_init 10 = .ok (.iload_n 2, 1) := by decide +kernel
theorem dX0_init_11 : decode cX0_init 11 = .ok (.putfield 15, 3) := by decide +kernel
theorem dX0_init_14 : decode cX0_init 14 = .ok (.aload_n 0, 1) := by decide +kernel
theorem dX0_init_15 : decode cX0_init 15 = .ok (.iload_n 3, 1) := by decide +kernel
theorem dX0_init_16 : decode cX0_init 16 = .ok (.putfield 18, 3) := by decide +kernel
theorem dX0_init_19 : decode cX0_init 19 = .ok (.aload_n 0, 1) := by decide +kernel
theorem dX0_init_20 : decode cX0_init 20 = .ok (.iload 4, 2) := by decide +kernel
theorem dX0_init_22 : decode cX0_init 22 = .ok (.putfield 21, 3) := by decide +kernel
theorem dX0_init_25 : decode cX0_init 25 = .ok (.aload_n 0, 1) := by decide +kernel
theorem dX0_init_26 : decode cX0_init 26 = .ok (.iload 5, 2) := by decide +kernel
theorem dX0_init_28 : decode cX0_init 28 = .ok (.putfield 24, 3) := by decide +kernel
theorem dX0_init_31 : decode cX0_init 31 = .ok (.return_, 1) := by decide +kernel
theorem dX0_squareTo_0 : decode cX0_squareTo 0 = .ok (.iload_n 1, 1) := by decide +kernel
theorem dX0_squareTo_1 : decode cX0_squareTo 1 = .ok (.aload_n 0, 1) := by decide +kernel
theorem dX0_squareTo_2 : decode cX0_squareTo 2 = .ok (.getfield 9, 3) := by decide +kernel
theorem dX0_squareTo_5 : decode cX0_squareTo 5 = .ok (.isub, 1) := by decide +kernel
theorem dX0_squareTo_6 : decode cX0_squareTo 6 = .ok (.istore_n 3, 1) := by decide +kernel
theorem dX0_squareTo_7 : decode cX0_squareTo 7 = .ok (.iload_n 2, 1) := by decide +kernel
theorem dX0_squareTo_8 : decode cX0_squareTo 8 = .ok (.aload_n 0, 1) := by decide +kernel
theorem dX0_squareTo_9 : decode cX0_squareTo 9 = .ok (.getfield 15, 3) := by decide +kernel
theorem dX0_squareTo_12 : decode cX0_squareTo 12 = .ok (.isub, 1) := by decide +kernel
theorem dX0_squareTo_13 : decode cX0_squareTo 13 = .ok (.istore 4, 2) := by decide +kernel
theorem dX0_squareTo_15 : decode cX0_squareTo 15 = .ok (.iload_n 3, 1) := by decide +kernel
theorem dX0_squareTo_16 : decode cX0_squareTo 16 = .ok (.iload_n 3, 1) := by decide +kernel
theorem dX0_squareTo_17 : decode cX0_squareTo 17 = .ok (.imul, 1) := by decide +kernel
theorem dX0_squareTo_18 : decode cX0_squareTo 18 = .ok (.iload 4, 2) := by decide +kernel
theorem dX0_squareTo_20 : decode cX0_squareTo 20 = .ok (.iload 4, 2) := by decide +kernel
theorem dX0_squareTo_22 : decode cX0_squareTo 22 = .ok (.imul, 1) := by decide +kernel
theorem dX0_squareTo_23 : decode cX0_squareTo 23 = .ok (.iadd, 1) := by decide +kernel
theorem dX0_squareTo_24 : decode cX0_squareTo 24 = .ok (.ireturn, 1) := by decide +kernel
set_option maxRecDepth 20000 in
theorem ggX0_reaches_X0_squareTo : GoodIn wsX0_reaches wsX0_squareTo := goodIn_r _ [6, 7, 8, 9, 10, 11, 12, 13, 14] (by decide +kernel) (by decide +kernel)
set_option maxRecDepth 20000 in
theorem gX0_reaches_X0_squareTo : GoodIn wsX0_reaches (wsV RX0 27 RX0 yX0_squareTo wsX0_squareTo) := goodIn_app (goodIn_of _ (by decide +kernel)) ggX0_reaches_X0_squareTo
theorem dX0_reaches_0 : decode cX0_reaches 0 = .ok (.aload_n 0, 1) := by decide +kernel
theorem dX0_reaches_1 : decode cX0_reaches 1 = .ok (.iload_n 1, 1) := by decide +kernel
theorem dX0_reaches_2 : decode cX0_reaches 2 = .ok (.iload_n 2, 1) := by decide +kernel
theorem dX0_reaches_3 : decode cX0_reaches 3 = .ok (.invokevirtual 27, 3) := by decide +kernel
theorem dX0_reaches_6 : decode cX0_reaches 6 = .ok (.aload_n 0, 1) := by decide +kernel
theorem dX0_reaches_7 : decode cX0_reaches 7 = .ok (.getfield 18, 3) := by decide +kernel
theorem dX0_reaches_10 : decode cX0_reaches 10 = .ok (.aload_n 0, 1) := by decide +kernel
theorem dX0_reaches_11 : decode cX0_reaches 11 = .ok (.getfield 18, 3) := by decide +kernel
theorem dX0_reaches_14 : decode cX0_reaches 14 = .ok (.imul, 1) := by decide +kernel
theorem dX0_reaches_15 : decode cX0_reaches 15 = .ok (.if_icmp .gt 7, 3) := by decide +kernel
theorem dX0_reaches_18 : decode cX0_reaches 18 = .ok (.iconst 1, 1) := by decide +kernel
theorem dX0_reaches_19 : decode cX0_reaches 19 = .ok (.goto 4, 3) := by decide +kernel
theorem dX0_reaches_22 : decode cX0_reaches 22 = .ok (.iconst 0, 1) := by decide +kernel
theorem dX0_reaches_23 : decode cX0_reaches 23 = .ok (.ireturn, 1) := by decide +kernel
set_option maxRecDepth 20000 in
theorem ggX0_reachesEnds_X0_reaches : GoodIn wsX0_reachesEnds wsX0_reaches := goodIn_r _ [9, 10, 11, 12, 13, 8, 14, 15, 16, 28, 29, 30, 31, 32, 33] (by decide +kernel) (by decide +kernel)
set_option maxRecDepth 20000 in
theorem gX0_reachesEnds_X0_reaches : GoodIn wsX0_reachesEnds (wsV RX0 35 RX0 yX0_reaches wsX0_reaches) := goodIn_app (goodIn_of _ (by decide +kernel)) ggX0_reachesEnds_X0_reaches
theorem dX0_reachesEnds_0 : decode cX0_reachesEnds 0 = .ok (.aload_n 0, 1) := by decide +kernel
theorem dX0_reachesEnds_1 : decode cX0_reachesEnds 1 = .ok (.aload_n 1, 1) := by decide +kernel
theorem dX0_reachesEnds_2 : decode cX0_reachesEnds 2 = .ok (.getfield 31, 3) := by decide +kernel
theorem dX0_reachesEnds_5 : decode cX0_reachesEnds 5 = .ok (.aload_n 1, 1) := by decide +kernel
theorem dX0_reachesEnds_6 : decode cX0_reachesEnds 6 = .ok (.getfield 34, 3) := by decide +kernel
theorem dX0_reachesEnds_9 : decode cX0_reachesEnds 9 = .ok (.invokevirtual 35, 3) := by decide +kernel
theorem dX0_reachesEnds_12 : decode cX0_reachesEnds 12 = .ok (.ifCond .eq 22, 3) := by decide +kernel
theorem dX0_reachesEnds_15 : decode cX0_reachesEnds 15 = .ok (.aload_n 0, 1) := by decide +kernel
theorem dX0_reachesEnds_16 : decode cX0_reachesEnds 16 = .ok (.aload_n 1, 1) := by decide +kernel
theorem dX0_reachesEnds_17 : decode cX0_reachesEnds 17 = .ok (.getfield 39, 3) := by decide +kernel
theorem dX0_reachesEnds_20 : decode cX0_reachesEnds 20 = .ok (.aload_n 1, 1) := by decide +kernel
theorem dX0_reachesEnds_21 : decode cX0_reachesEnds 21 = .ok (.getfield 42, 3) := by decide +kernel
theorem dX0_reachesEnds_24 : decode cX0_reachesEnds 24 = .ok (.invokevirtual 35, 3) := by decide +kernel
theorem dX0_reachesEnds_27 : decode cX0_reachesEnds 27 = .ok (.ifCond .eq 7, 3) := by decide +kernel
theorem dX0_reachesEnds_30 : decode cX0_reachesEnds 30 = .ok (.iconst 1, 1) := by decide +kernel
theorem dX0_reachesEnds_31 : decode cX0_reachesEnds 31 = .ok (.goto 4, 3) := by decide +kernel
theorem dX0_reachesEnds_34 : decode cX0_reachesEnds 34 = .ok (.iconst 0, 1) := by decide +kernel
theorem dX0_reachesEnds_35 : decode cX0_reachesEnds 35 = .ok (.ireturn, 1) := by decide +kernel
set_option maxRecDepth 20000 in
theorem ggX0_strengthAt_X0_squareTo : GoodIn wsX0_strengthAt wsX0_squareTo := goodIn_r _ [11, 12, 13, 14, 15, 16, 17, 18, 19] (by decide +kernel) (by decide +kernel)
set_option maxRecDepth 20000 in
theorem gX0_strengthAt_X0_squareTo : GoodIn wsX0_strengthAt (wsV RX0 27 RX0 yX0_squareTo wsX0_squareTo) := goodIn_app (goodIn_of _ (by decide +kernel)) ggX0_strengthAt_X0_squareTo
theorem dX0_strengthAt_0 : decode cX0_strengthAt 0 = .ok (.iload_n 3, 1) := by decide +kernel
theorem dX0_strengthAt_1 : decode cX0_strengthAt 1 = .ok (.bipush 20, 2) := by decide +kernel
theorem dX0_strengthAt_3 : decode cX0_strengthAt 3 = .ok (.if_icmp .le 5, 3) := by decide +kernel
theorem dX0_strengthAt_6 : decode cX0_strengthAt 6 = .ok (.iconst 0, 1) := by decide +kernel
theorem dX0_strengthAt_7 : decode cX0_strengthAt 7 = .ok (.ireturn, 1) := by decide +kernel
theorem dX0_strengthAt_8 : decode cX0_strengthAt 8 = .ok (.aload_n 0, 1) := by decide +kernel
theorem dX0_strengthAt_9 : decode cX0_strengthAt 9 = .ok (.iload_n 1, 1) := by decide +kernel
theorem dX0_strengthAt_10 : decode cX0_strengthAt 10 = .ok (.iload_n 2, 1) := by decide +kernel
theorem dX0_strengthAt_11 : decode cX0_strengthAt 11 = .ok (.invokevirtual 27, 3) := by decide +kernel
theorem dX0_strengthAt_14 : decode cX0_strengthAt 14 = .ok (.istore 4, 2) := by decide +kernel
theorem dX0_strengthAt_16 : decode cX0_strengthAt 16 = .ok (.iconst 1, 1) := by decide +kernel
theorem dX0_strengthAt_17 : decode cX0_strengthAt 17 = .ok (.istore 5, 2) := by decide +kernel
theorem dX0_strengthAt_19 : decode cX0_strengthAt 19 = .ok (.iload 5, 2) := by decide +kernel
theorem dX0_strengthAt_21 : decode cX0_strengthAt 21 = .ok (.bipush 56, 2) := by decide +kernel
theorem dX0_strengthAt_23 : decode cX0_strengthAt 23 = .ok (.if_icmp .ge 19, 3) := by decide +kernel
theorem dX0_strengthAt_26 : decode cX0_strengthAt 26 = .ok (.iload 5, 2) := by decide +kernel
theorem dX0_strengthAt_28 : decode cX0_strengthAt 28 = .ok (.iload 5, 2) := by decide +kernel
theorem dX0_strengthAt_30 : decode cX0_strengthAt 30 = .ok (.imul, 1) := by decide +kernel
theorem dX0_strengthAt_31 : decode cX0_strengthAt 31 = .ok (.iload 4, 2) := by decide +kernel
theorem dX0_strengthAt_33 : decode cX0_strengthAt 33 = .ok (.if_icmp .ge 9, 3) := by decide +kernel
theorem dX0_strengthAt_36 : decode cX0_strengthAt 36 = .ok (.iinc 5 1, 3) := by decide +kernel
theorem dX0_strengthAt_39 : decode cX0_strengthAt 39 = .ok (.goto (-20), 3) := by decide +kernel
theorem dX0_strengthAt_42 : decode cX0_strengthAt 42 = .ok (.aload_n 0, 1) := by decide +kernel
theorem dX0_strengthAt_43 : decode cX0_strengthAt 43 = .ok (.getfield 21, 3) := by decide +kernel
theorem dX0_strengthAt_46 : decode cX0_strengthAt 46 = .ok (.aload_n 0, 1) := by decide +kernel
theorem dX0_strengthAt_47 : decode cX0_strengthAt 47 = .ok (.getfield 24, 3) := by decide +kernel
theorem dX0_strengthAt_50 : decode cX0_strengthAt 50 = .ok (.iload 5, 2) := by decide +kernel
theorem dX0_strengthAt_52 : decode cX0_strengthAt 52 = .ok (.idiv, 1) := by decide +kernel
theorem dX0_strengthAt_53 : decode cX0_strengthAt 53 = .ok (.invokestatic 45, 3) := by decide +kernel
theorem dX0_strengthAt_56 : decode cX0_strengthAt 56 = .ok (.bipush 100, 2) := by decide +kernel
theorem dX0_strengthAt_58 : decode cX0_strengthAt 58 = .ok (.iconst 3, 1) := by decide +kernel
theorem dX0_strengthAt_59 : decode cX0_strengthAt 59 = .ok (.iload_n 3, 1) := by decide +kernel
theorem dX0_strengthAt_60 : decode cX0_strengthAt 60 = .ok (.imul, 1) := by decide +kernel
theorem dX0_strengthAt_61 : decode cX0_strengthAt 61 = .ok (.isub, 1) := by decide +kernel
theorem dX0_strengthAt_62 : decode cX0_strengthAt 62 = .ok (.imul, 1) := by decide +kernel
theorem dX0_strengthAt_63 : decode cX0_strengthAt 63 = .ok (.bipush 100, 2) := by decide +kernel
theorem dX0_strengthAt_65 : decode cX0_strengthAt 65 = .ok (.idiv, 1) := by decide +kernel
theorem dX0_strengthAt_66 : decode cX0_strengthAt 66 = .ok (.ireturn, 1) := by decide +kernel
set_option maxRecDepth 20000 in
theorem ggX0_bearsAtEnds_X0_strengthAt : GoodIn wsX0_bearsAtEnds wsX0_strengthAt := goodIn_ca (goodIn_r _ [10, 11, 12, 13, 14, 15, 16, 17, 18, 19, 9, 20, 21, 22, 34, 35, 36, 37, 38, 39] (by decide +kernel) (by decide +kernel)) (goodIn_sub (fun _ h => List.mem_cons_of_mem _ (List.mem_append_right _ h)) (by decide +kernel))
set_option maxRecDepth 20000 in
theorem gX0_bearsAtEnds_X0_strengthAt : GoodIn wsX0_bearsAtEnds (wsV RX0 51 RX0 yX0_strengthAt wsX0_strengthAt) := goodIn_app (goodIn_of _ (by decide +kernel)) ggX0_bearsAtEnds_X0_strengthAt
theorem dX0_bearsAtEnds_0 : decode cX0_bearsAtEnds 0 = .ok (.aload_n 1, 1) := by decide +kernel
theorem dX0_bearsAtEnds_1 : decode cX0_bearsAtEnds 1 = .ok (.getfield 50, 3) := by decide +kernel
theorem dX0_bearsAtEnds_4 : decode cX0_bearsAtEnds 4 = .ok (.aload_n 0, 1) := by decide +kernel
theorem dX0_bearsAtEnds_5 : decode cX0_bearsAtEnds 5 = .ok (.aload_n 1, 1) := by decide +kernel
theorem dX0_bearsAtEnds_6 : decode cX0_bearsAtEnds 6 = .ok (.getfield 31, 3) := by decide +kernel
theorem dX0_bearsAtEnds_9 : decode cX0_bearsAtEnds 9 = .ok (.aload_n 1, 1) := by decide +kernel
theorem dX0_bearsAtEnds_10 : decode cX0_bearsAtEnds 10 = .ok (.getfield 34, 3) := by decide +kernel
theorem dX0_bearsAtEnds_13 : decode cX0_bearsAtEnds 13 = .ok (.iload_n 2, 1) := by decide +kernel
theorem dX0_bearsAtEnds_14 : decode cX0_bearsAtEnds 14 = .ok (.invokevirtual 51, 3) := by decide +kernel
theorem dX0_bearsAtEnds_17 : decode cX0_bearsAtEnds 17 = .ok (.if_icmp .gt 27, 3) := by decide +kernel
theorem dX0_bearsAtEnds_20 : decode cX0_bearsAtEnds 20 = .ok (.aload_n 1, 1) := by decide +kernel
theorem dX0_bearsAtEnds_21 : decode cX0_bearsAtEnds 21 = .ok (.getfield 50, 3) := by decide +kernel
theorem dX0_bearsAtEnds_24 : decode cX0_bearsAtEnds 24 = .ok (.aload_n 0, 1) := by decide +kernel
theorem dX0_bearsAtEnds_25 : decode cX0_bearsAtEnds 25 = .ok (.aload_n 1, 1) := by decide +kernel
theorem dX0_bearsAtEnds_26 : decode cX0_bearsAtEnds 26 = .ok (.getfield 39, 3) := by decide +kernel
theorem dX0_bearsAtEnds_29 : decode cX0_bearsAtEnds 29 = .ok (.aload_n 1, 1) := by decide +kernel
theorem dX0_bearsAtEnds_30 : decode cX0_bearsAtEnds 30 = .ok (.getfield 42, 3) := by decide +kernel
theorem dX0_bearsAtEnds_33 : decode cX0_bearsAtEnds 33 = .ok (.iload_n 2, 1) := by decide +kernel
theorem dX0_bearsAtEnds_34 : decode cX0_bearsAtEnds 34 = .ok (.invokevirtual 51, 3) := by decide +kernel
theorem dX0_bearsAtEnds_37 : decode cX0_bearsAtEnds 37 = .ok (.if_icmp .gt 7, 3) := by decide +kernel
theorem dX0_bearsAtEnds_40 : decode cX0_bearsAtEnds 40 = .ok (.iconst 1, 1) := by decide +kernel
theorem dX0_bearsAtEnds_41 : decode cX0_bearsAtEnds 41 = .ok (.goto 4, 3) := by decide +kernel
theorem dX0_bearsAtEnds_44 : decode cX0_bearsAtEnds 44 = .ok (.iconst 0, 1) := by decide +kernel
theorem dX0_bearsAtEnds_45 : decode cX0_bearsAtEnds 45 = .ok (.ireturn, 1) := by decide +kernel
theorem dX0_hasHour_0 : decode cX0_hasHour 0 = .ok (.aload_n 0, 1) := by decide +kernel
theorem dX0_hasHour_1 : decode cX0_hasHour 1 = .ok (.getfield 55, 3) := by decide +kernel
theorem dX0_hasHour_4 : decode cX0_hasHour 4 = .ok (.iload_n 1, 1) := by decide +kernel
theorem dX0_hasHour_5 : decode cX0_hasHour 5 = .ok (.ishr, 1) := by decide +kernel
theorem dX0_hasHour_6 : decode cX0_hasHour 6 = .ok (.iconst 1, 1) := by decide +kernel
theorem dX0_hasHour_7 : decode cX0_hasHour 7 = .ok (.iand, 1) := by decide +kernel
theorem dX0_hasHour_8 : decode cX0_hasHour 8 = .ok (.iconst 1, 1) := by decide +kernel
theorem dX0_hasHour_9 : decode cX0_hasHour 9 = .ok (.if_icmp .ne 7, 3) := by decide +kernel
theorem dX0_hasHour_12 : decode cX0_hasHour 12 = .ok (.iconst 1, 1) := by decide +kernel
theorem dX0_hasHour_13 : decode cX0_hasHour 13 = .ok (.goto 4, 3) := by decide +kernel
theorem dX0_hasHour_16 : decode cX0_hasHour 16 = .ok (.iconst 0, 1) := by decide +kernel
theorem dX0_hasHour_17 : decode cX0_hasHour 17 = .ok (.ireturn, 1) := by decide +kernel
set_option maxRecDepth 20000 in
theorem ggX0_lastClosedHour_X0_hasHour : GoodIn wsX0_lastClosedHour wsX0_hasHour := goodIn_r _ [5, 6, 7, 8, 9, 10, 11, 12] (by decide +kernel) (by decide +kernel)
set_option maxRecDepth 20000 in
theorem gX0_lastClosedHour_X0_hasHour : GoodIn wsX0_lastClosedHour (wsV RX0 58 RX0 yX0_hasHour wsX0_hasHour) := goodIn_app (goodIn_of _ (by decide +kernel)) ggX0_lastClosedHour_X0_hasHour
theorem dX0_lastClosedHour_0 : decode cX0_lastClosedHour 0 = .ok (.iload_n 2, 1) := by decide +kernel
theorem dX0_lastClosedHour_1 : decode cX0_lastClosedHour 1 = .ok (.iconst 1, 1) := by decide +kernel
theorem dX0_lastClosedHour_2 : decode cX0_lastClosedHour 2 = .ok (.isub, 1) := by decide +kernel
theorem dX0_lastClosedHour_3 : decode cX0_lastClosedHour 3 = .ok (.bipush 60, 2) := by decide +kernel
theorem dX0_lastClosedHour_5 : decode cX0_lastClosedHour 5 = .ok (.idiv, 1) := by decide +kernel
theorem dX0_lastClosedHour_6 : decode cX0_lastClosedHour 6 = .ok (.istore_n 3, 1) := by decide +kernel
theorem dX0_lastClosedHour_7 : decode cX0_lastClosedHour 7 = .ok (.iload_n 3, 1) := by decide +kernel
theorem dX0_lastClosedHour_8 : decode cX0_lastClosedHour 8 = .ok (.iload_n 1, 1) := by decide +kernel
theorem dX0_lastClosedHour_9 : decode cX0_lastClosedHour 9 = .ok (.bipush 60, 2) := by decide +kernel
theorem dX0_lastClosedHour_11 : decode cX0_lastClosedHour 11 = .ok (.idiv, 1) := by decide +kernel
theorem dX0_lastClosedHour_12 : decode cX0_lastClosedHour 12 = .ok (.if_icmp .lt 19, 3) := by decide +kernel
theorem dX0_lastClosedHour_15 : decode cX0_lastClosedHour 15 = .ok (.aload_n 0, 1) := by decide +kernel
theorem dX0_lastClosedHour_16 : decode cX0_lastClosedHour 16 = .ok (.iload_n 3, 1) := by decide +kernel
theorem dX0_lastClosedHour_17 : decode cX0_lastClosedHour 17 = .ok (.invokevirtual 58, 3) := by decide +kernel
theorem dX0_lastClosedHour_20 : decode cX0_lastClosedHour 20 = .ok (.ifCond .ne 5, 3) := by decide +kernel
theorem dX0_lastClosedHour_23 : decode cX0_lastClosedHour 23 = .ok (.iload_n 3, 1) := by decide +kernel
theorem dX0_lastClosedHour_24 : decode cX0_lastClosedHour 24 = .ok (.ireturn, 1) := by decide +kernel
theorem dX0_lastClosedHour_25 : decode cX0_lastClosedHour 25 = .ok (.iinc 3 (-1), 3) := by decide +kernel
theorem dX0_lastClosedHour_28 : decode cX0_lastClosedHour 28 = .ok (.goto (-21), 3) := by decide +kernel
theorem dX0_lastClosedHour_31 : decode cX0_lastClosedHour 31 = .ok (.iconst (-1), 1) := by decide +kernel
theorem dX0_lastClosedHour_32 : decode cX0_lastClosedHour 32 = .ok (.ireturn, 1) := by decide +kernel
set_option maxRecDepth 20000 in
theorem ggX0_minutesAllowed_J6_bitCount_0f7a4 : GoodIn wsX0_minutesAllowed wsJ6_bitCount_0f7a4 := goodIn_r _ [5, 6, 7, 8] (by decide +kernel) (by decide +kernel)
set_option maxRecDepth 20000 in
theorem gX0_minutesAllowed_J6_bitCount_0f7a4 : GoodIn wsX0_minutesAllowed (va_wsS RX0 62 yJ6_bitCount_0f7a4 wsJ6_bitCount_0f7a4) := goodIn_app (goodIn_of _ (by decide +kernel)) ggX0_minutesAllowed_J6_bitCount_0f7a4
theorem dX0_minutesAllowed_0 : decode cX0_minutesAllowed 0 = .ok (.aload_n 0, 1) := by decide +kernel
theorem dX0_minutesAllowed_1 : decode cX0_minutesAllowed 1 = .ok (.getfield 55, 3) := by decide +kernel
theorem dX0_minutesAllowed_4 : decode cX0_minutesAllowed 4 = .ok (.invokestatic 62, 3) := by decide +kernel
theorem dX0_minutesAllowed_7 : decode cX0_minutesAllowed 7 = .ok (.bipush 60, 2) := by decide +kernel
theorem dX0_minutesAllowed_9 : decode cX0_minutesAllowed 9 = .ok (.imul, 1) := by decide +kernel
theorem dX0_minutesAllowed_10 : decode cX0_minutesAllowed 10 = .ok (.ireturn, 1) := by decide +kernel
set_option maxRecDepth 20000 in
theorem ggX1_init_X3_airBetween : GoodIn wsX1_init wsX3_airBetween := goodIn_r _ [17, 18, 19, 20, 21, 22, 23, 24] (by decide +kernel) (by decide +kernel)
set_option maxRecDepth 20000 in
theorem gX1_init_X3_airBetween_n43 : GoodIn wsX1_init (wsX3_airBetween) := ggX1_init_X3_airBetween
theorem dX1_init_0 : decode cX1_init 0 = .ok (.aload_n 0, 1) := by decide +kernel
theorem dX1_init_1 : decode cX1_init 1 = .ok (.invokespecial 3, 3) := by decide +kernel
theorem dX1_init_4 : decode cX1_init 4 = .ok (.aload_n 0, 1) := by decide +kernel
theorem dX1_init_5 : decode cX1_init 5 = .ok (.bipush 119, 2) := by decide +kernel
theorem dX1_init_7 : decode cX1_init 7 = .ok (.putfield 9, 3) := by decide +kernel
theorem dX1_init_10 : decode cX1_init 10 = .ok (.aload_n 0, 1) := by decide +kernel
theorem dX1_init_11 : decode cX1_init 11 = .ok (.iconst (-1), 1) := by decide +kernel
theorem dX1_init_12 : decode cX1_init 12 = .ok (.putfield 15, 3) := by decide +kernel
theorem dX1_init_15 : decode cX1_init 15 = .ok (.aload_n 0, 1) := by decide +kernel
theorem dX1_init_16 : decode cX1_init 16 = .ok (.iconst (-1), 1) := by decide +kernel
theorem dX1_init_17 : decode cX1_init 17 = .ok (.putfield 19, 3) := by decide +kernel
theorem dX1_init_20 : decode cX1_init 20 = .ok (.aload_n 0, 1) := by decide +kernel
theorem dX1_init_21 : decode cX1_init 21 = .ok (.iload_n 1, 1) := by decide +kernel
theorem dX1_init_22 : decode cX1_init 22 = .ok (.putfield 22, 3) := by decide +kernel
theorem dX1_init_25 : decode cX1_init 25 = .ok (.aload_n 0, 1) := by decide +kernel
theorem dX1_init_26 : decode cX1_init 26 = .ok (.iload_n 2, 1) := by decide +kernel
theorem dX1_init_27 : decode cX1_init 27 = .ok (.putfield 25, 3) := by decide +kernel
theorem dX1_init_30 : decode cX1_init 30 = .ok (.aload_n 0, 1) := by decide +kernel
theorem dX1_init_31 : decode cX1_init 31 = .ok (.iload_n 3, 1) := by decide +kernel
theorem dX1_init_32 : decode cX1_init 32 = .ok (.putfield 28, 3) := by decide +kernel
theorem dX1_init_35 : decode cX1_init 35 = .ok (.aload_n 0, 1) := by decide +kernel
theorem dX1_init_36 : decode cX1_init 36 = .ok (.iload 4, 2) := by decide +kernel
theorem dX1_init_38 : decode cX1_init 38 = .ok (.putfield 31, 3) := by decide +kernel
theorem dX1_init_41 : decode cX1_init 41 = .ok (.aload_n 0, 1) := by decide +kernel
theorem dX1_init_42 : decode cX1_init 42 = .ok (.iload 5, 2) := by decide +kernel
theorem dX1_init_44 : decode cX1_init 44 = .ok (.putfield 34, 3) := by decide +kernel
theorem dX1_init_47 : decode cX1_init 47 = .ok (.aload_n 0, 1) := by decide +kernel
theorem dX1_init_48 : decode cX1_init 48 = .ok (.iload 6, 2) := by decide +kernel
theorem dX1_init_50 : decode cX1_init 50 = .ok (.putfield 37, 3) := by decide +kernel
theorem dX1_init_53 : decode cX1_init 53 = .ok (.aload_n 0, 1) := by decide +kernel
theorem dX1_init_54 : decode cX1_init 54 = .ok (.iload 7, 2) := by decide +kernel
theorem dX1_init_56 : decode cX1_init 56 = .ok (.putfield 40, 3) := by decide +kernel
theorem dX1_init_59 : decode cX1_init 59 = .ok (.aload_n 0, 1) := by decide +kernel
theorem dX1_init_60 : decode cX1_init 60 = .ok (.iload_n 1, 1) := by decide +kernel
theorem dX1_init_61 : decode cX1_init 61 = .ok (.iload_n 2, 1) := by decide +kernel
theorem dX1_init_62 : decode cX1_init 62 = .ok (.iload_n 3, 1) := by decide +kernel
theorem dX1_init_63 : decode cX1_init 63 = .ok (.iload 4, 2) := by decide +kernel
theorem dX1_init_65 : decode cX1_init 65 = .ok (.invokestatic 43, 3) := by decide +kernel
theorem dX1_init_68 : decode cX1_init 68 = .ok (.putfield 47, 3) := by decide +kernel
theorem dX1_init_71 : decode cX1_init 71 = .ok (.return_, 1) := by decide +kernel
theorem dX1_end_0 : decode cX1_end 0 = .ok (.aload_n 0, 1) := by decide +kernel
theorem dX1_end_1 : decode cX1_end 1 = .ok (.getfield 19, 3) := by decide +kernel
theorem dX1_end_4 : decode cX1_end 4 = .ok (.aload_n 0, 1) := by decide +kernel
theorem dX1_end_5 : decode cX1_end 5 = .ok (.getfield 37, 3) := by decide +kernel
theorem dX1_end_8 : decode cX1_end 8 = .ok (.iadd, 1) := by decide +kernel
theorem dX1_end_9 : decode cX1_end 9 = .ok (.ireturn, 1) := by decide +kernel
theorem dX1_hasCrane_0 : decode cX1_hasCrane 0 = .ok (.aload_n 0, 1) := by decide +kernel
theorem dX1_hasCrane_1 : decode cX1_hasCrane 1 = .ok (.getfield 9, 3) := by decide +kernel
theorem dX1_hasCrane_4 : decode cX1_hasCrane 4 = .ok (.bipush 119, 2) := by decide +kernel
theorem dX1_hasCrane_6 : decode cX1_hasCrane 6 = .ok (.if_icmp .eq 7, 3) := by decide +kernel
theorem dX1_hasCrane_9 : decode cX1_hasCrane 9 = .ok (.iconst 1, 1) := by decide +kernel
theorem dX1_hasCrane_10 : decode cX1_hasCrane 10 = .ok (.goto 4, 3) := by decide +kernel
theorem dX1_hasCrane_13 : decode cX1_hasCrane 13 = .ok (.iconst 0, 1) := by decide +kernel
theorem dX1_hasCrane_14 : decode cX1_hasCrane 14 = .ok (.ireturn, 1) := by decide +kernel
set_option maxRecDepth 20000 in
theorem ggX1_isOn_X1_hasCrane : GoodIn wsX1_isOn wsX1_hasCrane := goodIn_r _ [6, 7, 8, 9, 10, 11, 12, 13, 14, 15, 16, 17, 18] (by decide +kernel) (by decide +kernel)
set_option maxRecDepth 20000 in
theorem gX1_isOn_X1_hasCrane : GoodIn wsX1_isOn (wsV RX1 51 RX1 yX1_hasCrane wsX1_hasCrane) := goodIn_app (goodIn_of _ (by decide +kernel)) ggX1_isOn_X1_hasCrane
theorem dX1_isOn_0 : decode cX1_isOn 0 = .ok (.aload_n 0, 1) := by decide +kernel
theorem dX1_isOn_1 : decode cX1_isOn 1 = .ok (.invokevirtual 51, 3) := by decide +kernel
theorem dX1_isOn_4 : decode cX1_isOn 4 = .ok (.ifCond .eq 15, 3) := by decide +kernel
theorem dX1_isOn_7 : decode cX1_isOn 7 = .ok (.aload_n 0, 1) := by decide +kernel
theorem dX1_isOn_8 : decode cX1_isOn 8 = .ok (.getfield 15, 3) := by decide +kernel
theorem dX1_isOn_11 : decode cX1_isOn 11 = .ok (.iload_n 1, 1) := by decide +kernel
theorem dX1_isOn_12 : decode cX1_isOn 12 = .ok (.if_icmp .ne 7, 3) := by decide +kernel
theorem dX1_isOn_15 : decode cX1_isOn 15 = .ok (.iconst 1, 1) := by decide +kernel
theorem dX1_isOn_16 : decode cX1_isOn 16 = .ok (.goto 4, 3) := by decide +kernel
theorem dX1_isOn_19 : decode cX1_isOn 19 = .ok (.iconst 0, 1) := by decide +kernel
theorem dX1_isOn_20 : decode cX1_isOn 20 = .ok (.ireturn, 1) := by decide +kernel
set_option maxRecDepth 20000 in
theorem ggX1_meets_X1_hasCrane : GoodIn wsX1_meets wsX1_hasCrane := goodIn_r _ [6, 7, 13, 14, 15, 16, 17, 18, 19, 20, 21, 22, 23] (by decide +kernel) (by decide +kernel)
set_option maxRecDepth 20000 in
theorem gX1_meets_X1_hasCrane : GoodIn wsX1_meets (wsV RX1 51 RX1 yX1_hasCrane wsX1_hasCrane) := goodIn_app (goodIn_of _ (by decide +kernel)) ggX1_meets_X1_hasCrane
set_option maxRecDepth 20000 in
theorem ggX1_meets_X1_end : GoodIn wsX1_meets wsX1_end := goodIn_r _ [11, 1, 12, 13, 14, 15, 16, 17, 18, 19, 20, 21, 22, 23] (by decide +kernel) (by decide +kernel)
set_option maxRecDepth 20000 in
theorem gX1_meets_X1_end : GoodIn wsX1_meets (wsV RX1 55 RX1 yX1_end wsX1_end) := goodIn_app (goodIn_of _ (by decide +kernel)) ggX1_meets_X1_end
theorem dX1_meets_0 : decode cX1_meets 0 = .ok (.aload_n 0, 1) := by decide +kernel
theorem dX1_meets_1 : decode cX1_meets 1 = .ok (.invokevirtual 51, 3) := by decide +kernel
theorem dX1_meets_4 : decode cX1_meets 4 = .ok (.ifCond .eq 23, 3) := by decide +kernel
theorem dX1_meets_7 : decode cX1_meets 7 = .ok (.aload_n 0, 1) := by decide +kernel
theorem dX1_meets_8 : decode cX1_meets 8 = .ok (.getfield 19, 3) := by decide +kernel
theorem dX1_meets_11 : decode cX1_meets 11 = .ok (.iload_n 2, 1) := by decide +kernel
theorem dX1_meets_12 : decode cX1_meets 12 = .ok (.if_icmp .ge 15, 3) := by decide +kernel
theorem dX1_meets_15 : decode cX1_meets 15 = .ok (.iload_n 1, 1) := by decide +kernel
theorem dX1_meets_16 : decode cX1_meets 16 = .ok (.aload_n 0, 1) := by decide +kernel
theorem dX1_meets_17 : decode cX1_meets 17 = .ok (.invokevirtual 55, 3) := by decide +kernel
theorem dX1_meets_20 : decode cX1_meets 20 = .ok (.if_icmp .ge 7, 3) := by decide +kernel
theorem dX1_meets_23 : decode cX1_meets 23 = .ok (.iconst 1, 1) := by decide +kernel
theorem dX1_meets_24 : decode cX1_meets 24 = .ok (.goto 4, 3) := by decide +kernel
theorem dX1_meets_27 : decode cX1_meets 27 = .ok (.iconst 0, 1) := by decide +kernel
theorem dX1_meets_28 : decode cX1_meets 28 = .ok (.ireturn, 1) := by decide +kernel
theorem dX1_sharesAir_0 : decode cX1_sharesAir 0 = .ok (.aload_n 0, 1) := by decide +kernel
theorem dX1_sharesAir_1 : decode cX1_sharesAir 1 = .ok (.getfield 47, 3) := by decide +kernel
theorem dX1_sharesAir_4 : decode cX1_sharesAir 4 = .ok (.aload_n 1, 1) := by decide +kernel
theorem dX1_sharesAir_5 : decode cX1_sharesAir 5 = .ok (.getfield 47, 3) := by decide +kernel
theorem dX1_sharesAir_8 : decode cX1_sharesAir 8 = .ok (.land, 1) := by decide +kernel
theorem dX1_sharesAir_9 : decode cX1_sharesAir 9 = .ok (.lconst 0, 1) := by decide +kernel
theorem dX1_sharesAir_10 : decode cX1_sharesAir 10 = .ok (.lcmp, 1) := by decide +kernel
theorem dX1_sharesAir_11 : decode cX1_sharesAir 11 = .ok (.ifCond .eq 7, 3) := by decide +kernel
theorem dX1_sharesAir_14 : decode cX1_sharesAir 14 = .ok (.iconst 1, 1) := by decide +kernel
theorem dX1_sharesAir_15 : decode cX1_sharesAir 15 = .ok (.goto 4, 3) := by decide +kernel
theorem dX1_sharesAir_18 : decode cX1_sharesAir 18 = .ok (.iconst 0, 1) := by decide +kernel
theorem dX1_sharesAir_19 : decode cX1_sharesAir 19 = .ok (.ireturn, 1) := by decide +kernel
theorem dX1_put_0 : decode cX1_put 0 = .ok (.aload_n 0, 1) := by decide +kernel
theorem dX1_put_1 : decode cX1_put 1 = .ok (.bipush 112, 2) := by decide +kernel
theorem dX1_put_3 : decode cX1_put 3 = .ok (.putfield 9, 3) := by decide +kernel
theorem dX1_put_6 : decode cX1_put 6 = .ok (.aload_n 0, 1) := by decide +kernel
theorem dX1_put_7 : decode cX1_put 7 = .ok (.iload_n 1, 1) := by decide +kernel
theorem dX1_put_8 : decode cX1_put 8 = .ok (.putfield 15, 3) := by decide +kernel
theorem dX1_put_11 : decode cX1_put 11 = .ok (.aload_n 0, 1) := by decide +kernel
theorem dX1_put_12 : decode cX1_put 12 = .ok (.iload_n 2, 1) := by decide +kernel
theorem dX1_put_13 : decode cX1_put 13 = .ok (.putfield 19, 3) := by decide +kernel
theorem dX1_put_16 : decode cX1_put 16 = .ok (.return_, 1) := by decide +kernel
theorem dX1_takeBack_0 : decode cX1_takeBack 0 = .ok (.aload_n 0, 1) := by decide +kernel
theorem dX1_takeBack_1 : decode cX1_takeBack 1 = .ok (.bipush 119, 2) := by decide +kernel
theorem dX1_takeBack_3 : decode cX1_takeBack 3 = .ok (.putfield 9, 3) := by decide +kernel
theorem dX1_takeBack_6 : decode cX1_takeBack 6 = .ok (.aload_n 0, 1) := by decide +kernel
theorem dX1_takeBack_7 : decode cX1_takeBack 7 = .ok (.iconst (-1), 1) := by decide +kernel
theorem dX1_takeBack_8 : decode cX1_takeBack 8 = .ok (.putfield 15, 3) := by decide +kernel
theorem dX1_takeBack_11 : decode cX1_takeBack 11 = .ok (.aload_n 0, 1) := by decide +kernel
theorem dX1_takeBack_12 : decode cX1_takeBack 12 = .ok (.iconst (-1), 1) := by decide +kernel
theorem dX1_takeBack_13 : decode cX1_takeBack 13 = .ok (.putfield 19, 3) := by decide +kernel
theorem dX1_takeBack_16 : decode cX1_takeBack 16 = .ok (.return_, 1) := by decide +kernel
theorem dX2_init_0 : decode cX2_init 0 = .ok (.aload_n 0, 1) := by decide +kernel
theorem dX2_init_1 : decode cX2_init 1 = .ok (.invokespecial 1, 3) := by decide +kernel
theorem dX2_init_4 : decode cX2_init 4 = .ok (.aload_n 0, 1) := by decide +kernel
theorem dX2_init_5 : decode cX2_init 5 = .ok (.iload_n 1, 1) := by decide +kernel
theorem dX2_init_6 : decode cX2_init 6 = .ok (.putfield 7, 3) := by decide +kernel
theorem dX2_init_9 : decode cX2_init 9 = .ok (.aload_n 0, 1) := by decide +kernel
theorem dX2_init_10 : decode cX2_init 10 = .ok (.iload_n 2, 1) := by decide +kernel
theorem dX2_init_11 : decode cX2_init 11 = .ok (.putfield 13, 3) := by decide +kernel
theorem dX2_init_14 : decode cX2_init 14 = .ok (.aload_n 0, 1) := by decide +kernel
theorem dX2_init_15 : decode cX2_init 15 = .ok (.iload_n 3, 1) := by decide +kernel
theorem dX2_init_16 : decode cX2_init 16 = .ok (.putfield 16, 3) := by decide +kernel
theorem dX2_init_19 : decode cX2_init 19 = .ok (.return_, 1) := by decide +kernel
theorem dX3_init_0 : decode cX3_init 0 = .ok (.aload_n 0, 1) := by decide +kernel
theorem dX3_init_1 : decode cX3_init 1 = .ok (.invokespecial 1, 3) := by decide +kernel
theorem dX3_init_4 : decode cX3_init 4 = .ok (.aload_n 0, 1) := by decide +kernel
theorem dX3_init_5 : decode cX3_init 5 = .ok (.iconst 5, 1) := by decide +kernel
theorem dX3_init_6 : decode cX3_init 6 = .ok (.anewarray 9, 3) := by decide +kernel
theorem dX3_init_9 : decode cX3_init 9 = .ok (.putfield 11, 3) := by decide +kernel
theorem dX3_init_12 : decode cX3_init 12 = .ok (.aload_n 0, 1) := by decide +kernel
theorem dX3_init_13 : decode cX3_init 13 = .ok (.bipush 40, 2) := by decide +kernel
theorem dX3_init_15 : decode cX3_init 15 = .ok (.anewarray 15, 3) := by decide +kernel
theorem dX3_init_18 : decode cX3_init 18 = .ok (.putfield 17, 3) := by decide +kernel
theorem dX3_init_21 : decode cX3_init 21 = .ok (.aload_n 0, 1) := by decide +kernel
theorem dX3_init_22 : decode cX3_init 22 = .ok (.bipush 6, 2) := by decide +kernel
theorem dX3_init_24 : decode cX3_init 24 = .ok (.anewarray 21, 3) := by decide +kernel
theorem dX3_init_27 : decode cX3_init 27 = .ok (.putfield 23, 3) := by decide +kernel
theorem dX3_init_30 : decode cX3_init 30 = .ok (.aload_n 0, 1) := by decide +kernel
theorem dX3_init_31 : decode cX3_init 31 = .ok (.bipush 8, 2) := by decide +kernel
theorem dX3_init_33 : decode cX3_init 33 = .ok (.newarray .int, 2) := by decide +kernel
theorem dX3_init_35 : decode cX3_init 35 = .ok (.putfield 27, 3) := by decide +kernel
theorem dX3_init_38 : decode cX3_init 38 = .ok (.aload_n 0, 1) := by decide +kernel
theorem dX3_init_39 : decode cX3_init 39 = .ok (.sipush 1440, 3) := by decide +kernel
theorem dX3_init_42 : decode cX3_init 42 = .ok (.newarray .int, 2) := by decide +kernel
theorem dX3_init_44 : decode cX3_init 44 = .ok (.putfield 31, 3) := by decide +kernel
theorem dX3_init_47 : decode cX3_init 47 = .ok (.return_, 1) := by decide +kernel
set_option maxRecDepth 20000 in
theorem ggX3_addCrane_X3_isPlace : GoodIn wsX3_addCrane wsX3_isPlace := goodIn_r _ [13, 14, 15, 12, 16] (by decide +kernel) (by decide +kernel)
set_option maxRecDepth 20000 in
theorem gX3_addCrane_X3_isPlace : GoodIn wsX3_addCrane (va_wsS RX3 34 yX3_isPlace wsX3_isPlace) := goodIn_app (goodIn_of _ (by decide +kernel)) ggX3_addCrane_X3_isPlace
set_option maxRecDepth 20000 in
theorem ggX3_addCrane_X3_isFrom : GoodIn wsX3_addCrane wsX3_isFrom := goodIn_r _ [16] (by decide +kernel) (by decide +kernel)
set_option maxRecDepth 20000 in
theorem gX3_addCrane_X3_isFrom : GoodIn wsX3_addCrane (va_wsS RX3 38 yX3_isFrom wsX3_isFrom) := goodIn_app (goodIn_of _ (by decide +kernel)) ggX3_addCrane_X3_isFrom
set_option maxRecDepth 20000 in
theorem ggX3_addCrane_X0_init : GoodIn wsX3_addCrane wsX0_init := goodIn_r _ [19, 20, 21, 22, 23, 24, 25, 26, 27, 38, 39, 40, 41, 42, 43] (by decide +kernel) (by decide +kernel)
set_option maxRecDepth 20000 in
theorem gX3_addCrane_X0_init : GoodIn wsX3_addCrane (wsX0_init) := ggX3_addCrane_X0_init
theorem dX3_addCrane_0 : decode cX3_addCrane 0 = .ok (.iload_n 1, 1) := by decide +kernel
theorem dX3_addCrane_1 : decode cX3_addCrane 1 = .ok (.iload_n 2, 1) := by decide +kernel
theorem dX3_addCrane_2 : decode cX3_addCrane 2 = .ok (.invokestatic 34, 3) := by decide +kernel
theorem dX3_addCrane_5 : decode cX3_addCrane 5 = .ok (.ifCond .eq 37, 3) := by decide +kernel
theorem dX3_addCrane_8 : decode cX3_addCrane 8 = .ok (.iconst 1, 1) := by decide +kernel
theorem dX3_addCrane_9 : decode cX3_addCrane 9 = .ok (.iload_n 3, 1) := by decide +kernel
theorem dX3_addCrane_10 : decode cX3_addCrane 10 = .ok (.bipush 40, 2) := by decide +kernel
theorem dX3_addCrane_12 : decode cX3_addCrane 12 = .ok (.invokestatic 38, 3) := by decide +kernel
theorem dX3_addCrane_15 : decode cX3_addCrane 15 = .ok (.ifCond .eq 27, 3) := by decide +kernel
theorem dX3_addCrane_18 : decode cX3_addCrane 18 = .ok (.iconst 1, 1) := by decide +kernel
theorem dX3_addCrane_19 : decode cX3_addCrane 19 = .ok (.iload 4, 2) := by decide +kernel
theorem dX3_addCrane_21 : decode cX3_addCrane 21 = .ok (.sipush 999, 3) := by decide +kernel
theorem dX3_addCrane_24 : decode cX3_addCrane 24 = .ok (.invokestatic 38, 3) := by decide +kernel
theorem dX3_addCrane_27 : decode cX3_addCrane 27 = .ok (.ifCond .eq 15, 3) := by decide +kernel
theorem dX3_addCrane_30 : decode cX3_addCrane 30 = .ok (.iconst 1, 1) := by decide +kernel
theorem dX3_addCrane_31 : decode cX3_addCrane 31 = .ok (.iload 5, 2) := by decide +kernel
theorem dX3_addCrane_33 : decode cX3_addCrane 33 = .ok (.sipush 9999, 3) := by decide +kernel
theorem dX3_addCrane_36 : decode cX3_addCrane 36 = .ok (.invokestatic 38, 3) := by decide +kernel
theorem dX3_addCrane_39 : decode cX3_addCrane 39 = .ok (.ifCond .ne 11, 3) := by decide +kernel
theorem dX3_addCrane_42 : decode cX3_addCrane 42 = .ok (.new 42, 3) := by decide +kernel
theorem dX3_addCrane_45 : decode cX3_addCrane 45 = .ok (.dup, 1) := by decide +kernel
theorem dX3_addCrane_46 : decode cX3_addCrane 46 = .ok (.invokespecial 44, 3) := by decide +kernel
theorem dX3_addCrane_49 : decode cX3_addCrane 49 = .ok (.athrow, 1) := by decide +kernel
theorem dX3_addCrane_50 : decode cX3_addCrane 50 = .ok (.aload_n 0, 1) := by decide +kernel
theorem dX3_addCrane_51 : decode cX3_addCrane 51 = .ok (.getfield 45, 3) := by decide +kernel
theorem dX3_addCrane_54 : decode cX3_addCrane 54 = .ok (.aload_n 0, 1) := by decide +kernel
theorem dX3_addCrane_55 : decode cX3_addCrane 55 = .ok (.getfield 11, 3) := by decide +kernel
theorem dX3_addCrane_58 : decode cX3_addCrane 58 = .ok (.arraylength, 1) := by decide +kernel
theorem dX3_addCrane_59 : decode cX3_addCrane 59 = .ok (.if_icmp .lt 11, 3) := by decide +kernel
theorem dX3_addCrane_62 : decode cX3_addCrane 62 = .ok (.new 49, 3) := by decide +kernel
theorem dX3_addCrane_65 : decode cX3_addCrane 65 = .ok (.dup, 1) := by decide +kernel
theorem dX3_addCrane_66 : decode cX3_addCrane 66 = .ok (.invokespecial 51, 3) := by decide +kernel
theorem dX3_addCrane_69 : decode cX3_addCrane 69 = .ok (.athrow, 1) := by decide +kernel
theorem dX3_addCrane_70 : decode cX3_addCrane 70 = .ok (.aload_n 0, 1) := by decide +kernel
theorem dX3_addCrane_71 : decode cX3_addCrane 71 = .ok (.getfield 11, 3) := by decide +kernel
theorem dX3_addCrane_74 : decode cX3_addCrane 74 = .ok (.aload_n 0, 1) := by decide +kernel
theorem dX3_addCrane_75 : decode cX3_addCrane 75 = .ok (.getfield 45, 3) := by decide +kernel
theorem dX3_addCrane_78 : decode cX3_addCrane 78 = .ok (.new 9, 3) := by decide +kernel
theorem dX3_addCrane_81 : decode cX3_addCrane 81 = .ok (.dup, 1) := by decide +kernel
theorem dX3_addCrane_82 : decode cX3_addCrane 82 = .ok (.iload_n 1, 1) := by decide +kernel
theorem dX3_addCrane_83 : decode cX3_addCrane 83 = .ok (.iload_n 2, 1) := by decide +kernel
theorem dX3_addCrane_84 : decode cX3_addCrane 84 = .ok (.iload_n 3, 1) := by decide +kernel
theorem dX3_addCrane_85 : decode cX3_addCrane 85 = .ok (.iload 4, 2) := by decide +kernel
theorem dX3_addCrane_87 : decode cX3_addCrane 87 = .ok (.iload 5, 2) := by decide +kernel
theorem dX3_addCrane_89 : decode cX3_addCrane 89 = .ok (.invokespecial 52, 3) := by decide +kernel
theorem dX3_addCrane_92 : decode cX3_addCrane 92 = .ok (.aastore, 1) := by decide +kernel
theorem dX3_addCrane_93 : decode cX3_addCrane 93 = .ok (.aload_n 0, 1) := by decide +kernel
theorem dX3_addCrane_94 : decode cX3_addCrane 94 = .ok (.dup, 1) := by decide +kernel
theorem dX3_addCrane_95 : decode cX3_addCrane 95 = .ok (.getfield 45, 3) := by decide +kernel
theorem dX3_addCrane_98 : decode cX3_addCrane 98 = .ok (.iconst 1, 1) := by decide +kernel
theorem dX3_addCrane_99 : decode cX3_addCrane 99 = .ok (.iadd, 1) := by decide +kernel
theorem dX3_addCrane_100 : decode cX3_addCrane 100 = .ok (.putfield 45, 3) := by decide +kernel
theorem dX3_addCrane_103 : decode cX3_addCrane 103 = .ok (.aload_n 0, 1) := by decide +kernel
theorem dX3_addCrane_104 : decode cX3_addCrane 104 = .ok (.getfield 45, 3) := by decide +kernel
theorem dX3_addCrane_107 : decode cX3_addCrane 107 = .ok (.iconst 1, 1) := by decide +kernel
theorem dX3_addCrane_108 : decode cX3_addCrane 108 = .ok (.isub, 1) := by decide +kernel
theorem dX3_addCrane_109 : decode cX3_addCrane 109 = .ok (.ireturn, 1) := by decide +kernel
set_option maxRecDepth 20000 in
theorem ggX3_permit_X3_craneNumbered : GoodIn wsX3_permit wsX3_craneNumbered := goodIn_r _ [10, 11, 34, 35, 36, 37, 38, 39, 40, 41, 42, 43] (by decide +kernel) (by decide +kernel)
set_option maxRecDepth 20000 in
theorem gX3_permit_X3_craneNumbered : GoodIn wsX3_permit (wsV RX3 55 RX3 yX3_craneNumbered wsX3_craneNumbered) := goodIn_app (goodIn_of _ (by decide +kernel)) ggX3_permit_X3_craneNumbered
set_option maxRecDepth 20000 in
theorem ggX3_permit_X3_areHours : GoodIn wsX3_permit wsX3_areHours := goodIn_r _ [14, 15, 16, 9, 17] (by decide +kernel) (by decide +kernel)
set_option maxRecDepth 20000 in
theorem gX3_permit_X3_areHours : GoodIn wsX3_permit (va_wsS RX3 62 yX3_areHours wsX3_areHours) := goodIn_app (goodIn_of _ (by decide +kernel)) ggX3_permit_X3_areHours
set_option maxRecDepth 20000 in
theorem ggX3_permit_X3_bitsOfHours : GoodIn wsX3_permit wsX3_bitsOfHours := goodIn_r _ [20] (by decide +kernel) (by decide +kernel)
set_option maxRecDepth 20000 in
theorem gX3_permit_X3_bitsOfHours : GoodIn wsX3_permit (va_wsS RX3 68 yX3_bitsOfHours wsX3_bitsOfHours) := goodIn_app (goodIn_of _ (by decide +kernel)) ggX3_permit_X3_bitsOfHours
set_option maxRecDepth 20000 in
theorem ggX3_permit_J6_bitCount_0f7a4 : GoodIn wsX3_permit wsJ6_bitCount_0f7a4 := goodIn_r _ [24, 25, 26, 27] (by decide +kernel) (by decide +kernel)
set_option maxRecDepth 20000 in
theorem gX3_permit_J6_bitCount_0f7a4 : GoodIn wsX3_permit (va_wsS RX3 72 yJ6_bitCount_0f7a4 wsJ6_bitCount_0f7a4) := goodIn_app (goodIn_of _ (by decide +kernel)) ggX3_permit_J6_bitCount_0f7a4
theorem dX3_permit_0 : decode cX3_permit 0 = .ok (.aload_n 0, 1) := by decide +kernel
theorem dX3_permit_1 : decode cX3_permit 1 = .ok (.iload_n 1, 1) := by decide +kernel
theorem dX3_permit_2 : decode cX3_permit 2 = .ok (.invokevirtual 55, 3) := by decide +kernel
theorem dX3_permit_5 : decode cX3_permit 5 = .ok (.astore 4, 2) := by decide +kernel
theorem dX3_permit_7 : decode cX3_permit 7 = .ok (.aload 4, 2) := by decide +kernel
theorem dX3_permit_9 : decode cX3_permit 9 = .ok (.ifnonnull 11, 3) := by decide +kernel
theorem dX3_permit_12 : decode cX3_permit 12 = .ok (.new 59, 3) := by decide +kernel
theorem dX3_permit_15 : decode cX3_permit 15 = .ok (.dup, 1) := by decide +kernel
theorem dX3_permit_16 : decode cX3_permit 16 = .ok (.invokespecial 61, 3) := by decide +kernel
theorem dX3_permit_19 : decode cX3_permit 19 = .ok (.athrow, 1) := by decide +kernel
theorem dX3_permit_20 : decode cX3_permit 20 = .ok (.iload_n 2, 1) := by decide +kernel
theorem dX3_permit_21 : decode cX3_permit 21 = .ok (.iload_n 3, 1) := by decide +kernel
theorem dX3_permit_22 : decode cX3_permit 22 = .ok (.invokestatic 62, 3) := by decide +kernel
theorem dX3_permit_25 : decode cX3_permit 25 = .ok (.ifCond .ne 11, 3) := by decide +kernel
theorem dX3_permit_28 : decode cX3_permit 28 = .ok (.new 42, 3) := by decide +kernel
theorem dX3_permit_31 : decode cX3_permit 31 = .ok (.dup, 1) := by decide +kernel
theorem dX3_permit_32 : decode cX3_permit 32 = .ok (.invokespecial 44, 3) := by decide +kernel
theorem dX3_permit_35 : decode cX3_permit 35 = .ok (.athrow, 1) := by decide +kernel
theorem dX3_permit_36 : decode cX3_permit 36 = .ok (.aload 4, 2) := by decide +kernel
theorem dX3_permit_38 : decode cX3_permit 38 = .ok (.dup, 1) := by decide +kernel
theorem dX3_permit_39 : decode cX3_permit 39 = .ok (.getfield 65, 3) := by decide +kernel
theorem dX3_permit_42 : decode cX3_permit 42 = .ok (.iload_n 2, 1) := by decide +kernel
theorem dX3_permit_43 : decode cX3_permit 43 = .ok (.iload_n 3, 1) := by decide +kernel
theorem dX3_permit_44 : decode cX3_permit 44 = .ok (.invokestatic 68, 3) := by decide +kernel
theorem dX3_permit_47 : decode cX3_permit 47 = .ok (.ior, 1) := by decide +kernel
theorem dX3_permit_48 : decode cX3_permit 48 = .ok (.putfield 65, 3) := by decide +kernel
theorem dX3_permit_51 : decode cX3_permit 51 = .ok (.aload 4, 2) := by decide +kernel
theorem dX3_permit_53 : decode cX3_permit 53 = .ok (.getfield 65, 3) := by decide +kernel
theorem dX3_permit_56 : decode cX3_permit 56 = .ok (.invokestatic 72, 3) := by decide +kernel
theorem dX3_permit_59 : decode cX3_permit 59 = .ok (.ireturn, 1) := by decide +kernel
set_option maxRecDepth 20000 in
theorem ggX3_endPermit_X3_craneNumbered : GoodIn wsX3_endPermit wsX3_craneNumbered := goodIn_r _ [10, 11, 88, 89, 90, 91, 92, 93, 94, 95, 96, 97] (by decide +kernel) (by decide +kernel)
set_option maxRecDepth 20000 in
theorem gX3_endPermit_X3_craneNumbered : GoodIn wsX3_endPermit (wsV RX3 55 RX3 yX3_craneNumbered wsX3_craneNumbered) := goodIn_app (goodIn_of _ (by decide +kernel)) ggX3_endPermit_X3_craneNumbered
set_option maxRecDepth 20000 in
theorem ggX3_endPermit_X3_areHours : GoodIn wsX3_endPermit wsX3_areHours := goodIn_r _ [14, 15, 16, 9, 17] (by decide +kernel) (by decide +kernel)
set_option maxRecDepth 20000 in
theorem gX3_endPermit_X3_areHours : GoodIn wsX3_endPermit (va_wsS RX3 62 yX3_areHours wsX3_areHours) := goodIn_app (goodIn_of _ (by decide +kernel)) ggX3_endPermit_X3_areHours
set_option maxRecDepth 20000 in
theorem ggX3_endPermit_X3_bitsOfHours : GoodIn wsX3_endPermit wsX3_bitsOfHours := goodIn_r _ [20] (by decide +kernel) (by decide +kernel)
set_option maxRecDepth 20000 in
theorem gX3_endPermit_X3_bitsOfHours : GoodIn wsX3_endPermit (va_wsS RX3 68 yX3_bitsOfHours wsX3_bitsOfHours) := goodIn_app (goodIn_of _ (by decide +kernel)) ggX3_endPermit_X3_bitsOfHours
set_option maxRecDepth 20000 in
theorem ggX3_endPermit_X3_takeBackUnfit : GoodIn wsX3_endPermit wsX3_takeBackUnfit := goodIn_ca (goodIn_r _ [24, 25, 26, 27, 28, 29, 9, 30, 31, 32, 33, 6, 7, 8, 10, 11, 34, 35, 36, 37, 38, 39, 40, 41, 42, 43, 44, 45, 46, 47, 48, 49, 50, 51, 52, 53, 54, 55, 56, 57, 58, 59, 60, 61, 62, 63, 64, 65, 66, 67, 68, 69, 70, 71, 72, 73, 74, 75, 76, 77, 78, 79, 80, 81, 88, 89, 90, 91, 92, 93, 94, 95, 96, 97, 98, 99, 100, 101, 102, 103, 104, 105, 106, 107, 108, 82, 83, 84, 85, 86, 87] (by decide +kernel) (by decide +kernel)) (goodIn_sub (fun _ h => List.mem_cons_of_mem _ (List.mem_append_right _ h)) (by decide +kernel))
set_option maxRecDepth 20000 in
theorem gX3_endPermit_X3_takeBackUnfit : GoodIn wsX3_endPermit (wsV RX3 78 RX3 yX3_takeBackUnfit wsX3_takeBackUnfit) := goodIn_app (goodIn_of _ (by decide +kernel)) ggX3_endPermit_X3_takeBackUnfit
theorem dX3_endPermit_0 : decode cX3_endPermit 0 = .ok (.aload_n 0, 1) := by decide +kernel
theorem dX3_endPermit_1 : decode cX3_endPermit 1 = .ok (.iload_n 1, 1) := by decide +kernel
theorem dX3_endPermit_2 : decode cX3_endPermit 2 = .ok (.invokevirtual 55, 3) := by decide +kernel
theorem dX3_endPermit_5 : decode cX3_endPermit 5 = .ok (.astore 4, 2) := by decide +kernel
theorem dX3_endPermit_7 : decode cX3_endPermit 7 = .ok (.aload 4, 2) := by decide +kernel
theorem dX3_endPermit_9 : decode cX3_endPermit 9 = .ok (.ifnonnull 11, 3) := by decide +kernel
theorem dX3_endPermit_12 : decode cX3_endPermit 12 = .ok (.new 59, 3) := by decide +kernel
theorem dX3_endPermit_15 : decode cX3_endPermit 15 = .ok (.dup, 1) := by decide +kernel
theorem dX3_endPermit_16 : decode cX3_endPermit 16 = .ok (.invokespecial 61, 3) := by decide +kernel
theorem dX3_endPermit_19 : decode cX3_endPermit 19 = .ok (.athrow, 1) := by decide +kernel
theorem dX3_endPermit_20 : decode cX3_endPermit 20 = .ok (.iload_n 2, 1) := by decide +kernel
theorem dX3_endPermit_21 : decode cX3_endPermit 21 = .ok (.iload_n 3, 1) := by decide +kernel
theorem dX3_endPermit_22 : decode cX3_endPermit 22 = .ok (.invokestatic 62, 3) := by decide +kernel
theorem dX3_endPermit_25 : decode cX3_endPermit 25 = .ok (.ifCond .ne 11, 3) := by decide +kernel
theorem dX3_endPermit_28 : decode cX3_endPermit 28 = .ok (.new 42, 3) := by decide +kernel
theorem dX3_endPermit_31 : decode cX3_endPermit 31 = .ok (.dup, 1) := by decide +kernel
theorem dX3_endPermit_32 : decode cX3_endPermit 32 = .ok (.invokespecial 44, 3) := by decide +kernel
theorem dX3_endPermit_35 : decode cX3_endPermit 35 = .ok (.athrow, 1) := by decide +kernel
theorem dX3_endPermit_36 : decode cX3_endPermit 36 = .ok (.aload 4, 2) := by decide +kernel
theorem dX3_endPermit_38 : decode cX3_endPermit 38 = .ok (.dup, 1) := by decide +kernel
theorem dX3_endPermit_39 : decode cX3_endPermit 39 = .ok (.getfield 65, 3) := by decide +kernel
theorem dX3_endPermit_42 : decode cX3_endPermit 42 = .ok (.iload_n 2, 1) := by decide +kernel
theorem dX3_endPermit_43 : decode cX3_endPermit 43 = .ok (.iload_n 3, 1) := by decide +kernel
theorem dX3_endPermit_44 : decode cX3_endPermit 44 = .ok (.invokestatic 68, 3) := by decide +kernel
theorem dX3_endPermit_47 : decode cX3_endPermit 47 = .ok (.iconst (-1), 1) := by decide +kernel
theorem dX3_endPermit_48 : decode cX3_endPermit 48 = .ok (.ixor, 1) := by decide +kernel
theorem dX3_endPermit_49 : decode cX3_endPermit 49 = .ok (.iand, 1) := by decide +kernel
theorem dX3_endPermit_50 : decode cX3_endPermit 50 = .ok (.putfield 65, 3) := by decide +kernel
theorem dX3_endPermit_53 : decode cX3_endPermit 53 = .ok (.aload_n 0, 1) := by decide +kernel
theorem dX3_endPermit_54 : decode cX3_endPermit 54 = .ok (.invokevirtual 78, 3) := by decide +kernel
theorem dX3_endPermit_57 : decode cX3_endPermit 57 = .ok (.ireturn, 1) := by decide +kernel
set_option maxRecDepth 20000 in
theorem ggX3_setWind_X3_isFrom : GoodIn wsX3_setWind wsX3_isFrom := goodIn_r _ [7] (by decide +kernel) (by decide +kernel)
set_option maxRecDepth 20000 in
theorem gX3_setWind_X3_isFrom : GoodIn wsX3_setWind (va_wsS RX3 38 yX3_isFrom wsX3_isFrom) := goodIn_app (goodIn_of _ (by decide +kernel)) ggX3_setWind_X3_isFrom
set_option maxRecDepth 20000 in
theorem ggX3_setWind_X3_takeBackUnfit : GoodIn wsX3_setWind wsX3_takeBackUnfit := goodIn_ca (goodIn_r _ [11, 12, 13, 14, 15, 16, 6, 17, 18, 3, 19, 20, 21, 22, 23, 24, 25, 26, 27, 28, 29, 30, 31, 32, 33, 34, 35, 36, 37, 38, 39, 40, 41, 42, 43, 44, 45, 46, 47, 48, 49, 50, 51, 52, 53, 54, 55, 56, 57, 58, 59, 60, 61, 62, 63, 64, 65, 66, 67, 68, 69, 70, 71, 72, 73, 74, 75, 76, 77, 78, 79, 80, 81, 82, 83, 84, 85, 86, 87, 88, 89, 90, 91, 92, 93, 94, 95, 96, 97, 98, 99] (by decide +kernel) (by decide +kernel)) (goodIn_sub (fun _ h => List.mem_cons_of_mem _ (List.mem_append_right _ h)) (by decide +kernel))
set_option maxRecDepth 20000 in
theorem gX3_setWind_X3_takeBackUnfit : GoodIn wsX3_setWind (wsV RX3 78 RX3 yX3_takeBackUnfit wsX3_takeBackUnfit) := goodIn_app (goodIn_of _ (by decide +kernel)) ggX3_setWind_X3_takeBackUnfit
theorem dX3_setWind_0 : decode cX3_setWind 0 = .ok (.iconst 0, 1) := by decide +kernel
theorem dX3_setWind_1 : decode cX3_setWind 1 = .ok (.iload_n 1, 1) := by decide +kernel
theorem dX3_setWind_2 : decode cX3_setWind 2 = .ok (.bipush 40, 2) := by decide +kernel
theorem dX3_setWind_4 : decode cX3_setWind 4 = .ok (.invokestatic 38, 3) := by decide +kernel
theorem dX3_setWind_7 : decode cX3_setWind 7 = .ok (.ifCond .ne 11, 3) := by decide +kernel
theorem dX3_setWind_10 : decode cX3_setWind 10 = .ok (.new 42, 3) := by decide +kernel
theorem dX3_setWind_13 : decode cX3_setWind 13 = .ok (.dup, 1) := by decide +kernel
theorem dX3_setWind_14 : decode cX3_setWind 14 = .ok (.invokespecial 44, 3) := by decide +kernel
theorem dX3_setWind_17 : decode cX3_setWind 17 = .ok (.athrow, 1) := by decide +kernel
theorem dX3_setWind_18 : decode cX3_setWind 18 = .ok (.aload_n 0, 1) := by decide +kernel
theorem dX3_setWind_19 : decode cX3_setWind 19 = .ok (.iload_n 1, 1) := by decide +kernel
theorem dX3_setWind_20 : decode cX3_setWind 20 = .ok (.putfield 82, 3) := by decide +kernel
theorem dX3_setWind_23 : decode cX3_setWind 23 = .ok (.aload_n 0, 1) := by decide +kernel
theorem dX3_setWind_24 : decode cX3_setWind 24 = .ok (.invokevirtual 78, 3) := by decide +kernel
theorem dX3_setWind_27 : decode cX3_setWind 27 = .ok (.ireturn, 1) := by decide +kernel
set_option maxRecDepth 20000 in
theorem ggX3_addLift_X3_isPlace : GoodIn wsX3_addLift wsX3_isPlace := goodIn_r _ [13, 14, 15, 12, 16] (by decide +kernel) (by decide +kernel)
set_option maxRecDepth 20000 in
theorem gX3_addLift_X3_isPlace : GoodIn wsX3_addLift (va_wsS RX3 34 yX3_isPlace wsX3_isPlace) := goodIn_app (goodIn_of _ (by decide +kernel)) ggX3_addLift_X3_isPlace
set_option maxRecDepth 20000 in
theorem ggX3_addLift_X3_isBurden : GoodIn wsX3_addLift wsX3_isBurden := goodIn_r _ [19, 14, 15, 12, 16] (by decide +kernel) (by decide +kernel)
set_option maxRecDepth 20000 in
theorem gX3_addLift_X3_isBurden : GoodIn wsX3_addLift (va_wsS RX3 85 yX3_isBurden wsX3_isBurden) := goodIn_app (goodIn_of _ (by decide +kernel)) ggX3_addLift_X3_isBurden
set_option maxRecDepth 20000 in
theorem ggX3_addLift_X1_init : GoodIn wsX3_addLift wsX1_init := goodIn_r _ [22, 23, 24, 25, 26, 27, 28, 29, 30, 31, 32, 33, 34, 35, 36, 37, 12, 38, 39, 40, 41, 42, 43, 44, 45, 60, 61, 62, 63, 64, 65, 66, 67, 68, 69, 70] (by decide +kernel) (by decide +kernel)
set_option maxRecDepth 20000 in
theorem gX3_addLift_X1_init : GoodIn wsX3_addLift (wsX1_init) := ggX3_addLift_X1_init
set_option maxRecDepth 20000 in
theorem ggX3_addLift_X3_keepLift : GoodIn wsX3_addLift wsX3_keepLift := goodIn_r _ [49, 5, 6, 50, 51, 52, 53, 54, 55, 56, 57, 58, 59] (by decide +kernel) (by decide +kernel)
set_option maxRecDepth 20000 in
theorem gX3_addLift_X3_keepLift : GoodIn wsX3_addLift (wsV RX3 94 RX3 yX3_keepLift wsX3_keepLift) := goodIn_app (goodIn_of _ (by decide +kernel)) ggX3_addLift_X3_keepLift
theorem dX3_addLift_0 : decode cX3_addLift 0 = .ok (.iload_n 1, 1) := by decide +kernel
theorem dX3_addLift_1 : decode cX3_addLift 1 = .ok (.iload_n 2, 1) := by decide +kernel
theorem dX3_addLift_2 : decode cX3_addLift 2 = .ok (.invokestatic 34, 3) := by decide +kernel
theorem dX3_addLift_5 : decode cX3_addLift 5 = .ok (.ifCond .eq 22, 3) := by decide +kernel
theorem dX3_addLift_8 : decode cX3_addLift 8 = .ok (.iload_n 3, 1) := by decide +kernel
theorem dX3_addLift_9 : decode cX3_addLift 9 = .ok (.iload 4, 2) := by decide +kernel
theorem dX3_addLift_11 : decode cX3_addLift 11 = .ok (.invokestatic 34, 3) := by decide +kernel
theorem dX3_addLift_14 : decode cX3_addLift 14 = .ok (.ifCond .eq 13, 3) := by decide +kernel
theorem dX3_addLift_17 : decode cX3_addLift 17 = .ok (.iload 5, 2) := by decide +kernel
theorem dX3_addLift_19 : decode cX3_addLift 19 = .ok (.iload 6, 2) := by decide +kernel
theorem dX3_addLift_21 : decode cX3_addLift 21 = .ok (.invokestatic 85, 3) := by decide +kernel
theorem dX3_addLift_24 : decode cX3_addLift 24 = .ok (.ifCond .ne 11, 3) := by decide +kernel
theorem dX3_addLift_27 : decode cX3_addLift 27 = .ok (.new 42, 3) := by decide +kernel
theorem dX3_addLift_30 : decode cX3_addLift 30 = .ok (.dup, 1) := by decide +kernel
theorem dX3_addLift_31 : decode cX3_addLift 31 = .ok (.invokespecial 44, 3) := by decide +kernel
theorem dX3_addLift_34 : decode cX3_addLift 34 = .ok (.athrow, 1) := by decide +kernel
theorem dX3_addLift_35 : decode cX3_addLift 35 = .ok (.aload_n 0, 1) := by decide +kernel
theorem dX3_addLift_36 : decode cX3_addLift 36 = .ok (.getfield 88, 3) := by decide +kernel
theorem dX3_addLift_39 : decode cX3_addLift 39 = .ok (.aload_n 0, 1) := by decide +kernel
theorem dX3_addLift_40 : decode cX3_addLift 40 = .ok (.getfield 17, 3) := by decide +kernel
theorem dX3_addLift_43 : decode cX3_addLift 43 = .ok (.arraylength, 1) := by decide +kernel
theorem dX3_addLift_44 : decode cX3_addLift 44 = .ok (.if_icmp .lt 11, 3) := by decide +kernel
theorem dX3_addLift_47 : decode cX3_addLift 47 = .ok (.new 49, 3) := by decide +kernel
theorem dX3_addLift_50 : decode cX3_addLift 50 = .ok (.dup, 1) := by decide +kernel
theorem dX3_addLift_51 : decode cX3_addLift 51 = .ok (.invokespecial 51, 3) := by decide +kernel
theorem dX3_addLift_54 : decode cX3_addLift 54 = .ok (.athrow, 1) := by decide +kernel
theorem dX3_addLift_55 : decode cX3_addLift 55 = .ok (.aload_n 0, 1) := by decide +kernel
theorem dX3_addLift_56 : decode cX3_addLift 56 = .ok (.new 15, 3) := by decide +kernel
theorem dX3_addLift_59 : decode cX3_addLift 59 = .ok (.dup, 1) := by decide +kernel
theorem dX3_addLift_60 : decode cX3_addLift 60 = .ok (.iload_n 1, 1) := by decide +kernel
theorem dX3_addLift_61 : decode cX3_addLift 61 = .ok (.iload_n 2, 1) := by decide +kernel
theorem dX3_addLift_62 : decode cX3_addLift 62 = .ok (.iload_n 3, 1) := by decide +kernel
theorem dX3_addLift_63 : decode cX3_addLift 63 = .ok (.iload 4, 2) := by decide +kernel
theorem dX3_addLift_65 : decode cX3_addLift 65 = .ok (.iload 5, 2) := by decide +kernel
theorem dX3_addLift_67 : decode cX3_addLift 67 = .ok (.iload 6, 2) := by decide +kernel
theorem dX3_addLift_69 : decode cX3_addLift 69 = .ok (.iconst (-1), 1) := by decide +kernel
theorem dX3_addLift_70 : decode cX3_addLift 70 = .ok (.invokespecial 91, 3) := by decide +kernel
theorem dX3_addLift_73 : decode cX3_addLift 73 = .ok (.invokevirtual 94, 3) := by decide +kernel
theorem dX3_addLift_76 : decode cX3_addLift 76 = .ok (.aload_n 0, 1) := by decide +kernel
theorem dX3_addLift_77 : decode cX3_addLift 77 = .ok (.getfield 88, 3) := by decide +kernel
theorem dX3_addLift_80 : decode cX3_addLift 80 = .ok (.iconst 1, 1) := by decide +kernel
theorem dX3_addLift_81 : decode cX3_addLift 81 = .ok (.isub, 1) := by decide +kernel
theorem dX3_addLift_82 : decode cX3_addLift 82 = .ok (.ireturn, 1) := by decide +kernel
set_option maxRecDepth 20000 in
theorem ggX3_addPour_X3_isPlace : GoodIn wsX3_addPour wsX3_isPlace := goodIn_r _ [18, 19, 20, 17, 21] (by decide +kernel) (by decide +kernel)
set_option maxRecDepth 20000 in
theorem gX3_addPour_X3_isPlace : GoodIn wsX3_addPour (va_wsS RX3 34 yX3_isPlace wsX3_isPlace) := goodIn_app (goodIn_of _ (by decide +kernel)) ggX3_addPour_X3_isPlace
set_option maxRecDepth 20000 in
theorem ggX3_addPour_X3_isBurden : GoodIn wsX3_addPour wsX3_isBurden := goodIn_r _ [24, 19, 20, 17, 21] (by decide +kernel) (by decide +kernel)
set_option maxRecDepth 20000 in
theorem gX3_addPour_X3_isBurden : GoodIn wsX3_addPour (va_wsS RX3 85 yX3_isBurden wsX3_isBurden) := goodIn_app (goodIn_of _ (by decide +kernel)) ggX3_addPour_X3_isBurden
set_option maxRecDepth 20000 in
theorem ggX3_addPour_X3_isFrom : GoodIn wsX3_addPour wsX3_isFrom := goodIn_r _ [21] (by decide +kernel) (by decide +kernel)
set_option maxRecDepth 20000 in
theorem gX3_addPour_X3_isFrom : GoodIn wsX3_addPour (va_wsS RX3 38 yX3_isFrom wsX3_isFrom) := goodIn_app (goodIn_of _ (by decide +kernel)) ggX3_addPour_X3_isFrom
set_option maxRecDepth 20000 in
theorem ggX3_addPour_X2_init : GoodIn wsX3_addPour wsX2_init := goodIn_r _ [27, 28, 29, 30, 31, 32, 33, 72, 73, 74] (by decide +kernel) (by decide +kernel)
set_option maxRecDepth 20000 in
theorem gX3_addPour_X2_init : GoodIn wsX3_addPour (wsX2_init) := ggX3_addPour_X2_init
set_option maxRecDepth 20000 in
theorem ggX3_addPour_X1_init : GoodIn wsX3_addPour wsX1_init := goodIn_r _ [36, 37, 29, 30, 38, 39, 40, 41, 42, 43, 44, 45, 46, 47, 48, 49, 17, 50, 51, 52, 53, 54, 55, 56, 57, 75, 76, 77, 78, 79, 80, 81, 82, 83, 84, 85] (by decide +kernel) (by decide +kernel)
set_option maxRecDepth 20000 in
theorem gX3_addPour_X1_init : GoodIn wsX3_addPour (wsX1_init) := ggX3_addPour_X1_init
set_option maxRecDepth 20000 in
theorem ggX3_addPour_X3_keepLift : GoodIn wsX3_addPour wsX3_keepLift := goodIn_r _ [61, 7, 8, 62, 63, 64, 65, 66, 67, 68, 69, 70, 71] (by decide +kernel) (by decide +kernel)
set_option maxRecDepth 20000 in
theorem gX3_addPour_X3_keepLift : GoodIn wsX3_addPour (wsV RX3 94 RX3 yX3_keepLift wsX3_keepLift) := goodIn_app (goodIn_of _ (by decide +kernel)) ggX3_addPour_X3_keepLift
theorem dX3_addPour_0 : decode cX3_addPour 0 = .ok (.iload_n 1, 1) := by decide +kernel
theorem dX3_addPour_1 : decode cX3_addPour 1 = .ok (.iload_n 2, 1) := by decide +kernel
theorem dX3_addPour_2 : decode cX3_addPour 2 = .ok (.invokestatic 34, 3) := by decide +kernel
theorem dX3_addPour_5 : decode cX3_addPour 5 = .ok (.ifCond .eq 44, 3) := by decide +kernel
theorem dX3_addPour_8 : decode cX3_addPour 8 = .ok (.iload_n 3, 1) := by decide +kernel
theorem dX3_addPour_9 : decode cX3_addPour 9 = .ok (.iload 4, 2) := by decide +kernel
theorem dX3_addPour_11 : decode cX3_addPour 11 = .ok (.invokestatic 34, 3) := by decide +kernel
theorem dX3_addPour_14 : decode cX3_addPour 14 = .ok (.ifCond .eq 35, 3) := by decide +kernel
theorem dX3_addPour_17 : decode cX3_addPour 17 = .ok (.iload 5, 2) := by decide +kernel
theorem dX3_addPour_19 : decode cX3_addPour 19 = .ok (.iload 6, 2) := by decide +kernel
theorem dX3_addPour_21 : decode cX3_addPour 21 = .ok (.invokestatic 85, 3) := by decide +kernel
theorem dX3_addPour_24 : decode cX3_addPour 24 = .ok (.ifCond .eq 25, 3) := by decide +kernel
theorem dX3_addPour_27 : decode cX3_addPour 27 = .ok (.iconst 2, 1) := by decide +kernel
theorem dX3_addPour_28 : decode cX3_addPour 28 = .ok (.iload 7, 2) := by decide +kernel
theorem dX3_addPour_30 : decode cX3_addPour 30 = .ok (.bipush 8, 2) := by decide +kernel
theorem dX3_addPour_32 : decode cX3_addPour 32 = .ok (.invokestatic 38, 3) := by decide +kernel
theorem dX3_addPour_35 : decode cX3_addPour 35 = .ok (.ifCond .eq 14, 3) := by decide +kernel
theorem dX3_addPour_38 : decode cX3_addPour 38 = .ok (.iconst 0, 1) := by decide +kernel
theorem dX3_addPour_39 : decode cX3_addPour 39 = .ok (.iload 8, 2) := by decide +kernel
theorem dX3_addPour_41 : decode cX3_addPour 41 = .ok (.bipush 60, 2) := by decide +kernel
theorem dX3_addPour_43 : decode cX3_addPour 43 = .ok (.invokestatic 38, 3) := by decide +kernel
theorem dX3_addPour_46 : decode cX3_addPour 46 = .ok (.ifCond .ne 11, 3) := by decide +kernel
theorem dX3_addPour_49 : decode cX3_addPour 49 = .ok (.new 42, 3) := by decide +kernel
theorem dX3_addPour_52 : decode cX3_addPour 52 = .ok (.dup, 1) := by decide +kernel
theorem dX3_addPour_53 : decode cX3_addPour 53 = .ok (.invokespecial 44, 3) := by decide +kernel
theorem dX3_addPour_56 : decode cX3_addPour 56 = .ok (.athrow, 1) := by decide +kernel
theorem dX3_addPour_57 : decode cX3_addPour 57 = .ok (.aload_n 0, 1) := by decide +kernel
theorem dX3_addPour_58 : decode cX3_addPour 58 = .ok (.getfield 98, 3) := by decide +kernel
theorem dX3_addPour_61 : decode cX3_addPour 61 = .ok (.aload_n 0, 1) := by decide +kernel
theorem dX3_addPour_62 : decode cX3_addPour 62 = .ok (.getfield 23, 3) := by decide +kernel
theorem dX3_addPour_65 : decode cX3_addPour 65 = .ok (.arraylength, 1) := by decide +kernel
theorem dX3_addPour_66 : decode cX3_addPour 66 = .ok (.if_icmp .ge 18, 3) := by decide +kernel
theorem dX3_addPour_69 : decode cX3_addPour 69 = .ok (.aload_n 0, 1) := by decide +kernel
theorem dX3_addPour_70 : decode cX3_addPour 70 = .ok (.getfield 88, 3) := by decide +kernel
theorem dX3_addPour_73 : decode cX3_addPour 73 = .ok (.iload 7, 2) := by decide +kernel
theorem dX3_addPour_75 : decode cX3_addPour 75 = .ok (.iadd, 1) := by decide +kernel
theorem dX3_addPour_76 : decode cX3_addPour 76 = .ok (.aload_n 0, 1) := by decide +kernel
theorem dX3_addPour_77 : decode cX3_addPour 77 = .ok (.getfield 17, 3) := by decide +kernel
theorem dX3_addPour_80 : decode cX3_addPour 80 = .ok (.arraylength, 1) := by decide +kernel
theorem dX3_addPour_81 : decode cX3_addPour 81 = .ok (.if_icmp .le 11, 3) := by decide +kernel
theorem dX3_addPour_84 : decode cX3_addPour 84 = .ok (.new 49, 3) := by decide +kernel
theorem dX3_addPour_87 : decode cX3_addPour 87 = .ok (.dup, 1) := by decide +kernel
theorem dX3_addPour_88 : decode cX3_addPour 88 = .ok (.invokespecial 51, 3) := by decide +kernel
theorem dX3_addPour_91 : decode cX3_addPour 91 = .ok (.athrow, 1) := by decide +kernel
theorem dX3_addPour_92 : decode cX3_addPour 92 = .ok (.aload_n 0, 1) := by decide +kernel
theorem dX3_addPour_93 : decode cX3_addPour 93 = .ok (.getfield 23, 3) := by decide +kernel
theorem dX3_addPour_96 : decode cX3_addPour 96 = .ok (.aload_n 0, 1) := by decide +kernel
theorem dX3_addPour_97 : decode cX3_addPour 97 = .ok (.getfield 98, 3) := by decide +kernel
theorem dX3_addPour_100 : decode cX3_addPour 100 = .ok (.new 21, 3) := by decide +kernel
theorem dX3_addPour_103 : decode cX3_addPour 103 = .ok (.dup, 1) := by decide +kernel
theorem dX3_addPour_104 : decode cX3_addPour 104 = .ok (.aload_n 0, 1) := by decide +kernel
theorem dX3_addPour_105 : decode cX3_addPour 105 = .ok (.getfield 88, 3) := by decide +kernel
theorem dX3_addPour_108 : decode cX3_addPour 108 = .ok (.iload 7, 2) := by decide +kernel
theorem dX3_addPour_110 : decode cX3_addPour 110 = .ok (.iload 8, 2) := by decide +kernel
theorem dX3_addPour_112 : decode cX3_addPour 112 = .ok (.invokespecial 101, 3) := by decide +kernel
theorem dX3_addPour_115 : decode cX3_addPour 115 = .ok (.aastore, 1) := by decide +kernel
theorem dX3_addPour_116 : decode cX3_addPour 116 = .ok (.iconst 0, 1) := by decide +kernel
theorem dX3_addPour_117 : decode cX3_addPour 117 = .ok (.istore 9, 2) := by decide +kernel
theorem dX3_addPour_119 : decode cX3_addPour 119 = .ok (.iload 9, 2) := by decide +kernel
theorem dX3_addPour_121 : decode cX3_addPour 121 = .ok (.iload 7, 2) := by decide +kernel
theorem dX3_addPour_123 : decode cX3_addPour 123 = .ok (.if_icmp .ge 33, 3) := by decide +kernel
theorem dX3_addPour_126 : decode cX3_addPour 126 = .ok (.aload_n 0, 1) := by decide +kernel
theorem dX3_addPour_127 : decode cX3_addPour 127 = .ok (.new 15, 3) := by decide +kernel
theorem dX3_addPour_130 : decode cX3_addPour 130 = .ok (.dup, 1) := by decide +kernel
theorem dX3_addPour_131 : decode cX3_addPour 131 = .ok (.iload_n 1, 1) := by decide +kernel
theorem dX3_addPour_132 : decode cX3_addPour 132 = .ok (.iload_n 2, 1) := by decide +kernel
theorem dX3_addPour_133 : decode cX3_addPour 133 = .ok (.iload_n 3, 1) := by decide +kernel
theorem dX3_addPour_134 : decode cX3_addPour 134 = .ok (.iload 4, 2) := by decide +kernel
theorem dX3_addPour_136 : decode cX3_addPour 136 = .ok (.iload 5, 2) := by decide +kernel
theorem dX3_addPour_138 : decode cX3_addPour 138 = .ok (.iload 6, 2) := by decide +kernel
theorem dX3_addPour_140 : decode cX3_addPour 140 = .ok (.aload_n 0, 1) := by decide +kernel
theorem dX3_addPour_141 : decode cX3_addPour 141 = .ok (.getfield 98, 3) := by decide +kernel
theorem dX3_addPour_144 : decode cX3_addPour 144 = .ok (.invokespecial 91, 3) := by decide +kernel
theorem dX3_addPour_147 : decode cX3_addPour 147 = .ok (.invokevirtual 94, 3) := by decide +kernel
theorem dX3_addPour_150 : decode cX3_addPour 150 = .ok (.iinc 9 1, 3) := by decide +kernel
theorem dX3_addPour_153 : decode cX3_addPour 153 = .ok (.goto (-34), 3) := by decide +kernel
theorem dX3_addPour_156 : decode cX3_addPour 156 = .ok (.aload_n 0, 1) := by decide +kernel
theorem dX3_addPour_157 : decode cX3_addPour 157 = .ok (.dup, 1) := by decide +kernel
theorem dX3_addPour_158 : decode cX3_addPour 158 = .ok (.getfield 98, 3) := by decide +kernel
theorem dX3_addPour_161 : decode cX3_addPour 161 = .ok (.iconst 1, 1) := by decide +kernel
theorem dX3_addPour_162 : decode cX3_addPour 162 = .ok (.iadd, 1) := by decide +kernel
theorem dX3_addPour_163 : decode cX3_addPour 163 = .ok (.putfield 98, 3) := by decide +kernel
theorem dX3_addPour_166 : decode cX3_addPour 166 = .ok (.aload_n 0, 1) := by decide +kernel
theorem dX3_addPour_167 : decode cX3_addPour 167 = .ok (.getfield 98, 3) := by decide +kernel
theorem dX3_addPour_170 : decode cX3_addPour 170 = .ok (.iconst 1, 1) := by decide +kernel
theorem dX3_addPour_171 : decode cX3_addPour 171 = .ok (.isub, 1) := by decide +kernel
theorem dX3_addPour_172 : decode cX3_addPour 172 = .ok (.ireturn, 1) := by decide +kernel
set_option maxRecDepth 20000 in
theorem ggX3_plan_X3_liftNumbered : GoodIn wsX3_plan wsX3_liftNumbered := goodIn_r _ [14, 15, 122, 123, 124, 125, 126, 127, 128, 129, 130, 131] (by decide +kernel) (by decide +kernel)
set_option maxRecDepth 20000 in
theorem gX3_plan_X3_liftNumbered : GoodIn wsX3_plan (wsV RX3 104 RX3 yX3_liftNumbered wsX3_liftNumbered) := goodIn_app (goodIn_of _ (by decide +kernel)) ggX3_plan_X3_liftNumbered
set_option maxRecDepth 20000 in
theorem ggX3_plan_X3_craneNumbered : GoodIn wsX3_plan wsX3_craneNumbered := goodIn_r _ [19, 20, 122, 123, 124, 125, 126, 127, 128, 129, 130, 131] (by decide +kernel) (by decide +kernel)
set_option maxRecDepth 20000 in
theorem gX3_plan_X3_craneNumbered : GoodIn wsX3_plan (wsV RX3 55 RX3 yX3_craneNumbered wsX3_craneNumbered) := goodIn_app (goodIn_of _ (by decide +kernel)) ggX3_plan_X3_craneNumbered
set_option maxRecDepth 20000 in
theorem ggX3_plan_X3_firstFit : GoodIn wsX3_plan wsX3_firstFit := goodIn_ca (goodIn_r _ [24, 25, 26, 27, 13, 28, 29, 16, 17, 18, 19, 20, 30, 31, 32, 33, 34, 35, 36, 37, 38, 39, 40, 41, 42, 43, 44, 45, 46, 47, 48, 49, 50, 51, 52, 53, 54, 55, 56, 57, 58, 59, 60, 61, 62, 63, 64, 65, 66, 67, 68, 69, 70, 71, 72, 73, 15, 74, 75, 76, 77, 78, 79, 80, 81, 82, 83, 84, 85, 86, 87, 88, 89, 90, 91, 92, 93, 94, 95, 96, 97, 98, 99, 100, 101, 102, 103, 104, 105, 122, 123, 124, 125, 126, 127, 128, 129, 130, 131, 111, 112, 113, 114, 115, 116, 117, 118, 119, 120, 121, 132, 133, 134, 135, 136, 137] (by decide +kernel) (by decide +kernel)) (goodIn_sub (fun _ h => List.mem_cons_of_mem _ (List.mem_append_right _ h)) (by decide +kernel))
set_option maxRecDepth 20000 in
theorem gX3_plan_X3_firstFit : GoodIn wsX3_plan (wsV RX3 118 RX3 yX3_firstFit wsX3_firstFit) := goodIn_app (goodIn_of _ (by decide +kernel)) ggX3_plan_X3_firstFit
set_option maxRecDepth 20000 in
theorem ggX3_plan_X1_put : GoodIn wsX3_plan wsX1_put := goodIn_r _ [109, 94, 110, 89, 111, 112, 113, 114, 115, 116, 117, 118, 119, 120, 121] (by decide +kernel) (by decide +kernel)
set_option maxRecDepth 20000 in
theorem gX3_plan_X1_put : GoodIn wsX3_plan (wsV RX3 125 RX1 yX1_put wsX1_put) := goodIn_app (goodIn_of _ (by decide +kernel)) ggX3_plan_X1_put
theorem dX3_plan_0 : decode cX3_plan 0 = .ok (.aload_n 0, 1) := by decide +kernel
theorem dX3_plan_1 : decode cX3_plan 1 = .ok (.iload_n 1, 1) := by decide +kernel
theorem dX3_plan_2 : decode cX3_plan 2 = .ok (.invokevirtual 104, 3) := by decide +kernel
theorem dX3_plan_5 : decode cX3_plan 5 = .ok (.astore_n 3, 1) := by decide +kernel
theorem dX3_plan_6 : decode cX3_plan 6 = .ok (.aload_n 3, 1) := by decide +kernel
theorem dX3_plan_7 : decode cX3_plan 7 = .ok (.ifnull 11, 3) := by decide +kernel
theorem dX3_plan_10 : decode cX3_plan 10 = .ok (.aload_n 0, 1) := by decide +kernel
theorem dX3_plan_11 : decode cX3_plan 11 = .ok (.iload_n 2, 1) := by decide +kernel
theorem dX3_plan_12 : decode cX3_plan 12 = .ok (.invokevirtual 55, 3) := by decide +kernel
theorem dX3_plan_15 : decode cX3_plan 15 = .ok (.ifnonnull 11, 3) := by decide +kernel
theorem dX3_plan_18 : decode cX3_plan 18 = .ok (.new 59, 3) := by decide +kernel
theorem dX3_plan_21 : decode cX3_plan 21 = .ok (.dup, 1) := by decide +kernel
theorem dX3_plan_22 : decode cX3_plan 22 = .ok (.invokespecial 61, 3) := by decide +kernel
theorem dX3_plan_25 : decode cX3_plan 25 = .ok (.athrow, 1) := by decide +kernel
theorem dX3_plan_26 : decode cX3_plan 26 = .ok (.aload_n 3, 1) := by decide +kernel
theorem dX3_plan_27 : decode cX3_plan 27 = .ok (.getfield 108, 3) := by decide +kernel
theorem dX3_plan_30 : decode cX3_plan 30 = .ok (.bipush 119, 2) := by decide +kernel
theorem dX3_plan_32 : decode cX3_plan 32 = .ok (.if_icmp .ne 11, 3) := by decide +kernel
theorem dX3_plan_35 : decode cX3_plan 35 = .ok (.aload_n 3, 1) := by decide +kernel
theorem dX3_plan_36 : decode cX3_plan 36 = .ok (.getfield 112, 3) := by decide +kernel
theorem dX3_plan_39 : decode cX3_plan 39 = .ok (.iconst (-1), 1) := by decide +kernel
theorem dX3_plan_40 : decode cX3_plan 40 = .ok (.if_icmp .eq 11, 3) := by decide +kernel
theorem dX3_plan_43 : decode cX3_plan 43 = .ok (.new 49, 3) := by decide +kernel
theorem dX3_plan_46 : decode cX3_plan 46 = .ok (.dup, 1) := by decide +kernel
theorem dX3_plan_47 : decode cX3_plan 47 = .ok (.invokespecial 51, 3) := by decide +kernel
theorem dX3_plan_50 : decode cX3_plan 50 = .ok (.athrow, 1) := by decide +kernel
theorem dX3_plan_51 : decode cX3_plan 51 = .ok (.aload_n 0, 1) := by decide +kernel
theorem dX3_plan_52 : decode cX3_plan 52 = .ok (.aload_n 3, 1) := by decide +kernel
theorem dX3_plan_53 : decode cX3_plan 53 = .ok (.iload_n 2, 1) := by decide +kernel
theorem dX3_plan_54 : decode cX3_plan 54 = .ok (.aload_n 0, 1) := by decide +kernel
theorem dX3_plan_55 : decode cX3_plan 55 = .ok (.getfield 115, 3) := by decide +kernel
theorem dX3_plan_58 : decode cX3_plan 58 = .ok (.invokevirtual 118, 3) := by decide +kernel
theorem dX3_plan_61 : decode cX3_plan 61 = .ok (.istore 4, 2) := by decide +kernel
theorem dX3_plan_63 : decode cX3_plan 63 = .ok (.iload 4, 2) := by decide +kernel
theorem dX3_plan_65 : decode cX3_plan 65 = .ok (.iconst (-1), 1) := by decide +kernel
theorem dX3_plan_66 : decode cX3_plan 66 = .ok (.if_icmp .ne 11, 3) := by decide +kernel
theorem dX3_plan_69 : decode cX3_plan 69 = .ok (.new 122, 3) := by decide +kernel
theorem dX3_plan_72 : decode cX3_plan 72 = .ok (.dup, 1) := by decide +kernel
theorem dX3_plan_73 : decode cX3_plan 73 = .ok (.invokespecial 124, 3) := by decide +kernel
theorem dX3_plan_76 : decode cX3_plan 76 = .ok (.athrow, 1) := by decide +kernel
theorem dX3_plan_77 : decode cX3_plan 77 = .ok (.aload_n 3, 1) := by decide +kernel
theorem dX3_plan_78 : decode cX3_plan 78 = .ok (.iload_n 2, 1) := by decide +kernel
theorem dX3_plan_79 : decode cX3_plan 79 = .ok (.iload 4, 2) := by decide +kernel
theorem dX3_plan_81 : decode cX3_plan 81 = .ok (.invokevirtual 125, 3) := by decide +kernel
theorem dX3_plan_84 : decode cX3_plan 84 = .ok (.iload 4, 2) := by decide +kernel
theorem dX3_plan_86 : decode cX3_plan 86 = .ok (.ireturn, 1) := by decide +kernel
set_option maxRecDepth 20000 in
theorem ggX3_planAt_X3_liftNumbered : GoodIn wsX3_planAt wsX3_liftNumbered := goodIn_r _ [13, 14, 118, 119, 120, 121, 122, 123, 124, 125, 126, 127] (by decide +kernel) (by decide +kernel)
set_option maxRecDepth 20000 in
theorem gX3_planAt_X3_liftNumbered : GoodIn wsX3_planAt (wsV RX3 104 RX3 yX3_liftNumbered wsX3_liftNumbered) := goodIn_app (goodIn_of _ (by decide +kernel)) ggX3_planAt_X3_liftNumbered
set_option maxRecDepth 20000 in
theorem ggX3_planAt_X3_craneNumbered : GoodIn wsX3_planAt wsX3_craneNumbered := goodIn_r _ [18, 19, 118, 119, 120, 121, 122, 123, 124, 125, 126, 127] (by decide +kernel) (by decide +kernel)
set_option maxRecDepth 20000 in
theorem gX3_planAt_X3_craneNumbered : GoodIn wsX3_planAt (wsV RX3 55 RX3 yX3_craneNumbered wsX3_craneNumbered) := goodIn_app (goodIn_of _ (by decide +kernel)) ggX3_planAt_X3_craneNumbered
set_option maxRecDepth 20000 in
theorem ggX3_planAt_X3_obstacle : GoodIn wsX3_planAt wsX3_obstacle := goodIn_ca (goodIn_r _ [23, 24, 25, 26, 12, 27, 28, 15, 16, 17, 18, 19, 29, 30, 31, 32, 33, 34, 35, 36, 37, 38, 39, 40, 41, 42, 43, 44, 45, 46, 47, 48, 49, 50, 51, 52, 53, 54, 55, 56, 57, 58, 59, 60, 61, 62, 63, 64, 65, 66, 67, 68, 69, 14, 70, 71, 72, 73, 74, 75, 76, 77, 78, 79, 80, 81, 82, 83, 84, 85, 86, 87, 88, 89, 90, 91, 92, 93, 94, 95, 96, 97, 98, 99, 100, 118, 119, 120, 121, 122, 123, 124, 125, 126, 127, 107, 108, 109, 110, 111, 112, 113, 114, 115, 116, 117, 128, 129, 130, 131, 132, 133] (by decide +kernel) (by decide +kernel)) (goodIn_sub (fun _ h => List.mem_cons_of_mem _ (List.mem_append_right _ h)) (by decide +kernel))
set_option maxRecDepth 20000 in
theorem gX3_planAt_X3_obstacle : GoodIn wsX3_planAt (wsV RX3 129 RX3 yX3_obstacle wsX3_obstacle) := goodIn_app (goodIn_of _ (by decide +kernel)) ggX3_planAt_X3_obstacle
set_option maxRecDepth 20000 in
theorem ggX3_planAt_X1_put : GoodIn wsX3_planAt wsX1_put := goodIn_r _ [104, 90, 105, 85, 107, 108, 109, 110, 111, 112, 113, 114, 115, 116, 117] (by decide +kernel) (by decide +kernel)
set_option maxRecDepth 20000 in
theorem gX3_planAt_X1_put : GoodIn wsX3_planAt (wsV RX3 125 RX1 yX1_put wsX1_put) := goodIn_app (goodIn_of _ (by decide +kernel)) ggX3_planAt_X1_put
set_option maxRecDepth 20000 in
theorem ggX3_planAt_X1_end : GoodIn wsX3_planAt wsX1_end := goodIn_r _ [94, 85, 95, 107, 108, 109, 110, 111, 112, 113, 114, 115, 116, 117] (by decide +kernel) (by decide +kernel)
set_option maxRecDepth 20000 in
theorem gX3_planAt_X1_end : GoodIn wsX3_planAt (wsV RX3 133 RX1 yX1_end wsX1_end) := goodIn_app (goodIn_of _ (by decide +kernel)) ggX3_planAt_X1_end
theorem dX3_planAt_0 : decode cX3_planAt 0 = .ok (.aload_n 0, 1) := by decide +kernel
theorem dX3_planAt_1 : decode cX3_planAt 1 = .ok (.iload_n 1, 1) := by decide +kernel
theorem dX3_planAt_2 : decode cX3_planAt 2 = .ok (.invokevirtual 104, 3) := by decide +kernel
theorem dX3_planAt_5 : decode cX3_planAt 5 = .ok (.astore 4, 2) := by decide +kernel
theorem dX3_planAt_7 : decode cX3_planAt 7 = .ok (.aload 4, 2) := by decide +kernel
theorem dX3_planAt_9 : decode cX3_planAt 9 = .ok (.ifnull 11, 3) := by decide +kernel
theorem dX3_planAt_12 : decode cX3_planAt 12 = .ok (.aload_n 0, 1) := by decide +kernel
theorem dX3_planAt_13 : decode cX3_planAt 13 = .ok (.iload_n 2, 1) := by decide +kernel
theorem dX3_planAt_14 : decode cX3_planAt 14 = .ok (.invokevirtual 55, 3) := by decide +kernel
theorem dX3_planAt_17 : decode cX3_planAt 17 = .ok (.ifnonnull 11, 3) := by decide +kernel
theorem dX3_planAt_20 : decode cX3_planAt 20 = .ok (.new 59, 3) := by decide +kernel
theorem dX3_planAt_23 : decode cX3_planAt 23 = .ok (.dup, 1) := by decide +kernel
theorem dX3_planAt_24 : decode cX3_planAt 24 = .ok (.invokespecial 61, 3) := by decide +kernel
theorem dX3_planAt_27 : decode cX3_planAt 27 = .ok (.athrow, 1) := by decide +kernel
theorem dX3_planAt_28 : decode cX3_planAt 28 = .ok (.aload 4, 2) := by decide +kernel
theorem dX3_planAt_30 : decode cX3_planAt 30 = .ok (.getfield 108, 3) := by decide +kernel
theorem dX3_planAt_33 : decode cX3_planAt 33 = .ok (.bipush 119, 2) := by decide +kernel
theorem dX3_planAt_35 : decode cX3_planAt 35 = .ok (.if_icmp .ne 12, 3) := by decide +kernel
theorem dX3_planAt_38 : decode cX3_planAt 38 = .ok (.aload 4, 2) := by decide +kernel
theorem dX3_planAt_40 : decode cX3_planAt 40 = .ok (.getfield 112, 3) := by decide +kernel
theorem dX3_planAt_43 : decode cX3_planAt 43 = .ok (.iconst (-1), 1) := by decide +kernel
theorem dX3_planAt_44 : decode cX3_planAt 44 = .ok (.if_icmp .eq 11, 3) := by decide +kernel
theorem dX3_planAt_47 : decode cX3_planAt 47 = .ok (.new 49, 3) := by decide +kernel
theorem dX3_planAt_50 : decode cX3_planAt 50 = .ok (.dup, 1) := by decide +kernel
theorem dX3_planAt_51 : decode cX3_planAt 51 = .ok (.invokespecial 51, 3) := by decide +kernel
theorem dX3_planAt_54 : decode cX3_planAt 54 = .ok (.athrow, 1) := by decide +kernel
theorem dX3_planAt_55 : decode cX3_planAt 55 = .ok (.aload_n 0, 1) := by decide +kernel
theorem dX3_planAt_56 : decode cX3_planAt 56 = .ok (.aload 4, 2) := by decide +kernel
theorem dX3_planAt_58 : decode cX3_planAt 58 = .ok (.iload_n 2, 1) := by decide +kernel
theorem dX3_planAt_59 : decode cX3_planAt 59 = .ok (.iload_n 3, 1) := by decide +kernel
theorem dX3_planAt_60 : decode cX3_planAt 60 = .ok (.invokevirtual 129, 3) := by decide +kernel
theorem dX3_planAt_63 : decode cX3_planAt 63 = .ok (.bipush 45, 2) := by decide +kernel
theorem dX3_planAt_65 : decode cX3_planAt 65 = .ok (.if_icmp .eq 11, 3) := by decide +kernel
theorem dX3_planAt_68 : decode cX3_planAt 68 = .ok (.new 122, 3) := by decide +kernel
theorem dX3_planAt_71 : decode cX3_planAt 71 = .ok (.dup, 1) := by decide +kernel
theorem dX3_planAt_72 : decode cX3_planAt 72 = .ok (.invokespecial 124, 3) := by decide +kernel
theorem dX3_planAt_75 : decode cX3_planAt 75 = .ok (.athrow, 1) := by decide +kernel
theorem dX3_planAt_76 : decode cX3_planAt 76 = .ok (.aload 4, 2) := by decide +kernel
theorem dX3_planAt_78 : decode cX3_planAt 78 = .ok (.iload_n 2, 1) := by decide +kernel
theorem dX3_planAt_79 : decode cX3_planAt 79 = .ok (.iload_n 3, 1) := by decide +kernel
theorem dX3_planAt_80 : decode cX3_planAt 80 = .ok (.invokevirtual 125, 3) := by decide +kernel
theorem dX3_planAt_83 : decode cX3_planAt 83 = .ok (.aload 4, 2) := by decide +kernel
theorem dX3_planAt_85 : decode cX3_planAt 85 = .ok (.invokevirtual 133, 3) := by decide +kernel
theorem dX3_planAt_88 : decode cX3_planAt 88 = .ok (.ireturn, 1) := by decide +kernel
set_option maxRecDepth 20000 in
theorem ggX3_planPour_X3_pourNumbered : GoodIn wsX3_planPour wsX3_pourNumbered := goodIn_r _ [14, 15, 135, 136, 137, 138, 139, 140, 141, 142, 143, 144] (by decide +kernel) (by decide +kernel)
set_option maxRecDepth 20000 in
theorem gX3_planPour_X3_pourNumbered : GoodIn wsX3_planPour (wsV RX3 136 RX3 yX3_pourNumbered wsX3_pourNumbered) := goodIn_app (goodIn_of _ (by decide +kernel)) ggX3_planPour_X3_pourNumbered
set_option maxRecDepth 20000 in
theorem ggX3_planPour_X3_craneNumbered : GoodIn wsX3_planPour wsX3_craneNumbered := goodIn_r _ [19, 20, 135, 136, 137, 138, 139, 140, 141, 142, 143, 144] (by decide +kernel) (by decide +kernel)
set_option maxRecDepth 20000 in
theorem gX3_planPour_X3_craneNumbered : GoodIn wsX3_planPour (wsV RX3 55 RX3 yX3_craneNumbered wsX3_craneNumbered) := goodIn_app (goodIn_of _ (by decide +kernel)) ggX3_planPour_X3_craneNumbered
set_option maxRecDepth 20000 in
theorem ggX3_planPour_X3_countOfPour : GoodIn wsX3_planPour wsX3_countOfPour := goodIn_r _ [24, 25, 26, 27, 135, 136, 137, 138, 139, 140, 141, 142, 143, 144, 145, 146, 147, 148, 149, 150, 151, 152, 153, 154, 155] (by decide +kernel) (by decide +kernel)
set_option maxRecDepth 20000 in
theorem gX3_planPour_X3_countOfPour : GoodIn wsX3_planPour (wsV RX3 140 RX3 yX3_countOfPour wsX3_countOfPour) := goodIn_app (goodIn_of _ (by decide +kernel)) ggX3_planPour_X3_countOfPour
set_option maxRecDepth 20000 in
theorem ggX3_planPour_X3_findRowStarts : GoodIn wsX3_planPour wsX3_findRowStarts := goodIn_ca (goodIn_r _ [31, 9, 32, 33, 34, 35, 13, 36, 25, 37, 38, 39, 40, 41, 42, 43, 44, 45, 16, 17, 18, 19, 20, 46, 47, 48, 49, 50, 51, 52, 53, 54, 55, 56, 57, 58, 59, 60, 61, 62, 63, 64, 65, 66, 67, 68, 69, 70, 71, 72, 73, 74, 75, 76, 77, 78, 79, 80, 81, 82, 83, 84, 85, 86, 87, 88, 89, 90, 91, 92, 93, 94, 95, 96, 97, 98, 99, 100, 101, 102, 103, 104, 105, 106, 107, 108, 109, 110, 111, 112, 113, 114, 115, 116, 117, 118, 119, 120, 121, 122, 123, 124, 125, 7, 8, 126, 132, 133, 134, 135, 136, 137, 138, 139, 140, 141, 142, 143, 144, 145, 146, 147, 148, 149, 150, 151, 152, 153, 154, 155, 156, 157, 158, 159, 160, 161] (by decide +kernel) (by decide +kernel)) (goodIn_sub (fun _ h => List.mem_cons_of_mem _ (List.mem_append_right _ h)) (by decide +kernel))
set_option maxRecDepth 20000 in
theorem gX3_planPour_X3_findRowStarts : GoodIn wsX3_planPour (wsV RX3 147 RX3 yX3_findRowStarts wsX3_findRowStarts) := goodIn_app (goodIn_of _ (by decide +kernel)) ggX3_planPour_X3_findRowStarts
set_option maxRecDepth 20000 in
theorem ggX3_planPour_X3_liftNumbered : GoodIn wsX3_planPour wsX3_liftNumbered := goodIn_r _ [36, 25, 135, 136, 137, 138, 139, 140, 141, 142, 143, 144] (by decide +kernel) (by decide +kernel)
set_option maxRecDepth 20000 in
theorem gX3_planPour_X3_liftNumbered : GoodIn wsX3_planPour (wsV RX3 104 RX3 yX3_liftNumbered wsX3_liftNumbered) := goodIn_app (goodIn_of _ (by decide +kernel)) ggX3_planPour_X3_liftNumbered
set_option maxRecDepth 20000 in
theorem ggX3_planPour_X1_put : GoodIn wsX3_planPour wsX1_put := goodIn_r _ [130, 110, 131, 105, 145, 146, 147, 148, 149, 150, 151, 152, 153, 154, 155] (by decide +kernel) (by decide +kernel)
set_option maxRecDepth 20000 in
theorem gX3_planPour_X1_put : GoodIn wsX3_planPour (wsV RX3 125 RX1 yX1_put wsX1_put) := goodIn_app (goodIn_of _ (by decide +kernel)) ggX3_planPour_X1_put
theorem dX3_planPour_0 : decode cX3_planPour 0 = .ok (.aload_n 0, 1) := by decide +kernel
theorem dX3_planPour_1 : decode cX3_planPour 1 = .ok (.iload_n 1, 1) := by decide +kernel
theorem dX3_planPour_2 : decode cX3_planPour 2 = .ok (.invokevirtual 136, 3) := by decide +kernel
theorem dX3_planPour_5 : decode cX3_planPour 5 = .ok (.astore_n 3, 1) := by decide +kernel
theorem dX3_planPour_6 : decode cX3_planPour 6 = .ok (.aload_n 3, 1) := by decide +kernel
theorem dX3_planPour_7 : decode cX3_planPour 7 = .ok (.ifnull 11, 3) := by decide +kernel
theorem dX3_planPour_10 : decode cX3_planPour 10 = .ok (.aload_n 0, 1) := by decide +kernel
theorem dX3_planPour_11 : decode cX3_planPour 11 = .ok (.iload_n 2, 1) := by decide +kernel
theorem dX3_planPour_12 : decode cX3_planPour 12 = .ok (.invokevirtual 55, 3) := by decide +kernel
theorem dX3_planPour_15 : decode cX3_planPour 15 = .ok (.ifnonnull 11, 3) := by decide +kernel
theorem dX3_planPour_18 : decode cX3_planPour 18 = .ok (.new 59, 3) := by decide +kernel
theorem dX3_planPour_21 : decode cX3_planPour 21 = .ok (.dup, 1) := by decide +kernel
theorem dX3_planPour_22 : decode cX3_planPour 22 = .ok (.invokespecial 61, 3) := by decide +kernel
theorem dX3_planPour_25 : decode cX3_planPour 25 = .ok (.athrow, 1) := by decide +kernel
theorem dX3_planPour_26 : decode cX3_planPour 26 = .ok (.aload_n 0, 1) := by decide +kernel
theorem dX3_planPour_27 : decode cX3_planPour 27 = .ok (.iload_n 1, 1) := by decide +kernel
theorem dX3_planPour_28 : decode cX3_planPour 28 = .ok (.bipush 119, 2) := by decide +kernel
theorem dX3_planPour_30 : decode cX3_planPour 30 = .ok (.invokevirtual 140, 3) := by decide +kernel
theorem dX3_planPour_33 : decode cX3_planPour 33 = .ok (.aload_n 3, 1) := by decide +kernel
theorem dX3_planPour_34 : decode cX3_planPour 34 = .ok (.getfield 144, 3) := by decide +kernel
theorem dX3_planPour_37 : decode cX3_planPour 37 = .ok (.if_icmp .ge 11, 3) := by decide +kernel
theorem dX3_planPour_40 : decode cX3_planPour 40 = .ok (.new 49, 3) := by decide +kernel
theorem dX3_planPour_43 : decode cX3_planPour 43 = .ok (.dup, 1) := by decide +kernel
theorem dX3_planPour_44 : decode cX3_planPour 44 = .ok (.invokespecial 51, 3) := by decide +kernel
theorem dX3_planPour_47 : decode cX3_planPour 47 = .ok (.athrow, 1) := by decide +kernel
theorem dX3_planPour_48 : decode cX3_planPour 48 = .ok (.aload_n 0, 1) := by decide +kernel
theorem dX3_planPour_49 : decode cX3_planPour 49 = .ok (.aload_n 3, 1) := by decide +kernel
theorem dX3_planPour_50 : decode cX3_planPour 50 = .ok (.iload_n 2, 1) := by decide +kernel
theorem dX3_planPour_51 : decode cX3_planPour 51 = .ok (.invokevirtual 147, 3) := by decide +kernel
theorem dX3_planPour_54 : decode cX3_planPour 54 = .ok (.ifCond .ne 11, 3) := by decide +kernel
theorem dX3_planPour_57 : decode cX3_planPour 57 = .ok (.new 122, 3) := by decide +kernel
theorem dX3_planPour_60 : decode cX3_planPour 60 = .ok (.dup, 1) := by decide +kernel
theorem dX3_planPour_61 : decode cX3_planPour 61 = .ok (.invokespecial 124, 3) := by decide +kernel
theorem dX3_planPour_64 : decode cX3_planPour 64 = .ok (.athrow, 1) := by decide +kernel
theorem dX3_planPour_65 : decode cX3_planPour 65 = .ok (.iconst 0, 1) := by decide +kernel
theorem dX3_planPour_66 : decode cX3_planPour 66 = .ok (.istore 4, 2) := by decide +kernel
theorem dX3_planPour_68 : decode cX3_planPour 68 = .ok (.iload 4, 2) := by decide +kernel
theorem dX3_planPour_70 : decode cX3_planPour 70 = .ok (.aload_n 3, 1) := by decide +kernel
theorem dX3_planPour_71 : decode cX3_planPour 71 = .ok (.getfield 144, 3) := by decide +kernel
theorem dX3_planPour_74 : decode cX3_planPour 74 = .ok (.if_icmp .ge 50, 3) := by decide +kernel
theorem dX3_planPour_77 : decode cX3_planPour 77 = .ok (.iload 4, 2) := by decide +kernel
theorem dX3_planPour_79 : decode cX3_planPour 79 = .ok (.aload_n 0, 1) := by decide +kernel
theorem dX3_planPour_80 : decode cX3_planPour 80 = .ok (.getfield 27, 3) := by decide +kernel
theorem dX3_planPour_83 : decode cX3_planPour 83 = .ok (.arraylength, 1) := by decide +kernel
theorem dX3_planPour_84 : decode cX3_planPour 84 = .ok (.if_icmp .ge 40, 3) := by decide +kernel
theorem dX3_planPour_87 : decode cX3_planPour 87 = .ok (.aload_n 0, 1) := by decide +kernel
theorem dX3_planPour_88 : decode cX3_planPour 88 = .ok (.aload_n 3, 1) := by decide +kernel
theorem dX3_planPour_89 : decode cX3_planPour 89 = .ok (.getfield 151, 3) := by decide +kernel
theorem dX3_planPour_92 : decode cX3_planPour 92 = .ok (.iload 4, 2) := by decide +kernel
theorem dX3_planPour_94 : decode cX3_planPour 94 = .ok (.iadd, 1) := by decide +kernel
theorem dX3_planPour_95 : decode cX3_planPour 95 = .ok (.invokevirtual 104, 3) := by decide +kernel
theorem dX3_planPour_98 : decode cX3_planPour 98 = .ok (.astore 5, 2) := by decide +kernel
theorem dX3_planPour_100 : decode cX3_planPour 100 = .ok (.aload 5, 2) := by decide +kernel
theorem dX3_planPour_102 : decode cX3_planPour 102 = .ok (.ifnull 16, 3) := by decide +kernel
theorem dX3_planPour_105 : decode cX3_planPour 105 = .ok (.aload 5, 2) := by decide +kernel
theorem dX3_planPour_107 : decode cX3_planPour 107 = .ok (.iload_n 2, 1) := by decide +kernel
theorem dX3_planPour_108 : decode cX3_planPour 108 = .ok (.aload_n 0, 1) := by decide +kernel
theorem dX3_planPour_109 : decode cX3_planPour 109 = .ok (.getfield 27, 3) := by decide +kernel
theorem dX3_planPour_112 : decode cX3_planPour 112 = .ok (.iload 4, 2) := by decide +kernel
theorem dX3_planPour_114 : decode cX3_planPour 114 = .ok (.iaload, 1) := by decide +kernel
theorem dX3_planPour_115 : decode cX3_planPour 115 = .ok (.invokevirtual 125, 3) := by decide +kernel
theorem dX3_planPour_118 : decode cX3_planPour 118 = .ok (.iinc 4 1, 3) := by decide +kernel
theorem dX3_planPour_121 : decode cX3_planPour 121 = .ok (.goto (-53), 3) := by decide +kernel
theorem dX3_planPour_124 : decode cX3_planPour 124 = .ok (.aload_n 0, 1) := by decide +kernel
theorem dX3_planPour_125 : decode cX3_planPour 125 = .ok (.getfield 27, 3) := by decide +kernel
theorem dX3_planPour_128 : decode cX3_planPour 128 = .ok (.iconst 0, 1) := by decide +kernel
theorem dX3_planPour_129 : decode cX3_planPour 129 = .ok (.iaload, 1) := by decide +kernel
theorem dX3_planPour_130 : decode cX3_planPour 130 = .ok (.ireturn, 1) := by decide +kernel
set_option maxRecDepth 20000 in
theorem ggX3_unplan_X3_liftNumbered : GoodIn wsX3_unplan wsX3_liftNumbered := goodIn_r _ [12, 7, 32, 33, 34, 35, 36, 37, 38, 39, 40, 41] (by decide +kernel) (by decide +kernel)
set_option maxRecDepth 20000 in
theorem gX3_unplan_X3_liftNumbered : GoodIn wsX3_unplan (wsV RX3 104 RX3 yX3_liftNumbered wsX3_liftNumbered) := goodIn_app (goodIn_of _ (by decide +kernel)) ggX3_unplan_X3_liftNumbered
set_option maxRecDepth 20000 in
theorem ggX3_unplan_X1_takeBack : GoodIn wsX3_unplan wsX1_takeBack := goodIn_r _ [17, 18, 19, 20, 21, 22, 23, 24, 25, 26, 27, 28, 29, 30, 31] (by decide +kernel) (by decide +kernel)
set_option maxRecDepth 20000 in
theorem gX3_unplan_X1_takeBack : GoodIn wsX3_unplan (wsV RX3 154 RX1 yX1_takeBack wsX1_takeBack) := goodIn_app (goodIn_of _ (by decide +kernel)) ggX3_unplan_X1_takeBack
theorem dX3_unplan_0 : decode cX3_unplan 0 = .ok (.aload_n 0, 1) := by decide +kernel
theorem dX3_unplan_1 : decode cX3_unplan 1 = .ok (.iload_n 1, 1) := by decide +kernel
theorem dX3_unplan_2 : decode cX3_unplan 2 = .ok (.invokevirtual 104, 3) := by decide +kernel
theorem dX3_unplan_5 : decode cX3_unplan 5 = .ok (.astore_n 2, 1) := by decide +kernel
theorem dX3_unplan_6 : decode cX3_unplan 6 = .ok (.aload_n 2, 1) := by decide +kernel
theorem dX3_unplan_7 : decode cX3_unplan 7 = .ok (.ifnonnull 11, 3) := by decide +kernel
theorem dX3_unplan_10 : decode cX3_unplan 10 = .ok (.new 59, 3) := by decide +kernel
theorem dX3_unplan_13 : decode cX3_unplan 13 = .ok (.dup, 1) := by decide +kernel
theorem dX3_unplan_14 : decode cX3_unplan 14 = .ok (.invokespecial 61, 3) := by decide +kernel
theorem dX3_unplan_17 : decode cX3_unplan 17 = .ok (.athrow, 1) := by decide +kernel
theorem dX3_unplan_18 : decode cX3_unplan 18 = .ok (.aload_n 2, 1) := by decide +kernel
theorem dX3_unplan_19 : decode cX3_unplan 19 = .ok (.getfield 108, 3) := by decide +kernel
theorem dX3_unplan_22 : decode cX3_unplan 22 = .ok (.bipush 112, 2) := by decide +kernel
theorem dX3_unplan_24 : decode cX3_unplan 24 = .ok (.if_icmp .eq 11, 3) := by decide +kernel
theorem dX3_unplan_27 : decode cX3_unplan 27 = .ok (.new 49, 3) := by decide +kernel
theorem dX3_unplan_30 : decode cX3_unplan 30 = .ok (.dup, 1) := by decide +kernel
theorem dX3_unplan_31 : decode cX3_unplan 31 = .ok (.invokespecial 51, 3) := by decide +kernel
theorem dX3_unplan_34 : decode cX3_unplan 34 = .ok (.athrow, 1) := by decide +kernel
theorem dX3_unplan_35 : decode cX3_unplan 35 = .ok (.aload_n 2, 1) := by decide +kernel
theorem dX3_unplan_36 : decode cX3_unplan 36 = .ok (.getfield 112, 3) := by decide +kernel
theorem dX3_unplan_39 : decode cX3_unplan 39 = .ok (.iconst (-1), 1) := by decide +kernel
theorem dX3_unplan_40 : decode cX3_unplan 40 = .ok (.if_icmp .ne 9, 3) := by decide +kernel
theorem dX3_unplan_43 : decode cX3_unplan 43 = .ok (.aload_n 2, 1) := by decide +kernel
theorem dX3_unplan_44 : decode cX3_unplan 44 = .ok (.invokevirtual 154, 3) := by decide +kernel
theorem dX3_unplan_47 : decode cX3_unplan 47 = .ok (.iconst 1, 1) := by decide +kernel
theorem dX3_unplan_48 : decode cX3_unplan 48 = .ok (.ireturn, 1) := by decide +kernel
theorem dX3_unplan_49 : decode cX3_unplan 49 = .ok (.iconst 0, 1) := by decide +kernel
theorem dX3_unplan_50 : decode cX3_unplan 50 = .ok (.istore_n 3, 1) := by decide +kernel
theorem dX3_unplan_51 : decode cX3_unplan 51 = .ok (.aload_n 0, 1) := by decide +kernel
theorem dX3_unplan_52 : decode cX3_unplan 52 = .ok (.getfield 17, 3) := by decide +kernel
theorem dX3_unplan_55 : decode cX3_unplan 55 = .ok (.astore 4, 2) := by decide +kernel
theorem dX3_unplan_57 : decode cX3_unplan 57 = .ok (.aload 4, 2) := by decide +kernel
theorem dX3_unplan_59 : decode cX3_unplan 59 = .ok (.arraylength, 1) := by decide +kernel
theorem dX3_unplan_60 : decode cX3_unplan 60 = .ok (.istore 5, 2) := by decide +kernel
theorem dX3_unplan_62 : decode cX3_unplan 62 = .ok (.iconst 0, 1) := by decide +kernel
theorem dX3_unplan_63 : decode cX3_unplan 63 = .ok (.istore 6, 2) := by decide +kernel
theorem dX3_unplan_65 : decode cX3_unplan 65 = .ok (.iload 6, 2) := by decide +kernel
theorem dX3_unplan_67 : decode cX3_unplan 67 = .ok (.iload 5, 2) := by decide +kernel
theorem dX3_unplan_69 : decode cX3_unplan 69 = .ok (.if_icmp .ge 51, 3) := by decide +kernel
theorem dX3_unplan_72 : decode cX3_unplan 72 = .ok (.aload 4, 2) := by decide +kernel
theorem dX3_unplan_74 : decode cX3_unplan 74 = .ok (.iload 6, 2) := by decide +kernel
theorem dX3_unplan_76 : decode cX3_unplan 76 = .ok (.aaload, 1) := by decide +kernel
theorem dX3_unplan_77 : decode cX3_unplan 77 = .ok (.astore 7, 2) := by decide +kernel
theorem dX3_unplan_79 : decode cX3_unplan 79 = .ok (.aload 7, 2) := by decide +kernel
theorem dX3_unplan_81 : decode cX3_unplan 81 = .ok (.ifnull 33, 3) := by decide +kernel
theorem dX3_unplan_84 : decode cX3_unplan 84 = .ok (.aload 7, 2) := by decide +kernel
theorem dX3_unplan_86 : decode cX3_unplan 86 = .ok (.getfield 112, 3) := by decide +kernel
theorem dX3_unplan_89 : decode cX3_unplan 89 = .ok (.aload_n 2, 1) := by decide +kernel
theorem dX3_unplan_90 : decode cX3_unplan 90 = .ok (.getfield 112, 3) := by decide +kernel
theorem dX3_unplan_93 : decode cX3_unplan 93 = .ok (.if_icmp .ne 21, 3) := by decide +kernel
theorem dX3_unplan_96 : decode cX3_unplan 96 = .ok (.aload 7, 2) := by decide +kernel
theorem dX3_unplan_98 : decode cX3_unplan 98 = .ok (.getfield 108, 3) := by decide +kernel
theorem dX3_unplan_101 : decode cX3_unplan 101 = .ok (.bipush 112, 2) := by decide +kernel
theorem dX3_unplan_103 : decode cX3_unplan 103 = .ok (.if_icmp .ne 11, 3) := by decide +kernel
theorem dX3_unplan_106 : decode cX3_unplan 106 = .ok (.aload 7, 2) := by decide +kernel
theorem dX3_unplan_108 : decode cX3_unplan 108 = .ok (.invokevirtual 154, 3) := by decide +kernel
theorem dX3_unplan_111 : decode cX3_unplan 111 = .ok (.iinc 3 1, 3) := by decide +kernel
theorem dX3_unplan_114 : decode cX3_unplan 114 = .ok (.iinc 6 1, 3) := by decide +kernel
theorem dX3_unplan_117 : decode cX3_unplan 117 = .ok (.goto (-52), 3) := by decide +kernel
theorem dX3_unplan_120 : decode cX3_unplan 120 = .ok (.iload_n 3, 1) := by decide +kernel
theorem dX3_unplan_121 : decode cX3_unplan 121 = .ok (.ireturn, 1) := by decide +kernel
set_option maxRecDepth 20000 in
theorem ggX3_pass_X3_isFrom : GoodIn wsX3_pass wsX3_isFrom := goodIn_r _ [12] (by decide +kernel) (by decide +kernel)
set_option maxRecDepth 20000 in
theorem gX3_pass_X3_isFrom : GoodIn wsX3_pass (va_wsS RX3 38 yX3_isFrom wsX3_isFrom) := goodIn_app (goodIn_of _ (by decide +kernel)) ggX3_pass_X3_isFrom
set_option maxRecDepth 20000 in
theorem ggX3_pass_X1_end : GoodIn wsX3_pass wsX1_end := goodIn_r _ [17, 18, 19, 30, 31, 32, 33, 34, 35, 36, 37, 38, 39, 40] (by decide +kernel) (by decide +kernel)
set_option maxRecDepth 20000 in
theorem gX3_pass_X1_end : GoodIn wsX3_pass (wsV RX3 133 RX1 yX1_end wsX1_end) := goodIn_app (goodIn_of _ (by decide +kernel)) ggX3_pass_X1_end
theorem dX3_pass_0 : decode cX3_pass 0 = .ok (.iconst 1, 1) := by decide +kernel
theorem dX3_pass_1 : decode cX3_pass 1 = .ok (.iload_n 1, 1) := by decide +kernel
theorem dX3_pass_2 : decode cX3_pass 2 = .ok (.sipush 240, 3) := by decide +kernel
theorem dX3_pass_5 : decode cX3_pass 5 = .ok (.invokestatic 38, 3) := by decide +kernel
theorem dX3_pass_8 : decode cX3_pass 8 = .ok (.ifCond .ne 11, 3) := by decide +kernel
theorem dX3_pass_11 : decode cX3_pass 11 = .ok (.new 42, 3) := by decide +kernel
theorem dX3_pass_14 : decode cX3_pass 14 = .ok (.dup, 1) := by decide +kernel
theorem dX3_pass_15 : decode cX3_pass 15 = .ok (.invokespecial 44, 3) := by decide +kernel
theorem dX3_pass_18 : decode cX3_pass 18 = .ok (.athrow, 1) := by decide +kernel
theorem dX3_pass_19 : decode cX3_pass 19 = .ok (.aload_n 0, 1) := by decide +kernel
theorem dX3_pass_20 : decode cX3_pass 20 = .ok (.getfield 115, 3) := by decide +kernel
theorem dX3_pass_23 : decode cX3_pass 23 = .ok (.iload_n 1, 1) := by decide +kernel
theorem dX3_pass_24 : decode cX3_pass 24 = .ok (.iadd, 1) := by decide +kernel
theorem dX3_pass_25 : decode cX3_pass 25 = .ok (.sipush 1440, 3) := by decide +kernel
theorem dX3_pass_28 : decode cX3_pass 28 = .ok (.if_icmp .le 11, 3) := by decide +kernel
theorem dX3_pass_31 : decode cX3_pass 31 = .ok (.new 49, 3) := by decide +kernel
theorem dX3_pass_34 : decode cX3_pass 34 = .ok (.dup, 1) := by decide +kernel
theorem dX3_pass_35 : decode cX3_pass 35 = .ok (.invokespecial 51, 3) := by decide +kernel
theorem dX3_pass_38 : decode cX3_pass 38 = .ok (.athrow, 1) := by decide +kernel
theorem dX3_pass_39 : decode cX3_pass 39 = .ok (.aload_n 0, 1) := by decide +kernel
theorem dX3_pass_40 : decode cX3_pass 40 = .ok (.dup, 1) := by decide +kernel
theorem dX3_pass_41 : decode cX3_pass 41 = .ok (.getfield 115, 3) := by decide +kernel
theorem dX3_pass_44 : decode cX3_pass 44 = .ok (.iload_n 1, 1) := by decide +kernel
theorem dX3_pass_45 : decode cX3_pass 45 = .ok (.iadd, 1) := by decide +kernel
theorem dX3_pass_46 : decode cX3_pass 46 = .ok (.putfield 115, 3) := by decide +kernel
theorem dX3_pass_49 : decode cX3_pass 49 = .ok (.iconst 0, 1) := by decide +kernel
theorem dX3_pass_50 : decode cX3_pass 50 = .ok (.istore_n 2, 1) := by decide +kernel
theorem dX3_pass_51 : decode cX3_pass 51 = .ok (.aload_n 0, 1) := by decide +kernel
theorem dX3_pass_52 : decode cX3_pass 52 = .ok (.getfield 17, 3) := by decide +kernel
theorem dX3_pass_55 : decode cX3_pass 55 = .ok (.astore_n 3, 1) := by decide +kernel
theorem dX3_pass_56 : decode cX3_pass 56 = .ok (.aload_n 3, 1) := by decide +kernel
theorem dX3_pass_57 : decode cX3_pass 57 = .ok (.arraylength, 1) := by decide +kernel
theorem dX3_pass_58 : decode cX3_pass 58 = .ok (.istore 4, 2) := by decide +kernel
theorem dX3_pass_60 : decode cX3_pass 60 = .ok (.iconst 0, 1) := by decide +kernel
theorem dX3_pass_61 : decode cX3_pass 61 = .ok (.istore 5, 2) := by decide +kernel
theorem dX3_pass_63 : decode cX3_pass 63 = .ok (.iload 5, 2) := by decide +kernel
theorem dX3_pass_65 : decode cX3_pass 65 = .ok (.iload 4, 2) := by decide +kernel
theorem dX3_pass_67 : decode cX3_pass 67 = .ok (.if_icmp .ge 84, 3) := by decide +kernel
theorem dX3_pass_70 : decode cX3_pass 70 = .ok (.aload_n 3, 1) := by decide +kernel
theorem dX3_pass_71 : decode cX3_pass 71 = .ok (.iload 5, 2) := by decide +kernel
theorem dX3_pass_73 : decode cX3_pass 73 = .ok (.aaload, 1) := by decide +kernel
theorem dX3_pass_74 : decode cX3_pass 74 = .ok (.astore 6, 2) := by decide +kernel
theorem dX3_pass_76 : decode cX3_pass 76 = .ok (.aload 6, 2) := by decide +kernel
theorem dX3_pass_78 : decode cX3_pass 78 = .ok (.ifnull 67, 3) := by decide +kernel
theorem dX3_pass_81 : decode cX3_pass 81 = .ok (.aload 6, 2) := by decide +kernel
theorem dX3_pass_83 : decode cX3_pass 83 = .ok (.getfield 108, 3) := by decide +kernel
theorem dX3_pass_86 : decode cX3_pass 86 = .ok (.bipush 112, 2) := by decide +kernel
theorem dX3_pass_88 : decode cX3_pass 88 = .ok (.if_icmp .eq 13, 3) := by decide +kernel
theorem dX3_pass_91 : decode cX3_pass 91 = .ok (.aload 6, 2) := by decide +kernel
theorem dX3_pass_93 : decode cX3_pass 93 = .ok (.getfield 108, 3) := by decide +kernel
theorem dX3_pass_96 : decode cX3_pass 96 = .ok (.bipush 117, 2) := by decide +kernel
theorem dX3_pass_98 : decode cX3_pass 98 = .ok (.if_icmp .ne 47, 3) := by decide +kernel
theorem dX3_pass_101 : decode cX3_pass 101 = .ok (.aload 6, 2) := by decide +kernel
theorem dX3_pass_103 : decode cX3_pass 103 = .ok (.invokevirtual 133, 3) := by decide +kernel
theorem dX3_pass_106 : decode cX3_pass 106 = .ok (.aload_n 0, 1) := by decide +kernel
theorem dX3_pass_107 : decode cX3_pass 107 = .ok (.getfield 115, 3) := by decide +kernel
theorem dX3_pass_110 : decode cX3_pass 110 = .ok (.if_icmp .gt 16, 3) := by decide +kernel
theorem dX3_pass_113 : decode cX3_pass 113 = .ok (.aload 6, 2) := by decide +kernel
theorem dX3_pass_115 : decode cX3_pass 115 = .ok (.bipush 100, 2) := by decide +kernel
theorem dX3_pass_117 : decode cX3_pass 117 = .ok (.putfield 108, 3) := by decide +kernel
theorem dX3_pass_120 : decode cX3_pass 120 = .ok (.iinc 2 1, 3) := by decide +kernel
theorem dX3_pass_123 : decode cX3_pass 123 = .ok (.goto 22, 3) := by decide +kernel
theorem dX3_pass_126 : decode cX3_pass 126 = .ok (.aload 6, 2) := by decide +kernel
theorem dX3_pass_128 : decode cX3_pass 128 = .ok (.getfield 157, 3) := by decide +kernel
theorem dX3_pass_131 : decode cX3_pass 131 = .ok (.aload_n 0, 1) := by decide +kernel
theorem dX3_pass_132 : decode cX3_pass 132 = .ok (.getfield 115, 3) := by decide +kernel
theorem dX3_pass_135 : decode cX3_pass 135 = .ok (.if_icmp .ge 10, 3) := by decide +kernel
theorem dX3_pass_138 : decode cX3_pass 138 = .ok (.aload 6, 2) := by decide +kernel
theorem dX3_pass_140 : decode cX3_pass 140 = .ok (.bipush 117, 2) := by decide +kernel
theorem dX3_pass_142 : decode cX3_pass 142 = .ok (.putfield 108, 3) := by decide +kernel
theorem dX3_pass_145 : decode cX3_pass 145 = .ok (.iinc 5 1, 3) := by decide +kernel
theorem dX3_pass_148 : decode cX3_pass 148 = .ok (.goto (-85), 3) := by decide +kernel
theorem dX3_pass_151 : decode cX3_pass 151 = .ok (.iload_n 2, 1) := by decide +kernel
theorem dX3_pass_152 : decode cX3_pass 152 = .ok (.ireturn, 1) := by decide +kernel
theorem dX3_now_0 : decode cX3_now 0 = .ok (.aload_n 0, 1) := by decide +kernel
theorem dX3_now_1 : decode cX3_now 1 = .ok (.getfield 115, 3) := by decide +kernel
theorem dX3_now_4 : decode cX3_now 4 = .ok (.ireturn, 1) := by decide +kernel
theorem dX3_cranes_0 : decode cX3_cranes 0 = .ok (.aload_n 0, 1) := by decide +kernel
theorem dX3_cranes_1 : decode cX3_cranes 1 = .ok (.getfield 45, 3) := by decide +kernel
theorem dX3_cranes_4 : decode cX3_cranes 4 = .ok (.ireturn, 1) := by decide +kernel
theorem dX3_lifts_0 : decode cX3_lifts 0 = .ok (.aload_n 0, 1) := by decide +kernel
theorem dX3_lifts_1 : decode cX3_lifts 1 = .ok (.getfield 88, 3) := by decide +kernel
theorem dX3_lifts_4 : decode cX3_lifts 4 = .ok (.ireturn, 1) := by decide +kernel
set_option maxRecDepth 20000 in
theorem ggX3_limit_X3_craneNumbered : GoodIn wsX3_limit wsX3_craneNumbered := goodIn_r _ [10, 11, 40, 41, 42, 43, 44, 45, 46, 47, 48, 49] (by decide +kernel) (by decide +kernel)
set_option maxRecDepth 20000 in
theorem gX3_limit_X3_craneNumbered : GoodIn wsX3_limit (wsV RX3 55 RX3 yX3_craneNumbered wsX3_craneNumbered) := goodIn_app (goodIn_of _ (by decide +kernel)) ggX3_limit_X3_craneNumbered
set_option maxRecDepth 20000 in
theorem ggX3_limit_X3_isPlace : GoodIn wsX3_limit wsX3_isPlace := goodIn_r _ [14, 15, 16, 9, 17] (by decide +kernel) (by decide +kernel)
set_option maxRecDepth 20000 in
theorem gX3_limit_X3_isPlace : GoodIn wsX3_limit (va_wsS RX3 34 yX3_isPlace wsX3_isPlace) := goodIn_app (goodIn_of _ (by decide +kernel)) ggX3_limit_X3_isPlace
set_option maxRecDepth 20000 in
theorem ggX3_limit_X0_reaches : GoodIn wsX3_limit wsX0_reaches := goodIn_r _ [22, 23, 24, 25, 26, 21, 27, 28, 29, 50, 51, 52, 53, 54, 55] (by decide +kernel) (by decide +kernel)
set_option maxRecDepth 20000 in
theorem gX3_limit_X0_reaches : GoodIn wsX3_limit (wsV RX3 160 RX0 yX0_reaches wsX0_reaches) := goodIn_app (goodIn_of _ (by decide +kernel)) ggX3_limit_X0_reaches
set_option maxRecDepth 20000 in
theorem ggX3_limit_X0_strengthAt : GoodIn wsX3_limit wsX0_strengthAt := goodIn_ca (goodIn_r _ [33, 34, 35, 36, 37, 38, 39, 24, 25, 26, 21, 27, 28, 29, 50, 51, 52, 53, 54, 55] (by decide +kernel) (by decide +kernel)) (goodIn_sub (fun _ h => List.mem_cons_of_mem _ (List.mem_append_right _ h)) (by decide +kernel))
set_option maxRecDepth 20000 in
theorem gX3_limit_X0_strengthAt : GoodIn wsX3_limit (wsV RX3 163 RX0 yX0_strengthAt wsX0_strengthAt) := goodIn_app (goodIn_of _ (by decide +kernel)) ggX3_limit_X0_strengthAt
theorem dX3_limit_0 : decode cX3_limit 0 = .ok (.aload_n 0, 1) := by decide +kernel
theorem dX3_limit_1 : decode cX3_limit 1 = .ok (.iload_n 1, 1) := by decide +kernel
theorem dX3_limit_2 : decode cX3_limit 2 = .ok (.invokevirtual 55, 3) := by decide +kernel
theorem dX3_limit_5 : decode cX3_limit 5 = .ok (.astore 4, 2) := by decide +kernel
theorem dX3_limit_7 : decode cX3_limit 7 = .ok (.aload 4, 2) := by decide +kernel
theorem dX3_limit_9 : decode cX3_limit 9 = .ok (.ifnonnull 11, 3) := by decide +kernel
theorem dX3_limit_12 : decode cX3_limit 12 = .ok (.new 59, 3) := by decide +kernel
theorem dX3_limit_15 : decode cX3_limit 15 = .ok (.dup, 1) := by decide +kernel
theorem dX3_limit_16 : decode cX3_limit 16 = .ok (.invokespecial 61, 3) := by decide +kernel
theorem dX3_limit_19 : decode cX3_limit 19 = .ok (.athrow, 1) := by decide +kernel
theorem dX3_limit_20 : decode cX3_limit 20 = .ok (.iload_n 2, 1) := by decide +kernel
theorem dX3_limit_21 : decode cX3_limit 21 = .ok (.iload_n 3, 1) := by decide +kernel
theorem dX3_limit_22 : decode cX3_limit 22 = .ok (.invokestatic 34, 3) := by decide +kernel
theorem dX3_limit_25 : decode cX3_limit 25 = .ok (.ifCond .ne 11, 3) := by decide +kernel
theorem dX3_limit_28 : decode cX3_limit 28 = .ok (.new 42, 3) := by decide +kernel
theorem dX3_limit_31 : decode cX3_limit 31 = .ok (.dup, 1) := by decide +kernel
theorem dX3_limit_32 : decode cX3_limit 32 = .ok (.invokespecial 44, 3) := by decide +kernel
theorem dX3_limit_35 : decode cX3_limit 35 = .ok (.athrow, 1) := by decide +kernel
theorem dX3_limit_36 : decode cX3_limit 36 = .ok (.aload 4, 2) := by decide +kernel
theorem dX3_limit_38 : decode cX3_limit 38 = .ok (.iload_n 2, 1) := by decide +kernel
theorem dX3_limit_39 : decode cX3_limit 39 = .ok (.iload_n 3, 1) := by decide +kernel
theorem dX3_limit_40 : decode cX3_limit 40 = .ok (.invokevirtual 160, 3) := by decide +kernel
theorem dX3_limit_43 : decode cX3_limit 43 = .ok (.ifCond .eq 17, 3) := by decide +kernel
theorem dX3_limit_46 : decode cX3_limit 46 = .ok (.aload 4, 2) := by decide +kernel
theorem dX3_limit_48 : decode cX3_limit 48 = .ok (.iload_n 2, 1) := by decide +kernel
theorem dX3_limit_49 : decode cX3_limit 49 = .ok (.iload_n 3, 1) := by decide +kernel
theorem dX3_limit_50 : decode cX3_limit 50 = .ok (.aload_n 0, 1) := by decide +kernel
theorem dX3_limit_51 : decode cX3_limit 51 = .ok (.getfield 82, 3) := by decide +kernel
theorem dX3_limit_54 : decode cX3_limit 54 = .ok (.invokevirtual 163, 3) := by decide +kernel
theorem dX3_limit_57 : decode cX3_limit 57 = .ok (.goto 4, 3) := by decide +kernel
theorem dX3_limit_60 : decode cX3_limit 60 = .ok (.iconst 0, 1) := by decide +kernel
theorem dX3_limit_61 : decode cX3_limit 61 = .ok (.ireturn, 1) := by decide +kernel
set_option maxRecDepth 20000 in
theorem ggX3_overlap_X3_craneNumbered : GoodIn wsX3_overlap wsX3_craneNumbered := goodIn_r _ [7, 8, 24, 25, 26, 27, 28, 29, 30, 31, 32, 33] (by decide +kernel) (by decide +kernel)
set_option maxRecDepth 20000 in
theorem gX3_overlap_X3_craneNumbered : GoodIn wsX3_overlap (wsV RX3 55 RX3 yX3_craneNumbered wsX3_craneNumbered) := goodIn_app (goodIn_of _ (by decide +kernel)) ggX3_overlap_X3_craneNumbered
set_option maxRecDepth 20000 in
theorem ggX3_overlap_X3_countCommonPlaces : GoodIn wsX3_overlap wsX3_countCommonPlaces := goodIn_r _ [11, 12, 13, 14, 15, 16, 17, 18, 19, 20, 21, 22, 23, 34, 35, 36, 37, 38, 39] (by decide +kernel) (by decide +kernel)
set_option maxRecDepth 20000 in
theorem gX3_overlap_X3_countCommonPlaces : GoodIn wsX3_overlap (va_wsS RX3 167 yX3_countCommonPlaces wsX3_countCommonPlaces) := goodIn_app (goodIn_of _ (by decide +kernel)) ggX3_overlap_X3_countCommonPlaces
theorem dX3_overlap_0 : decode cX3_overlap 0 = .ok (.aload_n 0, 1) := by decide +kernel
theorem dX3_overlap_1 : decode cX3_overlap 1 = .ok (.iload_n 1, 1) := by decide +kernel
theorem dX3_overlap_2 : decode cX3_overlap 2 = .ok (.invokevirtual 55, 3) := by decide +kernel
theorem dX3_overlap_5 : decode cX3_overlap 5 = .ok (.astore_n 3, 1) := by decide +kernel
theorem dX3_overlap_6 : decode cX3_overlap 6 = .ok (.aload_n 0, 1) := by decide +kernel
theorem dX3_overlap_7 : decode cX3_overlap 7 = .ok (.iload_n 2, 1) := by decide +kernel
theorem dX3_overlap_8 : decode cX3_overlap 8 = .ok (.invokevirtual 55, 3) := by decide +kernel
theorem dX3_overlap_11 : decode cX3_overlap 11 = .ok (.astore 4, 2) := by decide +kernel
theorem dX3_overlap_13 : decode cX3_overlap 13 = .ok (.aload_n 3, 1) := by decide +kernel
theorem dX3_overlap_14 : decode cX3_overlap 14 = .ok (.ifnull 8, 3) := by decide +kernel
theorem dX3_overlap_17 : decode cX3_overlap 17 = .ok (.aload 4, 2) := by decide +kernel
theorem dX3_overlap_19 : decode cX3_overlap 19 = .ok (.ifnonnull 11, 3) := by decide +kernel
theorem dX3_overlap_22 : decode cX3_overlap 22 = .ok (.new 59, 3) := by decide +kernel
theorem dX3_overlap_25 : decode cX3_overlap 25 = .ok (.dup, 1) := by decide +kernel
theorem dX3_overlap_26 : decode cX3_overlap 26 = .ok (.invokespecial 61, 3) := by decide +kernel
theorem dX3_overlap_29 : decode cX3_overlap 29 = .ok (.athrow, 1) := by decide +kernel
theorem dX3_overlap_30 : decode cX3_overlap 30 = .ok (.aload_n 3, 1) := by decide +kernel
theorem dX3_overlap_31 : decode cX3_overlap 31 = .ok (.aload 4, 2) := by decide +kernel
theorem dX3_overlap_33 : decode cX3_overlap 33 = .ok (.invokestatic 167, 3) := by decide +kernel
theorem dX3_overlap_36 : decode cX3_overlap 36 = .ok (.ifCond .le 7, 3) := by decide +kernel
theorem dX3_overlap_39 : decode cX3_overlap 39 = .ok (.iconst 1, 1) := by decide +kernel
theorem dX3_overlap_40 : decode cX3_overlap 40 = .ok (.goto 4, 3) := by decide +kernel
theorem dX3_overlap_43 : decode cX3_overlap 43 = .ok (.iconst 0, 1) := by decide +kernel
theorem dX3_overlap_44 : decode cX3_overlap 44 = .ok (.ireturn, 1) := by decide +kernel
set_option maxRecDepth 20000 in
theorem ggX3_bothReach_X3_craneNumbered : GoodIn wsX3_bothReach wsX3_craneNumbered := goodIn_r _ [7, 8, 24, 25, 26, 27, 28, 29, 30, 31, 32, 33] (by decide +kernel) (by decide +kernel)
set_option maxRecDepth 20000 in
theorem gX3_bothReach_X3_craneNumbered : GoodIn wsX3_bothReach (wsV RX3 55 RX3 yX3_craneNumbered wsX3_craneNumbered) := goodIn_app (goodIn_of _ (by decide +kernel)) ggX3_bothReach_X3_craneNumbered
set_option maxRecDepth 20000 in
theorem ggX3_bothReach_X3_countCommonPlaces : GoodIn wsX3_bothReach wsX3_countCommonPlaces := goodIn_r _ [11, 12, 13, 14, 15, 16, 17, 18, 19, 20, 21, 22, 23, 34, 35, 36, 37, 38, 39] (by decide +kernel) (by decide +kernel)
set_option maxRecDepth 20000 in
theorem gX3_bothReach_X3_countCommonPlaces : GoodIn wsX3_bothReach (va_wsS RX3 167 yX3_countCommonPlaces wsX3_countCommonPlaces) := goodIn_app (goodIn_of _ (by decide +kernel)) ggX3_bothReach_X3_countCommonPlaces
theorem dX3_bothReach_0 : decode cX3_bothReach 0 = .ok (.aload_n 0, 1) := by decide +kernel
theorem dX3_bothReach_1 : decode cX3_bothReach 1 = .ok (.iload_n 1, 1) := by decide +kernel
theorem dX3_bothReach_2 : decode cX3_bothReach 2 = .ok (.invokevirtual 55, 3) := by decide +kernel
theorem dX3_bothReach_5 : decode cX3_bothReach 5 = .ok (.astore_n 3, 1) := by decide +kernel
theorem dX3_bothReach_6 : decode cX3_bothReach 6 = .ok (.aload_n 0, 1) := by decide +kernel
theorem dX3_bothReach_7 : decode cX3_bothReach 7 = .ok (.iload_n 2, 1) := by decide +kernel
theorem dX3_bothReach_8 : decode cX3_bothReach 8 = .ok (.invokevirtual 55, 3) := by decide +kernel
theorem dX3_bothReach_11 : decode cX3_bothReach 11 = .ok (.astore 4, 2) := by decide +kernel
theorem dX3_bothReach_13 : decode cX3_bothReach 13 = .ok (.aload_n 3, 1) := by decide +kernel
theorem dX3_bothReach_14 : decode cX3_bothReach 14 = .ok (.ifnull 8, 3) := by decide +kernel
theorem dX3_bothReach_17 : decode cX3_bothReach 17 = .ok (.aload 4, 2) := by decide +kernel
theorem dX3_bothReach_19 : decode cX3_bothReach 19 = .ok (.ifnonnull 11, 3) := by decide +kernel
theorem dX3_bothReach_22 : decode cX3_bothReach 22 = .ok (.new 59, 3) := by decide +kernel
theorem dX3_bothReach_25 : decode cX3_bothReach 25 = .ok (.dup, 1) := by decide +kernel
theorem dX3_bothReach_26 : decode cX3_bothReach 26 = .ok (.invokespecial 61, 3) := by decide +kernel
theorem dX3_bothReach_29 : decode cX3_bothReach 29 = .ok (.athrow, 1) := by decide +kernel
theorem dX3_bothReach_30 : decode cX3_bothReach 30 = .ok (.aload_n 3, 1) := by decide +kernel
theorem dX3_bothReach_31 : decode cX3_bothReach 31 = .ok (.aload 4, 2) := by decide +kernel
theorem dX3_bothReach_33 : decode cX3_bothReach 33 = .ok (.invokestatic 167, 3) := by decide +kernel
theorem dX3_bothReach_36 : decode cX3_bothReach 36 = .ok (.ireturn, 1) := by decide +kernel
set_option maxRecDepth 20000 in
theorem ggX3_reason_X3_liftNumbered : GoodIn wsX3_reason wsX3_liftNumbered := goodIn_r _ [7, 8, 95, 96, 97, 98, 99, 100, 101, 102, 103, 104] (by decide +kernel) (by decide +kernel)
set_option maxRecDepth 20000 in
theorem gX3_reason_X3_liftNumbered : GoodIn wsX3_reason (wsV RX3 104 RX3 yX3_liftNumbered wsX3_liftNumbered) := goodIn_app (goodIn_of _ (by decide +kernel)) ggX3_reason_X3_liftNumbered
set_option maxRecDepth 20000 in
theorem ggX3_reason_X3_craneNumbered : GoodIn wsX3_reason wsX3_craneNumbered := goodIn_r _ [12, 13, 95, 96, 97, 98, 99, 100, 101, 102, 103, 104] (by decide +kernel) (by decide +kernel)
set_option maxRecDepth 20000 in
theorem gX3_reason_X3_craneNumbered : GoodIn wsX3_reason (wsV RX3 55 RX3 yX3_craneNumbered wsX3_craneNumbered) := goodIn_app (goodIn_of _ (by decide +kernel)) ggX3_reason_X3_craneNumbered
set_option maxRecDepth 20000 in
theorem ggX3_reason_X3_obstacle : GoodIn wsX3_reason wsX3_obstacle := goodIn_ca (goodIn_r _ [17, 18, 19, 20, 6, 21, 22, 9, 10, 11, 12, 13, 23, 24, 25, 26, 27, 28, 29, 30, 31, 32, 33, 34, 35, 36, 37, 38, 39, 40, 41, 42, 43, 44, 45, 46, 47, 48, 49, 50, 51, 52, 53, 54, 55, 56, 57, 58, 59, 60, 61, 62, 63, 8, 64, 65, 66, 67, 68, 69, 70, 71, 72, 73, 74, 75, 76, 77, 78, 79, 80, 81, 82, 83, 84, 85, 86, 87, 88, 89, 90, 91, 92, 93, 94, 95, 96, 97, 98, 99, 100, 101, 102, 103, 104, 105, 106, 107, 108, 109, 110, 111, 112, 113, 114, 115, 116, 117, 118, 119, 120, 121] (by decide +kernel) (by decide +kernel)) (goodIn_sub (fun _ h => List.mem_cons_of_mem _ (List.mem_append_right _ h)) (by decide +kernel))
set_option maxRecDepth 20000 in
theorem gX3_reason_X3_obstacle : GoodIn wsX3_reason (wsV RX3 129 RX3 yX3_obstacle wsX3_obstacle) := goodIn_app (goodIn_of _ (by decide +kernel)) ggX3_reason_X3_obstacle
theorem dX3_reason_0 : decode cX3_reason 0 = .ok (.aload_n 0, 1) := by decide +kernel
theorem dX3_reason_1 : decode cX3_reason 1 = .ok (.iload_n 1, 1) := by decide +kernel
theorem dX3_reason_2 : decode cX3_reason 2 = .ok (.invokevirtual 104, 3) := by decide +kernel
theorem dX3_reason_5 : decode cX3_reason 5 = .ok (.astore 4, 2) := by decide +kernel
theorem dX3_reason_7 : decode cX3_reason 7 = .ok (.aload 4, 2) := by decide +kernel
theorem dX3_reason_9 : decode cX3_reason 9 = .ok (.ifnull 11, 3) := by decide +kernel
theorem dX3_reason_12 : decode cX3_reason 12 = .ok (.aload_n 0, 1) := by decide +kernel
theorem dX3_reason_13 : decode cX3_reason 13 = .ok (.iload_n 2, 1) := by decide +kernel
theorem dX3_reason_14 : decode cX3_reason 14 = .ok (.invokevirtual 55, 3) := by decide +kernel
theorem dX3_reason_17 : decode cX3_reason 17 = .ok (.ifnonnull 11, 3) := by decide +kernel
theorem dX3_reason_20 : decode cX3_reason 20 = .ok (.new 59, 3) := by decide +kernel
theorem dX3_reason_23 : decode cX3_reason 23 = .ok (.dup, 1) := by decide +kernel
theorem dX3_reason_24 : decode cX3_reason 24 = .ok (.invokespecial 61, 3) := by decide +kernel
theorem dX3_reason_27 : decode cX3_reason 27 = .ok (.athrow, 1) := by decide +kernel
theorem dX3_reason_28 : decode cX3_reason 28 = .ok (.aload_n 0, 1) := by decide +kernel
theorem dX3_reason_29 : decode cX3_reason 29 = .ok (.aload 4, 2) := by decide +kernel
theorem dX3_reason_31 : decode cX3_reason 31 = .ok (.iload_n 2, 1) := by decide +kernel
theorem dX3_reason_32 : decode cX3_reason 32 = .ok (.iload_n 3, 1) := by decide +kernel
theorem dX3_reason_33 : decode cX3_reason 33 = .ok (.invokevirtual 129, 3) := by decide +kernel
theorem dX3_reason_36 : decode cX3_reason 36 = .ok (.ireturn, 1) := by decide +kernel
set_option maxRecDepth 20000 in
theorem ggX3_earliest_X3_liftNumbered : GoodIn wsX3_earliest wsX3_liftNumbered := goodIn_r _ [10, 11, 102, 103, 104, 105, 106, 107, 108, 109, 110, 111] (by decide +kernel) (by decide +kernel)
set_option maxRecDepth 20000 in
theorem gX3_earliest_X3_liftNumbered : GoodIn wsX3_earliest (wsV RX3 104 RX3 yX3_liftNumbered wsX3_liftNumbered) := goodIn_app (goodIn_of _ (by decide +kernel)) ggX3_earliest_X3_liftNumbered
set_option maxRecDepth 20000 in
theorem ggX3_earliest_X3_craneNumbered : GoodIn wsX3_earliest wsX3_craneNumbered := goodIn_r _ [15, 16, 102, 103, 104, 105, 106, 107, 108, 109, 110, 111] (by decide +kernel) (by decide +kernel)
set_option maxRecDepth 20000 in
theorem gX3_earliest_X3_craneNumbered : GoodIn wsX3_earliest (wsV RX3 55 RX3 yX3_craneNumbered wsX3_craneNumbered) := goodIn_app (goodIn_of _ (by decide +kernel)) ggX3_earliest_X3_craneNumbered
set_option maxRecDepth 20000 in
theorem ggX3_earliest_X3_firstFit : GoodIn wsX3_earliest wsX3_firstFit := goodIn_ca (goodIn_r _ [20, 21, 22, 23, 9, 24, 25, 12, 13, 14, 15, 16, 26, 27, 28, 29, 30, 31, 32, 33, 34, 35, 36, 37, 38, 39, 40, 41, 42, 43, 44, 45, 46, 47, 48, 49, 50, 51, 52, 53, 54, 55, 56, 57, 58, 59, 60, 61, 62, 63, 64, 65, 66, 67, 68, 69, 11, 70, 71, 72, 73, 74, 75, 76, 77, 78, 79, 80, 81, 82, 83, 84, 85, 86, 87, 88, 89, 90, 91, 92, 93, 94, 95, 96, 97, 98, 99, 100, 101, 102, 103, 104, 105, 106, 107, 108, 109, 110, 111, 112, 113, 114, 115, 116, 117, 118, 119, 120, 121, 122, 123, 124, 125, 126, 127, 128] (by decide +kernel) (by decide +kernel)) (goodIn_sub (fun _ h => List.mem_cons_of_mem _ (List.mem_append_right _ h)) (by decide +kernel))
set_option maxRecDepth 20000 in
theorem gX3_earliest_X3_firstFit : GoodIn wsX3_earliest (wsV RX3 118 RX3 yX3_firstFit wsX3_firstFit) := goodIn_app (goodIn_of _ (by decide +kernel)) ggX3_earliest_X3_firstFit
theorem dX3_earliest_0 : decode cX3_earliest 0 = .ok (.aload_n 0, 1) := by decide +kernel
theorem dX3_earliest_1 : decode cX3_earliest 1 = .ok (.iload_n 1, 1) := by decide +kernel
theorem dX3_earliest_2 : decode cX3_earliest 2 = .ok (.invokevirtual 104, 3) := by decide +kernel
theorem dX3_earliest_5 : decode cX3_earliest 5 = .ok (.astore_n 3, 1) := by decide +kernel
theorem dX3_earliest_6 : decode cX3_earliest 6 = .ok (.aload_n 3, 1) := by decide +kernel
theorem dX3_earliest_7 : decode cX3_earliest 7 = .ok (.ifnull 11, 3) := by decide +kernel
theorem dX3_earliest_10 : decode cX3_earliest 10 = .ok (.aload_n 0, 1) := by decide +kernel
theorem dX3_earliest_11 : decode cX3_earliest 11 = .ok (.iload_n 2, 1) := by decide +kernel
theorem dX3_earliest_12 : decode cX3_earliest 12 = .ok (.invokevirtual 55, 3) := by decide +kernel
theorem dX3_earliest_15 : decode cX3_earliest 15 = .ok (.ifnonnull 11, 3) := by decide +kernel
theorem dX3_earliest_18 : decode cX3_earliest 18 = .ok (.new 59, 3) := by decide +kernel
theorem dX3_earliest_21 : decode cX3_earliest 21 = .ok (.dup, 1) := by decide +kernel
theorem dX3_earliest_22 : decode cX3_earliest 22 = .ok (.invokespecial 61, 3) := by decide +kernel
theorem dX3_earliest_25 : decode cX3_earliest 25 = .ok (.athrow, 1) := by decide +kernel
theorem dX3_earliest_26 : decode cX3_earliest 26 = .ok (.aload_n 0, 1) := by decide +kernel
theorem dX3_earliest_27 : decode cX3_earliest 27 = .ok (.aload_n 3, 1) := by decide +kernel
theorem dX3_earliest_28 : decode cX3_earliest 28 = .ok (.iload_n 2, 1) := by decide +kernel
theorem dX3_earliest_29 : decode cX3_earliest 29 = .ok (.aload_n 0, 1) := by decide +kernel
theorem dX3_earliest_30 : decode cX3_earliest 30 = .ok (.getfield 115, 3) := by decide +kernel
theorem dX3_earliest_33 : decode cX3_earliest 33 = .ok (.invokevirtual 118, 3) := by decide +kernel
theorem dX3_earliest_36 : decode cX3_earliest 36 = .ok (.istore 4, 2) := by decide +kernel
theorem dX3_earliest_38 : decode cX3_earliest 38 = .ok (.iload 4, 2) := by decide +kernel
theorem dX3_earliest_40 : decode cX3_earliest 40 = .ok (.iconst (-1), 1) := by decide +kernel
theorem dX3_earliest_41 : decode cX3_earliest 41 = .ok (.if_icmp .ne 11, 3) := by decide +kernel
theorem dX3_earliest_44 : decode cX3_earliest 44 = .ok (.new 122, 3) := by decide +kernel
theorem dX3_earliest_47 : decode cX3_earliest 47 = .ok (.dup, 1) := by decide +kernel
theorem dX3_earliest_48 : decode cX3_earliest 48 = .ok (.invokespecial 124, 3) := by decide +kernel
theorem dX3_earliest_51 : decode cX3_earliest 51 = .ok (.athrow, 1) := by decide +kernel
theorem dX3_earliest_52 : decode cX3_earliest 52 = .ok (.iload 4, 2) := by decide +kernel
theorem dX3_earliest_54 : decode cX3_earliest 54 = .ok (.ireturn, 1) := by decide +kernel
set_option maxRecDepth 20000 in
theorem ggX3_earliestByMinutes_X3_liftNumbered : GoodIn wsX3_earliestByMinutes wsX3_liftNumbered := goodIn_r _ [10, 11, 93, 94, 95, 96, 97, 98, 99, 100, 101, 102] (by decide +kernel) (by decide +kernel)
set_option maxRecDepth 20000 in
theorem gX3_earliestByMinutes_X3_liftNumbered : GoodIn wsX3_earliestByMinutes (wsV RX3 104 RX3 yX3_liftNumbered wsX3_liftNumbered) := goodIn_app (goodIn_of _ (by decide +kernel)) ggX3_earliestByMinutes_X3_liftNumbered
set_option maxRecDepth 20000 in
theorem ggX3_earliestByMinutes_X3_craneNumbered : GoodIn wsX3_earliestByMinutes wsX3_craneNumbered := goodIn_r _ [15, 16, 93, 94, 95, 96, 97, 98, 99, 100, 101, 102] (by decide +kernel) (by decide +kernel)
set_option maxRecDepth 20000 in
theorem gX3_earliestByMinutes_X3_craneNumbered : GoodIn wsX3_earliestByMinutes (wsV RX3 55 RX3 yX3_craneNumbered wsX3_craneNumbered) := goodIn_app (goodIn_of _ (by decide +kernel)) ggX3_earliestByMinutes_X3_craneNumbered
set_option maxRecDepth 20000 in
theorem ggX3_earliestByMinutes_X3_lastingObstacle : GoodIn wsX3_earliestByMinutes wsX3_lastingObstacle := goodIn_ca (goodIn_r _ [20, 21, 12, 13, 14, 9, 15, 16, 22, 23, 24, 25, 26, 27, 28, 29, 30, 31, 32, 33, 34, 35, 36, 37, 38, 39, 40, 41, 42, 43, 44, 45, 46, 47, 48, 49, 50, 51, 52, 53, 54, 55, 56, 93, 94, 95, 96, 97, 98, 99, 100, 101, 102, 103, 104, 105, 106, 107, 108, 109, 110, 111, 112, 113, 114, 115, 116, 117, 118, 119] (by decide +kernel) (by decide +kernel)) (goodIn_sub (fun _ h => List.mem_cons_of_mem _ (List.mem_append_right _ h)) (by decide +kernel))
set_option maxRecDepth 20000 in
theorem gX3_earliestByMinutes_X3_lastingObstacle : GoodIn wsX3_earliestByMinutes (wsV RX3 171 RX3 yX3_lastingObstacle wsX3_lastingObstacle) := goodIn_app (goodIn_of _ (by decide +kernel)) ggX3_earliestByMinutes_X3_lastingObstacle
set_option maxRecDepth 20000 in
theorem ggX3_earliestByMinutes_X3_passingObstacle : GoodIn wsX3_earliestByMinutes wsX3_passingObstacle := goodIn_r _ [60, 5, 61, 11, 62, 12, 13, 14, 9, 15, 16, 63, 64, 65, 25, 66, 67, 68, 69, 70, 71, 72, 73, 74, 75, 76, 77, 78, 79, 80, 81, 82, 83, 84, 85, 86, 87, 88, 89, 90, 91, 92, 93, 94, 95, 96, 97, 98, 99, 100, 101, 102, 103, 104, 105, 106, 107, 108, 109, 110, 111, 112, 113, 114, 115, 116, 117, 118, 119] (by decide +kernel) (by decide +kernel)
set_option maxRecDepth 20000 in
theorem gX3_earliestByMinutes_X3_passingObstacle : GoodIn wsX3_earliestByMinutes (wsV RX3 175 RX3 yX3_passingObstacle wsX3_passingObstacle) := goodIn_app (goodIn_of _ (by decide +kernel)) ggX3_earliestByMinutes_X3_passingObstacle
theorem dX3_earliestByMinutes_0 : decode cX3_earliestByMinutes 0 = .ok (.aload_n 0, 1) := by decide +kernel
theorem dX3_earliestByMinutes_1 : decode cX3_earliestByMinutes 1 = .ok (.iload_n 1, 1) := by decide +kernel
theorem dX3_earliestByMinutes_2 : decode cX3_earliestByMinutes 2 = .ok (.invokevirtual 104, 3) := by decide +kernel
theorem dX3_earliestByMinutes_5 : decode cX3_earliestByMinutes 5 = .ok (.astore_n 3, 1) := by decide +kernel
theorem dX3_earliestByMinutes_6 : decode cX3_earliestByMinutes 6 = .ok (.aload_n 3, 1) := by decide +kernel
theorem dX3_earliestByMinutes_7 : decode cX3_earliestByMinutes 7 = .ok (.ifnull 11, 3) := by decide +kernel
theorem dX3_earliestByMinutes_10 : decode cX3_earliestByMinutes 10 = .ok (.aload_n 0, 1) := by decide +kernel
theorem dX3_earliestByMinutes_11 : decode cX3_earliestByMinutes 11 = .ok (.iload_n 2, 1) := by decide +kernel
theorem dX3_earliestByMinutes_12 : decode cX3_earliestByMinutes 12 = .ok (.invokevirtual 55, 3) := by decide +kernel
theorem dX3_earliestByMinutes_15 : decode cX3_earliestByMinutes 15 = .ok (.ifnonnull 11, 3) := by decide +kernel
theorem dX3_earliestByMinutes_18 : decode cX3_earliestByMinutes 18 = .ok (.new 59, 3) := by decide +kernel
theorem dX3_earliestByMinutes_21 : decode cX3_earliestByMinutes 21 = .ok (.dup, 1) := by decide +kernel
theorem dX3_earliestByMinutes_22 : decode cX3_earliestByMinutes 22 = .ok (.invokespecial 61, 3) := by decide +kernel
theorem dX3_earliestByMinutes_25 : decode cX3_earliestByMinutes 25 = .ok (.athrow, 1) := by decide +kernel
theorem dX3_earliestByMinutes_26 : decode cX3_earliestByMinutes 26 = .ok (.aload_n 0, 1) := by decide +kernel
theorem dX3_earliestByMinutes_27 : decode cX3_earliestByMinutes 27 = .ok (.aload_n 3, 1) := by decide +kernel
theorem dX3_earliestByMinutes_28 : decode cX3_earliestByMinutes 28 = .ok (.iload_n 2, 1) := by decide +kernel
theorem dX3_earliestByMinutes_29 : decode cX3_earliestByMinutes 29 = .ok (.invokevirtual 171, 3) := by decide +kernel
theorem dX3_earliestByMinutes_32 : decode cX3_earliestByMinutes 32 = .ok (.bipush 45, 2) := by decide +kernel
theorem dX3_earliestByMinutes_34 : decode cX3_earliestByMinutes 34 = .ok (.if_icmp .ne 7, 3) := by decide +kernel
theorem dX3_earliestByMinutes_37 : decode cX3_earliestByMinutes 37 = .ok (.iconst 1, 1) := by decide +kernel
theorem dX3_earliestByMinutes_38 : decode cX3_earliestByMinutes 38 = .ok (.goto 4, 3) := by decide +kernel
theorem dX3_earliestByMinutes_41 : decode cX3_earliestByMinutes 41 = .ok (.iconst 0, 1) := by decide +kernel
theorem dX3_earliestByMinutes_42 : decode cX3_earliestByMinutes 42 = .ok (.istore 4, 2) := by decide +kernel
theorem dX3_earliestByMinutes_44 : decode cX3_earliestByMinutes 44 = .ok (.aload_n 0, 1) := by decide +kernel
theorem dX3_earliestByMinutes_45 : decode cX3_earliestByMinutes 45 = .ok (.getfield 115, 3) := by decide +kernel
theorem dX3_earliestByMinutes_48 : decode cX3_earliestByMinutes 48 = .ok (.istore 5, 2) := by decide +kernel
theorem dX3_earliestByMinutes_50 : decode cX3_earliestByMinutes 50 = .ok (.iload 4, 2) := by decide +kernel
theorem dX3_earliestByMinutes_52 : decode cX3_earliestByMinutes 52 = .ok (.ifCond .eq 33, 3) := by decide +kernel
theorem dX3_earliestByMinutes_55 : decode cX3_earliestByMinutes 55 = .ok (.iload 5, 2) := by decide +kernel
theorem dX3_earliestByMinutes_57 : decode cX3_earliestByMinutes 57 = .ok (.sipush 1440, 3) := by decide +kernel
theorem dX3_earliestByMinutes_60 : decode cX3_earliestByMinutes 60 = .ok (.if_icmp .ge 25, 3) := by decide +kernel
theorem dX3_earliestByMinutes_63 : decode cX3_earliestByMinutes 63 = .ok (.aload_n 0, 1) := by decide +kernel
theorem dX3_earliestByMinutes_64 : decode cX3_earliestByMinutes 64 = .ok (.aload_n 3, 1) := by decide +kernel
theorem dX3_earliestByMinutes_65 : decode cX3_earliestByMinutes 65 = .ok (.iload_n 2, 1) := by decide +kernel
theorem dX3_earliestByMinutes_66 : decode cX3_earliestByMinutes 66 = .ok (.iload 5, 2) := by decide +kernel
theorem dX3_earliestByMinutes_68 : decode cX3_earliestByMinutes 68 = .ok (.invokevirtual 175, 3) := by decide +kernel
theorem dX3_earliestByMinutes_71 : decode cX3_earliestByMinutes 71 = .ok (.bipush 45, 2) := by decide +kernel
theorem dX3_earliestByMinutes_73 : decode cX3_earliestByMinutes 73 = .ok (.if_icmp .ne 6, 3) := by decide +kernel
theorem dX3_earliestByMinutes_76 : decode cX3_earliestByMinutes 76 = .ok (.iload 5, 2) := by decide +kernel
theorem dX3_earliestByMinutes_78 : decode cX3_earliestByMinutes 78 = .ok (.ireturn, 1) := by decide +kernel
theorem dX3_earliestByMinutes_79 : decode cX3_earliestByMinutes 79 = .ok (.iinc 5 1, 3) := by decide +kernel
theorem dX3_earliestByMinutes_82 : decode cX3_earliestByMinutes 82 = .ok (.goto (-32), 3) := by decide +kernel
theorem dX3_earliestByMinutes_85 : decode cX3_earliestByMinutes 85 = .ok (.new 122, 3) := by decide +kernel
theorem dX3_earliestByMinutes_88 : decode cX3_earliestByMinutes 88 = .ok (.dup, 1) := by decide +kernel
theorem dX3_earliestByMinutes_89 : decode cX3_earliestByMinutes 89 = .ok (.invokespecial 124, 3) := by decide +kernel
theorem dX3_earliestByMinutes_92 : decode cX3_earliestByMinutes 92 = .ok (.athrow, 1) := by decide +kernel
set_option maxRecDepth 20000 in
theorem ggX3_stateOf_X3_liftNumbered : GoodIn wsX3_stateOf wsX3_liftNumbered := goodIn_r _ [8, 9, 21, 22, 23, 24, 25, 26, 27, 28, 29, 30] (by decide +kernel) (by decide +kernel)
set_option maxRecDepth 20000 in
theorem gX3_stateOf_X3_liftNumbered : GoodIn wsX3_stateOf (wsV RX3 104 RX3 yX3_liftNumbered wsX3_liftNumbered) := goodIn_app (goodIn_of _ (by decide +kernel)) ggX3_stateOf_X3_liftNumbered
theorem dX3_stateOf_0 : decode cX3_stateOf 0 = .ok (.aload_n 0, 1) := by decide +kernel
theorem dX3_stateOf_1 : decode cX3_stateOf 1 = .ok (.iload_n 1, 1) := by decide +kernel
theorem dX3_stateOf_2 : decode cX3_stateOf 2 = .ok (.invokevirtual 104, 3) := by decide +kernel
theorem dX3_stateOf_5 : decode cX3_stateOf 5 = .ok (.astore_n 2, 1) := by decide +kernel
theorem dX3_stateOf_6 : decode cX3_stateOf 6 = .ok (.aload_n 2, 1) := by decide +kernel
theorem dX3_stateOf_7 : decode cX3_stateOf 7 = .ok (.ifnonnull 11, 3) := by decide +kernel
theorem dX3_stateOf_10 : decode cX3_stateOf 10 = .ok (.new 59, 3) := by decide +kernel
theorem dX3_stateOf_13 : decode cX3_stateOf 13 = .ok (.dup, 1) := by decide +kernel
theorem dX3_stateOf_14 : decode cX3_stateOf 14 = .ok (.invokespecial 61, 3) := by decide +kernel
theorem dX3_stateOf_17 : decode cX3_stateOf 17 = .ok (.athrow, 1) := by decide +kernel
theorem dX3_stateOf_18 : decode cX3_stateOf 18 = .ok (.aload_n 2, 1) := by decide +kernel
theorem dX3_stateOf_19 : decode cX3_stateOf 19 = .ok (.getfield 108, 3) := by decide +kernel
theorem dX3_stateOf_22 : decode cX3_stateOf 22 = .ok (.ireturn, 1) := by decide +kernel
set_option maxRecDepth 20000 in
theorem ggX3_startOf_X3_liftNumbered : GoodIn wsX3_startOf wsX3_liftNumbered := goodIn_r _ [10, 11, 29, 30, 31, 32, 33, 34, 35, 36, 37, 38] (by decide +kernel) (by decide +kernel)
set_option maxRecDepth 20000 in
theorem gX3_startOf_X3_liftNumbered : GoodIn wsX3_startOf (wsV RX3 104 RX3 yX3_liftNumbered wsX3_liftNumbered) := goodIn_app (goodIn_of _ (by decide +kernel)) ggX3_startOf_X3_liftNumbered
set_option maxRecDepth 20000 in
theorem ggX3_startOf_X1_hasCrane : GoodIn wsX3_startOf wsX1_hasCrane := goodIn_r _ [16, 17, 18, 19, 20, 21, 22, 23, 24, 25, 26, 27, 28] (by decide +kernel) (by decide +kernel)
set_option maxRecDepth 20000 in
theorem gX3_startOf_X1_hasCrane : GoodIn wsX3_startOf (wsV RX3 178 RX1 yX1_hasCrane wsX1_hasCrane) := goodIn_app (goodIn_of _ (by decide +kernel)) ggX3_startOf_X1_hasCrane
theorem dX3_startOf_0 : decode cX3_startOf 0 = .ok (.aload_n 0, 1) := by decide +kernel
theorem dX3_startOf_1 : decode cX3_startOf 1 = .ok (.iload_n 1, 1) := by decide +kernel
theorem dX3_startOf_2 : decode cX3_startOf 2 = .ok (.invokevirtual 104, 3) := by decide +kernel
theorem dX3_startOf_5 : decode cX3_startOf 5 = .ok (.astore_n 2, 1) := by decide +kernel
theorem dX3_startOf_6 : decode cX3_startOf 6 = .ok (.aload_n 2, 1) := by decide +kernel
theorem dX3_startOf_7 : decode cX3_startOf 7 = .ok (.ifnonnull 11, 3) := by decide +kernel
theorem dX3_startOf_10 : decode cX3_startOf 10 = .ok (.new 59, 3) := by decide +kernel
theorem dX3_startOf_13 : decode cX3_startOf 13 = .ok (.dup, 1) := by decide +kernel
theorem dX3_startOf_14 : decode cX3_startOf 14 = .ok (.invokespecial 61, 3) := by decide +kernel
theorem dX3_startOf_17 : decode cX3_startOf 17 = .ok (.athrow, 1) := by decide +kernel
theorem dX3_startOf_18 : decode cX3_startOf 18 = .ok (.aload_n 2, 1) := by decide +kernel
theorem dX3_startOf_19 : decode cX3_startOf 19 = .ok (.invokevirtual 178, 3) := by decide +kernel
theorem dX3_startOf_22 : decode cX3_startOf 22 = .ok (.ifCond .ne 11, 3) := by decide +kernel
theorem dX3_startOf_25 : decode cX3_startOf 25 = .ok (.new 49, 3) := by decide +kernel
theorem dX3_startOf_28 : decode cX3_startOf 28 = .ok (.dup, 1) := by decide +kernel
theorem dX3_startOf_29 : decode cX3_startOf 29 = .ok (.invokespecial 51, 3) := by decide +kernel
theorem dX3_startOf_32 : decode cX3_startOf 32 = .ok (.athrow, 1) := by decide +kernel
theorem dX3_startOf_33 : decode cX3_startOf 33 = .ok (.aload_n 2, 1) := by decide +kernel
theorem dX3_startOf_34 : decode cX3_startOf 34 = .ok (.getfield 157, 3) := by decide +kernel
theorem dX3_startOf_37 : decode cX3_startOf 37 = .ok (.ireturn, 1) := by decide +kernel
set_option maxRecDepth 20000 in
theorem ggX3_craneOf_X3_liftNumbered : GoodIn wsX3_craneOf wsX3_liftNumbered := goodIn_r _ [10, 11, 29, 30, 31, 32, 33, 34, 35, 36, 37, 38] (by decide +kernel) (by decide +kernel)
set_option maxRecDepth 20000 in
theorem gX3_craneOf_X3_liftNumbered : GoodIn wsX3_craneOf (wsV RX3 104 RX3 yX3_liftNumbered wsX3_liftNumbered) := goodIn_app (goodIn_of _ (by decide +kernel)) ggX3_craneOf_X3_liftNumbered
set_option maxRecDepth 20000 in
theorem ggX3_craneOf_X1_hasCrane : GoodIn wsX3_craneOf wsX1_hasCrane := goodIn_r _ [16, 17, 18, 19, 20, 21, 22, 23, 24, 25, 26, 27, 28] (by decide +kernel) (by decide +kernel)
set_option maxRecDepth 20000 in
theorem gX3_craneOf_X1_hasCrane : GoodIn wsX3_craneOf (wsV RX3 178 RX1 yX1_hasCrane wsX1_hasCrane) := goodIn_app (goodIn_of _ (by decide +kernel)) ggX3_craneOf_X1_hasCrane
theorem dX3_craneOf_0 : decode cX3_craneOf 0 = .ok (.aload_n 0, 1) := by decide +kernel
theorem dX3_craneOf_1 : decode cX3_craneOf 1 = .ok (.iload_n 1, 1) := by decide +kernel
theorem dX3_craneOf_2 : decode cX3_craneOf 2 = .ok (.invokevirtual 104, 3) := by decide +kernel
theorem dX3_craneOf_5 : decode cX3_craneOf 5 = .ok (.astore_n 2, 1) := by decide +kernel
theorem dX3_craneOf_6 : decode cX3_craneOf 6 = .ok (.aload_n 2, 1) := by decide +kernel
theorem dX3_craneOf_7 : decode cX3_craneOf 7 = .ok (.ifnonnull 11, 3) := by decide +kernel
theorem dX3_craneOf_10 : decode cX3_craneOf 10 = .ok (.new 59, 3) := by decide +kernel
theorem dX3_craneOf_13 : decode cX3_craneOf 13 = .ok (.dup, 1) := by decide +kernel
theorem dX3_craneOf_14 : decode cX3_craneOf 14 = .ok (.invokespecial 61, 3) := by decide +kernel
theorem dX3_craneOf_17 : decode cX3_craneOf 17 = .ok (.athrow, 1) := by decide +kernel
theorem dX3_craneOf_18 : decode cX3_craneOf 18 = .ok (.aload_n 2, 1) := by decide +kernel
theorem dX3_craneOf_19 : decode cX3_craneOf 19 = .ok (.invokevirtual 178, 3) := by decide +kernel
theorem dX3_craneOf_22 : decode cX3_craneOf 22 = .ok (.ifCond .ne 11, 3) := by decide +kernel
theorem dX3_craneOf_25 : decode cX3_craneOf 25 = .ok (.new 49, 3) := by decide +kernel
theorem dX3_craneOf_28 : decode cX3_craneOf 28 = .ok (.dup, 1) := by decide +kernel
theorem dX3_craneOf_29 : decode cX3_craneOf 29 = .ok (.invokespecial 51, 3) := by decide +kernel
theorem dX3_craneOf_32 : decode cX3_craneOf 32 = .ok (.athrow, 1) := by decide +kernel
theorem dX3_craneOf_33 : decode cX3_craneOf 33 = .ok (.aload_n 2, 1) := by decide +kernel
theorem dX3_craneOf_34 : decode cX3_craneOf 34 = .ok (.getfield 182, 3) := by decide +kernel
theorem dX3_craneOf_37 : decode cX3_craneOf 37 = .ok (.ireturn, 1) := by decide +kernel
set_option maxRecDepth 20000 in
theorem ggX3_pourOf_X3_liftNumbered : GoodIn wsX3_pourOf wsX3_liftNumbered := goodIn_r _ [8, 9, 21, 22, 23, 24, 25, 26, 27, 28, 29, 30] (by decide +kernel) (by decide +kernel)
set_option maxRecDepth 20000 in
theorem gX3_pourOf_X3_liftNumbered : GoodIn wsX3_pourOf (wsV RX3 104 RX3 yX3_liftNumbered wsX3_liftNumbered) := goodIn_app (goodIn_of _ (by decide +kernel)) ggX3_pourOf_X3_liftNumbered
theorem dX3_pourOf_0 : decode cX3_pourOf 0 = .ok (.aload_n 0, 1) := by decide +kernel
theorem dX3_pourOf_1 : decode cX3_pourOf 1 = .ok (.iload_n 1, 1) := by decide +kernel
theorem dX3_pourOf_2 : decode cX3_pourOf 2 = .ok (.invokevirtual 104, 3) := by decide +kernel
theorem dX3_pourOf_5 : decode cX3_pourOf 5 = .ok (.astore_n 2, 1) := by decide +kernel
theorem dX3_pourOf_6 : decode cX3_pourOf 6 = .ok (.aload_n 2, 1) := by decide +kernel
theorem dX3_pourOf_7 : decode cX3_pourOf 7 = .ok (.ifnonnull 11, 3) := by decide +kernel
theorem dX3_pourOf_10 : decode cX3_pourOf 10 = .ok (.new 59, 3) := by decide +kernel
theorem dX3_pourOf_13 : decode cX3_pourOf 13 = .ok (.dup, 1) := by decide +kernel
theorem dX3_pourOf_14 : decode cX3_pourOf 14 = .ok (.invokespecial 61, 3) := by decide +kernel
theorem dX3_pourOf_17 : decode cX3_pourOf 17 = .ok (.athrow, 1) := by decide +kernel
theorem dX3_pourOf_18 : decode cX3_pourOf 18 = .ok (.aload_n 2, 1) := by decide +kernel
theorem dX3_pourOf_19 : decode cX3_pourOf 19 = .ok (.getfield 112, 3) := by decide +kernel
theorem dX3_pourOf_22 : decode cX3_pourOf 22 = .ok (.ireturn, 1) := by decide +kernel
set_option maxRecDepth 20000 in
theorem ggX3_airOf_X3_liftNumbered : GoodIn wsX3_airOf wsX3_liftNumbered := goodIn_r _ [8, 9, 21, 22, 23, 24, 25, 26, 27, 28, 29, 30] (by decide +kernel) (by decide +kernel)
set_option maxRecDepth 20000 in
theorem gX3_airOf_X3_liftNumbered : GoodIn wsX3_airOf (wsV RX3 104 RX3 yX3_liftNumbered wsX3_liftNumbered) := goodIn_app (goodIn_of _ (by decide +kernel)) ggX3_airOf_X3_liftNumbered
theorem dX3_airOf_0 : decode cX3_airOf 0 = .ok (.aload_n 0, 1) := by decide +kernel
theorem dX3_airOf_1 : decode cX3_airOf 1 = .ok (.iload_n 1, 1) := by decide +kernel
theorem dX3_airOf_2 : decode cX3_airOf 2 = .ok (.invokevirtual 104, 3) := by decide +kernel
theorem dX3_airOf_5 : decode cX3_airOf 5 = .ok (.astore_n 2, 1) := by decide +kernel
theorem dX3_airOf_6 : decode cX3_airOf 6 = .ok (.aload_n 2, 1) := by decide +kernel
theorem dX3_airOf_7 : decode cX3_airOf 7 = .ok (.ifnonnull 11, 3) := by decide +kernel
theorem dX3_airOf_10 : decode cX3_airOf 10 = .ok (.new 59, 3) := by decide +kernel
theorem dX3_airOf_13 : decode cX3_airOf 13 = .ok (.dup, 1) := by decide +kernel
theorem dX3_airOf_14 : decode cX3_airOf 14 = .ok (.invokespecial 61, 3) := by decide +kernel
theorem dX3_airOf_17 : decode cX3_airOf 17 = .ok (.athrow, 1) := by decide +kernel
theorem dX3_airOf_18 : decode cX3_airOf 18 = .ok (.aload_n 2, 1) := by decide +kernel
theorem dX3_airOf_19 : decode cX3_airOf 19 = .ok (.getfield 185, 3) := by decide +kernel
theorem dX3_airOf_22 : decode cX3_airOf 22 = .ok (.lreturn, 1) := by decide +kernel
set_option maxRecDepth 20000 in
theorem ggX3_shareAir_X3_liftNumbered : GoodIn wsX3_shareAir wsX3_liftNumbered := goodIn_r _ [7, 8, 15, 16, 17, 18, 19, 20, 21, 22, 23, 24] (by decide +kernel) (by decide +kernel)
set_option maxRecDepth 20000 in
theorem gX3_shareAir_X3_liftNumbered : GoodIn wsX3_shareAir (wsV RX3 104 RX3 yX3_liftNumbered wsX3_liftNumbered) := goodIn_app (goodIn_of _ (by decide +kernel)) ggX3_shareAir_X3_liftNumbered
set_option maxRecDepth 20000 in
theorem ggX3_shareAir_X1_sharesAir : GoodIn wsX3_shareAir wsX1_sharesAir := goodIn_r _ [13, 14, 25, 26, 27, 28, 29, 30, 31, 32, 33, 34, 35] (by decide +kernel) (by decide +kernel)
set_option maxRecDepth 20000 in
theorem gX3_shareAir_X1_sharesAir : GoodIn wsX3_shareAir (wsV RX3 189 RX1 yX1_sharesAir wsX1_sharesAir) := goodIn_app (goodIn_of _ (by decide +kernel)) ggX3_shareAir_X1_sharesAir
theorem dX3_shareAir_0 : decode cX3_shareAir 0 = .ok (.aload_n 0, 1) := by decide +kernel
theorem dX3_shareAir_1 : decode cX3_shareAir 1 = .ok (.iload_n 1, 1) := by decide +kernel
theorem dX3_shareAir_2 : decode cX3_shareAir 2 = .ok (.invokevirtual 104, 3) := by decide +kernel
theorem dX3_shareAir_5 : decode cX3_shareAir 5 = .ok (.astore_n 3, 1) := by decide +kernel
theorem dX3_shareAir_6 : decode cX3_shareAir 6 = .ok (.aload_n 0, 1) := by decide +kernel
theorem dX3_shareAir_7 : decode cX3_shareAir 7 = .ok (.iload_n 2, 1) := by decide +kernel
theorem dX3_shareAir_8 : decode cX3_shareAir 8 = .ok (.invokevirtual 104, 3) := by decide +kernel
theorem dX3_shareAir_11 : decode cX3_shareAir 11 = .ok (.astore 4, 2) := by decide +kernel
theorem dX3_shareAir_13 : decode cX3_shareAir 13 = .ok (.aload_n 3, 1) := by decide +kernel
theorem dX3_shareAir_14 : decode cX3_shareAir 14 = .ok (.ifnull 8, 3) := by decide +kernel
theorem dX3_shareAir_17 : decode cX3_shareAir 17 = .ok (.aload 4, 2) := by decide +kernel
theorem dX3_shareAir_19 : decode cX3_shareAir 19 = .ok (.ifnonnull 11, 3) := by decide +kernel
theorem dX3_shareAir_22 : decode cX3_shareAir 22 = .ok (.new 59, 3) := by decide +kernel
theorem dX3_shareAir_25 : decode cX3_shareAir 25 = .ok (.dup, 1) := by decide +kernel
theorem dX3_shareAir_26 : decode cX3_shareAir 26 = .ok (.invokespecial 61, 3) := by decide +kernel
theorem dX3_shareAir_29 : decode cX3_shareAir 29 = .ok (.athrow, 1) := by decide +kernel
theorem dX3_shareAir_30 : decode cX3_shareAir 30 = .ok (.aload_n 3, 1) := by decide +kernel
theorem dX3_shareAir_31 : decode cX3_shareAir 31 = .ok (.aload 4, 2) := by decide +kernel
theorem dX3_shareAir_33 : decode cX3_shareAir 33 = .ok (.invokevirtual 189, 3) := by decide +kernel
theorem dX3_shareAir_36 : decode cX3_shareAir 36 = .ok (.ireturn, 1) := by decide +kernel
set_option maxRecDepth 20000 in
theorem ggX3_liftAt_X3_craneNumbered : GoodIn wsX3_liftAt wsX3_craneNumbered := goodIn_r _ [10, 11, 39, 40, 41, 42, 43, 44, 45, 46, 47, 48] (by decide +kernel) (by decide +kernel)
set_option maxRecDepth 20000 in
theorem gX3_liftAt_X3_craneNumbered : GoodIn wsX3_liftAt (wsV RX3 55 RX3 yX3_craneNumbered wsX3_craneNumbered) := goodIn_app (goodIn_of _ (by decide +kernel)) ggX3_liftAt_X3_craneNumbered
set_option maxRecDepth 20000 in
theorem ggX3_liftAt_X3_isMinute : GoodIn wsX3_liftAt wsX3_isMinute := goodIn_r _ [14, 15, 16, 9, 17] (by decide +kernel) (by decide +kernel)
set_option maxRecDepth 20000 in
theorem gX3_liftAt_X3_isMinute : GoodIn wsX3_liftAt (va_wsS RX3 193 yX3_isMinute wsX3_isMinute) := goodIn_app (goodIn_of _ (by decide +kernel)) ggX3_liftAt_X3_isMinute
set_option maxRecDepth 20000 in
theorem ggX3_liftAt_X1_isOn : GoodIn wsX3_liftAt wsX1_isOn := goodIn_r _ [22, 23, 24, 25, 26, 21, 27, 28, 49, 50, 51, 52, 53, 54, 55, 56, 57, 58, 59] (by decide +kernel) (by decide +kernel)
set_option maxRecDepth 20000 in
theorem gX3_liftAt_X1_isOn : GoodIn wsX3_liftAt (wsV RX3 197 RX1 yX1_isOn wsX1_isOn) := goodIn_app (goodIn_of _ (by decide +kernel)) ggX3_liftAt_X1_isOn
set_option maxRecDepth 20000 in
theorem ggX3_liftAt_X1_meets : GoodIn wsX3_liftAt wsX1_meets := goodIn_r _ [32, 33, 24, 25, 26, 21, 27, 28, 34, 35, 36, 37, 38, 49, 50, 51, 52, 53, 54, 55, 56, 57, 58, 59] (by decide +kernel) (by decide +kernel)
set_option maxRecDepth 20000 in
theorem gX3_liftAt_X1_meets : GoodIn wsX3_liftAt (wsV RX3 200 RX1 yX1_meets wsX1_meets) := goodIn_app (goodIn_of _ (by decide +kernel)) ggX3_liftAt_X1_meets
theorem dX3_liftAt_0 : decode cX3_liftAt 0 = .ok (.aload_n 0, 1) := by decide +kernel
theorem dX3_liftAt_1 : decode cX3_liftAt 1 = .ok (.iload_n 1, 1) := by decide +kernel
theorem dX3_liftAt_2 : decode cX3_liftAt 2 = .ok (.invokevirtual 55, 3) := by decide +kernel
theorem dX3_liftAt_5 : decode cX3_liftAt 5 = .ok (.ifnonnull 11, 3) := by decide +kernel
theorem dX3_liftAt_8 : decode cX3_liftAt 8 = .ok (.new 59, 3) := by decide +kernel
theorem dX3_liftAt_11 : decode cX3_liftAt 11 = .ok (.dup, 1) := by decide +kernel
theorem dX3_liftAt_12 : decode cX3_liftAt 12 = .ok (.invokespecial 61, 3) := by decide +kernel
theorem dX3_liftAt_15 : decode cX3_liftAt 15 = .ok (.athrow, 1) := by decide +kernel
theorem dX3_liftAt_16 : decode cX3_liftAt 16 = .ok (.iload_n 2, 1) := by decide +kernel
theorem dX3_liftAt_17 : decode cX3_liftAt 17 = .ok (.invokestatic 193, 3) := by decide +kernel
theorem dX3_liftAt_20 : decode cX3_liftAt 20 = .ok (.ifCond .ne 11, 3) := by decide +kernel
theorem dX3_liftAt_23 : decode cX3_liftAt 23 = .ok (.new 42, 3) := by decide +kernel
theorem dX3_liftAt_26 : decode cX3_liftAt 26 = .ok (.dup, 1) := by decide +kernel
theorem dX3_liftAt_27 : decode cX3_liftAt 27 = .ok (.invokespecial 44, 3) := by decide +kernel
theorem dX3_liftAt_30 : decode cX3_liftAt 30 = .ok (.athrow, 1) := by decide +kernel
theorem dX3_liftAt_31 : decode cX3_liftAt 31 = .ok (.iconst 0, 1) := by decide +kernel
theorem dX3_liftAt_32 : decode cX3_liftAt 32 = .ok (.istore_n 3, 1) := by decide +kernel
theorem dX3_liftAt_33 : decode cX3_liftAt 33 = .ok (.iload_n 3, 1) := by decide +kernel
theorem dX3_liftAt_34 : decode cX3_liftAt 34 = .ok (.aload_n 0, 1) := by decide +kernel
theorem dX3_liftAt_35 : decode cX3_liftAt 35 = .ok (.getfield 17, 3) := by decide +kernel
theorem dX3_liftAt_38 : decode cX3_liftAt 38 = .ok (.arraylength, 1) := by decide +kernel
theorem dX3_liftAt_39 : decode cX3_liftAt 39 = .ok (.if_icmp .ge 45, 3) := by decide +kernel
theorem dX3_liftAt_42 : decode cX3_liftAt 42 = .ok (.aload_n 0, 1) := by decide +kernel
theorem dX3_liftAt_43 : decode cX3_liftAt 43 = .ok (.getfield 17, 3) := by decide +kernel
theorem dX3_liftAt_46 : decode cX3_liftAt 46 = .ok (.iload_n 3, 1) := by decide +kernel
theorem dX3_liftAt_47 : decode cX3_liftAt 47 = .ok (.aaload, 1) := by decide +kernel
theorem dX3_liftAt_48 : decode cX3_liftAt 48 = .ok (.astore 4, 2) := by decide +kernel
theorem dX3_liftAt_50 : decode cX3_liftAt 50 = .ok (.aload 4, 2) := by decide +kernel
theorem dX3_liftAt_52 : decode cX3_liftAt 52 = .ok (.ifnull 26, 3) := by decide +kernel
theorem dX3_liftAt_55 : decode cX3_liftAt 55 = .ok (.aload 4, 2) := by decide +kernel
theorem dX3_liftAt_57 : decode cX3_liftAt 57 = .ok (.iload_n 1, 1) := by decide +kernel
theorem dX3_liftAt_58 : decode cX3_liftAt 58 = .ok (.invokevirtual 197, 3) := by decide +kernel
theorem dX3_liftAt_61 : decode cX3_liftAt 61 = .ok (.ifCond .eq 17, 3) := by decide +kernel
theorem dX3_liftAt_64 : decode cX3_liftAt 64 = .ok (.aload 4, 2) := by decide +kernel
theorem dX3_liftAt_66 : decode cX3_liftAt 66 = .ok (.iload_n 2, 1) := by decide +kernel
theorem dX3_liftAt_67 : decode cX3_liftAt 67 = .ok (.iload_n 2, 1) := by decide +kernel
theorem dX3_liftAt_68 : decode cX3_liftAt 68 = .ok (.iconst 1, 1) := by decide +kernel
theorem dX3_liftAt_69 : decode cX3_liftAt 69 = .ok (.iadd, 1) := by decide +kernel
theorem dX3_liftAt_70 : decode cX3_liftAt 70 = .ok (.invokevirtual 200, 3) := by decide +kernel
theorem dX3_liftAt_73 : decode cX3_liftAt 73 = .ok (.ifCond .eq 5, 3) := by decide +kernel
theorem dX3_liftAt_76 : decode cX3_liftAt 76 = .ok (.iload_n 3, 1) := by decide +kernel
theorem dX3_liftAt_77 : decode cX3_liftAt 77 = .ok (.ireturn, 1) := by decide +kernel
theorem dX3_liftAt_78 : decode cX3_liftAt 78 = .ok (.iinc 3 1, 3) := by decide +kernel
theorem dX3_liftAt_81 : decode cX3_liftAt 81 = .ok (.goto (-48), 3) := by decide +kernel
theorem dX3_liftAt_84 : decode cX3_liftAt 84 = .ok (.iconst (-1), 1) := by decide +kernel
theorem dX3_liftAt_85 : decode cX3_liftAt 85 = .ok (.ireturn, 1) := by decide +kernel
set_option maxRecDepth 20000 in
theorem ggX3_liftByMinutes_X3_craneNumbered : GoodIn wsX3_liftByMinutes wsX3_craneNumbered := goodIn_r _ [10, 11, 49, 50, 51, 52, 53, 54, 55, 56, 57, 58] (by decide +kernel) (by decide +kernel)
set_option maxRecDepth 20000 in
theorem gX3_liftByMinutes_X3_craneNumbered : GoodIn wsX3_liftByMinutes (wsV RX3 55 RX3 yX3_craneNumbered wsX3_craneNumbered) := goodIn_app (goodIn_of _ (by decide +kernel)) ggX3_liftByMinutes_X3_craneNumbered
set_option maxRecDepth 20000 in
theorem ggX3_liftByMinutes_X3_isMinute : GoodIn wsX3_liftByMinutes wsX3_isMinute := goodIn_r _ [14, 15, 16, 9, 17] (by decide +kernel) (by decide +kernel)
set_option maxRecDepth 20000 in
theorem gX3_liftByMinutes_X3_isMinute : GoodIn wsX3_liftByMinutes (va_wsS RX3 193 yX3_isMinute wsX3_isMinute) := goodIn_app (goodIn_of _ (by decide +kernel)) ggX3_liftByMinutes_X3_isMinute
set_option maxRecDepth 20000 in
theorem ggX3_liftByMinutes_X3_fillDayRow : GoodIn wsX3_liftByMinutes wsX3_fillDayRow := goodIn_r _ [21, 5, 22, 23, 24, 25, 26, 27, 28, 29, 30, 31, 32, 33, 34, 35, 36, 37, 38, 39, 40, 41, 42, 43, 44, 45, 46, 47, 48, 49, 50, 51, 52, 53, 54, 55, 56, 57, 58, 59, 60, 61, 62, 63, 64, 65, 66, 67, 68, 69] (by decide +kernel) (by decide +kernel)
set_option maxRecDepth 20000 in
theorem gX3_liftByMinutes_X3_fillDayRow : GoodIn wsX3_liftByMinutes (wsV RX3 203 RX3 yX3_fillDayRow wsX3_fillDayRow) := goodIn_app (goodIn_of _ (by decide +kernel)) ggX3_liftByMinutes_X3_fillDayRow
theorem dX3_liftByMinutes_0 : decode cX3_liftByMinutes 0 = .ok (.aload_n 0, 1) := by decide +kernel
theorem dX3_liftByMinutes_1 : decode cX3_liftByMinutes 1 = .ok (.iload_n 1, 1) := by decide +kernel
theorem dX3_liftByMinutes_2 : decode cX3_liftByMinutes 2 = .ok (.invokevirtual 55, 3) := by decide +kernel
theorem dX3_liftByMinutes_5 : decode cX3_liftByMinutes 5 = .ok (.ifnonnull 11, 3) := by decide +kernel
theorem dX3_liftByMinutes_8 : decode cX3_liftByMinutes 8 = .ok (.new 59, 3) := by decide +kernel
theorem dX3_liftByMinutes_11 : decode cX3_liftByMinutes 11 = .ok (.dup, 1) := by decide +kernel
theorem dX3_liftByMinutes_12 : decode cX3_liftByMinutes 12 = .ok (.invokespecial 61, 3) := by decide +kernel
theorem dX3_liftByMinutes_15 : decode cX3_liftByMinutes 15 = .ok (.athrow, 1) := by decide +kernel
theorem dX3_liftByMinutes_16 : decode cX3_liftByMinutes 16 = .ok (.iload_n 2, 1) := by decide +kernel
theorem dX3_liftByMinutes_17 : decode cX3_liftByMinutes 17 = .ok (.invokestatic 193, 3) := by decide +kernel
theorem dX3_liftByMinutes_20 : decode cX3_liftByMinutes 20 = .ok (.ifCond .ne 11, 3) := by decide +kernel
theorem dX3_liftByMinutes_23 : decode cX3_liftByMinutes 23 = .ok (.new 42, 3) := by decide +kernel
theorem dX3_liftByMinutes_26 : decode cX3_liftByMinutes 26 = .ok (.dup, 1) := by decide +kernel
theorem dX3_liftByMinutes_27 : decode cX3_liftByMinutes 27 = .ok (.invokespecial 44, 3) := by decide +kernel
theorem dX3_liftByMinutes_30 : decode cX3_liftByMinutes 30 = .ok (.athrow, 1) := by decide +kernel
theorem dX3_liftByMinutes_31 : decode cX3_liftByMinutes 31 = .ok (.aload_n 0, 1) := by decide +kernel
theorem dX3_liftByMinutes_32 : decode cX3_liftByMinutes 32 = .ok (.iload_n 1, 1) := by decide +kernel
theorem dX3_liftByMinutes_33 : decode cX3_liftByMinutes 33 = .ok (.invokevirtual 203, 3) := by decide +kernel
theorem dX3_liftByMinutes_36 : decode cX3_liftByMinutes 36 = .ok (.iload_n 2, 1) := by decide +kernel
theorem dX3_liftByMinutes_37 : decode cX3_liftByMinutes 37 = .ok (.aload_n 0, 1) := by decide +kernel
theorem dX3_liftByMinutes_38 : decode cX3_liftByMinutes 38 = .ok (.getfield 31, 3) := by decide +kernel
theorem dX3_liftByMinutes_41 : decode cX3_liftByMinutes 41 = .ok (.arraylength, 1) := by decide +kernel
theorem dX3_liftByMinutes_42 : decode cX3_liftByMinutes 42 = .ok (.if_icmp .ge 12, 3) := by decide +kernel
theorem dX3_liftByMinutes_45 : decode cX3_liftByMinutes 45 = .ok (.aload_n 0, 1) := by decide +kernel
theorem dX3_liftByMinutes_46 : decode cX3_liftByMinutes 46 = .ok (.getfield 31, 3) := by decide +kernel
theorem dX3_liftByMinutes_49 : decode cX3_liftByMinutes 49 = .ok (.iload_n 2, 1) := by decide +kernel
theorem dX3_liftByMinutes_50 : decode cX3_liftByMinutes 50 = .ok (.iaload, 1) := by decide +kernel
theorem dX3_liftByMinutes_51 : decode cX3_liftByMinutes 51 = .ok (.goto 4, 3) := by decide +kernel
theorem dX3_liftByMinutes_54 : decode cX3_liftByMinutes 54 = .ok (.iconst (-1), 1) := by decide +kernel
theorem dX3_liftByMinutes_55 : decode cX3_liftByMinutes 55 = .ok (.ireturn, 1) := by decide +kernel
set_option maxRecDepth 20000 in
theorem ggX3_freeMinutes_X3_craneNumbered : GoodIn wsX3_freeMinutes wsX3_craneNumbered := goodIn_r _ [7, 8, 49, 50, 51, 52, 53, 54, 55, 56, 57, 58] (by decide +kernel) (by decide +kernel)
set_option maxRecDepth 20000 in
theorem gX3_freeMinutes_X3_craneNumbered : GoodIn wsX3_freeMinutes (wsV RX3 55 RX3 yX3_craneNumbered wsX3_craneNumbered) := goodIn_app (goodIn_of _ (by decide +kernel)) ggX3_freeMinutes_X3_craneNumbered
set_option maxRecDepth 20000 in
theorem ggX3_freeMinutes_X0_minutesAllowed : GoodIn wsX3_freeMinutes wsX0_minutesAllowed := goodIn_r _ [13, 14, 15, 16, 17, 18, 19, 20, 21, 59, 60, 61, 62, 63, 64] (by decide +kernel) (by decide +kernel)
set_option maxRecDepth 20000 in
theorem gX3_freeMinutes_X0_minutesAllowed : GoodIn wsX3_freeMinutes (wsV RX3 207 RX0 yX0_minutesAllowed wsX0_minutesAllowed) := goodIn_app (goodIn_of _ (by decide +kernel)) ggX3_freeMinutes_X0_minutesAllowed
set_option maxRecDepth 20000 in
theorem ggX3_freeMinutes_X3_countAllowedWork : GoodIn wsX3_freeMinutes wsX3_countAllowedWork := goodIn_r _ [25, 26, 27, 28, 29, 30, 31, 32, 33, 34, 35, 36, 37, 38, 39, 40, 41, 42, 43, 44, 45, 46, 47, 12, 48, 14, 49, 50, 51, 52, 53, 54, 55, 56, 57, 58, 65, 66, 67, 68, 69, 70, 71, 72, 73, 74, 75, 59, 60, 61, 62, 63, 64] (by decide +kernel) (by decide +kernel)
set_option maxRecDepth 20000 in
theorem gX3_freeMinutes_X3_countAllowedWork : GoodIn wsX3_freeMinutes (wsV RX3 210 RX3 yX3_countAllowedWork wsX3_countAllowedWork) := goodIn_app (goodIn_of _ (by decide +kernel)) ggX3_freeMinutes_X3_countAllowedWork
theorem dX3_freeMinutes_0 : decode cX3_freeMinutes 0 = .ok (.aload_n 0, 1) := by decide +kernel
theorem dX3_freeMinutes_1 : decode cX3_freeMinutes 1 = .ok (.iload_n 1, 1) := by decide +kernel
theorem dX3_freeMinutes_2 : decode cX3_freeMinutes 2 = .ok (.invokevirtual 55, 3) := by decide +kernel
theorem dX3_freeMinutes_5 : decode cX3_freeMinutes 5 = .ok (.astore_n 2, 1) := by decide +kernel
theorem dX3_freeMinutes_6 : decode cX3_freeMinutes 6 = .ok (.aload_n 2, 1) := by decide +kernel
theorem dX3_freeMinutes_7 : decode cX3_freeMinutes 7 = .ok (.ifnonnull 11, 3) := by decide +kernel
theorem dX3_freeMinutes_10 : decode cX3_freeMinutes 10 = .ok (.new 59, 3) := by decide +kernel
theorem dX3_freeMinutes_13 : decode cX3_freeMinutes 13 = .ok (.dup, 1) := by decide +kernel
theorem dX3_freeMinutes_14 : decode cX3_freeMinutes 14 = .ok (.invokespecial 61, 3) := by decide +kernel
theorem dX3_freeMinutes_17 : decode cX3_freeMinutes 17 = .ok (.athrow, 1) := by decide +kernel
theorem dX3_freeMinutes_18 : decode cX3_freeMinutes 18 = .ok (.aload_n 2, 1) := by decide +kernel
theorem dX3_freeMinutes_19 : decode cX3_freeMinutes 19 = .ok (.invokevirtual 207, 3) := by decide +kernel
theorem dX3_freeMinutes_22 : decode cX3_freeMinutes 22 = .ok (.aload_n 0, 1) := by decide +kernel
theorem dX3_freeMinutes_23 : decode cX3_freeMinutes 23 = .ok (.iload_n 1, 1) := by decide +kernel
theorem dX3_freeMinutes_24 : decode cX3_freeMinutes 24 = .ok (.aload_n 2, 1) := by decide +kernel
theorem dX3_freeMinutes_25 : decode cX3_freeMinutes 25 = .ok (.invokevirtual 210, 3) := by decide +kernel
theorem dX3_freeMinutes_28 : decode cX3_freeMinutes 28 = .ok (.isub, 1) := by decide +kernel
theorem dX3_freeMinutes_29 : decode cX3_freeMinutes 29 = .ok (.ireturn, 1) := by decide +kernel
set_option maxRecDepth 20000 in
theorem ggX3_atWork_X3_isMinute : GoodIn wsX3_atWork wsX3_isMinute := goodIn_r _ [7, 8, 9, 6, 10] (by decide +kernel) (by decide +kernel)
set_option maxRecDepth 20000 in
theorem gX3_atWork_X3_isMinute : GoodIn wsX3_atWork (va_wsS RX3 193 yX3_isMinute wsX3_isMinute) := goodIn_app (goodIn_of _ (by decide +kernel)) ggX3_atWork_X3_isMinute
set_option maxRecDepth 20000 in
theorem ggX3_atWork_X1_meets : GoodIn wsX3_atWork wsX1_meets := goodIn_r _ [15, 16, 17, 18, 19, 14, 20, 21, 22, 23, 24, 25, 26, 37, 38, 39, 40, 41, 42, 43, 44, 45, 46, 47] (by decide +kernel) (by decide +kernel)
set_option maxRecDepth 20000 in
theorem gX3_atWork_X1_meets : GoodIn wsX3_atWork (wsV RX3 200 RX1 yX1_meets wsX1_meets) := goodIn_app (goodIn_of _ (by decide +kernel)) ggX3_atWork_X1_meets
theorem dX3_atWork_0 : decode cX3_atWork 0 = .ok (.iload_n 1, 1) := by decide +kernel
theorem dX3_atWork_1 : decode cX3_atWork 1 = .ok (.invokestatic 193, 3) := by decide +kernel
theorem dX3_atWork_4 : decode cX3_atWork 4 = .ok (.ifCond .ne 11, 3) := by decide +kernel
theorem dX3_atWork_7 : decode cX3_atWork 7 = .ok (.new 42, 3) := by decide +kernel
theorem dX3_atWork_10 : decode cX3_atWork 10 = .ok (.dup, 1) := by decide +kernel
theorem dX3_atWork_11 : decode cX3_atWork 11 = .ok (.invokespecial 44, 3) := by decide +kernel
theorem dX3_atWork_14 : decode cX3_atWork 14 = .ok (.athrow, 1) := by decide +kernel
theorem dX3_atWork_15 : decode cX3_atWork 15 = .ok (.iconst 0, 1) := by decide +kernel
theorem dX3_atWork_16 : decode cX3_atWork 16 = .ok (.istore_n 2, 1) := by decide +kernel
theorem dX3_atWork_17 : decode cX3_atWork 17 = .ok (.aload_n 0, 1) := by decide +kernel
theorem dX3_atWork_18 : decode cX3_atWork 18 = .ok (.getfield 17, 3) := by decide +kernel
theorem dX3_atWork_21 : decode cX3_atWork 21 = .ok (.astore_n 3, 1) := by decide +kernel
theorem dX3_atWork_22 : decode cX3_atWork 22 = .ok (.aload_n 3, 1) := by decide +kernel
theorem dX3_atWork_23 : decode cX3_atWork 23 = .ok (.arraylength, 1) := by decide +kernel
theorem dX3_atWork_24 : decode cX3_atWork 24 = .ok (.istore 4, 2) := by decide +kernel
theorem dX3_atWork_26 : decode cX3_atWork 26 = .ok (.iconst 0, 1) := by decide +kernel
theorem dX3_atWork_27 : decode cX3_atWork 27 = .ok (.istore 5, 2) := by decide +kernel
theorem dX3_atWork_29 : decode cX3_atWork 29 = .ok (.iload 5, 2) := by decide +kernel
theorem dX3_atWork_31 : decode cX3_atWork 31 = .ok (.iload 4, 2) := by decide +kernel
theorem dX3_atWork_33 : decode cX3_atWork 33 = .ok (.if_icmp .ge 35, 3) := by decide +kernel
theorem dX3_atWork_36 : decode cX3_atWork 36 = .ok (.aload_n 3, 1) := by decide +kernel
theorem dX3_atWork_37 : decode cX3_atWork 37 = .ok (.iload 5, 2) := by decide +kernel
theorem dX3_atWork_39 : decode cX3_atWork 39 = .ok (.aaload, 1) := by decide +kernel
theorem dX3_atWork_40 : decode cX3_atWork 40 = .ok (.astore 6, 2) := by decide +kernel
theorem dX3_atWork_42 : decode cX3_atWork 42 = .ok (.aload 6, 2) := by decide +kernel
theorem dX3_atWork_44 : decode cX3_atWork 44 = .ok (.ifnull 18, 3) := by decide +kernel
theorem dX3_atWork_47 : decode cX3_atWork 47 = .ok (.aload 6, 2) := by decide +kernel
theorem dX3_atWork_49 : decode cX3_atWork 49 = .ok (.iload_n 1, 1) := by decide +kernel
theorem dX3_atWork_50 : decode cX3_atWork 50 = .ok (.iload_n 1, 1) := by decide +kernel
theorem dX3_atWork_51 : decode cX3_atWork 51 = .ok (.iconst 1, 1) := by decide +kernel
theorem dX3_atWork_52 : decode cX3_atWork 52 = .ok (.iadd, 1) := by decide +kernel
theorem dX3_atWork_53 : decode cX3_atWork 53 = .ok (.invokevirtual 200, 3) := by decide +kernel
theorem dX3_atWork_56 : decode cX3_atWork 56 = .ok (.ifCond .eq 6, 3) := by decide +kernel
theorem dX3_atWork_59 : decode cX3_atWork 59 = .ok (.iinc 2 1, 3) := by decide +kernel
theorem dX3_atWork_62 : decode cX3_atWork 62 = .ok (.iinc 5 1, 3) := by decide +kernel
theorem dX3_atWork_65 : decode cX3_atWork 65 = .ok (.goto (-36), 3) := by decide +kernel
theorem dX3_atWork_68 : decode cX3_atWork 68 = .ok (.iload_n 2, 1) := by decide +kernel
theorem dX3_atWork_69 : decode cX3_atWork 69 = .ok (.ireturn, 1) := by decide +kernel
set_option maxRecDepth 20000 in
theorem ggX3_airAt_X3_isMinute : GoodIn wsX3_airAt wsX3_isMinute := goodIn_r _ [6, 7, 8, 5, 9] (by decide +kernel) (by decide +kernel)
set_option maxRecDepth 20000 in
theorem gX3_airAt_X3_isMinute : GoodIn wsX3_airAt (va_wsS RX3 193 yX3_isMinute wsX3_isMinute) := goodIn_app (goodIn_of _ (by decide +kernel)) ggX3_airAt_X3_isMinute
set_option maxRecDepth 20000 in
theorem ggX3_airAt_X3_airInMinute : GoodIn wsX3_airAt wsX3_airInMinute := goodIn_r _ [13, 14, 15, 16, 17, 18, 19, 20, 21, 22, 23, 24, 25, 26, 27, 28, 29, 30, 31, 32, 33, 34, 35, 36, 37, 38, 39, 40, 41, 42, 43, 44, 45, 46, 47, 48, 49, 50, 51, 52] (by decide +kernel) (by decide +kernel)
set_option maxRecDepth 20000 in
theorem gX3_airAt_X3_airInMinute : GoodIn wsX3_airAt (wsV RX3 214 RX3 yX3_airInMinute wsX3_airInMinute) := goodIn_app (goodIn_of _ (by decide +kernel)) ggX3_airAt_X3_airInMinute
theorem dX3_airAt_0 : decode cX3_airAt 0 = .ok (.iload_n 1, 1) := by decide +kernel
theorem dX3_airAt_1 : decode cX3_airAt 1 = .ok (.invokestatic 193, 3) := by decide +kernel
theorem dX3_airAt_4 : decode cX3_airAt 4 = .ok (.ifCond .ne 11, 3) := by decide +kernel
theorem dX3_airAt_7 : decode cX3_airAt 7 = .ok (.new 42, 3) := by decide +kernel
theorem dX3_airAt_10 : decode cX3_airAt 10 = .ok (.dup, 1) := by decide +kernel
theorem dX3_airAt_11 : decode cX3_airAt 11 = .ok (.invokespecial 44, 3) := by decide +kernel
theorem dX3_airAt_14 : decode cX3_airAt 14 = .ok (.athrow, 1) := by decide +kernel
theorem dX3_airAt_15 : decode cX3_airAt 15 = .ok (.aload_n 0, 1) := by decide +kernel
theorem dX3_airAt_16 : decode cX3_airAt 16 = .ok (.iload_n 1, 1) := by decide +kernel
theorem dX3_airAt_17 : decode cX3_airAt 17 = .ok (.invokevirtual 214, 3) := by decide +kernel
theorem dX3_airAt_20 : decode cX3_airAt 20 = .ok (.lreturn, 1) := by decide +kernel
set_option maxRecDepth 20000 in
theorem ggX3_squaresAt_X3_isMinute : GoodIn wsX3_squaresAt wsX3_isMinute := goodIn_r _ [6, 7, 8, 5, 9] (by decide +kernel) (by decide +kernel)
set_option maxRecDepth 20000 in
theorem gX3_squaresAt_X3_isMinute : GoodIn wsX3_squaresAt (va_wsS RX3 193 yX3_isMinute wsX3_isMinute) := goodIn_app (goodIn_of _ (by decide +kernel)) ggX3_squaresAt_X3_isMinute
set_option maxRecDepth 20000 in
theorem ggX3_squaresAt_X3_airInMinute : GoodIn wsX3_squaresAt wsX3_airInMinute := goodIn_r _ [13, 14, 15, 16, 17, 18, 19, 20, 21, 22, 23, 24, 25, 26, 27, 28, 29, 30, 31, 39, 40, 41, 42, 43, 44, 45, 46, 47, 48, 49, 50, 51, 52, 53, 54, 55, 56, 57, 58, 59] (by decide +kernel) (by decide +kernel)
set_option maxRecDepth 20000 in
theorem gX3_squaresAt_X3_airInMinute : GoodIn wsX3_squaresAt (wsV RX3 214 RX3 yX3_airInMinute wsX3_airInMinute) := goodIn_app (goodIn_of _ (by decide +kernel)) ggX3_squaresAt_X3_airInMinute
set_option maxRecDepth 20000 in
theorem ggX3_squaresAt_J13_bitCount_95d88 : GoodIn wsX3_squaresAt wsJ13_bitCount_95d88 := goodIn_r _ [35, 36, 37, 38] (by decide +kernel) (by decide +kernel)
set_option maxRecDepth 20000 in
theorem gX3_squaresAt_J13_bitCount_95d88 : GoodIn wsX3_squaresAt (va_wsS RX3 218 yJ13_bitCount_95d88 wsJ13_bitCount_95d88) := goodIn_app (goodIn_of _ (by decide +kernel)) ggX3_squaresAt_J13_bitCount_95d88
theorem dX3_squaresAt_0 : decode cX3_squaresAt 0 = .ok (.iload_n 1, 1) := by decide +kernel
theorem dX3_squaresAt_1 : decode cX3_squaresAt 1 = .ok (.invokestatic 193, 3) := by decide +kernel
theorem dX3_squaresAt_4 : decode cX3_squaresAt 4 = .ok (.ifCond .ne 11, 3) := by decide +kernel
theorem dX3_squaresAt_7 : decode cX3_squaresAt 7 = .ok (.new 42, 3) := by decide +kernel
theorem dX3_squaresAt_10 : decode cX3_squaresAt 10 = .ok (.dup, 1) := by decide +kernel
theorem dX3_squaresAt_11 : decode cX3_squaresAt 11 = .ok (.invokespecial 44, 3) := by decide +kernel
theorem dX3_squaresAt_14 : decode cX3_squaresAt 14 = .ok (.athrow, 1) := by decide +kernel
theorem dX3_squaresAt_15 : decode cX3_squaresAt 15 = .ok (.aload_n 0, 1) := by decide +kernel
theorem dX3_squaresAt_16 : decode cX3_squaresAt 16 = .ok (.iload_n 1, 1) := by decide +kernel
theorem dX3_squaresAt_17 : decode cX3_squaresAt 17 = .ok (.invokevirtual 214, 3) := by decide +kernel
theorem dX3_squaresAt_20 : decode cX3_squaresAt 20 = .ok (.invokestatic 218, 3) := by decide +kernel
theorem dX3_squaresAt_23 : decode cX3_squaresAt 23 = .ok (.ireturn, 1) := by decide +kernel
theorem dX3_pours_0 : decode cX3_pours 0 = .ok (.aload_n 0, 1) := by decide +kernel
theorem dX3_pours_1 : decode cX3_pours 1 = .ok (.getfield 98, 3) := by decide +kernel
theorem dX3_pours_4 : decode cX3_pours 4 = .ok (.ireturn, 1) := by decide +kernel
set_option maxRecDepth 20000 in
theorem ggX3_firstOf_X3_pourNumbered : GoodIn wsX3_firstOf wsX3_pourNumbered := goodIn_r _ [8, 9, 13, 14, 15, 16, 17, 18, 19, 20, 21, 22] (by decide +kernel) (by decide +kernel)
set_option maxRecDepth 20000 in
theorem gX3_firstOf_X3_pourNumbered : GoodIn wsX3_firstOf (wsV RX3 136 RX3 yX3_pourNumbered wsX3_pourNumbered) := goodIn_app (goodIn_of _ (by decide +kernel)) ggX3_firstOf_X3_pourNumbered
theorem dX3_firstOf_0 : decode cX3_firstOf 0 = .ok (.aload_n 0, 1) := by decide +kernel
theorem dX3_firstOf_1 : decode cX3_firstOf 1 = .ok (.iload_n 1, 1) := by decide +kernel
theorem dX3_firstOf_2 : decode cX3_firstOf 2 = .ok (.invokevirtual 136, 3) := by decide +kernel
theorem dX3_firstOf_5 : decode cX3_firstOf 5 = .ok (.astore_n 2, 1) := by decide +kernel
theorem dX3_firstOf_6 : decode cX3_firstOf 6 = .ok (.aload_n 2, 1) := by decide +kernel
theorem dX3_firstOf_7 : decode cX3_firstOf 7 = .ok (.ifnonnull 11, 3) := by decide +kernel
theorem dX3_firstOf_10 : decode cX3_firstOf 10 = .ok (.new 59, 3) := by decide +kernel
theorem dX3_firstOf_13 : decode cX3_firstOf 13 = .ok (.dup, 1) := by decide +kernel
theorem dX3_firstOf_14 : decode cX3_firstOf 14 = .ok (.invokespecial 61, 3) := by decide +kernel
theorem dX3_firstOf_17 : decode cX3_firstOf 17 = .ok (.athrow, 1) := by decide +kernel
theorem dX3_firstOf_18 : decode cX3_firstOf 18 = .ok (.aload_n 2, 1) := by decide +kernel
theorem dX3_firstOf_19 : decode cX3_firstOf 19 = .ok (.getfield 151, 3) := by decide +kernel
theorem dX3_firstOf_22 : decode cX3_firstOf 22 = .ok (.ireturn, 1) := by decide +kernel
set_option maxRecDepth 20000 in
theorem ggX3_loadsOf_X3_pourNumbered : GoodIn wsX3_loadsOf wsX3_pourNumbered := goodIn_r _ [8, 9, 13, 14, 15, 16, 17, 18, 19, 20, 21, 22] (by decide +kernel) (by decide +kernel)
set_option maxRecDepth 20000 in
theorem gX3_loadsOf_X3_pourNumbered : GoodIn wsX3_loadsOf (wsV RX3 136 RX3 yX3_pourNumbered wsX3_pourNumbered) := goodIn_app (goodIn_of _ (by decide +kernel)) ggX3_loadsOf_X3_pourNumbered
theorem dX3_loadsOf_0 : decode cX3_loadsOf 0 = .ok (.aload_n 0, 1) := by decide +kernel
theorem dX3_loadsOf_1 : decode cX3_loadsOf 1 = .ok (.iload_n 1, 1) := by decide +kernel
theorem dX3_loadsOf_2 : decode cX3_loadsOf 2 = .ok (.invokevirtual 136, 3) := by decide +kernel
theorem dX3_loadsOf_5 : decode cX3_loadsOf 5 = .ok (.astore_n 2, 1) := by decide +kernel
theorem dX3_loadsOf_6 : decode cX3_loadsOf 6 = .ok (.aload_n 2, 1) := by decide +kernel
theorem dX3_loadsOf_7 : decode cX3_loadsOf 7 = .ok (.ifnonnull 11, 3) := by decide +kernel
theorem dX3_loadsOf_10 : decode cX3_loadsOf 10 = .ok (.new 59, 3) := by decide +kernel
theorem dX3_loadsOf_13 : decode cX3_loadsOf 13 = .ok (.dup, 1) := by decide +kernel
theorem dX3_loadsOf_14 : decode cX3_loadsOf 14 = .ok (.invokespecial 61, 3) := by decide +kernel
theorem dX3_loadsOf_17 : decode cX3_loadsOf 17 = .ok (.athrow, 1) := by decide +kernel
theorem dX3_loadsOf_18 : decode cX3_loadsOf 18 = .ok (.aload_n 2, 1) := by decide +kernel
theorem dX3_loadsOf_19 : decode cX3_loadsOf 19 = .ok (.getfield 144, 3) := by decide +kernel
theorem dX3_loadsOf_22 : decode cX3_loadsOf 22 = .ok (.ireturn, 1) := by decide +kernel
set_option maxRecDepth 20000 in
theorem ggX3_longestWait_X3_pourNumbered : GoodIn wsX3_longestWait wsX3_pourNumbered := goodIn_r _ [16, 17, 50, 51, 52, 53, 54, 55, 56, 57, 58, 59] (by decide +kernel) (by decide +kernel)
set_option maxRecDepth 20000 in
theorem gX3_longestWait_X3_pourNumbered : GoodIn wsX3_longestWait (wsV RX3 136 RX3 yX3_pourNumbered wsX3_pourNumbered) := goodIn_app (goodIn_of _ (by decide +kernel)) ggX3_longestWait_X3_pourNumbered
set_option maxRecDepth 20000 in
theorem ggX3_longestWait_X3_countOfPour : GoodIn wsX3_longestWait wsX3_countOfPour := goodIn_r _ [21, 22, 23, 24, 50, 51, 52, 53, 54, 55, 56, 57, 58, 59, 39, 40, 41, 42, 43, 44, 45, 46, 47, 48, 49] (by decide +kernel) (by decide +kernel)
set_option maxRecDepth 20000 in
theorem gX3_longestWait_X3_countOfPour : GoodIn wsX3_longestWait (wsV RX3 140 RX3 yX3_countOfPour wsX3_countOfPour) := goodIn_app (goodIn_of _ (by decide +kernel)) ggX3_longestWait_X3_countOfPour
set_option maxRecDepth 20000 in
theorem ggX3_longestWait_X3_liftNumbered : GoodIn wsX3_longestWait wsX3_liftNumbered := goodIn_r _ [28, 22, 50, 51, 52, 53, 54, 55, 56, 57, 58, 59] (by decide +kernel) (by decide +kernel)
set_option maxRecDepth 20000 in
theorem gX3_longestWait_X3_liftNumbered : GoodIn wsX3_longestWait (wsV RX3 104 RX3 yX3_liftNumbered wsX3_liftNumbered) := goodIn_app (goodIn_of _ (by decide +kernel)) ggX3_longestWait_X3_liftNumbered
set_option maxRecDepth 20000 in
theorem ggX3_longestWait_X1_end : GoodIn wsX3_longestWait wsX1_end := goodIn_r _ [33, 34, 35, 39, 40, 41, 42, 43, 44, 45, 46, 47, 48, 49] (by decide +kernel) (by decide +kernel)
set_option maxRecDepth 20000 in
theorem gX3_longestWait_X1_end : GoodIn wsX3_longestWait (wsV RX3 133 RX1 yX1_end wsX1_end) := goodIn_app (goodIn_of _ (by decide +kernel)) ggX3_longestWait_X1_end
theorem dX3_longestWait_0 : decode cX3_longestWait 0 = .ok (.aload_n 0, 1) := by decide +kernel
theorem dX3_longestWait_1 : decode cX3_longestWait 1 = .ok (.iload_n 1, 1) := by decide +kernel
theorem dX3_longestWait_2 : decode cX3_longestWait 2 = .ok (.invokevirtual 136, 3) := by decide +kernel
theorem dX3_longestWait_5 : decode cX3_longestWait 5 = .ok (.astore_n 2, 1) := by decide +kernel
theorem dX3_longestWait_6 : decode cX3_longestWait 6 = .ok (.aload_n 2, 1) := by decide +kernel
theorem dX3_longestWait_7 : decode cX3_longestWait 7 = .ok (.ifnonnull 11, 3) := by decide +kernel
theorem dX3_longestWait_10 : decode cX3_longestWait 10 = .ok (.new 59, 3) := by decide +kernel
theorem dX3_longestWait_13 : decode cX3_longestWait 13 = .ok (.dup, 1) := by decide +kernel
theorem dX3_longestWait_14 : decode cX3_longestWait 14 = .ok (.invokespecial 61, 3) := by decide +kernel
theorem dX3_longestWait_17 : decode cX3_longestWait 17 = .ok (.athrow, 1) := by decide +kernel
theorem dX3_longestWait_18 : decode cX3_longestWait 18 = .ok (.aload_n 0, 1) := by decide +kernel
theorem dX3_longestWait_19 : decode cX3_longestWait 19 = .ok (.iload_n 1, 1) := by decide +kernel
theorem dX3_longestWait_20 : decode cX3_longestWait 20 = .ok (.bipush 119, 2) := by decide +kernel
theorem dX3_longestWait_22 : decode cX3_longestWait 22 = .ok (.invokevirtual 140, 3) := by decide +kernel
theorem dX3_longestWait_25 : decode cX3_longestWait 25 = .ok (.ifCond .le 11, 3) := by decide +kernel
theorem dX3_longestWait_28 : decode cX3_longestWait 28 = .ok (.new 49, 3) := by decide +kernel
theorem dX3_longestWait_31 : decode cX3_longestWait 31 = .ok (.dup, 1) := by decide +kernel
theorem dX3_longestWait_32 : decode cX3_longestWait 32 = .ok (.invokespecial 51, 3) := by decide +kernel
theorem dX3_longestWait_35 : decode cX3_longestWait 35 = .ok (.athrow, 1) := by decide +kernel
theorem dX3_longestWait_36 : decode cX3_longestWait 36 = .ok (.iconst 0, 1) := by decide +kernel
theorem dX3_longestWait_37 : decode cX3_longestWait 37 = .ok (.istore_n 3, 1) := by decide +kernel
theorem dX3_longestWait_38 : decode cX3_longestWait 38 = .ok (.iconst 1, 1) := by decide +kernel
theorem dX3_longestWait_39 : decode cX3_longestWait 39 = .ok (.istore 4, 2) := by decide +kernel
theorem dX3_longestWait_41 : decode cX3_longestWait 41 = .ok (.iload 4, 2) := by decide +kernel
theorem dX3_longestWait_43 : decode cX3_longestWait 43 = .ok (.aload_n 2, 1) := by decide +kernel
theorem dX3_longestWait_44 : decode cX3_longestWait 44 = .ok (.getfield 144, 3) := by decide +kernel
theorem dX3_longestWait_47 : decode cX3_longestWait 47 = .ok (.if_icmp .ge 63, 3) := by decide +kernel
theorem dX3_longestWait_50 : decode cX3_longestWait 50 = .ok (.aload_n 0, 1) := by decide +kernel
theorem dX3_longestWait_51 : decode cX3_longestWait 51 = .ok (.aload_n 2, 1) := by decide +kernel
theorem dX3_longestWait_52 : decode cX3_longestWait 52 = .ok (.getfield 151, 3) := by decide +kernel
theorem dX3_longestWait_55 : decode cX3_longestWait 55 = .ok (.iload 4, 2) := by decide +kernel
theorem dX3_longestWait_57 : decode cX3_longestWait 57 = .ok (.iadd, 1) := by decide +kernel
theorem dX3_longestWait_58 : decode cX3_longestWait 58 = .ok (.iconst 1, 1) := by decide +kernel
theorem dX3_longestWait_59 : decode cX3_longestWait 59 = .ok (.isub, 1) := by decide +kernel
theorem dX3_longestWait_60 : decode cX3_longestWait 60 = .ok (.invokevirtual 104, 3) := by decide +kernel
theorem dX3_longestWait_63 : decode cX3_longestWait 63 = .ok (.astore 5, 2) := by decide +kernel
theorem dX3_longestWait_65 : decode cX3_longestWait 65 = .ok (.aload_n 0, 1) := by decide +kernel
theorem dX3_longestWait_66 : decode cX3_longestWait 66 = .ok (.aload_n 2, 1) := by decide +kernel
theorem dX3_longestWait_67 : decode cX3_longestWait 67 = .ok (.getfield 151, 3) := by decide +kernel
theorem dX3_longestWait_70 : decode cX3_longestWait 70 = .ok (.iload 4, 2) := by decide +kernel
theorem dX3_longestWait_72 : decode cX3_longestWait 72 = .ok (.iadd, 1) := by decide +kernel
theorem dX3_longestWait_73 : decode cX3_longestWait 73 = .ok (.invokevirtual 104, 3) := by decide +kernel
theorem dX3_longestWait_76 : decode cX3_longestWait 76 = .ok (.astore 6, 2) := by decide +kernel
theorem dX3_longestWait_78 : decode cX3_longestWait 78 = .ok (.aload 5, 2) := by decide +kernel
theorem dX3_longestWait_80 : decode cX3_longestWait 80 = .ok (.ifnull 24, 3) := by decide +kernel
theorem dX3_longestWait_83 : decode cX3_longestWait 83 = .ok (.aload 6, 2) := by decide +kernel
theorem dX3_longestWait_85 : decode cX3_longestWait 85 = .ok (.ifnull 19, 3) := by decide +kernel
theorem dX3_longestWait_88 : decode cX3_longestWait 88 = .ok (.iload_n 3, 1) := by decide +kernel
theorem dX3_longestWait_89 : decode cX3_longestWait 89 = .ok (.aload 6, 2) := by decide +kernel
theorem dX3_longestWait_91 : decode cX3_longestWait 91 = .ok (.getfield 157, 3) := by decide +kernel
theorem dX3_longestWait_94 : decode cX3_longestWait 94 = .ok (.aload 5, 2) := by decide +kernel
theorem dX3_longestWait_96 : decode cX3_longestWait 96 = .ok (.invokevirtual 133, 3) := by decide +kernel
theorem dX3_longestWait_99 : decode cX3_longestWait 99 = .ok (.isub, 1) := by decide +kernel
theorem dX3_longestWait_100 : decode cX3_longestWait 100 = .ok (.invokestatic 223, 3) := by decide +kernel
theorem dX3_longestWait_103 : decode cX3_longestWait 103 = .ok (.istore_n 3, 1) := by decide +kernel
theorem dX3_longestWait_104 : decode cX3_longestWait 104 = .ok (.iinc 4 1, 3) := by decide +kernel
theorem dX3_longestWait_107 : decode cX3_longestWait 107 = .ok (.goto (-66), 3) := by decide +kernel
theorem dX3_longestWait_110 : decode cX3_longestWait 110 = .ok (.iload_n 3, 1) := by decide +kernel
theorem dX3_longestWait_111 : decode cX3_longestWait 111 = .ok (.ireturn, 1) := by decide +kernel
set_option maxRecDepth 20000 in
theorem ggX3_isBroken_X3_pourNumbered : GoodIn wsX3_isBroken wsX3_pourNumbered := goodIn_r _ [7, 8, 16, 17, 18, 19, 20, 21, 22, 23, 24, 25] (by decide +kernel) (by decide +kernel)
set_option maxRecDepth 20000 in
theorem gX3_isBroken_X3_pourNumbered : GoodIn wsX3_isBroken (wsV RX3 136 RX3 yX3_pourNumbered wsX3_pourNumbered) := goodIn_app (goodIn_of _ (by decide +kernel)) ggX3_isBroken_X3_pourNumbered
set_option maxRecDepth 20000 in
theorem ggX3_isBroken_X3_countOfPour : GoodIn wsX3_isBroken wsX3_countOfPour := goodIn_r _ [12, 13, 14, 15, 16, 17, 18, 19, 20, 21, 22, 23, 24, 25, 26, 27, 28, 29, 30, 31, 32, 33, 34, 35, 36] (by decide +kernel) (by decide +kernel)
set_option maxRecDepth 20000 in
theorem gX3_isBroken_X3_countOfPour : GoodIn wsX3_isBroken (wsV RX3 140 RX3 yX3_countOfPour wsX3_countOfPour) := goodIn_app (goodIn_of _ (by decide +kernel)) ggX3_isBroken_X3_countOfPour
theorem dX3_isBroken_0 : decode cX3_isBroken 0 = .ok (.aload_n 0, 1) := by decide +kernel
theorem dX3_isBroken_1 : decode cX3_isBroken 1 = .ok (.iload_n 1, 1) := by decide +kernel
theorem dX3_isBroken_2 : decode cX3_isBroken 2 = .ok (.invokevirtual 136, 3) := by decide +kernel
theorem dX3_isBroken_5 : decode cX3_isBroken 5 = .ok (.ifnonnull 11, 3) := by decide +kernel
theorem dX3_isBroken_8 : decode cX3_isBroken 8 = .ok (.new 59, 3) := by decide +kernel
theorem dX3_isBroken_11 : decode cX3_isBroken 11 = .ok (.dup, 1) := by decide +kernel
theorem dX3_isBroken_12 : decode cX3_isBroken 12 = .ok (.invokespecial 61, 3) := by decide +kernel
theorem dX3_isBroken_15 : decode cX3_isBroken 15 = .ok (.athrow, 1) := by decide +kernel
theorem dX3_isBroken_16 : decode cX3_isBroken 16 = .ok (.aload_n 0, 1) := by decide +kernel
theorem dX3_isBroken_17 : decode cX3_isBroken 17 = .ok (.iload_n 1, 1) := by decide +kernel
theorem dX3_isBroken_18 : decode cX3_isBroken 18 = .ok (.bipush 119, 2) := by decide +kernel
theorem dX3_isBroken_20 : decode cX3_isBroken 20 = .ok (.invokevirtual 140, 3) := by decide +kernel
theorem dX3_isBroken_23 : decode cX3_isBroken 23 = .ok (.ifCond .le 27, 3) := by decide +kernel
theorem dX3_isBroken_26 : decode cX3_isBroken 26 = .ok (.aload_n 0, 1) := by decide +kernel
theorem dX3_isBroken_27 : decode cX3_isBroken 27 = .ok (.iload_n 1, 1) := by decide +kernel
theorem dX3_isBroken_28 : decode cX3_isBroken 28 = .ok (.bipush 117, 2) := by decide +kernel
theorem dX3_isBroken_30 : decode cX3_isBroken 30 = .ok (.invokevirtual 140, 3) := by decide +kernel
theorem dX3_isBroken_33 : decode cX3_isBroken 33 = .ok (.ifCond .gt 13, 3) := by decide +kernel
theorem dX3_isBroken_36 : decode cX3_isBroken 36 = .ok (.aload_n 0, 1) := by decide +kernel
theorem dX3_isBroken_37 : decode cX3_isBroken 37 = .ok (.iload_n 1, 1) := by decide +kernel
theorem dX3_isBroken_38 : decode cX3_isBroken 38 = .ok (.bipush 100, 2) := by decide +kernel
theorem dX3_isBroken_40 : decode cX3_isBroken 40 = .ok (.invokevirtual 140, 3) := by decide +kernel
theorem dX3_isBroken_43 : decode cX3_isBroken 43 = .ok (.ifCond .le 7, 3) := by decide +kernel
theorem dX3_isBroken_46 : decode cX3_isBroken 46 = .ok (.iconst 1, 1) := by decide +kernel
theorem dX3_isBroken_47 : decode cX3_isBroken 47 = .ok (.goto 4, 3) := by decide +kernel
theorem dX3_isBroken_50 : decode cX3_isBroken 50 = .ok (.iconst 0, 1) := by decide +kernel
theorem dX3_isBroken_51 : decode cX3_isBroken 51 = .ok (.ireturn, 1) := by decide +kernel
theorem dX3_waiting_0 : decode cX3_waiting 0 = .ok (.iconst 0, 1) := by decide +kernel
theorem dX3_waiting_1 : decode cX3_waiting 1 = .ok (.istore_n 1, 1) := by decide +kernel
theorem dX3_waiting_2 : decode cX3_waiting 2 = .ok (.aload_n 0, 1) := by decide +kernel
theorem dX3_waiting_3 : decode cX3_waiting 3 = .ok (.getfield 17, 3) := by decide +kernel
theorem dX3_waiting_6 : decode cX3_waiting 6 = .ok (.astore_n 2, 1) := by decide +kernel
theorem dX3_waiting_7 : decode cX3_waiting 7 = .ok (.aload_n 2, 1) := by decide +kernel
theorem dX3_waiting_8 : decode cX3_waiting 8 = .ok (.arraylength, 1) := by decide +kernel
theorem dX3_waiting_9 : decode cX3_waiting 9 = .ok (.istore_n 3, 1) := by decide +kernel
theorem dX3_waiting_10 : decode cX3_waiting 10 = .ok (.iconst 0, 1) := by decide +kernel
theorem dX3_waiting_11 : decode cX3_waiting 11 = .ok (.istore 4, 2) := by decide +kernel
theorem dX3_waiting_13 : decode cX3_waiting 13 = .ok (.iload 4, 2) := by decide +kernel
theorem dX3_waiting_15 : decode cX3_waiting 15 = .ok (.iload_n 3, 1) := by decide +kernel
theorem dX3_waiting_16 : decode cX3_waiting 16 = .ok (.if_icmp .ge 33, 3) := by decide +kernel
theorem dX3_waiting_19 : decode cX3_waiting 19 = .ok (.aload_n 2, 1) := by decide +kernel
theorem dX3_waiting_20 : decode cX3_waiting 20 = .ok (.iload 4, 2) := by decide +kernel
theorem dX3_waiting_22 : decode cX3_waiting 22 = .ok (.aaload, 1) := by decide +kernel
theorem dX3_waiting_23 : decode cX3_waiting 23 = .ok (.astore 5, 2) := by decide +kernel
theorem dX3_waiting_25 : decode cX3_waiting 25 = .ok (.aload 5, 2) := by decide +kernel
theorem dX3_waiting_27 : decode cX3_waiting 27 = .ok (.ifnull 16, 3) := by decide +kernel
theorem dX3_waiting_30 : decode cX3_waiting 30 = .ok (.aload 5, 2) := by decide +kernel
theorem dX3_waiting_32 : decode cX3_waiting 32 = .ok (.getfield 108, 3) := by decide +kernel
theorem dX3_waiting_35 : decode cX3_waiting 35 = .ok (.bipush 119, 2) := by decide +kernel
theorem dX3_waiting_37 : decode cX3_waiting 37 = .ok (.if_icmp .ne 6, 3) := by decide +kernel
theorem dX3_waiting_40 : decode cX3_waiting 40 = .ok (.iinc 1 1, 3) := by decide +kernel
theorem dX3_waiting_43 : decode cX3_waiting 43 = .ok (.iinc 4 1, 3) := by decide +kernel
theorem dX3_waiting_46 : decode cX3_waiting 46 = .ok (.goto (-33), 3) := by decide +kernel
theorem dX3_waiting_49 : decode cX3_waiting 49 = .ok (.iload_n 1, 1) := by decide +kernel
theorem dX3_waiting_50 : decode cX3_waiting 50 = .ok (.ireturn, 1) := by decide +kernel
set_option maxRecDepth 20000 in
theorem ggX3_minutesOf_X3_craneNumbered : GoodIn wsX3_minutesOf wsX3_craneNumbered := goodIn_r _ [9, 10, 22, 23, 24, 25, 26, 27, 28, 29, 30, 31] (by decide +kernel) (by decide +kernel)
set_option maxRecDepth 20000 in
theorem gX3_minutesOf_X3_craneNumbered : GoodIn wsX3_minutesOf (wsV RX3 55 RX3 yX3_craneNumbered wsX3_craneNumbered) := goodIn_app (goodIn_of _ (by decide +kernel)) ggX3_minutesOf_X3_craneNumbered
set_option maxRecDepth 20000 in
theorem ggX3_minutesOf_X1_isOn : GoodIn wsX3_minutesOf wsX1_isOn := goodIn_r _ [15, 16, 17, 18, 19, 14, 20, 21, 32, 33, 34, 35, 36, 37, 38, 39, 40, 41, 42] (by decide +kernel) (by decide +kernel)
set_option maxRecDepth 20000 in
theorem gX3_minutesOf_X1_isOn : GoodIn wsX3_minutesOf (wsV RX3 197 RX1 yX1_isOn wsX1_isOn) := goodIn_app (goodIn_of _ (by decide +kernel)) ggX3_minutesOf_X1_isOn
theorem dX3_minutesOf_0 : decode cX3_minutesOf 0 = .ok (.aload_n 0, 1) := by decide +kernel
theorem dX3_minutesOf_1 : decode cX3_minutesOf 1 = .ok (.iload_n 1, 1) := by decide +kernel
theorem dX3_minutesOf_2 : decode cX3_minutesOf 2 = .ok (.invokevirtual 55, 3) := by decide +kernel
theorem dX3_minutesOf_5 : decode cX3_minutesOf 5 = .ok (.ifnonnull 11, 3) := by decide +kernel
theorem dX3_minutesOf_8 : decode cX3_minutesOf 8 = .ok (.new 59, 3) := by decide +kernel
theorem dX3_minutesOf_11 : decode cX3_minutesOf 11 = .ok (.dup, 1) := by decide +kernel
theorem dX3_minutesOf_12 : decode cX3_minutesOf 12 = .ok (.invokespecial 61, 3) := by decide +kernel
theorem dX3_minutesOf_15 : decode cX3_minutesOf 15 = .ok (.athrow, 1) := by decide +kernel
theorem dX3_minutesOf_16 : decode cX3_minutesOf 16 = .ok (.iconst 0, 1) := by decide +kernel
theorem dX3_minutesOf_17 : decode cX3_minutesOf 17 = .ok (.istore_n 2, 1) := by decide +kernel
theorem dX3_minutesOf_18 : decode cX3_minutesOf 18 = .ok (.aload_n 0, 1) := by decide +kernel
theorem dX3_minutesOf_19 : decode cX3_minutesOf 19 = .ok (.getfield 17, 3) := by decide +kernel
theorem dX3_minutesOf_22 : decode cX3_minutesOf 22 = .ok (.astore_n 3, 1) := by decide +kernel
theorem dX3_minutesOf_23 : decode cX3_minutesOf 23 = .ok (.aload_n 3, 1) := by decide +kernel
theorem dX3_minutesOf_24 : decode cX3_minutesOf 24 = .ok (.arraylength, 1) := by decide +kernel
theorem dX3_minutesOf_25 : decode cX3_minutesOf 25 = .ok (.istore 4, 2) := by decide +kernel
theorem dX3_minutesOf_27 : decode cX3_minutesOf 27 = .ok (.iconst 0, 1) := by decide +kernel
theorem dX3_minutesOf_28 : decode cX3_minutesOf 28 = .ok (.istore 5, 2) := by decide +kernel
theorem dX3_minutesOf_30 : decode cX3_minutesOf 30 = .ok (.iload 5, 2) := by decide +kernel
theorem dX3_minutesOf_32 : decode cX3_minutesOf 32 = .ok (.iload 4, 2) := by decide +kernel
theorem dX3_minutesOf_34 : decode cX3_minutesOf 34 = .ok (.if_icmp .ge 37, 3) := by decide +kernel
theorem dX3_minutesOf_37 : decode cX3_minutesOf 37 = .ok (.aload_n 3, 1) := by decide +kernel
theorem dX3_minutesOf_38 : decode cX3_minutesOf 38 = .ok (.iload 5, 2) := by decide +kernel
theorem dX3_minutesOf_40 : decode cX3_minutesOf 40 = .ok (.aaload, 1) := by decide +kernel
theorem dX3_minutesOf_41 : decode cX3_minutesOf 41 = .ok (.astore 6, 2) := by decide +kernel
theorem dX3_minutesOf_43 : decode cX3_minutesOf 43 = .ok (.aload 6, 2) := by decide +kernel
theorem dX3_minutesOf_45 : decode cX3_minutesOf 45 = .ok (.ifnull 20, 3) := by decide +kernel
theorem dX3_minutesOf_48 : decode cX3_minutesOf 48 = .ok (.aload 6, 2) := by decide +kernel
theorem dX3_minutesOf_50 : decode cX3_minutesOf 50 = .ok (.iload_n 1, 1) := by decide +kernel
theorem dX3_minutesOf_51 : decode cX3_minutesOf 51 = .ok (.invokevirtual 197, 3) := by decide +kernel
theorem dX3_minutesOf_54 : decode cX3_minutesOf 54 = .ok (.ifCond .eq 11, 3) := by decide +kernel
theorem dX3_minutesOf_57 : decode cX3_minutesOf 57 = .ok (.iload_n 2, 1) := by decide +kernel
theorem dX3_minutesOf_58 : decode cX3_minutesOf 58 = .ok (.aload 6, 2) := by decide +kernel
theorem dX3_minutesOf_60 : decode cX3_minutesOf 60 = .ok (.getfield 228, 3) := by decide +kernel
theorem dX3_minutesOf_63 : decode cX3_minutesOf 63 = .ok (.iadd, 1) := by decide +kernel
theorem dX3_minutesOf_64 : decode cX3_minutesOf 64 = .ok (.istore_n 2, 1) := by decide +kernel
theorem dX3_minutesOf_65 : decode cX3_minutesOf 65 = .ok (.iinc 5 1, 3) := by decide +kernel
theorem dX3_minutesOf_68 : decode cX3_minutesOf 68 = .ok (.goto (-38), 3) := by decide +kernel
theorem dX3_minutesOf_71 : decode cX3_minutesOf 71 = .ok (.iload_n 2, 1) := by decide +kernel
theorem dX3_minutesOf_72 : decode cX3_minutesOf 72 = .ok (.ireturn, 1) := by decide +kernel
theorem dX3_lifted_0 : decode cX3_lifted 0 = .ok (.lconst 0, 1) := by decide +kernel
theorem dX3_lifted_1 : decode cX3_lifted 1 = .ok (.lstore_n 1, 1) := by decide +kernel
theorem dX3_lifted_2 : decode cX3_lifted 2 = .ok (.aload_n 0, 1) := by decide +kernel
theorem dX3_lifted_3 : decode cX3_lifted 3 = .ok (.getfield 17, 3) := by decide +kernel
theorem dX3_lifted_6 : decode cX3_lifted 6 = .ok (.astore_n 3, 1) := by decide +kernel
theorem dX3_lifted_7 : decode cX3_lifted 7 = .ok (.aload_n 3, 1) := by decide +kernel
theorem dX3_lifted_8 : decode cX3_lifted 8 = .ok (.arraylength, 1) := by decide +kernel
theorem dX3_lifted_9 : decode cX3_lifted 9 = .ok (.istore 4, 2) := by decide +kernel
theorem dX3_lifted_11 : decode cX3_lifted 11 = .ok (.iconst 0, 1) := by decide +kernel
theorem dX3_lifted_12 : decode cX3_lifted 12 = .ok (.istore 5, 2) := by decide +kernel
theorem dX3_lifted_14 : decode cX3_lifted 14 = .ok (.iload 5, 2) := by decide +kernel
theorem dX3_lifted_16 : decode cX3_lifted 16 = .ok (.iload 4, 2) := by decide +kernel
theorem dX3_lifted_18 : decode cX3_lifted 18 = .ok (.if_icmp .ge 39, 3) := by decide +kernel
theorem dX3_lifted_21 : decode cX3_lifted 21 = .ok (.aload_n 3, 1) := by decide +kernel
theorem dX3_lifted_22 : decode cX3_lifted 22 = .ok (.iload 5, 2) := by decide +kernel
theorem dX3_lifted_24 : decode cX3_lifted 24 = .ok (.aaload, 1) := by decide +kernel
theorem dX3_lifted_25 : decode cX3_lifted 25 = .ok (.astore 6, 2) := by decide +kernel
theorem dX3_lifted_27 : decode cX3_lifted 27 = .ok (.aload 6, 2) := by decide +kernel
theorem dX3_lifted_29 : decode cX3_lifted 29 = .ok (.ifnull 22, 3) := by decide +kernel
theorem dX3_lifted_32 : decode cX3_lifted 32 = .ok (.aload 6, 2) := by decide +kernel
theorem dX3_lifted_34 : decode cX3_lifted 34 = .ok (.getfield 108, 3) := by decide +kernel
theorem dX3_lifted_37 : decode cX3_lifted 37 = .ok (.bipush 100, 2) := by decide +kernel
theorem dX3_lifted_39 : decode cX3_lifted 39 = .ok (.if_icmp .ne 12, 3) := by decide +kernel
theorem dX3_lifted_42 : decode cX3_lifted 42 = .ok (.lload_n 1, 1) := by decide +kernel
theorem dX3_lifted_43 : decode cX3_lifted 43 = .ok (.aload 6, 2) := by decide +kernel
theorem dX3_lifted_45 : decode cX3_lifted 45 = .ok (.getfield 231, 3) := by decide +kernel
theorem dX3_lifted_48 : decode cX3_lifted 48 = .ok (.i2l, 1) := by decide +kernel
theorem dX3_lifted_49 : decode cX3_lifted 49 = .ok (.ladd, 1) := by decide +kernel
theorem dX3_lifted_50 : decode cX3_lifted 50 = .ok (.lstore_n 1, 1) := by decide +kernel
theorem dX3_lifted_51 : decode cX3_lifted 51 = .ok (.iinc 5 1, 3) := by decide +kernel
theorem dX3_lifted_54 : decode cX3_lifted 54 = .ok (.goto (-40), 3) := by decide +kernel
theorem dX3_lifted_57 : decode cX3_lifted 57 = .ok (.lload_n 1, 1) := by decide +kernel
theorem dX3_lifted_58 : decode cX3_lifted 58 = .ok (.lreturn, 1) := by decide +kernel
set_option maxRecDepth 20000 in
theorem ggX3_code_X3_craneNumbered : GoodIn wsX3_code wsX3_craneNumbered := goodIn_r _ [11, 12, 19, 20, 21, 22, 23, 24, 25, 26, 27, 28] (by decide +kernel) (by decide +kernel)
set_option maxRecDepth 20000 in
theorem gX3_code_X3_craneNumbered : GoodIn wsX3_code (wsV RX3 55 RX3 yX3_craneNumbered wsX3_craneNumbered) := goodIn_app (goodIn_of _ (by decide +kernel)) ggX3_code_X3_craneNumbered
theorem dX3_code_0 : decode cX3_code 0 = .ok (.aload_n 0, 1) := by decide +kernel
theorem dX3_code_1 : decode cX3_code 1 = .ok (.iload_n 1, 1) := by decide +kernel
theorem dX3_code_2 : decode cX3_code 2 = .ok (.invokevirtual 55, 3) := by decide +kernel
theorem dX3_code_5 : decode cX3_code 5 = .ok (.astore_n 2, 1) := by decide +kernel
theorem dX3_code_6 : decode cX3_code 6 = .ok (.aload_n 2, 1) := by decide +kernel
theorem dX3_code_7 : decode cX3_code 7 = .ok (.ifnonnull 11, 3) := by decide +kernel
theorem dX3_code_10 : decode cX3_code 10 = .ok (.new 59, 3) := by decide +kernel
theorem dX3_code_13 : decode cX3_code 13 = .ok (.dup, 1) := by decide +kernel
theorem dX3_code_14 : decode cX3_code 14 = .ok (.invokespecial 61, 3) := by decide +kernel
theorem dX3_code_17 : decode cX3_code 17 = .ok (.athrow, 1) := by decide +kernel
theorem dX3_code_18 : decode cX3_code 18 = .ok (.aload_n 2, 1) := by decide +kernel
theorem dX3_code_19 : decode cX3_code 19 = .ok (.getfield 234, 3) := by decide +kernel
theorem dX3_code_22 : decode cX3_code 22 = .ok (.aload_n 2, 1) := by decide +kernel
theorem dX3_code_23 : decode cX3_code 23 = .ok (.getfield 237, 3) := by decide +kernel
theorem dX3_code_26 : decode cX3_code 26 = .ok (.bipush 6, 2) := by decide +kernel
theorem dX3_code_28 : decode cX3_code 28 = .ok (.ishl, 1) := by decide +kernel
theorem dX3_code_29 : decode cX3_code 29 = .ok (.ior, 1) := by decide +kernel
theorem dX3_code_30 : decode cX3_code 30 = .ok (.aload_n 2, 1) := by decide +kernel
theorem dX3_code_31 : decode cX3_code 31 = .ok (.getfield 240, 3) := by decide +kernel
theorem dX3_code_34 : decode cX3_code 34 = .ok (.bipush 12, 2) := by decide +kernel
theorem dX3_code_36 : decode cX3_code 36 = .ok (.ishl, 1) := by decide +kernel
theorem dX3_code_37 : decode cX3_code 37 = .ok (.ior, 1) := by decide +kernel
theorem dX3_code_38 : decode cX3_code 38 = .ok (.aload_n 0, 1) := by decide +kernel
theorem dX3_code_39 : decode cX3_code 39 = .ok (.getfield 82, 3) := by decide +kernel
theorem dX3_code_42 : decode cX3_code 42 = .ok (.bipush 18, 2) := by decide +kernel
theorem dX3_code_44 : decode cX3_code 44 = .ok (.ishl, 1) := by decide +kernel
theorem dX3_code_45 : decode cX3_code 45 = .ok (.ior, 1) := by decide +kernel
theorem dX3_code_46 : decode cX3_code 46 = .ok (.ireturn, 1) := by decide +kernel
set_option maxRecDepth 20000 in
theorem ggX3_workShare_X3_craneNumbered : GoodIn wsX3_workShare wsX3_craneNumbered := goodIn_r _ [9, 10, 51, 52, 53, 54, 55, 56, 57, 58, 59, 60] (by decide +kernel) (by decide +kernel)
set_option maxRecDepth 20000 in
theorem gX3_workShare_X3_craneNumbered : GoodIn wsX3_workShare (wsV RX3 55 RX3 yX3_craneNumbered wsX3_craneNumbered) := goodIn_app (goodIn_of _ (by decide +kernel)) ggX3_workShare_X3_craneNumbered
set_option maxRecDepth 20000 in
theorem ggX3_workShare_X0_minutesAllowed : GoodIn wsX3_workShare wsX0_minutesAllowed := goodIn_r _ [15, 16, 17, 18, 19, 20, 21, 22, 23, 61, 62, 63, 64, 65, 66] (by decide +kernel) (by decide +kernel)
set_option maxRecDepth 20000 in
theorem gX3_workShare_X0_minutesAllowed : GoodIn wsX3_workShare (wsV RX3 207 RX0 yX0_minutesAllowed wsX0_minutesAllowed) := goodIn_app (goodIn_of _ (by decide +kernel)) ggX3_workShare_X0_minutesAllowed
set_option maxRecDepth 20000 in
theorem ggX3_workShare_X3_countAllowedWork : GoodIn wsX3_workShare wsX3_countAllowedWork := goodIn_r _ [27, 28, 29, 30, 31, 32, 33, 34, 35, 36, 37, 38, 39, 40, 41, 42, 43, 44, 45, 46, 47, 48, 49, 14, 50, 16, 51, 52, 53, 54, 55, 56, 57, 58, 59, 60, 67, 68, 69, 70, 71, 72, 73, 74, 75, 76, 77, 61, 62, 63, 64, 65, 66] (by decide +kernel) (by decide +kernel)
set_option maxRecDepth 20000 in
theorem gX3_workShare_X3_countAllowedWork : GoodIn wsX3_workShare (wsV RX3 210 RX3 yX3_countAllowedWork wsX3_countAllowedWork) := goodIn_app (goodIn_of _ (by decide +kernel)) ggX3_workShare_X3_countAllowedWork
theorem dX3_workShare_0 : decode cX3_workShare 0 = .ok (.aload_n 0, 1) := by decide +kernel
theorem dX3_workShare_1 : decode cX3_workShare 1 = .ok (.iload_n 1, 1) := by decide +kernel
theorem dX3_workShare_2 : decode cX3_workShare 2 = .ok (.invokevirtual 55, 3) := by decide +kernel
theorem dX3_workShare_5 : decode cX3_workShare 5 = .ok (.astore_n 2, 1) := by decide +kernel
theorem dX3_workShare_6 : decode cX3_workShare 6 = .ok (.aload_n 2, 1) := by decide +kernel
theorem dX3_workShare_7 : decode cX3_workShare 7 = .ok (.ifnonnull 11, 3) := by decide +kernel
theorem dX3_workShare_10 : decode cX3_workShare 10 = .ok (.new 59, 3) := by decide +kernel
theorem dX3_workShare_13 : decode cX3_workShare 13 = .ok (.dup, 1) := by decide +kernel
theorem dX3_workShare_14 : decode cX3_workShare 14 = .ok (.invokespecial 61, 3) := by decide +kernel
theorem dX3_workShare_17 : decode cX3_workShare 17 = .ok (.athrow, 1) := by decide +kernel
theorem dX3_workShare_18 : decode cX3_workShare 18 = .ok (.aload_n 2, 1) := by decide +kernel
theorem dX3_workShare_19 : decode cX3_workShare 19 = .ok (.invokevirtual 207, 3) := by decide +kernel
theorem dX3_workShare_22 : decode cX3_workShare 22 = .ok (.istore_n 3, 1) := by decide +kernel
theorem dX3_workShare_23 : decode cX3_workShare 23 = .ok (.iload_n 3, 1) := by decide +kernel
theorem dX3_workShare_24 : decode cX3_workShare 24 = .ok (.ifCond .ne 11, 3) := by decide +kernel
theorem dX3_workShare_27 : decode cX3_workShare 27 = .ok (.new 243, 3) := by decide +kernel
theorem dX3_workShare_30 : decode cX3_workShare 30 = .ok (.dup, 1) := by decide +kernel
theorem dX3_workShare_31 : decode cX3_workShare 31 = .ok (.invokespecial 245, 3) := by decide +kernel
theorem dX3_workShare_34 : decode cX3_workShare 34 = .ok (.athrow, 1) := by decide +kernel
theorem dX3_workShare_35 : decode cX3_workShare 35 = .ok (.aload_n 0, 1) := by decide +kernel
theorem dX3_workShare_36 : decode cX3_workShare 36 = .ok (.iload_n 1, 1) := by decide +kernel
theorem dX3_workShare_37 : decode cX3_workShare 37 = .ok (.aload_n 2, 1) := by decide +kernel
theorem dX3_workShare_38 : decode cX3_workShare 38 = .ok (.invokevirtual 210, 3) := by decide +kernel
theorem dX3_workShare_41 : decode cX3_workShare 41 = .ok (.i2f, 1) := by decide +kernel
theorem dX3_workShare_42 : decode cX3_workShare 42 = .ok (.iload_n 3, 1) := by decide +kernel
theorem dX3_workShare_43 : decode cX3_workShare 43 = .ok (.i2f, 1) := by decide +kernel
theorem dX3_workShare_44 : decode cX3_workShare 44 = .ok (.fdiv, 1) := by decide +kernel
theorem dX3_workShare_45 : decode cX3_workShare 45 = .ok (.freturn, 1) := by decide +kernel
set_option maxRecDepth 20000 in
theorem ggX3_meanStart_X1_hasCrane : GoodIn wsX3_meanStart wsX1_hasCrane := goodIn_r _ [9, 10, 21, 22, 23, 24, 25, 26, 27, 28, 29, 30, 31] (by decide +kernel) (by decide +kernel)
set_option maxRecDepth 20000 in
theorem gX3_meanStart_X1_hasCrane : GoodIn wsX3_meanStart (wsV RX3 178 RX1 yX1_hasCrane wsX1_hasCrane) := goodIn_app (goodIn_of _ (by decide +kernel)) ggX3_meanStart_X1_hasCrane
theorem dX3_meanStart_0 : decode cX3_meanStart 0 = .ok (.iconst 0, 1) := by decide +kernel
theorem dX3_meanStart_1 : decode cX3_meanStart 1 = .ok (.istore_n 1, 1) := by decide +kernel
theorem dX3_meanStart_2 : decode cX3_meanStart 2 = .ok (.iconst 0, 1) := by decide +kernel
theorem dX3_meanStart_3 : decode cX3_meanStart 3 = .ok (.istore_n 2, 1) := by decide +kernel
theorem dX3_meanStart_4 : decode cX3_meanStart 4 = .ok (.aload_n 0, 1) := by decide +kernel
theorem dX3_meanStart_5 : decode cX3_meanStart 5 = .ok (.getfield 17, 3) := by decide +kernel
theorem dX3_meanStart_8 : decode cX3_meanStart 8 = .ok (.astore_n 3, 1) := by decide +kernel
theorem dX3_meanStart_9 : decode cX3_meanStart 9 = .ok (.aload_n 3, 1) := by decide +kernel
theorem dX3_meanStart_10 : decode cX3_meanStart 10 = .ok (.arraylength, 1) := by decide +kernel
theorem dX3_meanStart_11 : decode cX3_meanStart 11 = .ok (.istore 4, 2) := by decide +kernel
theorem dX3_meanStart_13 : decode cX3_meanStart 13 = .ok (.iconst 0, 1) := by decide +kernel
theorem dX3_meanStart_14 : decode cX3_meanStart 14 = .ok (.istore 5, 2) := by decide +kernel
theorem dX3_meanStart_16 : decode cX3_meanStart 16 = .ok (.iload 5, 2) := by decide +kernel
theorem dX3_meanStart_18 : decode cX3_meanStart 18 = .ok (.iload 4, 2) := by decide +kernel
theorem dX3_meanStart_20 : decode cX3_meanStart 20 = .ok (.if_icmp .ge 39, 3) := by decide +kernel
theorem dX3_meanStart_23 : decode cX3_meanStart 23 = .ok (.aload_n 3, 1) := by decide +kernel
theorem dX3_meanStart_24 : decode cX3_meanStart 24 = .ok (.iload 5, 2) := by decide +kernel
theorem dX3_meanStart_26 : decode cX3_meanStart 26 = .ok (.aaload, 1) := by decide +kernel
theorem dX3_meanStart_27 : decode cX3_meanStart 27 = .ok (.astore 6, 2) := by decide +kernel
theorem dX3_meanStart_29 : decode cX3_meanStart 29 = .ok (.aload 6, 2) := by decide +kernel
theorem dX3_meanStart_31 : decode cX3_meanStart 31 = .ok (.ifnull 22, 3) := by decide +kernel
theorem dX3_meanStart_34 : decode cX3_meanStart 34 = .ok (.aload 6, 2) := by decide +kernel
theorem dX3_meanStart_36 : decode cX3_meanStart 36 = .ok (.invokevirtual 178, 3) := by decide +kernel
theorem dX3_meanStart_39 : decode cX3_meanStart 39 = .ok (.ifCond .eq 14, 3) := by decide +kernel
theorem dX3_meanStart_42 : decode cX3_meanStart 42 = .ok (.iload_n 1, 1) := by decide +kernel
theorem dX3_meanStart_43 : decode cX3_meanStart 43 = .ok (.aload 6, 2) := by decide +kernel
theorem dX3_meanStart_45 : decode cX3_meanStart 45 = .ok (.getfield 157, 3) := by decide +kernel
theorem dX3_meanStart_48 : decode cX3_meanStart 48 = .ok (.iadd, 1) := by decide +kernel
theorem dX3_meanStart_49 : decode cX3_meanStart 49 = .ok (.istore_n 1, 1) := by decide +kernel
theorem dX3_meanStart_50 : decode cX3_meanStart 50 = .ok (.iinc 2 1, 3) := by decide +kernel
theorem dX3_meanStart_53 : decode cX3_meanStart 53 = .ok (.iinc 5 1, 3) := by decide +kernel
theorem dX3_meanStart_56 : decode cX3_meanStart 56 = .ok (.goto (-40), 3) := by decide +kernel
theorem dX3_meanStart_59 : decode cX3_meanStart 59 = .ok (.iload_n 2, 1) := by decide +kernel
theorem dX3_meanStart_60 : decode cX3_meanStart 60 = .ok (.ifCond .ne 11, 3) := by decide +kernel
theorem dX3_meanStart_63 : decode cX3_meanStart 63 = .ok (.new 243, 3) := by decide +kernel
theorem dX3_meanStart_66 : decode cX3_meanStart 66 = .ok (.dup, 1) := by decide +kernel
theorem dX3_meanStart_67 : decode cX3_meanStart 67 = .ok (.invokespecial 245, 3) := by decide +kernel
theorem dX3_meanStart_70 : decode cX3_meanStart 70 = .ok (.athrow, 1) := by decide +kernel
theorem dX3_meanStart_71 : decode cX3_meanStart 71 = .ok (.iload_n 1, 1) := by decide +kernel
theorem dX3_meanStart_72 : decode cX3_meanStart 72 = .ok (.i2d, 1) := by decide +kernel
theorem dX3_meanStart_73 : decode cX3_meanStart 73 = .ok (.iload_n 2, 1) := by decide +kernel
theorem dX3_meanStart_74 : decode cX3_meanStart 74 = .ok (.i2d, 1) := by decide +kernel
theorem dX3_meanStart_75 : decode cX3_meanStart 75 = .ok (.ddiv, 1) := by decide +kernel
theorem dX3_meanStart_76 : decode cX3_meanStart 76 = .ok (.dreturn, 1) := by decide +kernel
theorem dX3_isFrom_0 : decode cX3_isFrom 0 = .ok (.iload_n 1, 1) := by decide +kernel
theorem dX3_isFrom_1 : decode cX3_isFrom 1 = .ok (.iload_n 0, 1) := by decide +kernel
theorem dX3_isFrom_2 : decode cX3_isFrom 2 = .ok (.if_icmp .lt 12, 3) := by decide +kernel
theorem dX3_isFrom_5 : decode cX3_isFrom 5 = .ok (.iload_n 1, 1) := by decide +kernel
theorem dX3_isFrom_6 : decode cX3_isFrom 6 = .ok (.iload_n 2, 1) := by decide +kernel
theorem dX3_isFrom_7 : decode cX3_isFrom 7 = .ok (.if_icmp .gt 7, 3) := by decide +kernel
theorem dX3_isFrom_10 : decode cX3_isFrom 10 = .ok (.iconst 1, 1) := by decide +kernel
theorem dX3_isFrom_11 : decode cX3_isFrom 11 = .ok (.goto 4, 3) := by decide +kernel
theorem dX3_isFrom_14 : decode cX3_isFrom 14 = .ok (.iconst 0, 1) := by decide +kernel
theorem dX3_isFrom_15 : decode cX3_isFrom 15 = .ok (.ireturn, 1) := by decide +kernel
set_option maxRecDepth 20000 in
theorem ggX3_isPlace_X3_isFrom : GoodIn wsX3_isPlace wsX3_isFrom := goodIn_r _ [4] (by decide +kernel) (by decide +kernel)
set_option maxRecDepth 20000 in
theorem gX3_isPlace_X3_isFrom : GoodIn wsX3_isPlace (va_wsS RX3 38 yX3_isFrom wsX3_isFrom) := goodIn_app (goodIn_of _ (by decide +kernel)) ggX3_isPlace_X3_isFrom
theorem dX3_isPlace_0 : decode cX3_isPlace 0 = .ok (.iconst 0, 1) := by decide +kernel
theorem dX3_isPlace_1 : decode cX3_isPlace 1 = .ok (.iload_n 0, 1) := by decide +kernel
theorem dX3_isPlace_2 : decode cX3_isPlace 2 = .ok (.bipush 39, 2) := by decide +kernel
theorem dX3_isPlace_4 : decode cX3_isPlace 4 = .ok (.invokestatic 38, 3) := by decide +kernel
theorem dX3_isPlace_7 : decode cX3_isPlace 7 = .ok (.ifCond .eq 17, 3) := by decide +kernel
theorem dX3_isPlace_10 : decode cX3_isPlace 10 = .ok (.iconst 0, 1) := by decide +kernel
theorem dX3_isPlace_11 : decode cX3_isPlace 11 = .ok (.iload_n 1, 1) := by decide +kernel
theorem dX3_isPlace_12 : decode cX3_isPlace 12 = .ok (.bipush 39, 2) := by decide +kernel
theorem dX3_isPlace_14 : decode cX3_isPlace 14 = .ok (.invokestatic 38, 3) := by decide +kernel
theorem dX3_isPlace_17 : decode cX3_isPlace 17 = .ok (.ifCond .eq 7, 3) := by decide +kernel
theorem dX3_isPlace_20 : decode cX3_isPlace 20 = .ok (.iconst 1, 1) := by decide +kernel
theorem dX3_isPlace_21 : decode cX3_isPlace 21 = .ok (.goto 4, 3) := by decide +kernel
theorem dX3_isPlace_24 : decode cX3_isPlace 24 = .ok (.iconst 0, 1) := by decide +kernel
theorem dX3_isPlace_25 : decode cX3_isPlace 25 = .ok (.ireturn, 1) := by decide +kernel
set_option maxRecDepth 20000 in
theorem ggX3_isBurden_X3_isFrom : GoodIn wsX3_isBurden wsX3_isFrom := goodIn_r _ [4] (by decide +kernel) (by decide +kernel)
set_option maxRecDepth 20000 in
theorem gX3_isBurden_X3_isFrom : GoodIn wsX3_isBurden (va_wsS RX3 38 yX3_isFrom wsX3_isFrom) := goodIn_app (goodIn_of _ (by decide +kernel)) ggX3_isBurden_X3_isFrom
theorem dX3_isBurden_0 : decode cX3_isBurden 0 = .ok (.iconst 1, 1) := by decide +kernel
theorem dX3_isBurden_1 : decode cX3_isBurden 1 = .ok (.iload_n 0, 1) := by decide +kernel
theorem dX3_isBurden_2 : decode cX3_isBurden 2 = .ok (.sipush 999, 3) := by decide +kernel
theorem dX3_isBurden_5 : decode cX3_isBurden 5 = .ok (.invokestatic 38, 3) := by decide +kernel
theorem dX3_isBurden_8 : decode cX3_isBurden 8 = .ok (.ifCond .eq 17, 3) := by decide +kernel
theorem dX3_isBurden_11 : decode cX3_isBurden 11 = .ok (.iconst 1, 1) := by decide +kernel
theorem dX3_isBurden_12 : decode cX3_isBurden 12 = .ok (.iload_n 1, 1) := by decide +kernel
theorem dX3_isBurden_13 : decode cX3_isBurden 13 = .ok (.bipush 60, 2) := by decide +kernel
theorem dX3_isBurden_15 : decode cX3_isBurden 15 = .ok (.invokestatic 38, 3) := by decide +kernel
theorem dX3_isBurden_18 : decode cX3_isBurden 18 = .ok (.ifCond .eq 7, 3) := by decide +kernel
theorem dX3_isBurden_21 : decode cX3_isBurden 21 = .ok (.iconst 1, 1) := by decide +kernel
theorem dX3_isBurden_22 : decode cX3_isBurden 22 = .ok (.goto 4, 3) := by decide +kernel
theorem dX3_isBurden_25 : decode cX3_isBurden 25 = .ok (.iconst 0, 1) := by decide +kernel
theorem dX3_isBurden_26 : decode cX3_isBurden 26 = .ok (.ireturn, 1) := by decide +kernel
set_option maxRecDepth 20000 in
theorem ggX3_isMinute_X3_isFrom : GoodIn wsX3_isMinute wsX3_isFrom := goodIn_r _ [4] (by decide +kernel) (by decide +kernel)
set_option maxRecDepth 20000 in
theorem gX3_isMinute_X3_isFrom : GoodIn wsX3_isMinute (va_wsS RX3 38 yX3_isFrom wsX3_isFrom) := goodIn_app (goodIn_of _ (by decide +kernel)) ggX3_isMinute_X3_isFrom
theorem dX3_isMinute_0 : decode cX3_isMinute 0 = .ok (.iconst 0, 1) := by decide +kernel
theorem dX3_isMinute_1 : decode cX3_isMinute 1 = .ok (.iload_n 0, 1) := by decide +kernel
theorem dX3_isMinute_2 : decode cX3_isMinute 2 = .ok (.sipush 1439, 3) := by decide +kernel
theorem dX3_isMinute_5 : decode cX3_isMinute 5 = .ok (.invokestatic 38, 3) := by decide +kernel
theorem dX3_isMinute_8 : decode cX3_isMinute 8 = .ok (.ireturn, 1) := by decide +kernel
set_option maxRecDepth 20000 in
theorem ggX3_areHours_X3_isFrom : GoodIn wsX3_areHours wsX3_isFrom := goodIn_r _ [4] (by decide +kernel) (by decide +kernel)
set_option maxRecDepth 20000 in
theorem gX3_areHours_X3_isFrom : GoodIn wsX3_areHours (va_wsS RX3 38 yX3_isFrom wsX3_isFrom) := goodIn_app (goodIn_of _ (by decide +kernel)) ggX3_areHours_X3_isFrom
theorem dX3_areHours_0 : decode cX3_areHours 0 = .ok (.iconst 0, 1) := by decide +kernel
theorem dX3_areHours_1 : decode cX3_areHours 1 = .ok (.iload_n 0, 1) := by decide +kernel
theorem dX3_areHours_2 : decode cX3_areHours 2 = .ok (.bipush 23, 2) := by decide +kernel
theorem dX3_areHours_4 : decode cX3_areHours 4 = .ok (.invokestatic 38, 3) := by decide +kernel
theorem dX3_areHours_7 : decode cX3_areHours 7 = .ok (.ifCond .eq 19, 3) := by decide +kernel
theorem dX3_areHours_10 : decode cX3_areHours 10 = .ok (.iconst 1, 1) := by decide +kernel
theorem dX3_areHours_11 : decode cX3_areHours 11 = .ok (.iload_n 1, 1) := by decide +kernel
theorem dX3_areHours_12 : decode cX3_areHours 12 = .ok (.bipush 24, 2) := by decide +kernel
theorem dX3_areHours_14 : decode cX3_areHours 14 = .ok (.iload_n 0, 1) := by decide +kernel
theorem dX3_areHours_15 : decode cX3_areHours 15 = .ok (.isub, 1) := by decide +kernel
theorem dX3_areHours_16 : decode cX3_areHours 16 = .ok (.invokestatic 38, 3) := by decide +kernel
theorem dX3_areHours_19 : decode cX3_areHours 19 = .ok (.ifCond .eq 7, 3) := by decide +kernel
theorem dX3_areHours_22 : decode cX3_areHours 22 = .ok (.iconst 1, 1) := by decide +kernel
theorem dX3_areHours_23 : decode cX3_areHours 23 = .ok (.goto 4, 3) := by decide +kernel
theorem dX3_areHours_26 : decode cX3_areHours 26 = .ok (.iconst 0, 1) := by decide +kernel
theorem dX3_areHours_27 : decode cX3_areHours 27 = .ok (.ireturn, 1) := by decide +kernel
theorem dX3_bitsOfHours_0 : decode cX3_bitsOfHours 0 = .ok (.iconst 1, 1) := by decide +kernel
theorem dX3_bitsOfHours_1 : decode cX3_bitsOfHours 1 = .ok (.iload_n 1, 1) := by decide +kernel
theorem dX3_bitsOfHours_2 : decode cX3_bitsOfHours 2 = .ok (.ishl, 1) := by decide +kernel
theorem dX3_bitsOfHours_3 : decode cX3_bitsOfHours 3 = .ok (.iconst 1, 1) := by decide +kernel
theorem dX3_bitsOfHours_4 : decode cX3_bitsOfHours 4 = .ok (.isub, 1) := by decide +kernel
theorem dX3_bitsOfHours_5 : decode cX3_bitsOfHours 5 = .ok (.iload_n 0, 1) := by decide +kernel
theorem dX3_bitsOfHours_6 : decode cX3_bitsOfHours 6 = .ok (.ishl, 1) := by decide +kernel
theorem dX3_bitsOfHours_7 : decode cX3_bitsOfHours 7 = .ok (.ireturn, 1) := by decide +kernel
theorem dX3_airBetween_0 : decode cX3_airBetween 0 = .ok (.iload_n 0, 1) := by decide +kernel
theorem dX3_airBetween_1 : decode cX3_airBetween 1 = .ok (.iload_n 2, 1) := by decide +kernel
theorem dX3_airBetween_2 : decode cX3_airBetween 2 = .ok (.invokestatic 246, 3) := by decide +kernel
theorem dX3_airBetween_5 : decode cX3_airBetween 5 = .ok (.iconst 5, 1) := by decide +kernel
theorem dX3_airBetween_6 : decode cX3_airBetween 6 = .ok (.idiv, 1) := by decide +kernel
theorem dX3_airBetween_7 : decode cX3_airBetween 7 = .ok (.istore 4, 2) := by decide +kernel
theorem dX3_airBetween_9 : decode cX3_airBetween 9 = .ok (.iload_n 0, 1) := by decide +kernel
theorem dX3_airBetween_10 : decode cX3_airBetween 10 = .ok (.iload_n 2, 1) := by decide +kernel
theorem dX3_airBetween_11 : decode cX3_airBetween 11 = .ok (.invokestatic 223, 3) := by decide +kernel
theorem dX3_airBetween_14 : decode cX3_airBetween 14 = .ok (.iconst 5, 1) := by decide +kernel
theorem dX3_airBetween_15 : decode cX3_airBetween 15 = .ok (.idiv, 1) := by decide +kernel
theorem dX3_airBetween_16 : decode cX3_airBetween 16 = .ok (.istore 5, 2) := by decide +kernel
theorem dX3_airBetween_18 : decode cX3_airBetween 18 = .ok (.iload_n 1, 1) := by decide +kernel
theorem dX3_airBetween_19 : decode cX3_airBetween 19 = .ok (.iload_n 3, 1) := by decide +kernel
theorem dX3_airBetween_20 : decode cX3_airBetween 20 = .ok (.invokestatic 246, 3) := by decide +kernel
theorem dX3_airBetween_23 : decode cX3_airBetween 23 = .ok (.iconst 5, 1) := by decide +kernel
theorem dX3_airBetween_24 : decode cX3_airBetween 24 = .ok (.idiv, 1) := by decide +kernel
theorem dX3_airBetween_25 : decode cX3_airBetween 25 = .ok (.istore 6, 2) := by decide +kernel
theorem dX3_airBetween_27 : decode cX3_airBetween 27 = .ok (.iload_n 1, 1) := by decide +kernel
theorem dX3_airBetween_28 : decode cX3_airBetween 28 = .ok (.iload_n 3, 1) := by decide +kernel
theorem dX3_airBetween_29 : decode cX3_airBetween 29 = .ok (.invokestatic 223, 3) := by decide +kernel
theorem dX3_airBetween_32 : decode cX3_airBetween 32 = .ok (.iconst 5, 1) := by decide +kernel
theorem dX3_airBetween_33 : decode cX3_airBetween 33 = .ok (.idiv, 1) := by decide +kernel
theorem dX3_airBetween_34 : decode cX3_airBetween 34 = .ok (.istore 7, 2) := by decide +kernel
theorem dX3_airBetween_36 : decode cX3_airBetween 36 = .ok (.lconst 0, 1) := by decide +kernel
theorem dX3_airBetween_37 : decode cX3_airBetween 37 = .ok (.lstore 8, 2) := by decide +kernel
theorem dX3_airBetween_39 : decode cX3_airBetween 39 = .ok (.iload 6, 2) := by decide +kernel
theorem dX3_airBetween_41 : decode cX3_airBetween 41 = .ok (.istore 10, 2) := by decide +kernel
theorem dX3_airBetween_43 : decode cX3_airBetween 43 = .ok (.iload 10, 2) := by decide +kernel
theorem dX3_airBetween_45 : decode cX3_airBetween 45 = .ok (.iload 7, 2) := by decide +kernel
theorem dX3_airBetween_47 : decode cX3_airBetween 47 = .ok (.if_icmp .gt 41, 3) := by decide +kernel
theorem dX3_airBetween_50 : decode cX3_airBetween 50 = .ok (.iload 4, 2) := by decide +kernel
theorem dX3_airBetween_52 : decode cX3_airBetween 52 = .ok (.istore 11, 2) := by decide +kernel
theorem dX3_airBetween_54 : decode cX3_airBetween 54 = .ok (.iload 11, 2) := by decide +kernel
theorem dX3_airBetween_56 : decode cX3_airBetween 56 = .ok (.iload 5, 2) := by decide +kernel
theorem dX3_airBetween_58 : decode cX3_airBetween 58 = .ok (.if_icmp .gt 24, 3) := by decide +kernel
theorem dX3_airBetween_61 : decode cX3_airBetween 61 = .ok (.lload 8, 2) := by decide +kernel
theorem dX3_airBetween_63 : decode cX3_airBetween 63 = .ok (.lconst 1, 1) := by decide +kernel
theorem dX3_airBetween_64 : decode cX3_airBetween 64 = .ok (.bipush 8, 2) := by decide +kernel
theorem dX3_airBetween_66 : decode cX3_airBetween 66 = .ok (.iload 10, 2) := by decide +kernel
theorem dX3_airBetween_68 : decode cX3_airBetween 68 = .ok (.imul, 1) := by decide +kernel
theorem dX3_airBetween_69 : decode cX3_airBetween 69 = .ok (.iload 11, 2) := by decide +kernel
theorem dX3_airBetween_71 : decode cX3_airBetween 71 = .ok (.iadd, 1) := by decide +kernel
theorem dX3_airBetween_72 : decode cX3_airBetween 72 = .ok (.lshl, 1) := by decide +kernel
theorem dX3_airBetween_73 : decode cX3_airBetween 73 = .ok (.lor, 1) := by decide +kernel
theorem dX3_airBetween_74 : decode cX3_airBetween 74 = .ok (.lstore 8, 2) := by decide +kernel
theorem dX3_airBetween_76 : decode cX3_airBetween 76 = .ok (.iinc 11 1, 3) := by decide +kernel
theorem dX3_airBetween_79 : decode cX3_airBetween 79 = .ok (.goto (-25), 3) := by decide +kernel
theorem dX3_airBetween_82 : decode cX3_airBetween 82 = .ok (.iinc 10 1, 3) := by decide +kernel
theorem dX3_airBetween_85 : decode cX3_airBetween 85 = .ok (.goto (-42), 3) := by decide +kernel
theorem dX3_airBetween_88 : decode cX3_airBetween 88 = .ok (.lload 8, 2) := by decide +kernel
theorem dX3_airBetween_90 : decode cX3_airBetween 90 = .ok (.lreturn, 1) := by decide +kernel
set_option maxRecDepth 20000 in
theorem ggX3_countCommonPlaces_X0_reaches : GoodIn wsX3_countCommonPlaces wsX0_reaches := goodIn_r _ [5, 6, 7, 8, 9, 4, 10, 11, 12, 13, 14, 15, 16, 17, 18] (by decide +kernel) (by decide +kernel)
set_option maxRecDepth 20000 in
theorem gX3_countCommonPlaces_X0_reaches : GoodIn wsX3_countCommonPlaces (wsV RX3 160 RX0 yX0_reaches wsX0_reaches) := goodIn_app (goodIn_of _ (by decide +kernel)) ggX3_countCommonPlaces_X0_reaches
theorem dX3_countCommonPlaces_0 : decode cX3_countCommonPlaces 0 = .ok (.iconst 0, 1) := by decide +kernel
theorem dX3_countCommonPlaces_1 : decode cX3_countCommonPlaces 1 = .ok (.istore_n 2, 1) := by decide +kernel
theorem dX3_countCommonPlaces_2 : decode cX3_countCommonPlaces 2 = .ok (.iconst 0, 1) := by decide +kernel
theorem dX3_countCommonPlaces_3 : decode cX3_countCommonPlaces 3 = .ok (.istore_n 3, 1) := by decide +kernel
theorem dX3_countCommonPlaces_4 : decode cX3_countCommonPlaces 4 = .ok (.iload_n 3, 1) := by decide +kernel
theorem dX3_countCommonPlaces_5 : decode cX3_countCommonPlaces 5 = .ok (.bipush 40, 2) := by decide +kernel
theorem dX3_countCommonPlaces_7 : decode cX3_countCommonPlaces 7 = .ok (.if_icmp .ge 48, 3) := by decide +kernel
theorem dX3_countCommonPlaces_10 : decode cX3_countCommonPlaces 10 = .ok (.iconst 0, 1) := by decide +kernel
theorem dX3_countCommonPlaces_11 : decode cX3_countCommonPlaces 11 = .ok (.istore 4, 2) := by decide +kernel
theorem dX3_countCommonPlaces_13 : decode cX3_countCommonPlaces 13 = .ok (.iload 4, 2) := by decide +kernel
theorem dX3_countCommonPlaces_15 : decode cX3_countCommonPlaces 15 = .ok (.bipush 40, 2) := by decide +kernel
theorem dX3_countCommonPlaces_17 : decode cX3_countCommonPlaces 17 = .ok (.if_icmp .ge 32, 3) := by decide +kernel
theorem dX3_countCommonPlaces_20 : decode cX3_countCommonPlaces 20 = .ok (.aload_n 0, 1) := by decide +kernel
theorem dX3_countCommonPlaces_21 : decode cX3_countCommonPlaces 21 = .ok (.iload_n 3, 1) := by decide +kernel
theorem dX3_countCommonPlaces_22 : decode cX3_countCommonPlaces 22 = .ok (.iload 4, 2) := by decide +kernel
theorem dX3_countCommonPlaces_24 : decode cX3_countCommonPlaces 24 = .ok (.invokevirtual 160, 3) := by decide +kernel
theorem dX3_countCommonPlaces_27 : decode cX3_countCommonPlaces 27 = .ok (.ifCond .eq 16, 3) := by decide +kernel
theorem dX3_countCommonPlaces_30 : decode cX3_countCommonPlaces 30 = .ok (.aload_n 1, 1) := by decide +kernel
theorem dX3_countCommonPlaces_31 : decode cX3_countCommonPlaces 31 = .ok (.iload_n 3, 1) := by decide +kernel
theorem dX3_countCommonPlaces_32 : decode cX3_countCommonPlaces 32 = .ok (.iload 4, 2) := by decide +kernel
theorem dX3_countCommonPlaces_34 : decode cX3_countCommonPlaces 34 = .ok (.invokevirtual 160, 3) := by decide +kernel
theorem dX3_countCommonPlaces_37 : decode cX3_countCommonPlaces 37 = .ok (.ifCond .eq 6, 3) := by decide +kernel
theorem dX3_countCommonPlaces_40 : decode cX3_countCommonPlaces 40 = .ok (.iinc 2 1, 3) := by decide +kernel
theorem dX3_countCommonPlaces_43 : decode cX3_countCommonPlaces 43 = .ok (.iinc 4 1, 3) := by decide +kernel
theorem dX3_countCommonPlaces_46 : decode cX3_countCommonPlaces 46 = .ok (.goto (-33), 3) := by decide +kernel
theorem dX3_countCommonPlaces_49 : decode cX3_countCommonPlaces 49 = .ok (.iinc 3 1, 3) := by decide +kernel
theorem dX3_countCommonPlaces_52 : decode cX3_countCommonPlaces 52 = .ok (.goto (-48), 3) := by decide +kernel
theorem dX3_countCommonPlaces_55 : decode cX3_countCommonPlaces 55 = .ok (.iload_n 2, 1) := by decide +kernel
theorem dX3_countCommonPlaces_56 : decode cX3_countCommonPlaces 56 = .ok (.ireturn, 1) := by decide +kernel
theorem dX3_craneNumbered_0 : decode cX3_craneNumbered 0 = .ok (.iload_n 1, 1) := by decide +kernel
theorem dX3_craneNumbered_1 : decode cX3_craneNumbered 1 = .ok (.ifCond .lt 21, 3) := by decide +kernel
theorem dX3_craneNumbered_4 : decode cX3_craneNumbered 4 = .ok (.iload_n 1, 1) := by decide +kernel
theorem dX3_craneNumbered_5 : decode cX3_craneNumbered 5 = .ok (.aload_n 0, 1) := by decide +kernel
theorem dX3_craneNumbered_6 : decode cX3_craneNumbered 6 = .ok (.getfield 11, 3) := by decide +kernel
theorem dX3_craneNumbered_9 : decode cX3_craneNumbered 9 = .ok (.arraylength, 1) := by decide +kernel
theorem dX3_craneNumbered_10 : decode cX3_craneNumbered 10 = .ok (.if_icmp .ge 12, 3) := by decide +kernel
theorem dX3_craneNumbered_13 : decode cX3_craneNumbered 13 = .ok (.aload_n 0, 1) := by decide +kernel
theorem dX3_craneNumbered_14 : decode cX3_craneNumbered 14 = .ok (.getfield 11, 3) := by decide +kernel
theorem dX3_craneNumbered_17 : decode cX3_craneNumbered 17 = .ok (.iload_n 1, 1) := by decide +kernel
theorem dX3_craneNumbered_18 : decode cX3_craneNumbered 18 = .ok (.aaload, 1) := by decide +kernel
theorem dX3_craneNumbered_19 : decode cX3_craneNumbered 19 = .ok (.goto 4, 3) := by decide +kernel
theorem dX3_craneNumbered_22 : decode cX3_craneNumbered 22 = .ok (.aconst_null, 1) := by decide +kernel
theorem dX3_craneNumbered_23 : decode cX3_craneNumbered 23 = .ok (.areturn, 1) := by decide +kernel
theorem dX3_liftNumbered_0 : decode cX3_liftNumbered 0 = .ok (.iload_n 1, 1) := by decide +kernel
theorem dX3_liftNumbered_1 : decode cX3_liftNumbered 1 = .ok (.ifCond .lt 21, 3) := by decide +kernel
theorem dX3_liftNumbered_4 : decode cX3_liftNumbered 4 = .ok (.iload_n 1, 1) := by decide +kernel
theorem dX3_liftNumbered_5 : decode cX3_liftNumbered 5 = .ok (.aload_n 0, 1) := by decide +kernel
theorem dX3_liftNumbered_6 : decode cX3_liftNumbered 6 = .ok (.getfield 17, 3) := by decide +kernel
theorem dX3_liftNumbered_9 : decode cX3_liftNumbered 9 = .ok (.arraylength, 1) := by decide +kernel
theorem dX3_liftNumbered_10 : decode cX3_liftNumbered 10 = .ok (.if_icmp .ge 12, 3) := by decide +kernel
theorem dX3_liftNumbered_13 : decode cX3_liftNumbered 13 = .ok (.aload_n 0, 1) := by decide +kernel
theorem dX3_liftNumbered_14 : decode cX3_liftNumbered 14 = .ok (.getfield 17, 3) := by decide +kernel
theorem dX3_liftNumbered_17 : decode cX3_liftNumbered 17 = .ok (.iload_n 1, 1) := by decide +kernel
theorem dX3_liftNumbered_18 : decode cX3_liftNumbered 18 = .ok (.aaload, 1) := by decide +kernel
theorem dX3_liftNumbered_19 : decode cX3_liftNumbered 19 = .ok (.goto 4, 3) := by decide +kernel
theorem dX3_liftNumbered_22 : decode cX3_liftNumbered 22 = .ok (.aconst_null, 1) := by decide +kernel
theorem dX3_liftNumbered_23 : decode cX3_liftNumbered 23 = .ok (.areturn, 1) := by decide +kernel
theorem dX3_pourNumbered_0 : decode cX3_pourNumbered 0 = .ok (.iload_n 1, 1) := by decide +kernel
theorem dX3_pourNumbered_1 : decode cX3_pourNumbered 1 = .ok (.ifCond .lt 21, 3) := by decide +kernel
theorem dX3_pourNumbered_4 : decode cX3_pourNumbered 4 = .ok (.iload_n 1, 1) := by decide +kernel
theorem dX3_pourNumbered_5 : decode cX3_pourNumbered 5 = .ok (.aload_n 0, 1) := by decide +kernel
theorem dX3_pourNumbered_6 : decode cX3_pourNumbered 6 = .ok (.getfield 23, 3) := by decide +kernel
theorem dX3_pourNumbered_9 : decode cX3_pourNumbered 9 = .ok (.arraylength, 1) := by decide +kernel
theorem dX3_pourNumbered_10 : decode cX3_pourNumbered 10 = .ok (.if_icmp .ge 12, 3) := by decide +kernel
theorem dX3_pourNumbered_13 : decode cX3_pourNumbered 13 = .ok (.aload_n 0, 1) := by decide +kernel
theorem dX3_pourNumbered_14 : decode cX3_pourNumbered 14 = .ok (.getfield 23, 3) := by decide +kernel
theorem dX3_pourNumbered_17 : decode cX3_pourNumbered 17 = .ok (.iload_n 1, 1) := by decide +kernel
theorem dX3_pourNumbered_18 : decode cX3_pourNumbered 18 = .ok (.aaload, 1) := by decide +kernel
theorem dX3_pourNumbered_19 : decode cX3_pourNumbered 19 = .ok (.goto 4, 3) := by decide +kernel
theorem dX3_pourNumbered_22 : decode cX3_pourNumbered 22 = .ok (.aconst_null, 1) := by decide +kernel
theorem dX3_pourNumbered_23 : decode cX3_pourNumbered 23 = .ok (.areturn, 1) := by decide +kernel
theorem dX3_keepLift_0 : decode cX3_keepLift 0 = .ok (.aload_n 0, 1) := by decide +kernel
theorem dX3_keepLift_1 : decode cX3_keepLift 1 = .ok (.getfield 88, 3) := by decide +kernel
theorem dX3_keepLift_4 : decode cX3_keepLift 4 = .ok (.aload_n 0, 1) := by decide +kernel
theorem dX3_keepLift_5 : decode cX3_keepLift 5 = .ok (.getfield 17, 3) := by decide +kernel
theorem dX3_keepLift_8 : decode cX3_keepLift 8 = .ok (.arraylength, 1) := by decide +kernel
theorem dX3_keepLift_9 : decode cX3_keepLift 9 = .ok (.if_icmp .ge 23, 3) := by decide +kernel
theorem dX3_keepLift_12 : decode cX3_keepLift 12 = .ok (.aload_n 0, 1) := by decide +kernel
theorem dX3_keepLift_13 : decode cX3_keepLift 13 = .ok (.getfield 17, 3) := by decide +kernel
theorem dX3_keepLift_16 : decode cX3_keepLift 16 = .ok (.aload_n 0, 1) := by decide +kernel
theorem dX3_keepLift_17 : decode cX3_keepLift 17 = .ok (.getfield 88, 3) := by decide +kernel
theorem dX3_keepLift_20 : decode cX3_keepLift 20 = .ok (.aload_n 1, 1) := by decide +kernel
theorem dX3_keepLift_21 : decode cX3_keepLift 21 = .ok (.aastore, 1) := by decide +kernel
theorem dX3_keepLift_22 : decode cX3_keepLift 22 = .ok (.aload_n 0, 1) := by decide +kernel
theorem dX3_keepLift_23 : decode cX3_keepLift 23 = .ok (.dup, 1) := by decide +kernel
theorem dX3_keepLift_24 : decode cX3_keepLift 24 = .ok (.getfield 88, 3) := by decide +kernel
theorem dX3_keepLift_27 : decode cX3_keepLift 27 = .ok (.iconst 1, 1) := by decide +kernel
theorem dX3_keepLift_28 : decode cX3_keepLift 28 = .ok (.iadd, 1) := by decide +kernel
theorem dX3_keepLift_29 : decode cX3_keepLift 29 = .ok (.putfield 88, 3) := by decide +kernel
theorem dX3_keepLift_32 : decode cX3_keepLift 32 = .ok (.return_, 1) := by decide +kernel
set_option maxRecDepth 20000 in
theorem ggX3_obstacle_X3_lastingObstacle : GoodIn wsX3_obstacle wsX3_lastingObstacle := goodIn_ca (goodIn_r _ [5, 6, 7, 8, 9, 4, 10, 11, 12, 13, 14, 15, 16, 17, 18, 19, 20, 21, 22, 23, 24, 25, 26, 27, 28, 29, 30, 31, 32, 33, 34, 35, 36, 37, 38, 39, 40, 41, 42, 43, 44, 45, 46, 85, 86, 87, 88, 89, 90, 91, 92, 93, 94, 95, 96, 97, 98, 99, 100, 101, 102, 103, 104, 105, 106, 107, 108, 109, 110, 111] (by decide +kernel) (by decide +kernel)) (goodIn_sub (fun _ h => List.mem_cons_of_mem _ (List.mem_append_right _ h)) (by decide +kernel))
set_option maxRecDepth 20000 in
theorem gX3_obstacle_X3_lastingObstacle : GoodIn wsX3_obstacle (wsV RX3 171 RX3 yX3_lastingObstacle wsX3_lastingObstacle) := goodIn_app (goodIn_of _ (by decide +kernel)) ggX3_obstacle_X3_lastingObstacle
set_option maxRecDepth 20000 in
theorem ggX3_obstacle_X3_passingObstacle : GoodIn wsX3_obstacle wsX3_passingObstacle := goodIn_r _ [50, 51, 52, 53, 54, 7, 8, 9, 4, 10, 11, 55, 56, 57, 15, 58, 59, 60, 61, 62, 63, 64, 65, 66, 67, 68, 69, 70, 71, 72, 73, 74, 75, 76, 77, 78, 79, 80, 81, 82, 83, 84, 85, 86, 87, 88, 89, 90, 91, 92, 93, 94, 95, 96, 97, 98, 99, 100, 101, 102, 103, 104, 105, 106, 107, 108, 109, 110, 111] (by decide +kernel) (by decide +kernel)
set_option maxRecDepth 20000 in
theorem gX3_obstacle_X3_passingObstacle : GoodIn wsX3_obstacle (wsV RX3 175 RX3 yX3_passingObstacle wsX3_passingObstacle) := goodIn_app (goodIn_of _ (by decide +kernel)) ggX3_obstacle_X3_passingObstacle
theorem dX3_obstacle_0 : decode cX3_obstacle 0 = .ok (.aload_n 0, 1) := by decide +kernel
theorem dX3_obstacle_1 : decode cX3_obstacle 1 = .ok (.aload_n 1, 1) := by decide +kernel
theorem dX3_obstacle_2 : decode cX3_obstacle 2 = .ok (.iload_n 2, 1) := by decide +kernel
theorem dX3_obstacle_3 : decode cX3_obstacle 3 = .ok (.invokevirtual 171, 3) := by decide +kernel
theorem dX3_obstacle_6 : decode cX3_obstacle 6 = .ok (.istore 4, 2) := by decide +kernel
theorem dX3_obstacle_8 : decode cX3_obstacle 8 = .ok (.iload 4, 2) := by decide +kernel
theorem dX3_obstacle_10 : decode cX3_obstacle 10 = .ok (.bipush 45, 2) := by decide +kernel
theorem dX3_obstacle_12 : decode cX3_obstacle 12 = .ok (.if_icmp .ne 13, 3) := by decide +kernel
theorem dX3_obstacle_15 : decode cX3_obstacle 15 = .ok (.aload_n 0, 1) := by decide +kernel
theorem dX3_obstacle_16 : decode cX3_obstacle 16 = .ok (.aload_n 1, 1) := by decide +kernel
theorem dX3_obstacle_17 : decode cX3_obstacle 17 = .ok (.iload_n 2, 1) := by decide +kernel
theorem dX3_obstacle_18 : decode cX3_obstacle 18 = .ok (.iload_n 3, 1) := by decide +kernel
theorem dX3_obstacle_19 : decode cX3_obstacle 19 = .ok (.invokevirtual 175, 3) := by decide +kernel
theorem dX3_obstacle_22 : decode cX3_obstacle 22 = .ok (.goto 5, 3) := by decide +kernel
theorem dX3_obstacle_25 : decode cX3_obstacle 25 = .ok (.iload 4, 2) := by decide +kernel
theorem dX3_obstacle_27 : decode cX3_obstacle 27 = .ok (.ireturn, 1) := by decide +kernel
set_option maxRecDepth 20000 in
theorem ggX3_lastingObstacle_X3_craneNumbered : GoodIn wsX3_lastingObstacle wsX3_craneNumbered := goodIn_r _ [6, 7, 43, 44, 45, 46, 47, 48, 49, 50, 51, 52] (by decide +kernel) (by decide +kernel)
set_option maxRecDepth 20000 in
theorem gX3_lastingObstacle_X3_craneNumbered : GoodIn wsX3_lastingObstacle (wsV RX3 55 RX3 yX3_craneNumbered wsX3_craneNumbered) := goodIn_app (goodIn_of _ (by decide +kernel)) ggX3_lastingObstacle_X3_craneNumbered
set_option maxRecDepth 20000 in
theorem ggX3_lastingObstacle_X0_reachesEnds : GoodIn wsX3_lastingObstacle wsX0_reachesEnds := goodIn_r _ [12, 13, 14, 15, 16, 17, 18, 19, 11, 20, 21, 22, 23, 24, 25, 26, 27, 53, 54, 55, 56, 57, 58, 59, 60, 61, 62, 63, 64, 65, 66, 67, 68, 69] (by decide +kernel) (by decide +kernel)
set_option maxRecDepth 20000 in
theorem gX3_lastingObstacle_X0_reachesEnds : GoodIn wsX3_lastingObstacle (wsV RX3 249 RX0 yX0_reachesEnds wsX0_reachesEnds) := goodIn_app (goodIn_of _ (by decide +kernel)) ggX3_lastingObstacle_X0_reachesEnds
set_option maxRecDepth 20000 in
theorem ggX3_lastingObstacle_X0_bearsAtEnds : GoodIn wsX3_lastingObstacle wsX0_bearsAtEnds := goodIn_ca (goodIn_r _ [31, 32, 13, 14, 15, 16, 33, 34, 35, 11, 36, 37, 38, 39, 40, 41, 42, 22, 23, 24, 25, 26, 27, 53, 54, 55, 56, 57, 58, 59, 60, 61, 62, 63, 64, 65, 66, 67, 68, 69] (by decide +kernel) (by decide +kernel)) (goodIn_sub (fun _ h => List.mem_cons_of_mem _ (List.mem_append_right _ h)) (by decide +kernel))
set_option maxRecDepth 20000 in
theorem gX3_lastingObstacle_X0_bearsAtEnds : GoodIn wsX3_lastingObstacle (wsV RX3 252 RX0 yX0_bearsAtEnds wsX0_bearsAtEnds) := goodIn_app (goodIn_of _ (by decide +kernel)) ggX3_lastingObstacle_X0_bearsAtEnds
theorem dX3_lastingObstacle_0 : decode cX3_lastingObstacle 0 = .ok (.aload_n 0, 1) := by decide +kernel
theorem dX3_lastingObstacle_1 : decode cX3_lastingObstacle 1 = .ok (.iload_n 2, 1) := by decide +kernel
theorem dX3_lastingObstacle_2 : decode cX3_lastingObstacle 2 = .ok (.invokevirtual 55, 3) := by decide +kernel
theorem dX3_lastingObstacle_5 : decode cX3_lastingObstacle 5 = .ok (.astore_n 3, 1) := by decide +kernel
theorem dX3_lastingObstacle_6 : decode cX3_lastingObstacle 6 = .ok (.aload_n 3, 1) := by decide +kernel
theorem dX3_lastingObstacle_7 : decode cX3_lastingObstacle 7 = .ok (.ifnull 11, 3) := by decide +kernel
theorem dX3_lastingObstacle_10 : decode cX3_lastingObstacle 10 = .ok (.aload_n 3, 1) := by decide +kernel
theorem dX3_lastingObstacle_11 : decode cX3_lastingObstacle 11 = .ok (.aload_n 1, 1) := by decide +kernel
theorem dX3_lastingObstacle_12 : decode cX3_lastingObstacle 12 = .ok (.invokevirtual 249, 3) := by decide +kernel
theorem dX3_lastingObstacle_15 : decode cX3_lastingObstacle 15 = .ok (.ifCond .ne 6, 3) := by decide +kernel
theorem dX3_lastingObstacle_18 : decode cX3_lastingObstacle 18 = .ok (.bipush 114, 2) := by decide +kernel
theorem dX3_lastingObstacle_20 : decode cX3_lastingObstacle 20 = .ok (.ireturn, 1) := by decide +kernel
theorem dX3_lastingObstacle_21 : decode cX3_lastingObstacle 21 = .ok (.aload_n 3, 1) := by decide +kernel
theorem dX3_lastingObstacle_22 : decode cX3_lastingObstacle 22 = .ok (.aload_n 1, 1) := by decide +kernel
theorem dX3_lastingObstacle_23 : decode cX3_lastingObstacle 23 = .ok (.aload_n 0, 1) := by decide +kernel
theorem dX3_lastingObstacle_24 : decode cX3_lastingObstacle 24 = .ok (.getfield 82, 3) := by decide +kernel
theorem dX3_lastingObstacle_27 : decode cX3_lastingObstacle 27 = .ok (.invokevirtual 252, 3) := by decide +kernel
theorem dX3_lastingObstacle_30 : decode cX3_lastingObstacle 30 = .ok (.ifCond .eq 8, 3) := by decide +kernel
theorem dX3_lastingObstacle_33 : decode cX3_lastingObstacle 33 = .ok (.bipush 45, 2) := by decide +kernel
theorem dX3_lastingObstacle_35 : decode cX3_lastingObstacle 35 = .ok (.goto 5, 3) := by decide +kernel
theorem dX3_lastingObstacle_38 : decode cX3_lastingObstacle 38 = .ok (.bipush 103, 2) := by decide +kernel
theorem dX3_lastingObstacle_40 : decode cX3_lastingObstacle 40 = .ok (.ireturn, 1) := by decide +kernel
set_option maxRecDepth 20000 in
theorem ggX3_passingObstacle_X3_craneNumbered : GoodIn wsX3_passingObstacle wsX3_craneNumbered := goodIn_r _ [9, 10, 42, 43, 44, 45, 46, 47, 48, 49, 50, 51] (by decide +kernel) (by decide +kernel)
set_option maxRecDepth 20000 in
theorem gX3_passingObstacle_X3_craneNumbered : GoodIn wsX3_passingObstacle (wsV RX3 55 RX3 yX3_craneNumbered wsX3_craneNumbered) := goodIn_app (goodIn_of _ (by decide +kernel)) ggX3_passingObstacle_X3_craneNumbered
set_option maxRecDepth 20000 in
theorem ggX3_passingObstacle_X0_lastClosedHour : GoodIn wsX3_passingObstacle wsX0_lastClosedHour := goodIn_r _ [15, 16, 17, 18, 14, 19, 20, 63, 64, 65, 66, 67, 68] (by decide +kernel) (by decide +kernel)
set_option maxRecDepth 20000 in
theorem gX3_passingObstacle_X0_lastClosedHour : GoodIn wsX3_passingObstacle (wsV RX3 256 RX0 yX0_lastClosedHour wsX0_lastClosedHour) := goodIn_app (goodIn_of _ (by decide +kernel)) ggX3_passingObstacle_X0_lastClosedHour
set_option maxRecDepth 20000 in
theorem ggX3_passingObstacle_X1_meets : GoodIn wsX3_passingObstacle wsX1_meets := goodIn_r _ [25, 26, 27, 28, 29, 24, 30, 31, 32, 33, 34, 35, 36, 52, 53, 54, 55, 56, 57, 58, 59, 60, 61, 62] (by decide +kernel) (by decide +kernel)
set_option maxRecDepth 20000 in
theorem gX3_passingObstacle_X1_meets : GoodIn wsX3_passingObstacle (wsV RX3 200 RX1 yX1_meets wsX1_meets) := goodIn_app (goodIn_of _ (by decide +kernel)) ggX3_passingObstacle_X1_meets
set_option maxRecDepth 20000 in
theorem ggX3_passingObstacle_X1_sharesAir : GoodIn wsX3_passingObstacle wsX1_sharesAir := goodIn_r _ [40, 41, 52, 53, 54, 55, 56, 57, 58, 59, 60, 61, 62] (by decide +kernel) (by decide +kernel)
set_option maxRecDepth 20000 in
theorem gX3_passingObstacle_X1_sharesAir : GoodIn wsX3_passingObstacle (wsV RX3 189 RX1 yX1_sharesAir wsX1_sharesAir) := goodIn_app (goodIn_of _ (by decide +kernel)) ggX3_passingObstacle_X1_sharesAir
theorem dX3_passingObstacle_0 : decode cX3_passingObstacle 0 = .ok (.iload_n 3, 1) := by decide +kernel
theorem dX3_passingObstacle_1 : decode cX3_passingObstacle 1 = .ok (.aload_n 0, 1) := by decide +kernel
theorem dX3_passingObstacle_2 : decode cX3_passingObstacle 2 = .ok (.getfield 115, 3) := by decide +kernel
theorem dX3_passingObstacle_5 : decode cX3_passingObstacle 5 = .ok (.if_icmp .lt 15, 3) := by decide +kernel
theorem dX3_passingObstacle_8 : decode cX3_passingObstacle 8 = .ok (.iload_n 3, 1) := by decide +kernel
theorem dX3_passingObstacle_9 : decode cX3_passingObstacle 9 = .ok (.sipush 1440, 3) := by decide +kernel
theorem dX3_passingObstacle_12 : decode cX3_passingObstacle 12 = .ok (.aload_n 1, 1) := by decide +kernel
theorem dX3_passingObstacle_13 : decode cX3_passingObstacle 13 = .ok (.getfield 228, 3) := by decide +kernel
theorem dX3_passingObstacle_16 : decode cX3_passingObstacle 16 = .ok (.isub, 1) := by decide +kernel
theorem dX3_passingObstacle_17 : decode cX3_passingObstacle 17 = .ok (.if_icmp .le 6, 3) := by decide +kernel
theorem dX3_passingObstacle_20 : decode cX3_passingObstacle 20 = .ok (.bipush 109, 2) := by decide +kernel
theorem dX3_passingObstacle_22 : decode cX3_passingObstacle 22 = .ok (.ireturn, 1) := by decide +kernel
theorem dX3_passingObstacle_23 : decode cX3_passingObstacle 23 = .ok (.aload_n 0, 1) := by decide +kernel
theorem dX3_passingObstacle_24 : decode cX3_passingObstacle 24 = .ok (.iload_n 2, 1) := by decide +kernel
theorem dX3_passingObstacle_25 : decode cX3_passingObstacle 25 = .ok (.invokevirtual 55, 3) := by decide +kernel
theorem dX3_passingObstacle_28 : decode cX3_passingObstacle 28 = .ok (.astore 4, 2) := by decide +kernel
theorem dX3_passingObstacle_30 : decode cX3_passingObstacle 30 = .ok (.iload_n 3, 1) := by decide +kernel
theorem dX3_passingObstacle_31 : decode cX3_passingObstacle 31 = .ok (.aload_n 1, 1) := by decide +kernel
theorem dX3_passingObstacle_32 : decode cX3_passingObstacle 32 = .ok (.getfield 228, 3) := by decide +kernel
theorem dX3_passingObstacle_35 : decode cX3_passingObstacle 35 = .ok (.iadd, 1) := by decide +kernel
theorem dX3_passingObstacle_36 : decode cX3_passingObstacle 36 = .ok (.istore 5, 2) := by decide +kernel
theorem dX3_passingObstacle_38 : decode cX3_passingObstacle 38 = .ok (.aload 4, 2) := by decide +kernel
theorem dX3_passingObstacle_40 : decode cX3_passingObstacle 40 = .ok (.ifnull 15, 3) := by decide +kernel
theorem dX3_passingObstacle_43 : decode cX3_passingObstacle 43 = .ok (.aload 4, 2) := by decide +kernel
theorem dX3_passingObstacle_45 : decode cX3_passingObstacle 45 = .ok (.iload_n 3, 1) := by decide +kernel
theorem dX3_passingObstacle_46 : decode cX3_passingObstacle 46 = .ok (.iload 5, 2) := by decide +kernel
theorem dX3_passingObstacle_48 : decode cX3_passingObstacle 48 = .ok (.invokevirtual 256, 3) := by decide +kernel
theorem dX3_passingObstacle_51 : decode cX3_passingObstacle 51 = .ok (.iconst (-1), 1) := by decide +kernel
theorem dX3_passingObstacle_52 : decode cX3_passingObstacle 52 = .ok (.if_icmp .eq 6, 3) := by decide +kernel
theorem dX3_passingObstacle_55 : decode cX3_passingObstacle 55 = .ok (.bipush 104, 2) := by decide +kernel
theorem dX3_passingObstacle_57 : decode cX3_passingObstacle 57 = .ok (.ireturn, 1) := by decide +kernel
theorem dX3_passingObstacle_58 : decode cX3_passingObstacle 58 = .ok (.bipush 45, 2) := by decide +kernel
theorem dX3_passingObstacle_60 : decode cX3_passingObstacle 60 = .ok (.istore 6, 2) := by decide +kernel
theorem dX3_passingObstacle_62 : decode cX3_passingObstacle 62 = .ok (.aload_n 0, 1) := by decide +kernel
theorem dX3_passingObstacle_63 : decode cX3_passingObstacle 63 = .ok (.getfield 17, 3) := by decide +kernel
theorem dX3_passingObstacle_66 : decode cX3_passingObstacle 66 = .ok (.astore 7, 2) := by decide +kernel
theorem dX3_passingObstacle_68 : decode cX3_passingObstacle 68 = .ok (.aload 7, 2) := by decide +kernel
theorem dX3_passingObstacle_70 : decode cX3_passingObstacle 70 = .ok (.arraylength, 1) := by decide +kernel
theorem dX3_passingObstacle_71 : decode cX3_passingObstacle 71 = .ok (.istore 8, 2) := by decide +kernel
theorem dX3_passingObstacle_73 : decode cX3_passingObstacle 73 = .ok (.iconst 0, 1) := by decide +kernel
theorem dX3_passingObstacle_74 : decode cX3_passingObstacle 74 = .ok (.istore 9, 2) := by decide +kernel
theorem dX3_passingObstacle_76 : decode cX3_passingObstacle 76 = .ok (.iload 9, 2) := by decide +kernel
theorem dX3_passingObstacle_78 : decode cX3_passingObstacle 78 = .ok (.iload 8, 2) := by decide +kernel
theorem dX3_passingObstacle_80 : decode cX3_passingObstacle 80 = .ok (.if_icmp .ge 63, 3) := by decide +kernel
theorem dX3_passingObstacle_83 : decode cX3_passingObstacle 83 = .ok (.aload 7, 2) := by decide +kernel
theorem dX3_passingObstacle_85 : decode cX3_passingObstacle 85 = .ok (.iload 9, 2) := by decide +kernel
theorem dX3_passingObstacle_87 : decode cX3_passingObstacle 87 = .ok (.aaload, 1) := by decide +kernel
theorem dX3_passingObstacle_88 : decode cX3_passingObstacle 88 = .ok (.astore 10, 2) := by decide +kernel
theorem dX3_passingObstacle_90 : decode cX3_passingObstacle 90 = .ok (.aload 10, 2) := by decide +kernel
theorem dX3_passingObstacle_92 : decode cX3_passingObstacle 92 = .ok (.ifnull 45, 3) := by decide +kernel
theorem dX3_passingObstacle_95 : decode cX3_passingObstacle 95 = .ok (.aload 10, 2) := by decide +kernel
theorem dX3_passingObstacle_97 : decode cX3_passingObstacle 97 = .ok (.aload_n 1, 1) := by decide +kernel
theorem dX3_passingObstacle_98 : decode cX3_passingObstacle 98 = .ok (.if_acmp .eq 39, 3) := by decide +kernel
theorem dX3_passingObstacle_101 : decode cX3_passingObstacle 101 = .ok (.aload 10, 2) := by decide +kernel
theorem dX3_passingObstacle_103 : decode cX3_passingObstacle 103 = .ok (.iload_n 3, 1) := by decide +kernel
theorem dX3_passingObstacle_104 : decode cX3_passingObstacle 104 = .ok (.iload 5, 2) := by decide +kernel
theorem dX3_passingObstacle_106 : decode cX3_passingObstacle 106 = .ok (.invokevirtual 200, 3) := by decide +kernel
theorem dX3_passingObstacle_109 : decode cX3_passingObstacle 109 = .ok (.ifCond .eq 28, 3) := by decide +kernel
theorem dX3_passingObstacle_112 : decode cX3_passingObstacle 112 = .ok (.aload 10, 2) := by decide +kernel
theorem dX3_passingObstacle_114 : decode cX3_passingObstacle 114 = .ok (.getfield 182, 3) := by decide +kernel
theorem dX3_passingObstacle_117 : decode cX3_passingObstacle 117 = .ok (.iload_n 2, 1) := by decide +kernel
theorem dX3_passingObstacle_118 : decode cX3_passingObstacle 118 = .ok (.if_icmp .ne 6, 3) := by decide +kernel
theorem dX3_passingObstacle_121 : decode cX3_passingObstacle 121 = .ok (.bipush 99, 2) := by decide +kernel
theorem dX3_passingObstacle_123 : decode cX3_passingObstacle 123 = .ok (.ireturn, 1) := by decide +kernel
theorem dX3_passingObstacle_124 : decode cX3_passingObstacle 124 = .ok (.aload 10, 2) := by decide +kernel
theorem dX3_passingObstacle_126 : decode cX3_passingObstacle 126 = .ok (.aload_n 1, 1) := by decide +kernel
theorem dX3_passingObstacle_127 : decode cX3_passingObstacle 127 = .ok (.invokevirtual 189, 3) := by decide +kernel
theorem dX3_passingObstacle_130 : decode cX3_passingObstacle 130 = .ok (.ifCond .eq 7, 3) := by decide +kernel
theorem dX3_passingObstacle_133 : decode cX3_passingObstacle 133 = .ok (.bipush 97, 2) := by decide +kernel
theorem dX3_passingObstacle_135 : decode cX3_passingObstacle 135 = .ok (.istore 6, 2) := by decide +kernel
theorem dX3_passingObstacle_137 : decode cX3_passingObstacle 137 = .ok (.iinc 9 1, 3) := by decide +kernel
theorem dX3_passingObstacle_140 : decode cX3_passingObstacle 140 = .ok (.goto (-64), 3) := by decide +kernel
theorem dX3_passingObstacle_143 : decode cX3_passingObstacle 143 = .ok (.iload 6, 2) := by decide +kernel
theorem dX3_passingObstacle_145 : decode cX3_passingObstacle 145 = .ok (.ireturn, 1) := by decide +kernel
set_option maxRecDepth 20000 in
theorem ggX3_firstFit_X3_lastingObstacle : GoodIn wsX3_firstFit wsX3_lastingObstacle := goodIn_ca (goodIn_r _ [5, 6, 7, 8, 9, 4, 10, 11, 12, 13, 14, 15, 16, 17, 18, 19, 20, 21, 22, 23, 24, 25, 26, 27, 28, 29, 30, 31, 32, 33, 34, 35, 36, 37, 38, 39, 40, 41, 42, 43, 44, 45, 46, 89, 90, 91, 92, 93, 94, 95, 96, 97, 98, 99, 100, 101, 102, 103, 104, 105, 106, 107, 108, 109, 110, 111, 112, 113, 114, 115] (by decide +kernel) (by decide +kernel)) (goodIn_sub (fun _ h => List.mem_cons_of_mem _ (List.mem_append_right _ h)) (by decide +kernel))
set_option maxRecDepth 20000 in
theorem gX3_firstFit_X3_lastingObstacle : GoodIn wsX3_firstFit (wsV RX3 171 RX3 yX3_lastingObstacle wsX3_lastingObstacle) := goodIn_app (goodIn_of _ (by decide +kernel)) ggX3_firstFit_X3_lastingObstacle
set_option maxRecDepth 20000 in
theorem ggX3_firstFit_X3_nextFit : GoodIn wsX3_firstFit wsX3_nextFit := goodIn_r _ [50, 51, 7, 8, 9, 4, 10, 11, 52, 53, 54, 55, 56, 57, 58, 59, 60, 15, 61, 62, 63, 64, 65, 66, 67, 68, 69, 70, 71, 72, 73, 74, 75, 76, 77, 78, 79, 80, 81, 82, 83, 84, 85, 86, 87, 88, 99, 100, 101, 102, 103, 104, 105, 106, 107, 108, 109, 89, 90, 91, 92, 93, 94, 95, 96, 97, 98, 110, 111, 112, 113, 114, 115] (by decide +kernel) (by decide +kernel)
set_option maxRecDepth 20000 in
theorem gX3_firstFit_X3_nextFit : GoodIn wsX3_firstFit (wsV RX3 259 RX3 yX3_nextFit wsX3_nextFit) := goodIn_app (goodIn_of _ (by decide +kernel)) ggX3_firstFit_X3_nextFit
theorem dX3_firstFit_0 : decode cX3_firstFit 0 = .ok (.aload_n 0, 1) := by decide +kernel
theorem dX3_firstFit_1 : decode cX3_firstFit 1 = .ok (.aload_n 1, 1) := by decide +kernel
theorem dX3_firstFit_2 : decode cX3_firstFit 2 = .ok (.iload_n 2, 1) := by decide +kernel
theorem dX3_firstFit_3 : decode cX3_firstFit 3 = .ok (.invokevirtual 171, 3) := by decide +kernel
theorem dX3_firstFit_6 : decode cX3_firstFit 6 = .ok (.bipush 45, 2) := by decide +kernel
theorem dX3_firstFit_8 : decode cX3_firstFit 8 = .ok (.if_icmp .ne 13, 3) := by decide +kernel
theorem dX3_firstFit_11 : decode cX3_firstFit 11 = .ok (.aload_n 0, 1) := by decide +kernel
theorem dX3_firstFit_12 : decode cX3_firstFit 12 = .ok (.aload_n 1, 1) := by decide +kernel
theorem dX3_firstFit_13 : decode cX3_firstFit 13 = .ok (.iload_n 2, 1) := by decide +kernel
theorem dX3_firstFit_14 : decode cX3_firstFit 14 = .ok (.iload_n 3, 1) := by decide +kernel
theorem dX3_firstFit_15 : decode cX3_firstFit 15 = .ok (.invokevirtual 259, 3) := by decide +kernel
theorem dX3_firstFit_18 : decode cX3_firstFit 18 = .ok (.goto 4, 3) := by decide +kernel
theorem dX3_firstFit_21 : decode cX3_firstFit 21 = .ok (.iconst (-1), 1) := by decide +kernel
theorem dX3_firstFit_22 : decode cX3_firstFit 22 = .ok (.ireturn, 1) := by decide +kernel
set_option maxRecDepth 20000 in
theorem ggX3_nextFit_X3_craneNumbered : GoodIn wsX3_nextFit wsX3_craneNumbered := goodIn_r _ [6, 7, 57, 58, 59, 60, 61, 62, 63, 64, 65, 66] (by decide +kernel) (by decide +kernel)
set_option maxRecDepth 20000 in
theorem gX3_nextFit_X3_craneNumbered : GoodIn wsX3_nextFit (wsV RX3 55 RX3 yX3_craneNumbered wsX3_craneNumbered) := goodIn_app (goodIn_of _ (by decide +kernel)) ggX3_nextFit_X3_craneNumbered
set_option maxRecDepth 20000 in
theorem ggX3_nextFit_X3_behindObstacle : GoodIn wsX3_nextFit wsX3_behindObstacle := goodIn_r _ [11, 1, 12, 13, 14, 15, 16, 17, 18, 19, 20, 21, 22, 23, 24, 25, 26, 27, 28, 29, 30, 31, 32, 33, 34, 35, 36, 37, 38, 39, 40, 41, 42, 43, 44, 45, 46, 47, 48, 49, 50, 51, 52, 53, 54, 55, 56, 57, 58, 59, 60, 61, 62, 63, 64, 65, 66, 67, 68, 69, 70, 71, 72] (by decide +kernel) (by decide +kernel)
set_option maxRecDepth 20000 in
theorem gX3_nextFit_X3_behindObstacle : GoodIn wsX3_nextFit (wsV RX3 262 RX3 yX3_behindObstacle wsX3_behindObstacle) := goodIn_app (goodIn_of _ (by decide +kernel)) ggX3_nextFit_X3_behindObstacle
theorem dX3_nextFit_0 : decode cX3_nextFit 0 = .ok (.aload_n 0, 1) := by decide +kernel
theorem dX3_nextFit_1 : decode cX3_nextFit 1 = .ok (.iload_n 2, 1) := by decide +kernel
theorem dX3_nextFit_2 : decode cX3_nextFit 2 = .ok (.invokevirtual 55, 3) := by decide +kernel
theorem dX3_nextFit_5 : decode cX3_nextFit 5 = .ok (.astore 4, 2) := by decide +kernel
theorem dX3_nextFit_7 : decode cX3_nextFit 7 = .ok (.iload_n 3, 1) := by decide +kernel
theorem dX3_nextFit_8 : decode cX3_nextFit 8 = .ok (.istore 5, 2) := by decide +kernel
theorem dX3_nextFit_10 : decode cX3_nextFit 10 = .ok (.iconst 0, 1) := by decide +kernel
theorem dX3_nextFit_11 : decode cX3_nextFit 11 = .ok (.istore 6, 2) := by decide +kernel
theorem dX3_nextFit_13 : decode cX3_nextFit 13 = .ok (.iload 6, 2) := by decide +kernel
theorem dX3_nextFit_15 : decode cX3_nextFit 15 = .ok (.sipush 1440, 3) := by decide +kernel
theorem dX3_nextFit_18 : decode cX3_nextFit 18 = .ok (.if_icmp .gt 53, 3) := by decide +kernel
theorem dX3_nextFit_21 : decode cX3_nextFit 21 = .ok (.aload 4, 2) := by decide +kernel
theorem dX3_nextFit_23 : decode cX3_nextFit 23 = .ok (.ifnull 48, 3) := by decide +kernel
theorem dX3_nextFit_26 : decode cX3_nextFit 26 = .ok (.iload 5, 2) := by decide +kernel
theorem dX3_nextFit_28 : decode cX3_nextFit 28 = .ok (.sipush 1440, 3) := by decide +kernel
theorem dX3_nextFit_31 : decode cX3_nextFit 31 = .ok (.aload_n 1, 1) := by decide +kernel
theorem dX3_nextFit_32 : decode cX3_nextFit 32 = .ok (.getfield 228, 3) := by decide +kernel
theorem dX3_nextFit_35 : decode cX3_nextFit 35 = .ok (.isub, 1) := by decide +kernel
theorem dX3_nextFit_36 : decode cX3_nextFit 36 = .ok (.if_icmp .gt 35, 3) := by decide +kernel
theorem dX3_nextFit_39 : decode cX3_nextFit 39 = .ok (.aload_n 0, 1) := by decide +kernel
theorem dX3_nextFit_40 : decode cX3_nextFit 40 = .ok (.aload_n 1, 1) := by decide +kernel
theorem dX3_nextFit_41 : decode cX3_nextFit 41 = .ok (.iload_n 2, 1) := by decide +kernel
theorem dX3_nextFit_42 : decode cX3_nextFit 42 = .ok (.aload 4, 2) := by decide +kernel
theorem dX3_nextFit_44 : decode cX3_nextFit 44 = .ok (.iload 5, 2) := by decide +kernel
theorem dX3_nextFit_46 : decode cX3_nextFit 46 = .ok (.invokevirtual 262, 3) := by decide +kernel
theorem dX3_nextFit_49 : decode cX3_nextFit 49 = .ok (.istore 7, 2) := by decide +kernel
theorem dX3_nextFit_51 : decode cX3_nextFit 51 = .ok (.iload 7, 2) := by decide +kernel
theorem dX3_nextFit_53 : decode cX3_nextFit 53 = .ok (.iload 5, 2) := by decide +kernel
theorem dX3_nextFit_55 : decode cX3_nextFit 55 = .ok (.if_icmp .ne 6, 3) := by decide +kernel
theorem dX3_nextFit_58 : decode cX3_nextFit 58 = .ok (.iload 5, 2) := by decide +kernel
theorem dX3_nextFit_60 : decode cX3_nextFit 60 = .ok (.ireturn, 1) := by decide +kernel
theorem dX3_nextFit_61 : decode cX3_nextFit 61 = .ok (.iload 7, 2) := by decide +kernel
theorem dX3_nextFit_63 : decode cX3_nextFit 63 = .ok (.istore 5, 2) := by decide +kernel
theorem dX3_nextFit_65 : decode cX3_nextFit 65 = .ok (.iinc 6 1, 3) := by decide +kernel
theorem dX3_nextFit_68 : decode cX3_nextFit 68 = .ok (.goto (-55), 3) := by decide +kernel
theorem dX3_nextFit_71 : decode cX3_nextFit 71 = .ok (.iconst (-1), 1) := by decide +kernel
theorem dX3_nextFit_72 : decode cX3_nextFit 72 = .ok (.ireturn, 1) := by decide +kernel
set_option maxRecDepth 20000 in
theorem ggX3_behindObstacle_X0_lastClosedHour : GoodIn wsX3_behindObstacle wsX0_lastClosedHour := goodIn_r _ [8, 9, 10, 11, 7, 12, 13, 57, 58, 59, 60, 61, 62] (by decide +kernel) (by decide +kernel)
set_option maxRecDepth 20000 in
theorem gX3_behindObstacle_X0_lastClosedHour : GoodIn wsX3_behindObstacle (wsV RX3 256 RX0 yX0_lastClosedHour wsX0_lastClosedHour) := goodIn_app (goodIn_of _ (by decide +kernel)) ggX3_behindObstacle_X0_lastClosedHour
set_option maxRecDepth 20000 in
theorem ggX3_behindObstacle_X1_meets : GoodIn wsX3_behindObstacle wsX1_meets := goodIn_r _ [18, 19, 20, 21, 22, 17, 23, 24, 25, 26, 27, 28, 29, 36, 37, 38, 39, 40, 41, 42, 43, 44, 45, 46] (by decide +kernel) (by decide +kernel)
set_option maxRecDepth 20000 in
theorem gX3_behindObstacle_X1_meets : GoodIn wsX3_behindObstacle (wsV RX3 200 RX1 yX1_meets wsX1_meets) := goodIn_app (goodIn_of _ (by decide +kernel)) ggX3_behindObstacle_X1_meets
set_option maxRecDepth 20000 in
theorem ggX3_behindObstacle_X1_sharesAir : GoodIn wsX3_behindObstacle wsX1_sharesAir := goodIn_r _ [33, 34, 36, 37, 38, 39, 40, 41, 42, 43, 44, 45, 46] (by decide +kernel) (by decide +kernel)
set_option maxRecDepth 20000 in
theorem gX3_behindObstacle_X1_sharesAir : GoodIn wsX3_behindObstacle (wsV RX3 189 RX1 yX1_sharesAir wsX1_sharesAir) := goodIn_app (goodIn_of _ (by decide +kernel)) ggX3_behindObstacle_X1_sharesAir
set_option maxRecDepth 20000 in
theorem ggX3_behindObstacle_X1_end : GoodIn wsX3_behindObstacle wsX1_end := goodIn_r _ [28, 19, 29, 36, 37, 38, 39, 40, 41, 42, 43, 44, 45, 46] (by decide +kernel) (by decide +kernel)
set_option maxRecDepth 20000 in
theorem gX3_behindObstacle_X1_end : GoodIn wsX3_behindObstacle (wsV RX3 133 RX1 yX1_end wsX1_end) := goodIn_app (goodIn_of _ (by decide +kernel)) ggX3_behindObstacle_X1_end
theorem dX3_behindObstacle_0 : decode cX3_behindObstacle 0 = .ok (.iload 4, 2) := by decide +kernel
theorem dX3_behindObstacle_2 : decode cX3_behindObstacle 2 = .ok (.aload_n 1, 1) := by decide +kernel
theorem dX3_behindObstacle_3 : decode cX3_behindObstacle 3 = .ok (.getfield 228, 3) := by decide +kernel
theorem dX3_behindObstacle_6 : decode cX3_behindObstacle 6 = .ok (.iadd, 1) := by decide +kernel
theorem dX3_behindObstacle_7 : decode cX3_behindObstacle 7 = .ok (.istore 5, 2) := by decide +kernel
theorem dX3_behindObstacle_9 : decode cX3_behindObstacle 9 = .ok (.aload_n 3, 1) := by decide +kernel
theorem dX3_behindObstacle_10 : decode cX3_behindObstacle 10 = .ok (.iload 4, 2) := by decide +kernel
theorem dX3_behindObstacle_12 : decode cX3_behindObstacle 12 = .ok (.iload 5, 2) := by decide +kernel
theorem dX3_behindObstacle_14 : decode cX3_behindObstacle 14 = .ok (.invokevirtual 256, 3) := by decide +kernel
theorem dX3_behindObstacle_17 : decode cX3_behindObstacle 17 = .ok (.istore 6, 2) := by decide +kernel
theorem dX3_behindObstacle_19 : decode cX3_behindObstacle 19 = .ok (.iload 6, 2) := by decide +kernel
theorem dX3_behindObstacle_21 : decode cX3_behindObstacle 21 = .ok (.iconst (-1), 1) := by decide +kernel
theorem dX3_behindObstacle_22 : decode cX3_behindObstacle 22 = .ok (.if_icmp .eq 11, 3) := by decide +kernel
theorem dX3_behindObstacle_25 : decode cX3_behindObstacle 25 = .ok (.iload 6, 2) := by decide +kernel
theorem dX3_behindObstacle_27 : decode cX3_behindObstacle 27 = .ok (.iconst 1, 1) := by decide +kernel
theorem dX3_behindObstacle_28 : decode cX3_behindObstacle 28 = .ok (.iadd, 1) := by decide +kernel
theorem dX3_behindObstacle_29 : decode cX3_behindObstacle 29 = .ok (.bipush 60, 2) := by decide +kernel
theorem dX3_behindObstacle_31 : decode cX3_behindObstacle 31 = .ok (.imul, 1) := by decide +kernel
theorem dX3_behindObstacle_32 : decode cX3_behindObstacle 32 = .ok (.ireturn, 1) := by decide +kernel
theorem dX3_behindObstacle_33 : decode cX3_behindObstacle 33 = .ok (.aload_n 0, 1) := by decide +kernel
theorem dX3_behindObstacle_34 : decode cX3_behindObstacle 34 = .ok (.getfield 17, 3) := by decide +kernel
theorem dX3_behindObstacle_37 : decode cX3_behindObstacle 37 = .ok (.astore 7, 2) := by decide +kernel
theorem dX3_behindObstacle_39 : decode cX3_behindObstacle 39 = .ok (.aload 7, 2) := by decide +kernel
theorem dX3_behindObstacle_41 : decode cX3_behindObstacle 41 = .ok (.arraylength, 1) := by decide +kernel
theorem dX3_behindObstacle_42 : decode cX3_behindObstacle 42 = .ok (.istore 8, 2) := by decide +kernel
theorem dX3_behindObstacle_44 : decode cX3_behindObstacle 44 = .ok (.iconst 0, 1) := by decide +kernel
theorem dX3_behindObstacle_45 : decode cX3_behindObstacle 45 = .ok (.istore 9, 2) := by decide +kernel
theorem dX3_behindObstacle_47 : decode cX3_behindObstacle 47 = .ok (.iload 9, 2) := by decide +kernel
theorem dX3_behindObstacle_49 : decode cX3_behindObstacle 49 = .ok (.iload 8, 2) := by decide +kernel
theorem dX3_behindObstacle_51 : decode cX3_behindObstacle 51 = .ok (.if_icmp .ge 63, 3) := by decide +kernel
theorem dX3_behindObstacle_54 : decode cX3_behindObstacle 54 = .ok (.aload 7, 2) := by decide +kernel
theorem dX3_behindObstacle_56 : decode cX3_behindObstacle 56 = .ok (.iload 9, 2) := by decide +kernel
theorem dX3_behindObstacle_58 : decode cX3_behindObstacle 58 = .ok (.aaload, 1) := by decide +kernel
theorem dX3_behindObstacle_59 : decode cX3_behindObstacle 59 = .ok (.astore 10, 2) := by decide +kernel
theorem dX3_behindObstacle_61 : decode cX3_behindObstacle 61 = .ok (.aload 10, 2) := by decide +kernel
theorem dX3_behindObstacle_63 : decode cX3_behindObstacle 63 = .ok (.ifnull 45, 3) := by decide +kernel
theorem dX3_behindObstacle_66 : decode cX3_behindObstacle 66 = .ok (.aload 10, 2) := by decide +kernel
theorem dX3_behindObstacle_68 : decode cX3_behindObstacle 68 = .ok (.aload_n 1, 1) := by decide +kernel
theorem dX3_behindObstacle_69 : decode cX3_behindObstacle 69 = .ok (.if_acmp .eq 39, 3) := by decide +kernel
theorem dX3_behindObstacle_72 : decode cX3_behindObstacle 72 = .ok (.aload 10, 2) := by decide +kernel
theorem dX3_behindObstacle_74 : decode cX3_behindObstacle 74 = .ok (.iload 4, 2) := by decide +kernel
theorem dX3_behindObstacle_76 : decode cX3_behindObstacle 76 = .ok (.iload 5, 2) := by decide +kernel
theorem dX3_behindObstacle_78 : decode cX3_behindObstacle 78 = .ok (.invokevirtual 200, 3) := by decide +kernel
theorem dX3_behindObstacle_81 : decode cX3_behindObstacle 81 = .ok (.ifCond .eq 27, 3) := by decide +kernel
theorem dX3_behindObstacle_84 : decode cX3_behindObstacle 84 = .ok (.aload 10, 2) := by decide +kernel
theorem dX3_behindObstacle_86 : decode cX3_behindObstacle 86 = .ok (.getfield 182, 3) := by decide +kernel
theorem dX3_behindObstacle_89 : decode cX3_behindObstacle 89 = .ok (.iload_n 2, 1) := by decide +kernel
theorem dX3_behindObstacle_90 : decode cX3_behindObstacle 90 = .ok (.if_icmp .eq 12, 3) := by decide +kernel
theorem dX3_behindObstacle_93 : decode cX3_behindObstacle 93 = .ok (.aload 10, 2) := by decide +kernel
theorem dX3_behindObstacle_95 : decode cX3_behindObstacle 95 = .ok (.aload_n 1, 1) := by decide +kernel
theorem dX3_behindObstacle_96 : decode cX3_behindObstacle 96 = .ok (.invokevirtual 189, 3) := by decide +kernel
theorem dX3_behindObstacle_99 : decode cX3_behindObstacle 99 = .ok (.ifCond .eq 9, 3) := by decide +kernel
theorem dX3_behindObstacle_102 : decode cX3_behindObstacle 102 = .ok (.aload 10, 2) := by decide +kernel
theorem dX3_behindObstacle_104 : decode cX3_behindObstacle 104 = .ok (.invokevirtual 133, 3) := by decide +kernel
theorem dX3_behindObstacle_107 : decode cX3_behindObstacle 107 = .ok (.ireturn, 1) := by decide +kernel
theorem dX3_behindObstacle_108 : decode cX3_behindObstacle 108 = .ok (.iinc 9 1, 3) := by decide +kernel
theorem dX3_behindObstacle_111 : decode cX3_behindObstacle 111 = .ok (.goto (-64), 3) := by decide +kernel
theorem dX3_behindObstacle_114 : decode cX3_behindObstacle 114 = .ok (.iload 4, 2) := by decide +kernel
theorem dX3_behindObstacle_116 : decode cX3_behindObstacle 116 = .ok (.ireturn, 1) := by decide +kernel
set_option maxRecDepth 20000 in
theorem ggX3_findRowStarts_X3_liftNumbered : GoodIn wsX3_findRowStarts wsX3_liftNumbered := goodIn_r _ [7, 8, 109, 110, 111, 112, 113, 114, 115, 116, 117, 118] (by decide +kernel) (by decide +kernel)
set_option maxRecDepth 20000 in
theorem gX3_findRowStarts_X3_liftNumbered : GoodIn wsX3_findRowStarts (wsV RX3 104 RX3 yX3_liftNumbered wsX3_liftNumbered) := goodIn_app (goodIn_of _ (by decide +kernel)) ggX3_findRowStarts_X3_liftNumbered
set_option maxRecDepth 20000 in
theorem ggX3_findRowStarts_X3_firstFit : GoodIn wsX3_findRowStarts wsX3_firstFit := goodIn_ca (goodIn_r _ [12, 13, 14, 15, 6, 16, 17, 18, 19, 20, 21, 22, 23, 24, 25, 26, 27, 28, 29, 30, 31, 32, 33, 34, 35, 36, 37, 38, 39, 40, 41, 42, 43, 44, 45, 46, 47, 48, 49, 50, 51, 52, 53, 54, 55, 56, 57, 58, 59, 60, 61, 62, 63, 64, 65, 66, 8, 67, 68, 69, 70, 71, 72, 73, 74, 75, 76, 77, 78, 79, 80, 81, 82, 83, 84, 85, 86, 87, 88, 89, 90, 91, 92, 93, 94, 95, 96, 97, 98, 109, 110, 111, 112, 113, 114, 115, 116, 117, 118, 119, 120, 121, 122, 123, 124, 125, 126, 127, 128, 129, 130, 131, 132, 133, 134, 135] (by decide +kernel) (by decide +kernel)) (goodIn_sub (fun _ h => List.mem_cons_of_mem _ (List.mem_append_right _ h)) (by decide +kernel))
set_option maxRecDepth 20000 in
theorem gX3_findRowStarts_X3_firstFit : GoodIn wsX3_findRowStarts (wsV RX3 118 RX3 yX3_firstFit wsX3_firstFit) := goodIn_app (goodIn_of _ (by decide +kernel)) ggX3_findRowStarts_X3_firstFit
set_option maxRecDepth 20000 in
theorem ggX3_findRowStarts_X3_fillRowStarts : GoodIn wsX3_findRowStarts wsX3_fillRowStarts := goodIn_r _ [102, 103, 104, 62, 105, 58, 59, 60, 6, 61, 18, 19, 20, 21, 22, 63, 64, 65, 66, 8, 67, 68, 69, 70, 26, 71, 72, 73, 74, 75, 76, 77, 78, 79, 80, 81, 82, 83, 84, 85, 86, 87, 88, 89, 90, 91, 92, 93, 94, 95, 96, 97, 98, 106, 107, 108, 109, 110, 111, 112, 113, 114, 115, 116, 117, 118, 119, 120, 121, 122, 123, 124, 125, 126, 127, 128, 129, 130, 131, 132, 133, 134, 135] (by decide +kernel) (by decide +kernel)
set_option maxRecDepth 20000 in
theorem gX3_findRowStarts_X3_fillRowStarts : GoodIn wsX3_findRowStarts (wsV RX3 266 RX3 yX3_fillRowStarts wsX3_fillRowStarts) := goodIn_app (goodIn_of _ (by decide +kernel)) ggX3_findRowStarts_X3_fillRowStarts
set_option maxRecDepth 20000 in
theorem ggX3_findRowStarts_X3_nextFit : GoodIn wsX3_findRowStarts wsX3_nextFit := goodIn_r _ [61, 62, 18, 19, 20, 6, 21, 22, 63, 64, 65, 66, 8, 67, 68, 69, 70, 26, 71, 72, 73, 74, 75, 76, 77, 78, 79, 80, 81, 82, 83, 84, 85, 86, 87, 88, 89, 90, 91, 92, 93, 94, 95, 96, 97, 98, 119, 120, 121, 122, 123, 124, 125, 126, 127, 128, 129, 109, 110, 111, 112, 113, 114, 115, 116, 117, 118, 130, 131, 132, 133, 134, 135] (by decide +kernel) (by decide +kernel)
set_option maxRecDepth 20000 in
theorem gX3_findRowStarts_X3_nextFit : GoodIn wsX3_findRowStarts (wsV RX3 259 RX3 yX3_nextFit wsX3_nextFit) := goodIn_app (goodIn_of _ (by decide +kernel)) ggX3_findRowStarts_X3_nextFit
theorem dX3_findRowStarts_0 : decode cX3_findRowStarts 0 = .ok (.aload_n 0, 1) := by decide +kernel
theorem dX3_findRowStarts_1 : decode cX3_findRowStarts 1 = .ok (.aload_n 1, 1) := by decide +kernel
theorem dX3_findRowStarts_2 : decode cX3_findRowStarts 2 = .ok (.getfield 151, 3) := by decide +kernel
theorem dX3_findRowStarts_5 : decode cX3_findRowStarts 5 = .ok (.invokevirtual 104, 3) := by decide +kernel
theorem dX3_findRowStarts_8 : decode cX3_findRowStarts 8 = .ok (.astore_n 3, 1) := by decide +kernel
theorem dX3_findRowStarts_9 : decode cX3_findRowStarts 9 = .ok (.aload_n 3, 1) := by decide +kernel
theorem dX3_findRowStarts_10 : decode cX3_findRowStarts 10 = .ok (.ifnonnull 5, 3) := by decide +kernel
theorem dX3_findRowStarts_13 : decode cX3_findRowStarts 13 = .ok (.iconst 0, 1) := by decide +kernel
theorem dX3_findRowStarts_14 : decode cX3_findRowStarts 14 = .ok (.ireturn, 1) := by decide +kernel
theorem dX3_findRowStarts_15 : decode cX3_findRowStarts 15 = .ok (.aload_n 0, 1) := by decide +kernel
theorem dX3_findRowStarts_16 : decode cX3_findRowStarts 16 = .ok (.aload_n 3, 1) := by decide +kernel
theorem dX3_findRowStarts_17 : decode cX3_findRowStarts 17 = .ok (.iload_n 2, 1) := by decide +kernel
theorem dX3_findRowStarts_18 : decode cX3_findRowStarts 18 = .ok (.aload_n 0, 1) := by decide +kernel
theorem dX3_findRowStarts_19 : decode cX3_findRowStarts 19 = .ok (.getfield 115, 3) := by decide +kernel
theorem dX3_findRowStarts_22 : decode cX3_findRowStarts 22 = .ok (.invokevirtual 118, 3) := by decide +kernel
theorem dX3_findRowStarts_25 : decode cX3_findRowStarts 25 = .ok (.istore 4, 2) := by decide +kernel
theorem dX3_findRowStarts_27 : decode cX3_findRowStarts 27 = .ok (.iconst 0, 1) := by decide +kernel
theorem dX3_findRowStarts_28 : decode cX3_findRowStarts 28 = .ok (.istore 5, 2) := by decide +kernel
theorem dX3_findRowStarts_30 : decode cX3_findRowStarts 30 = .ok (.iload 5, 2) := by decide +kernel
theorem dX3_findRowStarts_32 : decode cX3_findRowStarts 32 = .ok (.sipush 1440, 3) := by decide +kernel
theorem dX3_findRowStarts_35 : decode cX3_findRowStarts 35 = .ok (.if_icmp .gt 41, 3) := by decide +kernel
theorem dX3_findRowStarts_38 : decode cX3_findRowStarts 38 = .ok (.iload 4, 2) := by decide +kernel
theorem dX3_findRowStarts_40 : decode cX3_findRowStarts 40 = .ok (.iconst (-1), 1) := by decide +kernel
theorem dX3_findRowStarts_41 : decode cX3_findRowStarts 41 = .ok (.if_icmp .eq 35, 3) := by decide +kernel
theorem dX3_findRowStarts_44 : decode cX3_findRowStarts 44 = .ok (.aload_n 0, 1) := by decide +kernel
theorem dX3_findRowStarts_45 : decode cX3_findRowStarts 45 = .ok (.aload_n 1, 1) := by decide +kernel
theorem dX3_findRowStarts_46 : decode cX3_findRowStarts 46 = .ok (.aload_n 3, 1) := by decide +kernel
theorem dX3_findRowStarts_47 : decode cX3_findRowStarts 47 = .ok (.iload_n 2, 1) := by decide +kernel
theorem dX3_findRowStarts_48 : decode cX3_findRowStarts 48 = .ok (.iload 4, 2) := by decide +kernel
theorem dX3_findRowStarts_50 : decode cX3_findRowStarts 50 = .ok (.invokevirtual 266, 3) := by decide +kernel
theorem dX3_findRowStarts_53 : decode cX3_findRowStarts 53 = .ok (.ifCond .eq 5, 3) := by decide +kernel
theorem dX3_findRowStarts_56 : decode cX3_findRowStarts 56 = .ok (.iconst 1, 1) := by decide +kernel
theorem dX3_findRowStarts_57 : decode cX3_findRowStarts 57 = .ok (.ireturn, 1) := by decide +kernel
theorem dX3_findRowStarts_58 : decode cX3_findRowStarts 58 = .ok (.aload_n 0, 1) := by decide +kernel
theorem dX3_findRowStarts_59 : decode cX3_findRowStarts 59 = .ok (.aload_n 3, 1) := by decide +kernel
theorem dX3_findRowStarts_60 : decode cX3_findRowStarts 60 = .ok (.iload_n 2, 1) := by decide +kernel
theorem dX3_findRowStarts_61 : decode cX3_findRowStarts 61 = .ok (.iload 4, 2) := by decide +kernel
theorem dX3_findRowStarts_63 : decode cX3_findRowStarts 63 = .ok (.iconst 1, 1) := by decide +kernel
theorem dX3_findRowStarts_64 : decode cX3_findRowStarts 64 = .ok (.iadd, 1) := by decide +kernel
theorem dX3_findRowStarts_65 : decode cX3_findRowStarts 65 = .ok (.invokevirtual 259, 3) := by decide +kernel
theorem dX3_findRowStarts_68 : decode cX3_findRowStarts 68 = .ok (.istore 4, 2) := by decide +kernel
theorem dX3_findRowStarts_70 : decode cX3_findRowStarts 70 = .ok (.iinc 5 1, 3) := by decide +kernel
theorem dX3_findRowStarts_73 : decode cX3_findRowStarts 73 = .ok (.goto (-43), 3) := by decide +kernel
theorem dX3_findRowStarts_76 : decode cX3_findRowStarts 76 = .ok (.iconst 0, 1) := by decide +kernel
theorem dX3_findRowStarts_77 : decode cX3_findRowStarts 77 = .ok (.ireturn, 1) := by decide +kernel
set_option maxRecDepth 20000 in
theorem ggX3_fillRowStarts_X3_nextFit : GoodIn wsX3_fillRowStarts wsX3_nextFit := goodIn_r _ [9, 3, 10, 11, 12, 8, 13, 14, 15, 16, 17, 18, 19, 20, 21, 22, 23, 24, 25, 26, 27, 28, 29, 30, 31, 32, 33, 34, 35, 36, 37, 38, 39, 40, 41, 42, 43, 44, 45, 46, 47, 48, 49, 50, 51, 52, 66, 67, 68, 69, 70, 71, 72, 73, 74, 75, 76, 56, 57, 58, 59, 60, 61, 62, 63, 64, 65, 77, 78, 79, 80, 81, 82] (by decide +kernel) (by decide +kernel)
set_option maxRecDepth 20000 in
theorem gX3_fillRowStarts_X3_nextFit : GoodIn wsX3_fillRowStarts (wsV RX3 259 RX3 yX3_nextFit wsX3_nextFit) := goodIn_app (goodIn_of _ (by decide +kernel)) ggX3_fillRowStarts_X3_nextFit
theorem dX3_fillRowStarts_0 : decode cX3_fillRowStarts 0 = .ok (.iload 4, 2) := by decide +kernel
theorem dX3_fillRowStarts_2 : decode cX3_fillRowStarts 2 = .ok (.istore 5, 2) := by decide +kernel
theorem dX3_fillRowStarts_4 : decode cX3_fillRowStarts 4 = .ok (.iconst 0, 1) := by decide +kernel
theorem dX3_fillRowStarts_5 : decode cX3_fillRowStarts 5 = .ok (.istore 6, 2) := by decide +kernel
theorem dX3_fillRowStarts_7 : decode cX3_fillRowStarts 7 = .ok (.iload 6, 2) := by decide +kernel
theorem dX3_fillRowStarts_9 : decode cX3_fillRowStarts 9 = .ok (.aload_n 1, 1) := by decide +kernel
theorem dX3_fillRowStarts_10 : decode cX3_fillRowStarts 10 = .ok (.getfield 144, 3) := by decide +kernel
theorem dX3_fillRowStarts_13 : decode cX3_fillRowStarts 13 = .ok (.if_icmp .ge 78, 3) := by decide +kernel
theorem dX3_fillRowStarts_16 : decode cX3_fillRowStarts 16 = .ok (.iload 6, 2) := by decide +kernel
theorem dX3_fillRowStarts_18 : decode cX3_fillRowStarts 18 = .ok (.aload_n 0, 1) := by decide +kernel
theorem dX3_fillRowStarts_19 : decode cX3_fillRowStarts 19 = .ok (.getfield 27, 3) := by decide +kernel
theorem dX3_fillRowStarts_22 : decode cX3_fillRowStarts 22 = .ok (.arraylength, 1) := by decide +kernel
theorem dX3_fillRowStarts_23 : decode cX3_fillRowStarts 23 = .ok (.if_icmp .ge 68, 3) := by decide +kernel
theorem dX3_fillRowStarts_26 : decode cX3_fillRowStarts 26 = .ok (.aload_n 0, 1) := by decide +kernel
theorem dX3_fillRowStarts_27 : decode cX3_fillRowStarts 27 = .ok (.getfield 27, 3) := by decide +kernel
theorem dX3_fillRowStarts_30 : decode cX3_fillRowStarts 30 = .ok (.iload 6, 2) := by decide +kernel
theorem dX3_fillRowStarts_32 : decode cX3_fillRowStarts 32 = .ok (.iload 5, 2) := by decide +kernel
theorem dX3_fillRowStarts_34 : decode cX3_fillRowStarts 34 = .ok (.iastore, 1) := by decide +kernel
theorem dX3_fillRowStarts_35 : decode cX3_fillRowStarts 35 = .ok (.iload 5, 2) := by decide +kernel
theorem dX3_fillRowStarts_37 : decode cX3_fillRowStarts 37 = .ok (.aload_n 2, 1) := by decide +kernel
theorem dX3_fillRowStarts_38 : decode cX3_fillRowStarts 38 = .ok (.getfield 228, 3) := by decide +kernel
theorem dX3_fillRowStarts_41 : decode cX3_fillRowStarts 41 = .ok (.iadd, 1) := by decide +kernel
theorem dX3_fillRowStarts_42 : decode cX3_fillRowStarts 42 = .ok (.istore 7, 2) := by decide +kernel
theorem dX3_fillRowStarts_44 : decode cX3_fillRowStarts 44 = .ok (.iload 6, 2) := by decide +kernel
theorem dX3_fillRowStarts_46 : decode cX3_fillRowStarts 46 = .ok (.iconst 1, 1) := by decide +kernel
theorem dX3_fillRowStarts_47 : decode cX3_fillRowStarts 47 = .ok (.iadd, 1) := by decide +kernel
theorem dX3_fillRowStarts_48 : decode cX3_fillRowStarts 48 = .ok (.aload_n 1, 1) := by decide +kernel
theorem dX3_fillRowStarts_49 : decode cX3_fillRowStarts 49 = .ok (.getfield 144, 3) := by decide +kernel
theorem dX3_fillRowStarts_52 : decode cX3_fillRowStarts 52 = .ok (.if_icmp .ge 33, 3) := by decide +kernel
theorem dX3_fillRowStarts_55 : decode cX3_fillRowStarts 55 = .ok (.aload_n 0, 1) := by decide +kernel
theorem dX3_fillRowStarts_56 : decode cX3_fillRowStarts 56 = .ok (.aload_n 2, 1) := by decide +kernel
theorem dX3_fillRowStarts_57 : decode cX3_fillRowStarts 57 = .ok (.iload_n 3, 1) := by decide +kernel
theorem dX3_fillRowStarts_58 : decode cX3_fillRowStarts 58 = .ok (.iload 7, 2) := by decide +kernel
theorem dX3_fillRowStarts_60 : decode cX3_fillRowStarts 60 = .ok (.invokevirtual 259, 3) := by decide +kernel
theorem dX3_fillRowStarts_63 : decode cX3_fillRowStarts 63 = .ok (.istore 5, 2) := by decide +kernel
theorem dX3_fillRowStarts_65 : decode cX3_fillRowStarts 65 = .ok (.iload 5, 2) := by decide +kernel
theorem dX3_fillRowStarts_67 : decode cX3_fillRowStarts 67 = .ok (.iconst (-1), 1) := by decide +kernel
theorem dX3_fillRowStarts_68 : decode cX3_fillRowStarts 68 = .ok (.if_icmp .eq 15, 3) := by decide +kernel
theorem dX3_fillRowStarts_71 : decode cX3_fillRowStarts 71 = .ok (.iload 5, 2) := by decide +kernel
theorem dX3_fillRowStarts_73 : decode cX3_fillRowStarts 73 = .ok (.iload 7, 2) := by decide +kernel
theorem dX3_fillRowStarts_75 : decode cX3_fillRowStarts 75 = .ok (.isub, 1) := by decide +kernel
theorem dX3_fillRowStarts_76 : decode cX3_fillRowStarts 76 = .ok (.aload_n 1, 1) := by decide +kernel
theorem dX3_fillRowStarts_77 : decode cX3_fillRowStarts 77 = .ok (.getfield 270, 3) := by decide +kernel
theorem dX3_fillRowStarts_80 : decode cX3_fillRowStarts 80 = .ok (.if_icmp .le 5, 3) := by decide +kernel
theorem dX3_fillRowStarts_83 : decode cX3_fillRowStarts 83 = .ok (.iconst 0, 1) := by decide +kernel
theorem dX3_fillRowStarts_84 : decode cX3_fillRowStarts 84 = .ok (.ireturn, 1) := by decide +kernel
theorem dX3_fillRowStarts_85 : decode cX3_fillRowStarts 85 = .ok (.iinc 6 1, 3) := by decide +kernel
theorem dX3_fillRowStarts_88 : decode cX3_fillRowStarts 88 = .ok (.goto (-81), 3) := by decide +kernel
theorem dX3_fillRowStarts_91 : decode cX3_fillRowStarts 91 = .ok (.iconst 1, 1) := by decide +kernel
theorem dX3_fillRowStarts_92 : decode cX3_fillRowStarts 92 = .ok (.ireturn, 1) := by decide +kernel
theorem dX3_countOfPour_0 : decode cX3_countOfPour 0 = .ok (.iconst 0, 1) := by decide +kernel
theorem dX3_countOfPour_1 : decode cX3_countOfPour 1 = .ok (.istore_n 3, 1) := by decide +kernel
theorem dX3_countOfPour_2 : decode cX3_countOfPour 2 = .ok (.aload_n 0, 1) := by decide +kernel
theorem dX3_countOfPour_3 : decode cX3_countOfPour 3 = .ok (.getfield 17, 3) := by decide +kernel
theorem dX3_countOfPour_6 : decode cX3_countOfPour 6 = .ok (.astore 4, 2) := by decide +kernel
theorem dX3_countOfPour_8 : decode cX3_countOfPour 8 = .ok (.aload 4, 2) := by decide +kernel
theorem dX3_countOfPour_10 : decode cX3_countOfPour 10 = .ok (.arraylength, 1) := by decide +kernel
theorem dX3_countOfPour_11 : decode cX3_countOfPour 11 = .ok (.istore 5, 2) := by decide +kernel
theorem dX3_countOfPour_13 : decode cX3_countOfPour 13 = .ok (.iconst 0, 1) := by decide +kernel
theorem dX3_countOfPour_14 : decode cX3_countOfPour 14 = .ok (.istore 6, 2) := by decide +kernel
theorem dX3_countOfPour_16 : decode cX3_countOfPour 16 = .ok (.iload 6, 2) := by decide +kernel
theorem dX3_countOfPour_18 : decode cX3_countOfPour 18 = .ok (.iload 5, 2) := by decide +kernel
theorem dX3_countOfPour_20 : decode cX3_countOfPour 20 = .ok (.if_icmp .ge 42, 3) := by decide +kernel
theorem dX3_countOfPour_23 : decode cX3_countOfPour 23 = .ok (.aload 4, 2) := by decide +kernel
theorem dX3_countOfPour_25 : decode cX3_countOfPour 25 = .ok (.iload 6, 2) := by decide +kernel
theorem dX3_countOfPour_27 : decode cX3_countOfPour 27 = .ok (.aaload, 1) := by decide +kernel
theorem dX3_countOfPour_28 : decode cX3_countOfPour 28 = .ok (.astore 7, 2) := by decide +kernel
theorem dX3_countOfPour_30 : decode cX3_countOfPour 30 = .ok (.aload 7, 2) := by decide +kernel
theorem dX3_countOfPour_32 : decode cX3_countOfPour 32 = .ok (.ifnull 24, 3) := by decide +kernel
theorem dX3_countOfPour_35 : decode cX3_countOfPour 35 = .ok (.aload 7, 2) := by decide +kernel
theorem dX3_countOfPour_37 : decode cX3_countOfPour 37 = .ok (.getfield 112, 3) := by decide +kernel
theorem dX3_countOfPour_40 : decode cX3_countOfPour 40 = .ok (.iload_n 1, 1) := by decide +kernel
theorem dX3_countOfPour_41 : decode cX3_countOfPour 41 = .ok (.if_icmp .ne 15, 3) := by decide +kernel
theorem dX3_countOfPour_44 : decode cX3_countOfPour 44 = .ok (.aload 7, 2) := by decide +kernel
theorem dX3_countOfPour_46 : decode cX3_countOfPour 46 = .ok (.getfield 108, 3) := by decide +kernel
theorem dX3_countOfPour_49 : decode cX3_countOfPour 49 = .ok (.iload_n 2, 1) := by decide +kernel
theorem dX3_countOfPour_50 : decode cX3_countOfPour 50 = .ok (.if_icmp .ne 6, 3) := by decide +kernel
theorem dX3_countOfPour_53 : decode cX3_countOfPour 53 = .ok (.iinc 3 1, 3) := by decide +kernel
theorem dX3_countOfPour_56 : decode cX3_countOfPour 56 = .ok (.iinc 6 1, 3) := by decide +kernel
theorem dX3_countOfPour_59 : decode cX3_countOfPour 59 = .ok (.goto (-43), 3) := by decide +kernel
theorem dX3_countOfPour_62 : decode cX3_countOfPour 62 = .ok (.iload_n 3, 1) := by decide +kernel
theorem dX3_countOfPour_63 : decode cX3_countOfPour 63 = .ok (.ireturn, 1) := by decide +kernel
set_option maxRecDepth 20000 in
theorem ggX3_takeBackUnfit_X3_stillFits : GoodIn wsX3_takeBackUnfit wsX3_stillFits := goodIn_ca (goodIn_r _ [7, 8, 9, 10, 11, 12, 13, 6, 14, 15, 16, 17, 18, 19, 20, 21, 22, 23, 24, 25, 26, 27, 28, 29, 30, 31, 32, 33, 34, 35, 36, 37, 38, 39, 40, 41, 42, 43, 44, 45, 46, 47, 48, 49, 50, 51, 52, 53, 54, 55, 56, 57, 74, 75, 76, 77, 78, 79, 80, 81, 82, 83, 84, 64, 65, 66, 67, 68, 69, 70, 71, 72, 73, 85, 86, 87, 88, 89, 90] (by decide +kernel) (by decide +kernel)) (goodIn_sub (fun _ h => List.mem_cons_of_mem _ (List.mem_append_right _ h)) (by decide +kernel))
set_option maxRecDepth 20000 in
theorem gX3_takeBackUnfit_X3_stillFits : GoodIn wsX3_takeBackUnfit (wsV RX3 273 RX3 yX3_stillFits wsX3_stillFits) := goodIn_app (goodIn_of _ (by decide +kernel)) ggX3_takeBackUnfit_X3_stillFits
set_option maxRecDepth 20000 in
theorem ggX3_takeBackUnfit_X1_takeBack : GoodIn wsX3_takeBackUnfit wsX1_takeBack := goodIn_r _ [61, 62, 63, 47, 74, 75, 76, 77, 78, 79, 80, 81, 82, 83, 84] (by decide +kernel) (by decide +kernel)
set_option maxRecDepth 20000 in
theorem gX3_takeBackUnfit_X1_takeBack : GoodIn wsX3_takeBackUnfit (wsV RX3 154 RX1 yX1_takeBack wsX1_takeBack) := goodIn_app (goodIn_of _ (by decide +kernel)) ggX3_takeBackUnfit_X1_takeBack
theorem dX3_takeBackUnfit_0 : decode cX3_takeBackUnfit 0 = .ok (.iconst 0, 1) := by decide +kernel
theorem dX3_takeBackUnfit_1 : decode cX3_takeBackUnfit 1 = .ok (.istore_n 1, 1) := by decide +kernel
theorem dX3_takeBackUnfit_2 : decode cX3_takeBackUnfit 2 = .ok (.aload_n 0, 1) := by decide +kernel
theorem dX3_takeBackUnfit_3 : decode cX3_takeBackUnfit 3 = .ok (.getfield 17, 3) := by decide +kernel
theorem dX3_takeBackUnfit_6 : decode cX3_takeBackUnfit 6 = .ok (.astore_n 2, 1) := by decide +kernel
theorem dX3_takeBackUnfit_7 : decode cX3_takeBackUnfit 7 = .ok (.aload_n 2, 1) := by decide +kernel
theorem dX3_takeBackUnfit_8 : decode cX3_takeBackUnfit 8 = .ok (.arraylength, 1) := by decide +kernel
theorem dX3_takeBackUnfit_9 : decode cX3_takeBackUnfit 9 = .ok (.istore_n 3, 1) := by decide +kernel
theorem dX3_takeBackUnfit_10 : decode cX3_takeBackUnfit 10 = .ok (.iconst 0, 1) := by decide +kernel
theorem dX3_takeBackUnfit_11 : decode cX3_takeBackUnfit 11 = .ok (.istore 4, 2) := by decide +kernel
theorem dX3_takeBackUnfit_13 : decode cX3_takeBackUnfit 13 = .ok (.iload 4, 2) := by decide +kernel
theorem dX3_takeBackUnfit_15 : decode cX3_takeBackUnfit 15 = .ok (.iload_n 3, 1) := by decide +kernel
theorem dX3_takeBackUnfit_16 : decode cX3_takeBackUnfit 16 = .ok (.if_icmp .ge 47, 3) := by decide +kernel
theorem dX3_takeBackUnfit_19 : decode cX3_takeBackUnfit 19 = .ok (.aload_n 2, 1) := by decide +kernel
theorem dX3_takeBackUnfit_20 : decode cX3_takeBackUnfit 20 = .ok (.iload 4, 2) := by decide +kernel
theorem dX3_takeBackUnfit_22 : decode cX3_takeBackUnfit 22 = .ok (.aaload, 1) := by decide +kernel
theorem dX3_takeBackUnfit_23 : decode cX3_takeBackUnfit 23 = .ok (.astore 5, 2) := by decide +kernel
theorem dX3_takeBackUnfit_25 : decode cX3_takeBackUnfit 25 = .ok (.aload 5, 2) := by decide +kernel
theorem dX3_takeBackUnfit_27 : decode cX3_takeBackUnfit 27 = .ok (.ifnull 30, 3) := by decide +kernel
theorem dX3_takeBackUnfit_30 : decode cX3_takeBackUnfit 30 = .ok (.aload 5, 2) := by decide +kernel
theorem dX3_takeBackUnfit_32 : decode cX3_takeBackUnfit 32 = .ok (.getfield 108, 3) := by decide +kernel
theorem dX3_takeBackUnfit_35 : decode cX3_takeBackUnfit 35 = .ok (.bipush 112, 2) := by decide +kernel
theorem dX3_takeBackUnfit_37 : decode cX3_takeBackUnfit 37 = .ok (.if_icmp .ne 20, 3) := by decide +kernel
theorem dX3_takeBackUnfit_40 : decode cX3_takeBackUnfit 40 = .ok (.aload_n 0, 1) := by decide +kernel
theorem dX3_takeBackUnfit_41 : decode cX3_takeBackUnfit 41 = .ok (.aload 5, 2) := by decide +kernel
theorem dX3_takeBackUnfit_43 : decode cX3_takeBackUnfit 43 = .ok (.invokevirtual 273, 3) := by decide +kernel
theorem dX3_takeBackUnfit_46 : decode cX3_takeBackUnfit 46 = .ok (.ifCond .ne 11, 3) := by decide +kernel
theorem dX3_takeBackUnfit_49 : decode cX3_takeBackUnfit 49 = .ok (.aload 5, 2) := by decide +kernel
theorem dX3_takeBackUnfit_51 : decode cX3_takeBackUnfit 51 = .ok (.invokevirtual 154, 3) := by decide +kernel
theorem dX3_takeBackUnfit_54 : decode cX3_takeBackUnfit 54 = .ok (.iinc 1 1, 3) := by decide +kernel
theorem dX3_takeBackUnfit_57 : decode cX3_takeBackUnfit 57 = .ok (.iinc 4 1, 3) := by decide +kernel
theorem dX3_takeBackUnfit_60 : decode cX3_takeBackUnfit 60 = .ok (.goto (-47), 3) := by decide +kernel
theorem dX3_takeBackUnfit_63 : decode cX3_takeBackUnfit 63 = .ok (.iload_n 1, 1) := by decide +kernel
theorem dX3_takeBackUnfit_64 : decode cX3_takeBackUnfit 64 = .ok (.ireturn, 1) := by decide +kernel
set_option maxRecDepth 20000 in
theorem ggX3_stillFits_X3_craneNumbered : GoodIn wsX3_stillFits wsX3_craneNumbered := goodIn_r _ [8, 9, 63, 64, 65, 66, 67, 68, 69, 70, 71, 72] (by decide +kernel) (by decide +kernel)
set_option maxRecDepth 20000 in
theorem gX3_stillFits_X3_craneNumbered : GoodIn wsX3_stillFits (wsV RX3 55 RX3 yX3_craneNumbered wsX3_craneNumbered) := goodIn_app (goodIn_of _ (by decide +kernel)) ggX3_stillFits_X3_craneNumbered
set_option maxRecDepth 20000 in
theorem ggX3_stillFits_X0_bearsAtEnds : GoodIn wsX3_stillFits wsX0_bearsAtEnds := goodIn_ca (goodIn_r _ [14, 15, 16, 17, 18, 19, 20, 21, 22, 13, 23, 24, 25, 26, 27, 28, 29, 30, 31, 32, 33, 34, 35, 52, 53, 54, 55, 56, 57, 58, 59, 60, 61, 62, 73, 74, 75, 76, 77, 78] (by decide +kernel) (by decide +kernel)) (goodIn_sub (fun _ h => List.mem_cons_of_mem _ (List.mem_append_right _ h)) (by decide +kernel))
set_option maxRecDepth 20000 in
theorem gX3_stillFits_X0_bearsAtEnds : GoodIn wsX3_stillFits (wsV RX3 252 RX0 yX0_bearsAtEnds wsX0_bearsAtEnds) := goodIn_app (goodIn_of _ (by decide +kernel)) ggX3_stillFits_X0_bearsAtEnds
set_option maxRecDepth 20000 in
theorem ggX3_stillFits_X1_end : GoodIn wsX3_stillFits wsX1_end := goodIn_r _ [40, 41, 42, 52, 53, 54, 55, 56, 57, 58, 59, 60, 61, 62] (by decide +kernel) (by decide +kernel)
set_option maxRecDepth 20000 in
theorem gX3_stillFits_X1_end : GoodIn wsX3_stillFits (wsV RX3 133 RX1 yX1_end wsX1_end) := goodIn_app (goodIn_of _ (by decide +kernel)) ggX3_stillFits_X1_end
set_option maxRecDepth 20000 in
theorem ggX3_stillFits_X0_lastClosedHour : GoodIn wsX3_stillFits wsX0_lastClosedHour := goodIn_r _ [46, 47, 48, 49, 13, 50, 51, 73, 74, 75, 76, 77, 78] (by decide +kernel) (by decide +kernel)
set_option maxRecDepth 20000 in
theorem gX3_stillFits_X0_lastClosedHour : GoodIn wsX3_stillFits (wsV RX3 256 RX0 yX0_lastClosedHour wsX0_lastClosedHour) := goodIn_app (goodIn_of _ (by decide +kernel)) ggX3_stillFits_X0_lastClosedHour
theorem dX3_stillFits_0 : decode cX3_stillFits 0 = .ok (.aload_n 0, 1) := by decide +kernel
theorem dX3_stillFits_1 : decode cX3_stillFits 1 = .ok (.aload_n 1, 1) := by decide +kernel
theorem dX3_stillFits_2 : decode cX3_stillFits 2 = .ok (.getfield 182, 3) := by decide +kernel
theorem dX3_stillFits_5 : decode cX3_stillFits 5 = .ok (.invokevirtual 55, 3) := by decide +kernel
theorem dX3_stillFits_8 : decode cX3_stillFits 8 = .ok (.astore_n 2, 1) := by decide +kernel
theorem dX3_stillFits_9 : decode cX3_stillFits 9 = .ok (.aload_n 2, 1) := by decide +kernel
theorem dX3_stillFits_10 : decode cX3_stillFits 10 = .ok (.ifnull 35, 3) := by decide +kernel
theorem dX3_stillFits_13 : decode cX3_stillFits 13 = .ok (.aload_n 2, 1) := by decide +kernel
theorem dX3_stillFits_14 : decode cX3_stillFits 14 = .ok (.aload_n 1, 1) := by decide +kernel
theorem dX3_stillFits_15 : decode cX3_stillFits 15 = .ok (.aload_n 0, 1) := by decide +kernel
theorem dX3_stillFits_16 : decode cX3_stillFits 16 = .ok (.getfield 82, 3) := by decide +kernel
theorem dX3_stillFits_19 : decode cX3_stillFits 19 = .ok (.invokevirtual 252, 3) := by decide +kernel
theorem dX3_stillFits_22 : decode cX3_stillFits 22 = .ok (.ifCond .eq 23, 3) := by decide +kernel
theorem dX3_stillFits_25 : decode cX3_stillFits 25 = .ok (.aload_n 2, 1) := by decide +kernel
theorem dX3_stillFits_26 : decode cX3_stillFits 26 = .ok (.aload_n 1, 1) := by decide +kernel
theorem dX3_stillFits_27 : decode cX3_stillFits 27 = .ok (.getfield 157, 3) := by decide +kernel
theorem dX3_stillFits_30 : decode cX3_stillFits 30 = .ok (.aload_n 1, 1) := by decide +kernel
theorem dX3_stillFits_31 : decode cX3_stillFits 31 = .ok (.invokevirtual 133, 3) := by decide +kernel
theorem dX3_stillFits_34 : decode cX3_stillFits 34 = .ok (.invokevirtual 256, 3) := by decide +kernel
theorem dX3_stillFits_37 : decode cX3_stillFits 37 = .ok (.iconst (-1), 1) := by decide +kernel
theorem dX3_stillFits_38 : decode cX3_stillFits 38 = .ok (.if_icmp .ne 7, 3) := by decide +kernel
theorem dX3_stillFits_41 : decode cX3_stillFits 41 = .ok (.iconst 1, 1) := by decide +kernel
theorem dX3_stillFits_42 : decode cX3_stillFits 42 = .ok (.goto 4, 3) := by decide +kernel
theorem dX3_stillFits_45 : decode cX3_stillFits 45 = .ok (.iconst 0, 1) := by decide +kernel
theorem dX3_stillFits_46 : decode cX3_stillFits 46 = .ok (.ireturn, 1) := by decide +kernel
set_option maxRecDepth 20000 in
theorem ggX3_countAllowedWork_X1_isOn : GoodIn wsX3_countAllowedWork wsX1_isOn := goodIn_r _ [7, 8, 9, 10, 11, 6, 12, 13, 36, 37, 38, 39, 40, 41, 42, 43, 44, 45, 46] (by decide +kernel) (by decide +kernel)
set_option maxRecDepth 20000 in
theorem gX3_countAllowedWork_X1_isOn : GoodIn wsX3_countAllowedWork (wsV RX3 197 RX1 yX1_isOn wsX1_isOn) := goodIn_app (goodIn_of _ (by decide +kernel)) ggX3_countAllowedWork_X1_isOn
set_option maxRecDepth 20000 in
theorem ggX3_countAllowedWork_X1_end : GoodIn wsX3_countAllowedWork wsX1_end := goodIn_r _ [17, 18, 19, 36, 37, 38, 39, 40, 41, 42, 43, 44, 45, 46] (by decide +kernel) (by decide +kernel)
set_option maxRecDepth 20000 in
theorem gX3_countAllowedWork_X1_end : GoodIn wsX3_countAllowedWork (wsV RX3 133 RX1 yX1_end wsX1_end) := goodIn_app (goodIn_of _ (by decide +kernel)) ggX3_countAllowedWork_X1_end
set_option maxRecDepth 20000 in
theorem ggX3_countAllowedWork_X0_hasHour : GoodIn wsX3_countAllowedWork wsX0_hasHour := goodIn_r _ [24, 25, 47, 48, 49, 50, 51, 52] (by decide +kernel) (by decide +kernel)
set_option maxRecDepth 20000 in
theorem gX3_countAllowedWork_X0_hasHour : GoodIn wsX3_countAllowedWork (wsV RX3 276 RX0 yX0_hasHour wsX0_hasHour) := goodIn_app (goodIn_of _ (by decide +kernel)) ggX3_countAllowedWork_X0_hasHour
theorem dX3_countAllowedWork_0 : decode cX3_countAllowedWork 0 = .ok (.iconst 0, 1) := by decide +kernel
theorem dX3_countAllowedWork_1 : decode cX3_countAllowedWork 1 = .ok (.istore_n 3, 1) := by decide +kernel
theorem dX3_countAllowedWork_2 : decode cX3_countAllowedWork 2 = .ok (.aload_n 0, 1) := by decide +kernel
theorem dX3_countAllowedWork_3 : decode cX3_countAllowedWork 3 = .ok (.getfield 17, 3) := by decide +kernel
theorem dX3_countAllowedWork_6 : decode cX3_countAllowedWork 6 = .ok (.astore 4, 2) := by decide +kernel
theorem dX3_countAllowedWork_8 : decode cX3_countAllowedWork 8 = .ok (.aload 4, 2) := by decide +kernel
theorem dX3_countAllowedWork_10 : decode cX3_countAllowedWork 10 = .ok (.arraylength, 1) := by decide +kernel
theorem dX3_countAllowedWork_11 : decode cX3_countAllowedWork 11 = .ok (.istore 5, 2) := by decide +kernel
theorem dX3_countAllowedWork_13 : decode cX3_countAllowedWork 13 = .ok (.iconst 0, 1) := by decide +kernel
theorem dX3_countAllowedWork_14 : decode cX3_countAllowedWork 14 = .ok (.istore 6, 2) := by decide +kernel
theorem dX3_countAllowedWork_16 : decode cX3_countAllowedWork 16 = .ok (.iload 6, 2) := by decide +kernel
theorem dX3_countAllowedWork_18 : decode cX3_countAllowedWork 18 = .ok (.iload 5, 2) := by decide +kernel
theorem dX3_countAllowedWork_20 : decode cX3_countAllowedWork 20 = .ok (.if_icmp .ge 68, 3) := by decide +kernel
theorem dX3_countAllowedWork_23 : decode cX3_countAllowedWork 23 = .ok (.aload 4, 2) := by decide +kernel
theorem dX3_countAllowedWork_25 : decode cX3_countAllowedWork 25 = .ok (.iload 6, 2) := by decide +kernel
theorem dX3_countAllowedWork_27 : decode cX3_countAllowedWork 27 = .ok (.aaload, 1) := by decide +kernel
theorem dX3_countAllowedWork_28 : decode cX3_countAllowedWork 28 = .ok (.astore 7, 2) := by decide +kernel
theorem dX3_countAllowedWork_30 : decode cX3_countAllowedWork 30 = .ok (.aload 7, 2) := by decide +kernel
theorem dX3_countAllowedWork_32 : decode cX3_countAllowedWork 32 = .ok (.ifnull 50, 3) := by decide +kernel
theorem dX3_countAllowedWork_35 : decode cX3_countAllowedWork 35 = .ok (.aload 7, 2) := by decide +kernel
theorem dX3_countAllowedWork_37 : decode cX3_countAllowedWork 37 = .ok (.iload_n 1, 1) := by decide +kernel
theorem dX3_countAllowedWork_38 : decode cX3_countAllowedWork 38 = .ok (.invokevirtual 197, 3) := by decide +kernel
theorem dX3_countAllowedWork_41 : decode cX3_countAllowedWork 41 = .ok (.ifCond .eq 41, 3) := by decide +kernel
theorem dX3_countAllowedWork_44 : decode cX3_countAllowedWork 44 = .ok (.aload 7, 2) := by decide +kernel
theorem dX3_countAllowedWork_46 : decode cX3_countAllowedWork 46 = .ok (.getfield 157, 3) := by decide +kernel
theorem dX3_countAllowedWork_49 : decode cX3_countAllowedWork 49 = .ok (.istore 8, 2) := by decide +kernel
theorem dX3_countAllowedWork_51 : decode cX3_countAllowedWork 51 = .ok (.iload 8, 2) := by decide +kernel
theorem dX3_countAllowedWork_53 : decode cX3_countAllowedWork 53 = .ok (.aload 7, 2) := by decide +kernel
theorem dX3_countAllowedWork_55 : decode cX3_countAllowedWork 55 = .ok (.invokevirtual 133, 3) := by decide +kernel
theorem dX3_countAllowedWork_58 : decode cX3_countAllowedWork 58 = .ok (.if_icmp .ge 24, 3) := by decide +kernel
theorem dX3_countAllowedWork_61 : decode cX3_countAllowedWork 61 = .ok (.aload_n 2, 1) := by decide +kernel
theorem dX3_countAllowedWork_62 : decode cX3_countAllowedWork 62 = .ok (.iload 8, 2) := by decide +kernel
theorem dX3_countAllowedWork_64 : decode cX3_countAllowedWork 64 = .ok (.bipush 60, 2) := by decide +kernel
theorem dX3_countAllowedWork_66 : decode cX3_countAllowedWork 66 = .ok (.idiv, 1) := by decide +kernel
theorem dX3_countAllowedWork_67 : decode cX3_countAllowedWork 67 = .ok (.invokevirtual 276, 3) := by decide +kernel
theorem dX3_countAllowedWork_70 : decode cX3_countAllowedWork 70 = .ok (.ifCond .eq 6, 3) := by decide +kernel
theorem dX3_countAllowedWork_73 : decode cX3_countAllowedWork 73 = .ok (.iinc 3 1, 3) := by decide +kernel
theorem dX3_countAllowedWork_76 : decode cX3_countAllowedWork 76 = .ok (.iinc 8 1, 3) := by decide +kernel
theorem dX3_countAllowedWork_79 : decode cX3_countAllowedWork 79 = .ok (.goto (-28), 3) := by decide +kernel
theorem dX3_countAllowedWork_82 : decode cX3_countAllowedWork 82 = .ok (.iinc 6 1, 3) := by decide +kernel
theorem dX3_countAllowedWork_85 : decode cX3_countAllowedWork 85 = .ok (.goto (-69), 3) := by decide +kernel
theorem dX3_countAllowedWork_88 : decode cX3_countAllowedWork 88 = .ok (.iload_n 3, 1) := by decide +kernel
theorem dX3_countAllowedWork_89 : decode cX3_countAllowedWork 89 = .ok (.ireturn, 1) := by decide +kernel
set_option maxRecDepth 20000 in
theorem ggX3_fillDayRow_J7_fill_53178 : GoodIn wsX3_fillDayRow wsJ7_fill_53178 := goodIn_r _ [11] (by decide +kernel) (by decide +kernel)
set_option maxRecDepth 20000 in
theorem gX3_fillDayRow_J7_fill_53178 : GoodIn wsX3_fillDayRow (va_wsS RX3 279 yJ7_fill_53178 wsJ7_fill_53178) := goodIn_app (goodIn_of _ (by decide +kernel)) ggX3_fillDayRow_J7_fill_53178
set_option maxRecDepth 20000 in
theorem ggX3_fillDayRow_X1_isOn : GoodIn wsX3_fillDayRow wsX1_isOn := goodIn_r _ [16, 17, 18, 19, 20, 15, 21, 22, 39, 40, 41, 42, 43, 44, 45, 46, 47, 48, 49] (by decide +kernel) (by decide +kernel)
set_option maxRecDepth 20000 in
theorem gX3_fillDayRow_X1_isOn : GoodIn wsX3_fillDayRow (wsV RX3 197 RX1 yX1_isOn wsX1_isOn) := goodIn_app (goodIn_of _ (by decide +kernel)) ggX3_fillDayRow_X1_isOn
set_option maxRecDepth 20000 in
theorem ggX3_fillDayRow_X1_end : GoodIn wsX3_fillDayRow wsX1_end := goodIn_r _ [26, 27, 28, 39, 40, 41, 42, 43, 44, 45, 46, 47, 48, 49] (by decide +kernel) (by decide +kernel)
set_option maxRecDepth 20000 in
theorem gX3_fillDayRow_X1_end : GoodIn wsX3_fillDayRow (wsV RX3 133 RX1 yX1_end wsX1_end) := goodIn_app (goodIn_of _ (by decide +kernel)) ggX3_fillDayRow_X1_end
theorem dX3_fillDayRow_0 : decode cX3_fillDayRow 0 = .ok (.aload_n 0, 1) := by decide +kernel
theorem dX3_fillDayRow_1 : decode cX3_fillDayRow 1 = .ok (.getfield 31, 3) := by decide +kernel
theorem dX3_fillDayRow_4 : decode cX3_fillDayRow 4 = .ok (.iconst (-1), 1) := by decide +kernel
theorem dX3_fillDayRow_5 : decode cX3_fillDayRow 5 = .ok (.invokestatic 279, 3) := by decide +kernel
theorem dX3_fillDayRow_8 : decode cX3_fillDayRow 8 = .ok (.iconst 0, 1) := by decide +kernel
theorem dX3_fillDayRow_9 : decode cX3_fillDayRow 9 = .ok (.istore_n 2, 1) := by decide +kernel
theorem dX3_fillDayRow_10 : decode cX3_fillDayRow 10 = .ok (.iload_n 2, 1) := by decide +kernel
theorem dX3_fillDayRow_11 : decode cX3_fillDayRow 11 = .ok (.aload_n 0, 1) := by decide +kernel
theorem dX3_fillDayRow_12 : decode cX3_fillDayRow 12 = .ok (.getfield 17, 3) := by decide +kernel
theorem dX3_fillDayRow_15 : decode cX3_fillDayRow 15 = .ok (.arraylength, 1) := by decide +kernel
theorem dX3_fillDayRow_16 : decode cX3_fillDayRow 16 = .ok (.if_icmp .ge 71, 3) := by decide +kernel
theorem dX3_fillDayRow_19 : decode cX3_fillDayRow 19 = .ok (.aload_n 0, 1) := by decide +kernel
theorem dX3_fillDayRow_20 : decode cX3_fillDayRow 20 = .ok (.getfield 17, 3) := by decide +kernel
theorem dX3_fillDayRow_23 : decode cX3_fillDayRow 23 = .ok (.iload_n 2, 1) := by decide +kernel
theorem dX3_fillDayRow_24 : decode cX3_fillDayRow 24 = .ok (.aaload, 1) := by decide +kernel
theorem dX3_fillDayRow_25 : decode cX3_fillDayRow 25 = .ok (.astore_n 3, 1) := by decide +kernel
theorem dX3_fillDayRow_26 : decode cX3_fillDayRow 26 = .ok (.aload_n 3, 1) := by decide +kernel
theorem dX3_fillDayRow_27 : decode cX3_fillDayRow 27 = .ok (.ifnull 54, 3) := by decide +kernel
theorem dX3_fillDayRow_30 : decode cX3_fillDayRow 30 = .ok (.aload_n 3, 1) := by decide +kernel
theorem dX3_fillDayRow_31 : decode cX3_fillDayRow 31 = .ok (.iload_n 1, 1) := by decide +kernel
theorem dX3_fillDayRow_32 : decode cX3_fillDayRow 32 = .ok (.invokevirtual 197, 3) := by decide +kernel
theorem dX3_fillDayRow_35 : decode cX3_fillDayRow 35 = .ok (.ifCond .eq 46, 3) := by decide +kernel
theorem dX3_fillDayRow_38 : decode cX3_fillDayRow 38 = .ok (.iconst 0, 1) := by decide +kernel
theorem dX3_fillDayRow_39 : decode cX3_fillDayRow 39 = .ok (.aload_n 3, 1) := by decide +kernel
theorem dX3_fillDayRow_40 : decode cX3_fillDayRow 40 = .ok (.getfield 157, 3) := by decide +kernel
theorem dX3_fillDayRow_43 : decode cX3_fillDayRow 43 = .ok (.invokestatic 223, 3) := by decide +kernel
theorem dX3_fillDayRow_46 : decode cX3_fillDayRow 46 = .ok (.istore 4, 2) := by decide +kernel
theorem dX3_fillDayRow_48 : decode cX3_fillDayRow 48 = .ok (.iload 4, 2) := by decide +kernel
theorem dX3_fillDayRow_50 : decode cX3_fillDayRow 50 = .ok (.aload_n 3, 1) := by decide +kernel
theorem dX3_fillDayRow_51 : decode cX3_fillDayRow 51 = .ok (.invokevirtual 133, 3) := by decide +kernel
theorem dX3_fillDayRow_54 : decode cX3_fillDayRow 54 = .ok (.if_icmp .ge 27, 3) := by decide +kernel
theorem dX3_fillDayRow_57 : decode cX3_fillDayRow 57 = .ok (.iload 4, 2) := by decide +kernel
theorem dX3_fillDayRow_59 : decode cX3_fillDayRow 59 = .ok (.aload_n 0, 1) := by decide +kernel
theorem dX3_fillDayRow_60 : decode cX3_fillDayRow 60 = .ok (.getfield 31, 3) := by decide +kernel
theorem dX3_fillDayRow_63 : decode cX3_fillDayRow 63 = .ok (.arraylength, 1) := by decide +kernel
theorem dX3_fillDayRow_64 : decode cX3_fillDayRow 64 = .ok (.if_icmp .ge 17, 3) := by decide +kernel
theorem dX3_fillDayRow_67 : decode cX3_fillDayRow 67 = .ok (.aload_n 0, 1) := by decide +kernel
theorem dX3_fillDayRow_68 : decode cX3_fillDayRow 68 = .ok (.getfield 31, 3) := by decide +kernel
theorem dX3_fillDayRow_71 : decode cX3_fillDayRow 71 = .ok (.iload 4, 2) := by decide +kernel
theorem dX3_fillDayRow_73 : decode cX3_fillDayRow 73 = .ok (.iload_n 2, 1) := by decide +kernel
theorem dX3_fillDayRow_74 : decode cX3_fillDayRow 74 = .ok (.iastore, 1) := by decide +kernel
theorem dX3_fillDayRow_75 : decode cX3_fillDayRow 75 = .ok (.iinc 4 1, 3) := by decide +kernel
theorem dX3_fillDayRow_78 : decode cX3_fillDayRow 78 = .ok (.goto (-30), 3) := by decide +kernel
theorem dX3_fillDayRow_81 : decode cX3_fillDayRow 81 = .ok (.iinc 2 1, 3) := by decide +kernel
theorem dX3_fillDayRow_84 : decode cX3_fillDayRow 84 = .ok (.goto (-74), 3) := by decide +kernel
theorem dX3_fillDayRow_87 : decode cX3_fillDayRow 87 = .ok (.return_, 1) := by decide +kernel
set_option maxRecDepth 20000 in
theorem ggX3_airInMinute_X1_meets : GoodIn wsX3_airInMinute wsX1_meets := goodIn_r _ [7, 8, 9, 10, 11, 6, 12, 13, 14, 15, 16, 17, 18, 29, 30, 31, 32, 33, 34, 35, 36, 37, 38, 39] (by decide +kernel) (by decide +kernel)
set_option maxRecDepth 20000 in
theorem gX3_airInMinute_X1_meets : GoodIn wsX3_airInMinute (wsV RX3 200 RX1 yX1_meets wsX1_meets) := goodIn_app (goodIn_of _ (by decide +kernel)) ggX3_airInMinute_X1_meets
theorem dX3_airInMinute_0 : decode cX3_airInMinute 0 = .ok (.lconst 0, 1) := by decide +kernel
theorem dX3_airInMinute_1 : decode cX3_airInMinute 1 = .ok (.lstore_n 2, 1) := by decide +kernel
theorem dX3_airInMinute_2 : decode cX3_airInMinute 2 = .ok (.aload_n 0, 1) := by decide +kernel
theorem dX3_airInMinute_3 : decode cX3_airInMinute 3 = .ok (.getfield 17, 3) := by decide +kernel
theorem dX3_airInMinute_6 : decode cX3_airInMinute 6 = .ok (.astore 4, 2) := by decide +kernel
theorem dX3_airInMinute_8 : decode cX3_airInMinute 8 = .ok (.aload 4, 2) := by decide +kernel
theorem dX3_airInMinute_10 : decode cX3_airInMinute 10 = .ok (.arraylength, 1) := by decide +kernel
theorem dX3_airInMinute_11 : decode cX3_airInMinute 11 = .ok (.istore 5, 2) := by decide +kernel
theorem dX3_airInMinute_13 : decode cX3_airInMinute 13 = .ok (.iconst 0, 1) := by decide +kernel
theorem dX3_airInMinute_14 : decode cX3_airInMinute 14 = .ok (.istore 6, 2) := by decide +kernel
theorem dX3_airInMinute_16 : decode cX3_airInMinute 16 = .ok (.iload 6, 2) := by decide +kernel
theorem dX3_airInMinute_18 : decode cX3_airInMinute 18 = .ok (.iload 5, 2) := by decide +kernel
theorem dX3_airInMinute_20 : decode cX3_airInMinute 20 = .ok (.if_icmp .ge 41, 3) := by decide +kernel
theorem dX3_airInMinute_23 : decode cX3_airInMinute 23 = .ok (.aload 4, 2) := by decide +kernel
theorem dX3_airInMinute_25 : decode cX3_airInMinute 25 = .ok (.iload 6, 2) := by decide +kernel
theorem dX3_airInMinute_27 : decode cX3_airInMinute 27 = .ok (.aaload, 1) := by decide +kernel
theorem dX3_airInMinute_28 : decode cX3_airInMinute 28 = .ok (.astore 7, 2) := by decide +kernel
theorem dX3_airInMinute_30 : decode cX3_airInMinute 30 = .ok (.aload 7, 2) := by decide +kernel
theorem dX3_airInMinute_32 : decode cX3_airInMinute 32 = .ok (.ifnull 23, 3) := by decide +kernel
theorem dX3_airInMinute_35 : decode cX3_airInMinute 35 = .ok (.aload 7, 2) := by decide +kernel
theorem dX3_airInMinute_37 : decode cX3_airInMinute 37 = .ok (.iload_n 1, 1) := by decide +kernel
theorem dX3_airInMinute_38 : decode cX3_airInMinute 38 = .ok (.iload_n 1, 1) := by decide +kernel
theorem dX3_airInMinute_39 : decode cX3_airInMinute 39 = .ok (.iconst 1, 1) := by decide +kernel
theorem dX3_airInMinute_40 : decode cX3_airInMinute 40 = .ok (.iadd, 1) := by decide +kernel
theorem dX3_airInMinute_41 : decode cX3_airInMinute 41 = .ok (.invokevirtual 200, 3) := by decide +kernel
theorem dX3_airInMinute_44 : decode cX3_airInMinute 44 = .ok (.ifCond .eq 11, 3) := by decide +kernel
theorem dX3_airInMinute_47 : decode cX3_airInMinute 47 = .ok (.lload_n 2, 1) := by decide +kernel
theorem dX3_airInMinute_48 : decode cX3_airInMinute 48 = .ok (.aload 7, 2) := by decide +kernel
theorem dX3_airInMinute_50 : decode cX3_airInMinute 50 = .ok (.getfield 185, 3) := by decide +kernel
theorem dX3_airInMinute_53 : decode cX3_airInMinute 53 = .ok (.lor, 1) := by decide +kernel
theorem dX3_airInMinute_54 : decode cX3_airInMinute 54 = .ok (.lstore_n 2, 1) := by decide +kernel
theorem dX3_airInMinute_55 : decode cX3_airInMinute 55 = .ok (.iinc 6 1, 3) := by decide +kernel
theorem dX3_airInMinute_58 : decode cX3_airInMinute 58 = .ok (.goto (-42), 3) := by decide +kernel
theorem dX3_airInMinute_61 : decode cX3_airInMinute 61 = .ok (.lload_n 2, 1) := by decide +kernel
theorem dX3_airInMinute_62 : decode cX3_airInMinute 62 = .ok (.lreturn, 1) := by decide +kernel
