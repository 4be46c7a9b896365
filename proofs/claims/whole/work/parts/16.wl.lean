theorem dL_addCrane_0 : decode cL_addCrane 0 = .ok (.aload 6, 2) := by decide +kernel
theorem dL_addCrane_2 : decode cL_addCrane 2 = .ok (.iconst 0, 1) := by decide +kernel
theorem dL_addCrane_3 : decode cL_addCrane 3 = .ok (.aload_n 0, 1) := by decide +kernel
theorem dL_addCrane_4 : decode cL_addCrane 4 = .ok (.iload_n 1, 1) := by decide +kernel
theorem dL_addCrane_5 : decode cL_addCrane 5 = .ok (.iload_n 2, 1) := by decide +kernel
theorem dL_addCrane_6 : decode cL_addCrane 6 = .ok (.iload_n 3, 1) := by decide +kernel
theorem dL_addCrane_7 : decode cL_addCrane 7 = .ok (.iload 4, 2) := by decide +kernel
theorem dL_addCrane_9 : decode cL_addCrane 9 = .ok (.iload 5, 2) := by decide +kernel
theorem dL_addCrane_11 : decode cL_addCrane 11 = .ok (.invokevirtual 7, 3) := by decide +kernel
theorem dL_addCrane_14 : decode cL_addCrane 14 = .ok (.i2l, 1) := by decide +kernel
theorem dL_addCrane_15 : decode cL_addCrane 15 = .ok (.lastore, 1) := by decide +kernel
theorem dL_addCrane_16 : decode cL_addCrane 16 = .ok (.goto 11, 3) := by decide +kernel
theorem dL_addCrane_19 : decode cL_addCrane 19 = .ok (.astore 7, 2) := by decide +kernel
theorem dL_addCrane_21 : decode cL_addCrane 21 = .ok (.iconst 1, 1) := by decide +kernel
theorem dL_addCrane_22 : decode cL_addCrane 22 = .ok (.ireturn, 1) := by decide +kernel
theorem dL_addCrane_23 : decode cL_addCrane 23 = .ok (.astore 7, 2) := by decide +kernel
theorem dL_addCrane_25 : decode cL_addCrane 25 = .ok (.iconst 2, 1) := by decide +kernel
theorem dL_addCrane_26 : decode cL_addCrane 26 = .ok (.ireturn, 1) := by decide +kernel
theorem dL_addCrane_27 : decode cL_addCrane 27 = .ok (.iconst 0, 1) := by decide +kernel
theorem dL_addCrane_28 : decode cL_addCrane 28 = .ok (.ireturn, 1) := by decide +kernel
set_option maxRecDepth 20000 in
theorem ggL_permit_X3_permit : GoodIn wsL_permit wsX3_permit := goodIn_ca (goodIn_ca (goodIn_r _ [7, 8, 9, 10, 11, 12, 13, 14, 15, 6, 16, 17, 18, 19, 20, 21, 22, 23, 24, 25, 26, 27, 28, 29, 30, 31, 32, 33, 34, 35, 36, 37, 38, 39, 40, 41, 42, 43, 44, 45, 46, 47, 48, 49] (by decide +kernel) (by decide +kernel)) (goodIn_sub (fun _ h => List.mem_cons_of_mem _ (List.mem_append_left _ (List.mem_append_right _ h))) (by decide +kernel))) (goodIn_sub (fun _ h => List.mem_cons_of_mem _ (List.mem_append_right _ h)) (by decide +kernel))
set_option maxRecDepth 20000 in
theorem gL_permit_X3_permit : GoodIn wsL_permit (wsV RL 17 RX3 yX3_permit wsX3_permit) := goodIn_app (goodIn_of _ (by decide +kernel)) ggL_permit_X3_permit
theorem dL_permit_0 : decode cL_permit 0 = .ok (.aload 4, 2) := by decide +kernel
theorem dL_permit_2 : decode cL_permit 2 = .ok (.iconst 0, 1) := by decide +kernel
theorem dL_permit_3 : decode cL_permit 3 = .ok (.aload_n 0, 1) := by decide +kernel
theorem dL_permit_4 : decode cL_permit 4 = .ok (.iload_n 1, 1) := by decide +kernel
theorem dL_permit_5 : decode cL_permit 5 = .ok (.iload_n 2, 1) := by decide +kernel
theorem dL_permit_6 : decode cL_permit 6 = .ok (.iload_n 3, 1) := by decide +kernel
theorem dL_permit_7 : decode cL_permit 7 = .ok (.invokevirtual 17, 3) := by decide +kernel
theorem dL_permit_10 : decode cL_permit 10 = .ok (.i2l, 1) := by decide +kernel
theorem dL_permit_11 : decode cL_permit 11 = .ok (.lastore, 1) := by decide +kernel
theorem dL_permit_12 : decode cL_permit 12 = .ok (.goto 11, 3) := by decide +kernel
theorem dL_permit_15 : decode cL_permit 15 = .ok (.astore 5, 2) := by decide +kernel
theorem dL_permit_17 : decode cL_permit 17 = .ok (.iconst 1, 1) := by decide +kernel
theorem dL_permit_18 : decode cL_permit 18 = .ok (.ireturn, 1) := by decide +kernel
theorem dL_permit_19 : decode cL_permit 19 = .ok (.astore 5, 2) := by decide +kernel
theorem dL_permit_21 : decode cL_permit 21 = .ok (.iconst 2, 1) := by decide +kernel
theorem dL_permit_22 : decode cL_permit 22 = .ok (.ireturn, 1) := by decide +kernel
theorem dL_permit_23 : decode cL_permit 23 = .ok (.iconst 0, 1) := by decide +kernel
theorem dL_permit_24 : decode cL_permit 24 = .ok (.ireturn, 1) := by decide +kernel
set_option maxRecDepth 20000 in
theorem ggL_endPermit_X3_endPermit : GoodIn wsL_endPermit wsX3_endPermit := goodIn_ca (goodIn_ca (goodIn_ca (goodIn_r _ [7, 8, 9, 10, 11, 12, 13, 14, 15, 6, 16, 17, 18, 19, 20, 21, 22, 23, 24, 25, 26, 27, 28, 29, 30, 31, 32, 33, 34, 35, 36, 37, 38, 39, 40, 41, 42, 43, 44, 45, 46, 47, 48, 49, 50, 51, 52, 53, 54, 55, 56, 57, 58, 59, 60, 61, 62, 63, 64, 65, 66, 67, 68, 69, 70, 71, 72, 73, 74, 75, 76, 77, 78, 79, 80, 81, 82, 83, 84, 85, 86, 87, 88, 89, 90, 91, 92, 93, 94, 95, 96, 97, 98, 99, 100, 101, 102, 103, 104, 105, 106, 107, 108, 109, 110, 111, 112, 113, 114] (by decide +kernel) (by decide +kernel)) (goodIn_sub (fun _ h => List.mem_cons_of_mem _ (List.mem_append_left _ (List.mem_append_left _ (List.mem_append_right _ h)))) (by decide +kernel))) (goodIn_sub (fun _ h => List.mem_cons_of_mem _ (List.mem_append_left _ (List.mem_append_right _ h))) (by decide +kernel))) (goodIn_sub (fun _ h => List.mem_cons_of_mem _ (List.mem_append_right _ h)) (by decide +kernel))
set_option maxRecDepth 20000 in
theorem gL_endPermit_X3_endPermit : GoodIn wsL_endPermit (wsV RL 23 RX3 yX3_endPermit wsX3_endPermit) := goodIn_app (goodIn_of _ (by decide +kernel)) ggL_endPermit_X3_endPermit
theorem dL_endPermit_0 : decode cL_endPermit 0 = .ok (.aload 4, 2) := by decide +kernel
theorem dL_endPermit_2 : decode cL_endPermit 2 = .ok (.iconst 0, 1) := by decide +kernel
theorem dL_endPermit_3 : decode cL_endPermit 3 = .ok (.aload_n 0, 1) := by decide +kernel
theorem dL_endPermit_4 : decode cL_endPermit 4 = .ok (.iload_n 1, 1) := by decide +kernel
theorem dL_endPermit_5 : decode cL_endPermit 5 = .ok (.iload_n 2, 1) := by decide +kernel
theorem dL_endPermit_6 : decode cL_endPermit 6 = .ok (.iload_n 3, 1) := by decide +kernel
theorem dL_endPermit_7 : decode cL_endPermit 7 = .ok (.invokevirtual 23, 3) := by decide +kernel
theorem dL_endPermit_10 : decode cL_endPermit 10 = .ok (.i2l, 1) := by decide +kernel
theorem dL_endPermit_11 : decode cL_endPermit 11 = .ok (.lastore, 1) := by decide +kernel
theorem dL_endPermit_12 : decode cL_endPermit 12 = .ok (.goto 11, 3) := by decide +kernel
theorem dL_endPermit_15 : decode cL_endPermit 15 = .ok (.astore 5, 2) := by decide +kernel
theorem dL_endPermit_17 : decode cL_endPermit 17 = .ok (.iconst 1, 1) := by decide +kernel
theorem dL_endPermit_18 : decode cL_endPermit 18 = .ok (.ireturn, 1) := by decide +kernel
theorem dL_endPermit_19 : decode cL_endPermit 19 = .ok (.astore 5, 2) := by decide +kernel
theorem dL_endPermit_21 : decode cL_endPermit 21 = .ok (.iconst 2, 1) := by decide +kernel
theorem dL_endPermit_22 : decode cL_endPermit 22 = .ok (.ireturn, 1) := by decide +kernel
theorem dL_endPermit_23 : decode cL_endPermit 23 = .ok (.iconst 0, 1) := by decide +kernel
theorem dL_endPermit_24 : decode cL_endPermit 24 = .ok (.ireturn, 1) := by decide +kernel
set_option maxRecDepth 20000 in
theorem ggL_setWind_X3_setWind : GoodIn wsL_setWind wsX3_setWind := goodIn_ca (goodIn_ca (goodIn_r _ [6, 7, 8, 9, 10, 11, 5, 12, 13, 14, 15, 16, 17, 18, 19, 20, 21, 22, 23, 24, 25, 26, 27, 28, 29, 30, 31, 32, 33, 34, 35, 36, 37, 38, 39, 40, 41, 42, 43, 44, 45, 46, 47, 48, 49, 50, 51, 52, 53, 54, 55, 56, 57, 58, 59, 60, 61, 62, 63, 64, 65, 66, 67, 68, 69, 70, 71, 72, 73, 74, 75, 76, 77, 78, 79, 80, 81, 82, 83, 84, 85, 86, 87, 88, 89, 90, 91, 92, 93, 94, 95, 96, 97, 98, 99, 100, 101, 102, 103, 104] (by decide +kernel) (by decide +kernel)) (goodIn_sub (fun _ h => List.mem_cons_of_mem _ (List.mem_append_left _ (List.mem_append_right _ h))) (by decide +kernel))) (goodIn_sub (fun _ h => List.mem_cons_of_mem _ (List.mem_append_right _ h)) (by decide +kernel))
set_option maxRecDepth 20000 in
theorem gL_setWind_X3_setWind : GoodIn wsL_setWind (wsV RL 26 RX3 yX3_setWind wsX3_setWind) := goodIn_app (goodIn_of _ (by decide +kernel)) ggL_setWind_X3_setWind
theorem dL_setWind_0 : decode cL_setWind 0 = .ok (.aload_n 2, 1) := by decide +kernel
theorem dL_setWind_1 : decode cL_setWind 1 = .ok (.iconst 0, 1) := by decide +kernel
theorem dL_setWind_2 : decode cL_setWind 2 = .ok (.aload_n 0, 1) := by decide +kernel
theorem dL_setWind_3 : decode cL_setWind 3 = .ok (.iload_n 1, 1) := by decide +kernel
theorem dL_setWind_4 : decode cL_setWind 4 = .ok (.invokevirtual 26, 3) := by decide +kernel
theorem dL_setWind_7 : decode cL_setWind 7 = .ok (.i2l, 1) := by decide +kernel
theorem dL_setWind_8 : decode cL_setWind 8 = .ok (.lastore, 1) := by decide +kernel
theorem dL_setWind_9 : decode cL_setWind 9 = .ok (.goto 6, 3) := by decide +kernel
theorem dL_setWind_12 : decode cL_setWind 12 = .ok (.astore_n 3, 1) := by decide +kernel
theorem dL_setWind_13 : decode cL_setWind 13 = .ok (.iconst 1, 1) := by decide +kernel
theorem dL_setWind_14 : decode cL_setWind 14 = .ok (.ireturn, 1) := by decide +kernel
theorem dL_setWind_15 : decode cL_setWind 15 = .ok (.iconst 0, 1) := by decide +kernel
theorem dL_setWind_16 : decode cL_setWind 16 = .ok (.ireturn, 1) := by decide +kernel
set_option maxRecDepth 20000 in
theorem ggL_addLift_X3_addLift : GoodIn wsL_addLift wsX3_addLift := goodIn_ca (goodIn_ca (goodIn_r _ [7, 8, 9, 10, 11, 12, 13, 14, 15, 16, 17, 18, 6, 19, 20, 21, 22, 23, 24, 25, 26, 27, 28, 29, 30, 31, 32, 33, 34, 35, 36, 37, 38, 39, 40, 41, 42, 43, 44, 45, 46, 47, 48, 49, 50, 51, 52, 53, 54, 55, 56, 57, 58, 59, 60, 61, 62, 63, 64, 65, 66, 67, 68, 69, 70, 71, 72, 73, 74, 75, 76] (by decide +kernel) (by decide +kernel)) (goodIn_sub (fun _ h => List.mem_cons_of_mem _ (List.mem_append_left _ (List.mem_append_right _ h))) (by decide +kernel))) (goodIn_sub (fun _ h => List.mem_cons_of_mem _ (List.mem_append_right _ h)) (by decide +kernel))
set_option maxRecDepth 20000 in
theorem gL_addLift_X3_addLift : GoodIn wsL_addLift (wsV RL 30 RX3 yX3_addLift wsX3_addLift) := goodIn_app (goodIn_of _ (by decide +kernel)) ggL_addLift_X3_addLift
theorem dL_addLift_0 : decode cL_addLift 0 = .ok (.aload 7, 2) := by decide +kernel
theorem dL_addLift_2 : decode cL_addLift 2 = .ok (.iconst 0, 1) := by decide +kernel
theorem dL_addLift_3 : decode cL_addLift 3 = .ok (.aload_n 0, 1) := by decide +kernel
theorem dL_addLift_4 : decode cL_addLift 4 = .ok (.iload_n 1, 1) := by decide +kernel
theorem dL_addLift_5 : decode cL_addLift 5 = .ok (.iload_n 2, 1) := by decide +kernel
theorem dL_addLift_6 : decode cL_addLift 6 = .ok (.iload_n 3, 1) := by decide +kernel
theorem dL_addLift_7 : decode cL_addLift 7 = .ok (.iload 4, 2) := by decide +kernel
theorem dL_addLift_9 : decode cL_addLift 9 = .ok (.iload 5, 2) := by decide +kernel
theorem dL_addLift_11 : decode cL_addLift 11 = .ok (.iload 6, 2) := by decide +kernel
theorem dL_addLift_13 : decode cL_addLift 13 = .ok (.invokevirtual 30, 3) := by decide +kernel
theorem dL_addLift_16 : decode cL_addLift 16 = .ok (.i2l, 1) := by decide +kernel
theorem dL_addLift_17 : decode cL_addLift 17 = .ok (.lastore, 1) := by decide +kernel
theorem dL_addLift_18 : decode cL_addLift 18 = .ok (.goto 11, 3) := by decide +kernel
theorem dL_addLift_21 : decode cL_addLift 21 = .ok (.astore 8, 2) := by decide +kernel
theorem dL_addLift_23 : decode cL_addLift 23 = .ok (.iconst 1, 1) := by decide +kernel
theorem dL_addLift_24 : decode cL_addLift 24 = .ok (.ireturn, 1) := by decide +kernel
theorem dL_addLift_25 : decode cL_addLift 25 = .ok (.astore 8, 2) := by decide +kernel
theorem dL_addLift_27 : decode cL_addLift 27 = .ok (.iconst 2, 1) := by decide +kernel
theorem dL_addLift_28 : decode cL_addLift 28 = .ok (.ireturn, 1) := by decide +kernel
theorem dL_addLift_29 : decode cL_addLift 29 = .ok (.iconst 0, 1) := by decide +kernel
theorem dL_addLift_30 : decode cL_addLift 30 = .ok (.ireturn, 1) := by decide +kernel
set_option maxRecDepth 20000 in
theorem ggL_addPour_X3_addPour : GoodIn wsL_addPour wsX3_addPour := goodIn_ca (goodIn_ca (goodIn_r _ [7, 8, 9, 10, 11, 12, 13, 14, 15, 16, 17, 18, 19, 20, 21, 22, 23, 6, 24, 25, 26, 27, 28, 29, 30, 31, 32, 33, 34, 35, 36, 37, 38, 39, 40, 41, 42, 43, 44, 45, 46, 47, 48, 49, 50, 51, 52, 53, 54, 55, 56, 57, 58, 59, 60, 61, 62, 63, 64, 65, 66, 67, 68, 69, 70, 71, 72, 73, 74, 75, 76, 77, 78, 79, 80, 81, 82, 83, 84, 85, 86, 87, 88, 89, 90, 91] (by decide +kernel) (by decide +kernel)) (goodIn_sub (fun _ h => List.mem_cons_of_mem _ (List.mem_append_left _ (List.mem_append_right _ h))) (by decide +kernel))) (goodIn_sub (fun _ h => List.mem_cons_of_mem _ (List.mem_append_right _ h)) (by decide +kernel))
set_option maxRecDepth 20000 in
theorem gL_addPour_X3_addPour : GoodIn wsL_addPour (wsV RL 34 RX3 yX3_addPour wsX3_addPour) := goodIn_app (goodIn_of _ (by decide +kernel)) ggL_addPour_X3_addPour
theorem dL_addPour_0 : decode cL_addPour 0 = .ok (.aload 9, 2) := by decide +kernel
theorem dL_addPour_2 : decode cL_addPour 2 = .ok (.iconst 0, 1) := by decide +kernel
theorem dL_addPour_3 : decode cL_addPour 3 = .ok (.aload_n 0, 1) := by decide +kernel
theorem dL_addPour_4 : decode cL_addPour 4 = .ok (.iload_n 1, 1) := by decide +kernel
theorem dL_addPour_5 : decode cL_addPour 5 = .ok (.iload_n 2, 1) := by decide +kernel
theorem dL_addPour_6 : decode cL_addPour 6 = .ok (.iload_n 3, 1) := by decide +kernel
theorem dL_addPour_7 : decode cL_addPour 7 = .ok (.iload 4, 2) := by decide +kernel
theorem dL_addPour_9 : decode cL_addPour 9 = .ok (.iload 5, 2) := by decide +kernel
theorem dL_addPour_11 : decode cL_addPour 11 = .ok (.iload 6, 2) := by decide +kernel
theorem dL_addPour_13 : decode cL_addPour 13 = .ok (.iload 7, 2) := by decide +kernel
theorem dL_addPour_15 : decode cL_addPour 15 = .ok (.iload 8, 2) := by decide +kernel
theorem dL_addPour_17 : decode cL_addPour 17 = .ok (.invokevirtual 34, 3) := by decide +kernel
theorem dL_addPour_20 : decode cL_addPour 20 = .ok (.i2l, 1) := by decide +kernel
theorem dL_addPour_21 : decode cL_addPour 21 = .ok (.lastore, 1) := by decide +kernel
theorem dL_addPour_22 : decode cL_addPour 22 = .ok (.goto 11, 3) := by decide +kernel
theorem dL_addPour_25 : decode cL_addPour 25 = .ok (.astore 10, 2) := by decide +kernel
theorem dL_addPour_27 : decode cL_addPour 27 = .ok (.iconst 1, 1) := by decide +kernel
theorem dL_addPour_28 : decode cL_addPour 28 = .ok (.ireturn, 1) := by decide +kernel
theorem dL_addPour_29 : decode cL_addPour 29 = .ok (.astore 10, 2) := by decide +kernel
theorem dL_addPour_31 : decode cL_addPour 31 = .ok (.iconst 2, 1) := by decide +kernel
theorem dL_addPour_32 : decode cL_addPour 32 = .ok (.ireturn, 1) := by decide +kernel
theorem dL_addPour_33 : decode cL_addPour 33 = .ok (.iconst 0, 1) := by decide +kernel
theorem dL_addPour_34 : decode cL_addPour 34 = .ok (.ireturn, 1) := by decide +kernel
set_option maxRecDepth 20000 in
theorem ggL_plan_X3_plan : GoodIn wsL_plan wsX3_plan := goodIn_ca (goodIn_ca (goodIn_ca (goodIn_ca (goodIn_r _ [8, 9, 10, 11, 12, 13, 14, 15, 16, 17, 18, 19, 20, 7, 21, 22, 23, 24, 25, 26, 27, 28, 29, 30, 31, 32, 33, 34, 35, 36, 37, 38, 39, 40, 41, 42, 43, 44, 45, 46, 47, 48, 49, 50, 51, 52, 53, 54, 55, 56, 57, 58, 59, 60, 61, 62, 63, 64, 65, 66, 67, 68, 69, 70, 71, 72, 73, 74, 75, 76, 77, 78, 79, 80, 81, 82, 83, 84, 85, 86, 87, 88, 89, 90, 91, 92, 93, 94, 95, 96, 97, 98, 99, 100, 101, 102, 103, 104, 105, 106, 107, 108, 109, 110, 111, 112, 113, 114, 115, 116, 117, 118, 119, 120, 121, 122, 123, 124, 125, 126, 127, 128, 129, 130, 131, 132, 133, 134, 135, 136, 137, 138, 139, 140, 141, 142, 143, 144] (by decide +kernel) (by decide +kernel)) (goodIn_sub (fun _ h => List.mem_cons_of_mem _ (List.mem_append_left _ (List.mem_append_left _ (List.mem_append_left _ (List.mem_append_right _ h))))) (by decide +kernel))) (goodIn_sub (fun _ h => List.mem_cons_of_mem _ (List.mem_append_left _ (List.mem_append_left _ (List.mem_append_right _ h)))) (by decide +kernel))) (goodIn_sub (fun _ h => List.mem_cons_of_mem _ (List.mem_append_left _ (List.mem_append_right _ h))) (by decide +kernel))) (goodIn_sub (fun _ h => List.mem_cons_of_mem _ (List.mem_append_right _ h)) (by decide +kernel))
set_option maxRecDepth 20000 in
theorem gL_plan_X3_plan : GoodIn wsL_plan (wsV RL 38 RX3 yX3_plan wsX3_plan) := goodIn_app (goodIn_of _ (by decide +kernel)) ggL_plan_X3_plan
theorem dL_plan_0 : decode cL_plan 0 = .ok (.aload_n 3, 1) := by decide +kernel
theorem dL_plan_1 : decode cL_plan 1 = .ok (.iconst 0, 1) := by decide +kernel
theorem dL_plan_2 : decode cL_plan 2 = .ok (.aload_n 0, 1) := by decide +kernel
theorem dL_plan_3 : decode cL_plan 3 = .ok (.iload_n 1, 1) := by decide +kernel
theorem dL_plan_4 : decode cL_plan 4 = .ok (.iload_n 2, 1) := by decide +kernel
theorem dL_plan_5 : decode cL_plan 5 = .ok (.invokevirtual 38, 3) := by decide +kernel
theorem dL_plan_8 : decode cL_plan 8 = .ok (.i2l, 1) := by decide +kernel
theorem dL_plan_9 : decode cL_plan 9 = .ok (.lastore, 1) := by decide +kernel
theorem dL_plan_10 : decode cL_plan 10 = .ok (.goto 15, 3) := by decide +kernel
theorem dL_plan_13 : decode cL_plan 13 = .ok (.astore 4, 2) := by decide +kernel
theorem dL_plan_15 : decode cL_plan 15 = .ok (.iconst 1, 1) := by decide +kernel
theorem dL_plan_16 : decode cL_plan 16 = .ok (.ireturn, 1) := by decide +kernel
theorem dL_plan_17 : decode cL_plan 17 = .ok (.astore 4, 2) := by decide +kernel
theorem dL_plan_19 : decode cL_plan 19 = .ok (.iconst 2, 1) := by decide +kernel
theorem dL_plan_20 : decode cL_plan 20 = .ok (.ireturn, 1) := by decide +kernel
theorem dL_plan_21 : decode cL_plan 21 = .ok (.astore 4, 2) := by decide +kernel
theorem dL_plan_23 : decode cL_plan 23 = .ok (.iconst 3, 1) := by decide +kernel
theorem dL_plan_24 : decode cL_plan 24 = .ok (.ireturn, 1) := by decide +kernel
theorem dL_plan_25 : decode cL_plan 25 = .ok (.iconst 0, 1) := by decide +kernel
theorem dL_plan_26 : decode cL_plan 26 = .ok (.ireturn, 1) := by decide +kernel
set_option maxRecDepth 20000 in
theorem ggL_planAt_X3_planAt : GoodIn wsL_planAt wsX3_planAt := goodIn_ca (goodIn_ca (goodIn_ca (goodIn_ca (goodIn_r _ [8, 9, 10, 11, 12, 13, 14, 15, 16, 17, 18, 19, 7, 20, 21, 22, 23, 24, 25, 26, 27, 28, 29, 30, 31, 32, 33, 34, 35, 36, 37, 38, 39, 40, 41, 42, 43, 44, 45, 46, 47, 48, 49, 50, 51, 52, 53, 54, 55, 56, 57, 58, 59, 60, 61, 62, 63, 64, 65, 66, 67, 68, 69, 70, 71, 72, 73, 74, 75, 76, 77, 78, 79, 80, 81, 82, 83, 84, 85, 86, 87, 88, 89, 90, 91, 92, 93, 94, 95, 96, 97, 98, 99, 100, 101, 102, 103, 104, 105, 106, 107, 108, 109, 110, 111, 112, 113, 114, 115, 116, 117, 118, 119, 120, 121, 122, 123, 124, 125, 126, 127, 128, 129, 130, 131, 132, 133, 134, 135, 136, 137, 138, 139, 140] (by decide +kernel) (by decide +kernel)) (goodIn_sub (fun _ h => List.mem_cons_of_mem _ (List.mem_append_left _ (List.mem_append_left _ (List.mem_append_left _ (List.mem_append_right _ h))))) (by decide +kernel))) (goodIn_sub (fun _ h => List.mem_cons_of_mem _ (List.mem_append_left _ (List.mem_append_left _ (List.mem_append_right _ h)))) (by decide +kernel))) (goodIn_sub (fun _ h => List.mem_cons_of_mem _ (List.mem_append_left _ (List.mem_append_right _ h))) (by decide +kernel))) (goodIn_sub (fun _ h => List.mem_cons_of_mem _ (List.mem_append_right _ h)) (by decide +kernel))
set_option maxRecDepth 20000 in
theorem gL_planAt_X3_planAt : GoodIn wsL_planAt (wsV RL 44 RX3 yX3_planAt wsX3_planAt) := goodIn_app (goodIn_of _ (by decide +kernel)) ggL_planAt_X3_planAt
theorem dL_planAt_0 : decode cL_planAt 0 = .ok (.aload 4, 2) := by decide +kernel
theorem dL_planAt_2 : decode cL_planAt 2 = .ok (.iconst 0, 1) := by decide +kernel
theorem dL_planAt_3 : decode cL_planAt 3 = .ok (.aload_n 0, 1) := by decide +kernel
theorem dL_planAt_4 : decode cL_planAt 4 = .ok (.iload_n 1, 1) := by decide +kernel
theorem dL_planAt_5 : decode cL_planAt 5 = .ok (.iload_n 2, 1) := by decide +kernel
theorem dL_planAt_6 : decode cL_planAt 6 = .ok (.iload_n 3, 1) := by decide +kernel
theorem dL_planAt_7 : decode cL_planAt 7 = .ok (.invokevirtual 44, 3) := by decide +kernel
theorem dL_planAt_10 : decode cL_planAt 10 = .ok (.i2l, 1) := by decide +kernel
theorem dL_planAt_11 : decode cL_planAt 11 = .ok (.lastore, 1) := by decide +kernel
theorem dL_planAt_12 : decode cL_planAt 12 = .ok (.goto 15, 3) := by decide +kernel
theorem dL_planAt_15 : decode cL_planAt 15 = .ok (.astore 5, 2) := by decide +kernel
theorem dL_planAt_17 : decode cL_planAt 17 = .ok (.iconst 1, 1) := by decide +kernel
theorem dL_planAt_18 : decode cL_planAt 18 = .ok (.ireturn, 1) := by decide +kernel
theorem dL_planAt_19 : decode cL_planAt 19 = .ok (.astore 5, 2) := by decide +kernel
theorem dL_planAt_21 : decode cL_planAt 21 = .ok (.iconst 2, 1) := by decide +kernel
theorem dL_planAt_22 : decode cL_planAt 22 = .ok (.ireturn, 1) := by decide +kernel
theorem dL_planAt_23 : decode cL_planAt 23 = .ok (.astore 5, 2) := by decide +kernel
theorem dL_planAt_25 : decode cL_planAt 25 = .ok (.iconst 3, 1) := by decide +kernel
theorem dL_planAt_26 : decode cL_planAt 26 = .ok (.ireturn, 1) := by decide +kernel
theorem dL_planAt_27 : decode cL_planAt 27 = .ok (.iconst 0, 1) := by decide +kernel
theorem dL_planAt_28 : decode cL_planAt 28 = .ok (.ireturn, 1) := by decide +kernel
set_option maxRecDepth 20000 in
theorem ggL_planPour_X3_planPour : GoodIn wsL_planPour wsX3_planPour := goodIn_ca (goodIn_ca (goodIn_ca (goodIn_ca (goodIn_r _ [8, 9, 10, 11, 12, 13, 14, 15, 16, 17, 18, 19, 20, 7, 21, 22, 23, 24, 25, 26, 27, 28, 29, 30, 31, 32, 33, 34, 35, 36, 37, 38, 39, 40, 41, 42, 43, 44, 45, 46, 47, 48, 49, 50, 51, 52, 53, 54, 55, 56, 57, 58, 59, 60, 61, 62, 63, 64, 65, 66, 67, 68, 69, 70, 71, 72, 73, 74, 75, 76, 77, 78, 79, 80, 81, 82, 83, 84, 85, 86, 87, 88, 89, 90, 91, 92, 93, 94, 95, 96, 97, 98, 99, 100, 101, 102, 103, 104, 105, 106, 107, 108, 109, 110, 111, 112, 113, 114, 115, 116, 117, 118, 119, 120, 121, 122, 123, 124, 125, 126, 127, 128, 129, 130, 131, 132, 133, 134, 135, 136, 137, 138, 139, 140, 141, 142, 143, 144, 145, 146, 147, 148, 149, 150, 151, 152, 153, 154, 155, 156, 157, 158, 159, 160, 161, 162, 163, 164, 165, 166, 167, 168] (by decide +kernel) (by decide +kernel)) (goodIn_sub (fun _ h => List.mem_cons_of_mem _ (List.mem_append_left _ (List.mem_append_left _ (List.mem_append_left _ (List.mem_append_right _ h))))) (by decide +kernel))) (goodIn_sub (fun _ h => List.mem_cons_of_mem _ (List.mem_append_left _ (List.mem_append_left _ (List.mem_append_right _ h)))) (by decide +kernel))) (goodIn_sub (fun _ h => List.mem_cons_of_mem _ (List.mem_append_left _ (List.mem_append_right _ h))) (by decide +kernel))) (goodIn_sub (fun _ h => List.mem_cons_of_mem _ (List.mem_append_right _ h)) (by decide +kernel))
set_option maxRecDepth 20000 in
theorem gL_planPour_X3_planPour : GoodIn wsL_planPour (wsV RL 47 RX3 yX3_planPour wsX3_planPour) := goodIn_app (goodIn_of _ (by decide +kernel)) ggL_planPour_X3_planPour
theorem dL_planPour_0 : decode cL_planPour 0 = .ok (.aload_n 3, 1) := by decide +kernel
theorem dL_planPour_1 : decode cL_planPour 1 = .ok (.iconst 0, 1) := by decide +kernel
theorem dL_planPour_2 : decode cL_planPour 2 = .ok (.aload_n 0, 1) := by decide +kernel
theorem dL_planPour_3 : decode cL_planPour 3 = .ok (.iload_n 1, 1) := by decide +kernel
theorem dL_planPour_4 : decode cL_planPour 4 = .ok (.iload_n 2, 1) := by decide +kernel
theorem dL_planPour_5 : decode cL_planPour 5 = .ok (.invokevirtual 47, 3) := by decide +kernel
theorem dL_planPour_8 : decode cL_planPour 8 = .ok (.i2l, 1) := by decide +kernel
theorem dL_planPour_9 : decode cL_planPour 9 = .ok (.lastore, 1) := by decide +kernel
theorem dL_planPour_10 : decode cL_planPour 10 = .ok (.goto 15, 3) := by decide +kernel
theorem dL_planPour_13 : decode cL_planPour 13 = .ok (.astore 4, 2) := by decide +kernel
theorem dL_planPour_15 : decode cL_planPour 15 = .ok (.iconst 1, 1) := by decide +kernel
theorem dL_planPour_16 : decode cL_planPour 16 = .ok (.ireturn, 1) := by decide +kernel
theorem dL_planPour_17 : decode cL_planPour 17 = .ok (.astore 4, 2) := by decide +kernel
theorem dL_planPour_19 : decode cL_planPour 19 = .ok (.iconst 2, 1) := by decide +kernel
theorem dL_planPour_20 : decode cL_planPour 20 = .ok (.ireturn, 1) := by decide +kernel
theorem dL_planPour_21 : decode cL_planPour 21 = .ok (.astore 4, 2) := by decide +kernel
theorem dL_planPour_23 : decode cL_planPour 23 = .ok (.iconst 3, 1) := by decide +kernel
theorem dL_planPour_24 : decode cL_planPour 24 = .ok (.ireturn, 1) := by decide +kernel
theorem dL_planPour_25 : decode cL_planPour 25 = .ok (.iconst 0, 1) := by decide +kernel
theorem dL_planPour_26 : decode cL_planPour 26 = .ok (.ireturn, 1) := by decide +kernel
set_option maxRecDepth 20000 in
theorem ggL_unplan_X3_unplan : GoodIn wsL_unplan wsX3_unplan := goodIn_ca (goodIn_ca (goodIn_r _ [7, 8, 9, 10, 11, 12, 13, 14, 15, 16, 17, 6, 18, 19, 20, 21, 22, 23, 24, 25, 26, 27, 28, 29, 30, 31, 32, 33, 34, 35, 36, 37, 38, 39, 40, 41, 42, 43, 44, 45, 46, 47] (by decide +kernel) (by decide +kernel)) (goodIn_sub (fun _ h => List.mem_cons_of_mem _ (List.mem_append_left _ (List.mem_append_right _ h))) (by decide +kernel))) (goodIn_sub (fun _ h => List.mem_cons_of_mem _ (List.mem_append_right _ h)) (by decide +kernel))
set_option maxRecDepth 20000 in
theorem gL_unplan_X3_unplan : GoodIn wsL_unplan (wsV RL 50 RX3 yX3_unplan wsX3_unplan) := goodIn_app (goodIn_of _ (by decide +kernel)) ggL_unplan_X3_unplan
theorem dL_unplan_0 : decode cL_unplan 0 = .ok (.aload_n 2, 1) := by decide +kernel
theorem dL_unplan_1 : decode cL_unplan 1 = .ok (.iconst 0, 1) := by decide +kernel
theorem dL_unplan_2 : decode cL_unplan 2 = .ok (.aload_n 0, 1) := by decide +kernel
theorem dL_unplan_3 : decode cL_unplan 3 = .ok (.iload_n 1, 1) := by decide +kernel
theorem dL_unplan_4 : decode cL_unplan 4 = .ok (.invokevirtual 50, 3) := by decide +kernel
theorem dL_unplan_7 : decode cL_unplan 7 = .ok (.i2l, 1) := by decide +kernel
theorem dL_unplan_8 : decode cL_unplan 8 = .ok (.lastore, 1) := by decide +kernel
theorem dL_unplan_9 : decode cL_unplan 9 = .ok (.goto 9, 3) := by decide +kernel
theorem dL_unplan_12 : decode cL_unplan 12 = .ok (.astore_n 3, 1) := by decide +kernel
theorem dL_unplan_13 : decode cL_unplan 13 = .ok (.iconst 1, 1) := by decide +kernel
theorem dL_unplan_14 : decode cL_unplan 14 = .ok (.ireturn, 1) := by decide +kernel
theorem dL_unplan_15 : decode cL_unplan 15 = .ok (.astore_n 3, 1) := by decide +kernel
theorem dL_unplan_16 : decode cL_unplan 16 = .ok (.iconst 2, 1) := by decide +kernel
theorem dL_unplan_17 : decode cL_unplan 17 = .ok (.ireturn, 1) := by decide +kernel
theorem dL_unplan_18 : decode cL_unplan 18 = .ok (.iconst 0, 1) := by decide +kernel
theorem dL_unplan_19 : decode cL_unplan 19 = .ok (.ireturn, 1) := by decide +kernel
set_option maxRecDepth 20000 in
theorem ggL_pass_X3_pass : GoodIn wsL_pass wsX3_pass := goodIn_ca (goodIn_ca (goodIn_r _ [7, 8, 9, 10, 11, 12, 13, 14, 15, 16, 17, 6, 18, 19, 20, 21, 22, 23, 24, 25, 26, 27, 28, 29, 30, 31, 32, 33, 34, 35, 36, 37, 38, 39, 40, 41, 42, 43, 44, 45, 46] (by decide +kernel) (by decide +kernel)) (goodIn_sub (fun _ h => List.mem_cons_of_mem _ (List.mem_append_left _ (List.mem_append_right _ h))) (by decide +kernel))) (goodIn_sub (fun _ h => List.mem_cons_of_mem _ (List.mem_append_right _ h)) (by decide +kernel))
set_option maxRecDepth 20000 in
theorem gL_pass_X3_pass : GoodIn wsL_pass (wsV RL 53 RX3 yX3_pass wsX3_pass) := goodIn_app (goodIn_of _ (by decide +kernel)) ggL_pass_X3_pass
theorem dL_pass_0 : decode cL_pass 0 = .ok (.aload_n 2, 1) := by decide +kernel
theorem dL_pass_1 : decode cL_pass 1 = .ok (.iconst 0, 1) := by decide +kernel
theorem dL_pass_2 : decode cL_pass 2 = .ok (.aload_n 0, 1) := by decide +kernel
theorem dL_pass_3 : decode cL_pass 3 = .ok (.iload_n 1, 1) := by decide +kernel
theorem dL_pass_4 : decode cL_pass 4 = .ok (.invokevirtual 53, 3) := by decide +kernel
theorem dL_pass_7 : decode cL_pass 7 = .ok (.i2l, 1) := by decide +kernel
theorem dL_pass_8 : decode cL_pass 8 = .ok (.lastore, 1) := by decide +kernel
theorem dL_pass_9 : decode cL_pass 9 = .ok (.goto 9, 3) := by decide +kernel
theorem dL_pass_12 : decode cL_pass 12 = .ok (.astore_n 3, 1) := by decide +kernel
theorem dL_pass_13 : decode cL_pass 13 = .ok (.iconst 1, 1) := by decide +kernel
theorem dL_pass_14 : decode cL_pass 14 = .ok (.ireturn, 1) := by decide +kernel
theorem dL_pass_15 : decode cL_pass 15 = .ok (.astore_n 3, 1) := by decide +kernel
theorem dL_pass_16 : decode cL_pass 16 = .ok (.iconst 2, 1) := by decide +kernel
theorem dL_pass_17 : decode cL_pass 17 = .ok (.ireturn, 1) := by decide +kernel
theorem dL_pass_18 : decode cL_pass 18 = .ok (.iconst 0, 1) := by decide +kernel
theorem dL_pass_19 : decode cL_pass 19 = .ok (.ireturn, 1) := by decide +kernel
set_option maxRecDepth 20000 in
theorem ggL_limit_X3_limit : GoodIn wsL_limit wsX3_limit := goodIn_ca (goodIn_ca (goodIn_ca (goodIn_r _ [7, 8, 9, 10, 11, 12, 13, 14, 15, 6, 16, 17, 18, 19, 20, 21, 22, 23, 24, 25, 26, 27, 28, 29, 30, 31, 32, 33, 34, 35, 36, 37, 38, 39, 40, 41, 42, 43, 44, 45, 46, 47, 48, 49, 50, 51, 52, 53, 54, 55, 56, 57, 58, 59, 60, 61] (by decide +kernel) (by decide +kernel)) (goodIn_sub (fun _ h => List.mem_cons_of_mem _ (List.mem_append_left _ (List.mem_append_left _ (List.mem_append_right _ h)))) (by decide +kernel))) (goodIn_sub (fun _ h => List.mem_cons_of_mem _ (List.mem_append_left _ (List.mem_append_right _ h))) (by decide +kernel))) (goodIn_sub (fun _ h => List.mem_cons_of_mem _ (List.mem_append_right _ h)) (by decide +kernel))
set_option maxRecDepth 20000 in
theorem gL_limit_X3_limit : GoodIn wsL_limit (wsV RL 56 RX3 yX3_limit wsX3_limit) := goodIn_app (goodIn_of _ (by decide +kernel)) ggL_limit_X3_limit
theorem dL_limit_0 : decode cL_limit 0 = .ok (.aload 4, 2) := by decide +kernel
theorem dL_limit_2 : decode cL_limit 2 = .ok (.iconst 0, 1) := by decide +kernel
theorem dL_limit_3 : decode cL_limit 3 = .ok (.aload_n 0, 1) := by decide +kernel
theorem dL_limit_4 : decode cL_limit 4 = .ok (.iload_n 1, 1) := by decide +kernel
theorem dL_limit_5 : decode cL_limit 5 = .ok (.iload_n 2, 1) := by decide +kernel
theorem dL_limit_6 : decode cL_limit 6 = .ok (.iload_n 3, 1) := by decide +kernel
theorem dL_limit_7 : decode cL_limit 7 = .ok (.invokevirtual 56, 3) := by decide +kernel
theorem dL_limit_10 : decode cL_limit 10 = .ok (.i2l, 1) := by decide +kernel
theorem dL_limit_11 : decode cL_limit 11 = .ok (.lastore, 1) := by decide +kernel
theorem dL_limit_12 : decode cL_limit 12 = .ok (.goto 11, 3) := by decide +kernel
theorem dL_limit_15 : decode cL_limit 15 = .ok (.astore 5, 2) := by decide +kernel
theorem dL_limit_17 : decode cL_limit 17 = .ok (.iconst 1, 1) := by decide +kernel
theorem dL_limit_18 : decode cL_limit 18 = .ok (.ireturn, 1) := by decide +kernel
theorem dL_limit_19 : decode cL_limit 19 = .ok (.astore 5, 2) := by decide +kernel
theorem dL_limit_21 : decode cL_limit 21 = .ok (.iconst 2, 1) := by decide +kernel
theorem dL_limit_22 : decode cL_limit 22 = .ok (.ireturn, 1) := by decide +kernel
theorem dL_limit_23 : decode cL_limit 23 = .ok (.iconst 0, 1) := by decide +kernel
theorem dL_limit_24 : decode cL_limit 24 = .ok (.ireturn, 1) := by decide +kernel
set_option maxRecDepth 20000 in
theorem ggL_overlap_X3_overlap : GoodIn wsL_overlap wsX3_overlap := goodIn_ca (goodIn_r _ [6, 7, 8, 9, 10, 11, 5, 12, 13, 14, 15, 16, 17, 18, 19, 20, 21, 22, 23, 24, 25, 26, 27, 28, 29, 30, 31, 32, 33, 34, 35, 36, 37, 38, 39, 40, 41, 42, 43, 44] (by decide +kernel) (by decide +kernel)) (goodIn_sub (fun _ h => List.mem_cons_of_mem _ (List.mem_append_right _ h)) (by decide +kernel))
set_option maxRecDepth 20000 in
theorem gL_overlap_X3_overlap : GoodIn wsL_overlap (wsV RL 59 RX3 yX3_overlap wsX3_overlap) := goodIn_app (goodIn_of _ (by decide +kernel)) ggL_overlap_X3_overlap
theorem dL_overlap_0 : decode cL_overlap 0 = .ok (.aload_n 3, 1) := by decide +kernel
theorem dL_overlap_1 : decode cL_overlap 1 = .ok (.iconst 0, 1) := by decide +kernel
theorem dL_overlap_2 : decode cL_overlap 2 = .ok (.aload_n 0, 1) := by decide +kernel
theorem dL_overlap_3 : decode cL_overlap 3 = .ok (.iload_n 1, 1) := by decide +kernel
theorem dL_overlap_4 : decode cL_overlap 4 = .ok (.iload_n 2, 1) := by decide +kernel
theorem dL_overlap_5 : decode cL_overlap 5 = .ok (.invokevirtual 59, 3) := by decide +kernel
theorem dL_overlap_8 : decode cL_overlap 8 = .ok (.ifCond .eq 7, 3) := by decide +kernel
theorem dL_overlap_11 : decode cL_overlap 11 = .ok (.lconst 1, 1) := by decide +kernel
theorem dL_overlap_12 : decode cL_overlap 12 = .ok (.goto 4, 3) := by decide +kernel
theorem dL_overlap_15 : decode cL_overlap 15 = .ok (.lconst 0, 1) := by decide +kernel
theorem dL_overlap_16 : decode cL_overlap 16 = .ok (.lastore, 1) := by decide +kernel
theorem dL_overlap_17 : decode cL_overlap 17 = .ok (.goto 7, 3) := by decide +kernel
theorem dL_overlap_20 : decode cL_overlap 20 = .ok (.astore 4, 2) := by decide +kernel
theorem dL_overlap_22 : decode cL_overlap 22 = .ok (.iconst 1, 1) := by decide +kernel
theorem dL_overlap_23 : decode cL_overlap 23 = .ok (.ireturn, 1) := by decide +kernel
theorem dL_overlap_24 : decode cL_overlap 24 = .ok (.iconst 0, 1) := by decide +kernel
theorem dL_overlap_25 : decode cL_overlap 25 = .ok (.ireturn, 1) := by decide +kernel
set_option maxRecDepth 20000 in
theorem ggL_bothReach_X3_bothReach : GoodIn wsL_bothReach wsX3_bothReach := goodIn_ca (goodIn_r _ [6, 7, 8, 9, 10, 11, 5, 12, 13, 14, 15, 16, 17, 18, 19, 20, 21, 22, 23, 24, 25, 26, 27, 28, 29, 30, 31, 32, 33, 34, 35, 36, 37, 38, 39, 40, 41, 42, 43, 44] (by decide +kernel) (by decide +kernel)) (goodIn_sub (fun _ h => List.mem_cons_of_mem _ (List.mem_append_right _ h)) (by decide +kernel))
set_option maxRecDepth 20000 in
theorem gL_bothReach_X3_bothReach : GoodIn wsL_bothReach (wsV RL 63 RX3 yX3_bothReach wsX3_bothReach) := goodIn_app (goodIn_of _ (by decide +kernel)) ggL_bothReach_X3_bothReach
theorem dL_bothReach_0 : decode cL_bothReach 0 = .ok (.aload_n 3, 1) := by decide +kernel
theorem dL_bothReach_1 : decode cL_bothReach 1 = .ok (.iconst 0, 1) := by decide +kernel
theorem dL_bothReach_2 : decode cL_bothReach 2 = .ok (.aload_n 0, 1) := by decide +kernel
theorem dL_bothReach_3 : decode cL_bothReach 3 = .ok (.iload_n 1, 1) := by decide +kernel
theorem dL_bothReach_4 : decode cL_bothReach 4 = .ok (.iload_n 2, 1) := by decide +kernel
theorem dL_bothReach_5 : decode cL_bothReach 5 = .ok (.invokevirtual 63, 3) := by decide +kernel
theorem dL_bothReach_8 : decode cL_bothReach 8 = .ok (.i2l, 1) := by decide +kernel
theorem dL_bothReach_9 : decode cL_bothReach 9 = .ok (.lastore, 1) := by decide +kernel
theorem dL_bothReach_10 : decode cL_bothReach 10 = .ok (.goto 7, 3) := by decide +kernel
theorem dL_bothReach_13 : decode cL_bothReach 13 = .ok (.astore 4, 2) := by decide +kernel
theorem dL_bothReach_15 : decode cL_bothReach 15 = .ok (.iconst 1, 1) := by decide +kernel
theorem dL_bothReach_16 : decode cL_bothReach 16 = .ok (.ireturn, 1) := by decide +kernel
theorem dL_bothReach_17 : decode cL_bothReach 17 = .ok (.iconst 0, 1) := by decide +kernel
theorem dL_bothReach_18 : decode cL_bothReach 18 = .ok (.ireturn, 1) := by decide +kernel
set_option maxRecDepth 20000 in
theorem ggL_reason_X3_reason : GoodIn wsL_reason wsX3_reason := goodIn_ca (goodIn_ca (goodIn_r _ [6, 7, 8, 9, 10, 11, 5, 12, 13, 14, 15, 16, 17, 18, 19, 20, 21, 22, 23, 24, 25, 26, 27, 28, 29, 30, 31, 32, 33, 34, 35, 36, 37, 38, 39, 40, 41, 42, 43, 44, 45, 46, 47, 48, 49, 50, 51, 52, 53, 54, 55, 56, 57, 58, 59, 60, 61, 62, 63, 64, 65, 66, 67, 68, 69, 70, 71, 72, 73, 74, 75, 76, 77, 78, 79, 80, 81, 82, 83, 84, 85, 86, 87, 88, 89, 90, 91, 92, 93, 94, 95, 96, 97, 98, 99, 100, 101, 102, 103, 104, 105, 106, 107, 108, 109, 110, 111, 112, 113, 114, 115, 116, 117, 118, 119, 120, 121, 122, 123, 124, 125, 126] (by decide +kernel) (by decide +kernel)) (goodIn_sub (fun _ h => List.mem_cons_of_mem _ (List.mem_append_left _ (List.mem_append_right _ h))) (by decide +kernel))) (goodIn_sub (fun _ h => List.mem_cons_of_mem _ (List.mem_append_right _ h)) (by decide +kernel))
set_option maxRecDepth 20000 in
theorem gL_reason_X3_reason : GoodIn wsL_reason (wsV RL 66 RX3 yX3_reason wsX3_reason) := goodIn_app (goodIn_of _ (by decide +kernel)) ggL_reason_X3_reason
theorem dL_reason_0 : decode cL_reason 0 = .ok (.aload 4, 2) := by decide +kernel
theorem dL_reason_2 : decode cL_reason 2 = .ok (.iconst 0, 1) := by decide +kernel
theorem dL_reason_3 : decode cL_reason 3 = .ok (.aload_n 0, 1) := by decide +kernel
theorem dL_reason_4 : decode cL_reason 4 = .ok (.iload_n 1, 1) := by decide +kernel
theorem dL_reason_5 : decode cL_reason 5 = .ok (.iload_n 2, 1) := by decide +kernel
theorem dL_reason_6 : decode cL_reason 6 = .ok (.iload_n 3, 1) := by decide +kernel
theorem dL_reason_7 : decode cL_reason 7 = .ok (.invokevirtual 66, 3) := by decide +kernel
theorem dL_reason_10 : decode cL_reason 10 = .ok (.i2l, 1) := by decide +kernel
theorem dL_reason_11 : decode cL_reason 11 = .ok (.lastore, 1) := by decide +kernel
theorem dL_reason_12 : decode cL_reason 12 = .ok (.goto 7, 3) := by decide +kernel
theorem dL_reason_15 : decode cL_reason 15 = .ok (.astore 5, 2) := by decide +kernel
theorem dL_reason_17 : decode cL_reason 17 = .ok (.iconst 1, 1) := by decide +kernel
theorem dL_reason_18 : decode cL_reason 18 = .ok (.ireturn, 1) := by decide +kernel
theorem dL_reason_19 : decode cL_reason 19 = .ok (.iconst 0, 1) := by decide +kernel
theorem dL_reason_20 : decode cL_reason 20 = .ok (.ireturn, 1) := by decide +kernel
set_option maxRecDepth 20000 in
theorem ggL_earliest_X3_earliest : GoodIn wsL_earliest wsX3_earliest := goodIn_ca (goodIn_ca (goodIn_ca (goodIn_r _ [7, 8, 9, 10, 11, 12, 13, 14, 15, 6, 16, 17, 18, 19, 20, 21, 22, 23, 24, 25, 26, 27, 28, 29, 30, 31, 32, 33, 34, 35, 36, 37, 38, 39, 40, 41, 42, 43, 44, 45, 46, 47, 48, 49, 50, 51, 52, 53, 54, 55, 56, 57, 58, 59, 60, 61, 62, 63, 64, 65, 66, 67, 68, 69, 70, 71, 72, 73, 74, 75, 76, 77, 78, 79, 80, 81, 82, 83, 84, 85, 86, 87, 88, 89, 90, 91, 92, 93, 94, 95, 96, 97, 98, 99, 100, 101, 102, 103, 104, 105, 106, 107, 108, 109, 110, 111, 112, 113, 114, 115, 116, 117, 118, 119, 120, 121, 122, 123, 124, 125, 126, 127, 128, 129, 130, 131, 132, 133, 134] (by decide +kernel) (by decide +kernel)) (goodIn_sub (fun _ h => List.mem_cons_of_mem _ (List.mem_append_left _ (List.mem_append_left _ (List.mem_append_right _ h)))) (by decide +kernel))) (goodIn_sub (fun _ h => List.mem_cons_of_mem _ (List.mem_append_left _ (List.mem_append_right _ h))) (by decide +kernel))) (goodIn_sub (fun _ h => List.mem_cons_of_mem _ (List.mem_append_right _ h)) (by decide +kernel))
set_option maxRecDepth 20000 in
theorem gL_earliest_X3_earliest : GoodIn wsL_earliest (wsV RL 70 RX3 yX3_earliest wsX3_earliest) := goodIn_app (goodIn_of _ (by decide +kernel)) ggL_earliest_X3_earliest
theorem dL_earliest_0 : decode cL_earliest 0 = .ok (.aload_n 3, 1) := by decide +kernel
theorem dL_earliest_1 : decode cL_earliest 1 = .ok (.iconst 0, 1) := by decide +kernel
theorem dL_earliest_2 : decode cL_earliest 2 = .ok (.aload_n 0, 1) := by decide +kernel
theorem dL_earliest_3 : decode cL_earliest 3 = .ok (.iload_n 1, 1) := by decide +kernel
theorem dL_earliest_4 : decode cL_earliest 4 = .ok (.iload_n 2, 1) := by decide +kernel
theorem dL_earliest_5 : decode cL_earliest 5 = .ok (.invokevirtual 70, 3) := by decide +kernel
theorem dL_earliest_8 : decode cL_earliest 8 = .ok (.i2l, 1) := by decide +kernel
theorem dL_earliest_9 : decode cL_earliest 9 = .ok (.lastore, 1) := by decide +kernel
theorem dL_earliest_10 : decode cL_earliest 10 = .ok (.goto 11, 3) := by decide +kernel
theorem dL_earliest_13 : decode cL_earliest 13 = .ok (.astore 4, 2) := by decide +kernel
theorem dL_earliest_15 : decode cL_earliest 15 = .ok (.iconst 1, 1) := by decide +kernel
theorem dL_earliest_16 : decode cL_earliest 16 = .ok (.ireturn, 1) := by decide +kernel
theorem dL_earliest_17 : decode cL_earliest 17 = .ok (.astore 4, 2) := by decide +kernel
theorem dL_earliest_19 : decode cL_earliest 19 = .ok (.iconst 2, 1) := by decide +kernel
theorem dL_earliest_20 : decode cL_earliest 20 = .ok (.ireturn, 1) := by decide +kernel
theorem dL_earliest_21 : decode cL_earliest 21 = .ok (.iconst 0, 1) := by decide +kernel
theorem dL_earliest_22 : decode cL_earliest 22 = .ok (.ireturn, 1) := by decide +kernel
set_option maxRecDepth 20000 in
theorem ggL_earliestByMinutes_X3_earliestByMinutes : GoodIn wsL_earliestByMinutes wsX3_earliestByMinutes := goodIn_ca (goodIn_ca (goodIn_ca (goodIn_r _ [7, 8, 9, 10, 11, 12, 13, 14, 15, 6, 16, 17, 18, 19, 20, 21, 22, 23, 24, 25, 26, 27, 28, 29, 30, 31, 32, 33, 34, 35, 36, 37, 38, 39, 40, 41, 42, 43, 44, 45, 46, 47, 48, 49, 50, 51, 52, 53, 54, 55, 56, 57, 58, 59, 60, 61, 62, 63, 64, 65, 66, 67, 68, 69, 70, 71, 72, 73, 74, 75, 76, 77, 78, 79, 80, 81, 82, 83, 84, 85, 86, 87, 88, 89, 90, 91, 92, 93, 94, 95, 96, 97, 98, 99, 100, 101, 102, 103, 104, 105, 106, 107, 108, 109, 110, 111, 112, 113, 114, 115, 116, 117, 118, 119, 120, 121, 122, 123, 124, 125] (by decide +kernel) (by decide +kernel)) (goodIn_sub (fun _ h => List.mem_cons_of_mem _ (List.mem_append_left _ (List.mem_append_left _ (List.mem_append_right _ h)))) (by decide +kernel))) (goodIn_sub (fun _ h => List.mem_cons_of_mem _ (List.mem_append_left _ (List.mem_append_right _ h))) (by decide +kernel))) (goodIn_sub (fun _ h => List.mem_cons_of_mem _ (List.mem_append_right _ h)) (by decide +kernel))
set_option maxRecDepth 20000 in
theorem gL_earliestByMinutes_X3_earliestByMinutes : GoodIn wsL_earliestByMinutes (wsV RL 73 RX3 yX3_earliestByMinutes wsX3_earliestByMinutes) := goodIn_app (goodIn_of _ (by decide +kernel)) ggL_earliestByMinutes_X3_earliestByMinutes
theorem dL_earliestByMinutes_0 : decode cL_earliestByMinutes 0 = .ok (.aload_n 3, 1) := by decide +kernel
theorem dL_earliestByMinutes_1 : decode cL_earliestByMinutes 1 = .ok (.iconst 0, 1) := by decide +kernel
theorem dL_earliestByMinutes_2 : decode cL_earliestByMinutes 2 = .ok (.aload_n 0, 1) := by decide +kernel
theorem dL_earliestByMinutes_3 : decode cL_earliestByMinutes 3 = .ok (.iload_n 1, 1) := by decide +kernel
theorem dL_earliestByMinutes_4 : decode cL_earliestByMinutes 4 = .ok (.iload_n 2, 1) := by decide +kernel
theorem dL_earliestByMinutes_5 : decode cL_earliestByMinutes 5 = .ok (.invokevirtual 73, 3) := by decide +kernel
theorem dL_earliestByMinutes_8 : decode cL_earliestByMinutes 8 = .ok (.i2l, 1) := by decide +kernel
theorem dL_earliestByMinutes_9 : decode cL_earliestByMinutes 9 = .ok (.lastore, 1) := by decide +kernel
theorem dL_earliestByMinutes_10 : decode cL_earliestByMinutes 10 = .ok (.goto 11, 3) := by decide +kernel
theorem dL_earliestByMinutes_13 : decode cL_earliestByMinutes 13 = .ok (.astore 4, 2) := by decide +kernel
theorem dL_earliestByMinutes_15 : decode cL_earliestByMinutes 15 = .ok (.iconst 1, 1) := by decide +kernel
theorem dL_earliestByMinutes_16 : decode cL_earliestByMinutes 16 = .ok (.ireturn, 1) := by decide +kernel
theorem dL_earliestByMinutes_17 : decode cL_earliestByMinutes 17 = .ok (.astore 4, 2) := by decide +kernel
theorem dL_earliestByMinutes_19 : decode cL_earliestByMinutes 19 = .ok (.iconst 2, 1) := by decide +kernel
theorem dL_earliestByMinutes_20 : decode cL_earliestByMinutes 20 = .ok (.ireturn, 1) := by decide +kernel
theorem dL_earliestByMinutes_21 : decode cL_earliestByMinutes 21 = .ok (.iconst 0, 1) := by decide +kernel
theorem dL_earliestByMinutes_22 : decode cL_earliestByMinutes 22 = .ok (.ireturn, 1) := by decide +kernel
set_option maxRecDepth 20000 in
theorem ggL_stateOf_X3_stateOf : GoodIn wsL_stateOf wsX3_stateOf := goodIn_ca (goodIn_r _ [6, 7, 8, 9, 10, 11, 12, 5, 13, 14, 15, 16, 17, 18, 19, 20, 21, 22, 23, 24, 25, 26, 27, 28, 29, 30, 31, 32, 33, 34, 35] (by decide +kernel) (by decide +kernel)) (goodIn_sub (fun _ h => List.mem_cons_of_mem _ (List.mem_append_right _ h)) (by decide +kernel))
set_option maxRecDepth 20000 in
theorem gL_stateOf_X3_stateOf : GoodIn wsL_stateOf (wsV RL 76 RX3 yX3_stateOf wsX3_stateOf) := goodIn_app (goodIn_of _ (by decide +kernel)) ggL_stateOf_X3_stateOf
theorem dL_stateOf_0 : decode cL_stateOf 0 = .ok (.aload_n 2, 1) := by decide +kernel
theorem dL_stateOf_1 : decode cL_stateOf 1 = .ok (.iconst 0, 1) := by decide +kernel
theorem dL_stateOf_2 : decode cL_stateOf 2 = .ok (.aload_n 0, 1) := by decide +kernel
theorem dL_stateOf_3 : decode cL_stateOf 3 = .ok (.iload_n 1, 1) := by decide +kernel
theorem dL_stateOf_4 : decode cL_stateOf 4 = .ok (.invokevirtual 76, 3) := by decide +kernel
theorem dL_stateOf_7 : decode cL_stateOf 7 = .ok (.i2l, 1) := by decide +kernel
theorem dL_stateOf_8 : decode cL_stateOf 8 = .ok (.lastore, 1) := by decide +kernel
theorem dL_stateOf_9 : decode cL_stateOf 9 = .ok (.goto 6, 3) := by decide +kernel
theorem dL_stateOf_12 : decode cL_stateOf 12 = .ok (.astore_n 3, 1) := by decide +kernel
theorem dL_stateOf_13 : decode cL_stateOf 13 = .ok (.iconst 1, 1) := by decide +kernel
theorem dL_stateOf_14 : decode cL_stateOf 14 = .ok (.ireturn, 1) := by decide +kernel
theorem dL_stateOf_15 : decode cL_stateOf 15 = .ok (.iconst 0, 1) := by decide +kernel
theorem dL_stateOf_16 : decode cL_stateOf 16 = .ok (.ireturn, 1) := by decide +kernel
set_option maxRecDepth 20000 in
theorem ggL_startOf_X3_startOf : GoodIn wsL_startOf wsX3_startOf := goodIn_ca (goodIn_ca (goodIn_r _ [7, 8, 9, 10, 11, 12, 13, 14, 15, 6, 16, 17, 18, 19, 20, 21, 22, 23, 24, 25, 26, 27, 28, 29, 30, 31, 32, 33, 34, 35, 36, 37, 38, 39, 40, 41, 42, 43, 44] (by decide +kernel) (by decide +kernel)) (goodIn_sub (fun _ h => List.mem_cons_of_mem _ (List.mem_append_left _ (List.mem_append_right _ h))) (by decide +kernel))) (goodIn_sub (fun _ h => List.mem_cons_of_mem _ (List.mem_append_right _ h)) (by decide +kernel))
set_option maxRecDepth 20000 in
theorem gL_startOf_X3_startOf : GoodIn wsL_startOf (wsV RL 80 RX3 yX3_startOf wsX3_startOf) := goodIn_app (goodIn_of _ (by decide +kernel)) ggL_startOf_X3_startOf
theorem dL_startOf_0 : decode cL_startOf 0 = .ok (.aload_n 2, 1) := by decide +kernel
theorem dL_startOf_1 : decode cL_startOf 1 = .ok (.iconst 0, 1) := by decide +kernel
theorem dL_startOf_2 : decode cL_startOf 2 = .ok (.aload_n 0, 1) := by decide +kernel
theorem dL_startOf_3 : decode cL_startOf 3 = .ok (.iload_n 1, 1) := by decide +kernel
theorem dL_startOf_4 : decode cL_startOf 4 = .ok (.invokevirtual 80, 3) := by decide +kernel
theorem dL_startOf_7 : decode cL_startOf 7 = .ok (.i2l, 1) := by decide +kernel
theorem dL_startOf_8 : decode cL_startOf 8 = .ok (.lastore, 1) := by decide +kernel
theorem dL_startOf_9 : decode cL_startOf 9 = .ok (.goto 9, 3) := by decide +kernel
theorem dL_startOf_12 : decode cL_startOf 12 = .ok (.astore_n 3, 1) := by decide +kernel
theorem dL_startOf_13 : decode cL_startOf 13 = .ok (.iconst 1, 1) := by decide +kernel
theorem dL_startOf_14 : decode cL_startOf 14 = .ok (.ireturn, 1) := by decide +kernel
theorem dL_startOf_15 : decode cL_startOf 15 = .ok (.astore_n 3, 1) := by decide +kernel
theorem dL_startOf_16 : decode cL_startOf 16 = .ok (.iconst 2, 1) := by decide +kernel
theorem dL_startOf_17 : decode cL_startOf 17 = .ok (.ireturn, 1) := by decide +kernel
theorem dL_startOf_18 : decode cL_startOf 18 = .ok (.iconst 0, 1) := by decide +kernel
theorem dL_startOf_19 : decode cL_startOf 19 = .ok (.ireturn, 1) := by decide +kernel
set_option maxRecDepth 20000 in
theorem ggL_craneOf_X3_craneOf : GoodIn wsL_craneOf wsX3_craneOf := goodIn_ca (goodIn_ca (goodIn_r _ [7, 8, 9, 10, 11, 12, 13, 14, 15, 6, 16, 17, 18, 19, 20, 21, 22, 23, 24, 25, 26, 27, 28, 29, 30, 31, 32, 33, 34, 35, 36, 37, 38, 39, 40, 41, 42, 43, 44] (by decide +kernel) (by decide +kernel)) (goodIn_sub (fun _ h => List.mem_cons_of_mem _ (List.mem_append_left _ (List.mem_append_right _ h))) (by decide +kernel))) (goodIn_sub (fun _ h => List.mem_cons_of_mem _ (List.mem_append_right _ h)) (by decide +kernel))
set_option maxRecDepth 20000 in
theorem gL_craneOf_X3_craneOf : GoodIn wsL_craneOf (wsV RL 83 RX3 yX3_craneOf wsX3_craneOf) := goodIn_app (goodIn_of _ (by decide +kernel)) ggL_craneOf_X3_craneOf
theorem dL_craneOf_0 : decode cL_craneOf 0 = .ok (.aload_n 2, 1) := by decide +kernel
theorem dL_craneOf_1 : decode cL_craneOf 1 = .ok (.iconst 0, 1) := by decide +kernel
theorem dL_craneOf_2 : decode cL_craneOf 2 = .ok (.aload_n 0, 1) := by decide +kernel
theorem dL_craneOf_3 : decode cL_craneOf 3 = .ok (.iload_n 1, 1) := by decide +kernel
theorem dL_craneOf_4 : decode cL_craneOf 4 = .ok (.invokevirtual 83, 3) := by decide +kernel
theorem dL_craneOf_7 : decode cL_craneOf 7 = .ok (.i2l, 1) := by decide +kernel
theorem dL_craneOf_8 : decode cL_craneOf 8 = .ok (.lastore, 1) := by decide +kernel
theorem dL_craneOf_9 : decode cL_craneOf 9 = .ok (.goto 9, 3) := by decide +kernel
theorem dL_craneOf_12 : decode cL_craneOf 12 = .ok (.astore_n 3, 1) := by decide +kernel
theorem dL_craneOf_13 : decode cL_craneOf 13 = .ok (.iconst 1, 1) := by decide +kernel
theorem dL_craneOf_14 : decode cL_craneOf 14 = .ok (.ireturn, 1) := by decide +kernel
theorem dL_craneOf_15 : decode cL_craneOf 15 = .ok (.astore_n 3, 1) := by decide +kernel
theorem dL_craneOf_16 : decode cL_craneOf 16 = .ok (.iconst 2, 1) := by decide +kernel
theorem dL_craneOf_17 : decode cL_craneOf 17 = .ok (.ireturn, 1) := by decide +kernel
theorem dL_craneOf_18 : decode cL_craneOf 18 = .ok (.iconst 0, 1) := by decide +kernel
theorem dL_craneOf_19 : decode cL_craneOf 19 = .ok (.ireturn, 1) := by decide +kernel
set_option maxRecDepth 20000 in
theorem ggL_pourOf_X3_pourOf : GoodIn wsL_pourOf wsX3_pourOf := goodIn_ca (goodIn_r _ [6, 7, 8, 9, 10, 11, 12, 5, 13, 14, 15, 16, 17, 18, 19, 20, 21, 22, 23, 24, 25, 26, 27, 28, 29, 30, 31, 32, 33, 34, 35] (by decide +kernel) (by decide +kernel)) (goodIn_sub (fun _ h => List.mem_cons_of_mem _ (List.mem_append_right _ h)) (by decide +kernel))
set_option maxRecDepth 20000 in
theorem gL_pourOf_X3_pourOf : GoodIn wsL_pourOf (wsV RL 86 RX3 yX3_pourOf wsX3_pourOf) := goodIn_app (goodIn_of _ (by decide +kernel)) ggL_pourOf_X3_pourOf
theorem dL_pourOf_0 : decode cL_pourOf 0 = .ok (.aload_n 2, 1) := by decide +kernel
theorem dL_pourOf_1 : decode cL_pourOf 1 = .ok (.iconst 0, 1) := by decide +kernel
theorem dL_pourOf_2 : decode cL_pourOf 2 = .ok (.aload_n 0, 1) := by decide +kernel
theorem dL_pourOf_3 : decode cL_pourOf 3 = .ok (.iload_n 1, 1) := by decide +kernel
theorem dL_pourOf_4 : decode cL_pourOf 4 = .ok (.invokevirtual 86, 3) := by decide +kernel
theorem dL_pourOf_7 : decode cL_pourOf 7 = .ok (.i2l, 1) := by decide +kernel
theorem dL_pourOf_8 : decode cL_pourOf 8 = .ok (.lastore, 1) := by decide +kernel
theorem dL_pourOf_9 : decode cL_pourOf 9 = .ok (.goto 6, 3) := by decide +kernel
theorem dL_pourOf_12 : decode cL_pourOf 12 = .ok (.astore_n 3, 1) := by decide +kernel
theorem dL_pourOf_13 : decode cL_pourOf 13 = .ok (.iconst 1, 1) := by decide +kernel
theorem dL_pourOf_14 : decode cL_pourOf 14 = .ok (.ireturn, 1) := by decide +kernel
theorem dL_pourOf_15 : decode cL_pourOf 15 = .ok (.iconst 0, 1) := by decide +kernel
theorem dL_pourOf_16 : decode cL_pourOf 16 = .ok (.ireturn, 1) := by decide +kernel
set_option maxRecDepth 20000 in
theorem ggL_airOf_X3_airOf : GoodIn wsL_airOf wsX3_airOf := goodIn_ca (goodIn_r _ [6, 7, 8, 9, 10, 11, 12, 5, 13, 14, 15, 16, 17, 18, 19, 20, 21, 22, 23, 24, 25, 26, 27, 28, 29, 30, 31, 32, 33, 34, 35] (by decide +kernel) (by decide +kernel)) (goodIn_sub (fun _ h => List.mem_cons_of_mem _ (List.mem_append_right _ h)) (by decide +kernel))
set_option maxRecDepth 20000 in
theorem gL_airOf_X3_airOf : GoodIn wsL_airOf (wsV RL 89 RX3 yX3_airOf wsX3_airOf) := goodIn_app (goodIn_of _ (by decide +kernel)) ggL_airOf_X3_airOf
theorem dL_airOf_0 : decode cL_airOf 0 = .ok (.aload_n 2, 1) := by decide +kernel
theorem dL_airOf_1 : decode cL_airOf 1 = .ok (.iconst 0, 1) := by decide +kernel
theorem dL_airOf_2 : decode cL_airOf 2 = .ok (.aload_n 0, 1) := by decide +kernel
theorem dL_airOf_3 : decode cL_airOf 3 = .ok (.iload_n 1, 1) := by decide +kernel
theorem dL_airOf_4 : decode cL_airOf 4 = .ok (.invokevirtual 89, 3) := by decide +kernel
theorem dL_airOf_7 : decode cL_airOf 7 = .ok (.lastore, 1) := by decide +kernel
theorem dL_airOf_8 : decode cL_airOf 8 = .ok (.goto 6, 3) := by decide +kernel
theorem dL_airOf_11 : decode cL_airOf 11 = .ok (.astore_n 3, 1) := by decide +kernel
theorem dL_airOf_12 : decode cL_airOf 12 = .ok (.iconst 1, 1) := by decide +kernel
theorem dL_airOf_13 : decode cL_airOf 13 = .ok (.ireturn, 1) := by decide +kernel
theorem dL_airOf_14 : decode cL_airOf 14 = .ok (.iconst 0, 1) := by decide +kernel
theorem dL_airOf_15 : decode cL_airOf 15 = .ok (.ireturn, 1) := by decide +kernel
set_option maxRecDepth 20000 in
theorem ggL_shareAir_X3_shareAir : GoodIn wsL_shareAir wsX3_shareAir := goodIn_ca (goodIn_r _ [6, 7, 8, 9, 10, 11, 5, 12, 13, 14, 15, 16, 17, 18, 19, 20, 21, 22, 23, 24, 25, 26, 27, 28, 29, 30, 31, 32, 33, 34, 35, 36, 37, 38, 39, 40] (by decide +kernel) (by decide +kernel)) (goodIn_sub (fun _ h => List.mem_cons_of_mem _ (List.mem_append_right _ h)) (by decide +kernel))
set_option maxRecDepth 20000 in
theorem gL_shareAir_X3_shareAir : GoodIn wsL_shareAir (wsV RL 93 RX3 yX3_shareAir wsX3_shareAir) := goodIn_app (goodIn_of _ (by decide +kernel)) ggL_shareAir_X3_shareAir
theorem dL_shareAir_0 : decode cL_shareAir 0 = .ok (.aload_n 3, 1) := by decide +kernel
theorem dL_shareAir_1 : decode cL_shareAir 1 = .ok (.iconst 0, 1) := by decide +kernel
theorem dL_shareAir_2 : decode cL_shareAir 2 = .ok (.aload_n 0, 1) := by decide +kernel
theorem dL_shareAir_3 : decode cL_shareAir 3 = .ok (.iload_n 1, 1) := by decide +kernel
theorem dL_shareAir_4 : decode cL_shareAir 4 = .ok (.iload_n 2, 1) := by decide +kernel
theorem dL_shareAir_5 : decode cL_shareAir 5 = .ok (.invokevirtual 93, 3) := by decide +kernel
theorem dL_shareAir_8 : decode cL_shareAir 8 = .ok (.ifCond .eq 7, 3) := by decide +kernel
theorem dL_shareAir_11 : decode cL_shareAir 11 = .ok (.lconst 1, 1) := by decide +kernel
theorem dL_shareAir_12 : decode cL_shareAir 12 = .ok (.goto 4, 3) := by decide +kernel
theorem dL_shareAir_15 : decode cL_shareAir 15 = .ok (.lconst 0, 1) := by decide +kernel
theorem dL_shareAir_16 : decode cL_shareAir 16 = .ok (.lastore, 1) := by decide +kernel
theorem dL_shareAir_17 : decode cL_shareAir 17 = .ok (.goto 7, 3) := by decide +kernel
theorem dL_shareAir_20 : decode cL_shareAir 20 = .ok (.astore 4, 2) := by decide +kernel
theorem dL_shareAir_22 : decode cL_shareAir 22 = .ok (.iconst 1, 1) := by decide +kernel
theorem dL_shareAir_23 : decode cL_shareAir 23 = .ok (.ireturn, 1) := by decide +kernel
theorem dL_shareAir_24 : decode cL_shareAir 24 = .ok (.iconst 0, 1) := by decide +kernel
theorem dL_shareAir_25 : decode cL_shareAir 25 = .ok (.ireturn, 1) := by decide +kernel
set_option maxRecDepth 20000 in
theorem ggL_liftAt_X3_liftAt : GoodIn wsL_liftAt wsX3_liftAt := goodIn_ca (goodIn_ca (goodIn_r _ [7, 8, 9, 10, 11, 12, 13, 14, 15, 6, 16, 17, 18, 19, 20, 21, 22, 23, 24, 25, 26, 27, 28, 29, 30, 31, 32, 33, 34, 35, 36, 37, 38, 39, 40, 41, 42, 43, 44, 45, 46, 47, 48, 49, 50, 51, 52, 53, 54, 55, 56, 57, 58, 59, 60, 61, 62, 63, 64, 65] (by decide +kernel) (by decide +kernel)) (goodIn_sub (fun _ h => List.mem_cons_of_mem _ (List.mem_append_left _ (List.mem_append_right _ h))) (by decide +kernel))) (goodIn_sub (fun _ h => List.mem_cons_of_mem _ (List.mem_append_right _ h)) (by decide +kernel))
set_option maxRecDepth 20000 in
theorem gL_liftAt_X3_liftAt : GoodIn wsL_liftAt (wsV RL 96 RX3 yX3_liftAt wsX3_liftAt) := goodIn_app (goodIn_of _ (by decide +kernel)) ggL_liftAt_X3_liftAt
theorem dL_liftAt_0 : decode cL_liftAt 0 = .ok (.aload_n 3, 1) := by decide +kernel
theorem dL_liftAt_1 : decode cL_liftAt 1 = .ok (.iconst 0, 1) := by decide +kernel
theorem dL_liftAt_2 : decode cL_liftAt 2 = .ok (.aload_n 0, 1) := by decide +kernel
theorem dL_liftAt_3 : decode cL_liftAt 3 = .ok (.iload_n 1, 1) := by decide +kernel
theorem dL_liftAt_4 : decode cL_liftAt 4 = .ok (.iload_n 2, 1) := by decide +kernel
theorem dL_liftAt_5 : decode cL_liftAt 5 = .ok (.invokevirtual 96, 3) := by decide +kernel
theorem dL_liftAt_8 : decode cL_liftAt 8 = .ok (.i2l, 1) := by decide +kernel
theorem dL_liftAt_9 : decode cL_liftAt 9 = .ok (.lastore, 1) := by decide +kernel
theorem dL_liftAt_10 : decode cL_liftAt 10 = .ok (.goto 11, 3) := by decide +kernel
theorem dL_liftAt_13 : decode cL_liftAt 13 = .ok (.astore 4, 2) := by decide +kernel
theorem dL_liftAt_15 : decode cL_liftAt 15 = .ok (.iconst 1, 1) := by decide +kernel
theorem dL_liftAt_16 : decode cL_liftAt 16 = .ok (.ireturn, 1) := by decide +kernel
theorem dL_liftAt_17 : decode cL_liftAt 17 = .ok (.astore 4, 2) := by decide +kernel
theorem dL_liftAt_19 : decode cL_liftAt 19 = .ok (.iconst 2, 1) := by decide +kernel
theorem dL_liftAt_20 : decode cL_liftAt 20 = .ok (.ireturn, 1) := by decide +kernel
theorem dL_liftAt_21 : decode cL_liftAt 21 = .ok (.iconst 0, 1) := by decide +kernel
theorem dL_liftAt_22 : decode cL_liftAt 22 = .ok (.ireturn, 1) := by decide +kernel
set_option maxRecDepth 20000 in
theorem ggL_liftByMinutes_X3_liftByMinutes : GoodIn wsL_liftByMinutes wsX3_liftByMinutes := goodIn_ca (goodIn_ca (goodIn_r _ [7, 8, 9, 10, 11, 12, 13, 14, 15, 6, 16, 17, 18, 19, 20, 21, 22, 23, 24, 25, 26, 27, 28, 29, 30, 31, 32, 33, 34, 35, 36, 37, 38, 39, 40, 41, 42, 43, 44, 45, 46, 47, 48, 49, 50, 51, 52, 53, 54, 55, 56, 57, 58, 59, 60, 61, 62, 63, 64, 65, 66, 67, 68, 69, 70, 71, 72, 73, 74, 75] (by decide +kernel) (by decide +kernel)) (goodIn_sub (fun _ h => List.mem_cons_of_mem _ (List.mem_append_left _ (List.mem_append_right _ h))) (by decide +kernel))) (goodIn_sub (fun _ h => List.mem_cons_of_mem _ (List.mem_append_right _ h)) (by decide +kernel))
set_option maxRecDepth 20000 in
theorem gL_liftByMinutes_X3_liftByMinutes : GoodIn wsL_liftByMinutes (wsV RL 99 RX3 yX3_liftByMinutes wsX3_liftByMinutes) := goodIn_app (goodIn_of _ (by decide +kernel)) ggL_liftByMinutes_X3_liftByMinutes
theorem dL_liftByMinutes_0 : decode cL_liftByMinutes 0 = .ok (.aload_n 3, 1) := by decide +kernel
theorem dL_liftByMinutes_1 : decode cL_liftByMinutes 1 = .ok (.iconst 0, 1) := by decide +kernel
theorem dL_liftByMinutes_2 : decode cL_liftByMinutes 2 = .ok (.aload_n 0, 1) := by decide +kernel
theorem dL_liftByMinutes_3 : decode cL_liftByMinutes 3 = .ok (.iload_n 1, 1) := by decide +kernel
theorem dL_liftByMinutes_4 : decode cL_liftByMinutes 4 = .ok (.iload_n 2, 1) := by decide +kernel
theorem dL_liftByMinutes_5 : decode cL_liftByMinutes 5 = .ok (.invokevirtual 99, 3) := by decide +kernel
theorem dL_liftByMinutes_8 : decode cL_liftByMinutes 8 = .ok (.i2l, 1) := by decide +kernel
theorem dL_liftByMinutes_9 : decode cL_liftByMinutes 9 = .ok (.lastore, 1) := by decide +kernel
theorem dL_liftByMinutes_10 : decode cL_liftByMinutes 10 = .ok (.goto 11, 3) := by decide +kernel
theorem dL_liftByMinutes_13 : decode cL_liftByMinutes 13 = .ok (.astore 4, 2) := by decide +kernel
theorem dL_liftByMinutes_15 : decode cL_liftByMinutes 15 = .ok (.iconst 1, 1) := by decide +kernel
theorem dL_liftByMinutes_16 : decode cL_liftByMinutes 16 = .ok (.ireturn, 1) := by decide +kernel
theorem dL_liftByMinutes_17 : decode cL_liftByMinutes 17 = .ok (.astore 4, 2) := by decide +kernel
theorem dL_liftByMinutes_19 : decode cL_liftByMinutes 19 = .ok (.iconst 2, 1) := by decide +kernel
theorem dL_liftByMinutes_20 : decode cL_liftByMinutes 20 = .ok (.ireturn, 1) := by decide +kernel
theorem dL_liftByMinutes_21 : decode cL_liftByMinutes 21 = .ok (.iconst 0, 1) := by decide +kernel
theorem dL_liftByMinutes_22 : decode cL_liftByMinutes 22 = .ok (.ireturn, 1) := by decide +kernel
set_option maxRecDepth 20000 in
theorem ggL_freeMinutes_X3_freeMinutes : GoodIn wsL_freeMinutes wsX3_freeMinutes := goodIn_ca (goodIn_r _ [6, 7, 8, 9, 10, 11, 5, 12, 13, 14, 15, 16, 17, 18, 19, 20, 21, 22, 23, 24, 25, 26, 27, 28, 29, 30, 31, 32, 33, 34, 35, 36, 37, 38, 39, 40, 41, 42, 43, 44, 45, 46, 47, 48, 49, 50, 51, 52, 53, 54, 55, 56, 57, 58, 59, 60, 61, 62, 63, 64, 65, 66, 67, 68, 69, 70, 71, 72, 73, 74, 75, 76, 77, 78, 79, 80] (by decide +kernel) (by decide +kernel)) (goodIn_sub (fun _ h => List.mem_cons_of_mem _ (List.mem_append_right _ h)) (by decide +kernel))
set_option maxRecDepth 20000 in
theorem gL_freeMinutes_X3_freeMinutes : GoodIn wsL_freeMinutes (wsV RL 102 RX3 yX3_freeMinutes wsX3_freeMinutes) := goodIn_app (goodIn_of _ (by decide +kernel)) ggL_freeMinutes_X3_freeMinutes
theorem dL_freeMinutes_0 : decode cL_freeMinutes 0 = .ok (.aload_n 2, 1) := by decide +kernel
theorem dL_freeMinutes_1 : decode cL_freeMinutes 1 = .ok (.iconst 0, 1) := by decide +kernel
theorem dL_freeMinutes_2 : decode cL_freeMinutes 2 = .ok (.aload_n 0, 1) := by decide +kernel
theorem dL_freeMinutes_3 : decode cL_freeMinutes 3 = .ok (.iload_n 1, 1) := by decide +kernel
theorem dL_freeMinutes_4 : decode cL_freeMinutes 4 = .ok (.invokevirtual 102, 3) := by decide +kernel
theorem dL_freeMinutes_7 : decode cL_freeMinutes 7 = .ok (.i2l, 1) := by decide +kernel
theorem dL_freeMinutes_8 : decode cL_freeMinutes 8 = .ok (.lastore, 1) := by decide +kernel
theorem dL_freeMinutes_9 : decode cL_freeMinutes 9 = .ok (.goto 6, 3) := by decide +kernel
theorem dL_freeMinutes_12 : decode cL_freeMinutes 12 = .ok (.astore_n 3, 1) := by decide +kernel
theorem dL_freeMinutes_13 : decode cL_freeMinutes 13 = .ok (.iconst 1, 1) := by decide +kernel
theorem dL_freeMinutes_14 : decode cL_freeMinutes 14 = .ok (.ireturn, 1) := by decide +kernel
theorem dL_freeMinutes_15 : decode cL_freeMinutes 15 = .ok (.iconst 0, 1) := by decide +kernel
theorem dL_freeMinutes_16 : decode cL_freeMinutes 16 = .ok (.ireturn, 1) := by decide +kernel
set_option maxRecDepth 20000 in
theorem ggL_atWork_X3_atWork : GoodIn wsL_atWork wsX3_atWork := goodIn_ca (goodIn_r _ [6, 7, 8, 9, 10, 11, 5, 12, 13, 14, 15, 16, 17, 18, 19, 20, 21, 22, 23, 24, 25, 26, 27, 28, 29, 30, 31, 32, 33, 34, 35, 36, 37, 38, 39, 40, 41, 42, 43, 44, 45, 46, 47, 48, 49, 50, 51, 52] (by decide +kernel) (by decide +kernel)) (goodIn_sub (fun _ h => List.mem_cons_of_mem _ (List.mem_append_right _ h)) (by decide +kernel))
set_option maxRecDepth 20000 in
theorem gL_atWork_X3_atWork : GoodIn wsL_atWork (wsV RL 105 RX3 yX3_atWork wsX3_atWork) := goodIn_app (goodIn_of _ (by decide +kernel)) ggL_atWork_X3_atWork
theorem dL_atWork_0 : decode cL_atWork 0 = .ok (.aload_n 2, 1) := by decide +kernel
theorem dL_atWork_1 : decode cL_atWork 1 = .ok (.iconst 0, 1) := by decide +kernel
theorem dL_atWork_2 : decode cL_atWork 2 = .ok (.aload_n 0, 1) := by decide +kernel
theorem dL_atWork_3 : decode cL_atWork 3 = .ok (.iload_n 1, 1) := by decide +kernel
theorem dL_atWork_4 : decode cL_atWork 4 = .ok (.invokevirtual 105, 3) := by decide +kernel
theorem dL_atWork_7 : decode cL_atWork 7 = .ok (.i2l, 1) := by decide +kernel
theorem dL_atWork_8 : decode cL_atWork 8 = .ok (.lastore, 1) := by decide +kernel
theorem dL_atWork_9 : decode cL_atWork 9 = .ok (.goto 6, 3) := by decide +kernel
theorem dL_atWork_12 : decode cL_atWork 12 = .ok (.astore_n 3, 1) := by decide +kernel
theorem dL_atWork_13 : decode cL_atWork 13 = .ok (.iconst 1, 1) := by decide +kernel
theorem dL_atWork_14 : decode cL_atWork 14 = .ok (.ireturn, 1) := by decide +kernel
theorem dL_atWork_15 : decode cL_atWork 15 = .ok (.iconst 0, 1) := by decide +kernel
theorem dL_atWork_16 : decode cL_atWork 16 = .ok (.ireturn, 1) := by decide +kernel
set_option maxRecDepth 20000 in
theorem ggL_airAt_X3_airAt : GoodIn wsL_airAt wsX3_airAt := goodIn_ca (goodIn_r _ [6, 7, 8, 9, 10, 5, 11, 12, 13, 14, 15, 16, 17, 18, 19, 20, 21, 22, 23, 24, 25, 26, 27, 28, 29, 30, 31, 32, 33, 34, 35, 36, 37, 38, 39, 40, 41, 42, 43, 44, 45, 46, 47, 48, 49, 50, 51, 52, 53, 54, 55, 56, 57] (by decide +kernel) (by decide +kernel)) (goodIn_sub (fun _ h => List.mem_cons_of_mem _ (List.mem_append_right _ h)) (by decide +kernel))
set_option maxRecDepth 20000 in
theorem gL_airAt_X3_airAt : GoodIn wsL_airAt (wsV RL 108 RX3 yX3_airAt wsX3_airAt) := goodIn_app (goodIn_of _ (by decide +kernel)) ggL_airAt_X3_airAt
theorem dL_airAt_0 : decode cL_airAt 0 = .ok (.aload_n 2, 1) := by decide +kernel
theorem dL_airAt_1 : decode cL_airAt 1 = .ok (.iconst 0, 1) := by decide +kernel
theorem dL_airAt_2 : decode cL_airAt 2 = .ok (.aload_n 0, 1) := by decide +kernel
theorem dL_airAt_3 : decode cL_airAt 3 = .ok (.iload_n 1, 1) := by decide +kernel
theorem dL_airAt_4 : decode cL_airAt 4 = .ok (.invokevirtual 108, 3) := by decide +kernel
theorem dL_airAt_7 : decode cL_airAt 7 = .ok (.lastore, 1) := by decide +kernel
theorem dL_airAt_8 : decode cL_airAt 8 = .ok (.goto 6, 3) := by decide +kernel
theorem dL_airAt_11 : decode cL_airAt 11 = .ok (.astore_n 3, 1) := by decide +kernel
theorem dL_airAt_12 : decode cL_airAt 12 = .ok (.iconst 1, 1) := by decide +kernel
theorem dL_airAt_13 : decode cL_airAt 13 = .ok (.ireturn, 1) := by decide +kernel
theorem dL_airAt_14 : decode cL_airAt 14 = .ok (.iconst 0, 1) := by decide +kernel
theorem dL_airAt_15 : decode cL_airAt 15 = .ok (.ireturn, 1) := by decide +kernel
set_option maxRecDepth 20000 in
theorem ggL_squaresAt_X3_squaresAt : GoodIn wsL_squaresAt wsX3_squaresAt := goodIn_ca (goodIn_r _ [6, 7, 8, 9, 10, 5, 11, 12, 13, 14, 15, 16, 17, 18, 19, 20, 21, 22, 23, 24, 25, 26, 27, 28, 29, 30, 31, 32, 33, 34, 35, 36, 37, 38, 39, 40, 41, 42, 43, 44, 45, 46, 47, 48, 49, 50, 51, 52, 53, 54, 55, 56, 57, 58, 59, 60, 61, 62, 63, 64] (by decide +kernel) (by decide +kernel)) (goodIn_sub (fun _ h => List.mem_cons_of_mem _ (List.mem_append_right _ h)) (by decide +kernel))
set_option maxRecDepth 20000 in
theorem gL_squaresAt_X3_squaresAt : GoodIn wsL_squaresAt (wsV RL 111 RX3 yX3_squaresAt wsX3_squaresAt) := goodIn_app (goodIn_of _ (by decide +kernel)) ggL_squaresAt_X3_squaresAt
theorem dL_squaresAt_0 : decode cL_squaresAt 0 = .ok (.aload_n 2, 1) := by decide +kernel
theorem dL_squaresAt_1 : decode cL_squaresAt 1 = .ok (.iconst 0, 1) := by decide +kernel
theorem dL_squaresAt_2 : decode cL_squaresAt 2 = .ok (.aload_n 0, 1) := by decide +kernel
theorem dL_squaresAt_3 : decode cL_squaresAt 3 = .ok (.iload_n 1, 1) := by decide +kernel
theorem dL_squaresAt_4 : decode cL_squaresAt 4 = .ok (.invokevirtual 111, 3) := by decide +kernel
theorem dL_squaresAt_7 : decode cL_squaresAt 7 = .ok (.i2l, 1) := by decide +kernel
theorem dL_squaresAt_8 : decode cL_squaresAt 8 = .ok (.lastore, 1) := by decide +kernel
theorem dL_squaresAt_9 : decode cL_squaresAt 9 = .ok (.goto 6, 3) := by decide +kernel
theorem dL_squaresAt_12 : decode cL_squaresAt 12 = .ok (.astore_n 3, 1) := by decide +kernel
theorem dL_squaresAt_13 : decode cL_squaresAt 13 = .ok (.iconst 1, 1) := by decide +kernel
theorem dL_squaresAt_14 : decode cL_squaresAt 14 = .ok (.ireturn, 1) := by decide +kernel
theorem dL_squaresAt_15 : decode cL_squaresAt 15 = .ok (.iconst 0, 1) := by decide +kernel
theorem dL_squaresAt_16 : decode cL_squaresAt 16 = .ok (.ireturn, 1) := by decide +kernel
set_option maxRecDepth 20000 in
theorem ggL_firstOf_X3_firstOf : GoodIn wsL_firstOf wsX3_firstOf := goodIn_ca (goodIn_r _ [6, 7, 8, 9, 10, 11, 12, 5, 13, 14, 15, 16, 17, 18, 19, 20, 21, 22, 23, 24, 25, 26, 27] (by decide +kernel) (by decide +kernel)) (goodIn_sub (fun _ h => List.mem_cons_of_mem _ (List.mem_append_right _ h)) (by decide +kernel))
set_option maxRecDepth 20000 in
theorem gL_firstOf_X3_firstOf : GoodIn wsL_firstOf (wsV RL 114 RX3 yX3_firstOf wsX3_firstOf) := goodIn_app (goodIn_of _ (by decide +kernel)) ggL_firstOf_X3_firstOf
theorem dL_firstOf_0 : decode cL_firstOf 0 = .ok (.aload_n 2, 1) := by decide +kernel
theorem dL_firstOf_1 : decode cL_firstOf 1 = .ok (.iconst 0, 1) := by decide +kernel
theorem dL_firstOf_2 : decode cL_firstOf 2 = .ok (.aload_n 0, 1) := by decide +kernel
theorem dL_firstOf_3 : decode cL_firstOf 3 = .ok (.iload_n 1, 1) := by decide +kernel
theorem dL_firstOf_4 : decode cL_firstOf 4 = .ok (.invokevirtual 114, 3) := by decide +kernel
theorem dL_firstOf_7 : decode cL_firstOf 7 = .ok (.i2l, 1) := by decide +kernel
theorem dL_firstOf_8 : decode cL_firstOf 8 = .ok (.lastore, 1) := by decide +kernel
theorem dL_firstOf_9 : decode cL_firstOf 9 = .ok (.goto 6, 3) := by decide +kernel
theorem dL_firstOf_12 : decode cL_firstOf 12 = .ok (.astore_n 3, 1) := by decide +kernel
theorem dL_firstOf_13 : decode cL_firstOf 13 = .ok (.iconst 1, 1) := by decide +kernel
theorem dL_firstOf_14 : decode cL_firstOf 14 = .ok (.ireturn, 1) := by decide +kernel
theorem dL_firstOf_15 : decode cL_firstOf 15 = .ok (.iconst 0, 1) := by decide +kernel
theorem dL_firstOf_16 : decode cL_firstOf 16 = .ok (.ireturn, 1) := by decide +kernel
set_option maxRecDepth 20000 in
theorem ggL_loadsOf_X3_loadsOf : GoodIn wsL_loadsOf wsX3_loadsOf := goodIn_ca (goodIn_r _ [6, 7, 8, 9, 10, 11, 12, 5, 13, 14, 15, 16, 17, 18, 19, 20, 21, 22, 23, 24, 25, 26, 27] (by decide +kernel) (by decide +kernel)) (goodIn_sub (fun _ h => List.mem_cons_of_mem _ (List.mem_append_right _ h)) (by decide +kernel))
set_option maxRecDepth 20000 in
theorem gL_loadsOf_X3_loadsOf : GoodIn wsL_loadsOf (wsV RL 117 RX3 yX3_loadsOf wsX3_loadsOf) := goodIn_app (goodIn_of _ (by decide +kernel)) ggL_loadsOf_X3_loadsOf
theorem dL_loadsOf_0 : decode cL_loadsOf 0 = .ok (.aload_n 2, 1) := by decide +kernel
theorem dL_loadsOf_1 : decode cL_loadsOf 1 = .ok (.iconst 0, 1) := by decide +kernel
theorem dL_loadsOf_2 : decode cL_loadsOf 2 = .ok (.aload_n 0, 1) := by decide +kernel
theorem dL_loadsOf_3 : decode cL_loadsOf 3 = .ok (.iload_n 1, 1) := by decide +kernel
theorem dL_loadsOf_4 : decode cL_loadsOf 4 = .ok (.invokevirtual 117, 3) := by decide +kernel
theorem dL_loadsOf_7 : decode cL_loadsOf 7 = .ok (.i2l, 1) := by decide +kernel
theorem dL_loadsOf_8 : decode cL_loadsOf 8 = .ok (.lastore, 1) := by decide +kernel
theorem dL_loadsOf_9 : decode cL_loadsOf 9 = .ok (.goto 6, 3) := by decide +kernel
theorem dL_loadsOf_12 : decode cL_loadsOf 12 = .ok (.astore_n 3, 1) := by decide +kernel
theorem dL_loadsOf_13 : decode cL_loadsOf 13 = .ok (.iconst 1, 1) := by decide +kernel
theorem dL_loadsOf_14 : decode cL_loadsOf 14 = .ok (.ireturn, 1) := by decide +kernel
theorem dL_loadsOf_15 : decode cL_loadsOf 15 = .ok (.iconst 0, 1) := by decide +kernel
theorem dL_loadsOf_16 : decode cL_loadsOf 16 = .ok (.ireturn, 1) := by decide +kernel
set_option maxRecDepth 20000 in
theorem ggL_longestWait_X3_longestWait : GoodIn wsL_longestWait wsX3_longestWait := goodIn_ca (goodIn_ca (goodIn_r _ [7, 8, 9, 10, 11, 12, 13, 14, 15, 16, 17, 18, 19, 20, 21, 6, 22, 23, 24, 25, 26, 27, 28, 29, 30, 31, 32, 33, 34, 35, 36, 37, 38, 39, 40, 41, 42, 43, 44, 45, 46, 47, 48, 49, 50, 51, 52, 53, 54, 55, 56, 57, 58, 59, 60, 61, 62, 63, 64, 65] (by decide +kernel) (by decide +kernel)) (goodIn_sub (fun _ h => List.mem_cons_of_mem _ (List.mem_append_left _ (List.mem_append_right _ h))) (by decide +kernel))) (goodIn_sub (fun _ h => List.mem_cons_of_mem _ (List.mem_append_right _ h)) (by decide +kernel))
set_option maxRecDepth 20000 in
theorem gL_longestWait_X3_longestWait : GoodIn wsL_longestWait (wsV RL 120 RX3 yX3_longestWait wsX3_longestWait) := goodIn_app (goodIn_of _ (by decide +kernel)) ggL_longestWait_X3_longestWait
theorem dL_longestWait_0 : decode cL_longestWait 0 = .ok (.aload_n 2, 1) := by decide +kernel
theorem dL_longestWait_1 : decode cL_longestWait 1 = .ok (.iconst 0, 1) := by decide +kernel
theorem dL_longestWait_2 : decode cL_longestWait 2 = .ok (.aload_n 0, 1) := by decide +kernel
theorem dL_longestWait_3 : decode cL_longestWait 3 = .ok (.iload_n 1, 1) := by decide +kernel
theorem dL_longestWait_4 : decode cL_longestWait 4 = .ok (.invokevirtual 120, 3) := by decide +kernel
theorem dL_longestWait_7 : decode cL_longestWait 7 = .ok (.i2l, 1) := by decide +kernel
theorem dL_longestWait_8 : decode cL_longestWait 8 = .ok (.lastore, 1) := by decide +kernel
theorem dL_longestWait_9 : decode cL_longestWait 9 = .ok (.goto 9, 3) := by decide +kernel
theorem dL_longestWait_12 : decode cL_longestWait 12 = .ok (.astore_n 3, 1) := by decide +kernel
theorem dL_longestWait_13 : decode cL_longestWait 13 = .ok (.iconst 1, 1) := by decide +kernel
theorem dL_longestWait_14 : decode cL_longestWait 14 = .ok (.ireturn, 1) := by decide +kernel
theorem dL_longestWait_15 : decode cL_longestWait 15 = .ok (.astore_n 3, 1) := by decide +kernel
theorem dL_longestWait_16 : decode cL_longestWait 16 = .ok (.iconst 2, 1) := by decide +kernel
theorem dL_longestWait_17 : decode cL_longestWait 17 = .ok (.ireturn, 1) := by decide +kernel
theorem dL_longestWait_18 : decode cL_longestWait 18 = .ok (.iconst 0, 1) := by decide +kernel
theorem dL_longestWait_19 : decode cL_longestWait 19 = .ok (.ireturn, 1) := by decide +kernel
set_option maxRecDepth 20000 in
theorem ggL_isBroken_X3_isBroken : GoodIn wsL_isBroken wsX3_isBroken := goodIn_ca (goodIn_r _ [6, 7, 8, 9, 10, 11, 5, 12, 13, 14, 15, 16, 17, 18, 19, 20, 21, 22, 23, 24, 25, 26, 27, 28, 29, 30, 31, 32, 33, 34, 35, 36, 37, 38, 39, 40, 41] (by decide +kernel) (by decide +kernel)) (goodIn_sub (fun _ h => List.mem_cons_of_mem _ (List.mem_append_right _ h)) (by decide +kernel))
set_option maxRecDepth 20000 in
theorem gL_isBroken_X3_isBroken : GoodIn wsL_isBroken (wsV RL 123 RX3 yX3_isBroken wsX3_isBroken) := goodIn_app (goodIn_of _ (by decide +kernel)) ggL_isBroken_X3_isBroken
theorem dL_isBroken_0 : decode cL_isBroken 0 = .ok (.aload_n 2, 1) := by decide +kernel
theorem dL_isBroken_1 : decode cL_isBroken 1 = .ok (.iconst 0, 1) := by decide +kernel
theorem dL_isBroken_2 : decode cL_isBroken 2 = .ok (.aload_n 0, 1) := by decide +kernel
theorem dL_isBroken_3 : decode cL_isBroken 3 = .ok (.iload_n 1, 1) := by decide +kernel
theorem dL_isBroken_4 : decode cL_isBroken 4 = .ok (.invokevirtual 123, 3) := by decide +kernel
theorem dL_isBroken_7 : decode cL_isBroken 7 = .ok (.ifCond .eq 7, 3) := by decide +kernel
theorem dL_isBroken_10 : decode cL_isBroken 10 = .ok (.lconst 1, 1) := by decide +kernel
theorem dL_isBroken_11 : decode cL_isBroken 11 = .ok (.goto 4, 3) := by decide +kernel
theorem dL_isBroken_14 : decode cL_isBroken 14 = .ok (.lconst 0, 1) := by decide +kernel
theorem dL_isBroken_15 : decode cL_isBroken 15 = .ok (.lastore, 1) := by decide +kernel
theorem dL_isBroken_16 : decode cL_isBroken 16 = .ok (.goto 6, 3) := by decide +kernel
theorem dL_isBroken_19 : decode cL_isBroken 19 = .ok (.astore_n 3, 1) := by decide +kernel
theorem dL_isBroken_20 : decode cL_isBroken 20 = .ok (.iconst 1, 1) := by decide +kernel
theorem dL_isBroken_21 : decode cL_isBroken 21 = .ok (.ireturn, 1) := by decide +kernel
theorem dL_isBroken_22 : decode cL_isBroken 22 = .ok (.iconst 0, 1) := by decide +kernel
theorem dL_isBroken_23 : decode cL_isBroken 23 = .ok (.ireturn, 1) := by decide +kernel
set_option maxRecDepth 20000 in
theorem ggL_minutesOf_X3_minutesOf : GoodIn wsL_minutesOf wsX3_minutesOf := goodIn_ca (goodIn_r _ [6, 7, 8, 9, 10, 11, 12, 13, 5, 14, 15, 16, 17, 18, 19, 20, 21, 22, 23, 24, 25, 26, 27, 28, 29, 30, 31, 32, 33, 34, 35, 36, 37, 38, 39, 40, 41, 42, 43, 44, 45, 46, 47] (by decide +kernel) (by decide +kernel)) (goodIn_sub (fun _ h => List.mem_cons_of_mem _ (List.mem_append_right _ h)) (by decide +kernel))
set_option maxRecDepth 20000 in
theorem gL_minutesOf_X3_minutesOf : GoodIn wsL_minutesOf (wsV RL 127 RX3 yX3_minutesOf wsX3_minutesOf) := goodIn_app (goodIn_of _ (by decide +kernel)) ggL_minutesOf_X3_minutesOf
theorem dL_minutesOf_0 : decode cL_minutesOf 0 = .ok (.aload_n 2, 1) := by decide +kernel
theorem dL_minutesOf_1 : decode cL_minutesOf 1 = .ok (.iconst 0, 1) := by decide +kernel
theorem dL_minutesOf_2 : decode cL_minutesOf 2 = .ok (.aload_n 0, 1) := by decide +kernel
theorem dL_minutesOf_3 : decode cL_minutesOf 3 = .ok (.iload_n 1, 1) := by decide +kernel
theorem dL_minutesOf_4 : decode cL_minutesOf 4 = .ok (.invokevirtual 127, 3) := by decide +kernel
theorem dL_minutesOf_7 : decode cL_minutesOf 7 = .ok (.i2l, 1) := by decide +kernel
theorem dL_minutesOf_8 : decode cL_minutesOf 8 = .ok (.lastore, 1) := by decide +kernel
theorem dL_minutesOf_9 : decode cL_minutesOf 9 = .ok (.goto 6, 3) := by decide +kernel
theorem dL_minutesOf_12 : decode cL_minutesOf 12 = .ok (.astore_n 3, 1) := by decide +kernel
theorem dL_minutesOf_13 : decode cL_minutesOf 13 = .ok (.iconst 1, 1) := by decide +kernel
theorem dL_minutesOf_14 : decode cL_minutesOf 14 = .ok (.ireturn, 1) := by decide +kernel
theorem dL_minutesOf_15 : decode cL_minutesOf 15 = .ok (.iconst 0, 1) := by decide +kernel
theorem dL_minutesOf_16 : decode cL_minutesOf 16 = .ok (.ireturn, 1) := by decide +kernel
set_option maxRecDepth 20000 in
theorem ggL_code_X3_code : GoodIn wsL_code wsX3_code := goodIn_ca (goodIn_r _ [6, 7, 8, 9, 10, 11, 12, 13, 14, 15, 5, 16, 17, 18, 19, 20, 21, 22, 23, 24, 25, 26, 27, 28, 29, 30, 31, 32, 33] (by decide +kernel) (by decide +kernel)) (goodIn_sub (fun _ h => List.mem_cons_of_mem _ (List.mem_append_right _ h)) (by decide +kernel))
set_option maxRecDepth 20000 in
theorem gL_code_X3_code : GoodIn wsL_code (wsV RL 130 RX3 yX3_code wsX3_code) := goodIn_app (goodIn_of _ (by decide +kernel)) ggL_code_X3_code
theorem dL_code_0 : decode cL_code 0 = .ok (.aload_n 2, 1) := by decide +kernel
theorem dL_code_1 : decode cL_code 1 = .ok (.iconst 0, 1) := by decide +kernel
theorem dL_code_2 : decode cL_code 2 = .ok (.aload_n 0, 1) := by decide +kernel
theorem dL_code_3 : decode cL_code 3 = .ok (.iload_n 1, 1) := by decide +kernel
theorem dL_code_4 : decode cL_code 4 = .ok (.invokevirtual 130, 3) := by decide +kernel
theorem dL_code_7 : decode cL_code 7 = .ok (.i2l, 1) := by decide +kernel
theorem dL_code_8 : decode cL_code 8 = .ok (.lastore, 1) := by decide +kernel
theorem dL_code_9 : decode cL_code 9 = .ok (.goto 6, 3) := by decide +kernel
theorem dL_code_12 : decode cL_code 12 = .ok (.astore_n 3, 1) := by decide +kernel
theorem dL_code_13 : decode cL_code 13 = .ok (.iconst 1, 1) := by decide +kernel
theorem dL_code_14 : decode cL_code 14 = .ok (.ireturn, 1) := by decide +kernel
theorem dL_code_15 : decode cL_code 15 = .ok (.iconst 0, 1) := by decide +kernel
theorem dL_code_16 : decode cL_code 16 = .ok (.ireturn, 1) := by decide +kernel
set_option maxRecDepth 20000 in
theorem ggL_workShare_X3_workShare : GoodIn wsL_workShare wsX3_workShare := goodIn_ca (goodIn_ca (goodIn_r _ [7, 8, 9, 10, 11, 12, 13, 14, 6, 15, 16, 17, 18, 19, 20, 21, 22, 23, 24, 25, 26, 27, 28, 29, 30, 31, 32, 33, 34, 35, 36, 37, 38, 39, 40, 41, 42, 43, 44, 45, 46, 47, 48, 49, 50, 51, 52, 53, 54, 55, 56, 57, 58, 59, 60, 61, 62, 63, 64, 65, 66, 67, 68, 69, 70, 71, 72, 73, 74, 75, 76, 77, 78, 79, 80, 81, 82, 83] (by decide +kernel) (by decide +kernel)) (goodIn_sub (fun _ h => List.mem_cons_of_mem _ (List.mem_append_left _ (List.mem_append_right _ h))) (by decide +kernel))) (goodIn_sub (fun _ h => List.mem_cons_of_mem _ (List.mem_append_right _ h)) (by decide +kernel))
set_option maxRecDepth 20000 in
theorem gL_workShare_X3_workShare : GoodIn wsL_workShare (wsV RL 133 RX3 yX3_workShare wsX3_workShare) := goodIn_app (goodIn_of _ (by decide +kernel)) ggL_workShare_X3_workShare
theorem dL_workShare_0 : decode cL_workShare 0 = .ok (.aload_n 2, 1) := by decide +kernel
theorem dL_workShare_1 : decode cL_workShare 1 = .ok (.iconst 0, 1) := by decide +kernel
theorem dL_workShare_2 : decode cL_workShare 2 = .ok (.aload_n 0, 1) := by decide +kernel
theorem dL_workShare_3 : decode cL_workShare 3 = .ok (.iload_n 1, 1) := by decide +kernel
theorem dL_workShare_4 : decode cL_workShare 4 = .ok (.invokevirtual 133, 3) := by decide +kernel
theorem dL_workShare_7 : decode cL_workShare 7 = .ok (.f2d, 1) := by decide +kernel
theorem dL_workShare_8 : decode cL_workShare 8 = .ok (.dastore, 1) := by decide +kernel
theorem dL_workShare_9 : decode cL_workShare 9 = .ok (.goto 9, 3) := by decide +kernel
theorem dL_workShare_12 : decode cL_workShare 12 = .ok (.astore_n 3, 1) := by decide +kernel
theorem dL_workShare_13 : decode cL_workShare 13 = .ok (.iconst 1, 1) := by decide +kernel
theorem dL_workShare_14 : decode cL_workShare 14 = .ok (.ireturn, 1) := by decide +kernel
theorem dL_workShare_15 : decode cL_workShare 15 = .ok (.astore_n 3, 1) := by decide +kernel
theorem dL_workShare_16 : decode cL_workShare 16 = .ok (.iconst 2, 1) := by decide +kernel
theorem dL_workShare_17 : decode cL_workShare 17 = .ok (.ireturn, 1) := by decide +kernel
theorem dL_workShare_18 : decode cL_workShare 18 = .ok (.iconst 0, 1) := by decide +kernel
theorem dL_workShare_19 : decode cL_workShare 19 = .ok (.ireturn, 1) := by decide +kernel
set_option maxRecDepth 20000 in
theorem ggL_meanStart_X3_meanStart : GoodIn wsL_meanStart wsX3_meanStart := goodIn_ca (goodIn_r _ [6, 7, 8, 9, 10, 11, 12, 13, 14, 15, 16, 17, 18, 19, 20, 21, 22, 23, 24, 25, 26, 27, 28, 29, 30, 31, 32, 33, 34, 35, 36, 37] (by decide +kernel) (by decide +kernel)) (goodIn_sub (fun _ h => List.mem_cons_of_mem _ (List.mem_append_right _ h)) (by decide +kernel))
set_option maxRecDepth 20000 in
theorem gL_meanStart_X3_meanStart : GoodIn wsL_meanStart (wsV RL 139 RX3 yX3_meanStart wsX3_meanStart) := goodIn_app (goodIn_of _ (by decide +kernel)) ggL_meanStart_X3_meanStart
theorem dL_meanStart_0 : decode cL_meanStart 0 = .ok (.aload_n 1, 1) := by decide +kernel
theorem dL_meanStart_1 : decode cL_meanStart 1 = .ok (.iconst 0, 1) := by decide +kernel
theorem dL_meanStart_2 : decode cL_meanStart 2 = .ok (.aload_n 0, 1) := by decide +kernel
theorem dL_meanStart_3 : decode cL_meanStart 3 = .ok (.invokevirtual 139, 3) := by decide +kernel
theorem dL_meanStart_6 : decode cL_meanStart 6 = .ok (.dastore, 1) := by decide +kernel
theorem dL_meanStart_7 : decode cL_meanStart 7 = .ok (.goto 6, 3) := by decide +kernel
theorem dL_meanStart_10 : decode cL_meanStart 10 = .ok (.astore_n 2, 1) := by decide +kernel
theorem dL_meanStart_11 : decode cL_meanStart 11 = .ok (.iconst 1, 1) := by decide +kernel
theorem dL_meanStart_12 : decode cL_meanStart 12 = .ok (.ireturn, 1) := by decide +kernel
theorem dL_meanStart_13 : decode cL_meanStart 13 = .ok (.iconst 0, 1) := by decide +kernel
theorem dL_meanStart_14 : decode cL_meanStart 14 = .ok (.ireturn, 1) := by decide +kernel
