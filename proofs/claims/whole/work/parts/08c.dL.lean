theorem dL_snow_0 : decode cL_snow 0 = .ok (.aload_n 3, 1) := by decide +kernel
theorem dL_snow_1 : decode cL_snow 1 = .ok (.iconst 0, 1) := by decide +kernel
theorem dL_snow_2 : decode cL_snow 2 = .ok (.aload_n 0, 1) := by decide +kernel
theorem dL_snow_3 : decode cL_snow 3 = .ok (.iload_n 1, 1) := by decide +kernel
theorem dL_snow_4 : decode cL_snow 4 = .ok (.iload_n 2, 1) := by decide +kernel
theorem dL_snow_5 : decode cL_snow 5 = .ok (.invokevirtual 7, 3) := by decide +kernel
theorem dL_snow_8 : decode cL_snow 8 = .ok (.i2l, 1) := by decide +kernel
theorem dL_snow_9 : decode cL_snow 9 = .ok (.lastore, 1) := by decide +kernel
theorem dL_snow_10 : decode cL_snow 10 = .ok (.goto 15, 3) := by decide +kernel
theorem dL_snow_13 : decode cL_snow 13 = .ok (.astore 4, 2) := by decide +kernel
theorem dL_snow_15 : decode cL_snow 15 = .ok (.iconst 1, 1) := by decide +kernel
theorem dL_snow_16 : decode cL_snow 16 = .ok (.ireturn, 1) := by decide +kernel
theorem dL_snow_17 : decode cL_snow 17 = .ok (.astore 4, 2) := by decide +kernel
theorem dL_snow_19 : decode cL_snow 19 = .ok (.iconst 2, 1) := by decide +kernel
theorem dL_snow_20 : decode cL_snow 20 = .ok (.ireturn, 1) := by decide +kernel
theorem dL_snow_21 : decode cL_snow 21 = .ok (.astore 4, 2) := by decide +kernel
theorem dL_snow_23 : decode cL_snow 23 = .ok (.iconst 3, 1) := by decide +kernel
theorem dL_snow_24 : decode cL_snow 24 = .ok (.ireturn, 1) := by decide +kernel
theorem dL_snow_25 : decode cL_snow 25 = .ok (.iconst 0, 1) := by decide +kernel
theorem dL_snow_26 : decode cL_snow 26 = .ok (.ireturn, 1) := by decide +kernel
set_option maxRecDepth 20000 in
theorem ggL_melt_X3_melt : GoodIn wsL_melt wsX3_melt := goodIn_ca (goodIn_ca (goodIn_ca (goodIn_r _ [8, 9, 10, 7, 11, 12, 13, 14, 15, 16, 17, 18, 19, 20, 21, 22, 23, 24, 25, 26, 27, 28, 29, 30, 31, 32, 33, 34, 35, 36, 37, 38, 39, 40, 41, 42, 43, 44, 45, 46, 47, 48, 49, 50, 51, 52, 53, 54, 55, 56, 57, 58, 59, 60, 61, 62, 63, 64, 65, 66, 67, 68, 69, 70, 71, 72, 73, 74, 75, 76, 77, 78, 79, 80, 81, 82, 83, 84, 85, 86, 87, 88, 89, 90, 91, 92, 93, 94, 95, 96, 97, 98, 99, 100] (by decide +kernel) (by decide +kernel)) (goodIn_sub (fun _ h => List.mem_cons_of_mem _ (List.mem_append_left _ (List.mem_append_left _ (List.mem_append_right _ h)))) (by decide +kernel))) (goodIn_sub (fun _ h => List.mem_cons_of_mem _ (List.mem_append_left _ (List.mem_append_right _ h))) (by decide +kernel))) (goodIn_sub (fun _ h => List.mem_cons_of_mem _ (List.mem_append_right _ h)) (by decide +kernel))
set_option maxRecDepth 20000 in
theorem gL_melt_X3_melt : GoodIn wsL_melt (wsV RL 19 RX3 yX3_melt wsX3_melt) := goodIn_app (goodIn_of _ (by decide +kernel)) ggL_melt_X3_melt
theorem dL_melt_0 : decode cL_melt 0 = .ok (.aload_n 3, 1) := by decide +kernel
theorem dL_melt_1 : decode cL_melt 1 = .ok (.iconst 0, 1) := by decide +kernel
theorem dL_melt_2 : decode cL_melt 2 = .ok (.aload_n 0, 1) := by decide +kernel
theorem dL_melt_3 : decode cL_melt 3 = .ok (.iload_n 1, 1) := by decide +kernel
theorem dL_melt_4 : decode cL_melt 4 = .ok (.iload_n 2, 1) := by decide +kernel
theorem dL_melt_5 : decode cL_melt 5 = .ok (.invokevirtual 19, 3) := by decide +kernel
theorem dL_melt_8 : decode cL_melt 8 = .ok (.i2l, 1) := by decide +kernel
theorem dL_melt_9 : decode cL_melt 9 = .ok (.lastore, 1) := by decide +kernel
theorem dL_melt_10 : decode cL_melt 10 = .ok (.goto 15, 3) := by decide +kernel
theorem dL_melt_13 : decode cL_melt 13 = .ok (.astore 4, 2) := by decide +kernel
theorem dL_melt_15 : decode cL_melt 15 = .ok (.iconst 1, 1) := by decide +kernel
theorem dL_melt_16 : decode cL_melt 16 = .ok (.ireturn, 1) := by decide +kernel
theorem dL_melt_17 : decode cL_melt 17 = .ok (.astore 4, 2) := by decide +kernel
theorem dL_melt_19 : decode cL_melt 19 = .ok (.iconst 2, 1) := by decide +kernel
theorem dL_melt_20 : decode cL_melt 20 = .ok (.ireturn, 1) := by decide +kernel
theorem dL_melt_21 : decode cL_melt 21 = .ok (.astore 4, 2) := by decide +kernel
theorem dL_melt_23 : decode cL_melt 23 = .ok (.iconst 3, 1) := by decide +kernel
theorem dL_melt_24 : decode cL_melt 24 = .ok (.ireturn, 1) := by decide +kernel
theorem dL_melt_25 : decode cL_melt 25 = .ok (.iconst 0, 1) := by decide +kernel
theorem dL_melt_26 : decode cL_melt 26 = .ok (.ireturn, 1) := by decide +kernel
set_option maxRecDepth 20000 in
theorem ggL_flow_X3_flow : GoodIn wsL_flow wsX3_flow := goodIn_ca (goodIn_ca (goodIn_r _ [7, 8, 9, 6, 10, 11, 12, 13, 14, 15, 16, 17, 18, 19, 20, 21, 22, 23, 24, 25, 26, 27, 28, 29, 30, 31, 32, 33, 34, 35, 36, 37, 38, 39, 40, 41, 42, 43, 44, 45, 46, 47, 48, 49, 50, 51, 52, 53, 54, 55, 56, 57, 58, 59, 60, 61, 62, 63, 64, 65, 66, 67, 68, 69, 70, 71, 72, 73, 74, 75, 76, 77, 78, 79, 80, 81, 82, 83, 84, 85, 86, 87, 88, 89, 90, 91, 92, 93, 94] (by decide +kernel) (by decide +kernel)) (goodIn_sub (fun _ h => List.mem_cons_of_mem _ (List.mem_append_left _ (List.mem_append_right _ h))) (by decide +kernel))) (goodIn_sub (fun _ h => List.mem_cons_of_mem _ (List.mem_append_right _ h)) (by decide +kernel))
set_option maxRecDepth 20000 in
theorem gL_flow_X3_flow : GoodIn wsL_flow (wsV RL 22 RX3 yX3_flow wsX3_flow) := goodIn_app (goodIn_of _ (by decide +kernel)) ggL_flow_X3_flow
theorem dL_flow_0 : decode cL_flow 0 = .ok (.aload_n 2, 1) := by decide +kernel
theorem dL_flow_1 : decode cL_flow 1 = .ok (.iconst 0, 1) := by decide +kernel
theorem dL_flow_2 : decode cL_flow 2 = .ok (.aload_n 0, 1) := by decide +kernel
theorem dL_flow_3 : decode cL_flow 3 = .ok (.iload_n 1, 1) := by decide +kernel
theorem dL_flow_4 : decode cL_flow 4 = .ok (.invokevirtual 22, 3) := by decide +kernel
theorem dL_flow_7 : decode cL_flow 7 = .ok (.i2l, 1) := by decide +kernel
theorem dL_flow_8 : decode cL_flow 8 = .ok (.lastore, 1) := by decide +kernel
theorem dL_flow_9 : decode cL_flow 9 = .ok (.goto 9, 3) := by decide +kernel
theorem dL_flow_12 : decode cL_flow 12 = .ok (.astore_n 3, 1) := by decide +kernel
theorem dL_flow_13 : decode cL_flow 13 = .ok (.iconst 1, 1) := by decide +kernel
theorem dL_flow_14 : decode cL_flow 14 = .ok (.ireturn, 1) := by decide +kernel
theorem dL_flow_15 : decode cL_flow 15 = .ok (.astore_n 3, 1) := by decide +kernel
theorem dL_flow_16 : decode cL_flow 16 = .ok (.iconst 2, 1) := by decide +kernel
theorem dL_flow_17 : decode cL_flow 17 = .ok (.ireturn, 1) := by decide +kernel
theorem dL_flow_18 : decode cL_flow 18 = .ok (.iconst 0, 1) := by decide +kernel
theorem dL_flow_19 : decode cL_flow 19 = .ok (.ireturn, 1) := by decide +kernel
set_option maxRecDepth 20000 in
theorem ggL_endYear_X3_endYear : GoodIn wsL_endYear wsX3_endYear := goodIn_ca (goodIn_r _ [6, 7, 8, 9, 10, 11, 12, 13, 14, 15, 16, 17, 18, 19, 20, 21, 22, 23, 24, 25, 26, 27, 28, 29, 30, 31, 32, 33, 34, 35, 36, 37, 38, 39, 40, 41, 42, 43, 44, 45, 46, 47, 48, 49, 50, 51, 52, 53, 54, 55, 56, 57, 58, 59, 60, 61, 62, 63, 64, 65, 66, 67, 68, 69, 70, 71, 72, 73, 74, 75, 76, 77, 78, 79, 80, 81, 82, 83, 84, 85, 86, 87, 88, 89, 90, 91, 92, 93, 94, 95, 96, 97, 98, 99, 100, 101, 102, 103, 104] (by decide +kernel) (by decide +kernel)) (goodIn_sub (fun _ h => List.mem_cons_of_mem _ (List.mem_append_right _ h)) (by decide +kernel))
set_option maxRecDepth 20000 in
theorem gL_endYear_X3_endYear : GoodIn wsL_endYear (wsV RL 26 RX3 yX3_endYear wsX3_endYear) := goodIn_app (goodIn_of _ (by decide +kernel)) ggL_endYear_X3_endYear
theorem dL_endYear_0 : decode cL_endYear 0 = .ok (.aload_n 2, 1) := by decide +kernel
theorem dL_endYear_1 : decode cL_endYear 1 = .ok (.iconst 0, 1) := by decide +kernel
theorem dL_endYear_2 : decode cL_endYear 2 = .ok (.aload_n 0, 1) := by decide +kernel
theorem dL_endYear_3 : decode cL_endYear 3 = .ok (.iload_n 1, 1) := by decide +kernel
theorem dL_endYear_4 : decode cL_endYear 4 = .ok (.invokevirtual 26, 3) := by decide +kernel
theorem dL_endYear_7 : decode cL_endYear 7 = .ok (.i2l, 1) := by decide +kernel
theorem dL_endYear_8 : decode cL_endYear 8 = .ok (.lastore, 1) := by decide +kernel
theorem dL_endYear_9 : decode cL_endYear 9 = .ok (.goto 6, 3) := by decide +kernel
theorem dL_endYear_12 : decode cL_endYear 12 = .ok (.astore_n 3, 1) := by decide +kernel
theorem dL_endYear_13 : decode cL_endYear 13 = .ok (.iconst 1, 1) := by decide +kernel
theorem dL_endYear_14 : decode cL_endYear 14 = .ok (.ireturn, 1) := by decide +kernel
theorem dL_endYear_15 : decode cL_endYear 15 = .ok (.iconst 0, 1) := by decide +kernel
theorem dL_endYear_16 : decode cL_endYear 16 = .ok (.ireturn, 1) := by decide +kernel
set_option maxRecDepth 20000 in
theorem ggL_compact_X3_compact : GoodIn wsL_compact wsX3_compact := goodIn_ca (goodIn_ca (goodIn_r _ [7, 8, 9, 10, 11, 12, 13, 14, 15, 16, 17, 18, 19, 20, 21, 22, 23, 24, 25, 26, 27, 28, 29, 30, 31, 32, 33, 34, 35, 36, 37, 38, 39, 40, 41, 42, 43, 44, 45, 46, 47, 48, 49, 50, 51, 52, 53, 54, 55, 56, 57, 58, 59, 60, 61, 62, 63, 64, 65, 66, 67, 68] (by decide +kernel) (by decide +kernel)) (goodIn_sub (fun _ h => List.mem_cons_of_mem _ (List.mem_append_left _ (List.mem_append_right _ h))) (by decide +kernel))) (goodIn_sub (fun _ h => List.mem_cons_of_mem _ (List.mem_append_right _ h)) (by decide +kernel))
set_option maxRecDepth 20000 in
theorem gL_compact_X3_compact : GoodIn wsL_compact (wsV RL 30 RX3 yX3_compact wsX3_compact) := goodIn_app (goodIn_of _ (by decide +kernel)) ggL_compact_X3_compact
theorem dL_compact_0 : decode cL_compact 0 = .ok (.aload_n 2, 1) := by decide +kernel
theorem dL_compact_1 : decode cL_compact 1 = .ok (.iconst 0, 1) := by decide +kernel
theorem dL_compact_2 : decode cL_compact 2 = .ok (.aload_n 0, 1) := by decide +kernel
theorem dL_compact_3 : decode cL_compact 3 = .ok (.iload_n 1, 1) := by decide +kernel
theorem dL_compact_4 : decode cL_compact 4 = .ok (.invokevirtual 30, 3) := by decide +kernel
theorem dL_compact_7 : decode cL_compact 7 = .ok (.i2l, 1) := by decide +kernel
theorem dL_compact_8 : decode cL_compact 8 = .ok (.lastore, 1) := by decide +kernel
theorem dL_compact_9 : decode cL_compact 9 = .ok (.goto 9, 3) := by decide +kernel
theorem dL_compact_12 : decode cL_compact 12 = .ok (.astore_n 3, 1) := by decide +kernel
theorem dL_compact_13 : decode cL_compact 13 = .ok (.iconst 1, 1) := by decide +kernel
theorem dL_compact_14 : decode cL_compact 14 = .ok (.ireturn, 1) := by decide +kernel
theorem dL_compact_15 : decode cL_compact 15 = .ok (.astore_n 3, 1) := by decide +kernel
theorem dL_compact_16 : decode cL_compact 16 = .ok (.iconst 2, 1) := by decide +kernel
theorem dL_compact_17 : decode cL_compact 17 = .ok (.ireturn, 1) := by decide +kernel
theorem dL_compact_18 : decode cL_compact 18 = .ok (.iconst 0, 1) := by decide +kernel
theorem dL_compact_19 : decode cL_compact 19 = .ok (.ireturn, 1) := by decide +kernel
set_option maxRecDepth 20000 in
theorem ggL_forge_X3_forge : GoodIn wsL_forge wsX3_forge := goodIn_ca (goodIn_ca (goodIn_r _ [7, 8, 9, 10, 11, 12, 13, 14, 15, 6, 16, 17, 18, 19, 20, 21, 22, 23, 24, 25, 26, 27, 28, 29, 30, 31, 32, 33, 34, 35, 36, 37, 38, 39, 40, 41, 42, 43, 44, 45, 46, 47, 48, 49, 50, 51, 52, 53, 54, 55, 56, 57, 58, 59, 60, 61, 62, 63, 64, 65] (by decide +kernel) (by decide +kernel)) (goodIn_sub (fun _ h => List.mem_cons_of_mem _ (List.mem_append_left _ (List.mem_append_right _ h))) (by decide +kernel))) (goodIn_sub (fun _ h => List.mem_cons_of_mem _ (List.mem_append_right _ h)) (by decide +kernel))
set_option maxRecDepth 20000 in
theorem gL_forge_X3_forge : GoodIn wsL_forge (wsV RL 33 RX3 yX3_forge wsX3_forge) := goodIn_app (goodIn_of _ (by decide +kernel)) ggL_forge_X3_forge
theorem dL_forge_0 : decode cL_forge 0 = .ok (.aload 4, 2) := by decide +kernel
theorem dL_forge_2 : decode cL_forge 2 = .ok (.iconst 0, 1) := by decide +kernel
theorem dL_forge_3 : decode cL_forge 3 = .ok (.aload_n 0, 1) := by decide +kernel
theorem dL_forge_4 : decode cL_forge 4 = .ok (.iload_n 1, 1) := by decide +kernel
theorem dL_forge_5 : decode cL_forge 5 = .ok (.iload_n 2, 1) := by decide +kernel
theorem dL_forge_6 : decode cL_forge 6 = .ok (.iload_n 3, 1) := by decide +kernel
theorem dL_forge_7 : decode cL_forge 7 = .ok (.invokevirtual 33, 3) := by decide +kernel
theorem dL_forge_10 : decode cL_forge 10 = .ok (.i2l, 1) := by decide +kernel
theorem dL_forge_11 : decode cL_forge 11 = .ok (.lastore, 1) := by decide +kernel
theorem dL_forge_12 : decode cL_forge 12 = .ok (.goto 11, 3) := by decide +kernel
theorem dL_forge_15 : decode cL_forge 15 = .ok (.astore 5, 2) := by decide +kernel
theorem dL_forge_17 : decode cL_forge 17 = .ok (.iconst 1, 1) := by decide +kernel
theorem dL_forge_18 : decode cL_forge 18 = .ok (.ireturn, 1) := by decide +kernel
theorem dL_forge_19 : decode cL_forge 19 = .ok (.astore 5, 2) := by decide +kernel
theorem dL_forge_21 : decode cL_forge 21 = .ok (.iconst 2, 1) := by decide +kernel
theorem dL_forge_22 : decode cL_forge 22 = .ok (.ireturn, 1) := by decide +kernel
theorem dL_forge_23 : decode cL_forge 23 = .ok (.iconst 0, 1) := by decide +kernel
theorem dL_forge_24 : decode cL_forge 24 = .ok (.ireturn, 1) := by decide +kernel
set_option maxRecDepth 20000 in
theorem ggL_throwAway_X3_throwAway : GoodIn wsL_throwAway wsX3_throwAway := goodIn_ca (goodIn_ca (goodIn_r _ [7, 8, 9, 10, 11, 12, 13, 14, 15, 16, 17, 18, 19, 20, 21, 22, 23, 24, 25, 26, 27, 28, 29, 30, 31, 32, 33, 34, 35, 36, 37, 38, 39, 40, 41, 42, 43, 44, 45, 46, 47, 48, 49, 50, 51, 52, 53, 54, 55, 56, 57, 58, 59, 60, 61] (by decide +kernel) (by decide +kernel)) (goodIn_sub (fun _ h => List.mem_cons_of_mem _ (List.mem_append_left _ (List.mem_append_right _ h))) (by decide +kernel))) (goodIn_sub (fun _ h => List.mem_cons_of_mem _ (List.mem_append_right _ h)) (by decide +kernel))
set_option maxRecDepth 20000 in
theorem gL_throwAway_X3_throwAway : GoodIn wsL_throwAway (wsV RL 37 RX3 yX3_throwAway wsX3_throwAway) := goodIn_app (goodIn_of _ (by decide +kernel)) ggL_throwAway_X3_throwAway
theorem dL_throwAway_0 : decode cL_throwAway 0 = .ok (.aload_n 2, 1) := by decide +kernel
theorem dL_throwAway_1 : decode cL_throwAway 1 = .ok (.iconst 0, 1) := by decide +kernel
theorem dL_throwAway_2 : decode cL_throwAway 2 = .ok (.aload_n 0, 1) := by decide +kernel
theorem dL_throwAway_3 : decode cL_throwAway 3 = .ok (.iload_n 1, 1) := by decide +kernel
theorem dL_throwAway_4 : decode cL_throwAway 4 = .ok (.invokevirtual 37, 3) := by decide +kernel
theorem dL_throwAway_7 : decode cL_throwAway 7 = .ok (.i2l, 1) := by decide +kernel
theorem dL_throwAway_8 : decode cL_throwAway 8 = .ok (.lastore, 1) := by decide +kernel
theorem dL_throwAway_9 : decode cL_throwAway 9 = .ok (.goto 9, 3) := by decide +kernel
theorem dL_throwAway_12 : decode cL_throwAway 12 = .ok (.astore_n 3, 1) := by decide +kernel
theorem dL_throwAway_13 : decode cL_throwAway 13 = .ok (.iconst 1, 1) := by decide +kernel
theorem dL_throwAway_14 : decode cL_throwAway 14 = .ok (.ireturn, 1) := by decide +kernel
theorem dL_throwAway_15 : decode cL_throwAway 15 = .ok (.astore_n 3, 1) := by decide +kernel
theorem dL_throwAway_16 : decode cL_throwAway 16 = .ok (.iconst 2, 1) := by decide +kernel
theorem dL_throwAway_17 : decode cL_throwAway 17 = .ok (.ireturn, 1) := by decide +kernel
theorem dL_throwAway_18 : decode cL_throwAway 18 = .ok (.iconst 0, 1) := by decide +kernel
theorem dL_throwAway_19 : decode cL_throwAway 19 = .ok (.ireturn, 1) := by decide +kernel
set_option maxRecDepth 20000 in
theorem ggL_iceAt_X3_iceAt : GoodIn wsL_iceAt wsX3_iceAt := goodIn_ca (goodIn_r _ [6, 7, 8, 9, 5, 10, 11, 12, 13, 14, 15, 16, 17, 18, 19, 20, 21, 22, 23, 24, 25, 26] (by decide +kernel) (by decide +kernel)) (goodIn_sub (fun _ h => List.mem_cons_of_mem _ (List.mem_append_right _ h)) (by decide +kernel))
set_option maxRecDepth 20000 in
theorem gL_iceAt_X3_iceAt : GoodIn wsL_iceAt (wsV RL 40 RX3 yX3_iceAt wsX3_iceAt) := goodIn_app (goodIn_of _ (by decide +kernel)) ggL_iceAt_X3_iceAt
theorem dL_iceAt_0 : decode cL_iceAt 0 = .ok (.aload_n 2, 1) := by decide +kernel
theorem dL_iceAt_1 : decode cL_iceAt 1 = .ok (.iconst 0, 1) := by decide +kernel
theorem dL_iceAt_2 : decode cL_iceAt 2 = .ok (.aload_n 0, 1) := by decide +kernel
theorem dL_iceAt_3 : decode cL_iceAt 3 = .ok (.iload_n 1, 1) := by decide +kernel
theorem dL_iceAt_4 : decode cL_iceAt 4 = .ok (.invokevirtual 40, 3) := by decide +kernel
theorem dL_iceAt_7 : decode cL_iceAt 7 = .ok (.i2l, 1) := by decide +kernel
theorem dL_iceAt_8 : decode cL_iceAt 8 = .ok (.lastore, 1) := by decide +kernel
theorem dL_iceAt_9 : decode cL_iceAt 9 = .ok (.goto 6, 3) := by decide +kernel
theorem dL_iceAt_12 : decode cL_iceAt 12 = .ok (.astore_n 3, 1) := by decide +kernel
theorem dL_iceAt_13 : decode cL_iceAt 13 = .ok (.iconst 1, 1) := by decide +kernel
theorem dL_iceAt_14 : decode cL_iceAt 14 = .ok (.ireturn, 1) := by decide +kernel
theorem dL_iceAt_15 : decode cL_iceAt 15 = .ok (.iconst 0, 1) := by decide +kernel
theorem dL_iceAt_16 : decode cL_iceAt 16 = .ok (.ireturn, 1) := by decide +kernel
set_option maxRecDepth 20000 in
theorem ggL_deedsOf_X3_deedsOf : GoodIn wsL_deedsOf wsX3_deedsOf := goodIn_ca (goodIn_r _ [6, 7, 8, 9, 10, 5, 11, 12, 13, 14, 15, 16, 17, 18, 19, 20, 21, 22, 23, 24, 25, 26, 27, 28, 29, 30, 31, 32, 33, 34, 35, 36, 37, 38] (by decide +kernel) (by decide +kernel)) (goodIn_sub (fun _ h => List.mem_cons_of_mem _ (List.mem_append_right _ h)) (by decide +kernel))
set_option maxRecDepth 20000 in
theorem gL_deedsOf_X3_deedsOf : GoodIn wsL_deedsOf (wsV RL 43 RX3 yX3_deedsOf wsX3_deedsOf) := goodIn_app (goodIn_of _ (by decide +kernel)) ggL_deedsOf_X3_deedsOf
theorem dL_deedsOf_0 : decode cL_deedsOf 0 = .ok (.aload_n 2, 1) := by decide +kernel
theorem dL_deedsOf_1 : decode cL_deedsOf 1 = .ok (.iconst 0, 1) := by decide +kernel
theorem dL_deedsOf_2 : decode cL_deedsOf 2 = .ok (.aload_n 0, 1) := by decide +kernel
theorem dL_deedsOf_3 : decode cL_deedsOf 3 = .ok (.iload_n 1, 1) := by decide +kernel
theorem dL_deedsOf_4 : decode cL_deedsOf 4 = .ok (.invokevirtual 43, 3) := by decide +kernel
theorem dL_deedsOf_7 : decode cL_deedsOf 7 = .ok (.i2l, 1) := by decide +kernel
theorem dL_deedsOf_8 : decode cL_deedsOf 8 = .ok (.lastore, 1) := by decide +kernel
theorem dL_deedsOf_9 : decode cL_deedsOf 9 = .ok (.goto 6, 3) := by decide +kernel
theorem dL_deedsOf_12 : decode cL_deedsOf 12 = .ok (.astore_n 3, 1) := by decide +kernel
theorem dL_deedsOf_13 : decode cL_deedsOf 13 = .ok (.iconst 1, 1) := by decide +kernel
theorem dL_deedsOf_14 : decode cL_deedsOf 14 = .ok (.ireturn, 1) := by decide +kernel
theorem dL_deedsOf_15 : decode cL_deedsOf 15 = .ok (.iconst 0, 1) := by decide +kernel
theorem dL_deedsOf_16 : decode cL_deedsOf 16 = .ok (.ireturn, 1) := by decide +kernel
set_option maxRecDepth 20000 in
theorem ggL_sealOf_X3_sealOf : GoodIn wsL_sealOf wsX3_sealOf := goodIn_ca (goodIn_r _ [6, 7, 8, 9, 10, 5, 11, 12, 13, 14, 15, 16, 17, 18, 19, 20, 21, 22, 23, 24, 25, 26, 27, 28, 29, 30, 31, 32, 33, 34, 35, 36, 37, 38] (by decide +kernel) (by decide +kernel)) (goodIn_sub (fun _ h => List.mem_cons_of_mem _ (List.mem_append_right _ h)) (by decide +kernel))
set_option maxRecDepth 20000 in
theorem gL_sealOf_X3_sealOf : GoodIn wsL_sealOf (wsV RL 46 RX3 yX3_sealOf wsX3_sealOf) := goodIn_app (goodIn_of _ (by decide +kernel)) ggL_sealOf_X3_sealOf
theorem dL_sealOf_0 : decode cL_sealOf 0 = .ok (.aload_n 2, 1) := by decide +kernel
theorem dL_sealOf_1 : decode cL_sealOf 1 = .ok (.iconst 0, 1) := by decide +kernel
theorem dL_sealOf_2 : decode cL_sealOf 2 = .ok (.aload_n 0, 1) := by decide +kernel
theorem dL_sealOf_3 : decode cL_sealOf 3 = .ok (.iload_n 1, 1) := by decide +kernel
theorem dL_sealOf_4 : decode cL_sealOf 4 = .ok (.invokevirtual 46, 3) := by decide +kernel
theorem dL_sealOf_7 : decode cL_sealOf 7 = .ok (.i2l, 1) := by decide +kernel
theorem dL_sealOf_8 : decode cL_sealOf 8 = .ok (.lastore, 1) := by decide +kernel
theorem dL_sealOf_9 : decode cL_sealOf 9 = .ok (.goto 6, 3) := by decide +kernel
theorem dL_sealOf_12 : decode cL_sealOf 12 = .ok (.astore_n 3, 1) := by decide +kernel
theorem dL_sealOf_13 : decode cL_sealOf 13 = .ok (.iconst 1, 1) := by decide +kernel
theorem dL_sealOf_14 : decode cL_sealOf 14 = .ok (.ireturn, 1) := by decide +kernel
theorem dL_sealOf_15 : decode cL_sealOf 15 = .ok (.iconst 0, 1) := by decide +kernel
theorem dL_sealOf_16 : decode cL_sealOf 16 = .ok (.ireturn, 1) := by decide +kernel
set_option maxRecDepth 20000 in
theorem ggL_isCompacted_X3_isCompacted : GoodIn wsL_isCompacted wsX3_isCompacted := goodIn_ca (goodIn_r _ [6, 7, 8, 9, 10, 5, 11, 12, 13, 14, 15, 16, 17, 18, 19, 20, 21, 22, 23, 24, 25, 26, 27, 28, 29, 30, 31, 32, 33, 34, 35] (by decide +kernel) (by decide +kernel)) (goodIn_sub (fun _ h => List.mem_cons_of_mem _ (List.mem_append_right _ h)) (by decide +kernel))
set_option maxRecDepth 20000 in
theorem gL_isCompacted_X3_isCompacted : GoodIn wsL_isCompacted (wsV RL 49 RX3 yX3_isCompacted wsX3_isCompacted) := goodIn_app (goodIn_of _ (by decide +kernel)) ggL_isCompacted_X3_isCompacted
theorem dL_isCompacted_0 : decode cL_isCompacted 0 = .ok (.aload_n 2, 1) := by decide +kernel
theorem dL_isCompacted_1 : decode cL_isCompacted 1 = .ok (.iconst 0, 1) := by decide +kernel
theorem dL_isCompacted_2 : decode cL_isCompacted 2 = .ok (.aload_n 0, 1) := by decide +kernel
theorem dL_isCompacted_3 : decode cL_isCompacted 3 = .ok (.iload_n 1, 1) := by decide +kernel
theorem dL_isCompacted_4 : decode cL_isCompacted 4 = .ok (.invokevirtual 49, 3) := by decide +kernel
theorem dL_isCompacted_7 : decode cL_isCompacted 7 = .ok (.ifCond .eq 7, 3) := by decide +kernel
theorem dL_isCompacted_10 : decode cL_isCompacted 10 = .ok (.lconst 1, 1) := by decide +kernel
theorem dL_isCompacted_11 : decode cL_isCompacted 11 = .ok (.goto 4, 3) := by decide +kernel
theorem dL_isCompacted_14 : decode cL_isCompacted 14 = .ok (.lconst 0, 1) := by decide +kernel
theorem dL_isCompacted_15 : decode cL_isCompacted 15 = .ok (.lastore, 1) := by decide +kernel
theorem dL_isCompacted_16 : decode cL_isCompacted 16 = .ok (.goto 6, 3) := by decide +kernel
theorem dL_isCompacted_19 : decode cL_isCompacted 19 = .ok (.astore_n 3, 1) := by decide +kernel
theorem dL_isCompacted_20 : decode cL_isCompacted 20 = .ok (.iconst 1, 1) := by decide +kernel
theorem dL_isCompacted_21 : decode cL_isCompacted 21 = .ok (.ireturn, 1) := by decide +kernel
theorem dL_isCompacted_22 : decode cL_isCompacted 22 = .ok (.iconst 0, 1) := by decide +kernel
theorem dL_isCompacted_23 : decode cL_isCompacted 23 = .ok (.ireturn, 1) := by decide +kernel
set_option maxRecDepth 20000 in
theorem ggL_isFalse_X3_isFalse : GoodIn wsL_isFalse wsX3_isFalse := goodIn_ca (goodIn_r _ [6, 7, 8, 9, 10, 5, 11, 12, 13, 14, 15, 16, 17, 18, 19, 20, 21, 22, 23, 24, 25, 26, 27, 28, 29, 30, 31, 32, 33, 34, 35, 36, 37, 38, 39, 40, 41, 42, 43, 44, 45, 46, 47, 48, 49, 50, 51, 52, 53, 54, 55, 56, 57, 58, 59, 60, 61, 62, 63, 64, 65, 66, 67, 68, 69, 70, 71, 72, 73, 74, 75, 76, 77, 78] (by decide +kernel) (by decide +kernel)) (goodIn_sub (fun _ h => List.mem_cons_of_mem _ (List.mem_append_right _ h)) (by decide +kernel))
set_option maxRecDepth 20000 in
theorem gL_isFalse_X3_isFalse : GoodIn wsL_isFalse (wsV RL 53 RX3 yX3_isFalse wsX3_isFalse) := goodIn_app (goodIn_of _ (by decide +kernel)) ggL_isFalse_X3_isFalse
theorem dL_isFalse_0 : decode cL_isFalse 0 = .ok (.aload_n 2, 1) := by decide +kernel
theorem dL_isFalse_1 : decode cL_isFalse 1 = .ok (.iconst 0, 1) := by decide +kernel
theorem dL_isFalse_2 : decode cL_isFalse 2 = .ok (.aload_n 0, 1) := by decide +kernel
theorem dL_isFalse_3 : decode cL_isFalse 3 = .ok (.iload_n 1, 1) := by decide +kernel
theorem dL_isFalse_4 : decode cL_isFalse 4 = .ok (.invokevirtual 53, 3) := by decide +kernel
theorem dL_isFalse_7 : decode cL_isFalse 7 = .ok (.ifCond .eq 7, 3) := by decide +kernel
theorem dL_isFalse_10 : decode cL_isFalse 10 = .ok (.lconst 1, 1) := by decide +kernel
theorem dL_isFalse_11 : decode cL_isFalse 11 = .ok (.goto 4, 3) := by decide +kernel
theorem dL_isFalse_14 : decode cL_isFalse 14 = .ok (.lconst 0, 1) := by decide +kernel
theorem dL_isFalse_15 : decode cL_isFalse 15 = .ok (.lastore, 1) := by decide +kernel
theorem dL_isFalse_16 : decode cL_isFalse 16 = .ok (.goto 6, 3) := by decide +kernel
theorem dL_isFalse_19 : decode cL_isFalse 19 = .ok (.astore_n 3, 1) := by decide +kernel
theorem dL_isFalse_20 : decode cL_isFalse 20 = .ok (.iconst 1, 1) := by decide +kernel
theorem dL_isFalse_21 : decode cL_isFalse 21 = .ok (.ireturn, 1) := by decide +kernel
theorem dL_isFalse_22 : decode cL_isFalse 22 = .ok (.iconst 0, 1) := by decide +kernel
theorem dL_isFalse_23 : decode cL_isFalse 23 = .ok (.ireturn, 1) := by decide +kernel
set_option maxRecDepth 20000 in
theorem ggL_yearOf_X3_yearOf : GoodIn wsL_yearOf wsX3_yearOf := goodIn_ca (goodIn_r _ [6, 7, 8, 9, 10, 5, 11, 12, 13, 14, 15, 16, 17, 18, 19, 20, 21, 22, 23, 24, 25, 26, 27, 28, 29, 30, 31, 32, 33, 34, 35] (by decide +kernel) (by decide +kernel)) (goodIn_sub (fun _ h => List.mem_cons_of_mem _ (List.mem_append_right _ h)) (by decide +kernel))
set_option maxRecDepth 20000 in
theorem gL_yearOf_X3_yearOf : GoodIn wsL_yearOf (wsV RL 56 RX3 yX3_yearOf wsX3_yearOf) := goodIn_app (goodIn_of _ (by decide +kernel)) ggL_yearOf_X3_yearOf
theorem dL_yearOf_0 : decode cL_yearOf 0 = .ok (.aload_n 2, 1) := by decide +kernel
theorem dL_yearOf_1 : decode cL_yearOf 1 = .ok (.iconst 0, 1) := by decide +kernel
theorem dL_yearOf_2 : decode cL_yearOf 2 = .ok (.aload_n 0, 1) := by decide +kernel
theorem dL_yearOf_3 : decode cL_yearOf 3 = .ok (.iload_n 1, 1) := by decide +kernel
theorem dL_yearOf_4 : decode cL_yearOf 4 = .ok (.invokevirtual 56, 3) := by decide +kernel
theorem dL_yearOf_7 : decode cL_yearOf 7 = .ok (.i2l, 1) := by decide +kernel
theorem dL_yearOf_8 : decode cL_yearOf 8 = .ok (.lastore, 1) := by decide +kernel
theorem dL_yearOf_9 : decode cL_yearOf 9 = .ok (.goto 6, 3) := by decide +kernel
theorem dL_yearOf_12 : decode cL_yearOf 12 = .ok (.astore_n 3, 1) := by decide +kernel
theorem dL_yearOf_13 : decode cL_yearOf 13 = .ok (.iconst 1, 1) := by decide +kernel
theorem dL_yearOf_14 : decode cL_yearOf 14 = .ok (.ireturn, 1) := by decide +kernel
theorem dL_yearOf_15 : decode cL_yearOf 15 = .ok (.iconst 0, 1) := by decide +kernel
theorem dL_yearOf_16 : decode cL_yearOf 16 = .ok (.ireturn, 1) := by decide +kernel
set_option maxRecDepth 20000 in
theorem ggL_iceOfCore_X3_iceOfCore : GoodIn wsL_iceOfCore wsX3_iceOfCore := goodIn_ca (goodIn_r _ [6, 7, 8, 9, 10, 5, 11, 12, 13, 14, 15, 16, 17, 18, 19, 20, 21, 22, 23, 24, 25, 26, 27, 28, 29, 30, 31, 32, 33, 34, 35, 36, 37, 38, 39] (by decide +kernel) (by decide +kernel)) (goodIn_sub (fun _ h => List.mem_cons_of_mem _ (List.mem_append_right _ h)) (by decide +kernel))
set_option maxRecDepth 20000 in
theorem gL_iceOfCore_X3_iceOfCore : GoodIn wsL_iceOfCore (wsV RL 59 RX3 yX3_iceOfCore wsX3_iceOfCore) := goodIn_app (goodIn_of _ (by decide +kernel)) ggL_iceOfCore_X3_iceOfCore
theorem dL_iceOfCore_0 : decode cL_iceOfCore 0 = .ok (.aload_n 2, 1) := by decide +kernel
theorem dL_iceOfCore_1 : decode cL_iceOfCore 1 = .ok (.iconst 0, 1) := by decide +kernel
theorem dL_iceOfCore_2 : decode cL_iceOfCore 2 = .ok (.aload_n 0, 1) := by decide +kernel
theorem dL_iceOfCore_3 : decode cL_iceOfCore 3 = .ok (.iload_n 1, 1) := by decide +kernel
theorem dL_iceOfCore_4 : decode cL_iceOfCore 4 = .ok (.invokevirtual 59, 3) := by decide +kernel
theorem dL_iceOfCore_7 : decode cL_iceOfCore 7 = .ok (.i2l, 1) := by decide +kernel
theorem dL_iceOfCore_8 : decode cL_iceOfCore 8 = .ok (.lastore, 1) := by decide +kernel
theorem dL_iceOfCore_9 : decode cL_iceOfCore 9 = .ok (.goto 6, 3) := by decide +kernel
theorem dL_iceOfCore_12 : decode cL_iceOfCore 12 = .ok (.astore_n 3, 1) := by decide +kernel
theorem dL_iceOfCore_13 : decode cL_iceOfCore 13 = .ok (.iconst 1, 1) := by decide +kernel
theorem dL_iceOfCore_14 : decode cL_iceOfCore 14 = .ok (.ireturn, 1) := by decide +kernel
theorem dL_iceOfCore_15 : decode cL_iceOfCore 15 = .ok (.iconst 0, 1) := by decide +kernel
theorem dL_iceOfCore_16 : decode cL_iceOfCore 16 = .ok (.ireturn, 1) := by decide +kernel
set_option maxRecDepth 20000 in
theorem ggL_canReplay_X3_canReplay : GoodIn wsL_canReplay wsX3_canReplay := goodIn_ca (goodIn_r _ [6, 7, 8, 9, 5, 10, 11, 12, 13, 14, 15, 16, 17, 18, 19, 20, 21, 22, 23, 24, 25, 26, 27, 28, 29, 30, 31, 32, 33, 34, 35, 36, 37, 38, 39, 40, 41, 42, 43, 44, 45, 46, 47, 48, 49, 50, 51, 52, 53, 54, 55, 56, 57, 58, 59, 60, 61, 62, 63, 64, 65, 66, 67] (by decide +kernel) (by decide +kernel)) (goodIn_sub (fun _ h => List.mem_cons_of_mem _ (List.mem_append_right _ h)) (by decide +kernel))
set_option maxRecDepth 20000 in
theorem gL_canReplay_X3_canReplay : GoodIn wsL_canReplay (wsV RL 62 RX3 yX3_canReplay wsX3_canReplay) := goodIn_app (goodIn_of _ (by decide +kernel)) ggL_canReplay_X3_canReplay
theorem dL_canReplay_0 : decode cL_canReplay 0 = .ok (.aload_n 2, 1) := by decide +kernel
theorem dL_canReplay_1 : decode cL_canReplay 1 = .ok (.iconst 0, 1) := by decide +kernel
theorem dL_canReplay_2 : decode cL_canReplay 2 = .ok (.aload_n 0, 1) := by decide +kernel
theorem dL_canReplay_3 : decode cL_canReplay 3 = .ok (.iload_n 1, 1) := by decide +kernel
theorem dL_canReplay_4 : decode cL_canReplay 4 = .ok (.invokevirtual 62, 3) := by decide +kernel
theorem dL_canReplay_7 : decode cL_canReplay 7 = .ok (.ifCond .eq 7, 3) := by decide +kernel
theorem dL_canReplay_10 : decode cL_canReplay 10 = .ok (.lconst 1, 1) := by decide +kernel
theorem dL_canReplay_11 : decode cL_canReplay 11 = .ok (.goto 4, 3) := by decide +kernel
theorem dL_canReplay_14 : decode cL_canReplay 14 = .ok (.lconst 0, 1) := by decide +kernel
theorem dL_canReplay_15 : decode cL_canReplay 15 = .ok (.lastore, 1) := by decide +kernel
theorem dL_canReplay_16 : decode cL_canReplay 16 = .ok (.goto 6, 3) := by decide +kernel
theorem dL_canReplay_19 : decode cL_canReplay 19 = .ok (.astore_n 3, 1) := by decide +kernel
theorem dL_canReplay_20 : decode cL_canReplay 20 = .ok (.iconst 1, 1) := by decide +kernel
theorem dL_canReplay_21 : decode cL_canReplay 21 = .ok (.ireturn, 1) := by decide +kernel
theorem dL_canReplay_22 : decode cL_canReplay 22 = .ok (.iconst 0, 1) := by decide +kernel
theorem dL_canReplay_23 : decode cL_canReplay 23 = .ok (.ireturn, 1) := by decide +kernel
set_option maxRecDepth 20000 in
theorem ggL_replayedFrom_X3_replayedFrom : GoodIn wsL_replayedFrom wsX3_replayedFrom := goodIn_ca (goodIn_r _ [6, 7, 8, 9, 10, 5, 11, 12, 13, 14, 15, 16, 17, 18, 19, 20, 21, 22, 23, 24, 25, 26, 27, 28, 29, 30, 31, 32, 33, 34, 35, 36, 37, 38, 39, 40, 41, 42, 43, 44, 45, 46, 47, 48, 49, 50] (by decide +kernel) (by decide +kernel)) (goodIn_sub (fun _ h => List.mem_cons_of_mem _ (List.mem_append_right _ h)) (by decide +kernel))
set_option maxRecDepth 20000 in
theorem gL_replayedFrom_X3_replayedFrom : GoodIn wsL_replayedFrom (wsV RL 65 RX3 yX3_replayedFrom wsX3_replayedFrom) := goodIn_app (goodIn_of _ (by decide +kernel)) ggL_replayedFrom_X3_replayedFrom
theorem dL_replayedFrom_0 : decode cL_replayedFrom 0 = .ok (.aload_n 2, 1) := by decide +kernel
theorem dL_replayedFrom_1 : decode cL_replayedFrom 1 = .ok (.iconst 0, 1) := by decide +kernel
theorem dL_replayedFrom_2 : decode cL_replayedFrom 2 = .ok (.aload_n 0, 1) := by decide +kernel
theorem dL_replayedFrom_3 : decode cL_replayedFrom 3 = .ok (.iload_n 1, 1) := by decide +kernel
theorem dL_replayedFrom_4 : decode cL_replayedFrom 4 = .ok (.invokevirtual 65, 3) := by decide +kernel
theorem dL_replayedFrom_7 : decode cL_replayedFrom 7 = .ok (.i2l, 1) := by decide +kernel
theorem dL_replayedFrom_8 : decode cL_replayedFrom 8 = .ok (.lastore, 1) := by decide +kernel
theorem dL_replayedFrom_9 : decode cL_replayedFrom 9 = .ok (.goto 6, 3) := by decide +kernel
theorem dL_replayedFrom_12 : decode cL_replayedFrom 12 = .ok (.astore_n 3, 1) := by decide +kernel
theorem dL_replayedFrom_13 : decode cL_replayedFrom 13 = .ok (.iconst 1, 1) := by decide +kernel
theorem dL_replayedFrom_14 : decode cL_replayedFrom 14 = .ok (.ireturn, 1) := by decide +kernel
theorem dL_replayedFrom_15 : decode cL_replayedFrom 15 = .ok (.iconst 0, 1) := by decide +kernel
theorem dL_replayedFrom_16 : decode cL_replayedFrom 16 = .ok (.ireturn, 1) := by decide +kernel
set_option maxRecDepth 20000 in
theorem ggL_replayCost_X3_replayCost : GoodIn wsL_replayCost wsX3_replayCost := goodIn_ca (goodIn_ca (goodIn_r _ [7, 8, 9, 10, 6, 11, 12, 13, 14, 15, 16, 17, 18, 19, 20, 21, 22, 23, 24, 25, 26, 27, 28, 29, 30, 31, 32, 33, 34, 35, 36, 37, 38, 39, 40, 41, 42, 43, 44, 45, 46, 47, 48, 49, 50, 51, 52, 53, 54, 55, 56, 57, 58, 59, 60, 61, 62, 63, 64, 65, 66, 67, 68, 69, 70, 71, 72, 73, 74, 75, 76, 77, 78, 79, 80, 81, 82, 83, 84, 85, 86] (by decide +kernel) (by decide +kernel)) (goodIn_sub (fun _ h => List.mem_cons_of_mem _ (List.mem_append_left _ (List.mem_append_right _ h))) (by decide +kernel))) (goodIn_sub (fun _ h => List.mem_cons_of_mem _ (List.mem_append_right _ h)) (by decide +kernel))
set_option maxRecDepth 20000 in
theorem gL_replayCost_X3_replayCost : GoodIn wsL_replayCost (wsV RL 68 RX3 yX3_replayCost wsX3_replayCost) := goodIn_app (goodIn_of _ (by decide +kernel)) ggL_replayCost_X3_replayCost
theorem dL_replayCost_0 : decode cL_replayCost 0 = .ok (.aload_n 2, 1) := by decide +kernel
theorem dL_replayCost_1 : decode cL_replayCost 1 = .ok (.iconst 0, 1) := by decide +kernel
theorem dL_replayCost_2 : decode cL_replayCost 2 = .ok (.aload_n 0, 1) := by decide +kernel
theorem dL_replayCost_3 : decode cL_replayCost 3 = .ok (.iload_n 1, 1) := by decide +kernel
theorem dL_replayCost_4 : decode cL_replayCost 4 = .ok (.invokevirtual 68, 3) := by decide +kernel
theorem dL_replayCost_7 : decode cL_replayCost 7 = .ok (.i2l, 1) := by decide +kernel
theorem dL_replayCost_8 : decode cL_replayCost 8 = .ok (.lastore, 1) := by decide +kernel
theorem dL_replayCost_9 : decode cL_replayCost 9 = .ok (.goto 9, 3) := by decide +kernel
theorem dL_replayCost_12 : decode cL_replayCost 12 = .ok (.astore_n 3, 1) := by decide +kernel
theorem dL_replayCost_13 : decode cL_replayCost 13 = .ok (.iconst 1, 1) := by decide +kernel
theorem dL_replayCost_14 : decode cL_replayCost 14 = .ok (.ireturn, 1) := by decide +kernel
theorem dL_replayCost_15 : decode cL_replayCost 15 = .ok (.astore_n 3, 1) := by decide +kernel
theorem dL_replayCost_16 : decode cL_replayCost 16 = .ok (.iconst 2, 1) := by decide +kernel
theorem dL_replayCost_17 : decode cL_replayCost 17 = .ok (.ireturn, 1) := by decide +kernel
theorem dL_replayCost_18 : decode cL_replayCost 18 = .ok (.iconst 0, 1) := by decide +kernel
theorem dL_replayCost_19 : decode cL_replayCost 19 = .ok (.ireturn, 1) := by decide +kernel
set_option maxRecDepth 20000 in
theorem ggL_iceInYear_X3_iceInYear : GoodIn wsL_iceInYear wsX3_iceInYear := goodIn_ca (goodIn_ca (goodIn_ca (goodIn_r _ [8, 9, 10, 11, 7, 12, 13, 14, 15, 16, 17, 18, 19, 20, 21, 22, 23, 24, 25, 26, 27, 28, 29, 30, 31, 32, 33, 34, 35, 36, 37, 38, 39, 40, 41, 42, 43, 44, 45, 46, 47, 48, 49, 50, 51, 52, 53, 54, 55, 56, 57, 58, 59, 60, 61, 62, 63, 64, 65, 66, 67, 68, 69, 70, 71, 72, 73, 74, 75, 76, 77, 78, 79, 80, 81, 82, 83, 84, 85, 86, 87, 88, 89, 90, 91, 92, 93, 94, 95, 96, 97, 98, 99, 100, 101, 102, 103, 104, 105, 106, 107, 108, 109, 110, 111, 112, 113, 114, 115, 116, 117, 118, 119, 120, 121, 122, 123, 124, 125, 126, 127, 128, 129, 130, 131, 132, 133, 134, 135, 136, 137, 138, 139, 140, 141, 142, 143, 144, 145, 146, 147, 148, 149, 150, 151, 152, 153, 154, 155, 156, 157, 158, 159, 160] (by decide +kernel) (by decide +kernel)) (goodIn_sub (fun _ h => List.mem_cons_of_mem _ (List.mem_append_left _ (List.mem_append_left _ (List.mem_append_right _ h)))) (by decide +kernel))) (goodIn_sub (fun _ h => List.mem_cons_of_mem _ (List.mem_append_left _ (List.mem_append_right _ h))) (by decide +kernel))) (goodIn_sub (fun _ h => List.mem_cons_of_mem _ (List.mem_append_right _ h)) (by decide +kernel))
set_option maxRecDepth 20000 in
theorem gL_iceInYear_X3_iceInYear : GoodIn wsL_iceInYear (wsV RL 71 RX3 yX3_iceInYear wsX3_iceInYear) := goodIn_app (goodIn_of _ (by decide +kernel)) ggL_iceInYear_X3_iceInYear
theorem dL_iceInYear_0 : decode cL_iceInYear 0 = .ok (.aload_n 3, 1) := by decide +kernel
theorem dL_iceInYear_1 : decode cL_iceInYear 1 = .ok (.iconst 0, 1) := by decide +kernel
theorem dL_iceInYear_2 : decode cL_iceInYear 2 = .ok (.aload_n 0, 1) := by decide +kernel
theorem dL_iceInYear_3 : decode cL_iceInYear 3 = .ok (.iload_n 1, 1) := by decide +kernel
theorem dL_iceInYear_4 : decode cL_iceInYear 4 = .ok (.iload_n 2, 1) := by decide +kernel
theorem dL_iceInYear_5 : decode cL_iceInYear 5 = .ok (.invokevirtual 71, 3) := by decide +kernel
theorem dL_iceInYear_8 : decode cL_iceInYear 8 = .ok (.i2l, 1) := by decide +kernel
theorem dL_iceInYear_9 : decode cL_iceInYear 9 = .ok (.lastore, 1) := by decide +kernel
theorem dL_iceInYear_10 : decode cL_iceInYear 10 = .ok (.goto 15, 3) := by decide +kernel
theorem dL_iceInYear_13 : decode cL_iceInYear 13 = .ok (.astore 4, 2) := by decide +kernel
theorem dL_iceInYear_15 : decode cL_iceInYear 15 = .ok (.iconst 1, 1) := by decide +kernel
theorem dL_iceInYear_16 : decode cL_iceInYear 16 = .ok (.ireturn, 1) := by decide +kernel
theorem dL_iceInYear_17 : decode cL_iceInYear 17 = .ok (.astore 4, 2) := by decide +kernel
theorem dL_iceInYear_19 : decode cL_iceInYear 19 = .ok (.iconst 2, 1) := by decide +kernel
theorem dL_iceInYear_20 : decode cL_iceInYear 20 = .ok (.ireturn, 1) := by decide +kernel
theorem dL_iceInYear_21 : decode cL_iceInYear 21 = .ok (.astore 4, 2) := by decide +kernel
theorem dL_iceInYear_23 : decode cL_iceInYear 23 = .ok (.iconst 3, 1) := by decide +kernel
theorem dL_iceInYear_24 : decode cL_iceInYear 24 = .ok (.ireturn, 1) := by decide +kernel
theorem dL_iceInYear_25 : decode cL_iceInYear 25 = .ok (.iconst 0, 1) := by decide +kernel
theorem dL_iceInYear_26 : decode cL_iceInYear 26 = .ok (.ireturn, 1) := by decide +kernel
set_option maxRecDepth 20000 in
theorem ggL_iceAfter_X3_iceAfter : GoodIn wsL_iceAfter wsX3_iceAfter := goodIn_ca (goodIn_r _ [6, 7, 8, 9, 10, 11, 12, 13, 14, 15, 16, 17, 18, 19, 20, 21, 22, 23, 24, 25, 26, 27, 28, 29, 30, 31, 32, 33, 34, 35, 36, 37, 38, 39, 40, 41, 42, 43, 44, 45, 46, 47, 48, 49, 50, 51, 52, 53, 54, 55, 56, 57, 58, 59, 60, 61, 62, 63, 64, 65, 66, 67, 68, 69, 70, 71, 72, 73, 74, 75, 76, 77, 78, 79, 80, 81, 82, 83, 84, 85, 86, 87, 88, 89, 90, 91, 92, 93, 94, 95, 96, 97, 98, 99] (by decide +kernel) (by decide +kernel)) (goodIn_sub (fun _ h => List.mem_cons_of_mem _ (List.mem_append_right _ h)) (by decide +kernel))
set_option maxRecDepth 20000 in
theorem gL_iceAfter_X3_iceAfter : GoodIn wsL_iceAfter (wsV RL 74 RX3 yX3_iceAfter wsX3_iceAfter) := goodIn_app (goodIn_of _ (by decide +kernel)) ggL_iceAfter_X3_iceAfter
theorem dL_iceAfter_0 : decode cL_iceAfter 0 = .ok (.aload_n 2, 1) := by decide +kernel
theorem dL_iceAfter_1 : decode cL_iceAfter 1 = .ok (.iconst 0, 1) := by decide +kernel
theorem dL_iceAfter_2 : decode cL_iceAfter 2 = .ok (.aload_n 0, 1) := by decide +kernel
theorem dL_iceAfter_3 : decode cL_iceAfter 3 = .ok (.iload_n 1, 1) := by decide +kernel
theorem dL_iceAfter_4 : decode cL_iceAfter 4 = .ok (.invokevirtual 74, 3) := by decide +kernel
theorem dL_iceAfter_7 : decode cL_iceAfter 7 = .ok (.i2l, 1) := by decide +kernel
theorem dL_iceAfter_8 : decode cL_iceAfter 8 = .ok (.lastore, 1) := by decide +kernel
theorem dL_iceAfter_9 : decode cL_iceAfter 9 = .ok (.goto 6, 3) := by decide +kernel
theorem dL_iceAfter_12 : decode cL_iceAfter 12 = .ok (.astore_n 3, 1) := by decide +kernel
theorem dL_iceAfter_13 : decode cL_iceAfter 13 = .ok (.iconst 1, 1) := by decide +kernel
theorem dL_iceAfter_14 : decode cL_iceAfter 14 = .ok (.ireturn, 1) := by decide +kernel
theorem dL_iceAfter_15 : decode cL_iceAfter 15 = .ok (.iconst 0, 1) := by decide +kernel
theorem dL_iceAfter_16 : decode cL_iceAfter 16 = .ok (.ireturn, 1) := by decide +kernel
set_option maxRecDepth 20000 in
theorem ggL_law_X3_init : GoodIn wsL_law wsX3_init := goodIn_r _ [9, 10, 11, 12, 13, 14, 15, 16, 17, 18, 19, 20, 21, 22, 23, 24, 25, 26, 27, 28, 29, 30, 31, 32, 33, 34, 35, 36, 37, 38, 39, 40, 41, 42, 43, 44, 45, 46, 749, 732, 733, 734, 735, 750, 751, 752, 753, 754, 755, 756, 757, 758, 759] (by decide +kernel) (by decide +kernel)
set_option maxRecDepth 20000 in
theorem gL_law_X3_init : GoodIn wsL_law (wsX3_init) := ggL_law_X3_init
set_option maxRecDepth 20000 in
theorem ggL_law_X4_init : GoodIn wsL_law wsX4_init := goodIn_r _ [49, 50, 11, 12, 30, 51, 52, 53, 54, 55, 56, 57, 58, 59, 60, 61, 736, 737, 738, 739, 740, 741, 742, 743, 744, 745, 746, 747, 748] (by decide +kernel) (by decide +kernel)
set_option maxRecDepth 20000 in
theorem gL_law_X4_init : GoodIn wsL_law (wsX4_init) := ggL_law_X4_init
set_option maxRecDepth 20000 in
theorem ggL_law_L_snow : GoodIn wsL_law wsL_snow := goodIn_ca (goodIn_ca (goodIn_ca (goodIn_r _ [65, 66, 67, 68, 69, 70, 71, 2, 72, 73, 74, 75, 76, 77, 78, 79, 80, 81, 82, 83, 84, 85, 86, 87, 88, 21, 89, 90, 91, 20, 92, 93, 94, 95, 96, 97, 98, 99, 100, 101, 39, 102, 103, 104, 105, 106, 107, 108, 16, 109, 110, 111, 112, 36, 37, 38, 113, 114, 115, 116, 117, 118, 119, 15, 120, 121, 122, 123, 124, 125, 126, 127, 128, 129, 130, 131, 31, 132, 133, 134, 135, 136, 137, 138, 139, 140, 141, 142, 143, 732, 733, 734, 735, 750, 751, 752, 753, 754, 755, 756, 749] (by decide +kernel) (by decide +kernel)) (goodIn_sub (fun _ h => List.mem_append_left _ (List.mem_append_left _ (List.mem_append_right _ h))) (by decide +kernel))) (goodIn_sub (fun _ h => List.mem_append_left _ (List.mem_append_right _ h)) (by decide +kernel))) (goodIn_sub (fun _ h => List.mem_append_right _ h) (by decide +kernel))
set_option maxRecDepth 20000 in
theorem gL_law_L_snow : GoodIn wsL_law (va_wsS RL 81 yL_snow wsL_snow) := goodIn_app (goodIn_of _ (by decide +kernel)) ggL_law_L_snow
set_option maxRecDepth 20000 in
theorem ggL_law_X4_snow : GoodIn wsL_law wsX4_snow := goodIn_r _ [147, 148, 149, 150, 5, 151, 152, 153, 154, 155, 156, 157, 158, 159, 160, 161, 162, 163, 164, 165, 166, 167, 55, 168, 169, 170, 171, 52, 53, 54, 51, 172, 173, 174, 175, 176, 122, 123, 124, 177, 126, 127, 736, 737, 738, 739, 740, 741, 742, 743, 744, 745, 746, 747, 748] (by decide +kernel) (by decide +kernel)
set_option maxRecDepth 20000 in
theorem gL_law_X4_snow : GoodIn wsL_law (wsV RL 86 RX4 yX4_snow wsX4_snow) := goodIn_app (goodIn_of _ (by decide +kernel)) ggL_law_X4_snow
set_option maxRecDepth 20000 in
theorem ggL_law_X4_thrown : GoodIn wsL_law wsX4_thrown := goodIn_r _ [181, 152, 736, 737, 738, 739, 740, 741, 742, 743, 744, 745, 746, 747, 748] (by decide +kernel) (by decide +kernel)
set_option maxRecDepth 20000 in
theorem gL_law_X4_thrown : GoodIn wsL_law (wsV RL 87 RX4 yX4_thrown wsX4_thrown) := goodIn_app (goodIn_of _ (by decide +kernel)) ggL_law_X4_thrown
set_option maxRecDepth 20000 in
theorem ggL_law_L_melt : GoodIn wsL_law wsL_melt := goodIn_ca (goodIn_ca (goodIn_ca (goodIn_r _ [184, 66, 67, 68, 185, 186, 187, 2, 188, 73, 74, 75, 76, 77, 78, 79, 80, 81, 82, 83, 84, 85, 86, 87, 88, 21, 89, 90, 91, 20, 92, 93, 94, 95, 96, 97, 98, 99, 100, 101, 39, 102, 103, 104, 105, 106, 107, 108, 16, 109, 110, 111, 112, 36, 37, 38, 113, 114, 115, 116, 117, 118, 119, 15, 120, 121, 122, 123, 124, 125, 126, 127, 128, 129, 130, 131, 31, 132, 133, 134, 135, 136, 137, 138, 139, 140, 141, 142, 143, 732, 733, 734, 735, 750, 751, 752, 753, 754, 755, 756, 749] (by decide +kernel) (by decide +kernel)) (goodIn_sub (fun _ h => List.mem_append_left _ (List.mem_append_left _ (List.mem_append_right _ h))) (by decide +kernel))) (goodIn_sub (fun _ h => List.mem_append_left _ (List.mem_append_right _ h)) (by decide +kernel))) (goodIn_sub (fun _ h => List.mem_append_right _ h) (by decide +kernel))
set_option maxRecDepth 20000 in
theorem gL_law_L_melt : GoodIn wsL_law (va_wsS RL 91 yL_melt wsL_melt) := goodIn_app (goodIn_of _ (by decide +kernel)) ggL_law_L_melt
set_option maxRecDepth 20000 in
theorem ggL_law_X4_melt : GoodIn wsL_law wsX4_melt := goodIn_r _ [192, 148, 149, 150, 5, 151, 152, 153, 154, 155, 156, 157, 158, 159, 160, 161, 162, 163, 164, 165, 166, 167, 55, 168, 169, 170, 171, 52, 53, 54, 51, 172, 173, 174, 175, 176, 122, 123, 124, 177, 126, 127, 736, 737, 738, 739, 740, 741, 742, 743, 744, 745, 746, 747, 748] (by decide +kernel) (by decide +kernel)
set_option maxRecDepth 20000 in
theorem gL_law_X4_melt : GoodIn wsL_law (wsV RL 93 RX4 yX4_melt wsX4_melt) := goodIn_app (goodIn_of _ (by decide +kernel)) ggL_law_X4_melt
set_option maxRecDepth 20000 in
theorem ggL_law_L_flow : GoodIn wsL_law wsL_flow := goodIn_ca (goodIn_ca (goodIn_r _ [195, 66, 68, 196, 197, 198, 2, 199, 73, 74, 75, 76, 77, 83, 84, 85, 86, 87, 88, 21, 89, 90, 91, 20, 92, 93, 94, 95, 96, 97, 98, 99, 100, 101, 39, 102, 103, 104, 105, 106, 107, 108, 16, 109, 110, 111, 112, 36, 37, 38, 113, 114, 115, 116, 117, 118, 119, 15, 120, 121, 122, 123, 124, 125, 126, 127, 128, 129, 130, 131, 31, 132, 133, 134, 135, 136, 137, 138, 139, 140, 141, 142, 143, 732, 733, 734, 735, 750, 751, 752, 753, 754, 755, 756, 749] (by decide +kernel) (by decide +kernel)) (goodIn_sub (fun _ h => List.mem_append_left _ (List.mem_append_left _ (List.mem_append_right _ h))) (by decide +kernel))) (goodIn_sub (fun _ h => List.mem_append_right _ h) (by decide +kernel))
set_option maxRecDepth 20000 in
theorem gL_law_L_flow : GoodIn wsL_law (va_wsS RL 94 yL_flow wsL_flow) := goodIn_app (goodIn_of _ (by decide +kernel)) ggL_law_L_flow
set_option maxRecDepth 20000 in
theorem ggL_law_X4_flow : GoodIn wsL_law wsX4_flow := goodIn_r _ [203, 152, 153, 154, 5, 155, 156, 157, 158, 159, 160, 161, 162, 163, 164, 165, 166, 167, 55, 168, 169, 170, 171, 52, 53, 54, 51, 172, 173, 174, 175, 176, 122, 123, 124, 177, 126, 127, 736, 737, 738, 739, 740, 741, 742, 743, 744, 745, 746, 747, 748] (by decide +kernel) (by decide +kernel)
set_option maxRecDepth 20000 in
theorem gL_law_X4_flow : GoodIn wsL_law (wsV RL 97 RX4 yX4_flow wsX4_flow) := goodIn_app (goodIn_of _ (by decide +kernel)) ggL_law_X4_flow
set_option maxRecDepth 20000 in
theorem ggL_law_L_endYear : GoodIn wsL_law wsL_endYear := goodIn_ca (goodIn_r _ [206, 68, 207, 208, 209, 2, 210, 87, 88, 21, 25, 16, 211, 95, 96, 20, 97, 93, 212, 213, 214, 215, 40, 102, 103, 104, 216, 217, 218, 219, 220, 221, 222, 223, 98, 99, 100, 101, 39, 224, 225, 226, 227, 228, 229, 230, 231, 36, 114, 115, 116, 232, 233, 234, 235, 37, 236, 237, 238, 239, 38, 240, 241, 242, 243, 244, 245, 246, 24, 247, 248, 45, 46, 249, 250, 251, 252, 253, 254, 255, 256, 257, 129, 130, 15, 131, 31, 132, 133, 134, 732, 733, 734, 735, 750, 751, 752, 753, 754, 755, 756, 757, 758, 759, 749] (by decide +kernel) (by decide +kernel)) (goodIn_sub (fun _ h => List.mem_append_right _ h) (by decide +kernel))
set_option maxRecDepth 20000 in
theorem gL_law_L_endYear : GoodIn wsL_law (va_wsS RL 98 yL_endYear wsL_endYear) := goodIn_app (goodIn_of _ (by decide +kernel)) ggL_law_L_endYear
set_option maxRecDepth 20000 in
theorem ggL_law_X4_endYear : GoodIn wsL_law wsX4_endYear := goodIn_r _ [261, 152, 167, 56, 262, 59, 51, 60, 263, 264, 265, 266, 159, 160, 161, 5, 162, 267, 268, 269, 270, 55, 52, 53, 54, 271, 272, 273, 274, 736, 737, 738, 739, 740, 741, 742, 743, 744, 745, 746, 747, 748] (by decide +kernel) (by decide +kernel)
set_option maxRecDepth 20000 in
theorem gL_law_X4_endYear : GoodIn wsL_law (wsV RL 101 RX4 yX4_endYear wsX4_endYear) := goodIn_app (goodIn_of _ (by decide +kernel)) ggL_law_X4_endYear
set_option maxRecDepth 20000 in
theorem ggL_law_L_compact : GoodIn wsL_law wsL_compact := goodIn_ca (goodIn_ca (goodIn_r _ [277, 67, 68, 278, 279, 280, 2, 281, 81, 82, 87, 88, 21, 25, 240, 241, 242, 20, 243, 93, 282, 283, 284, 24, 285, 286, 287, 288, 289, 248, 290, 291, 292, 293, 45, 253, 254, 255, 256, 294, 295, 296, 297, 298, 299, 122, 123, 124, 39, 300, 126, 127, 102, 103, 104, 732, 733, 734, 735, 750, 751, 752, 753, 754, 755, 756, 757, 758, 759] (by decide +kernel) (by decide +kernel)) (goodIn_sub (fun _ h => List.mem_append_left _ (List.mem_append_right _ h)) (by decide +kernel))) (goodIn_sub (fun _ h => List.mem_append_right _ h) (by decide +kernel))
set_option maxRecDepth 20000 in
theorem gL_law_L_compact : GoodIn wsL_law (va_wsS RL 102 yL_compact wsL_compact) := goodIn_app (goodIn_of _ (by decide +kernel)) ggL_law_L_compact
set_option maxRecDepth 20000 in
theorem ggL_law_X4_compact : GoodIn wsL_law wsX4_compact := goodIn_r _ [304, 152, 167, 58, 55, 156, 157, 5, 158, 159, 160, 161, 162, 305, 306, 307, 308, 262, 59, 736, 737, 738, 739, 740, 741, 742, 743, 744, 745, 746, 747, 748] (by decide +kernel) (by decide +kernel)
set_option maxRecDepth 20000 in
theorem gL_law_X4_compact : GoodIn wsL_law (wsV RL 104 RX4 yX4_compact wsX4_compact) := goodIn_app (goodIn_of _ (by decide +kernel)) ggL_law_X4_compact
set_option maxRecDepth 20000 in
theorem ggL_law_L_forge : GoodIn wsL_law wsL_forge := goodIn_ca (goodIn_ca (goodIn_r _ [311, 66, 67, 312, 313, 314, 2, 315, 76, 77, 81, 82, 21, 316, 317, 318, 319, 240, 241, 242, 20, 243, 93, 320, 225, 226, 227, 98, 99, 100, 101, 39, 102, 103, 104, 321, 229, 230, 231, 36, 114, 115, 116, 78, 79, 80, 322, 237, 238, 239, 38, 323, 324, 325, 326, 732, 733, 734, 735, 750, 751, 752, 753, 754, 755, 756] (by decide +kernel) (by decide +kernel)) (goodIn_sub (fun _ h => List.mem_append_left _ (List.mem_append_left _ (List.mem_append_right _ h))) (by decide +kernel))) (goodIn_sub (fun _ h => List.mem_append_left _ (List.mem_append_right _ h)) (by decide +kernel))
set_option maxRecDepth 20000 in
theorem gL_law_L_forge : GoodIn wsL_law (va_wsS RL 105 yL_forge wsL_forge) := goodIn_app (goodIn_of _ (by decide +kernel)) ggL_law_L_forge
set_option maxRecDepth 20000 in
theorem ggL_law_X4_forge : GoodIn wsL_law wsX4_forge := goodIn_r _ [330, 152, 55, 52, 54, 331, 332, 333, 5, 334, 167, 156, 157, 158, 159, 160, 161, 162, 736, 737, 738, 739, 740, 741, 742, 743, 744, 745, 746, 747, 748] (by decide +kernel) (by decide +kernel)
set_option maxRecDepth 20000 in
theorem gL_law_X4_forge : GoodIn wsL_law (wsV RL 108 RX4 yX4_forge wsX4_forge) := goodIn_app (goodIn_of _ (by decide +kernel)) ggL_law_X4_forge
set_option maxRecDepth 20000 in
theorem ggL_law_L_throwAway : GoodIn wsL_law wsL_throwAway := goodIn_ca (goodIn_ca (goodIn_r _ [337, 67, 68, 338, 339, 340, 2, 341, 81, 82, 87, 88, 25, 21, 282, 283, 284, 24, 285, 286, 287, 288, 289, 248, 290, 291, 292, 293, 45, 253, 254, 255, 256, 342, 343, 344, 20, 345, 298, 346, 250, 251, 252, 46, 347, 348, 349, 350, 732, 733, 734, 735, 757, 758, 759, 750, 751, 752, 753, 754, 755, 756] (by decide +kernel) (by decide +kernel)) (goodIn_sub (fun _ h => List.mem_append_left _ (List.mem_append_right _ h)) (by decide +kernel))) (goodIn_sub (fun _ h => List.mem_append_right _ h) (by decide +kernel))
set_option maxRecDepth 20000 in
theorem gL_law_L_throwAway : GoodIn wsL_law (va_wsS RL 109 yL_throwAway wsL_throwAway) := goodIn_app (goodIn_of _ (by decide +kernel)) ggL_law_L_throwAway
set_option maxRecDepth 20000 in
theorem ggL_law_X4_throwAway : GoodIn wsL_law wsX4_throwAway := goodIn_r _ [354, 152, 58, 262, 305, 306, 307, 5, 308, 59, 159, 160, 161, 162, 271, 272, 273, 274, 60, 263, 264, 265, 266, 736, 737, 738, 739, 740, 741, 742, 743, 744, 745, 746, 747, 748] (by decide +kernel) (by decide +kernel)
set_option maxRecDepth 20000 in
theorem gL_law_X4_throwAway : GoodIn wsL_law (wsV RL 111 RX4 yX4_throwAway wsX4_throwAway) := goodIn_app (goodIn_of _ (by decide +kernel)) ggL_law_X4_throwAway
set_option maxRecDepth 20000 in
theorem ggL_law_X3_year : GoodIn wsL_law wsX3_year := goodIn_r _ [358, 21, 240, 241, 242, 20, 243, 93, 732, 733, 734, 735, 750, 751, 752, 753, 754, 755, 756] (by decide +kernel) (by decide +kernel)
set_option maxRecDepth 20000 in
theorem gL_law_X3_year : GoodIn wsL_law (wsV RL 112 RX3 yX3_year wsX3_year) := goodIn_app (goodIn_of _ (by decide +kernel)) ggL_law_X3_year
set_option maxRecDepth 20000 in
theorem ggL_law_X4_year : GoodIn wsL_law wsX4_year := goodIn_r _ [362, 167, 363, 364, 365, 5, 366, 152, 736, 737, 738, 739, 740, 741, 742, 743, 744, 745, 746, 747, 748] (by decide +kernel) (by decide +kernel)
set_option maxRecDepth 20000 in
theorem gL_law_X4_year : GoodIn wsL_law (wsV RL 115 RX4 yX4_year wsX4_year) := goodIn_app (goodIn_of _ (by decide +kernel)) ggL_law_X4_year
set_option maxRecDepth 20000 in
theorem ggL_law_L_iceAt : GoodIn wsL_law wsL_iceAt := goodIn_ca (goodIn_r _ [369, 66, 370, 371, 372, 2, 373, 16, 73, 74, 75, 76, 77, 143, 129, 130, 15, 131, 31, 132, 133, 134, 732, 733, 734, 735, 749] (by decide +kernel) (by decide +kernel)) (goodIn_sub (fun _ h => List.mem_append_left _ (List.mem_append_left _ (List.mem_append_right _ h))) (by decide +kernel))
set_option maxRecDepth 20000 in
theorem gL_law_L_iceAt : GoodIn wsL_law (va_wsS RL 116 yL_iceAt wsL_iceAt) := goodIn_app (goodIn_of _ (by decide +kernel)) ggL_law_L_iceAt
set_option maxRecDepth 20000 in
theorem ggL_law_X4_iceAt : GoodIn wsL_law wsX4_iceAt := goodIn_r _ [377, 152, 51, 153, 154, 5, 155, 156, 157, 158, 159, 160, 161, 162, 736, 737, 738, 739, 740, 741, 742, 743, 744, 745, 746, 747, 748] (by decide +kernel) (by decide +kernel)
set_option maxRecDepth 20000 in
theorem gL_law_X4_iceAt : GoodIn wsL_law (wsV RL 118 RX4 yX4_iceAt wsX4_iceAt) := goodIn_app (goodIn_of _ (by decide +kernel)) ggL_law_X4_iceAt
set_option maxRecDepth 20000 in
theorem ggL_law_X3_ice : GoodIn wsL_law wsX3_ice := goodIn_r _ [381, 16, 382, 383, 384, 15, 385, 31, 732, 733, 734, 735, 749] (by decide +kernel) (by decide +kernel)
set_option maxRecDepth 20000 in
theorem gL_law_X3_ice : GoodIn wsL_law (wsV RL 119 RX3 yX3_ice wsX3_ice) := goodIn_app (goodIn_of _ (by decide +kernel)) ggL_law_X3_ice
set_option maxRecDepth 20000 in
theorem ggL_law_X4_ice : GoodIn wsL_law wsX4_ice := goodIn_r _ [389, 51, 390, 391, 5, 392, 363, 364, 365, 366, 152, 736, 737, 738, 739, 740, 741, 742, 743, 744, 745, 746, 747, 748] (by decide +kernel) (by decide +kernel)
set_option maxRecDepth 20000 in
theorem gL_law_X4_ice : GoodIn wsL_law (wsV RL 122 RX4 yX4_ice wsX4_ice) := goodIn_app (goodIn_of _ (by decide +kernel)) ggL_law_X4_ice
set_option maxRecDepth 20000 in
theorem ggL_law_X3_thickest : GoodIn wsL_law wsX3_thickest := goodIn_r _ [396, 16, 143, 129, 130, 15, 131, 31, 132, 133, 134, 732, 733, 734, 735, 749] (by decide +kernel) (by decide +kernel)
set_option maxRecDepth 20000 in
theorem gL_law_X3_thickest : GoodIn wsL_law (wsV RL 123 RX3 yX3_thickest wsX3_thickest) := goodIn_app (goodIn_of _ (by decide +kernel)) ggL_law_X3_thickest
set_option maxRecDepth 20000 in
theorem ggL_law_X4_thickest : GoodIn wsL_law wsX4_thickest := goodIn_r _ [400, 401, 402, 403, 5, 404, 51, 363, 364, 365, 366, 152, 736, 737, 738, 739, 740, 741, 742, 743, 744, 745, 746, 747, 748] (by decide +kernel) (by decide +kernel)
set_option maxRecDepth 20000 in
theorem gL_law_X4_thickest : GoodIn wsL_law (wsV RL 126 RX4 yX4_thickest wsX4_thickest) := goodIn_app (goodIn_of _ (by decide +kernel)) ggL_law_X4_thickest
set_option maxRecDepth 20000 in
theorem ggL_law_X3_deeds : GoodIn wsL_law wsX3_deeds := goodIn_r _ [408, 21, 240, 241, 242, 20, 243, 93, 409, 99, 100, 101, 39, 102, 103, 104, 732, 733, 734, 735, 750, 751, 752, 753, 754, 755, 756] (by decide +kernel) (by decide +kernel)
set_option maxRecDepth 20000 in
theorem gL_law_X3_deeds : GoodIn wsL_law (wsV RL 127 RX3 yX3_deeds wsX3_deeds) := goodIn_app (goodIn_of _ (by decide +kernel)) ggL_law_X3_deeds
set_option maxRecDepth 20000 in
theorem ggL_law_X4_deeds : GoodIn wsL_law wsX4_deeds := goodIn_r _ [413, 55, 167, 363, 364, 365, 5, 366, 152, 736, 737, 738, 739, 740, 741, 742, 743, 744, 745, 746, 747, 748] (by decide +kernel) (by decide +kernel)
set_option maxRecDepth 20000 in
theorem gL_law_X4_deeds : GoodIn wsL_law (wsV RL 130 RX4 yX4_deeds wsX4_deeds) := goodIn_app (goodIn_of _ (by decide +kernel)) ggL_law_X4_deeds
set_option maxRecDepth 20000 in
theorem ggL_law_L_deedsOf : GoodIn wsL_law wsL_deedsOf := goodIn_ca (goodIn_r _ [416, 66, 417, 418, 419, 2, 420, 21, 316, 317, 318, 319, 76, 77, 240, 241, 242, 20, 243, 93, 409, 99, 100, 101, 39, 102, 103, 104, 732, 733, 734, 735, 750, 751, 752, 753, 754, 755, 756] (by decide +kernel) (by decide +kernel)) (goodIn_sub (fun _ h => List.mem_append_left _ (List.mem_append_left _ (List.mem_append_right _ h))) (by decide +kernel))
set_option maxRecDepth 20000 in
theorem gL_law_L_deedsOf : GoodIn wsL_law (va_wsS RL 131 yL_deedsOf wsL_deedsOf) := goodIn_app (goodIn_of _ (by decide +kernel)) ggL_law_L_deedsOf
set_option maxRecDepth 20000 in
theorem ggL_law_X4_deedsOf : GoodIn wsL_law wsX4_deedsOf := goodIn_r _ [424, 152, 55, 331, 332, 333, 5, 334, 167, 156, 157, 158, 159, 160, 161, 162, 736, 737, 738, 739, 740, 741, 742, 743, 744, 745, 746, 747, 748] (by decide +kernel) (by decide +kernel)
set_option maxRecDepth 20000 in
theorem gL_law_X4_deedsOf : GoodIn wsL_law (wsV RL 133 RX4 yX4_deedsOf wsX4_deedsOf) := goodIn_app (goodIn_of _ (by decide +kernel)) ggL_law_X4_deedsOf
set_option maxRecDepth 20000 in
theorem ggL_law_L_sealOf : GoodIn wsL_law wsL_sealOf := goodIn_ca (goodIn_r _ [427, 66, 428, 429, 430, 2, 431, 21, 316, 317, 318, 319, 76, 77, 240, 241, 242, 20, 243, 93, 432, 221, 222, 223, 40, 102, 103, 104, 732, 733, 734, 735, 750, 751, 752, 753, 754, 755, 756] (by decide +kernel) (by decide +kernel)) (goodIn_sub (fun _ h => List.mem_append_left _ (List.mem_append_left _ (List.mem_append_right _ h))) (by decide +kernel))
set_option maxRecDepth 20000 in
theorem gL_law_L_sealOf : GoodIn wsL_law (va_wsS RL 134 yL_sealOf wsL_sealOf) := goodIn_app (goodIn_of _ (by decide +kernel)) ggL_law_L_sealOf
set_option maxRecDepth 20000 in
theorem ggL_law_X4_sealOf : GoodIn wsL_law wsX4_sealOf := goodIn_r _ [436, 152, 56, 331, 332, 333, 5, 334, 167, 156, 157, 158, 159, 160, 161, 162, 736, 737, 738, 739, 740, 741, 742, 743, 744, 745, 746, 747, 748] (by decide +kernel) (by decide +kernel)
set_option maxRecDepth 20000 in
theorem gL_law_X4_sealOf : GoodIn wsL_law (wsV RL 136 RX4 yX4_sealOf wsX4_sealOf) := goodIn_app (goodIn_of _ (by decide +kernel)) ggL_law_X4_sealOf
set_option maxRecDepth 20000 in
theorem ggL_law_L_isCompacted : GoodIn wsL_law wsL_isCompacted := goodIn_ca (goodIn_r _ [439, 66, 440, 441, 442, 2, 443, 21, 316, 317, 318, 319, 76, 77, 240, 241, 242, 20, 243, 93, 342, 343, 344, 345, 298, 732, 733, 734, 735, 750, 751, 752, 753, 754, 755, 756] (by decide +kernel) (by decide +kernel)) (goodIn_sub (fun _ h => List.mem_append_left _ (List.mem_append_left _ (List.mem_append_right _ h))) (by decide +kernel))
set_option maxRecDepth 20000 in
theorem gL_law_L_isCompacted : GoodIn wsL_law (va_wsS RL 137 yL_isCompacted wsL_isCompacted) := goodIn_app (goodIn_of _ (by decide +kernel)) ggL_law_L_isCompacted
set_option maxRecDepth 20000 in
theorem ggL_law_X4_isCompacted : GoodIn wsL_law wsX4_isCompacted := goodIn_r _ [447, 152, 58, 331, 332, 333, 5, 334, 167, 156, 157, 158, 736, 737, 738, 739, 740, 741, 742, 743, 744, 745, 746, 747, 748] (by decide +kernel) (by decide +kernel)
set_option maxRecDepth 20000 in
theorem gL_law_X4_isCompacted : GoodIn wsL_law (wsV RL 139 RX4 yX4_isCompacted wsX4_isCompacted) := goodIn_app (goodIn_of _ (by decide +kernel)) ggL_law_X4_isCompacted
set_option maxRecDepth 20000 in
theorem ggL_law_L_isFalse : GoodIn wsL_law wsL_isFalse := goodIn_ca (goodIn_r _ [450, 66, 451, 452, 453, 2, 454, 21, 316, 317, 318, 319, 76, 77, 240, 241, 242, 20, 243, 93, 455, 456, 457, 458, 459, 343, 344, 345, 298, 216, 217, 218, 219, 220, 221, 222, 223, 40, 102, 103, 104, 98, 99, 100, 101, 39, 224, 225, 226, 227, 228, 229, 230, 231, 36, 114, 115, 116, 232, 233, 234, 235, 37, 236, 237, 238, 239, 38, 732, 733, 734, 735, 750, 751, 752, 753, 754, 755, 756] (by decide +kernel) (by decide +kernel)) (goodIn_sub (fun _ h => List.mem_append_left _ (List.mem_append_left _ (List.mem_append_right _ h))) (by decide +kernel))
set_option maxRecDepth 20000 in
theorem gL_law_L_isFalse : GoodIn wsL_law (va_wsS RL 140 yL_isFalse wsL_isFalse) := goodIn_app (goodIn_of _ (by decide +kernel)) ggL_law_L_isFalse
set_option maxRecDepth 20000 in
theorem ggL_law_X4_isFalse : GoodIn wsL_law wsX4_isFalse := goodIn_r _ [463, 152, 331, 332, 333, 5, 334, 167, 156, 157, 158, 464, 465, 466, 467, 58, 56, 267, 268, 269, 270, 55, 52, 53, 54, 736, 737, 738, 739, 740, 741, 742, 743, 744, 745, 746, 747, 748] (by decide +kernel) (by decide +kernel)
set_option maxRecDepth 20000 in
theorem gL_law_X4_isFalse : GoodIn wsL_law (wsV RL 142 RX4 yX4_isFalse wsX4_isFalse) := goodIn_app (goodIn_of _ (by decide +kernel)) ggL_law_X4_isFalse
set_option maxRecDepth 20000 in
theorem ggL_law_X3_firstFalse : GoodIn wsL_law wsX3_firstFalse := goodIn_r _ [471, 21, 240, 241, 242, 20, 243, 93, 455, 456, 457, 458, 459, 343, 344, 345, 298, 216, 217, 218, 219, 220, 221, 222, 223, 40, 102, 103, 104, 98, 99, 100, 101, 39, 224, 225, 226, 227, 228, 229, 230, 231, 36, 114, 115, 116, 232, 233, 234, 235, 37, 236, 237, 238, 239, 38, 732, 733, 734, 735, 750, 751, 752, 753, 754, 755, 756] (by decide +kernel) (by decide +kernel)
set_option maxRecDepth 20000 in
theorem gL_law_X3_firstFalse : GoodIn wsL_law (wsV RL 143 RX3 yX3_firstFalse wsX3_firstFalse) := goodIn_app (goodIn_of _ (by decide +kernel)) ggL_law_X3_firstFalse
set_option maxRecDepth 20000 in
theorem ggL_law_X4_firstFalse : GoodIn wsL_law wsX4_firstFalse := goodIn_r _ [475, 476, 477, 478, 5, 479, 167, 464, 465, 466, 467, 58, 56, 267, 268, 269, 270, 55, 52, 53, 54, 363, 364, 365, 366, 152, 736, 737, 738, 739, 740, 741, 742, 743, 744, 745, 746, 747, 748] (by decide +kernel) (by decide +kernel)
set_option maxRecDepth 20000 in
theorem gL_law_X4_firstFalse : GoodIn wsL_law (wsV RL 146 RX4 yX4_firstFalse wsX4_firstFalse) := goodIn_app (goodIn_of _ (by decide +kernel)) ggL_law_X4_firstFalse
set_option maxRecDepth 20000 in
theorem ggL_law_X3_cores : GoodIn wsL_law wsX3_cores := goodIn_r _ [483, 25, 347, 348, 349, 24, 350, 248, 732, 733, 734, 735, 757, 758, 759] (by decide +kernel) (by decide +kernel)
set_option maxRecDepth 20000 in
theorem gL_law_X3_cores : GoodIn wsL_law (wsV RL 147 RX3 yX3_cores wsX3_cores) := goodIn_app (goodIn_of _ (by decide +kernel)) ggL_law_X3_cores
set_option maxRecDepth 20000 in
theorem ggL_law_X4_cores : GoodIn wsL_law wsX4_cores := goodIn_r _ [487, 262, 363, 364, 365, 5, 366, 152, 736, 737, 738, 739, 740, 741, 742, 743, 744, 745, 746, 747, 748] (by decide +kernel) (by decide +kernel)
set_option maxRecDepth 20000 in
theorem gL_law_X4_cores : GoodIn wsL_law (wsV RL 150 RX4 yX4_cores wsX4_cores) := goodIn_app (goodIn_of _ (by decide +kernel)) ggL_law_X4_cores
set_option maxRecDepth 20000 in
theorem ggL_law_L_yearOf : GoodIn wsL_law wsL_yearOf := goodIn_ca (goodIn_r _ [490, 66, 491, 492, 493, 2, 494, 25, 495, 496, 497, 498, 76, 77, 347, 348, 349, 24, 350, 248, 499, 291, 292, 293, 45, 253, 254, 255, 256, 732, 733, 734, 735, 757, 758, 759] (by decide +kernel) (by decide +kernel)) (goodIn_sub (fun _ h => List.mem_append_left _ (List.mem_append_left _ (List.mem_append_right _ h))) (by decide +kernel))
set_option maxRecDepth 20000 in
theorem gL_law_L_yearOf : GoodIn wsL_law (va_wsS RL 151 yL_yearOf wsL_yearOf) := goodIn_app (goodIn_of _ (by decide +kernel)) ggL_law_L_yearOf
set_option maxRecDepth 20000 in
theorem ggL_law_X4_yearOf : GoodIn wsL_law wsX4_yearOf := goodIn_r _ [503, 152, 59, 504, 505, 506, 5, 507, 262, 156, 157, 158, 159, 160, 161, 162, 736, 737, 738, 739, 740, 741, 742, 743, 744, 745, 746, 747, 748] (by decide +kernel) (by decide +kernel)
set_option maxRecDepth 20000 in
theorem gL_law_X4_yearOf : GoodIn wsL_law (wsV RL 153 RX4 yX4_yearOf wsX4_yearOf) := goodIn_app (goodIn_of _ (by decide +kernel)) ggL_law_X4_yearOf
set_option maxRecDepth 20000 in
theorem ggL_law_L_iceOfCore : GoodIn wsL_law wsL_iceOfCore := goodIn_ca (goodIn_r _ [510, 66, 511, 512, 513, 2, 514, 25, 495, 496, 497, 498, 76, 77, 347, 348, 349, 24, 350, 248, 515, 516, 517, 518, 519, 520, 521, 522, 46, 253, 254, 255, 256, 732, 733, 734, 735, 757, 758, 759] (by decide +kernel) (by decide +kernel)) (goodIn_sub (fun _ h => List.mem_append_left _ (List.mem_append_left _ (List.mem_append_right _ h))) (by decide +kernel))
set_option maxRecDepth 20000 in
theorem gL_law_L_iceOfCore : GoodIn wsL_law (va_wsS RL 154 yL_iceOfCore wsL_iceOfCore) := goodIn_app (goodIn_of _ (by decide +kernel)) ggL_law_L_iceOfCore
set_option maxRecDepth 20000 in
theorem ggL_law_X4_iceOfCore : GoodIn wsL_law wsX4_iceOfCore := goodIn_r _ [526, 152, 60, 504, 505, 506, 5, 507, 262, 156, 157, 158, 390, 391, 392, 159, 160, 161, 162, 736, 737, 738, 739, 740, 741, 742, 743, 744, 745, 746, 747, 748] (by decide +kernel) (by decide +kernel)
set_option maxRecDepth 20000 in
theorem gL_law_X4_iceOfCore : GoodIn wsL_law (wsV RL 156 RX4 yX4_iceOfCore wsX4_iceOfCore) := goodIn_app (goodIn_of _ (by decide +kernel)) ggL_law_X4_iceOfCore
set_option maxRecDepth 20000 in
theorem ggL_law_L_canReplay : GoodIn wsL_law wsL_canReplay := goodIn_ca (goodIn_r _ [529, 67, 530, 531, 532, 2, 533, 534, 535, 536, 537, 81, 82, 21, 240, 241, 242, 20, 243, 93, 538, 539, 540, 541, 542, 543, 544, 545, 25, 546, 126, 123, 127, 547, 287, 288, 24, 289, 248, 290, 291, 292, 293, 45, 253, 254, 255, 256, 499, 342, 343, 344, 345, 298, 732, 733, 734, 735, 750, 751, 752, 753, 754, 755, 756, 757, 758, 759] (by decide +kernel) (by decide +kernel)) (goodIn_sub (fun _ h => List.mem_append_left _ (List.mem_append_right _ h)) (by decide +kernel))
set_option maxRecDepth 20000 in
theorem gL_law_L_canReplay : GoodIn wsL_law (va_wsS RL 157 yL_canReplay wsL_canReplay) := goodIn_app (goodIn_of _ (by decide +kernel)) ggL_law_L_canReplay
set_option maxRecDepth 20000 in
theorem ggL_law_X4_canReplay : GoodIn wsL_law wsX4_canReplay := goodIn_r _ [551, 152, 552, 553, 554, 5, 555, 167, 156, 157, 158, 556, 557, 558, 559, 58, 560, 561, 562, 563, 59, 564, 565, 566, 567, 262, 736, 737, 738, 739, 740, 741, 742, 743, 744, 745, 746, 747, 748] (by decide +kernel) (by decide +kernel)
set_option maxRecDepth 20000 in
theorem gL_law_X4_canReplay : GoodIn wsL_law (wsV RL 159 RX4 yX4_canReplay wsX4_canReplay) := goodIn_app (goodIn_of _ (by decide +kernel)) ggL_law_X4_canReplay
set_option maxRecDepth 20000 in
theorem ggL_law_L_replayedFrom : GoodIn wsL_law wsL_replayedFrom := goodIn_ca (goodIn_r _ [570, 67, 571, 572, 573, 2, 574, 25, 534, 535, 536, 537, 81, 82, 21, 240, 241, 242, 20, 243, 93, 547, 287, 288, 24, 289, 248, 290, 291, 292, 293, 45, 253, 254, 255, 256, 499, 732, 733, 734, 735, 750, 751, 752, 753, 754, 755, 756, 757, 758, 759] (by decide +kernel) (by decide +kernel)) (goodIn_sub (fun _ h => List.mem_append_left _ (List.mem_append_right _ h)) (by decide +kernel))
set_option maxRecDepth 20000 in
theorem gL_law_L_replayedFrom : GoodIn wsL_law (va_wsS RL 160 yL_replayedFrom wsL_replayedFrom) := goodIn_app (goodIn_of _ (by decide +kernel)) ggL_law_L_replayedFrom
set_option maxRecDepth 20000 in
theorem ggL_law_X4_replayedFrom : GoodIn wsL_law wsX4_replayedFrom := goodIn_r _ [578, 152, 59, 552, 553, 554, 5, 555, 167, 156, 157, 158, 159, 160, 161, 162, 564, 565, 566, 567, 262, 736, 737, 738, 739, 740, 741, 742, 743, 744, 745, 746, 747, 748] (by decide +kernel) (by decide +kernel)
set_option maxRecDepth 20000 in
theorem gL_law_X4_replayedFrom : GoodIn wsL_law (wsV RL 162 RX4 yX4_replayedFrom wsX4_replayedFrom) := goodIn_app (goodIn_of _ (by decide +kernel)) ggL_law_X4_replayedFrom
set_option maxRecDepth 20000 in
theorem ggL_law_L_replayCost : GoodIn wsL_law wsL_replayCost := goodIn_ca (goodIn_ca (goodIn_r _ [581, 67, 68, 582, 583, 584, 2, 585, 534, 535, 536, 537, 81, 82, 21, 240, 241, 242, 20, 243, 93, 586, 587, 588, 589, 87, 88, 538, 539, 540, 541, 542, 543, 544, 545, 25, 546, 126, 123, 127, 547, 287, 288, 24, 289, 248, 290, 291, 292, 293, 45, 253, 254, 255, 256, 499, 342, 343, 344, 345, 298, 590, 591, 592, 593, 409, 99, 100, 101, 39, 102, 103, 104, 732, 733, 734, 735, 750, 751, 752, 753, 754, 755, 756, 757, 758, 759] (by decide +kernel) (by decide +kernel)) (goodIn_sub (fun _ h => List.mem_append_left _ (List.mem_append_right _ h)) (by decide +kernel))) (goodIn_sub (fun _ h => List.mem_append_right _ h) (by decide +kernel))
set_option maxRecDepth 20000 in
theorem gL_law_L_replayCost : GoodIn wsL_law (va_wsS RL 163 yL_replayCost wsL_replayCost) := goodIn_app (goodIn_of _ (by decide +kernel)) ggL_law_L_replayCost
set_option maxRecDepth 20000 in
theorem ggL_law_X4_replayCost : GoodIn wsL_law wsX4_replayCost := goodIn_r _ [597, 152, 552, 553, 554, 5, 555, 167, 156, 157, 158, 159, 160, 161, 162, 556, 557, 558, 559, 58, 560, 561, 562, 563, 59, 564, 565, 566, 567, 262, 598, 599, 600, 601, 55, 736, 737, 738, 739, 740, 741, 742, 743, 744, 745, 746, 747, 748] (by decide +kernel) (by decide +kernel)
set_option maxRecDepth 20000 in
theorem gL_law_X4_replayCost : GoodIn wsL_law (wsV RL 165 RX4 yX4_replayCost wsX4_replayCost) := goodIn_app (goodIn_of _ (by decide +kernel)) ggL_law_X4_replayCost
set_option maxRecDepth 20000 in
theorem ggL_law_L_iceInYear : GoodIn wsL_law wsL_iceInYear := goodIn_ca (goodIn_ca (goodIn_ca (goodIn_r _ [604, 66, 67, 68, 605, 606, 607, 2, 608, 17, 73, 74, 75, 76, 77, 534, 535, 536, 537, 81, 82, 21, 240, 241, 242, 20, 243, 93, 586, 587, 588, 589, 87, 88, 538, 539, 540, 541, 542, 543, 544, 545, 25, 546, 126, 123, 127, 547, 287, 288, 24, 289, 248, 290, 291, 292, 293, 45, 253, 254, 255, 256, 499, 342, 343, 344, 345, 298, 609, 610, 611, 612, 613, 614, 615, 15, 616, 31, 617, 618, 619, 620, 519, 520, 521, 522, 46, 621, 136, 137, 138, 132, 133, 134, 622, 623, 624, 625, 98, 99, 100, 101, 39, 102, 103, 104, 224, 225, 226, 227, 228, 229, 230, 231, 36, 114, 115, 116, 232, 233, 234, 235, 37, 236, 237, 238, 239, 38, 626, 118, 119, 120, 121, 122, 124, 125, 128, 129, 130, 131, 135, 139, 140, 141, 142, 143, 732, 733, 734, 735, 750, 751, 752, 753, 754, 755, 756, 757, 758, 759, 749] (by decide +kernel) (by decide +kernel)) (goodIn_sub (fun _ h => List.mem_append_left _ (List.mem_append_left _ (List.mem_append_right _ h))) (by decide +kernel))) (goodIn_sub (fun _ h => List.mem_append_left _ (List.mem_append_right _ h)) (by decide +kernel))) (goodIn_sub (fun _ h => List.mem_append_right _ h) (by decide +kernel))
set_option maxRecDepth 20000 in
theorem gL_law_L_iceInYear : GoodIn wsL_law (va_wsS RL 166 yL_iceInYear wsL_iceInYear) := goodIn_app (goodIn_of _ (by decide +kernel)) ggL_law_L_iceInYear
set_option maxRecDepth 20000 in
theorem ggL_law_X4_iceInYear : GoodIn wsL_law wsX4_iceInYear := goodIn_r _ [630, 152, 61, 153, 154, 5, 155, 156, 157, 158, 159, 160, 161, 162, 552, 553, 554, 555, 167, 556, 557, 558, 559, 58, 560, 561, 562, 563, 59, 564, 565, 566, 567, 262, 631, 632, 633, 634, 60, 55, 172, 173, 174, 175, 53, 52, 54, 176, 122, 123, 124, 177, 126, 127, 736, 737, 738, 739, 740, 741, 742, 743, 744, 745, 746, 747, 748] (by decide +kernel) (by decide +kernel)
set_option maxRecDepth 20000 in
theorem gL_law_X4_iceInYear : GoodIn wsL_law (wsV RL 168 RX4 yX4_iceInYear wsX4_iceInYear) := goodIn_app (goodIn_of _ (by decide +kernel)) ggL_law_X4_iceInYear
set_option maxRecDepth 20000 in
theorem ggL_law_X3_richestYear : GoodIn wsL_law wsX3_richestYear := goodIn_r _ [638, 17, 21, 613, 614, 615, 15, 616, 31, 240, 241, 242, 20, 243, 93, 639, 640, 641, 2, 642, 25, 282, 283, 284, 24, 285, 286, 287, 288, 289, 248, 290, 291, 292, 293, 45, 253, 254, 255, 256, 622, 623, 624, 625, 98, 99, 100, 101, 39, 102, 103, 104, 224, 225, 226, 227, 228, 229, 230, 231, 36, 114, 115, 116, 232, 233, 234, 235, 37, 236, 237, 238, 239, 38, 626, 118, 119, 120, 121, 122, 123, 124, 125, 126, 127, 128, 129, 130, 131, 132, 133, 134, 135, 136, 137, 138, 139, 140, 141, 142, 617, 618, 619, 620, 519, 520, 521, 522, 46, 621, 538, 539, 540, 541, 542, 543, 544, 545, 546, 547, 499, 342, 343, 344, 345, 298, 382, 383, 384, 385, 732, 733, 734, 735, 749, 750, 751, 752, 753, 754, 755, 756, 757, 758, 759] (by decide +kernel) (by decide +kernel)
set_option maxRecDepth 20000 in
theorem gL_law_X3_richestYear : GoodIn wsL_law (wsV RL 169 RX3 yX3_richestYear wsX3_richestYear) := goodIn_app (goodIn_of _ (by decide +kernel)) ggL_law_X3_richestYear
set_option maxRecDepth 20000 in
theorem ggL_law_X4_richestYear : GoodIn wsL_law wsX4_richestYear := goodIn_r _ [646, 647, 648, 649, 5, 650, 167, 61, 556, 557, 558, 559, 58, 560, 561, 562, 563, 59, 564, 565, 566, 567, 262, 631, 632, 633, 634, 60, 55, 172, 173, 174, 175, 53, 52, 54, 176, 122, 123, 124, 177, 126, 127, 390, 391, 392, 363, 364, 365, 366, 152, 736, 737, 738, 739, 740, 741, 742, 743, 744, 745, 746, 747, 748] (by decide +kernel) (by decide +kernel)
set_option maxRecDepth 20000 in
theorem gL_law_X4_richestYear : GoodIn wsL_law (wsV RL 172 RX4 yX4_richestYear wsX4_richestYear) := goodIn_app (goodIn_of _ (by decide +kernel)) ggL_law_X4_richestYear
set_option maxRecDepth 20000 in
theorem ggL_law_L_iceAfter : GoodIn wsL_law wsL_iceAfter := goodIn_ca (goodIn_r _ [653, 67, 654, 655, 656, 2, 657, 81, 82, 17, 16, 21, 658, 659, 660, 15, 661, 31, 240, 241, 242, 20, 243, 93, 622, 623, 624, 625, 98, 99, 100, 101, 39, 102, 103, 104, 224, 225, 226, 227, 228, 229, 230, 231, 36, 114, 115, 116, 232, 233, 234, 235, 37, 236, 237, 238, 239, 38, 626, 118, 119, 120, 121, 122, 123, 124, 125, 126, 127, 128, 129, 130, 131, 132, 133, 134, 135, 136, 137, 138, 139, 140, 141, 142, 382, 383, 384, 385, 732, 733, 734, 735, 749, 750, 751, 752, 753, 754, 755, 756] (by decide +kernel) (by decide +kernel)) (goodIn_sub (fun _ h => List.mem_append_left _ (List.mem_append_right _ h)) (by decide +kernel))
set_option maxRecDepth 20000 in
theorem gL_law_L_iceAfter : GoodIn wsL_law (va_wsS RL 173 yL_iceAfter wsL_iceAfter) := goodIn_app (goodIn_of _ (by decide +kernel)) ggL_law_L_iceAfter
set_option maxRecDepth 20000 in
theorem ggL_law_X4_iceAfter : GoodIn wsL_law wsX4_iceAfter := goodIn_r _ [665, 152, 51, 61, 263, 264, 265, 266, 167, 55, 156, 157, 5, 158, 159, 160, 161, 162, 172, 173, 174, 175, 53, 52, 54, 176, 122, 123, 124, 177, 126, 127, 390, 391, 392, 736, 737, 738, 739, 740, 741, 742, 743, 744, 745, 746, 747, 748] (by decide +kernel) (by decide +kernel)
set_option maxRecDepth 20000 in
theorem gL_law_X4_iceAfter : GoodIn wsL_law (wsV RL 175 RX4 yX4_iceAfter wsX4_iceAfter) := goodIn_app (goodIn_of _ (by decide +kernel)) ggL_law_X4_iceAfter
set_option maxRecDepth 20000 in
theorem ggL_law_X3_bestCore : GoodIn wsL_law wsX3_bestCore := goodIn_r _ [669, 21, 240, 241, 242, 20, 243, 93, 670, 671, 672, 2, 673, 25, 538, 539, 540, 541, 542, 543, 544, 545, 546, 126, 123, 127, 547, 287, 288, 24, 289, 248, 290, 291, 292, 293, 45, 253, 254, 255, 256, 499, 342, 343, 344, 345, 298, 674, 675, 676, 677, 590, 591, 592, 593, 409, 99, 100, 101, 39, 102, 103, 104, 732, 733, 734, 735, 750, 751, 752, 753, 754, 755, 756, 757, 758, 759] (by decide +kernel) (by decide +kernel)
set_option maxRecDepth 20000 in
theorem gL_law_X3_bestCore : GoodIn wsL_law (wsV RL 176 RX3 yX3_bestCore wsX3_bestCore) := goodIn_app (goodIn_of _ (by decide +kernel)) ggL_law_X3_bestCore
set_option maxRecDepth 20000 in
theorem ggL_law_X4_bestCore : GoodIn wsL_law wsX4_bestCore := goodIn_r _ [681, 682, 683, 684, 5, 685, 167, 686, 687, 688, 689, 177, 126, 123, 127, 556, 557, 558, 559, 58, 560, 561, 562, 563, 59, 564, 565, 566, 567, 262, 598, 599, 600, 601, 55, 363, 364, 365, 366, 152, 736, 737, 738, 739, 740, 741, 742, 743, 744, 745, 746, 747, 748] (by decide +kernel) (by decide +kernel)
set_option maxRecDepth 20000 in
theorem gL_law_X4_bestCore : GoodIn wsL_law (wsV RL 179 RX4 yX4_bestCore wsX4_bestCore) := goodIn_app (goodIn_of _ (by decide +kernel)) ggL_law_X4_bestCore
set_option maxRecDepth 20000 in
theorem ggL_law_X3_meanIce : GoodIn wsL_law wsX3_meanIce := goodIn_r _ [693, 16, 694, 382, 383, 384, 15, 385, 31, 732, 733, 734, 735, 749] (by decide +kernel) (by decide +kernel)
set_option maxRecDepth 20000 in
theorem gL_law_X3_meanIce : GoodIn wsL_law (wsV RL 180 RX3 yX3_meanIce wsX3_meanIce) := goodIn_app (goodIn_of _ (by decide +kernel)) ggL_law_X3_meanIce
set_option maxRecDepth 20000 in
theorem ggL_law_X4_meanIce : GoodIn wsL_law wsX4_meanIce := goodIn_r _ [698, 152, 51, 699, 390, 391, 5, 392, 736, 737, 738, 739, 740, 741, 742, 743, 744, 745, 746, 747, 748] (by decide +kernel) (by decide +kernel)
set_option maxRecDepth 20000 in
theorem gL_law_X4_meanIce : GoodIn wsL_law (wsV RL 184 RX4 yX4_meanIce wsX4_meanIce) := goodIn_app (goodIn_of _ (by decide +kernel)) ggL_law_X4_meanIce
set_option maxRecDepth 20000 in
theorem ggL_law_X3_digest : GoodIn wsL_law wsX3_digest := goodIn_r _ [703, 704, 705, 16, 706, 356, 357, 2, 358, 21, 240, 241, 242, 20, 243, 93, 707, 379, 380, 381, 382, 383, 384, 15, 385, 31, 708, 394, 395, 396, 143, 129, 130, 131, 132, 133, 134, 709, 406, 407, 408, 409, 99, 100, 101, 39, 102, 103, 104, 710, 469, 470, 471, 455, 456, 457, 458, 459, 343, 344, 345, 298, 216, 217, 218, 219, 220, 221, 222, 223, 40, 98, 224, 225, 226, 227, 228, 229, 230, 231, 36, 114, 115, 116, 232, 233, 234, 235, 37, 236, 237, 238, 239, 38, 711, 481, 482, 483, 25, 347, 348, 349, 24, 350, 248, 712, 636, 637, 638, 17, 613, 614, 615, 616, 639, 640, 641, 642, 282, 283, 284, 285, 286, 287, 288, 289, 290, 291, 292, 293, 45, 253, 254, 255, 256, 622, 623, 624, 625, 626, 118, 119, 120, 121, 122, 123, 124, 125, 126, 127, 128, 135, 136, 137, 138, 139, 140, 141, 142, 617, 618, 619, 620, 519, 520, 521, 522, 46, 621, 538, 539, 540, 541, 542, 543, 544, 545, 546, 547, 499, 342, 713, 667, 668, 669, 670, 671, 672, 673, 674, 675, 676, 677, 590, 591, 592, 593, 714, 715, 716, 717, 432, 718, 719, 720, 721, 515, 516, 517, 518, 722, 723, 724, 725, 732, 733, 734, 735, 750, 751, 752, 753, 754, 755, 756, 749, 757, 758, 759] (by decide +kernel) (by decide +kernel)
set_option maxRecDepth 20000 in
theorem gL_law_X3_digest : GoodIn wsL_law (wsV RL 185 RX3 yX3_digest wsX3_digest) := goodIn_app (goodIn_of _ (by decide +kernel)) ggL_law_X3_digest
set_option maxRecDepth 20000 in
theorem ggL_law_X4_digest : GoodIn wsL_law wsX4_digest := goodIn_r _ [729, 152, 30, 167, 51, 55, 262, 730, 731, 56, 58, 59, 60, 390, 391, 5, 392, 401, 402, 403, 404, 476, 477, 478, 479, 464, 465, 466, 467, 267, 268, 269, 270, 52, 53, 54, 647, 648, 649, 650, 61, 556, 557, 558, 559, 560, 561, 562, 563, 564, 565, 566, 567, 631, 632, 633, 634, 172, 173, 174, 175, 176, 122, 123, 124, 177, 126, 127, 682, 683, 684, 685, 686, 687, 688, 689, 598, 599, 600, 601, 736, 737, 738, 739, 740, 741, 742, 743, 744, 745, 746, 747, 748] (by decide +kernel) (by decide +kernel)
set_option maxRecDepth 20000 in
theorem gL_law_X4_digest : GoodIn wsL_law (wsV RL 189 RX4 yX4_digest wsX4_digest) := goodIn_app (goodIn_of _ (by decide +kernel)) ggL_law_X4_digest
theorem dL_law_0 : decode cL_law 0 = .ok (.new 8, 3) := by decide +kernel
theorem dL_law_3 : decode cL_law 3 = .ok (.dup, 1) := by decide +kernel
theorem dL_law_4 : decode cL_law 4 = .ok (.invokespecial 77, 3) := by decide +kernel
theorem dL_law_7 : decode cL_law 7 = .ok (.astore_n 1, 1) := by decide +kernel
theorem dL_law_8 : decode cL_law 8 = .ok (.new 78, 3) := by decide +kernel
theorem dL_law_11 : decode cL_law 11 = .ok (.dup, 1) := by decide +kernel
theorem dL_law_12 : decode cL_law 12 = .ok (.invokespecial 80, 3) := by decide +kernel
theorem dL_law_15 : decode cL_law 15 = .ok (.astore_n 2, 1) := by decide +kernel
theorem dL_law_16 : decode cL_law 16 = .ok (.iconst 1, 1) := by decide +kernel
theorem dL_law_17 : decode cL_law 17 = .ok (.newarray .long, 2) := by decide +kernel
theorem dL_law_19 : decode cL_law 19 = .ok (.astore_n 3, 1) := by decide +kernel
theorem dL_law_20 : decode cL_law 20 = .ok (.iconst 0, 1) := by decide +kernel
theorem dL_law_21 : decode cL_law 21 = .ok (.istore 4, 2) := by decide +kernel
theorem dL_law_23 : decode cL_law 23 = .ok (.iload 4, 2) := by decide +kernel
theorem dL_law_25 : decode cL_law 25 = .ok (.aload_n 0, 1) := by decide +kernel
theorem dL_law_26 : decode cL_law 26 = .ok (.arraylength, 1) := by decide +kernel
theorem dL_law_27 : decode cL_law 27 = .ok (.iconst 4, 1) := by decide +kernel
theorem dL_law_28 : decode cL_law 28 = .ok (.isub, 1) := by decide +kernel
theorem dL_law_29 : decode cL_law 29 = .ok (.if_icmp .gt 1465, 3) := by decide +kernel
theorem dL_law_32 : decode cL_law 32 = .ok (.aload_n 0, 1) := by decide +kernel
theorem dL_law_33 : decode cL_law 33 = .ok (.iload 4, 2) := by decide +kernel
theorem dL_law_35 : decode cL_law 35 = .ok (.iaload, 1) := by decide +kernel
theorem dL_law_36 : decode cL_law 36 = .ok (.bipush 31, 2) := by decide +kernel
theorem dL_law_38 : decode cL_law 38 = .ok (.iand, 1) := by decide +kernel
theorem dL_law_39 : decode cL_law 39 = .ok (.tableswitch 1449 0 28 #[129, 197, 265, 321, 393, 449, 529, 585, 598, 654, 667, 680, 693, 749, 805, 868, 931, 944, 957, 1013, 1069, 1132, 1188, 1244, 1312, 1325, 1381, 1394, 1435], 129) := by decide +kernel
theorem dL_law_168 : decode cL_law 168 = .ok (.aload_n 1, 1) := by decide +kernel
theorem dL_law_169 : decode cL_law 169 = .ok (.aload_n 0, 1) := by decide +kernel
theorem dL_law_170 : decode cL_law 170 = .ok (.iload 4, 2) := by decide +kernel
theorem dL_law_172 : decode cL_law 172 = .ok (.iconst 1, 1) := by decide +kernel
theorem dL_law_173 : decode cL_law 173 = .ok (.iadd, 1) := by decide +kernel
theorem dL_law_174 : decode cL_law 174 = .ok (.iaload, 1) := by decide +kernel
theorem dL_law_175 : decode cL_law 175 = .ok (.aload_n 0, 1) := by decide +kernel
theorem dL_law_176 : decode cL_law 176 = .ok (.iload 4, 2) := by decide +kernel
theorem dL_law_178 : decode cL_law 178 = .ok (.iconst 2, 1) := by decide +kernel
theorem dL_law_179 : decode cL_law 179 = .ok (.iadd, 1) := by decide +kernel
theorem dL_law_180 : decode cL_law 180 = .ok (.iaload, 1) := by decide +kernel
theorem dL_law_181 : decode cL_law 181 = .ok (.aload_n 3, 1) := by decide +kernel
theorem dL_law_182 : decode cL_law 182 = .ok (.invokestatic 81, 3) := by decide +kernel
theorem dL_law_185 : decode cL_law 185 = .ok (.istore 5, 2) := by decide +kernel
theorem dL_law_187 : decode cL_law 187 = .ok (.aload_n 2, 1) := by decide +kernel
theorem dL_law_188 : decode cL_law 188 = .ok (.aload_n 0, 1) := by decide +kernel
theorem dL_law_189 : decode cL_law 189 = .ok (.iload 4, 2) := by decide +kernel
theorem dL_law_191 : decode cL_law 191 = .ok (.iconst 1, 1) := by decide +kernel
theorem dL_law_192 : decode cL_law 192 = .ok (.iadd, 1) := by decide +kernel
theorem dL_law_193 : decode cL_law 193 = .ok (.iaload, 1) := by decide +kernel
theorem dL_law_194 : decode cL_law 194 = .ok (.aload_n 0, 1) := by decide +kernel
theorem dL_law_195 : decode cL_law 195 = .ok (.iload 4, 2) := by decide +kernel
theorem dL_law_197 : decode cL_law 197 = .ok (.iconst 2, 1) := by decide +kernel
theorem dL_law_198 : decode cL_law 198 = .ok (.iadd, 1) := by decide +kernel
theorem dL_law_199 : decode cL_law 199 = .ok (.iaload, 1) := by decide +kernel
theorem dL_law_200 : decode cL_law 200 = .ok (.invokevirtual 86, 3) := by decide +kernel
theorem dL_law_203 : decode cL_law 203 = .ok (.istore 6, 2) := by decide +kernel
theorem dL_law_205 : decode cL_law 205 = .ok (.aload_n 2, 1) := by decide +kernel
theorem dL_law_206 : decode cL_law 206 = .ok (.invokevirtual 87, 3) := by decide +kernel
theorem dL_law_209 : decode cL_law 209 = .ok (.iload 5, 2) := by decide +kernel
theorem dL_law_211 : decode cL_law 211 = .ok (.if_icmp .eq 5, 3) := by decide +kernel
theorem dL_law_214 : decode cL_law 214 = .ok (.iconst 0, 1) := by decide +kernel
theorem dL_law_215 : decode cL_law 215 = .ok (.ireturn, 1) := by decide +kernel
theorem dL_law_216 : decode cL_law 216 = .ok (.iload 5, 2) := by decide +kernel
theorem dL_law_218 : decode cL_law 218 = .ok (.ifCond .ne 15, 3) := by decide +kernel
theorem dL_law_221 : decode cL_law 221 = .ok (.aload_n 3, 1) := by decide +kernel
theorem dL_law_222 : decode cL_law 222 = .ok (.iconst 0, 1) := by decide +kernel
theorem dL_law_223 : decode cL_law 223 = .ok (.laload, 1) := by decide +kernel
theorem dL_law_224 : decode cL_law 224 = .ok (.iload 6, 2) := by decide +kernel
theorem dL_law_226 : decode cL_law 226 = .ok (.i2l, 1) := by decide +kernel
theorem dL_law_227 : decode cL_law 227 = .ok (.lcmp, 1) := by decide +kernel
theorem dL_law_228 : decode cL_law 228 = .ok (.ifCond .eq 5, 3) := by decide +kernel
theorem dL_law_231 : decode cL_law 231 = .ok (.iconst 0, 1) := by decide +kernel
theorem dL_law_232 : decode cL_law 232 = .ok (.ireturn, 1) := by decide +kernel
theorem dL_law_233 : decode cL_law 233 = .ok (.goto 1255, 3) := by decide +kernel
theorem dL_law_236 : decode cL_law 236 = .ok (.aload_n 1, 1) := by decide +kernel
theorem dL_law_237 : decode cL_law 237 = .ok (.aload_n 0, 1) := by decide +kernel
theorem dL_law_238 : decode cL_law 238 = .ok (.iload 4, 2) := by decide +kernel
theorem dL_law_240 : decode cL_law 240 = .ok (.iconst 1, 1) := by decide +kernel
theorem dL_law_241 : decode cL_law 241 = .ok (.iadd, 1) := by decide +kernel
theorem dL_law_242 : decode cL_law 242 = .ok (.iaload, 1) := by decide +kernel
theorem dL_law_243 : decode cL_law 243 = .ok (.aload_n 0, 1) := by decide +kernel
theorem dL_law_244 : decode cL_law 244 = .ok (.iload 4, 2) := by decide +kernel
theorem dL_law_246 : decode cL_law 246 = .ok (.iconst 2, 1) := by decide +kernel
theorem dL_law_247 : decode cL_law 247 = .ok (.iadd, 1) := by decide +kernel
theorem dL_law_248 : decode cL_law 248 = .ok (.iaload, 1) := by decide +kernel
theorem dL_law_249 : decode cL_law 249 = .ok (.aload_n 3, 1) := by decide +kernel
theorem dL_law_250 : decode cL_law 250 = .ok (.invokestatic 91, 3) := by decide +kernel
theorem dL_law_253 : decode cL_law 253 = .ok (.istore 5, 2) := by decide +kernel
theorem dL_law_255 : decode cL_law 255 = .ok (.aload_n 2, 1) := by decide +kernel
theorem dL_law_256 : decode cL_law 256 = .ok (.aload_n 0, 1) := by decide +kernel
theorem dL_law_257 : decode cL_law 257 = .ok (.iload 4, 2) := by decide +kernel
theorem dL_law_259 : decode cL_law 259 = .ok (.iconst 1, 1) := by decide +kernel
theorem dL_law_260 : decode cL_law 260 = .ok (.iadd, 1) := by decide +kernel
theorem dL_law_261 : decode cL_law 261 = .ok (.iaload, 1) := by decide +kernel
theorem dL_law_262 : decode cL_law 262 = .ok (.aload_n 0, 1) := by decide +kernel
theorem dL_law_263 : decode cL_law 263 = .ok (.iload 4, 2) := by decide +kernel
theorem dL_law_265 : decode cL_law 265 = .ok (.iconst 2, 1) := by decide +kernel
theorem dL_law_266 : decode cL_law 266 = .ok (.iadd, 1) := by decide +kernel
theorem dL_law_267 : decode cL_law 267 = .ok (.iaload, 1) := by decide +kernel
theorem dL_law_268 : decode cL_law 268 = .ok (.invokevirtual 93, 3) := by decide +kernel
theorem dL_law_271 : decode cL_law 271 = .ok (.istore 6, 2) := by decide +kernel
theorem dL_law_273 : decode cL_law 273 = .ok (.aload_n 2, 1) := by decide +kernel
theorem dL_law_274 : decode cL_law 274 = .ok (.invokevirtual 87, 3) := by decide +kernel
theorem dL_law_277 : decode cL_law 277 = .ok (.iload 5, 2) := by decide +kernel
theorem dL_law_279 : decode cL_law 279 = .ok (.if_icmp .eq 5, 3) := by decide +kernel
theorem dL_law_282 : decode cL_law 282 = .ok (.iconst 0, 1) := by decide +kernel
theorem dL_law_283 : decode cL_law 283 = .ok (.ireturn, 1) := by decide +kernel
theorem dL_law_284 : decode cL_law 284 = .ok (.iload 5, 2) := by decide +kernel
theorem dL_law_286 : decode cL_law 286 = .ok (.ifCond .ne 15, 3) := by decide +kernel
theorem dL_law_289 : decode cL_law 289 = .ok (.aload_n 3, 1) := by decide +kernel
theorem dL_law_290 : decode cL_law 290 = .ok (.iconst 0, 1) := by decide +kernel
theorem dL_law_291 : decode cL_law 291 = .ok (.laload, 1) := by decide +kernel
theorem dL_law_292 : decode cL_law 292 = .ok (.iload 6, 2) := by decide +kernel
theorem dL_law_294 : decode cL_law 294 = .ok (.i2l, 1) := by decide +kernel
theorem dL_law_295 : decode cL_law 295 = .ok (.lcmp, 1) := by decide +kernel
theorem dL_law_296 : decode cL_law 296 = .ok (.ifCond .eq 5, 3) := by decide +kernel
theorem dL_law_299 : decode cL_law 299 = .ok (.iconst 0, 1) := by decide +kernel
theorem dL_law_300 : decode cL_law 300 = .ok (.ireturn, 1) := by decide +kernel
theorem dL_law_301 : decode cL_law 301 = .ok (.goto 1187, 3) := by decide +kernel
theorem dL_law_304 : decode cL_law 304 = .ok (.aload_n 1, 1) := by decide +kernel
theorem dL_law_305 : decode cL_law 305 = .ok (.aload_n 0, 1) := by decide +kernel
theorem dL_law_306 : decode cL_law 306 = .ok (.iload 4, 2) := by decide +kernel
theorem dL_law_308 : decode cL_law 308 = .ok (.iconst 1, 1) := by decide +kernel
theorem dL_law_309 : decode cL_law 309 = .ok (.iadd, 1) := by decide +kernel
theorem dL_law_310 : decode cL_law 310 = .ok (.iaload, 1) := by decide +kernel
theorem dL_law_311 : decode cL_law 311 = .ok (.aload_n 3, 1) := by decide +kernel
theorem dL_law_312 : decode cL_law 312 = .ok (.invokestatic 94, 3) := by decide +kernel
theorem dL_law_315 : decode cL_law 315 = .ok (.istore 5, 2) := by decide +kernel
theorem dL_law_317 : decode cL_law 317 = .ok (.aload_n 2, 1) := by decide +kernel
theorem dL_law_318 : decode cL_law 318 = .ok (.aload_n 0, 1) := by decide +kernel
theorem dL_law_319 : decode cL_law 319 = .ok (.iload 4, 2) := by decide +kernel
theorem dL_law_321 : decode cL_law 321 = .ok (.iconst 1, 1) := by decide +kernel
theorem dL_law_322 : decode cL_law 322 = .ok (.iadd, 1) := by decide +kernel
theorem dL_law_323 : decode cL_law 323 = .ok (.iaload, 1) := by decide +kernel
theorem dL_law_324 : decode cL_law 324 = .ok (.invokevirtual 97, 3) := by decide +kernel
theorem dL_law_327 : decode cL_law 327 = .ok (.istore 6, 2) := by decide +kernel
theorem dL_law_329 : decode cL_law 329 = .ok (.aload_n 2, 1) := by decide +kernel
theorem dL_law_330 : decode cL_law 330 = .ok (.invokevirtual 87, 3) := by decide +kernel
theorem dL_law_333 : decode cL_law 333 = .ok (.iload 5, 2) := by decide +kernel
theorem dL_law_335 : decode cL_law 335 = .ok (.if_icmp .eq 5, 3) := by decide +kernel
theorem dL_law_338 : decode cL_law 338 = .ok (.iconst 0, 1) := by decide +kernel
theorem dL_law_339 : decode cL_law 339 = .ok (.ireturn, 1) := by decide +kernel
theorem dL_law_340 : decode cL_law 340 = .ok (.iload 5, 2) := by decide +kernel
theorem dL_law_342 : decode cL_law 342 = .ok (.ifCond .ne 15, 3) := by decide +kernel
theorem dL_law_345 : decode cL_law 345 = .ok (.aload_n 3, 1) := by decide +kernel
theorem dL_law_346 : decode cL_law 346 = .ok (.iconst 0, 1) := by decide +kernel
theorem dL_law_347 : decode cL_law 347 = .ok (.laload, 1) := by decide +kernel
theorem dL_law_348 : decode cL_law 348 = .ok (.iload 6, 2) := by decide +kernel
theorem dL_law_350 : decode cL_law 350 = .ok (.i2l, 1) := by decide +kernel
theorem dL_law_351 : decode cL_law 351 = .ok (.lcmp, 1) := by decide +kernel
theorem dL_law_352 : decode cL_law 352 = .ok (.ifCond .eq 5, 3) := by decide +kernel
theorem dL_law_355 : decode cL_law 355 = .ok (.iconst 0, 1) := by decide +kernel
theorem dL_law_356 : decode cL_law 356 = .ok (.ireturn, 1) := by decide +kernel
theorem dL_law_357 : decode cL_law 357 = .ok (.goto 1131, 3) := by decide +kernel
theorem dL_law_360 : decode cL_law 360 = .ok (.aload_n 1, 1) := by decide +kernel
theorem dL_law_361 : decode cL_law 361 = .ok (.aload_n 0, 1) := by decide +kernel
theorem dL_law_362 : decode cL_law 362 = .ok (.iload 4, 2) := by decide +kernel
theorem dL_law_364 : decode cL_law 364 = .ok (.iconst 1, 1) := by decide +kernel
theorem dL_law_365 : decode cL_law 365 = .ok (.iadd, 1) := by decide +kernel
theorem dL_law_366 : decode cL_law 366 = .ok (.iaload, 1) := by decide +kernel
theorem dL_law_367 : decode cL_law 367 = .ok (.ifCond .eq 7, 3) := by decide +kernel
theorem dL_law_370 : decode cL_law 370 = .ok (.iconst 1, 1) := by decide +kernel
theorem dL_law_371 : decode cL_law 371 = .ok (.goto 4, 3) := by decide +kernel
theorem dL_law_374 : decode cL_law 374 = .ok (.iconst 0, 1) := by decide +kernel
theorem dL_law_375 : decode cL_law 375 = .ok (.aload_n 3, 1) := by decide +kernel
theorem dL_law_376 : decode cL_law 376 = .ok (.invokestatic 98, 3) := by decide +kernel
theorem dL_law_379 : decode cL_law 379 = .ok (.istore 5, 2) := by decide +kernel
theorem dL_law_381 : decode cL_law 381 = .ok (.aload_n 2, 1) := by decide +kernel
theorem dL_law_382 : decode cL_law 382 = .ok (.aload_n 0, 1) := by decide +kernel
theorem dL_law_383 : decode cL_law 383 = .ok (.iload 4, 2) := by decide +kernel
theorem dL_law_385 : decode cL_law 385 = .ok (.iconst 1, 1) := by decide +kernel
theorem dL_law_386 : decode cL_law 386 = .ok (.iadd, 1) := by decide +kernel
theorem dL_law_387 : decode cL_law 387 = .ok (.iaload, 1) := by decide +kernel
theorem dL_law_388 : decode cL_law 388 = .ok (.ifCond .eq 7, 3) := by decide +kernel
theorem dL_law_391 : decode cL_law 391 = .ok (.iconst 1, 1) := by decide +kernel
theorem dL_law_392 : decode cL_law 392 = .ok (.goto 4, 3) := by decide +kernel
theorem dL_law_395 : decode cL_law 395 = .ok (.iconst 0, 1) := by decide +kernel
theorem dL_law_396 : decode cL_law 396 = .ok (.invokevirtual 101, 3) := by decide +kernel
theorem dL_law_399 : decode cL_law 399 = .ok (.istore 6, 2) := by decide +kernel
theorem dL_law_401 : decode cL_law 401 = .ok (.aload_n 2, 1) := by decide +kernel
theorem dL_law_402 : decode cL_law 402 = .ok (.invokevirtual 87, 3) := by decide +kernel
theorem dL_law_405 : decode cL_law 405 = .ok (.iload 5, 2) := by decide +kernel
theorem dL_law_407 : decode cL_law 407 = .ok (.if_icmp .eq 5, 3) := by decide +kernel
theorem dL_law_410 : decode cL_law 410 = .ok (.iconst 0, 1) := by decide +kernel
theorem dL_law_411 : decode cL_law 411 = .ok (.ireturn, 1) := by decide +kernel
theorem dL_law_412 : decode cL_law 412 = .ok (.iload 5, 2) := by decide +kernel
theorem dL_law_414 : decode cL_law 414 = .ok (.ifCond .ne 15, 3) := by decide +kernel
theorem dL_law_417 : decode cL_law 417 = .ok (.aload_n 3, 1) := by decide +kernel
theorem dL_law_418 : decode cL_law 418 = .ok (.iconst 0, 1) := by decide +kernel
theorem dL_law_419 : decode cL_law 419 = .ok (.laload, 1) := by decide +kernel
theorem dL_law_420 : decode cL_law 420 = .ok (.iload 6, 2) := by decide +kernel
theorem dL_law_422 : decode cL_law 422 = .ok (.i2l, 1) := by decide +kernel
theorem dL_law_423 : decode cL_law 423 = .ok (.lcmp, 1) := by decide +kernel
theorem dL_law_424 : decode cL_law 424 = .ok (.ifCond .eq 5, 3) := by decide +kernel
theorem dL_law_427 : decode cL_law 427 = .ok (.iconst 0, 1) := by decide +kernel
theorem dL_law_428 : decode cL_law 428 = .ok (.ireturn, 1) := by decide +kernel
theorem dL_law_429 : decode cL_law 429 = .ok (.goto 1059, 3) := by decide +kernel
theorem dL_law_432 : decode cL_law 432 = .ok (.aload_n 1, 1) := by decide +kernel
theorem dL_law_433 : decode cL_law 433 = .ok (.aload_n 0, 1) := by decide +kernel
theorem dL_law_434 : decode cL_law 434 = .ok (.iload 4, 2) := by decide +kernel
theorem dL_law_436 : decode cL_law 436 = .ok (.iconst 1, 1) := by decide +kernel
theorem dL_law_437 : decode cL_law 437 = .ok (.iadd, 1) := by decide +kernel
theorem dL_law_438 : decode cL_law 438 = .ok (.iaload, 1) := by decide +kernel
theorem dL_law_439 : decode cL_law 439 = .ok (.aload_n 3, 1) := by decide +kernel
theorem dL_law_440 : decode cL_law 440 = .ok (.invokestatic 102, 3) := by decide +kernel
theorem dL_law_443 : decode cL_law 443 = .ok (.istore 5, 2) := by decide +kernel
theorem dL_law_445 : decode cL_law 445 = .ok (.aload_n 2, 1) := by decide +kernel
theorem dL_law_446 : decode cL_law 446 = .ok (.aload_n 0, 1) := by decide +kernel
theorem dL_law_447 : decode cL_law 447 = .ok (.iload 4, 2) := by decide +kernel
theorem dL_law_449 : decode cL_law 449 = .ok (.iconst 1, 1) := by decide +kernel
theorem dL_law_450 : decode cL_law 450 = .ok (.iadd, 1) := by decide +kernel
theorem dL_law_451 : decode cL_law 451 = .ok (.iaload, 1) := by decide +kernel
theorem dL_law_452 : decode cL_law 452 = .ok (.invokevirtual 104, 3) := by decide +kernel
theorem dL_law_455 : decode cL_law 455 = .ok (.istore 6, 2) := by decide +kernel
theorem dL_law_457 : decode cL_law 457 = .ok (.aload_n 2, 1) := by decide +kernel
theorem dL_law_458 : decode cL_law 458 = .ok (.invokevirtual 87, 3) := by decide +kernel
theorem dL_law_461 : decode cL_law 461 = .ok (.iload 5, 2) := by decide +kernel
theorem dL_law_463 : decode cL_law 463 = .ok (.if_icmp .eq 5, 3) := by decide +kernel
theorem dL_law_466 : decode cL_law 466 = .ok (.iconst 0, 1) := by decide +kernel
theorem dL_law_467 : decode cL_law 467 = .ok (.ireturn, 1) := by decide +kernel
theorem dL_law_468 : decode cL_law 468 = .ok (.iload 5, 2) := by decide +kernel
theorem dL_law_470 : decode cL_law 470 = .ok (.ifCond .ne 15, 3) := by decide +kernel
theorem dL_law_473 : decode cL_law 473 = .ok (.aload_n 3, 1) := by decide +kernel
theorem dL_law_474 : decode cL_law 474 = .ok (.iconst 0, 1) := by decide +kernel
theorem dL_law_475 : decode cL_law 475 = .ok (.laload, 1) := by decide +kernel
theorem dL_law_476 : decode cL_law 476 = .ok (.iload 6, 2) := by decide +kernel
theorem dL_law_478 : decode cL_law 478 = .ok (.i2l, 1) := by decide +kernel
theorem dL_law_479 : decode cL_law 479 = .ok (.lcmp, 1) := by decide +kernel
theorem dL_law_480 : decode cL_law 480 = .ok (.ifCond .eq 5, 3) := by decide +kernel
theorem dL_law_483 : decode cL_law 483 = .ok (.iconst 0, 1) := by decide +kernel
theorem dL_law_484 : decode cL_law 484 = .ok (.ireturn, 1) := by decide +kernel
theorem dL_law_485 : decode cL_law 485 = .ok (.goto 1003, 3) := by decide +kernel
theorem dL_law_488 : decode cL_law 488 = .ok (.aload_n 1, 1) := by decide +kernel
theorem dL_law_489 : decode cL_law 489 = .ok (.aload_n 0, 1) := by decide +kernel
theorem dL_law_490 : decode cL_law 490 = .ok (.iload 4, 2) := by decide +kernel
theorem dL_law_492 : decode cL_law 492 = .ok (.iconst 1, 1) := by decide +kernel
theorem dL_law_493 : decode cL_law 493 = .ok (.iadd, 1) := by decide +kernel
theorem dL_law_494 : decode cL_law 494 = .ok (.iaload, 1) := by decide +kernel
theorem dL_law_495 : decode cL_law 495 = .ok (.aload_n 0, 1) := by decide +kernel
theorem dL_law_496 : decode cL_law 496 = .ok (.iload 4, 2) := by decide +kernel
theorem dL_law_498 : decode cL_law 498 = .ok (.iconst 2, 1) := by decide +kernel
theorem dL_law_499 : decode cL_law 499 = .ok (.iadd, 1) := by decide +kernel
theorem dL_law_500 : decode cL_law 500 = .ok (.iaload, 1) := by decide +kernel
theorem dL_law_501 : decode cL_law 501 = .ok (.aload_n 0, 1) := by decide +kernel
theorem dL_law_502 : decode cL_law 502 = .ok (.iload 4, 2) := by decide +kernel
theorem dL_law_504 : decode cL_law 504 = .ok (.iconst 3, 1) := by decide +kernel
theorem dL_law_505 : decode cL_law 505 = .ok (.iadd, 1) := by decide +kernel
theorem dL_law_506 : decode cL_law 506 = .ok (.iaload, 1) := by decide +kernel
theorem dL_law_507 : decode cL_law 507 = .ok (.aload_n 3, 1) := by decide +kernel
theorem dL_law_508 : decode cL_law 508 = .ok (.invokestatic 105, 3) := by decide +kernel
theorem dL_law_511 : decode cL_law 511 = .ok (.istore 5, 2) := by decide +kernel
theorem dL_law_513 : decode cL_law 513 = .ok (.aload_n 2, 1) := by decide +kernel
theorem dL_law_514 : decode cL_law 514 = .ok (.aload_n 0, 1) := by decide +kernel
theorem dL_law_515 : decode cL_law 515 = .ok (.iload 4, 2) := by decide +kernel
theorem dL_law_517 : decode cL_law 517 = .ok (.iconst 1, 1) := by decide +kernel
theorem dL_law_518 : decode cL_law 518 = .ok (.iadd, 1) := by decide +kernel
theorem dL_law_519 : decode cL_law 519 = .ok (.iaload, 1) := by decide +kernel
theorem dL_law_520 : decode cL_law 520 = .ok (.aload_n 0, 1) := by decide +kernel
theorem dL_law_521 : decode cL_law 521 = .ok (.iload 4, 2) := by decide +kernel
theorem dL_law_523 : decode cL_law 523 = .ok (.iconst 2, 1) := by decide +kernel
theorem dL_law_524 : decode cL_law 524 = .ok (.iadd, 1) := by decide +kernel
theorem dL_law_525 : decode cL_law 525 = .ok (.iaload, 1) := by decide +kernel
theorem dL_law_526 : decode cL_law 526 = .ok (.aload_n 0, 1) := by decide +kernel
theorem dL_law_527 : decode cL_law 527 = .ok (.iload 4, 2) := by decide +kernel
theorem dL_law_529 : decode cL_law 529 = .ok (.iconst 3, 1) := by decide +kernel
theorem dL_law_530 : decode cL_law 530 = .ok (.iadd, 1) := by decide +kernel
theorem dL_law_531 : decode cL_law 531 = .ok (.iaload, 1) := by decide +kernel
theorem dL_law_532 : decode cL_law 532 = .ok (.invokevirtual 108, 3) := by decide +kernel
theorem dL_law_535 : decode cL_law 535 = .ok (.istore 6, 2) := by decide +kernel
theorem dL_law_537 : decode cL_law 537 = .ok (.aload_n 2, 1) := by decide +kernel
theorem dL_law_538 : decode cL_law 538 = .ok (.invokevirtual 87, 3) := by decide +kernel
theorem dL_law_541 : decode cL_law 541 = .ok (.iload 5, 2) := by decide +kernel
theorem dL_law_543 : decode cL_law 543 = .ok (.if_icmp .eq 5, 3) := by decide +kernel
theorem dL_law_546 : decode cL_law 546 = .ok (.iconst 0, 1) := by decide +kernel
theorem dL_law_547 : decode cL_law 547 = .ok (.ireturn, 1) := by decide +kernel
theorem dL_law_548 : decode cL_law 548 = .ok (.iload 5, 2) := by decide +kernel
theorem dL_law_550 : decode cL_law 550 = .ok (.ifCond .ne 15, 3) := by decide +kernel
theorem dL_law_553 : decode cL_law 553 = .ok (.aload_n 3, 1) := by decide +kernel
theorem dL_law_554 : decode cL_law 554 = .ok (.iconst 0, 1) := by decide +kernel
theorem dL_law_555 : decode cL_law 555 = .ok (.laload, 1) := by decide +kernel
theorem dL_law_556 : decode cL_law 556 = .ok (.iload 6, 2) := by decide +kernel
theorem dL_law_558 : decode cL_law 558 = .ok (.i2l, 1) := by decide +kernel
theorem dL_law_559 : decode cL_law 559 = .ok (.lcmp, 1) := by decide +kernel
theorem dL_law_560 : decode cL_law 560 = .ok (.ifCond .eq 5, 3) := by decide +kernel
theorem dL_law_563 : decode cL_law 563 = .ok (.iconst 0, 1) := by decide +kernel
theorem dL_law_564 : decode cL_law 564 = .ok (.ireturn, 1) := by decide +kernel
theorem dL_law_565 : decode cL_law 565 = .ok (.goto 923, 3) := by decide +kernel
theorem dL_law_568 : decode cL_law 568 = .ok (.aload_n 1, 1) := by decide +kernel
theorem dL_law_569 : decode cL_law 569 = .ok (.aload_n 0, 1) := by decide +kernel
theorem dL_law_570 : decode cL_law 570 = .ok (.iload 4, 2) := by decide +kernel
theorem dL_law_572 : decode cL_law 572 = .ok (.iconst 1, 1) := by decide +kernel
theorem dL_law_573 : decode cL_law 573 = .ok (.iadd, 1) := by decide +kernel
theorem dL_law_574 : decode cL_law 574 = .ok (.iaload, 1) := by decide +kernel
theorem dL_law_575 : decode cL_law 575 = .ok (.aload_n 3, 1) := by decide +kernel
theorem dL_law_576 : decode cL_law 576 = .ok (.invokestatic 109, 3) := by decide +kernel
theorem dL_law_579 : decode cL_law 579 = .ok (.istore 5, 2) := by decide +kernel
theorem dL_law_581 : decode cL_law 581 = .ok (.aload_n 2, 1) := by decide +kernel
theorem dL_law_582 : decode cL_law 582 = .ok (.aload_n 0, 1) := by decide +kernel
theorem dL_law_583 : decode cL_law 583 = .ok (.iload 4, 2) := by decide +kernel
theorem dL_law_585 : decode cL_law 585 = .ok (.iconst 1, 1) := by decide +kernel
theorem dL_law_586 : decode cL_law 586 = .ok (.iadd, 1) := by decide +kernel
theorem dL_law_587 : decode cL_law 587 = .ok (.iaload, 1) := by decide +kernel
theorem dL_law_588 : decode cL_law 588 = .ok (.invokevirtual 111, 3) := by decide +kernel
theorem dL_law_591 : decode cL_law 591 = .ok (.istore 6, 2) := by decide +kernel
theorem dL_law_593 : decode cL_law 593 = .ok (.aload_n 2, 1) := by decide +kernel
theorem dL_law_594 : decode cL_law 594 = .ok (.invokevirtual 87, 3) := by decide +kernel
theorem dL_law_597 : decode cL_law 597 = .ok (.iload 5, 2) := by decide +kernel
theorem dL_law_599 : decode cL_law 599 = .ok (.if_icmp .eq 5, 3) := by decide +kernel
theorem dL_law_602 : decode cL_law 602 = .ok (.iconst 0, 1) := by decide +kernel
theorem dL_law_603 : decode cL_law 603 = .ok (.ireturn, 1) := by decide +kernel
theorem dL_law_604 : decode cL_law 604 = .ok (.iload 5, 2) := by decide +kernel
theorem dL_law_606 : decode cL_law 606 = .ok (.ifCond .ne 15, 3) := by decide +kernel
theorem dL_law_609 : decode cL_law 609 = .ok (.aload_n 3, 1) := by decide +kernel
theorem dL_law_610 : decode cL_law 610 = .ok (.iconst 0, 1) := by decide +kernel
theorem dL_law_611 : decode cL_law 611 = .ok (.laload, 1) := by decide +kernel
theorem dL_law_612 : decode cL_law 612 = .ok (.iload 6, 2) := by decide +kernel
theorem dL_law_614 : decode cL_law 614 = .ok (.i2l, 1) := by decide +kernel
theorem dL_law_615 : decode cL_law 615 = .ok (.lcmp, 1) := by decide +kernel
theorem dL_law_616 : decode cL_law 616 = .ok (.ifCond .eq 5, 3) := by decide +kernel
theorem dL_law_619 : decode cL_law 619 = .ok (.iconst 0, 1) := by decide +kernel
theorem dL_law_620 : decode cL_law 620 = .ok (.ireturn, 1) := by decide +kernel
theorem dL_law_621 : decode cL_law 621 = .ok (.goto 867, 3) := by decide +kernel
theorem dL_law_624 : decode cL_law 624 = .ok (.aload_n 1, 1) := by decide +kernel
theorem dL_law_625 : decode cL_law 625 = .ok (.invokevirtual 112, 3) := by decide +kernel
theorem dL_law_628 : decode cL_law 628 = .ok (.aload_n 2, 1) := by decide +kernel
theorem dL_law_629 : decode cL_law 629 = .ok (.invokevirtual 115, 3) := by decide +kernel
theorem dL_law_632 : decode cL_law 632 = .ok (.if_icmp .eq 856, 3) := by decide +kernel
theorem dL_law_635 : decode cL_law 635 = .ok (.iconst 0, 1) := by decide +kernel
theorem dL_law_636 : decode cL_law 636 = .ok (.ireturn, 1) := by decide +kernel
theorem dL_law_637 : decode cL_law 637 = .ok (.aload_n 1, 1) := by decide +kernel
theorem dL_law_638 : decode cL_law 638 = .ok (.aload_n 0, 1) := by decide +kernel
theorem dL_law_639 : decode cL_law 639 = .ok (.iload 4, 2) := by decide +kernel
theorem dL_law_641 : decode cL_law 641 = .ok (.iconst 1, 1) := by decide +kernel
theorem dL_law_642 : decode cL_law 642 = .ok (.iadd, 1) := by decide +kernel
theorem dL_law_643 : decode cL_law 643 = .ok (.iaload, 1) := by decide +kernel
theorem dL_law_644 : decode cL_law 644 = .ok (.aload_n 3, 1) := by decide +kernel
theorem dL_law_645 : decode cL_law 645 = .ok (.invokestatic 116, 3) := by decide +kernel
theorem dL_law_648 : decode cL_law 648 = .ok (.istore 5, 2) := by decide +kernel
theorem dL_law_650 : decode cL_law 650 = .ok (.aload_n 2, 1) := by decide +kernel
theorem dL_law_651 : decode cL_law 651 = .ok (.aload_n 0, 1) := by decide +kernel
theorem dL_law_652 : decode cL_law 652 = .ok (.iload 4, 2) := by decide +kernel
theorem dL_law_654 : decode cL_law 654 = .ok (.iconst 1, 1) := by decide +kernel
theorem dL_law_655 : decode cL_law 655 = .ok (.iadd, 1) := by decide +kernel
theorem dL_law_656 : decode cL_law 656 = .ok (.iaload, 1) := by decide +kernel
theorem dL_law_657 : decode cL_law 657 = .ok (.invokevirtual 118, 3) := by decide +kernel
theorem dL_law_660 : decode cL_law 660 = .ok (.istore 6, 2) := by decide +kernel
theorem dL_law_662 : decode cL_law 662 = .ok (.aload_n 2, 1) := by decide +kernel
theorem dL_law_663 : decode cL_law 663 = .ok (.invokevirtual 87, 3) := by decide +kernel
theorem dL_law_666 : decode cL_law 666 = .ok (.iload 5, 2) := by decide +kernel
theorem dL_law_668 : decode cL_law 668 = .ok (.if_icmp .eq 5, 3) := by decide +kernel
theorem dL_law_671 : decode cL_law 671 = .ok (.iconst 0, 1) := by decide +kernel
theorem dL_law_672 : decode cL_law 672 = .ok (.ireturn, 1) := by decide +kernel
theorem dL_law_673 : decode cL_law 673 = .ok (.iload 5, 2) := by decide +kernel
theorem dL_law_675 : decode cL_law 675 = .ok (.ifCond .ne 15, 3) := by decide +kernel
theorem dL_law_678 : decode cL_law 678 = .ok (.aload_n 3, 1) := by decide +kernel
theorem dL_law_679 : decode cL_law 679 = .ok (.iconst 0, 1) := by decide +kernel
theorem dL_law_680 : decode cL_law 680 = .ok (.laload, 1) := by decide +kernel
theorem dL_law_681 : decode cL_law 681 = .ok (.iload 6, 2) := by decide +kernel
theorem dL_law_683 : decode cL_law 683 = .ok (.i2l, 1) := by decide +kernel
theorem dL_law_684 : decode cL_law 684 = .ok (.lcmp, 1) := by decide +kernel
theorem dL_law_685 : decode cL_law 685 = .ok (.ifCond .eq 5, 3) := by decide +kernel
theorem dL_law_688 : decode cL_law 688 = .ok (.iconst 0, 1) := by decide +kernel
theorem dL_law_689 : decode cL_law 689 = .ok (.ireturn, 1) := by decide +kernel
theorem dL_law_690 : decode cL_law 690 = .ok (.goto 798, 3) := by decide +kernel
theorem dL_law_693 : decode cL_law 693 = .ok (.aload_n 1, 1) := by decide +kernel
theorem dL_law_694 : decode cL_law 694 = .ok (.invokevirtual 119, 3) := by decide +kernel
theorem dL_law_697 : decode cL_law 697 = .ok (.aload_n 2, 1) := by decide +kernel
theorem dL_law_698 : decode cL_law 698 = .ok (.invokevirtual 122, 3) := by decide +kernel
theorem dL_law_701 : decode cL_law 701 = .ok (.if_icmp .eq 787, 3) := by decide +kernel
theorem dL_law_704 : decode cL_law 704 = .ok (.iconst 0, 1) := by decide +kernel
theorem dL_law_705 : decode cL_law 705 = .ok (.ireturn, 1) := by decide +kernel
theorem dL_law_706 : decode cL_law 706 = .ok (.aload_n 1, 1) := by decide +kernel
theorem dL_law_707 : decode cL_law 707 = .ok (.invokevirtual 123, 3) := by decide +kernel
theorem dL_law_710 : decode cL_law 710 = .ok (.aload_n 2, 1) := by decide +kernel
theorem dL_law_711 : decode cL_law 711 = .ok (.invokevirtual 126, 3) := by decide +kernel
theorem dL_law_714 : decode cL_law 714 = .ok (.if_icmp .eq 774, 3) := by decide +kernel
theorem dL_law_717 : decode cL_law 717 = .ok (.iconst 0, 1) := by decide +kernel
theorem dL_law_718 : decode cL_law 718 = .ok (.ireturn, 1) := by decide +kernel
theorem dL_law_719 : decode cL_law 719 = .ok (.aload_n 1, 1) := by decide +kernel
theorem dL_law_720 : decode cL_law 720 = .ok (.invokevirtual 127, 3) := by decide +kernel
theorem dL_law_723 : decode cL_law 723 = .ok (.aload_n 2, 1) := by decide +kernel
theorem dL_law_724 : decode cL_law 724 = .ok (.invokevirtual 130, 3) := by decide +kernel
theorem dL_law_727 : decode cL_law 727 = .ok (.if_icmp .eq 761, 3) := by decide +kernel
theorem dL_law_730 : decode cL_law 730 = .ok (.iconst 0, 1) := by decide +kernel
theorem dL_law_731 : decode cL_law 731 = .ok (.ireturn, 1) := by decide +kernel
theorem dL_law_732 : decode cL_law 732 = .ok (.aload_n 1, 1) := by decide +kernel
theorem dL_law_733 : decode cL_law 733 = .ok (.aload_n 0, 1) := by decide +kernel
theorem dL_law_734 : decode cL_law 734 = .ok (.iload 4, 2) := by decide +kernel
theorem dL_law_736 : decode cL_law 736 = .ok (.iconst 1, 1) := by decide +kernel
theorem dL_law_737 : decode cL_law 737 = .ok (.iadd, 1) := by decide +kernel
theorem dL_law_738 : decode cL_law 738 = .ok (.iaload, 1) := by decide +kernel
theorem dL_law_739 : decode cL_law 739 = .ok (.aload_n 3, 1) := by decide +kernel
theorem dL_law_740 : decode cL_law 740 = .ok (.invokestatic 131, 3) := by decide +kernel
theorem dL_law_743 : decode cL_law 743 = .ok (.istore 5, 2) := by decide +kernel
theorem dL_law_745 : decode cL_law 745 = .ok (.aload_n 2, 1) := by decide +kernel
theorem dL_law_746 : decode cL_law 746 = .ok (.aload_n 0, 1) := by decide +kernel
theorem dL_law_747 : decode cL_law 747 = .ok (.iload 4, 2) := by decide +kernel
theorem dL_law_749 : decode cL_law 749 = .ok (.iconst 1, 1) := by decide +kernel
theorem dL_law_750 : decode cL_law 750 = .ok (.iadd, 1) := by decide +kernel
theorem dL_law_751 : decode cL_law 751 = .ok (.iaload, 1) := by decide +kernel
theorem dL_law_752 : decode cL_law 752 = .ok (.invokevirtual 133, 3) := by decide +kernel
theorem dL_law_755 : decode cL_law 755 = .ok (.istore 6, 2) := by decide +kernel
theorem dL_law_757 : decode cL_law 757 = .ok (.aload_n 2, 1) := by decide +kernel
theorem dL_law_758 : decode cL_law 758 = .ok (.invokevirtual 87, 3) := by decide +kernel
theorem dL_law_761 : decode cL_law 761 = .ok (.iload 5, 2) := by decide +kernel
theorem dL_law_763 : decode cL_law 763 = .ok (.if_icmp .eq 5, 3) := by decide +kernel
theorem dL_law_766 : decode cL_law 766 = .ok (.iconst 0, 1) := by decide +kernel
theorem dL_law_767 : decode cL_law 767 = .ok (.ireturn, 1) := by decide +kernel
theorem dL_law_768 : decode cL_law 768 = .ok (.iload 5, 2) := by decide +kernel
theorem dL_law_770 : decode cL_law 770 = .ok (.ifCond .ne 15, 3) := by decide +kernel
theorem dL_law_773 : decode cL_law 773 = .ok (.aload_n 3, 1) := by decide +kernel
theorem dL_law_774 : decode cL_law 774 = .ok (.iconst 0, 1) := by decide +kernel
theorem dL_law_775 : decode cL_law 775 = .ok (.laload, 1) := by decide +kernel
theorem dL_law_776 : decode cL_law 776 = .ok (.iload 6, 2) := by decide +kernel
theorem dL_law_778 : decode cL_law 778 = .ok (.i2l, 1) := by decide +kernel
theorem dL_law_779 : decode cL_law 779 = .ok (.lcmp, 1) := by decide +kernel
theorem dL_law_780 : decode cL_law 780 = .ok (.ifCond .eq 5, 3) := by decide +kernel
theorem dL_law_783 : decode cL_law 783 = .ok (.iconst 0, 1) := by decide +kernel
theorem dL_law_784 : decode cL_law 784 = .ok (.ireturn, 1) := by decide +kernel
theorem dL_law_785 : decode cL_law 785 = .ok (.goto 703, 3) := by decide +kernel
theorem dL_law_788 : decode cL_law 788 = .ok (.aload_n 1, 1) := by decide +kernel
theorem dL_law_789 : decode cL_law 789 = .ok (.aload_n 0, 1) := by decide +kernel
theorem dL_law_790 : decode cL_law 790 = .ok (.iload 4, 2) := by decide +kernel
theorem dL_law_792 : decode cL_law 792 = .ok (.iconst 1, 1) := by decide +kernel
theorem dL_law_793 : decode cL_law 793 = .ok (.iadd, 1) := by decide +kernel
theorem dL_law_794 : decode cL_law 794 = .ok (.iaload, 1) := by decide +kernel
theorem dL_law_795 : decode cL_law 795 = .ok (.aload_n 3, 1) := by decide +kernel
theorem dL_law_796 : decode cL_law 796 = .ok (.invokestatic 134, 3) := by decide +kernel
theorem dL_law_799 : decode cL_law 799 = .ok (.istore 5, 2) := by decide +kernel
theorem dL_law_801 : decode cL_law 801 = .ok (.aload_n 2, 1) := by decide +kernel
theorem dL_law_802 : decode cL_law 802 = .ok (.aload_n 0, 1) := by decide +kernel
theorem dL_law_803 : decode cL_law 803 = .ok (.iload 4, 2) := by decide +kernel
theorem dL_law_805 : decode cL_law 805 = .ok (.iconst 1, 1) := by decide +kernel
theorem dL_law_806 : decode cL_law 806 = .ok (.iadd, 1) := by decide +kernel
theorem dL_law_807 : decode cL_law 807 = .ok (.iaload, 1) := by decide +kernel
theorem dL_law_808 : decode cL_law 808 = .ok (.invokevirtual 136, 3) := by decide +kernel
theorem dL_law_811 : decode cL_law 811 = .ok (.istore 6, 2) := by decide +kernel
theorem dL_law_813 : decode cL_law 813 = .ok (.aload_n 2, 1) := by decide +kernel
theorem dL_law_814 : decode cL_law 814 = .ok (.invokevirtual 87, 3) := by decide +kernel
theorem dL_law_817 : decode cL_law 817 = .ok (.iload 5, 2) := by decide +kernel
theorem dL_law_819 : decode cL_law 819 = .ok (.if_icmp .eq 5, 3) := by decide +kernel
theorem dL_law_822 : decode cL_law 822 = .ok (.iconst 0, 1) := by decide +kernel
theorem dL_law_823 : decode cL_law 823 = .ok (.ireturn, 1) := by decide +kernel
theorem dL_law_824 : decode cL_law 824 = .ok (.iload 5, 2) := by decide +kernel
theorem dL_law_826 : decode cL_law 826 = .ok (.ifCond .ne 15, 3) := by decide +kernel
theorem dL_law_829 : decode cL_law 829 = .ok (.aload_n 3, 1) := by decide +kernel
theorem dL_law_830 : decode cL_law 830 = .ok (.iconst 0, 1) := by decide +kernel
theorem dL_law_831 : decode cL_law 831 = .ok (.laload, 1) := by decide +kernel
theorem dL_law_832 : decode cL_law 832 = .ok (.iload 6, 2) := by decide +kernel
theorem dL_law_834 : decode cL_law 834 = .ok (.i2l, 1) := by decide +kernel
theorem dL_law_835 : decode cL_law 835 = .ok (.lcmp, 1) := by decide +kernel
theorem dL_law_836 : decode cL_law 836 = .ok (.ifCond .eq 5, 3) := by decide +kernel
theorem dL_law_839 : decode cL_law 839 = .ok (.iconst 0, 1) := by decide +kernel
theorem dL_law_840 : decode cL_law 840 = .ok (.ireturn, 1) := by decide +kernel
theorem dL_law_841 : decode cL_law 841 = .ok (.goto 647, 3) := by decide +kernel
theorem dL_law_844 : decode cL_law 844 = .ok (.aload_n 1, 1) := by decide +kernel
theorem dL_law_845 : decode cL_law 845 = .ok (.aload_n 0, 1) := by decide +kernel
theorem dL_law_846 : decode cL_law 846 = .ok (.iload 4, 2) := by decide +kernel
theorem dL_law_848 : decode cL_law 848 = .ok (.iconst 1, 1) := by decide +kernel
theorem dL_law_849 : decode cL_law 849 = .ok (.iadd, 1) := by decide +kernel
theorem dL_law_850 : decode cL_law 850 = .ok (.iaload, 1) := by decide +kernel
theorem dL_law_851 : decode cL_law 851 = .ok (.aload_n 3, 1) := by decide +kernel
theorem dL_law_852 : decode cL_law 852 = .ok (.invokestatic 137, 3) := by decide +kernel
theorem dL_law_855 : decode cL_law 855 = .ok (.istore 5, 2) := by decide +kernel
theorem dL_law_857 : decode cL_law 857 = .ok (.aload_n 2, 1) := by decide +kernel
theorem dL_law_858 : decode cL_law 858 = .ok (.aload_n 0, 1) := by decide +kernel
theorem dL_law_859 : decode cL_law 859 = .ok (.iload 4, 2) := by decide +kernel
theorem dL_law_861 : decode cL_law 861 = .ok (.iconst 1, 1) := by decide +kernel
theorem dL_law_862 : decode cL_law 862 = .ok (.iadd, 1) := by decide +kernel
theorem dL_law_863 : decode cL_law 863 = .ok (.iaload, 1) := by decide +kernel
theorem dL_law_864 : decode cL_law 864 = .ok (.invokevirtual 139, 3) := by decide +kernel
theorem dL_law_867 : decode cL_law 867 = .ok (.istore 6, 2) := by decide +kernel
theorem dL_law_869 : decode cL_law 869 = .ok (.aload_n 2, 1) := by decide +kernel
theorem dL_law_870 : decode cL_law 870 = .ok (.invokevirtual 87, 3) := by decide +kernel
theorem dL_law_873 : decode cL_law 873 = .ok (.iload 5, 2) := by decide +kernel
theorem dL_law_875 : decode cL_law 875 = .ok (.if_icmp .eq 5, 3) := by decide +kernel
theorem dL_law_878 : decode cL_law 878 = .ok (.iconst 0, 1) := by decide +kernel
theorem dL_law_879 : decode cL_law 879 = .ok (.ireturn, 1) := by decide +kernel
theorem dL_law_880 : decode cL_law 880 = .ok (.iload 5, 2) := by decide +kernel
theorem dL_law_882 : decode cL_law 882 = .ok (.ifCond .ne 22, 3) := by decide +kernel
theorem dL_law_885 : decode cL_law 885 = .ok (.aload_n 3, 1) := by decide +kernel
theorem dL_law_886 : decode cL_law 886 = .ok (.iconst 0, 1) := by decide +kernel
theorem dL_law_887 : decode cL_law 887 = .ok (.laload, 1) := by decide +kernel
theorem dL_law_888 : decode cL_law 888 = .ok (.iload 6, 2) := by decide +kernel
theorem dL_law_890 : decode cL_law 890 = .ok (.ifCond .eq 7, 3) := by decide +kernel
theorem dL_law_893 : decode cL_law 893 = .ok (.lconst 1, 1) := by decide +kernel
theorem dL_law_894 : decode cL_law 894 = .ok (.goto 4, 3) := by decide +kernel
theorem dL_law_897 : decode cL_law 897 = .ok (.lconst 0, 1) := by decide +kernel
theorem dL_law_898 : decode cL_law 898 = .ok (.lcmp, 1) := by decide +kernel
theorem dL_law_899 : decode cL_law 899 = .ok (.ifCond .eq 5, 3) := by decide +kernel
theorem dL_law_902 : decode cL_law 902 = .ok (.iconst 0, 1) := by decide +kernel
theorem dL_law_903 : decode cL_law 903 = .ok (.ireturn, 1) := by decide +kernel
theorem dL_law_904 : decode cL_law 904 = .ok (.goto 584, 3) := by decide +kernel
theorem dL_law_907 : decode cL_law 907 = .ok (.aload_n 1, 1) := by decide +kernel
theorem dL_law_908 : decode cL_law 908 = .ok (.aload_n 0, 1) := by decide +kernel
theorem dL_law_909 : decode cL_law 909 = .ok (.iload 4, 2) := by decide +kernel
theorem dL_law_911 : decode cL_law 911 = .ok (.iconst 1, 1) := by decide +kernel
theorem dL_law_912 : decode cL_law 912 = .ok (.iadd, 1) := by decide +kernel
theorem dL_law_913 : decode cL_law 913 = .ok (.iaload, 1) := by decide +kernel
theorem dL_law_914 : decode cL_law 914 = .ok (.aload_n 3, 1) := by decide +kernel
theorem dL_law_915 : decode cL_law 915 = .ok (.invokestatic 140, 3) := by decide +kernel
theorem dL_law_918 : decode cL_law 918 = .ok (.istore 5, 2) := by decide +kernel
theorem dL_law_920 : decode cL_law 920 = .ok (.aload_n 2, 1) := by decide +kernel
theorem dL_law_921 : decode cL_law 921 = .ok (.aload_n 0, 1) := by decide +kernel
theorem dL_law_922 : decode cL_law 922 = .ok (.iload 4, 2) := by decide +kernel
theorem dL_law_924 : decode cL_law 924 = .ok (.iconst 1, 1) := by decide +kernel
theorem dL_law_925 : decode cL_law 925 = .ok (.iadd, 1) := by decide +kernel
theorem dL_law_926 : decode cL_law 926 = .ok (.iaload, 1) := by decide +kernel
theorem dL_law_927 : decode cL_law 927 = .ok (.invokevirtual 142, 3) := by decide +kernel
theorem dL_law_930 : decode cL_law 930 = .ok (.istore 6, 2) := by decide +kernel
theorem dL_law_932 : decode cL_law 932 = .ok (.aload_n 2, 1) := by decide +kernel
theorem dL_law_933 : decode cL_law 933 = .ok (.invokevirtual 87, 3) := by decide +kernel
theorem dL_law_936 : decode cL_law 936 = .ok (.iload 5, 2) := by decide +kernel
theorem dL_law_938 : decode cL_law 938 = .ok (.if_icmp .eq 5, 3) := by decide +kernel
theorem dL_law_941 : decode cL_law 941 = .ok (.iconst 0, 1) := by decide +kernel
theorem dL_law_942 : decode cL_law 942 = .ok (.ireturn, 1) := by decide +kernel
theorem dL_law_943 : decode cL_law 943 = .ok (.iload 5, 2) := by decide +kernel
theorem dL_law_945 : decode cL_law 945 = .ok (.ifCond .ne 22, 3) := by decide +kernel
theorem dL_law_948 : decode cL_law 948 = .ok (.aload_n 3, 1) := by decide +kernel
theorem dL_law_949 : decode cL_law 949 = .ok (.iconst 0, 1) := by decide +kernel
theorem dL_law_950 : decode cL_law 950 = .ok (.laload, 1) := by decide +kernel
theorem dL_law_951 : decode cL_law 951 = .ok (.iload 6, 2) := by decide +kernel
theorem dL_law_953 : decode cL_law 953 = .ok (.ifCond .eq 7, 3) := by decide +kernel
theorem dL_law_956 : decode cL_law 956 = .ok (.lconst 1, 1) := by decide +kernel
theorem dL_law_957 : decode cL_law 957 = .ok (.goto 4, 3) := by decide +kernel
theorem dL_law_960 : decode cL_law 960 = .ok (.lconst 0, 1) := by decide +kernel
theorem dL_law_961 : decode cL_law 961 = .ok (.lcmp, 1) := by decide +kernel
theorem dL_law_962 : decode cL_law 962 = .ok (.ifCond .eq 5, 3) := by decide +kernel
theorem dL_law_965 : decode cL_law 965 = .ok (.iconst 0, 1) := by decide +kernel
theorem dL_law_966 : decode cL_law 966 = .ok (.ireturn, 1) := by decide +kernel
theorem dL_law_967 : decode cL_law 967 = .ok (.goto 521, 3) := by decide +kernel
theorem dL_law_970 : decode cL_law 970 = .ok (.aload_n 1, 1) := by decide +kernel
theorem dL_law_971 : decode cL_law 971 = .ok (.invokevirtual 143, 3) := by decide +kernel
theorem dL_law_974 : decode cL_law 974 = .ok (.aload_n 2, 1) := by decide +kernel
theorem dL_law_975 : decode cL_law 975 = .ok (.invokevirtual 146, 3) := by decide +kernel
theorem dL_law_978 : decode cL_law 978 = .ok (.if_icmp .eq 510, 3) := by decide +kernel
theorem dL_law_981 : decode cL_law 981 = .ok (.iconst 0, 1) := by decide +kernel
theorem dL_law_982 : decode cL_law 982 = .ok (.ireturn, 1) := by decide +kernel
theorem dL_law_983 : decode cL_law 983 = .ok (.aload_n 1, 1) := by decide +kernel
theorem dL_law_984 : decode cL_law 984 = .ok (.invokevirtual 147, 3) := by decide +kernel
theorem dL_law_987 : decode cL_law 987 = .ok (.aload_n 2, 1) := by decide +kernel
theorem dL_law_988 : decode cL_law 988 = .ok (.invokevirtual 150, 3) := by decide +kernel
theorem dL_law_991 : decode cL_law 991 = .ok (.if_icmp .eq 497, 3) := by decide +kernel
theorem dL_law_994 : decode cL_law 994 = .ok (.iconst 0, 1) := by decide +kernel
theorem dL_law_995 : decode cL_law 995 = .ok (.ireturn, 1) := by decide +kernel
theorem dL_law_996 : decode cL_law 996 = .ok (.aload_n 1, 1) := by decide +kernel
theorem dL_law_997 : decode cL_law 997 = .ok (.aload_n 0, 1) := by decide +kernel
theorem dL_law_998 : decode cL_law 998 = .ok (.iload 4, 2) := by decide +kernel
theorem dL_law_1000 : decode cL_law 1000 = .ok (.iconst 1, 1) := by decide +kernel
theorem dL_law_1001 : decode cL_law 1001 = .ok (.iadd, 1) := by decide +kernel
theorem dL_law_1002 : decode cL_law 1002 = .ok (.iaload, 1) := by decide +kernel
theorem dL_law_1003 : decode cL_law 1003 = .ok (.aload_n 3, 1) := by decide +kernel
theorem dL_law_1004 : decode cL_law 1004 = .ok (.invokestatic 151, 3) := by decide +kernel
theorem dL_law_1007 : decode cL_law 1007 = .ok (.istore 5, 2) := by decide +kernel
theorem dL_law_1009 : decode cL_law 1009 = .ok (.aload_n 2, 1) := by decide +kernel
theorem dL_law_1010 : decode cL_law 1010 = .ok (.aload_n 0, 1) := by decide +kernel
theorem dL_law_1011 : decode cL_law 1011 = .ok (.iload 4, 2) := by decide +kernel
theorem dL_law_1013 : decode cL_law 1013 = .ok (.iconst 1, 1) := by decide +kernel
theorem dL_law_1014 : decode cL_law 1014 = .ok (.iadd, 1) := by decide +kernel
theorem dL_law_1015 : decode cL_law 1015 = .ok (.iaload, 1) := by decide +kernel
theorem dL_law_1016 : decode cL_law 1016 = .ok (.invokevirtual 153, 3) := by decide +kernel
theorem dL_law_1019 : decode cL_law 1019 = .ok (.istore 6, 2) := by decide +kernel
theorem dL_law_1021 : decode cL_law 1021 = .ok (.aload_n 2, 1) := by decide +kernel
theorem dL_law_1022 : decode cL_law 1022 = .ok (.invokevirtual 87, 3) := by decide +kernel
theorem dL_law_1025 : decode cL_law 1025 = .ok (.iload 5, 2) := by decide +kernel
theorem dL_law_1027 : decode cL_law 1027 = .ok (.if_icmp .eq 5, 3) := by decide +kernel
theorem dL_law_1030 : decode cL_law 1030 = .ok (.iconst 0, 1) := by decide +kernel
theorem dL_law_1031 : decode cL_law 1031 = .ok (.ireturn, 1) := by decide +kernel
theorem dL_law_1032 : decode cL_law 1032 = .ok (.iload 5, 2) := by decide +kernel
theorem dL_law_1034 : decode cL_law 1034 = .ok (.ifCond .ne 15, 3) := by decide +kernel
theorem dL_law_1037 : decode cL_law 1037 = .ok (.aload_n 3, 1) := by decide +kernel
theorem dL_law_1038 : decode cL_law 1038 = .ok (.iconst 0, 1) := by decide +kernel
theorem dL_law_1039 : decode cL_law 1039 = .ok (.laload, 1) := by decide +kernel
theorem dL_law_1040 : decode cL_law 1040 = .ok (.iload 6, 2) := by decide +kernel
theorem dL_law_1042 : decode cL_law 1042 = .ok (.i2l, 1) := by decide +kernel
theorem dL_law_1043 : decode cL_law 1043 = .ok (.lcmp, 1) := by decide +kernel
theorem dL_law_1044 : decode cL_law 1044 = .ok (.ifCond .eq 5, 3) := by decide +kernel
theorem dL_law_1047 : decode cL_law 1047 = .ok (.iconst 0, 1) := by decide +kernel
theorem dL_law_1048 : decode cL_law 1048 = .ok (.ireturn, 1) := by decide +kernel
theorem dL_law_1049 : decode cL_law 1049 = .ok (.goto 439, 3) := by decide +kernel
theorem dL_law_1052 : decode cL_law 1052 = .ok (.aload_n 1, 1) := by decide +kernel
theorem dL_law_1053 : decode cL_law 1053 = .ok (.aload_n 0, 1) := by decide +kernel
theorem dL_law_1054 : decode cL_law 1054 = .ok (.iload 4, 2) := by decide +kernel
theorem dL_law_1056 : decode cL_law 1056 = .ok (.iconst 1, 1) := by decide +kernel
theorem dL_law_1057 : decode cL_law 1057 = .ok (.iadd, 1) := by decide +kernel
theorem dL_law_1058 : decode cL_law 1058 = .ok (.iaload, 1) := by decide +kernel
theorem dL_law_1059 : decode cL_law 1059 = .ok (.aload_n 3, 1) := by decide +kernel
theorem dL_law_1060 : decode cL_law 1060 = .ok (.invokestatic 154, 3) := by decide +kernel
theorem dL_law_1063 : decode cL_law 1063 = .ok (.istore 5, 2) := by decide +kernel
theorem dL_law_1065 : decode cL_law 1065 = .ok (.aload_n 2, 1) := by decide +kernel
theorem dL_law_1066 : decode cL_law 1066 = .ok (.aload_n 0, 1) := by decide +kernel
theorem dL_law_1067 : decode cL_law 1067 = .ok (.iload 4, 2) := by decide +kernel
theorem dL_law_1069 : decode cL_law 1069 = .ok (.iconst 1, 1) := by decide +kernel
theorem dL_law_1070 : decode cL_law 1070 = .ok (.iadd, 1) := by decide +kernel
theorem dL_law_1071 : decode cL_law 1071 = .ok (.iaload, 1) := by decide +kernel
theorem dL_law_1072 : decode cL_law 1072 = .ok (.invokevirtual 156, 3) := by decide +kernel
theorem dL_law_1075 : decode cL_law 1075 = .ok (.istore 6, 2) := by decide +kernel
theorem dL_law_1077 : decode cL_law 1077 = .ok (.aload_n 2, 1) := by decide +kernel
theorem dL_law_1078 : decode cL_law 1078 = .ok (.invokevirtual 87, 3) := by decide +kernel
theorem dL_law_1081 : decode cL_law 1081 = .ok (.iload 5, 2) := by decide +kernel
theorem dL_law_1083 : decode cL_law 1083 = .ok (.if_icmp .eq 5, 3) := by decide +kernel
theorem dL_law_1086 : decode cL_law 1086 = .ok (.iconst 0, 1) := by decide +kernel
theorem dL_law_1087 : decode cL_law 1087 = .ok (.ireturn, 1) := by decide +kernel
theorem dL_law_1088 : decode cL_law 1088 = .ok (.iload 5, 2) := by decide +kernel
theorem dL_law_1090 : decode cL_law 1090 = .ok (.ifCond .ne 15, 3) := by decide +kernel
theorem dL_law_1093 : decode cL_law 1093 = .ok (.aload_n 3, 1) := by decide +kernel
theorem dL_law_1094 : decode cL_law 1094 = .ok (.iconst 0, 1) := by decide +kernel
theorem dL_law_1095 : decode cL_law 1095 = .ok (.laload, 1) := by decide +kernel
theorem dL_law_1096 : decode cL_law 1096 = .ok (.iload 6, 2) := by decide +kernel
theorem dL_law_1098 : decode cL_law 1098 = .ok (.i2l, 1) := by decide +kernel
theorem dL_law_1099 : decode cL_law 1099 = .ok (.lcmp, 1) := by decide +kernel
theorem dL_law_1100 : decode cL_law 1100 = .ok (.ifCond .eq 5, 3) := by decide +kernel
theorem dL_law_1103 : decode cL_law 1103 = .ok (.iconst 0, 1) := by decide +kernel
theorem dL_law_1104 : decode cL_law 1104 = .ok (.ireturn, 1) := by decide +kernel
theorem dL_law_1105 : decode cL_law 1105 = .ok (.goto 383, 3) := by decide +kernel
theorem dL_law_1108 : decode cL_law 1108 = .ok (.aload_n 1, 1) := by decide +kernel
theorem dL_law_1109 : decode cL_law 1109 = .ok (.aload_n 0, 1) := by decide +kernel
theorem dL_law_1110 : decode cL_law 1110 = .ok (.iload 4, 2) := by decide +kernel
theorem dL_law_1112 : decode cL_law 1112 = .ok (.iconst 1, 1) := by decide +kernel
theorem dL_law_1113 : decode cL_law 1113 = .ok (.iadd, 1) := by decide +kernel
theorem dL_law_1114 : decode cL_law 1114 = .ok (.iaload, 1) := by decide +kernel
theorem dL_law_1115 : decode cL_law 1115 = .ok (.aload_n 3, 1) := by decide +kernel
theorem dL_law_1116 : decode cL_law 1116 = .ok (.invokestatic 157, 3) := by decide +kernel
theorem dL_law_1119 : decode cL_law 1119 = .ok (.istore 5, 2) := by decide +kernel
theorem dL_law_1121 : decode cL_law 1121 = .ok (.aload_n 2, 1) := by decide +kernel
theorem dL_law_1122 : decode cL_law 1122 = .ok (.aload_n 0, 1) := by decide +kernel
theorem dL_law_1123 : decode cL_law 1123 = .ok (.iload 4, 2) := by decide +kernel
theorem dL_law_1125 : decode cL_law 1125 = .ok (.iconst 1, 1) := by decide +kernel
theorem dL_law_1126 : decode cL_law 1126 = .ok (.iadd, 1) := by decide +kernel
theorem dL_law_1127 : decode cL_law 1127 = .ok (.iaload, 1) := by decide +kernel
theorem dL_law_1128 : decode cL_law 1128 = .ok (.invokevirtual 159, 3) := by decide +kernel
theorem dL_law_1131 : decode cL_law 1131 = .ok (.istore 6, 2) := by decide +kernel
theorem dL_law_1133 : decode cL_law 1133 = .ok (.aload_n 2, 1) := by decide +kernel
theorem dL_law_1134 : decode cL_law 1134 = .ok (.invokevirtual 87, 3) := by decide +kernel
theorem dL_law_1137 : decode cL_law 1137 = .ok (.iload 5, 2) := by decide +kernel
theorem dL_law_1139 : decode cL_law 1139 = .ok (.if_icmp .eq 5, 3) := by decide +kernel
theorem dL_law_1142 : decode cL_law 1142 = .ok (.iconst 0, 1) := by decide +kernel
theorem dL_law_1143 : decode cL_law 1143 = .ok (.ireturn, 1) := by decide +kernel
theorem dL_law_1144 : decode cL_law 1144 = .ok (.iload 5, 2) := by decide +kernel
theorem dL_law_1146 : decode cL_law 1146 = .ok (.ifCond .ne 22, 3) := by decide +kernel
theorem dL_law_1149 : decode cL_law 1149 = .ok (.aload_n 3, 1) := by decide +kernel
theorem dL_law_1150 : decode cL_law 1150 = .ok (.iconst 0, 1) := by decide +kernel
theorem dL_law_1151 : decode cL_law 1151 = .ok (.laload, 1) := by decide +kernel
theorem dL_law_1152 : decode cL_law 1152 = .ok (.iload 6, 2) := by decide +kernel
theorem dL_law_1154 : decode cL_law 1154 = .ok (.ifCond .eq 7, 3) := by decide +kernel
theorem dL_law_1157 : decode cL_law 1157 = .ok (.lconst 1, 1) := by decide +kernel
theorem dL_law_1158 : decode cL_law 1158 = .ok (.goto 4, 3) := by decide +kernel
theorem dL_law_1161 : decode cL_law 1161 = .ok (.lconst 0, 1) := by decide +kernel
theorem dL_law_1162 : decode cL_law 1162 = .ok (.lcmp, 1) := by decide +kernel
theorem dL_law_1163 : decode cL_law 1163 = .ok (.ifCond .eq 5, 3) := by decide +kernel
theorem dL_law_1166 : decode cL_law 1166 = .ok (.iconst 0, 1) := by decide +kernel
theorem dL_law_1167 : decode cL_law 1167 = .ok (.ireturn, 1) := by decide +kernel
theorem dL_law_1168 : decode cL_law 1168 = .ok (.goto 320, 3) := by decide +kernel
theorem dL_law_1171 : decode cL_law 1171 = .ok (.aload_n 1, 1) := by decide +kernel
theorem dL_law_1172 : decode cL_law 1172 = .ok (.aload_n 0, 1) := by decide +kernel
theorem dL_law_1173 : decode cL_law 1173 = .ok (.iload 4, 2) := by decide +kernel
theorem dL_law_1175 : decode cL_law 1175 = .ok (.iconst 1, 1) := by decide +kernel
theorem dL_law_1176 : decode cL_law 1176 = .ok (.iadd, 1) := by decide +kernel
theorem dL_law_1177 : decode cL_law 1177 = .ok (.iaload, 1) := by decide +kernel
theorem dL_law_1178 : decode cL_law 1178 = .ok (.aload_n 3, 1) := by decide +kernel
theorem dL_law_1179 : decode cL_law 1179 = .ok (.invokestatic 160, 3) := by decide +kernel
theorem dL_law_1182 : decode cL_law 1182 = .ok (.istore 5, 2) := by decide +kernel
theorem dL_law_1184 : decode cL_law 1184 = .ok (.aload_n 2, 1) := by decide +kernel
theorem dL_law_1185 : decode cL_law 1185 = .ok (.aload_n 0, 1) := by decide +kernel
theorem dL_law_1186 : decode cL_law 1186 = .ok (.iload 4, 2) := by decide +kernel
theorem dL_law_1188 : decode cL_law 1188 = .ok (.iconst 1, 1) := by decide +kernel
theorem dL_law_1189 : decode cL_law 1189 = .ok (.iadd, 1) := by decide +kernel
theorem dL_law_1190 : decode cL_law 1190 = .ok (.iaload, 1) := by decide +kernel
theorem dL_law_1191 : decode cL_law 1191 = .ok (.invokevirtual 162, 3) := by decide +kernel
theorem dL_law_1194 : decode cL_law 1194 = .ok (.istore 6, 2) := by decide +kernel
theorem dL_law_1196 : decode cL_law 1196 = .ok (.aload_n 2, 1) := by decide +kernel
theorem dL_law_1197 : decode cL_law 1197 = .ok (.invokevirtual 87, 3) := by decide +kernel
theorem dL_law_1200 : decode cL_law 1200 = .ok (.iload 5, 2) := by decide +kernel
theorem dL_law_1202 : decode cL_law 1202 = .ok (.if_icmp .eq 5, 3) := by decide +kernel
theorem dL_law_1205 : decode cL_law 1205 = .ok (.iconst 0, 1) := by decide +kernel
theorem dL_law_1206 : decode cL_law 1206 = .ok (.ireturn, 1) := by decide +kernel
theorem dL_law_1207 : decode cL_law 1207 = .ok (.iload 5, 2) := by decide +kernel
theorem dL_law_1209 : decode cL_law 1209 = .ok (.ifCond .ne 15, 3) := by decide +kernel
theorem dL_law_1212 : decode cL_law 1212 = .ok (.aload_n 3, 1) := by decide +kernel
theorem dL_law_1213 : decode cL_law 1213 = .ok (.iconst 0, 1) := by decide +kernel
theorem dL_law_1214 : decode cL_law 1214 = .ok (.laload, 1) := by decide +kernel
theorem dL_law_1215 : decode cL_law 1215 = .ok (.iload 6, 2) := by decide +kernel
theorem dL_law_1217 : decode cL_law 1217 = .ok (.i2l, 1) := by decide +kernel
theorem dL_law_1218 : decode cL_law 1218 = .ok (.lcmp, 1) := by decide +kernel
theorem dL_law_1219 : decode cL_law 1219 = .ok (.ifCond .eq 5, 3) := by decide +kernel
theorem dL_law_1222 : decode cL_law 1222 = .ok (.iconst 0, 1) := by decide +kernel
theorem dL_law_1223 : decode cL_law 1223 = .ok (.ireturn, 1) := by decide +kernel
theorem dL_law_1224 : decode cL_law 1224 = .ok (.goto 264, 3) := by decide +kernel
theorem dL_law_1227 : decode cL_law 1227 = .ok (.aload_n 1, 1) := by decide +kernel
theorem dL_law_1228 : decode cL_law 1228 = .ok (.aload_n 0, 1) := by decide +kernel
theorem dL_law_1229 : decode cL_law 1229 = .ok (.iload 4, 2) := by decide +kernel
theorem dL_law_1231 : decode cL_law 1231 = .ok (.iconst 1, 1) := by decide +kernel
theorem dL_law_1232 : decode cL_law 1232 = .ok (.iadd, 1) := by decide +kernel
theorem dL_law_1233 : decode cL_law 1233 = .ok (.iaload, 1) := by decide +kernel
theorem dL_law_1234 : decode cL_law 1234 = .ok (.aload_n 3, 1) := by decide +kernel
theorem dL_law_1235 : decode cL_law 1235 = .ok (.invokestatic 163, 3) := by decide +kernel
theorem dL_law_1238 : decode cL_law 1238 = .ok (.istore 5, 2) := by decide +kernel
theorem dL_law_1240 : decode cL_law 1240 = .ok (.aload_n 2, 1) := by decide +kernel
theorem dL_law_1241 : decode cL_law 1241 = .ok (.aload_n 0, 1) := by decide +kernel
theorem dL_law_1242 : decode cL_law 1242 = .ok (.iload 4, 2) := by decide +kernel
theorem dL_law_1244 : decode cL_law 1244 = .ok (.iconst 1, 1) := by decide +kernel
theorem dL_law_1245 : decode cL_law 1245 = .ok (.iadd, 1) := by decide +kernel
theorem dL_law_1246 : decode cL_law 1246 = .ok (.iaload, 1) := by decide +kernel
theorem dL_law_1247 : decode cL_law 1247 = .ok (.invokevirtual 165, 3) := by decide +kernel
theorem dL_law_1250 : decode cL_law 1250 = .ok (.istore 6, 2) := by decide +kernel
theorem dL_law_1252 : decode cL_law 1252 = .ok (.aload_n 2, 1) := by decide +kernel
theorem dL_law_1253 : decode cL_law 1253 = .ok (.invokevirtual 87, 3) := by decide +kernel
theorem dL_law_1256 : decode cL_law 1256 = .ok (.iload 5, 2) := by decide +kernel
theorem dL_law_1258 : decode cL_law 1258 = .ok (.if_icmp .eq 5, 3) := by decide +kernel
theorem dL_law_1261 : decode cL_law 1261 = .ok (.iconst 0, 1) := by decide +kernel
theorem dL_law_1262 : decode cL_law 1262 = .ok (.ireturn, 1) := by decide +kernel
theorem dL_law_1263 : decode cL_law 1263 = .ok (.iload 5, 2) := by decide +kernel
theorem dL_law_1265 : decode cL_law 1265 = .ok (.ifCond .ne 15, 3) := by decide +kernel
theorem dL_law_1268 : decode cL_law 1268 = .ok (.aload_n 3, 1) := by decide +kernel
theorem dL_law_1269 : decode cL_law 1269 = .ok (.iconst 0, 1) := by decide +kernel
theorem dL_law_1270 : decode cL_law 1270 = .ok (.laload, 1) := by decide +kernel
theorem dL_law_1271 : decode cL_law 1271 = .ok (.iload 6, 2) := by decide +kernel
theorem dL_law_1273 : decode cL_law 1273 = .ok (.i2l, 1) := by decide +kernel
theorem dL_law_1274 : decode cL_law 1274 = .ok (.lcmp, 1) := by decide +kernel
theorem dL_law_1275 : decode cL_law 1275 = .ok (.ifCond .eq 5, 3) := by decide +kernel
theorem dL_law_1278 : decode cL_law 1278 = .ok (.iconst 0, 1) := by decide +kernel
theorem dL_law_1279 : decode cL_law 1279 = .ok (.ireturn, 1) := by decide +kernel
theorem dL_law_1280 : decode cL_law 1280 = .ok (.goto 208, 3) := by decide +kernel
theorem dL_law_1283 : decode cL_law 1283 = .ok (.aload_n 1, 1) := by decide +kernel
theorem dL_law_1284 : decode cL_law 1284 = .ok (.aload_n 0, 1) := by decide +kernel
theorem dL_law_1285 : decode cL_law 1285 = .ok (.iload 4, 2) := by decide +kernel
theorem dL_law_1287 : decode cL_law 1287 = .ok (.iconst 1, 1) := by decide +kernel
theorem dL_law_1288 : decode cL_law 1288 = .ok (.iadd, 1) := by decide +kernel
theorem dL_law_1289 : decode cL_law 1289 = .ok (.iaload, 1) := by decide +kernel
theorem dL_law_1290 : decode cL_law 1290 = .ok (.aload_n 0, 1) := by decide +kernel
theorem dL_law_1291 : decode cL_law 1291 = .ok (.iload 4, 2) := by decide +kernel
theorem dL_law_1293 : decode cL_law 1293 = .ok (.iconst 2, 1) := by decide +kernel
theorem dL_law_1294 : decode cL_law 1294 = .ok (.iadd, 1) := by decide +kernel
theorem dL_law_1295 : decode cL_law 1295 = .ok (.iaload, 1) := by decide +kernel
theorem dL_law_1296 : decode cL_law 1296 = .ok (.aload_n 3, 1) := by decide +kernel
theorem dL_law_1297 : decode cL_law 1297 = .ok (.invokestatic 166, 3) := by decide +kernel
theorem dL_law_1300 : decode cL_law 1300 = .ok (.istore 5, 2) := by decide +kernel
theorem dL_law_1302 : decode cL_law 1302 = .ok (.aload_n 2, 1) := by decide +kernel
theorem dL_law_1303 : decode cL_law 1303 = .ok (.aload_n 0, 1) := by decide +kernel
theorem dL_law_1304 : decode cL_law 1304 = .ok (.iload 4, 2) := by decide +kernel
theorem dL_law_1306 : decode cL_law 1306 = .ok (.iconst 1, 1) := by decide +kernel
theorem dL_law_1307 : decode cL_law 1307 = .ok (.iadd, 1) := by decide +kernel
theorem dL_law_1308 : decode cL_law 1308 = .ok (.iaload, 1) := by decide +kernel
theorem dL_law_1309 : decode cL_law 1309 = .ok (.aload_n 0, 1) := by decide +kernel
theorem dL_law_1310 : decode cL_law 1310 = .ok (.iload 4, 2) := by decide +kernel
theorem dL_law_1312 : decode cL_law 1312 = .ok (.iconst 2, 1) := by decide +kernel
theorem dL_law_1313 : decode cL_law 1313 = .ok (.iadd, 1) := by decide +kernel
theorem dL_law_1314 : decode cL_law 1314 = .ok (.iaload, 1) := by decide +kernel
theorem dL_law_1315 : decode cL_law 1315 = .ok (.invokevirtual 168, 3) := by decide +kernel
theorem dL_law_1318 : decode cL_law 1318 = .ok (.istore 6, 2) := by decide +kernel
theorem dL_law_1320 : decode cL_law 1320 = .ok (.aload_n 2, 1) := by decide +kernel
theorem dL_law_1321 : decode cL_law 1321 = .ok (.invokevirtual 87, 3) := by decide +kernel
theorem dL_law_1324 : decode cL_law 1324 = .ok (.iload 5, 2) := by decide +kernel
theorem dL_law_1326 : decode cL_law 1326 = .ok (.if_icmp .eq 5, 3) := by decide +kernel
theorem dL_law_1329 : decode cL_law 1329 = .ok (.iconst 0, 1) := by decide +kernel
theorem dL_law_1330 : decode cL_law 1330 = .ok (.ireturn, 1) := by decide +kernel
theorem dL_law_1331 : decode cL_law 1331 = .ok (.iload 5, 2) := by decide +kernel
theorem dL_law_1333 : decode cL_law 1333 = .ok (.ifCond .ne 15, 3) := by decide +kernel
theorem dL_law_1336 : decode cL_law 1336 = .ok (.aload_n 3, 1) := by decide +kernel
theorem dL_law_1337 : decode cL_law 1337 = .ok (.iconst 0, 1) := by decide +kernel
theorem dL_law_1338 : decode cL_law 1338 = .ok (.laload, 1) := by decide +kernel
theorem dL_law_1339 : decode cL_law 1339 = .ok (.iload 6, 2) := by decide +kernel
theorem dL_law_1341 : decode cL_law 1341 = .ok (.i2l, 1) := by decide +kernel
theorem dL_law_1342 : decode cL_law 1342 = .ok (.lcmp, 1) := by decide +kernel
theorem dL_law_1343 : decode cL_law 1343 = .ok (.ifCond .eq 5, 3) := by decide +kernel
theorem dL_law_1346 : decode cL_law 1346 = .ok (.iconst 0, 1) := by decide +kernel
theorem dL_law_1347 : decode cL_law 1347 = .ok (.ireturn, 1) := by decide +kernel
theorem dL_law_1348 : decode cL_law 1348 = .ok (.goto 140, 3) := by decide +kernel
theorem dL_law_1351 : decode cL_law 1351 = .ok (.aload_n 1, 1) := by decide +kernel
theorem dL_law_1352 : decode cL_law 1352 = .ok (.invokevirtual 169, 3) := by decide +kernel
theorem dL_law_1355 : decode cL_law 1355 = .ok (.aload_n 2, 1) := by decide +kernel
theorem dL_law_1356 : decode cL_law 1356 = .ok (.invokevirtual 172, 3) := by decide +kernel
theorem dL_law_1359 : decode cL_law 1359 = .ok (.if_icmp .eq 129, 3) := by decide +kernel
theorem dL_law_1362 : decode cL_law 1362 = .ok (.iconst 0, 1) := by decide +kernel
theorem dL_law_1363 : decode cL_law 1363 = .ok (.ireturn, 1) := by decide +kernel
theorem dL_law_1364 : decode cL_law 1364 = .ok (.aload_n 1, 1) := by decide +kernel
theorem dL_law_1365 : decode cL_law 1365 = .ok (.aload_n 0, 1) := by decide +kernel
theorem dL_law_1366 : decode cL_law 1366 = .ok (.iload 4, 2) := by decide +kernel
theorem dL_law_1368 : decode cL_law 1368 = .ok (.iconst 1, 1) := by decide +kernel
theorem dL_law_1369 : decode cL_law 1369 = .ok (.iadd, 1) := by decide +kernel
theorem dL_law_1370 : decode cL_law 1370 = .ok (.iaload, 1) := by decide +kernel
theorem dL_law_1371 : decode cL_law 1371 = .ok (.aload_n 3, 1) := by decide +kernel
theorem dL_law_1372 : decode cL_law 1372 = .ok (.invokestatic 173, 3) := by decide +kernel
theorem dL_law_1375 : decode cL_law 1375 = .ok (.istore 5, 2) := by decide +kernel
theorem dL_law_1377 : decode cL_law 1377 = .ok (.aload_n 2, 1) := by decide +kernel
theorem dL_law_1378 : decode cL_law 1378 = .ok (.aload_n 0, 1) := by decide +kernel
theorem dL_law_1379 : decode cL_law 1379 = .ok (.iload 4, 2) := by decide +kernel
theorem dL_law_1381 : decode cL_law 1381 = .ok (.iconst 1, 1) := by decide +kernel
theorem dL_law_1382 : decode cL_law 1382 = .ok (.iadd, 1) := by decide +kernel
theorem dL_law_1383 : decode cL_law 1383 = .ok (.iaload, 1) := by decide +kernel
theorem dL_law_1384 : decode cL_law 1384 = .ok (.invokevirtual 175, 3) := by decide +kernel
theorem dL_law_1387 : decode cL_law 1387 = .ok (.istore 6, 2) := by decide +kernel
theorem dL_law_1389 : decode cL_law 1389 = .ok (.aload_n 2, 1) := by decide +kernel
theorem dL_law_1390 : decode cL_law 1390 = .ok (.invokevirtual 87, 3) := by decide +kernel
theorem dL_law_1393 : decode cL_law 1393 = .ok (.iload 5, 2) := by decide +kernel
theorem dL_law_1395 : decode cL_law 1395 = .ok (.if_icmp .eq 5, 3) := by decide +kernel
theorem dL_law_1398 : decode cL_law 1398 = .ok (.iconst 0, 1) := by decide +kernel
theorem dL_law_1399 : decode cL_law 1399 = .ok (.ireturn, 1) := by decide +kernel
theorem dL_law_1400 : decode cL_law 1400 = .ok (.iload 5, 2) := by decide +kernel
theorem dL_law_1402 : decode cL_law 1402 = .ok (.ifCond .ne 15, 3) := by decide +kernel
theorem dL_law_1405 : decode cL_law 1405 = .ok (.aload_n 3, 1) := by decide +kernel
theorem dL_law_1406 : decode cL_law 1406 = .ok (.iconst 0, 1) := by decide +kernel
theorem dL_law_1407 : decode cL_law 1407 = .ok (.laload, 1) := by decide +kernel
theorem dL_law_1408 : decode cL_law 1408 = .ok (.iload 6, 2) := by decide +kernel
theorem dL_law_1410 : decode cL_law 1410 = .ok (.i2l, 1) := by decide +kernel
theorem dL_law_1411 : decode cL_law 1411 = .ok (.lcmp, 1) := by decide +kernel
theorem dL_law_1412 : decode cL_law 1412 = .ok (.ifCond .eq 5, 3) := by decide +kernel
theorem dL_law_1415 : decode cL_law 1415 = .ok (.iconst 0, 1) := by decide +kernel
theorem dL_law_1416 : decode cL_law 1416 = .ok (.ireturn, 1) := by decide +kernel
theorem dL_law_1417 : decode cL_law 1417 = .ok (.goto 71, 3) := by decide +kernel
theorem dL_law_1420 : decode cL_law 1420 = .ok (.aload_n 1, 1) := by decide +kernel
theorem dL_law_1421 : decode cL_law 1421 = .ok (.invokevirtual 176, 3) := by decide +kernel
theorem dL_law_1424 : decode cL_law 1424 = .ok (.aload_n 2, 1) := by decide +kernel
theorem dL_law_1425 : decode cL_law 1425 = .ok (.invokevirtual 179, 3) := by decide +kernel
theorem dL_law_1428 : decode cL_law 1428 = .ok (.if_icmp .eq 60, 3) := by decide +kernel
theorem dL_law_1431 : decode cL_law 1431 = .ok (.iconst 0, 1) := by decide +kernel
theorem dL_law_1432 : decode cL_law 1432 = .ok (.ireturn, 1) := by decide +kernel
theorem dL_law_1433 : decode cL_law 1433 = .ok (.aload_n 1, 1) := by decide +kernel
theorem dL_law_1434 : decode cL_law 1434 = .ok (.invokevirtual 180, 3) := by decide +kernel
theorem dL_law_1437 : decode cL_law 1437 = .ok (.dstore 5, 2) := by decide +kernel
theorem dL_law_1439 : decode cL_law 1439 = .ok (.aload_n 2, 1) := by decide +kernel
theorem dL_law_1440 : decode cL_law 1440 = .ok (.invokevirtual 184, 3) := by decide +kernel
theorem dL_law_1443 : decode cL_law 1443 = .ok (.dstore 7, 2) := by decide +kernel
theorem dL_law_1445 : decode cL_law 1445 = .ok (.dload 5, 2) := by decide +kernel
theorem dL_law_1447 : decode cL_law 1447 = .ok (.dload 7, 2) := by decide +kernel
theorem dL_law_1449 : decode cL_law 1449 = .ok (.dcmp .l, 1) := by decide +kernel
theorem dL_law_1450 : decode cL_law 1450 = .ok (.ifCond .eq 21, 3) := by decide +kernel
theorem dL_law_1453 : decode cL_law 1453 = .ok (.dload 5, 2) := by decide +kernel
theorem dL_law_1455 : decode cL_law 1455 = .ok (.dload 5, 2) := by decide +kernel
theorem dL_law_1457 : decode cL_law 1457 = .ok (.dcmp .l, 1) := by decide +kernel
theorem dL_law_1458 : decode cL_law 1458 = .ok (.ifCond .eq 11, 3) := by decide +kernel
theorem dL_law_1461 : decode cL_law 1461 = .ok (.dload 7, 2) := by decide +kernel
theorem dL_law_1463 : decode cL_law 1463 = .ok (.dload 7, 2) := by decide +kernel
theorem dL_law_1465 : decode cL_law 1465 = .ok (.dcmp .l, 1) := by decide +kernel
theorem dL_law_1466 : decode cL_law 1466 = .ok (.ifCond .ne 5, 3) := by decide +kernel
theorem dL_law_1469 : decode cL_law 1469 = .ok (.iconst 0, 1) := by decide +kernel
theorem dL_law_1470 : decode cL_law 1470 = .ok (.ireturn, 1) := by decide +kernel
theorem dL_law_1471 : decode cL_law 1471 = .ok (.goto 17, 3) := by decide +kernel
theorem dL_law_1474 : decode cL_law 1474 = .ok (.aload_n 1, 1) := by decide +kernel
theorem dL_law_1475 : decode cL_law 1475 = .ok (.invokevirtual 185, 3) := by decide +kernel
theorem dL_law_1478 : decode cL_law 1478 = .ok (.aload_n 2, 1) := by decide +kernel
theorem dL_law_1479 : decode cL_law 1479 = .ok (.invokevirtual 189, 3) := by decide +kernel
theorem dL_law_1482 : decode cL_law 1482 = .ok (.lcmp, 1) := by decide +kernel
theorem dL_law_1483 : decode cL_law 1483 = .ok (.ifCond .eq 5, 3) := by decide +kernel
theorem dL_law_1486 : decode cL_law 1486 = .ok (.iconst 0, 1) := by decide +kernel
theorem dL_law_1487 : decode cL_law 1487 = .ok (.ireturn, 1) := by decide +kernel
theorem dL_law_1488 : decode cL_law 1488 = .ok (.iinc 4 4, 3) := by decide +kernel
theorem dL_law_1491 : decode cL_law 1491 = .ok (.goto (-1468), 3) := by decide +kernel
theorem dL_law_1494 : decode cL_law 1494 = .ok (.iconst 1, 1) := by decide +kernel
theorem dL_law_1495 : decode cL_law 1495 = .ok (.ireturn, 1) := by decide +kernel

