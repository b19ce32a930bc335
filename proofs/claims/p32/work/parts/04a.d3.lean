set_option maxRecDepth 20000 in
theorem ggX3_init_X2_init : GoodIn wsX3_init wsX2_init := goodIn_r _ [19, 20, 2, 3, 21, 22, 38] (by decide +kernel) (by decide +kernel)
set_option maxRecDepth 20000 in
theorem gX3_init_X2_init : GoodIn wsX3_init (wsX2_init) := ggX3_init_X2_init
set_option maxRecDepth 20000 in
theorem ggX3_init_X0_init : GoodIn wsX3_init wsX0_init := goodIn_r _ [25, 26, 2, 3, 21, 27, 28, 29, 30, 31, 43, 44, 45, 46, 47, 48, 49] (by decide +kernel) (by decide +kernel)
set_option maxRecDepth 20000 in
theorem gX3_init_X0_init : GoodIn wsX3_init (wsX0_init) := ggX3_init_X0_init
set_option maxRecDepth 20000 in
theorem ggX3_init_X1_init : GoodIn wsX3_init wsX1_init := goodIn_r _ [34, 35, 2, 3, 21, 36, 37, 50, 51, 52] (by decide +kernel) (by decide +kernel)
set_option maxRecDepth 20000 in
theorem gX3_init_X1_init : GoodIn wsX3_init (wsX1_init) := ggX3_init_X1_init
theorem dX3_init_0 : decode cX3_init 0 = .ok (.aload_n 0, 1) := by decide +kernel
theorem dX3_init_1 : decode cX3_init 1 = .ok (.invokespecial 1, 3) := by decide +kernel
theorem dX3_init_4 : decode cX3_init 4 = .ok (.aload_n 0, 1) := by decide +kernel
theorem dX3_init_5 : decode cX3_init 5 = .ok (.new 7, 3) := by decide +kernel
theorem dX3_init_8 : decode cX3_init 8 = .ok (.dup, 1) := by decide +kernel
theorem dX3_init_9 : decode cX3_init 9 = .ok (.invokespecial 9, 3) := by decide +kernel
theorem dX3_init_12 : decode cX3_init 12 = .ok (.putfield 10, 3) := by decide +kernel
theorem dX3_init_15 : decode cX3_init 15 = .ok (.aload_n 0, 1) := by decide +kernel
theorem dX3_init_16 : decode cX3_init 16 = .ok (.new 7, 3) := by decide +kernel
theorem dX3_init_19 : decode cX3_init 19 = .ok (.dup, 1) := by decide +kernel
theorem dX3_init_20 : decode cX3_init 20 = .ok (.invokespecial 9, 3) := by decide +kernel
theorem dX3_init_23 : decode cX3_init 23 = .ok (.putfield 16, 3) := by decide +kernel
theorem dX3_init_26 : decode cX3_init 26 = .ok (.aload_n 0, 1) := by decide +kernel
theorem dX3_init_27 : decode cX3_init 27 = .ok (.new 19, 3) := by decide +kernel
theorem dX3_init_30 : decode cX3_init 30 = .ok (.dup, 1) := by decide +kernel
theorem dX3_init_31 : decode cX3_init 31 = .ok (.invokespecial 21, 3) := by decide +kernel
theorem dX3_init_34 : decode cX3_init 34 = .ok (.putfield 22, 3) := by decide +kernel
theorem dX3_init_37 : decode cX3_init 37 = .ok (.aload_n 0, 1) := by decide +kernel
theorem dX3_init_38 : decode cX3_init 38 = .ok (.new 26, 3) := by decide +kernel
theorem dX3_init_41 : decode cX3_init 41 = .ok (.dup, 1) := by decide +kernel
theorem dX3_init_42 : decode cX3_init 42 = .ok (.invokespecial 28, 3) := by decide +kernel
theorem dX3_init_45 : decode cX3_init 45 = .ok (.putfield 29, 3) := by decide +kernel
theorem dX3_init_48 : decode cX3_init 48 = .ok (.return_, 1) := by decide +kernel
set_option maxRecDepth 20000 in
theorem ggX3_snow_X3_requirePlace : GoodIn wsX3_snow wsX3_requirePlace := goodIn_ca (goodIn_r _ [4, 5, 6] (by decide +kernel) (by decide +kernel)) (goodIn_sub (fun _ h => List.mem_cons_of_mem _ (List.mem_append_left _ (List.mem_append_left _ (List.mem_append_right _ h)))) (by decide +kernel))
set_option maxRecDepth 20000 in
theorem gX3_snow_X3_requirePlace : GoodIn wsX3_snow (va_wsS RX3 33 yX3_requirePlace wsX3_requirePlace) := goodIn_app (goodIn_of _ (by decide +kernel)) ggX3_snow_X3_requirePlace
set_option maxRecDepth 20000 in
theorem ggX3_snow_X3_requireAmount : GoodIn wsX3_snow wsX3_requireAmount := goodIn_ca (goodIn_r _ [9, 10, 11] (by decide +kernel) (by decide +kernel)) (goodIn_sub (fun _ h => List.mem_cons_of_mem _ (List.mem_append_left _ (List.mem_append_right _ h))) (by decide +kernel))
set_option maxRecDepth 20000 in
theorem gX3_snow_X3_requireAmount : GoodIn wsX3_snow (va_wsS RX3 37 yX3_requireAmount wsX3_requireAmount) := goodIn_app (goodIn_of _ (by decide +kernel)) ggX3_snow_X3_requireAmount
set_option maxRecDepth 20000 in
theorem ggX3_snow_X3_requireRoomForDeed : GoodIn wsX3_snow wsX3_requireRoomForDeed := goodIn_ca (goodIn_r _ [15, 16, 17, 18, 19, 20, 21, 22, 23, 24, 25, 26, 27, 28, 29, 30, 31, 32, 33, 34, 35, 36, 82, 83, 84, 85, 86, 87, 88, 89, 90, 91, 92] (by decide +kernel) (by decide +kernel)) (goodIn_sub (fun _ h => List.mem_cons_of_mem _ (List.mem_append_right _ h)) (by decide +kernel))
set_option maxRecDepth 20000 in
theorem gX3_snow_X3_requireRoomForDeed : GoodIn wsX3_snow (wsV RX3 40 RX3 yX3_requireRoomForDeed wsX3_requireRoomForDeed) := goodIn_app (goodIn_of _ (by decide +kernel)) ggX3_snow_X3_requireRoomForDeed
set_option maxRecDepth 20000 in
theorem ggX3_snow_X3_act : GoodIn wsX3_snow wsX3_act := goodIn_r _ [40, 18, 41, 42, 43, 44, 22, 45, 24, 33, 46, 47, 48, 34, 35, 36, 49, 20, 21, 23, 25, 26, 27, 28, 29, 30, 31, 32, 50, 51, 52, 53, 54, 55, 56, 57, 58, 59, 60, 61, 62, 63, 64, 65, 66, 67, 68, 69, 70, 71, 72, 73, 74, 75, 76, 77, 78, 79, 80, 81, 82, 83, 84, 85, 86, 87, 88, 89, 90, 91, 92, 93] (by decide +kernel) (by decide +kernel)
set_option maxRecDepth 20000 in
theorem gX3_snow_X3_act : GoodIn wsX3_snow (wsV RX3 43 RX3 yX3_act wsX3_act) := goodIn_app (goodIn_of _ (by decide +kernel)) ggX3_snow_X3_act
theorem dX3_snow_0 : decode cX3_snow 0 = .ok (.iload_n 1, 1) := by decide +kernel
theorem dX3_snow_1 : decode cX3_snow 1 = .ok (.invokestatic 33, 3) := by decide +kernel
theorem dX3_snow_4 : decode cX3_snow 4 = .ok (.iload_n 2, 1) := by decide +kernel
theorem dX3_snow_5 : decode cX3_snow 5 = .ok (.invokestatic 37, 3) := by decide +kernel
theorem dX3_snow_8 : decode cX3_snow 8 = .ok (.aload_n 0, 1) := by decide +kernel
theorem dX3_snow_9 : decode cX3_snow 9 = .ok (.invokevirtual 40, 3) := by decide +kernel
theorem dX3_snow_12 : decode cX3_snow 12 = .ok (.aload_n 0, 1) := by decide +kernel
theorem dX3_snow_13 : decode cX3_snow 13 = .ok (.iconst 0, 1) := by decide +kernel
theorem dX3_snow_14 : decode cX3_snow 14 = .ok (.iload_n 1, 1) := by decide +kernel
theorem dX3_snow_15 : decode cX3_snow 15 = .ok (.iload_n 2, 1) := by decide +kernel
theorem dX3_snow_16 : decode cX3_snow 16 = .ok (.invokevirtual 43, 3) := by decide +kernel
theorem dX3_snow_19 : decode cX3_snow 19 = .ok (.ireturn, 1) := by decide +kernel
set_option maxRecDepth 20000 in
theorem ggX3_melt_X3_requirePlace : GoodIn wsX3_melt wsX3_requirePlace := goodIn_ca (goodIn_r _ [4, 5, 6] (by decide +kernel) (by decide +kernel)) (goodIn_sub (fun _ h => List.mem_cons_of_mem _ (List.mem_append_left _ (List.mem_append_left _ (List.mem_append_right _ h)))) (by decide +kernel))
set_option maxRecDepth 20000 in
theorem gX3_melt_X3_requirePlace : GoodIn wsX3_melt (va_wsS RX3 33 yX3_requirePlace wsX3_requirePlace) := goodIn_app (goodIn_of _ (by decide +kernel)) ggX3_melt_X3_requirePlace
set_option maxRecDepth 20000 in
theorem ggX3_melt_X3_requireAmount : GoodIn wsX3_melt wsX3_requireAmount := goodIn_ca (goodIn_r _ [9, 10, 11] (by decide +kernel) (by decide +kernel)) (goodIn_sub (fun _ h => List.mem_cons_of_mem _ (List.mem_append_left _ (List.mem_append_right _ h))) (by decide +kernel))
set_option maxRecDepth 20000 in
theorem gX3_melt_X3_requireAmount : GoodIn wsX3_melt (va_wsS RX3 37 yX3_requireAmount wsX3_requireAmount) := goodIn_app (goodIn_of _ (by decide +kernel)) ggX3_melt_X3_requireAmount
set_option maxRecDepth 20000 in
theorem ggX3_melt_X3_requireRoomForDeed : GoodIn wsX3_melt wsX3_requireRoomForDeed := goodIn_ca (goodIn_r _ [15, 16, 17, 18, 19, 20, 21, 22, 23, 24, 25, 26, 27, 28, 29, 30, 31, 32, 33, 34, 35, 36, 82, 83, 84, 85, 86, 87, 88, 89, 90, 91, 92] (by decide +kernel) (by decide +kernel)) (goodIn_sub (fun _ h => List.mem_cons_of_mem _ (List.mem_append_right _ h)) (by decide +kernel))
set_option maxRecDepth 20000 in
theorem gX3_melt_X3_requireRoomForDeed : GoodIn wsX3_melt (wsV RX3 40 RX3 yX3_requireRoomForDeed wsX3_requireRoomForDeed) := goodIn_app (goodIn_of _ (by decide +kernel)) ggX3_melt_X3_requireRoomForDeed
set_option maxRecDepth 20000 in
theorem ggX3_melt_X3_act : GoodIn wsX3_melt wsX3_act := goodIn_r _ [40, 18, 41, 42, 43, 44, 22, 45, 24, 33, 46, 47, 48, 34, 35, 36, 49, 20, 21, 23, 25, 26, 27, 28, 29, 30, 31, 32, 50, 51, 52, 53, 54, 55, 56, 57, 58, 59, 60, 61, 62, 63, 64, 65, 66, 67, 68, 69, 70, 71, 72, 73, 74, 75, 76, 77, 78, 79, 80, 81, 82, 83, 84, 85, 86, 87, 88, 89, 90, 91, 92, 93] (by decide +kernel) (by decide +kernel)
set_option maxRecDepth 20000 in
theorem gX3_melt_X3_act : GoodIn wsX3_melt (wsV RX3 43 RX3 yX3_act wsX3_act) := goodIn_app (goodIn_of _ (by decide +kernel)) ggX3_melt_X3_act
theorem dX3_melt_0 : decode cX3_melt 0 = .ok (.iload_n 1, 1) := by decide +kernel
theorem dX3_melt_1 : decode cX3_melt 1 = .ok (.invokestatic 33, 3) := by decide +kernel
theorem dX3_melt_4 : decode cX3_melt 4 = .ok (.iload_n 2, 1) := by decide +kernel
theorem dX3_melt_5 : decode cX3_melt 5 = .ok (.invokestatic 37, 3) := by decide +kernel
theorem dX3_melt_8 : decode cX3_melt 8 = .ok (.aload_n 0, 1) := by decide +kernel
theorem dX3_melt_9 : decode cX3_melt 9 = .ok (.invokevirtual 40, 3) := by decide +kernel
theorem dX3_melt_12 : decode cX3_melt 12 = .ok (.aload_n 0, 1) := by decide +kernel
theorem dX3_melt_13 : decode cX3_melt 13 = .ok (.iconst 1, 1) := by decide +kernel
theorem dX3_melt_14 : decode cX3_melt 14 = .ok (.iload_n 1, 1) := by decide +kernel
theorem dX3_melt_15 : decode cX3_melt 15 = .ok (.iload_n 2, 1) := by decide +kernel
theorem dX3_melt_16 : decode cX3_melt 16 = .ok (.invokevirtual 43, 3) := by decide +kernel
theorem dX3_melt_19 : decode cX3_melt 19 = .ok (.ireturn, 1) := by decide +kernel
set_option maxRecDepth 20000 in
theorem ggX3_flow_X3_requirePlace : GoodIn wsX3_flow wsX3_requirePlace := goodIn_ca (goodIn_r _ [4, 5, 6] (by decide +kernel) (by decide +kernel)) (goodIn_sub (fun _ h => List.mem_cons_of_mem _ (List.mem_append_left _ (List.mem_append_right _ h))) (by decide +kernel))
set_option maxRecDepth 20000 in
theorem gX3_flow_X3_requirePlace : GoodIn wsX3_flow (va_wsS RX3 33 yX3_requirePlace wsX3_requirePlace) := goodIn_app (goodIn_of _ (by decide +kernel)) ggX3_flow_X3_requirePlace
set_option maxRecDepth 20000 in
theorem ggX3_flow_X3_requireRoomForDeed : GoodIn wsX3_flow wsX3_requireRoomForDeed := goodIn_ca (goodIn_r _ [10, 11, 12, 13, 14, 15, 16, 17, 18, 19, 20, 21, 22, 23, 24, 25, 26, 27, 28, 29, 30, 31, 77, 78, 79, 80, 81, 82, 83, 84, 85, 86, 87] (by decide +kernel) (by decide +kernel)) (goodIn_sub (fun _ h => List.mem_cons_of_mem _ (List.mem_append_right _ h)) (by decide +kernel))
set_option maxRecDepth 20000 in
theorem gX3_flow_X3_requireRoomForDeed : GoodIn wsX3_flow (wsV RX3 40 RX3 yX3_requireRoomForDeed wsX3_requireRoomForDeed) := goodIn_app (goodIn_of _ (by decide +kernel)) ggX3_flow_X3_requireRoomForDeed
set_option maxRecDepth 20000 in
theorem ggX3_flow_X3_act : GoodIn wsX3_flow wsX3_act := goodIn_r _ [35, 13, 36, 37, 38, 39, 17, 40, 19, 28, 41, 42, 43, 29, 30, 31, 44, 15, 16, 18, 20, 21, 22, 23, 24, 25, 26, 27, 45, 46, 47, 48, 49, 50, 51, 52, 53, 54, 55, 56, 57, 58, 59, 60, 61, 62, 63, 64, 65, 66, 67, 68, 69, 70, 71, 72, 73, 74, 75, 76, 77, 78, 79, 80, 81, 82, 83, 84, 85, 86, 87, 88] (by decide +kernel) (by decide +kernel)
set_option maxRecDepth 20000 in
theorem gX3_flow_X3_act : GoodIn wsX3_flow (wsV RX3 43 RX3 yX3_act wsX3_act) := goodIn_app (goodIn_of _ (by decide +kernel)) ggX3_flow_X3_act
theorem dX3_flow_0 : decode cX3_flow 0 = .ok (.iload_n 1, 1) := by decide +kernel
theorem dX3_flow_1 : decode cX3_flow 1 = .ok (.invokestatic 33, 3) := by decide +kernel
theorem dX3_flow_4 : decode cX3_flow 4 = .ok (.aload_n 0, 1) := by decide +kernel
theorem dX3_flow_5 : decode cX3_flow 5 = .ok (.invokevirtual 40, 3) := by decide +kernel
theorem dX3_flow_8 : decode cX3_flow 8 = .ok (.aload_n 0, 1) := by decide +kernel
theorem dX3_flow_9 : decode cX3_flow 9 = .ok (.iconst 2, 1) := by decide +kernel
theorem dX3_flow_10 : decode cX3_flow 10 = .ok (.iload_n 1, 1) := by decide +kernel
theorem dX3_flow_11 : decode cX3_flow 11 = .ok (.iconst 0, 1) := by decide +kernel
theorem dX3_flow_12 : decode cX3_flow 12 = .ok (.invokevirtual 43, 3) := by decide +kernel
theorem dX3_flow_15 : decode cX3_flow 15 = .ok (.ireturn, 1) := by decide +kernel
set_option maxRecDepth 20000 in
theorem ggX3_endYear_X0_areFull : GoodIn wsX3_endYear wsX0_areFull := goodIn_r _ [10, 11, 88, 89, 90, 91, 92, 93, 94] (by decide +kernel) (by decide +kernel)
set_option maxRecDepth 20000 in
theorem gX3_endYear_X0_areFull : GoodIn wsX3_endYear (wsV RX3 47 RX0 yX0_areFull wsX0_areFull) := goodIn_app (goodIn_of _ (by decide +kernel)) ggX3_endYear_X0_areFull
set_option maxRecDepth 20000 in
theorem ggX3_endYear_X0_close : GoodIn wsX3_endYear wsX0_close := goodIn_r _ [15, 11, 16, 17, 18, 9, 19, 20, 21, 22, 23, 24, 25, 26, 27, 28, 29, 30, 31, 32, 33, 34, 35, 36, 37, 38, 39, 40, 41, 42, 43, 44, 45, 46, 47, 48, 49, 50, 51, 52, 53, 54, 88, 89, 90, 91, 92, 93, 94] (by decide +kernel) (by decide +kernel)
set_option maxRecDepth 20000 in
theorem gX3_endYear_X0_close : GoodIn wsX3_endYear (wsV RX3 58 RX0 yX0_close wsX0_close) := goodIn_app (goodIn_of _ (by decide +kernel)) ggX3_endYear_X0_close
set_option maxRecDepth 20000 in
theorem ggX3_endYear_X0_count : GoodIn wsX3_endYear wsX0_count := goodIn_r _ [58, 11, 88, 89, 90, 91, 92, 93, 94] (by decide +kernel) (by decide +kernel)
set_option maxRecDepth 20000 in
theorem gX3_endYear_X0_count : GoodIn wsX3_endYear (wsV RX3 61 RX0 yX0_count wsX0_count) := goodIn_app (goodIn_of _ (by decide +kernel)) ggX3_endYear_X0_count
set_option maxRecDepth 20000 in
theorem ggX3_endYear_X1_draw : GoodIn wsX3_endYear wsX1_draw := goodIn_r _ [63, 64, 65, 66, 67, 68, 69, 62, 70, 71, 72, 73, 74, 75, 76, 77, 78, 79, 80, 81, 82, 83, 95, 96, 97, 98] (by decide +kernel) (by decide +kernel)
set_option maxRecDepth 20000 in
theorem gX3_endYear_X1_draw : GoodIn wsX3_endYear (wsV RX3 65 RX1 yX1_draw wsX1_draw) := goodIn_app (goodIn_of _ (by decide +kernel)) ggX3_endYear_X1_draw
theorem dX3_endYear_0 : decode cX3_endYear 0 = .ok (.aload_n 0, 1) := by decide +kernel
theorem dX3_endYear_1 : decode cX3_endYear 1 = .ok (.getfield 22, 3) := by decide +kernel
theorem dX3_endYear_4 : decode cX3_endYear 4 = .ok (.invokevirtual 47, 3) := by decide +kernel
theorem dX3_endYear_7 : decode cX3_endYear 7 = .ok (.ifCond .eq 13, 3) := by decide +kernel
theorem dX3_endYear_10 : decode cX3_endYear 10 = .ok (.new 51, 3) := by decide +kernel
theorem dX3_endYear_13 : decode cX3_endYear 13 = .ok (.dup, 1) := by decide +kernel
theorem dX3_endYear_14 : decode cX3_endYear 14 = .ok (.ldc 53, 2) := by decide +kernel
theorem dX3_endYear_16 : decode cX3_endYear 16 = .ok (.invokespecial 55, 3) := by decide +kernel
theorem dX3_endYear_19 : decode cX3_endYear 19 = .ok (.athrow, 1) := by decide +kernel
theorem dX3_endYear_20 : decode cX3_endYear 20 = .ok (.aload_n 0, 1) := by decide +kernel
theorem dX3_endYear_21 : decode cX3_endYear 21 = .ok (.getfield 22, 3) := by decide +kernel
theorem dX3_endYear_24 : decode cX3_endYear 24 = .ok (.invokevirtual 58, 3) := by decide +kernel
theorem dX3_endYear_27 : decode cX3_endYear 27 = .ok (.iload_n 1, 1) := by decide +kernel
theorem dX3_endYear_28 : decode cX3_endYear 28 = .ok (.ifCond .eq 21, 3) := by decide +kernel
theorem dX3_endYear_31 : decode cX3_endYear 31 = .ok (.aload_n 0, 1) := by decide +kernel
theorem dX3_endYear_32 : decode cX3_endYear 32 = .ok (.getfield 29, 3) := by decide +kernel
theorem dX3_endYear_35 : decode cX3_endYear 35 = .ok (.aload_n 0, 1) := by decide +kernel
theorem dX3_endYear_36 : decode cX3_endYear 36 = .ok (.getfield 22, 3) := by decide +kernel
theorem dX3_endYear_39 : decode cX3_endYear 39 = .ok (.invokevirtual 61, 3) := by decide +kernel
theorem dX3_endYear_42 : decode cX3_endYear 42 = .ok (.aload_n 0, 1) := by decide +kernel
theorem dX3_endYear_43 : decode cX3_endYear 43 = .ok (.getfield 10, 3) := by decide +kernel
theorem dX3_endYear_46 : decode cX3_endYear 46 = .ok (.invokevirtual 65, 3) := by decide +kernel
theorem dX3_endYear_49 : decode cX3_endYear 49 = .ok (.aload_n 0, 1) := by decide +kernel
theorem dX3_endYear_50 : decode cX3_endYear 50 = .ok (.getfield 22, 3) := by decide +kernel
theorem dX3_endYear_53 : decode cX3_endYear 53 = .ok (.invokevirtual 61, 3) := by decide +kernel
theorem dX3_endYear_56 : decode cX3_endYear 56 = .ok (.ireturn, 1) := by decide +kernel
set_option maxRecDepth 20000 in
theorem ggX3_compact_X0_count : GoodIn wsX3_compact wsX0_count := goodIn_r _ [11, 12, 52, 53, 54, 55, 56, 57, 58] (by decide +kernel) (by decide +kernel)
set_option maxRecDepth 20000 in
theorem gX3_compact_X0_count : GoodIn wsX3_compact (wsV RX3 61 RX0 yX0_count wsX0_count) := goodIn_app (goodIn_of _ (by decide +kernel)) ggX3_compact_X0_count
set_option maxRecDepth 20000 in
theorem ggX3_compact_X1_find : GoodIn wsX3_compact wsX1_find := goodIn_r _ [17, 18, 19, 20, 16, 21, 22, 23, 24, 25, 26, 27, 28, 29, 30, 31, 59, 60, 61] (by decide +kernel) (by decide +kernel)
set_option maxRecDepth 20000 in
theorem gX3_compact_X1_find : GoodIn wsX3_compact (wsV RX3 74 RX1 yX1_find wsX1_find) := goodIn_app (goodIn_of _ (by decide +kernel)) ggX3_compact_X1_find
set_option maxRecDepth 20000 in
theorem ggX3_compact_X0_forgetBelow : GoodIn wsX3_compact wsX0_forgetBelow := goodIn_r _ [35, 36, 12, 37, 38, 39, 40, 41, 42, 43, 44, 45, 46, 10, 47, 52, 53, 54, 55, 56, 57, 58] (by decide +kernel) (by decide +kernel)
set_option maxRecDepth 20000 in
theorem gX3_compact_X0_forgetBelow : GoodIn wsX3_compact (wsV RX3 80 RX0 yX0_forgetBelow wsX0_forgetBelow) := goodIn_app (goodIn_of _ (by decide +kernel)) ggX3_compact_X0_forgetBelow
theorem dX3_compact_0 : decode cX3_compact 0 = .ok (.iload_n 1, 1) := by decide +kernel
theorem dX3_compact_1 : decode cX3_compact 1 = .ok (.iconst 1, 1) := by decide +kernel
theorem dX3_compact_2 : decode cX3_compact 2 = .ok (.if_icmp .lt 14, 3) := by decide +kernel
theorem dX3_compact_5 : decode cX3_compact 5 = .ok (.iload_n 1, 1) := by decide +kernel
theorem dX3_compact_6 : decode cX3_compact 6 = .ok (.aload_n 0, 1) := by decide +kernel
theorem dX3_compact_7 : decode cX3_compact 7 = .ok (.getfield 22, 3) := by decide +kernel
theorem dX3_compact_10 : decode cX3_compact 10 = .ok (.invokevirtual 61, 3) := by decide +kernel
theorem dX3_compact_13 : decode cX3_compact 13 = .ok (.if_icmp .le 13, 3) := by decide +kernel
theorem dX3_compact_16 : decode cX3_compact 16 = .ok (.new 69, 3) := by decide +kernel
theorem dX3_compact_19 : decode cX3_compact 19 = .ok (.dup, 1) := by decide +kernel
theorem dX3_compact_20 : decode cX3_compact 20 = .ok (.ldc 71, 2) := by decide +kernel
theorem dX3_compact_22 : decode cX3_compact 22 = .ok (.invokespecial 73, 3) := by decide +kernel
theorem dX3_compact_25 : decode cX3_compact 25 = .ok (.athrow, 1) := by decide +kernel
theorem dX3_compact_26 : decode cX3_compact 26 = .ok (.aload_n 0, 1) := by decide +kernel
theorem dX3_compact_27 : decode cX3_compact 27 = .ok (.getfield 29, 3) := by decide +kernel
theorem dX3_compact_30 : decode cX3_compact 30 = .ok (.iload_n 1, 1) := by decide +kernel
theorem dX3_compact_31 : decode cX3_compact 31 = .ok (.invokevirtual 74, 3) := by decide +kernel
theorem dX3_compact_34 : decode cX3_compact 34 = .ok (.iconst (-1), 1) := by decide +kernel
theorem dX3_compact_35 : decode cX3_compact 35 = .ok (.if_icmp .ne 13, 3) := by decide +kernel
theorem dX3_compact_38 : decode cX3_compact 38 = .ok (.new 51, 3) := by decide +kernel
theorem dX3_compact_41 : decode cX3_compact 41 = .ok (.dup, 1) := by decide +kernel
theorem dX3_compact_42 : decode cX3_compact 42 = .ok (.ldc 78, 2) := by decide +kernel
theorem dX3_compact_44 : decode cX3_compact 44 = .ok (.invokespecial 55, 3) := by decide +kernel
theorem dX3_compact_47 : decode cX3_compact 47 = .ok (.athrow, 1) := by decide +kernel
theorem dX3_compact_48 : decode cX3_compact 48 = .ok (.aload_n 0, 1) := by decide +kernel
theorem dX3_compact_49 : decode cX3_compact 49 = .ok (.getfield 22, 3) := by decide +kernel
theorem dX3_compact_52 : decode cX3_compact 52 = .ok (.iload_n 1, 1) := by decide +kernel
theorem dX3_compact_53 : decode cX3_compact 53 = .ok (.invokevirtual 80, 3) := by decide +kernel
theorem dX3_compact_56 : decode cX3_compact 56 = .ok (.ireturn, 1) := by decide +kernel
set_option maxRecDepth 20000 in
theorem ggX3_forge_X3_requireLayer : GoodIn wsX3_forge wsX3_requireLayer := goodIn_ca (goodIn_r _ [10, 1, 2, 5, 11, 12, 13, 14, 15, 16, 49, 50, 51, 52, 53, 54, 55, 56, 57, 58, 59] (by decide +kernel) (by decide +kernel)) (goodIn_sub (fun _ h => List.mem_cons_of_mem _ (List.mem_append_left _ (List.mem_append_right _ h))) (by decide +kernel))
set_option maxRecDepth 20000 in
theorem gX3_forge_X3_requireLayer : GoodIn wsX3_forge (wsV RX3 83 RX3 yX3_requireLayer wsX3_requireLayer) := goodIn_app (goodIn_of _ (by decide +kernel)) ggX3_forge_X3_requireLayer
set_option maxRecDepth 20000 in
theorem ggX3_forge_X0_slotOf : GoodIn wsX3_forge wsX0_slotOf := goodIn_r _ [20, 21, 22, 23, 14, 24, 25, 26, 27, 28, 53, 54, 55, 56, 57, 58, 59] (by decide +kernel) (by decide +kernel)
set_option maxRecDepth 20000 in
theorem gX3_forge_X0_slotOf : GoodIn wsX3_forge (wsV RX3 86 RX0 yX0_slotOf wsX0_slotOf) := goodIn_app (goodIn_of _ (by decide +kernel)) ggX3_forge_X0_slotOf
set_option maxRecDepth 20000 in
theorem ggX3_forge_X0_kindAt : GoodIn wsX3_forge wsX0_kindAt := goodIn_r _ [32, 33, 34, 35, 14, 36, 53, 54, 55, 56, 57, 58, 59] (by decide +kernel) (by decide +kernel)
set_option maxRecDepth 20000 in
theorem gX3_forge_X0_kindAt : GoodIn wsX3_forge (wsV RX3 95 RX0 yX0_kindAt wsX0_kindAt) := goodIn_app (goodIn_of _ (by decide +kernel)) ggX3_forge_X0_kindAt
set_option maxRecDepth 20000 in
theorem ggX3_forge_X3_requireAmount : GoodIn wsX3_forge wsX3_requireAmount := goodIn_ca (goodIn_r _ [39, 3, 4] (by decide +kernel) (by decide +kernel)) (goodIn_sub (fun _ h => List.mem_cons_of_mem _ (List.mem_append_right _ h)) (by decide +kernel))
set_option maxRecDepth 20000 in
theorem gX3_forge_X3_requireAmount : GoodIn wsX3_forge (va_wsS RX3 37 yX3_requireAmount wsX3_requireAmount) := goodIn_app (goodIn_of _ (by decide +kernel)) ggX3_forge_X3_requireAmount
set_option maxRecDepth 20000 in
theorem ggX3_forge_X0_twoAt : GoodIn wsX3_forge wsX0_twoAt := goodIn_r _ [43, 44, 34, 35, 14, 36, 53, 54, 55, 56, 57, 58, 59] (by decide +kernel) (by decide +kernel)
set_option maxRecDepth 20000 in
theorem gX3_forge_X0_twoAt : GoodIn wsX3_forge (wsV RX3 100 RX0 yX0_twoAt wsX0_twoAt) := goodIn_app (goodIn_of _ (by decide +kernel)) ggX3_forge_X0_twoAt
set_option maxRecDepth 20000 in
theorem ggX3_forge_X0_rewriteTwo : GoodIn wsX3_forge wsX0_rewriteTwo := goodIn_r _ [48, 44, 34, 35, 14, 36, 53, 54, 55, 56, 57, 58, 59] (by decide +kernel) (by decide +kernel)
set_option maxRecDepth 20000 in
theorem gX3_forge_X0_rewriteTwo : GoodIn wsX3_forge (wsV RX3 103 RX0 yX0_rewriteTwo wsX0_rewriteTwo) := goodIn_app (goodIn_of _ (by decide +kernel)) ggX3_forge_X0_rewriteTwo
theorem dX3_forge_0 : decode cX3_forge 0 = .ok (.aload_n 0, 1) := by decide +kernel
theorem dX3_forge_1 : decode cX3_forge 1 = .ok (.iload_n 1, 1) := by decide +kernel
theorem dX3_forge_2 : decode cX3_forge 2 = .ok (.invokevirtual 83, 3) := by decide +kernel
theorem dX3_forge_5 : decode cX3_forge 5 = .ok (.aload_n 0, 1) := by decide +kernel
theorem dX3_forge_6 : decode cX3_forge 6 = .ok (.getfield 22, 3) := by decide +kernel
theorem dX3_forge_9 : decode cX3_forge 9 = .ok (.iload_n 1, 1) := by decide +kernel
theorem dX3_forge_10 : decode cX3_forge 10 = .ok (.iload_n 2, 1) := by decide +kernel
theorem dX3_forge_11 : decode cX3_forge 11 = .ok (.invokevirtual 86, 3) := by decide +kernel
theorem dX3_forge_14 : decode cX3_forge 14 = .ok (.istore 4, 2) := by decide +kernel
theorem dX3_forge_16 : decode cX3_forge 16 = .ok (.iload 4, 2) := by decide +kernel
theorem dX3_forge_18 : decode cX3_forge 18 = .ok (.iconst (-1), 1) := by decide +kernel
theorem dX3_forge_19 : decode cX3_forge 19 = .ok (.if_icmp .ne 13, 3) := by decide +kernel
theorem dX3_forge_22 : decode cX3_forge 22 = .ok (.new 90, 3) := by decide +kernel
theorem dX3_forge_25 : decode cX3_forge 25 = .ok (.dup, 1) := by decide +kernel
theorem dX3_forge_26 : decode cX3_forge 26 = .ok (.ldc 92, 2) := by decide +kernel
theorem dX3_forge_28 : decode cX3_forge 28 = .ok (.invokespecial 94, 3) := by decide +kernel
theorem dX3_forge_31 : decode cX3_forge 31 = .ok (.athrow, 1) := by decide +kernel
theorem dX3_forge_32 : decode cX3_forge 32 = .ok (.aload_n 0, 1) := by decide +kernel
theorem dX3_forge_33 : decode cX3_forge 33 = .ok (.getfield 22, 3) := by decide +kernel
theorem dX3_forge_36 : decode cX3_forge 36 = .ok (.iload 4, 2) := by decide +kernel
theorem dX3_forge_38 : decode cX3_forge 38 = .ok (.invokevirtual 95, 3) := by decide +kernel
theorem dX3_forge_41 : decode cX3_forge 41 = .ok (.iconst 2, 1) := by decide +kernel
theorem dX3_forge_42 : decode cX3_forge 42 = .ok (.if_icmp .eq 10, 3) := by decide +kernel
theorem dX3_forge_45 : decode cX3_forge 45 = .ok (.iload_n 3, 1) := by decide +kernel
theorem dX3_forge_46 : decode cX3_forge 46 = .ok (.invokestatic 37, 3) := by decide +kernel
theorem dX3_forge_49 : decode cX3_forge 49 = .ok (.goto 17, 3) := by decide +kernel
theorem dX3_forge_52 : decode cX3_forge 52 = .ok (.iload_n 3, 1) := by decide +kernel
theorem dX3_forge_53 : decode cX3_forge 53 = .ok (.ifCond .eq 13, 3) := by decide +kernel
theorem dX3_forge_56 : decode cX3_forge 56 = .ok (.new 69, 3) := by decide +kernel
theorem dX3_forge_59 : decode cX3_forge 59 = .ok (.dup, 1) := by decide +kernel
theorem dX3_forge_60 : decode cX3_forge 60 = .ok (.ldc 98, 2) := by decide +kernel
theorem dX3_forge_62 : decode cX3_forge 62 = .ok (.invokespecial 73, 3) := by decide +kernel
theorem dX3_forge_65 : decode cX3_forge 65 = .ok (.athrow, 1) := by decide +kernel
theorem dX3_forge_66 : decode cX3_forge 66 = .ok (.aload_n 0, 1) := by decide +kernel
theorem dX3_forge_67 : decode cX3_forge 67 = .ok (.getfield 22, 3) := by decide +kernel
theorem dX3_forge_70 : decode cX3_forge 70 = .ok (.iload 4, 2) := by decide +kernel
theorem dX3_forge_72 : decode cX3_forge 72 = .ok (.invokevirtual 100, 3) := by decide +kernel
theorem dX3_forge_75 : decode cX3_forge 75 = .ok (.istore 5, 2) := by decide +kernel
theorem dX3_forge_77 : decode cX3_forge 77 = .ok (.aload_n 0, 1) := by decide +kernel
theorem dX3_forge_78 : decode cX3_forge 78 = .ok (.getfield 22, 3) := by decide +kernel
theorem dX3_forge_81 : decode cX3_forge 81 = .ok (.iload 4, 2) := by decide +kernel
theorem dX3_forge_83 : decode cX3_forge 83 = .ok (.iload_n 3, 1) := by decide +kernel
theorem dX3_forge_84 : decode cX3_forge 84 = .ok (.invokevirtual 103, 3) := by decide +kernel
theorem dX3_forge_87 : decode cX3_forge 87 = .ok (.iload 5, 2) := by decide +kernel
theorem dX3_forge_89 : decode cX3_forge 89 = .ok (.ireturn, 1) := by decide +kernel
set_option maxRecDepth 20000 in
theorem ggX3_throwAway_X1_find : GoodIn wsX3_throwAway wsX1_find := goodIn_r _ [11, 12, 13, 14, 10, 15, 16, 17, 18, 19, 20, 21, 22, 23, 24, 25, 45, 46, 47] (by decide +kernel) (by decide +kernel)
set_option maxRecDepth 20000 in
theorem gX3_throwAway_X1_find : GoodIn wsX3_throwAway (wsV RX3 74 RX1 yX1_find wsX1_find) := goodIn_app (goodIn_of _ (by decide +kernel)) ggX3_throwAway_X1_find
set_option maxRecDepth 20000 in
theorem ggX3_throwAway_X0_isForgotten : GoodIn wsX3_throwAway wsX0_isForgotten := goodIn_r _ [30, 31, 48, 49, 50, 51, 52, 53, 54] (by decide +kernel) (by decide +kernel)
set_option maxRecDepth 20000 in
theorem gX3_throwAway_X0_isForgotten : GoodIn wsX3_throwAway (wsV RX3 107 RX0 yX0_isForgotten wsX0_isForgotten) := goodIn_app (goodIn_of _ (by decide +kernel)) ggX3_throwAway_X0_isForgotten
set_option maxRecDepth 20000 in
theorem ggX3_throwAway_X1_remove : GoodIn wsX3_throwAway wsX1_remove := goodIn_r _ [35, 16, 21, 36, 22, 23, 24, 10, 25, 45, 46, 47] (by decide +kernel) (by decide +kernel)
set_option maxRecDepth 20000 in
theorem gX3_throwAway_X1_remove : GoodIn wsX3_throwAway (wsV RX3 113 RX1 yX1_remove wsX1_remove) := goodIn_app (goodIn_of _ (by decide +kernel)) ggX3_throwAway_X1_remove
set_option maxRecDepth 20000 in
theorem ggX3_throwAway_X1_count : GoodIn wsX3_throwAway wsX1_count := goodIn_r _ [40, 16, 45, 46, 47] (by decide +kernel) (by decide +kernel)
set_option maxRecDepth 20000 in
theorem gX3_throwAway_X1_count : GoodIn wsX3_throwAway (wsV RX3 116 RX1 yX1_count wsX1_count) := goodIn_app (goodIn_of _ (by decide +kernel)) ggX3_throwAway_X1_count
theorem dX3_throwAway_0 : decode cX3_throwAway 0 = .ok (.aload_n 0, 1) := by decide +kernel
theorem dX3_throwAway_1 : decode cX3_throwAway 1 = .ok (.getfield 29, 3) := by decide +kernel
theorem dX3_throwAway_4 : decode cX3_throwAway 4 = .ok (.iload_n 1, 1) := by decide +kernel
theorem dX3_throwAway_5 : decode cX3_throwAway 5 = .ok (.invokevirtual 74, 3) := by decide +kernel
theorem dX3_throwAway_8 : decode cX3_throwAway 8 = .ok (.istore_n 2, 1) := by decide +kernel
theorem dX3_throwAway_9 : decode cX3_throwAway 9 = .ok (.iload_n 2, 1) := by decide +kernel
theorem dX3_throwAway_10 : decode cX3_throwAway 10 = .ok (.iconst (-1), 1) := by decide +kernel
theorem dX3_throwAway_11 : decode cX3_throwAway 11 = .ok (.if_icmp .ne 13, 3) := by decide +kernel
theorem dX3_throwAway_14 : decode cX3_throwAway 14 = .ok (.new 69, 3) := by decide +kernel
theorem dX3_throwAway_17 : decode cX3_throwAway 17 = .ok (.dup, 1) := by decide +kernel
theorem dX3_throwAway_18 : decode cX3_throwAway 18 = .ok (.ldc 78, 2) := by decide +kernel
theorem dX3_throwAway_20 : decode cX3_throwAway 20 = .ok (.invokespecial 73, 3) := by decide +kernel
theorem dX3_throwAway_23 : decode cX3_throwAway 23 = .ok (.athrow, 1) := by decide +kernel
theorem dX3_throwAway_24 : decode cX3_throwAway 24 = .ok (.aload_n 0, 1) := by decide +kernel
theorem dX3_throwAway_25 : decode cX3_throwAway 25 = .ok (.getfield 22, 3) := by decide +kernel
theorem dX3_throwAway_28 : decode cX3_throwAway 28 = .ok (.iload_n 1, 1) := by decide +kernel
theorem dX3_throwAway_29 : decode cX3_throwAway 29 = .ok (.iconst 1, 1) := by decide +kernel
theorem dX3_throwAway_30 : decode cX3_throwAway 30 = .ok (.isub, 1) := by decide +kernel
theorem dX3_throwAway_31 : decode cX3_throwAway 31 = .ok (.invokevirtual 107, 3) := by decide +kernel
theorem dX3_throwAway_34 : decode cX3_throwAway 34 = .ok (.ifCond .eq 13, 3) := by decide +kernel
theorem dX3_throwAway_37 : decode cX3_throwAway 37 = .ok (.new 51, 3) := by decide +kernel
theorem dX3_throwAway_40 : decode cX3_throwAway 40 = .ok (.dup, 1) := by decide +kernel
theorem dX3_throwAway_41 : decode cX3_throwAway 41 = .ok (.ldc 111, 2) := by decide +kernel
theorem dX3_throwAway_43 : decode cX3_throwAway 43 = .ok (.invokespecial 55, 3) := by decide +kernel
theorem dX3_throwAway_46 : decode cX3_throwAway 46 = .ok (.athrow, 1) := by decide +kernel
theorem dX3_throwAway_47 : decode cX3_throwAway 47 = .ok (.aload_n 0, 1) := by decide +kernel
theorem dX3_throwAway_48 : decode cX3_throwAway 48 = .ok (.getfield 29, 3) := by decide +kernel
theorem dX3_throwAway_51 : decode cX3_throwAway 51 = .ok (.iload_n 2, 1) := by decide +kernel
theorem dX3_throwAway_52 : decode cX3_throwAway 52 = .ok (.invokevirtual 113, 3) := by decide +kernel
theorem dX3_throwAway_55 : decode cX3_throwAway 55 = .ok (.aload_n 0, 1) := by decide +kernel
theorem dX3_throwAway_56 : decode cX3_throwAway 56 = .ok (.getfield 29, 3) := by decide +kernel
theorem dX3_throwAway_59 : decode cX3_throwAway 59 = .ok (.invokevirtual 116, 3) := by decide +kernel
theorem dX3_throwAway_62 : decode cX3_throwAway 62 = .ok (.ireturn, 1) := by decide +kernel
set_option maxRecDepth 20000 in
theorem ggX3_year_X0_count : GoodIn wsX3_year wsX0_count := goodIn_r _ [6, 7, 12, 13, 14, 15, 16, 17, 18] (by decide +kernel) (by decide +kernel)
set_option maxRecDepth 20000 in
theorem gX3_year_X0_count : GoodIn wsX3_year (wsV RX3 61 RX0 yX0_count wsX0_count) := goodIn_app (goodIn_of _ (by decide +kernel)) ggX3_year_X0_count
theorem dX3_year_0 : decode cX3_year 0 = .ok (.aload_n 0, 1) := by decide +kernel
theorem dX3_year_1 : decode cX3_year 1 = .ok (.getfield 22, 3) := by decide +kernel
theorem dX3_year_4 : decode cX3_year 4 = .ok (.invokevirtual 61, 3) := by decide +kernel
theorem dX3_year_7 : decode cX3_year 7 = .ok (.ireturn, 1) := by decide +kernel
set_option maxRecDepth 20000 in
theorem ggX3_iceAt_X3_requirePlace : GoodIn wsX3_iceAt wsX3_requirePlace := goodIn_ca (goodIn_r _ [5, 6, 7] (by decide +kernel) (by decide +kernel)) (goodIn_sub (fun _ h => List.mem_cons_of_mem _ (List.mem_append_right _ h)) (by decide +kernel))
set_option maxRecDepth 20000 in
theorem gX3_iceAt_X3_requirePlace : GoodIn wsX3_iceAt (va_wsS RX3 33 yX3_requirePlace wsX3_requirePlace) := goodIn_app (goodIn_of _ (by decide +kernel)) ggX3_iceAt_X3_requirePlace
set_option maxRecDepth 20000 in
theorem ggX3_iceAt_X2_heightAt : GoodIn wsX3_iceAt wsX2_heightAt := goodIn_r _ [12, 13, 14, 15, 11, 16, 21] (by decide +kernel) (by decide +kernel)
set_option maxRecDepth 20000 in
theorem gX3_iceAt_X2_heightAt : GoodIn wsX3_iceAt (wsV RX3 117 RX2 yX2_heightAt wsX2_heightAt) := goodIn_app (goodIn_of _ (by decide +kernel)) ggX3_iceAt_X2_heightAt
theorem dX3_iceAt_0 : decode cX3_iceAt 0 = .ok (.iload_n 1, 1) := by decide +kernel
theorem dX3_iceAt_1 : decode cX3_iceAt 1 = .ok (.invokestatic 33, 3) := by decide +kernel
theorem dX3_iceAt_4 : decode cX3_iceAt 4 = .ok (.aload_n 0, 1) := by decide +kernel
theorem dX3_iceAt_5 : decode cX3_iceAt 5 = .ok (.getfield 10, 3) := by decide +kernel
theorem dX3_iceAt_8 : decode cX3_iceAt 8 = .ok (.iload_n 1, 1) := by decide +kernel
theorem dX3_iceAt_9 : decode cX3_iceAt 9 = .ok (.invokevirtual 117, 3) := by decide +kernel
theorem dX3_iceAt_12 : decode cX3_iceAt 12 = .ok (.ireturn, 1) := by decide +kernel
set_option maxRecDepth 20000 in
theorem ggX3_ice_X2_total : GoodIn wsX3_ice wsX2_total := goodIn_r _ [6, 7, 12] (by decide +kernel) (by decide +kernel)
set_option maxRecDepth 20000 in
theorem gX3_ice_X2_total : GoodIn wsX3_ice (wsV RX3 120 RX2 yX2_total wsX2_total) := goodIn_app (goodIn_of _ (by decide +kernel)) ggX3_ice_X2_total
theorem dX3_ice_0 : decode cX3_ice 0 = .ok (.aload_n 0, 1) := by decide +kernel
theorem dX3_ice_1 : decode cX3_ice 1 = .ok (.getfield 10, 3) := by decide +kernel
theorem dX3_ice_4 : decode cX3_ice 4 = .ok (.invokevirtual 120, 3) := by decide +kernel
theorem dX3_ice_7 : decode cX3_ice 7 = .ok (.ireturn, 1) := by decide +kernel
set_option maxRecDepth 20000 in
theorem ggX3_thickest_X2_heightAt : GoodIn wsX3_thickest wsX2_heightAt := goodIn_r _ [6, 7, 8, 9, 5, 10, 15] (by decide +kernel) (by decide +kernel)
set_option maxRecDepth 20000 in
theorem gX3_thickest_X2_heightAt : GoodIn wsX3_thickest (wsV RX3 117 RX2 yX2_heightAt wsX2_heightAt) := goodIn_app (goodIn_of _ (by decide +kernel)) ggX3_thickest_X2_heightAt
theorem dX3_thickest_0 : decode cX3_thickest 0 = .ok (.iconst 0, 1) := by decide +kernel
theorem dX3_thickest_1 : decode cX3_thickest 1 = .ok (.istore_n 1, 1) := by decide +kernel
theorem dX3_thickest_2 : decode cX3_thickest 2 = .ok (.iconst 1, 1) := by decide +kernel
theorem dX3_thickest_3 : decode cX3_thickest 3 = .ok (.istore_n 2, 1) := by decide +kernel
theorem dX3_thickest_4 : decode cX3_thickest 4 = .ok (.iload_n 2, 1) := by decide +kernel
theorem dX3_thickest_5 : decode cX3_thickest 5 = .ok (.bipush 8, 2) := by decide +kernel
theorem dX3_thickest_7 : decode cX3_thickest 7 = .ok (.if_icmp .ge 30, 3) := by decide +kernel
theorem dX3_thickest_10 : decode cX3_thickest 10 = .ok (.aload_n 0, 1) := by decide +kernel
theorem dX3_thickest_11 : decode cX3_thickest 11 = .ok (.getfield 10, 3) := by decide +kernel
theorem dX3_thickest_14 : decode cX3_thickest 14 = .ok (.iload_n 2, 1) := by decide +kernel
theorem dX3_thickest_15 : decode cX3_thickest 15 = .ok (.invokevirtual 117, 3) := by decide +kernel
theorem dX3_thickest_18 : decode cX3_thickest 18 = .ok (.aload_n 0, 1) := by decide +kernel
theorem dX3_thickest_19 : decode cX3_thickest 19 = .ok (.getfield 10, 3) := by decide +kernel
theorem dX3_thickest_22 : decode cX3_thickest 22 = .ok (.iload_n 1, 1) := by decide +kernel
theorem dX3_thickest_23 : decode cX3_thickest 23 = .ok (.invokevirtual 117, 3) := by decide +kernel
theorem dX3_thickest_26 : decode cX3_thickest 26 = .ok (.if_icmp .le 5, 3) := by decide +kernel
theorem dX3_thickest_29 : decode cX3_thickest 29 = .ok (.iload_n 2, 1) := by decide +kernel
theorem dX3_thickest_30 : decode cX3_thickest 30 = .ok (.istore_n 1, 1) := by decide +kernel
theorem dX3_thickest_31 : decode cX3_thickest 31 = .ok (.iinc 2 1, 3) := by decide +kernel
theorem dX3_thickest_34 : decode cX3_thickest 34 = .ok (.goto (-30), 3) := by decide +kernel
theorem dX3_thickest_37 : decode cX3_thickest 37 = .ok (.iload_n 1, 1) := by decide +kernel
theorem dX3_thickest_38 : decode cX3_thickest 38 = .ok (.ireturn, 1) := by decide +kernel
set_option maxRecDepth 20000 in
theorem ggX3_deeds_X0_count : GoodIn wsX3_deeds wsX0_count := goodIn_r _ [6, 7, 20, 21, 22, 23, 24, 25, 26] (by decide +kernel) (by decide +kernel)
set_option maxRecDepth 20000 in
theorem gX3_deeds_X0_count : GoodIn wsX3_deeds (wsV RX3 61 RX0 yX0_count wsX0_count) := goodIn_app (goodIn_of _ (by decide +kernel)) ggX3_deeds_X0_count
set_option maxRecDepth 20000 in
theorem ggX3_deeds_X0_deedsIn : GoodIn wsX3_deeds wsX0_deedsIn := goodIn_r _ [11, 12, 13, 14, 5, 15, 20, 21, 22, 23, 24, 25, 26] (by decide +kernel) (by decide +kernel)
set_option maxRecDepth 20000 in
theorem gX3_deeds_X0_deedsIn : GoodIn wsX3_deeds (wsV RX3 123 RX0 yX0_deedsIn wsX0_deedsIn) := goodIn_app (goodIn_of _ (by decide +kernel)) ggX3_deeds_X0_deedsIn
theorem dX3_deeds_0 : decode cX3_deeds 0 = .ok (.aload_n 0, 1) := by decide +kernel
theorem dX3_deeds_1 : decode cX3_deeds 1 = .ok (.getfield 22, 3) := by decide +kernel
theorem dX3_deeds_4 : decode cX3_deeds 4 = .ok (.aload_n 0, 1) := by decide +kernel
theorem dX3_deeds_5 : decode cX3_deeds 5 = .ok (.getfield 22, 3) := by decide +kernel
theorem dX3_deeds_8 : decode cX3_deeds 8 = .ok (.invokevirtual 61, 3) := by decide +kernel
theorem dX3_deeds_11 : decode cX3_deeds 11 = .ok (.invokevirtual 123, 3) := by decide +kernel
theorem dX3_deeds_14 : decode cX3_deeds 14 = .ok (.ireturn, 1) := by decide +kernel
set_option maxRecDepth 20000 in
theorem ggX3_deedsOf_X3_requireLayer : GoodIn wsX3_deedsOf wsX3_requireLayer := goodIn_ca (goodIn_r _ [6, 7, 8, 1, 9, 10, 11, 12, 13, 14, 23, 24, 25, 26, 27, 28, 29, 30, 31, 32, 33] (by decide +kernel) (by decide +kernel)) (goodIn_sub (fun _ h => List.mem_cons_of_mem _ (List.mem_append_right _ h)) (by decide +kernel))
set_option maxRecDepth 20000 in
theorem gX3_deedsOf_X3_requireLayer : GoodIn wsX3_deedsOf (wsV RX3 83 RX3 yX3_requireLayer wsX3_requireLayer) := goodIn_app (goodIn_of _ (by decide +kernel)) ggX3_deedsOf_X3_requireLayer
set_option maxRecDepth 20000 in
theorem ggX3_deedsOf_X0_deedsIn : GoodIn wsX3_deedsOf wsX0_deedsIn := goodIn_r _ [18, 19, 20, 21, 12, 22, 27, 28, 29, 30, 31, 32, 33] (by decide +kernel) (by decide +kernel)
set_option maxRecDepth 20000 in
theorem gX3_deedsOf_X0_deedsIn : GoodIn wsX3_deedsOf (wsV RX3 123 RX0 yX0_deedsIn wsX0_deedsIn) := goodIn_app (goodIn_of _ (by decide +kernel)) ggX3_deedsOf_X0_deedsIn
theorem dX3_deedsOf_0 : decode cX3_deedsOf 0 = .ok (.aload_n 0, 1) := by decide +kernel
theorem dX3_deedsOf_1 : decode cX3_deedsOf 1 = .ok (.iload_n 1, 1) := by decide +kernel
theorem dX3_deedsOf_2 : decode cX3_deedsOf 2 = .ok (.invokevirtual 83, 3) := by decide +kernel
theorem dX3_deedsOf_5 : decode cX3_deedsOf 5 = .ok (.aload_n 0, 1) := by decide +kernel
theorem dX3_deedsOf_6 : decode cX3_deedsOf 6 = .ok (.getfield 22, 3) := by decide +kernel
theorem dX3_deedsOf_9 : decode cX3_deedsOf 9 = .ok (.iload_n 1, 1) := by decide +kernel
theorem dX3_deedsOf_10 : decode cX3_deedsOf 10 = .ok (.invokevirtual 123, 3) := by decide +kernel
theorem dX3_deedsOf_13 : decode cX3_deedsOf 13 = .ok (.ireturn, 1) := by decide +kernel
set_option maxRecDepth 20000 in
theorem ggX3_sealOf_X3_requireLayer : GoodIn wsX3_sealOf wsX3_requireLayer := goodIn_ca (goodIn_r _ [6, 7, 8, 1, 9, 10, 11, 12, 13, 14, 23, 24, 25, 26, 27, 28, 29, 30, 31, 32, 33] (by decide +kernel) (by decide +kernel)) (goodIn_sub (fun _ h => List.mem_cons_of_mem _ (List.mem_append_right _ h)) (by decide +kernel))
set_option maxRecDepth 20000 in
theorem gX3_sealOf_X3_requireLayer : GoodIn wsX3_sealOf (wsV RX3 83 RX3 yX3_requireLayer wsX3_requireLayer) := goodIn_app (goodIn_of _ (by decide +kernel)) ggX3_sealOf_X3_requireLayer
set_option maxRecDepth 20000 in
theorem ggX3_sealOf_X0_writtenSeal : GoodIn wsX3_sealOf wsX0_writtenSeal := goodIn_r _ [18, 19, 20, 21, 12, 22, 27, 28, 29, 30, 31, 32, 33] (by decide +kernel) (by decide +kernel)
set_option maxRecDepth 20000 in
theorem gX3_sealOf_X0_writtenSeal : GoodIn wsX3_sealOf (wsV RX3 126 RX0 yX0_writtenSeal wsX0_writtenSeal) := goodIn_app (goodIn_of _ (by decide +kernel)) ggX3_sealOf_X0_writtenSeal
theorem dX3_sealOf_0 : decode cX3_sealOf 0 = .ok (.aload_n 0, 1) := by decide +kernel
theorem dX3_sealOf_1 : decode cX3_sealOf 1 = .ok (.iload_n 1, 1) := by decide +kernel
theorem dX3_sealOf_2 : decode cX3_sealOf 2 = .ok (.invokevirtual 83, 3) := by decide +kernel
theorem dX3_sealOf_5 : decode cX3_sealOf 5 = .ok (.aload_n 0, 1) := by decide +kernel
theorem dX3_sealOf_6 : decode cX3_sealOf 6 = .ok (.getfield 22, 3) := by decide +kernel
theorem dX3_sealOf_9 : decode cX3_sealOf 9 = .ok (.iload_n 1, 1) := by decide +kernel
theorem dX3_sealOf_10 : decode cX3_sealOf 10 = .ok (.invokevirtual 126, 3) := by decide +kernel
theorem dX3_sealOf_13 : decode cX3_sealOf 13 = .ok (.ireturn, 1) := by decide +kernel
set_option maxRecDepth 20000 in
theorem ggX3_isCompacted_X3_requireLayer : GoodIn wsX3_isCompacted wsX3_requireLayer := goodIn_ca (goodIn_r _ [6, 7, 8, 1, 9, 10, 11, 12, 13, 14, 20, 21, 22, 23, 24, 25, 26, 27, 28, 29, 30] (by decide +kernel) (by decide +kernel)) (goodIn_sub (fun _ h => List.mem_cons_of_mem _ (List.mem_append_right _ h)) (by decide +kernel))
set_option maxRecDepth 20000 in
theorem gX3_isCompacted_X3_requireLayer : GoodIn wsX3_isCompacted (wsV RX3 83 RX3 yX3_requireLayer wsX3_requireLayer) := goodIn_app (goodIn_of _ (by decide +kernel)) ggX3_isCompacted_X3_requireLayer
set_option maxRecDepth 20000 in
theorem ggX3_isCompacted_X0_isForgotten : GoodIn wsX3_isCompacted wsX0_isForgotten := goodIn_r _ [18, 19, 24, 25, 26, 27, 28, 29, 30] (by decide +kernel) (by decide +kernel)
set_option maxRecDepth 20000 in
theorem gX3_isCompacted_X0_isForgotten : GoodIn wsX3_isCompacted (wsV RX3 107 RX0 yX0_isForgotten wsX0_isForgotten) := goodIn_app (goodIn_of _ (by decide +kernel)) ggX3_isCompacted_X0_isForgotten
theorem dX3_isCompacted_0 : decode cX3_isCompacted 0 = .ok (.aload_n 0, 1) := by decide +kernel
theorem dX3_isCompacted_1 : decode cX3_isCompacted 1 = .ok (.iload_n 1, 1) := by decide +kernel
theorem dX3_isCompacted_2 : decode cX3_isCompacted 2 = .ok (.invokevirtual 83, 3) := by decide +kernel
theorem dX3_isCompacted_5 : decode cX3_isCompacted 5 = .ok (.aload_n 0, 1) := by decide +kernel
theorem dX3_isCompacted_6 : decode cX3_isCompacted 6 = .ok (.getfield 22, 3) := by decide +kernel
theorem dX3_isCompacted_9 : decode cX3_isCompacted 9 = .ok (.iload_n 1, 1) := by decide +kernel
theorem dX3_isCompacted_10 : decode cX3_isCompacted 10 = .ok (.invokevirtual 107, 3) := by decide +kernel
theorem dX3_isCompacted_13 : decode cX3_isCompacted 13 = .ok (.ireturn, 1) := by decide +kernel
set_option maxRecDepth 20000 in
theorem ggX3_isFalse_X3_requireLayer : GoodIn wsX3_isFalse wsX3_requireLayer := goodIn_ca (goodIn_r _ [6, 7, 8, 1, 9, 10, 11, 12, 13, 14, 63, 64, 65, 66, 67, 68, 69, 70, 71, 72, 73] (by decide +kernel) (by decide +kernel)) (goodIn_sub (fun _ h => List.mem_cons_of_mem _ (List.mem_append_right _ h)) (by decide +kernel))
set_option maxRecDepth 20000 in
theorem gX3_isFalse_X3_requireLayer : GoodIn wsX3_isFalse (wsV RX3 83 RX3 yX3_requireLayer wsX3_requireLayer) := goodIn_app (goodIn_of _ (by decide +kernel)) ggX3_isFalse_X3_requireLayer
set_option maxRecDepth 20000 in
theorem ggX3_isFalse_X0_isUntrue : GoodIn wsX3_isFalse wsX0_isUntrue := goodIn_r _ [18, 19, 20, 21, 12, 22, 23, 24, 25, 26, 27, 28, 29, 30, 31, 32, 33, 34, 35, 36, 37, 38, 39, 40, 41, 42, 43, 44, 45, 46, 47, 48, 49, 50, 51, 52, 53, 54, 55, 56, 57, 58, 59, 60, 61, 62, 67, 68, 69, 70, 71, 72, 73] (by decide +kernel) (by decide +kernel)
set_option maxRecDepth 20000 in
theorem gX3_isFalse_X0_isUntrue : GoodIn wsX3_isFalse (wsV RX3 129 RX0 yX0_isUntrue wsX0_isUntrue) := goodIn_app (goodIn_of _ (by decide +kernel)) ggX3_isFalse_X0_isUntrue
theorem dX3_isFalse_0 : decode cX3_isFalse 0 = .ok (.aload_n 0, 1) := by decide +kernel
theorem dX3_isFalse_1 : decode cX3_isFalse 1 = .ok (.iload_n 1, 1) := by decide +kernel
theorem dX3_isFalse_2 : decode cX3_isFalse 2 = .ok (.invokevirtual 83, 3) := by decide +kernel
theorem dX3_isFalse_5 : decode cX3_isFalse 5 = .ok (.aload_n 0, 1) := by decide +kernel
theorem dX3_isFalse_6 : decode cX3_isFalse 6 = .ok (.getfield 22, 3) := by decide +kernel
theorem dX3_isFalse_9 : decode cX3_isFalse 9 = .ok (.iload_n 1, 1) := by decide +kernel
theorem dX3_isFalse_10 : decode cX3_isFalse 10 = .ok (.invokevirtual 129, 3) := by decide +kernel
theorem dX3_isFalse_13 : decode cX3_isFalse 13 = .ok (.ireturn, 1) := by decide +kernel
set_option maxRecDepth 20000 in
theorem ggX3_firstFalse_X0_count : GoodIn wsX3_firstFalse wsX0_count := goodIn_r _ [6, 7, 60, 61, 62, 63, 64, 65, 66] (by decide +kernel) (by decide +kernel)
set_option maxRecDepth 20000 in
theorem gX3_firstFalse_X0_count : GoodIn wsX3_firstFalse (wsV RX3 61 RX0 yX0_count wsX0_count) := goodIn_app (goodIn_of _ (by decide +kernel)) ggX3_firstFalse_X0_count
set_option maxRecDepth 20000 in
theorem ggX3_firstFalse_X0_isUntrue : GoodIn wsX3_firstFalse wsX0_isUntrue := goodIn_r _ [11, 12, 13, 14, 5, 15, 16, 17, 18, 19, 20, 21, 22, 23, 24, 25, 26, 27, 28, 29, 30, 31, 32, 33, 34, 35, 36, 37, 38, 39, 40, 41, 42, 43, 44, 45, 46, 47, 48, 49, 50, 51, 52, 53, 54, 55, 60, 61, 62, 63, 64, 65, 66] (by decide +kernel) (by decide +kernel)
set_option maxRecDepth 20000 in
theorem gX3_firstFalse_X0_isUntrue : GoodIn wsX3_firstFalse (wsV RX3 129 RX0 yX0_isUntrue wsX0_isUntrue) := goodIn_app (goodIn_of _ (by decide +kernel)) ggX3_firstFalse_X0_isUntrue
theorem dX3_firstFalse_0 : decode cX3_firstFalse 0 = .ok (.iconst 0, 1) := by decide +kernel
theorem dX3_firstFalse_1 : decode cX3_firstFalse 1 = .ok (.istore_n 1, 1) := by decide +kernel
theorem dX3_firstFalse_2 : decode cX3_firstFalse 2 = .ok (.iload_n 1, 1) := by decide +kernel
theorem dX3_firstFalse_3 : decode cX3_firstFalse 3 = .ok (.aload_n 0, 1) := by decide +kernel
theorem dX3_firstFalse_4 : decode cX3_firstFalse 4 = .ok (.getfield 22, 3) := by decide +kernel
theorem dX3_firstFalse_7 : decode cX3_firstFalse 7 = .ok (.invokevirtual 61, 3) := by decide +kernel
theorem dX3_firstFalse_10 : decode cX3_firstFalse 10 = .ok (.if_icmp .ge 22, 3) := by decide +kernel
theorem dX3_firstFalse_13 : decode cX3_firstFalse 13 = .ok (.aload_n 0, 1) := by decide +kernel
theorem dX3_firstFalse_14 : decode cX3_firstFalse 14 = .ok (.getfield 22, 3) := by decide +kernel
theorem dX3_firstFalse_17 : decode cX3_firstFalse 17 = .ok (.iload_n 1, 1) := by decide +kernel
theorem dX3_firstFalse_18 : decode cX3_firstFalse 18 = .ok (.invokevirtual 129, 3) := by decide +kernel
theorem dX3_firstFalse_21 : decode cX3_firstFalse 21 = .ok (.ifCond .eq 5, 3) := by decide +kernel
theorem dX3_firstFalse_24 : decode cX3_firstFalse 24 = .ok (.iload_n 1, 1) := by decide +kernel
theorem dX3_firstFalse_25 : decode cX3_firstFalse 25 = .ok (.ireturn, 1) := by decide +kernel
theorem dX3_firstFalse_26 : decode cX3_firstFalse 26 = .ok (.iinc 1 1, 3) := by decide +kernel
theorem dX3_firstFalse_29 : decode cX3_firstFalse 29 = .ok (.goto (-27), 3) := by decide +kernel
theorem dX3_firstFalse_32 : decode cX3_firstFalse 32 = .ok (.iconst (-1), 1) := by decide +kernel
theorem dX3_firstFalse_33 : decode cX3_firstFalse 33 = .ok (.ireturn, 1) := by decide +kernel
set_option maxRecDepth 20000 in
theorem ggX3_cores_X1_count : GoodIn wsX3_cores wsX1_count := goodIn_r _ [6, 7, 12, 13, 14] (by decide +kernel) (by decide +kernel)
set_option maxRecDepth 20000 in
theorem gX3_cores_X1_count : GoodIn wsX3_cores (wsV RX3 116 RX1 yX1_count wsX1_count) := goodIn_app (goodIn_of _ (by decide +kernel)) ggX3_cores_X1_count
theorem dX3_cores_0 : decode cX3_cores 0 = .ok (.aload_n 0, 1) := by decide +kernel
theorem dX3_cores_1 : decode cX3_cores 1 = .ok (.getfield 29, 3) := by decide +kernel
theorem dX3_cores_4 : decode cX3_cores 4 = .ok (.invokevirtual 116, 3) := by decide +kernel
theorem dX3_cores_7 : decode cX3_cores 7 = .ok (.ireturn, 1) := by decide +kernel
set_option maxRecDepth 20000 in
theorem ggX3_yearOf_X3_requireCore : GoodIn wsX3_yearOf wsX3_requireCore := goodIn_ca (goodIn_r _ [6, 7, 8, 1, 9, 10, 11, 12, 13, 14, 24, 25, 26, 27, 28, 29, 30] (by decide +kernel) (by decide +kernel)) (goodIn_sub (fun _ h => List.mem_cons_of_mem _ (List.mem_append_right _ h)) (by decide +kernel))
set_option maxRecDepth 20000 in
theorem gX3_yearOf_X3_requireCore : GoodIn wsX3_yearOf (wsV RX3 132 RX3 yX3_requireCore wsX3_requireCore) := goodIn_app (goodIn_of _ (by decide +kernel)) ggX3_yearOf_X3_requireCore
set_option maxRecDepth 20000 in
theorem ggX3_yearOf_X1_yearAt : GoodIn wsX3_yearOf wsX1_yearAt := goodIn_r _ [18, 19, 20, 21, 22, 12, 23, 14, 28, 29, 30] (by decide +kernel) (by decide +kernel)
set_option maxRecDepth 20000 in
theorem gX3_yearOf_X1_yearAt : GoodIn wsX3_yearOf (wsV RX3 135 RX1 yX1_yearAt wsX1_yearAt) := goodIn_app (goodIn_of _ (by decide +kernel)) ggX3_yearOf_X1_yearAt
theorem dX3_yearOf_0 : decode cX3_yearOf 0 = .ok (.aload_n 0, 1) := by decide +kernel
theorem dX3_yearOf_1 : decode cX3_yearOf 1 = .ok (.iload_n 1, 1) := by decide +kernel
theorem dX3_yearOf_2 : decode cX3_yearOf 2 = .ok (.invokevirtual 132, 3) := by decide +kernel
theorem dX3_yearOf_5 : decode cX3_yearOf 5 = .ok (.aload_n 0, 1) := by decide +kernel
theorem dX3_yearOf_6 : decode cX3_yearOf 6 = .ok (.getfield 29, 3) := by decide +kernel
theorem dX3_yearOf_9 : decode cX3_yearOf 9 = .ok (.iload_n 1, 1) := by decide +kernel
theorem dX3_yearOf_10 : decode cX3_yearOf 10 = .ok (.invokevirtual 135, 3) := by decide +kernel
theorem dX3_yearOf_13 : decode cX3_yearOf 13 = .ok (.ireturn, 1) := by decide +kernel
set_option maxRecDepth 20000 in
theorem ggX3_iceOfCore_X3_requireCore : GoodIn wsX3_iceOfCore wsX3_requireCore := goodIn_ca (goodIn_r _ [6, 7, 8, 1, 9, 10, 11, 12, 13, 14, 28, 29, 30, 31, 32, 33, 34] (by decide +kernel) (by decide +kernel)) (goodIn_sub (fun _ h => List.mem_cons_of_mem _ (List.mem_append_right _ h)) (by decide +kernel))
set_option maxRecDepth 20000 in
theorem gX3_iceOfCore_X3_requireCore : GoodIn wsX3_iceOfCore (wsV RX3 132 RX3 yX3_requireCore wsX3_requireCore) := goodIn_app (goodIn_of _ (by decide +kernel)) ggX3_iceOfCore_X3_requireCore
set_option maxRecDepth 20000 in
theorem ggX3_iceOfCore_X1_totalOf : GoodIn wsX3_iceOfCore wsX1_totalOf := goodIn_r _ [18, 19, 20, 21, 12, 22, 23, 24, 25, 26, 27, 14, 32, 33, 34] (by decide +kernel) (by decide +kernel)
set_option maxRecDepth 20000 in
theorem gX3_iceOfCore_X1_totalOf : GoodIn wsX3_iceOfCore (wsV RX3 138 RX1 yX1_totalOf wsX1_totalOf) := goodIn_app (goodIn_of _ (by decide +kernel)) ggX3_iceOfCore_X1_totalOf
theorem dX3_iceOfCore_0 : decode cX3_iceOfCore 0 = .ok (.aload_n 0, 1) := by decide +kernel
theorem dX3_iceOfCore_1 : decode cX3_iceOfCore 1 = .ok (.iload_n 1, 1) := by decide +kernel
theorem dX3_iceOfCore_2 : decode cX3_iceOfCore 2 = .ok (.invokevirtual 132, 3) := by decide +kernel
theorem dX3_iceOfCore_5 : decode cX3_iceOfCore 5 = .ok (.aload_n 0, 1) := by decide +kernel
theorem dX3_iceOfCore_6 : decode cX3_iceOfCore 6 = .ok (.getfield 29, 3) := by decide +kernel
theorem dX3_iceOfCore_9 : decode cX3_iceOfCore 9 = .ok (.iload_n 1, 1) := by decide +kernel
theorem dX3_iceOfCore_10 : decode cX3_iceOfCore 10 = .ok (.invokevirtual 138, 3) := by decide +kernel
theorem dX3_iceOfCore_13 : decode cX3_iceOfCore 13 = .ok (.ireturn, 1) := by decide +kernel
set_option maxRecDepth 20000 in
theorem ggX3_canReplay_X3_requireYear : GoodIn wsX3_canReplay wsX3_requireYear := goodIn_ca (goodIn_r _ [5, 6, 7, 8, 9, 10, 11, 12, 13, 14, 49, 50, 51, 52, 53, 54, 55, 56, 57, 58, 59] (by decide +kernel) (by decide +kernel)) (goodIn_sub (fun _ h => List.mem_cons_of_mem _ (List.mem_append_right _ h)) (by decide +kernel))
set_option maxRecDepth 20000 in
theorem gX3_canReplay_X3_requireYear : GoodIn wsX3_canReplay (wsV RX3 141 RX3 yX3_requireYear wsX3_requireYear) := goodIn_app (goodIn_of _ (by decide +kernel)) ggX3_canReplay_X3_requireYear
set_option maxRecDepth 20000 in
theorem ggX3_canReplay_X3_isReplayable : GoodIn wsX3_canReplay wsX3_isReplayable := goodIn_r _ [18, 8, 19, 20, 21, 4, 22, 23, 24, 25, 26, 27, 28, 29, 30, 31, 32, 33, 34, 35, 36, 37, 38, 39, 40, 41, 42, 43, 44, 45, 46, 12, 47, 48, 49, 50, 51, 52, 60, 61, 62, 53, 54, 55, 56, 57, 58, 59] (by decide +kernel) (by decide +kernel)
set_option maxRecDepth 20000 in
theorem gX3_canReplay_X3_isReplayable : GoodIn wsX3_canReplay (wsV RX3 144 RX3 yX3_isReplayable wsX3_isReplayable) := goodIn_app (goodIn_of _ (by decide +kernel)) ggX3_canReplay_X3_isReplayable
theorem dX3_canReplay_0 : decode cX3_canReplay 0 = .ok (.aload_n 0, 1) := by decide +kernel
theorem dX3_canReplay_1 : decode cX3_canReplay 1 = .ok (.iload_n 1, 1) := by decide +kernel
theorem dX3_canReplay_2 : decode cX3_canReplay 2 = .ok (.invokevirtual 141, 3) := by decide +kernel
theorem dX3_canReplay_5 : decode cX3_canReplay 5 = .ok (.aload_n 0, 1) := by decide +kernel
theorem dX3_canReplay_6 : decode cX3_canReplay 6 = .ok (.iload_n 1, 1) := by decide +kernel
theorem dX3_canReplay_7 : decode cX3_canReplay 7 = .ok (.invokevirtual 144, 3) := by decide +kernel
theorem dX3_canReplay_10 : decode cX3_canReplay 10 = .ok (.ireturn, 1) := by decide +kernel
set_option maxRecDepth 20000 in
theorem ggX3_replayedFrom_X3_requireYear : GoodIn wsX3_replayedFrom wsX3_requireYear := goodIn_ca (goodIn_r _ [6, 7, 8, 9, 10, 11, 12, 13, 14, 15, 32, 33, 34, 35, 36, 37, 38, 39, 40, 41, 42] (by decide +kernel) (by decide +kernel)) (goodIn_sub (fun _ h => List.mem_cons_of_mem _ (List.mem_append_right _ h)) (by decide +kernel))
set_option maxRecDepth 20000 in
theorem gX3_replayedFrom_X3_requireYear : GoodIn wsX3_replayedFrom (wsV RX3 141 RX3 yX3_requireYear wsX3_requireYear) := goodIn_app (goodIn_of _ (by decide +kernel)) ggX3_replayedFrom_X3_requireYear
set_option maxRecDepth 20000 in
theorem ggX3_replayedFrom_X1_latestUpTo : GoodIn wsX3_replayedFrom wsX1_latestUpTo := goodIn_r _ [20, 21, 22, 23, 24, 19, 25, 26, 27, 28, 29, 30, 43, 44, 45] (by decide +kernel) (by decide +kernel)
set_option maxRecDepth 20000 in
theorem gX3_replayedFrom_X1_latestUpTo : GoodIn wsX3_replayedFrom (wsV RX3 147 RX1 yX1_latestUpTo wsX1_latestUpTo) := goodIn_app (goodIn_of _ (by decide +kernel)) ggX3_replayedFrom_X1_latestUpTo
set_option maxRecDepth 20000 in
theorem ggX3_replayedFrom_X1_yearAt : GoodIn wsX3_replayedFrom wsX1_yearAt := goodIn_r _ [25, 26, 27, 28, 29, 19, 30, 21, 43, 44, 45] (by decide +kernel) (by decide +kernel)
set_option maxRecDepth 20000 in
theorem gX3_replayedFrom_X1_yearAt : GoodIn wsX3_replayedFrom (wsV RX3 135 RX1 yX1_yearAt wsX1_yearAt) := goodIn_app (goodIn_of _ (by decide +kernel)) ggX3_replayedFrom_X1_yearAt
theorem dX3_replayedFrom_0 : decode cX3_replayedFrom 0 = .ok (.aload_n 0, 1) := by decide +kernel
theorem dX3_replayedFrom_1 : decode cX3_replayedFrom 1 = .ok (.iload_n 1, 1) := by decide +kernel
theorem dX3_replayedFrom_2 : decode cX3_replayedFrom 2 = .ok (.invokevirtual 141, 3) := by decide +kernel
theorem dX3_replayedFrom_5 : decode cX3_replayedFrom 5 = .ok (.aload_n 0, 1) := by decide +kernel
theorem dX3_replayedFrom_6 : decode cX3_replayedFrom 6 = .ok (.getfield 29, 3) := by decide +kernel
theorem dX3_replayedFrom_9 : decode cX3_replayedFrom 9 = .ok (.aload_n 0, 1) := by decide +kernel
theorem dX3_replayedFrom_10 : decode cX3_replayedFrom 10 = .ok (.getfield 29, 3) := by decide +kernel
theorem dX3_replayedFrom_13 : decode cX3_replayedFrom 13 = .ok (.iload_n 1, 1) := by decide +kernel
theorem dX3_replayedFrom_14 : decode cX3_replayedFrom 14 = .ok (.invokevirtual 147, 3) := by decide +kernel
theorem dX3_replayedFrom_17 : decode cX3_replayedFrom 17 = .ok (.invokevirtual 135, 3) := by decide +kernel
theorem dX3_replayedFrom_20 : decode cX3_replayedFrom 20 = .ok (.ireturn, 1) := by decide +kernel
set_option maxRecDepth 20000 in
theorem ggX3_replayCost_X3_requireYear : GoodIn wsX3_replayCost wsX3_requireYear := goodIn_ca (goodIn_r _ [5, 6, 7, 8, 9, 10, 11, 12, 13, 14, 67, 68, 69, 70, 71, 72, 73, 74, 75, 76, 77] (by decide +kernel) (by decide +kernel)) (goodIn_sub (fun _ h => List.mem_cons_of_mem _ (List.mem_append_left _ (List.mem_append_right _ h))) (by decide +kernel))
set_option maxRecDepth 20000 in
theorem gX3_replayCost_X3_requireYear : GoodIn wsX3_replayCost (wsV RX3 141 RX3 yX3_requireYear wsX3_requireYear) := goodIn_app (goodIn_of _ (by decide +kernel)) ggX3_replayCost_X3_requireYear
set_option maxRecDepth 20000 in
theorem ggX3_replayCost_X3_requireReplayable : GoodIn wsX3_replayCost wsX3_requireReplayable := goodIn_ca (goodIn_r _ [18, 19, 20, 21, 22, 23, 4, 24, 8, 25, 26, 27, 28, 29, 30, 31, 32, 33, 34, 35, 36, 37, 38, 39, 40, 41, 42, 43, 44, 45, 46, 47, 48, 49, 50, 51, 52, 12, 53, 54, 67, 68, 69, 70, 78, 79, 80, 71, 72, 73, 74, 75, 76, 77] (by decide +kernel) (by decide +kernel)) (goodIn_sub (fun _ h => List.mem_cons_of_mem _ (List.mem_append_right _ h)) (by decide +kernel))
set_option maxRecDepth 20000 in
theorem gX3_replayCost_X3_requireReplayable : GoodIn wsX3_replayCost (wsV RX3 150 RX3 yX3_requireReplayable wsX3_requireReplayable) := goodIn_app (goodIn_of _ (by decide +kernel)) ggX3_replayCost_X3_requireReplayable
set_option maxRecDepth 20000 in
theorem ggX3_replayCost_X3_deedsAgain : GoodIn wsX3_replayCost wsX3_deedsAgain := goodIn_r _ [58, 8, 25, 26, 27, 4, 28, 29, 30, 31, 32, 33, 34, 35, 36, 37, 38, 39, 40, 41, 42, 43, 44, 45, 46, 47, 48, 49, 59, 60, 61, 12, 62, 63, 64, 65, 66, 67, 68, 69, 70, 78, 79, 80, 71, 72, 73, 74, 75, 76, 77] (by decide +kernel) (by decide +kernel)
set_option maxRecDepth 20000 in
theorem gX3_replayCost_X3_deedsAgain : GoodIn wsX3_replayCost (wsV RX3 153 RX3 yX3_deedsAgain wsX3_deedsAgain) := goodIn_app (goodIn_of _ (by decide +kernel)) ggX3_replayCost_X3_deedsAgain
theorem dX3_replayCost_0 : decode cX3_replayCost 0 = .ok (.aload_n 0, 1) := by decide +kernel
theorem dX3_replayCost_1 : decode cX3_replayCost 1 = .ok (.iload_n 1, 1) := by decide +kernel
theorem dX3_replayCost_2 : decode cX3_replayCost 2 = .ok (.invokevirtual 141, 3) := by decide +kernel
theorem dX3_replayCost_5 : decode cX3_replayCost 5 = .ok (.aload_n 0, 1) := by decide +kernel
theorem dX3_replayCost_6 : decode cX3_replayCost 6 = .ok (.iload_n 1, 1) := by decide +kernel
theorem dX3_replayCost_7 : decode cX3_replayCost 7 = .ok (.invokevirtual 150, 3) := by decide +kernel
theorem dX3_replayCost_10 : decode cX3_replayCost 10 = .ok (.aload_n 0, 1) := by decide +kernel
theorem dX3_replayCost_11 : decode cX3_replayCost 11 = .ok (.iload_n 1, 1) := by decide +kernel
theorem dX3_replayCost_12 : decode cX3_replayCost 12 = .ok (.invokevirtual 153, 3) := by decide +kernel
theorem dX3_replayCost_15 : decode cX3_replayCost 15 = .ok (.ireturn, 1) := by decide +kernel
set_option maxRecDepth 20000 in
theorem ggX3_iceInYear_X3_requirePlace : GoodIn wsX3_iceInYear wsX3_requirePlace := goodIn_ca (goodIn_r _ [5, 6, 7] (by decide +kernel) (by decide +kernel)) (goodIn_sub (fun _ h => List.mem_cons_of_mem _ (List.mem_append_left _ (List.mem_append_left _ (List.mem_append_right _ h)))) (by decide +kernel))
set_option maxRecDepth 20000 in
theorem gX3_iceInYear_X3_requirePlace : GoodIn wsX3_iceInYear (va_wsS RX3 33 yX3_requirePlace wsX3_requirePlace) := goodIn_app (goodIn_of _ (by decide +kernel)) ggX3_iceInYear_X3_requirePlace
set_option maxRecDepth 20000 in
theorem ggX3_iceInYear_X3_requireYear : GoodIn wsX3_iceInYear wsX3_requireYear := goodIn_ca (goodIn_r _ [11, 12, 13, 14, 15, 16, 17, 18, 19, 20, 139, 140, 141, 142, 143, 144, 145, 146, 147, 148, 149] (by decide +kernel) (by decide +kernel)) (goodIn_sub (fun _ h => List.mem_cons_of_mem _ (List.mem_append_left _ (List.mem_append_right _ h))) (by decide +kernel))
set_option maxRecDepth 20000 in
theorem gX3_iceInYear_X3_requireYear : GoodIn wsX3_iceInYear (wsV RX3 141 RX3 yX3_requireYear wsX3_requireYear) := goodIn_app (goodIn_of _ (by decide +kernel)) ggX3_iceInYear_X3_requireYear
set_option maxRecDepth 20000 in
theorem ggX3_iceInYear_X3_requireReplayable : GoodIn wsX3_iceInYear wsX3_requireReplayable := goodIn_ca (goodIn_r _ [24, 25, 26, 27, 28, 29, 4, 30, 14, 31, 32, 33, 34, 35, 36, 37, 38, 39, 40, 41, 42, 43, 44, 45, 46, 47, 48, 49, 50, 51, 52, 53, 54, 55, 56, 57, 58, 18, 59, 60, 139, 140, 141, 142, 150, 151, 152, 143, 144, 145, 146, 147, 148, 149] (by decide +kernel) (by decide +kernel)) (goodIn_sub (fun _ h => List.mem_cons_of_mem _ (List.mem_append_right _ h)) (by decide +kernel))
set_option maxRecDepth 20000 in
theorem gX3_iceInYear_X3_requireReplayable : GoodIn wsX3_iceInYear (wsV RX3 150 RX3 yX3_requireReplayable wsX3_requireReplayable) := goodIn_app (goodIn_of _ (by decide +kernel)) ggX3_iceInYear_X3_requireReplayable
set_option maxRecDepth 20000 in
theorem ggX3_iceInYear_X3_replay : GoodIn wsX3_iceInYear wsX3_replay := goodIn_r _ [64, 35, 1, 14, 40, 41, 42, 43, 44, 45, 46, 47, 48, 49, 50, 51, 52, 53, 54, 65, 66, 67, 68, 69, 70, 71, 72, 73, 74, 75, 76, 77, 78, 79, 80, 81, 82, 83, 84, 85, 86, 31, 32, 33, 4, 34, 36, 37, 38, 39, 55, 87, 88, 89, 18, 90, 91, 92, 93, 94, 95, 96, 97, 98, 99, 100, 101, 102, 103, 104, 105, 106, 107, 108, 109, 110, 111, 112, 113, 114, 115, 116, 117, 118, 119, 120, 121, 122, 123, 124, 125, 126, 127, 128, 129, 130, 131, 132, 133, 134, 135, 136, 137, 139, 140, 141, 142, 150, 151, 152, 153, 143, 144, 145, 146, 147, 148, 149] (by decide +kernel) (by decide +kernel)
set_option maxRecDepth 20000 in
theorem gX3_iceInYear_X3_replay : GoodIn wsX3_iceInYear (wsV RX3 156 RX3 yX3_replay wsX3_replay) := goodIn_app (goodIn_of _ (by decide +kernel)) ggX3_iceInYear_X3_replay
set_option maxRecDepth 20000 in
theorem ggX3_iceInYear_X2_heightAt : GoodIn wsX3_iceInYear wsX2_heightAt := goodIn_r _ [132, 70, 84, 85, 68, 86, 153] (by decide +kernel) (by decide +kernel)
set_option maxRecDepth 20000 in
theorem gX3_iceInYear_X2_heightAt : GoodIn wsX3_iceInYear (wsV RX3 117 RX2 yX2_heightAt wsX2_heightAt) := goodIn_app (goodIn_of _ (by decide +kernel)) ggX3_iceInYear_X2_heightAt
theorem dX3_iceInYear_0 : decode cX3_iceInYear 0 = .ok (.iload_n 2, 1) := by decide +kernel
theorem dX3_iceInYear_1 : decode cX3_iceInYear 1 = .ok (.invokestatic 33, 3) := by decide +kernel
theorem dX3_iceInYear_4 : decode cX3_iceInYear 4 = .ok (.aload_n 0, 1) := by decide +kernel
theorem dX3_iceInYear_5 : decode cX3_iceInYear 5 = .ok (.iload_n 1, 1) := by decide +kernel
theorem dX3_iceInYear_6 : decode cX3_iceInYear 6 = .ok (.invokevirtual 141, 3) := by decide +kernel
theorem dX3_iceInYear_9 : decode cX3_iceInYear 9 = .ok (.aload_n 0, 1) := by decide +kernel
theorem dX3_iceInYear_10 : decode cX3_iceInYear 10 = .ok (.iload_n 1, 1) := by decide +kernel
theorem dX3_iceInYear_11 : decode cX3_iceInYear 11 = .ok (.invokevirtual 150, 3) := by decide +kernel
theorem dX3_iceInYear_14 : decode cX3_iceInYear 14 = .ok (.aload_n 0, 1) := by decide +kernel
theorem dX3_iceInYear_15 : decode cX3_iceInYear 15 = .ok (.iload_n 1, 1) := by decide +kernel
theorem dX3_iceInYear_16 : decode cX3_iceInYear 16 = .ok (.invokevirtual 156, 3) := by decide +kernel
theorem dX3_iceInYear_19 : decode cX3_iceInYear 19 = .ok (.aload_n 0, 1) := by decide +kernel
theorem dX3_iceInYear_20 : decode cX3_iceInYear 20 = .ok (.getfield 16, 3) := by decide +kernel
theorem dX3_iceInYear_23 : decode cX3_iceInYear 23 = .ok (.iload_n 2, 1) := by decide +kernel
theorem dX3_iceInYear_24 : decode cX3_iceInYear 24 = .ok (.invokevirtual 117, 3) := by decide +kernel
theorem dX3_iceInYear_27 : decode cX3_iceInYear 27 = .ok (.ireturn, 1) := by decide +kernel
set_option maxRecDepth 20000 in
theorem ggX3_richestYear_X2_clear : GoodIn wsX3_richestYear wsX2_clear := goodIn_r _ [7, 8, 134] (by decide +kernel) (by decide +kernel)
set_option maxRecDepth 20000 in
theorem gX3_richestYear_X2_clear : GoodIn wsX3_richestYear (wsV RX3 159 RX2 yX2_clear wsX2_clear) := goodIn_app (goodIn_of _ (by decide +kernel)) ggX3_richestYear_X2_clear
set_option maxRecDepth 20000 in
theorem ggX3_richestYear_X0_count : GoodIn wsX3_richestYear wsX0_count := goodIn_r _ [13, 14, 135, 136, 137, 138, 139, 140, 141] (by decide +kernel) (by decide +kernel)
set_option maxRecDepth 20000 in
theorem gX3_richestYear_X0_count : GoodIn wsX3_richestYear (wsV RX3 61 RX0 yX0_count wsX0_count) := goodIn_app (goodIn_of _ (by decide +kernel)) ggX3_richestYear_X0_count
set_option maxRecDepth 20000 in
theorem ggX3_richestYear_X3_stepInto : GoodIn wsX3_richestYear wsX3_stepInto := goodIn_r _ [19, 20, 2, 1, 21, 22, 23, 24, 25, 26, 27, 28, 29, 30, 31, 32, 33, 34, 35, 36, 37, 38, 39, 40, 41, 42, 12, 43, 44, 45, 46, 47, 48, 49, 50, 51, 52, 53, 54, 55, 56, 57, 58, 59, 60, 61, 62, 63, 64, 65, 66, 67, 68, 69, 70, 71, 72, 73, 74, 75, 76, 6, 77, 78, 79, 80, 81, 82, 83, 84, 85, 86, 87, 88, 8, 89, 90, 91, 92, 93, 94, 95, 96, 97, 98, 99, 100, 101, 102, 103, 104, 105, 106, 107, 108, 109, 130, 131, 132, 133, 142, 143, 144, 135, 136, 137, 138, 139, 140, 141, 134] (by decide +kernel) (by decide +kernel)
set_option maxRecDepth 20000 in
theorem gX3_richestYear_X3_stepInto : GoodIn wsX3_richestYear (wsV RX3 162 RX3 yX3_stepInto wsX3_stepInto) := goodIn_app (goodIn_of _ (by decide +kernel)) ggX3_richestYear_X3_stepInto
set_option maxRecDepth 20000 in
theorem ggX3_richestYear_X3_isReplayable : GoodIn wsX3_richestYear wsX3_isReplayable := goodIn_r _ [113, 2, 114, 115, 116, 18, 117, 20, 118, 83, 80, 84, 119, 27, 28, 24, 29, 30, 31, 32, 33, 34, 35, 36, 37, 38, 39, 120, 121, 122, 123, 12, 124, 125, 130, 131, 132, 133, 142, 143, 144, 135, 136, 137, 138, 139, 140, 141] (by decide +kernel) (by decide +kernel)
set_option maxRecDepth 20000 in
theorem gX3_richestYear_X3_isReplayable : GoodIn wsX3_richestYear (wsV RX3 144 RX3 yX3_isReplayable wsX3_isReplayable) := goodIn_app (goodIn_of _ (by decide +kernel)) ggX3_richestYear_X3_isReplayable
set_option maxRecDepth 20000 in
theorem ggX3_richestYear_X2_total : GoodIn wsX3_richestYear wsX2_total := goodIn_r _ [129, 8, 134] (by decide +kernel) (by decide +kernel)
set_option maxRecDepth 20000 in
theorem gX3_richestYear_X2_total : GoodIn wsX3_richestYear (wsV RX3 120 RX2 yX2_total wsX2_total) := goodIn_app (goodIn_of _ (by decide +kernel)) ggX3_richestYear_X2_total
theorem dX3_richestYear_0 : decode cX3_richestYear 0 = .ok (.iconst 0, 1) := by decide +kernel
theorem dX3_richestYear_1 : decode cX3_richestYear 1 = .ok (.istore_n 1, 1) := by decide +kernel
theorem dX3_richestYear_2 : decode cX3_richestYear 2 = .ok (.iconst 0, 1) := by decide +kernel
theorem dX3_richestYear_3 : decode cX3_richestYear 3 = .ok (.istore_n 2, 1) := by decide +kernel
theorem dX3_richestYear_4 : decode cX3_richestYear 4 = .ok (.aload_n 0, 1) := by decide +kernel
theorem dX3_richestYear_5 : decode cX3_richestYear 5 = .ok (.getfield 16, 3) := by decide +kernel
theorem dX3_richestYear_8 : decode cX3_richestYear 8 = .ok (.invokevirtual 159, 3) := by decide +kernel
theorem dX3_richestYear_11 : decode cX3_richestYear 11 = .ok (.iconst 1, 1) := by decide +kernel
theorem dX3_richestYear_12 : decode cX3_richestYear 12 = .ok (.istore_n 3, 1) := by decide +kernel
theorem dX3_richestYear_13 : decode cX3_richestYear 13 = .ok (.iload_n 3, 1) := by decide +kernel
theorem dX3_richestYear_14 : decode cX3_richestYear 14 = .ok (.aload_n 0, 1) := by decide +kernel
theorem dX3_richestYear_15 : decode cX3_richestYear 15 = .ok (.getfield 22, 3) := by decide +kernel
theorem dX3_richestYear_18 : decode cX3_richestYear 18 = .ok (.invokevirtual 61, 3) := by decide +kernel
theorem dX3_richestYear_21 : decode cX3_richestYear 21 = .ok (.if_icmp .gt 43, 3) := by decide +kernel
theorem dX3_richestYear_24 : decode cX3_richestYear 24 = .ok (.aload_n 0, 1) := by decide +kernel
theorem dX3_richestYear_25 : decode cX3_richestYear 25 = .ok (.iload_n 3, 1) := by decide +kernel
theorem dX3_richestYear_26 : decode cX3_richestYear 26 = .ok (.invokevirtual 162, 3) := by decide +kernel
theorem dX3_richestYear_29 : decode cX3_richestYear 29 = .ok (.aload_n 0, 1) := by decide +kernel
theorem dX3_richestYear_30 : decode cX3_richestYear 30 = .ok (.iload_n 3, 1) := by decide +kernel
theorem dX3_richestYear_31 : decode cX3_richestYear 31 = .ok (.invokevirtual 144, 3) := by decide +kernel
theorem dX3_richestYear_34 : decode cX3_richestYear 34 = .ok (.ifCond .eq 24, 3) := by decide +kernel
theorem dX3_richestYear_37 : decode cX3_richestYear 37 = .ok (.aload_n 0, 1) := by decide +kernel
theorem dX3_richestYear_38 : decode cX3_richestYear 38 = .ok (.getfield 16, 3) := by decide +kernel
theorem dX3_richestYear_41 : decode cX3_richestYear 41 = .ok (.invokevirtual 120, 3) := by decide +kernel
theorem dX3_richestYear_44 : decode cX3_richestYear 44 = .ok (.iload_n 2, 1) := by decide +kernel
theorem dX3_richestYear_45 : decode cX3_richestYear 45 = .ok (.if_icmp .le 13, 3) := by decide +kernel
theorem dX3_richestYear_48 : decode cX3_richestYear 48 = .ok (.iload_n 3, 1) := by decide +kernel
theorem dX3_richestYear_49 : decode cX3_richestYear 49 = .ok (.istore_n 1, 1) := by decide +kernel
theorem dX3_richestYear_50 : decode cX3_richestYear 50 = .ok (.aload_n 0, 1) := by decide +kernel
theorem dX3_richestYear_51 : decode cX3_richestYear 51 = .ok (.getfield 16, 3) := by decide +kernel
theorem dX3_richestYear_54 : decode cX3_richestYear 54 = .ok (.invokevirtual 120, 3) := by decide +kernel
theorem dX3_richestYear_57 : decode cX3_richestYear 57 = .ok (.istore_n 2, 1) := by decide +kernel
theorem dX3_richestYear_58 : decode cX3_richestYear 58 = .ok (.iinc 3 1, 3) := by decide +kernel
theorem dX3_richestYear_61 : decode cX3_richestYear 61 = .ok (.goto (-48), 3) := by decide +kernel
theorem dX3_richestYear_64 : decode cX3_richestYear 64 = .ok (.iload_n 1, 1) := by decide +kernel
theorem dX3_richestYear_65 : decode cX3_richestYear 65 = .ok (.ireturn, 1) := by decide +kernel
set_option maxRecDepth 20000 in
theorem ggX3_bestCore_X0_count : GoodIn wsX3_bestCore wsX0_count := goodIn_r _ [6, 7, 67, 68, 69, 70, 71, 72, 73] (by decide +kernel) (by decide +kernel)
set_option maxRecDepth 20000 in
theorem gX3_bestCore_X0_count : GoodIn wsX3_bestCore (wsV RX3 61 RX0 yX0_count wsX0_count) := goodIn_app (goodIn_of _ (by decide +kernel)) ggX3_bestCore_X0_count
set_option maxRecDepth 20000 in
theorem ggX3_bestCore_X3_sparedByCore : GoodIn wsX3_bestCore wsX3_sparedByCore := goodIn_r _ [12, 13, 1, 14, 15, 16, 11, 17, 18, 19, 20, 21, 22, 23, 24, 25, 26, 27, 28, 29, 30, 31, 32, 33, 34, 35, 36, 37, 38, 39, 40, 41, 42, 43, 44, 5, 45, 46, 2, 3, 4, 6, 7, 47, 48, 49, 50, 51, 52, 53, 54, 55, 56, 57, 58, 59, 60, 61, 62, 63, 64, 65, 66, 74, 75, 76, 67, 68, 69, 70, 71, 72, 73] (by decide +kernel) (by decide +kernel)
set_option maxRecDepth 20000 in
theorem gX3_bestCore_X3_sparedByCore : GoodIn wsX3_bestCore (wsV RX3 174 RX3 yX3_sparedByCore wsX3_sparedByCore) := goodIn_app (goodIn_of _ (by decide +kernel)) ggX3_bestCore_X3_sparedByCore
theorem dX3_bestCore_0 : decode cX3_bestCore 0 = .ok (.iconst (-1), 1) := by decide +kernel
theorem dX3_bestCore_1 : decode cX3_bestCore 1 = .ok (.istore_n 1, 1) := by decide +kernel
theorem dX3_bestCore_2 : decode cX3_bestCore 2 = .ok (.iconst 0, 1) := by decide +kernel
theorem dX3_bestCore_3 : decode cX3_bestCore 3 = .ok (.istore_n 2, 1) := by decide +kernel
theorem dX3_bestCore_4 : decode cX3_bestCore 4 = .ok (.iconst 0, 1) := by decide +kernel
theorem dX3_bestCore_5 : decode cX3_bestCore 5 = .ok (.istore_n 3, 1) := by decide +kernel
theorem dX3_bestCore_6 : decode cX3_bestCore 6 = .ok (.iload_n 3, 1) := by decide +kernel
theorem dX3_bestCore_7 : decode cX3_bestCore 7 = .ok (.aload_n 0, 1) := by decide +kernel
theorem dX3_bestCore_8 : decode cX3_bestCore 8 = .ok (.getfield 22, 3) := by decide +kernel
theorem dX3_bestCore_11 : decode cX3_bestCore 11 = .ok (.invokevirtual 61, 3) := by decide +kernel
theorem dX3_bestCore_14 : decode cX3_bestCore 14 = .ok (.if_icmp .gt 27, 3) := by decide +kernel
theorem dX3_bestCore_17 : decode cX3_bestCore 17 = .ok (.aload_n 0, 1) := by decide +kernel
theorem dX3_bestCore_18 : decode cX3_bestCore 18 = .ok (.iload_n 3, 1) := by decide +kernel
theorem dX3_bestCore_19 : decode cX3_bestCore 19 = .ok (.invokevirtual 174, 3) := by decide +kernel
theorem dX3_bestCore_22 : decode cX3_bestCore 22 = .ok (.istore 4, 2) := by decide +kernel
theorem dX3_bestCore_24 : decode cX3_bestCore 24 = .ok (.iload 4, 2) := by decide +kernel
theorem dX3_bestCore_26 : decode cX3_bestCore 26 = .ok (.iload_n 2, 1) := by decide +kernel
theorem dX3_bestCore_27 : decode cX3_bestCore 27 = .ok (.if_icmp .le 8, 3) := by decide +kernel
theorem dX3_bestCore_30 : decode cX3_bestCore 30 = .ok (.iload_n 3, 1) := by decide +kernel
theorem dX3_bestCore_31 : decode cX3_bestCore 31 = .ok (.istore_n 1, 1) := by decide +kernel
theorem dX3_bestCore_32 : decode cX3_bestCore 32 = .ok (.iload 4, 2) := by decide +kernel
theorem dX3_bestCore_34 : decode cX3_bestCore 34 = .ok (.istore_n 2, 1) := by decide +kernel
theorem dX3_bestCore_35 : decode cX3_bestCore 35 = .ok (.iinc 3 1, 3) := by decide +kernel
theorem dX3_bestCore_38 : decode cX3_bestCore 38 = .ok (.goto (-32), 3) := by decide +kernel
theorem dX3_bestCore_41 : decode cX3_bestCore 41 = .ok (.iload_n 1, 1) := by decide +kernel
theorem dX3_bestCore_42 : decode cX3_bestCore 42 = .ok (.ireturn, 1) := by decide +kernel
set_option maxRecDepth 20000 in
theorem ggX3_meanIce_X2_total : GoodIn wsX3_meanIce wsX2_total := goodIn_r _ [7, 8, 13] (by decide +kernel) (by decide +kernel)
set_option maxRecDepth 20000 in
theorem gX3_meanIce_X2_total : GoodIn wsX3_meanIce (wsV RX3 120 RX2 yX2_total wsX2_total) := goodIn_app (goodIn_of _ (by decide +kernel)) ggX3_meanIce_X2_total
theorem dX3_meanIce_0 : decode cX3_meanIce 0 = .ok (.aload_n 0, 1) := by decide +kernel
theorem dX3_meanIce_1 : decode cX3_meanIce 1 = .ok (.getfield 10, 3) := by decide +kernel
theorem dX3_meanIce_4 : decode cX3_meanIce 4 = .ok (.invokevirtual 120, 3) := by decide +kernel
theorem dX3_meanIce_7 : decode cX3_meanIce 7 = .ok (.i2d, 1) := by decide +kernel
theorem dX3_meanIce_8 : decode cX3_meanIce 8 = .ok (.ldc2_w 177, 3) := by decide +kernel
theorem dX3_meanIce_11 : decode cX3_meanIce 11 = .ok (.ddiv, 1) := by decide +kernel
theorem dX3_meanIce_12 : decode cX3_meanIce 12 = .ok (.dreturn, 1) := by decide +kernel
theorem dX3_requirePlace_0 : decode cX3_requirePlace 0 = .ok (.iload_n 0, 1) := by decide +kernel
theorem dX3_requirePlace_1 : decode cX3_requirePlace 1 = .ok (.ifCond .lt 9, 3) := by decide +kernel
theorem dX3_requirePlace_4 : decode cX3_requirePlace 4 = .ok (.iload_n 0, 1) := by decide +kernel
theorem dX3_requirePlace_5 : decode cX3_requirePlace 5 = .ok (.bipush 8, 2) := by decide +kernel
theorem dX3_requirePlace_7 : decode cX3_requirePlace 7 = .ok (.if_icmp .lt 13, 3) := by decide +kernel
theorem dX3_requirePlace_10 : decode cX3_requirePlace 10 = .ok (.new 90, 3) := by decide +kernel
theorem dX3_requirePlace_13 : decode cX3_requirePlace 13 = .ok (.dup, 1) := by decide +kernel
theorem dX3_requirePlace_14 : decode cX3_requirePlace 14 = .ok (.ldc 217, 2) := by decide +kernel
theorem dX3_requirePlace_16 : decode cX3_requirePlace 16 = .ok (.invokespecial 94, 3) := by decide +kernel
theorem dX3_requirePlace_19 : decode cX3_requirePlace 19 = .ok (.athrow, 1) := by decide +kernel
theorem dX3_requirePlace_20 : decode cX3_requirePlace 20 = .ok (.return_, 1) := by decide +kernel
theorem dX3_requireAmount_0 : decode cX3_requireAmount 0 = .ok (.iload_n 0, 1) := by decide +kernel
theorem dX3_requireAmount_1 : decode cX3_requireAmount 1 = .ok (.iconst 1, 1) := by decide +kernel
theorem dX3_requireAmount_2 : decode cX3_requireAmount 2 = .ok (.if_icmp .lt 9, 3) := by decide +kernel
theorem dX3_requireAmount_5 : decode cX3_requireAmount 5 = .ok (.iload_n 0, 1) := by decide +kernel
theorem dX3_requireAmount_6 : decode cX3_requireAmount 6 = .ok (.bipush 99, 2) := by decide +kernel
theorem dX3_requireAmount_8 : decode cX3_requireAmount 8 = .ok (.if_icmp .le 13, 3) := by decide +kernel
theorem dX3_requireAmount_11 : decode cX3_requireAmount 11 = .ok (.new 69, 3) := by decide +kernel
theorem dX3_requireAmount_14 : decode cX3_requireAmount 14 = .ok (.dup, 1) := by decide +kernel
theorem dX3_requireAmount_15 : decode cX3_requireAmount 15 = .ok (.ldc 219, 2) := by decide +kernel
theorem dX3_requireAmount_17 : decode cX3_requireAmount 17 = .ok (.invokespecial 73, 3) := by decide +kernel
theorem dX3_requireAmount_20 : decode cX3_requireAmount 20 = .ok (.athrow, 1) := by decide +kernel
theorem dX3_requireAmount_21 : decode cX3_requireAmount 21 = .ok (.return_, 1) := by decide +kernel
set_option maxRecDepth 20000 in
theorem ggX3_requireRoomForDeed_X0_hasRoomForDeed : GoodIn wsX3_requireRoomForDeed wsX0_hasRoomForDeed := goodIn_r _ [8, 9, 10, 11, 12, 7, 13, 14, 15, 16, 17, 18, 19, 20, 21, 26, 27, 28, 29, 30, 31, 32] (by decide +kernel) (by decide +kernel)
set_option maxRecDepth 20000 in
theorem gX3_requireRoomForDeed_X0_hasRoomForDeed : GoodIn wsX3_requireRoomForDeed (wsV RX3 221 RX0 yX0_hasRoomForDeed wsX0_hasRoomForDeed) := goodIn_app (goodIn_of _ (by decide +kernel)) ggX3_requireRoomForDeed_X0_hasRoomForDeed
theorem dX3_requireRoomForDeed_0 : decode cX3_requireRoomForDeed 0 = .ok (.aload_n 0, 1) := by decide +kernel
theorem dX3_requireRoomForDeed_1 : decode cX3_requireRoomForDeed 1 = .ok (.getfield 22, 3) := by decide +kernel
theorem dX3_requireRoomForDeed_4 : decode cX3_requireRoomForDeed 4 = .ok (.invokevirtual 221, 3) := by decide +kernel
theorem dX3_requireRoomForDeed_7 : decode cX3_requireRoomForDeed 7 = .ok (.ifCond .ne 13, 3) := by decide +kernel
theorem dX3_requireRoomForDeed_10 : decode cX3_requireRoomForDeed 10 = .ok (.new 51, 3) := by decide +kernel
theorem dX3_requireRoomForDeed_13 : decode cX3_requireRoomForDeed 13 = .ok (.dup, 1) := by decide +kernel
theorem dX3_requireRoomForDeed_14 : decode cX3_requireRoomForDeed 14 = .ok (.ldc 224, 2) := by decide +kernel
theorem dX3_requireRoomForDeed_16 : decode cX3_requireRoomForDeed 16 = .ok (.invokespecial 55, 3) := by decide +kernel
theorem dX3_requireRoomForDeed_19 : decode cX3_requireRoomForDeed 19 = .ok (.athrow, 1) := by decide +kernel
theorem dX3_requireRoomForDeed_20 : decode cX3_requireRoomForDeed 20 = .ok (.return_, 1) := by decide +kernel
set_option maxRecDepth 20000 in
theorem ggX3_requireLayer_X0_count : GoodIn wsX3_requireLayer wsX0_count := goodIn_r _ [8, 9, 14, 15, 16, 17, 18, 19, 20] (by decide +kernel) (by decide +kernel)
set_option maxRecDepth 20000 in
theorem gX3_requireLayer_X0_count : GoodIn wsX3_requireLayer (wsV RX3 61 RX0 yX0_count wsX0_count) := goodIn_app (goodIn_of _ (by decide +kernel)) ggX3_requireLayer_X0_count
theorem dX3_requireLayer_0 : decode cX3_requireLayer 0 = .ok (.iload_n 1, 1) := by decide +kernel
theorem dX3_requireLayer_1 : decode cX3_requireLayer 1 = .ok (.ifCond .lt 14, 3) := by decide +kernel
theorem dX3_requireLayer_4 : decode cX3_requireLayer 4 = .ok (.iload_n 1, 1) := by decide +kernel
theorem dX3_requireLayer_5 : decode cX3_requireLayer 5 = .ok (.aload_n 0, 1) := by decide +kernel
theorem dX3_requireLayer_6 : decode cX3_requireLayer 6 = .ok (.getfield 22, 3) := by decide +kernel
theorem dX3_requireLayer_9 : decode cX3_requireLayer 9 = .ok (.invokevirtual 61, 3) := by decide +kernel
theorem dX3_requireLayer_12 : decode cX3_requireLayer 12 = .ok (.if_icmp .lt 13, 3) := by decide +kernel
theorem dX3_requireLayer_15 : decode cX3_requireLayer 15 = .ok (.new 90, 3) := by decide +kernel
theorem dX3_requireLayer_18 : decode cX3_requireLayer 18 = .ok (.dup, 1) := by decide +kernel
theorem dX3_requireLayer_19 : decode cX3_requireLayer 19 = .ok (.ldc 226, 2) := by decide +kernel
theorem dX3_requireLayer_21 : decode cX3_requireLayer 21 = .ok (.invokespecial 94, 3) := by decide +kernel
theorem dX3_requireLayer_24 : decode cX3_requireLayer 24 = .ok (.athrow, 1) := by decide +kernel
theorem dX3_requireLayer_25 : decode cX3_requireLayer 25 = .ok (.return_, 1) := by decide +kernel
set_option maxRecDepth 20000 in
theorem ggX3_requireCore_X1_count : GoodIn wsX3_requireCore wsX1_count := goodIn_r _ [8, 9, 14, 15, 16] (by decide +kernel) (by decide +kernel)
set_option maxRecDepth 20000 in
theorem gX3_requireCore_X1_count : GoodIn wsX3_requireCore (wsV RX3 116 RX1 yX1_count wsX1_count) := goodIn_app (goodIn_of _ (by decide +kernel)) ggX3_requireCore_X1_count
theorem dX3_requireCore_0 : decode cX3_requireCore 0 = .ok (.iload_n 1, 1) := by decide +kernel
theorem dX3_requireCore_1 : decode cX3_requireCore 1 = .ok (.ifCond .lt 14, 3) := by decide +kernel
theorem dX3_requireCore_4 : decode cX3_requireCore 4 = .ok (.iload_n 1, 1) := by decide +kernel
theorem dX3_requireCore_5 : decode cX3_requireCore 5 = .ok (.aload_n 0, 1) := by decide +kernel
theorem dX3_requireCore_6 : decode cX3_requireCore 6 = .ok (.getfield 29, 3) := by decide +kernel
theorem dX3_requireCore_9 : decode cX3_requireCore 9 = .ok (.invokevirtual 116, 3) := by decide +kernel
theorem dX3_requireCore_12 : decode cX3_requireCore 12 = .ok (.if_icmp .lt 13, 3) := by decide +kernel
theorem dX3_requireCore_15 : decode cX3_requireCore 15 = .ok (.new 90, 3) := by decide +kernel
theorem dX3_requireCore_18 : decode cX3_requireCore 18 = .ok (.dup, 1) := by decide +kernel
theorem dX3_requireCore_19 : decode cX3_requireCore 19 = .ok (.ldc 228, 2) := by decide +kernel
theorem dX3_requireCore_21 : decode cX3_requireCore 21 = .ok (.invokespecial 94, 3) := by decide +kernel
theorem dX3_requireCore_24 : decode cX3_requireCore 24 = .ok (.athrow, 1) := by decide +kernel
theorem dX3_requireCore_25 : decode cX3_requireCore 25 = .ok (.return_, 1) := by decide +kernel
set_option maxRecDepth 20000 in
theorem ggX3_requireYear_X0_count : GoodIn wsX3_requireYear wsX0_count := goodIn_r _ [8, 9, 14, 15, 16, 17, 18, 19, 20] (by decide +kernel) (by decide +kernel)
set_option maxRecDepth 20000 in
theorem gX3_requireYear_X0_count : GoodIn wsX3_requireYear (wsV RX3 61 RX0 yX0_count wsX0_count) := goodIn_app (goodIn_of _ (by decide +kernel)) ggX3_requireYear_X0_count
theorem dX3_requireYear_0 : decode cX3_requireYear 0 = .ok (.iload_n 1, 1) := by decide +kernel
theorem dX3_requireYear_1 : decode cX3_requireYear 1 = .ok (.ifCond .lt 14, 3) := by decide +kernel
theorem dX3_requireYear_4 : decode cX3_requireYear 4 = .ok (.iload_n 1, 1) := by decide +kernel
theorem dX3_requireYear_5 : decode cX3_requireYear 5 = .ok (.aload_n 0, 1) := by decide +kernel
theorem dX3_requireYear_6 : decode cX3_requireYear 6 = .ok (.getfield 22, 3) := by decide +kernel
theorem dX3_requireYear_9 : decode cX3_requireYear 9 = .ok (.invokevirtual 61, 3) := by decide +kernel
theorem dX3_requireYear_12 : decode cX3_requireYear 12 = .ok (.if_icmp .le 13, 3) := by decide +kernel
theorem dX3_requireYear_15 : decode cX3_requireYear 15 = .ok (.new 69, 3) := by decide +kernel
theorem dX3_requireYear_18 : decode cX3_requireYear 18 = .ok (.dup, 1) := by decide +kernel
theorem dX3_requireYear_19 : decode cX3_requireYear 19 = .ok (.ldc 230, 2) := by decide +kernel
theorem dX3_requireYear_21 : decode cX3_requireYear 21 = .ok (.invokespecial 73, 3) := by decide +kernel
theorem dX3_requireYear_24 : decode cX3_requireYear 24 = .ok (.athrow, 1) := by decide +kernel
theorem dX3_requireYear_25 : decode cX3_requireYear 25 = .ok (.return_, 1) := by decide +kernel
set_option maxRecDepth 20000 in
theorem ggX3_requireReplayable_X3_isReplayable : GoodIn wsX3_requireReplayable wsX3_isReplayable := goodIn_r _ [7, 8, 9, 10, 11, 6, 12, 13, 14, 15, 16, 17, 18, 19, 20, 21, 22, 23, 24, 25, 26, 27, 28, 29, 30, 31, 32, 33, 34, 35, 36, 37, 38, 39, 40, 41, 42, 43, 44, 45, 46, 47, 48, 49, 50, 51, 52, 53] (by decide +kernel) (by decide +kernel)
set_option maxRecDepth 20000 in
theorem gX3_requireReplayable_X3_isReplayable : GoodIn wsX3_requireReplayable (wsV RX3 144 RX3 yX3_isReplayable wsX3_isReplayable) := goodIn_app (goodIn_of _ (by decide +kernel)) ggX3_requireReplayable_X3_isReplayable
theorem dX3_requireReplayable_0 : decode cX3_requireReplayable 0 = .ok (.aload_n 0, 1) := by decide +kernel
theorem dX3_requireReplayable_1 : decode cX3_requireReplayable 1 = .ok (.iload_n 1, 1) := by decide +kernel
theorem dX3_requireReplayable_2 : decode cX3_requireReplayable 2 = .ok (.invokevirtual 144, 3) := by decide +kernel
theorem dX3_requireReplayable_5 : decode cX3_requireReplayable 5 = .ok (.ifCond .ne 13, 3) := by decide +kernel
theorem dX3_requireReplayable_8 : decode cX3_requireReplayable 8 = .ok (.new 51, 3) := by decide +kernel
theorem dX3_requireReplayable_11 : decode cX3_requireReplayable 11 = .ok (.dup, 1) := by decide +kernel
theorem dX3_requireReplayable_12 : decode cX3_requireReplayable 12 = .ok (.ldc 232, 2) := by decide +kernel
theorem dX3_requireReplayable_14 : decode cX3_requireReplayable 14 = .ok (.invokespecial 55, 3) := by decide +kernel
theorem dX3_requireReplayable_17 : decode cX3_requireReplayable 17 = .ok (.athrow, 1) := by decide +kernel
theorem dX3_requireReplayable_18 : decode cX3_requireReplayable 18 = .ok (.return_, 1) := by decide +kernel
set_option maxRecDepth 20000 in
theorem ggX3_act_X0_note : GoodIn wsX3_act wsX0_note := goodIn_r _ [7, 8, 9, 10, 11, 12, 13, 14, 6, 15, 16, 17, 18, 19, 20, 21, 22, 23, 24, 25, 26, 27, 28, 29, 30, 64, 65, 66, 67, 68, 69, 70] (by decide +kernel) (by decide +kernel)
set_option maxRecDepth 20000 in
theorem gX3_act_X0_note : GoodIn wsX3_act (wsV RX3 234 RX0 yX0_note wsX0_note) := goodIn_app (goodIn_of _ (by decide +kernel)) ggX3_act_X0_note
set_option maxRecDepth 20000 in
theorem ggX3_act_X2_perform : GoodIn wsX3_act wsX2_perform := goodIn_r _ [35, 36, 37, 38, 39, 40, 41, 42, 43, 44, 45, 34, 46, 47, 48, 49, 50, 51, 52, 53, 54, 55, 56, 57, 58, 71] (by decide +kernel) (by decide +kernel)
set_option maxRecDepth 20000 in
theorem gX3_act_X2_perform : GoodIn wsX3_act (wsV RX3 238 RX2 yX2_perform wsX2_perform) := goodIn_app (goodIn_of _ (by decide +kernel)) ggX3_act_X2_perform
set_option maxRecDepth 20000 in
theorem ggX3_act_X2_heightAt : GoodIn wsX3_act wsX2_heightAt := goodIn_r _ [46, 47, 48, 49, 34, 50, 71] (by decide +kernel) (by decide +kernel)
set_option maxRecDepth 20000 in
theorem gX3_act_X2_heightAt : GoodIn wsX3_act (wsV RX3 117 RX2 yX2_heightAt wsX2_heightAt) := goodIn_app (goodIn_of _ (by decide +kernel)) ggX3_act_X2_heightAt
theorem dX3_act_0 : decode cX3_act 0 = .ok (.aload_n 0, 1) := by decide +kernel
theorem dX3_act_1 : decode cX3_act 1 = .ok (.getfield 22, 3) := by decide +kernel
theorem dX3_act_4 : decode cX3_act 4 = .ok (.iload_n 1, 1) := by decide +kernel
theorem dX3_act_5 : decode cX3_act 5 = .ok (.iload_n 2, 1) := by decide +kernel
theorem dX3_act_6 : decode cX3_act 6 = .ok (.iload_n 3, 1) := by decide +kernel
theorem dX3_act_7 : decode cX3_act 7 = .ok (.invokevirtual 234, 3) := by decide +kernel
theorem dX3_act_10 : decode cX3_act 10 = .ok (.aload_n 0, 1) := by decide +kernel
theorem dX3_act_11 : decode cX3_act 11 = .ok (.getfield 10, 3) := by decide +kernel
theorem dX3_act_14 : decode cX3_act 14 = .ok (.iload_n 1, 1) := by decide +kernel
theorem dX3_act_15 : decode cX3_act 15 = .ok (.iload_n 2, 1) := by decide +kernel
theorem dX3_act_16 : decode cX3_act 16 = .ok (.iload_n 3, 1) := by decide +kernel
theorem dX3_act_17 : decode cX3_act 17 = .ok (.invokevirtual 238, 3) := by decide +kernel
theorem dX3_act_20 : decode cX3_act 20 = .ok (.aload_n 0, 1) := by decide +kernel
theorem dX3_act_21 : decode cX3_act 21 = .ok (.getfield 10, 3) := by decide +kernel
theorem dX3_act_24 : decode cX3_act 24 = .ok (.iload_n 2, 1) := by decide +kernel
theorem dX3_act_25 : decode cX3_act 25 = .ok (.invokevirtual 117, 3) := by decide +kernel
theorem dX3_act_28 : decode cX3_act 28 = .ok (.ireturn, 1) := by decide +kernel
set_option maxRecDepth 20000 in
theorem ggX3_firstLayerAgain_X1_latestUpTo : GoodIn wsX3_firstLayerAgain wsX1_latestUpTo := goodIn_r _ [10, 11, 12, 13, 14, 9, 15, 16, 17, 18, 19, 20, 26, 27, 28] (by decide +kernel) (by decide +kernel)
set_option maxRecDepth 20000 in
theorem gX3_firstLayerAgain_X1_latestUpTo : GoodIn wsX3_firstLayerAgain (wsV RX3 147 RX1 yX1_latestUpTo wsX1_latestUpTo) := goodIn_app (goodIn_of _ (by decide +kernel)) ggX3_firstLayerAgain_X1_latestUpTo
set_option maxRecDepth 20000 in
theorem ggX3_firstLayerAgain_X1_yearAt : GoodIn wsX3_firstLayerAgain wsX1_yearAt := goodIn_r _ [15, 16, 17, 18, 19, 9, 20, 11, 26, 27, 28] (by decide +kernel) (by decide +kernel)
set_option maxRecDepth 20000 in
theorem gX3_firstLayerAgain_X1_yearAt : GoodIn wsX3_firstLayerAgain (wsV RX3 135 RX1 yX1_yearAt wsX1_yearAt) := goodIn_app (goodIn_of _ (by decide +kernel)) ggX3_firstLayerAgain_X1_yearAt
theorem dX3_firstLayerAgain_0 : decode cX3_firstLayerAgain 0 = .ok (.iconst 0, 1) := by decide +kernel
theorem dX3_firstLayerAgain_1 : decode cX3_firstLayerAgain 1 = .ok (.aload_n 0, 1) := by decide +kernel
theorem dX3_firstLayerAgain_2 : decode cX3_firstLayerAgain 2 = .ok (.getfield 29, 3) := by decide +kernel
theorem dX3_firstLayerAgain_5 : decode cX3_firstLayerAgain 5 = .ok (.aload_n 0, 1) := by decide +kernel
theorem dX3_firstLayerAgain_6 : decode cX3_firstLayerAgain 6 = .ok (.getfield 29, 3) := by decide +kernel
theorem dX3_firstLayerAgain_9 : decode cX3_firstLayerAgain 9 = .ok (.iload_n 1, 1) := by decide +kernel
theorem dX3_firstLayerAgain_10 : decode cX3_firstLayerAgain 10 = .ok (.invokevirtual 147, 3) := by decide +kernel
theorem dX3_firstLayerAgain_13 : decode cX3_firstLayerAgain 13 = .ok (.invokevirtual 135, 3) := by decide +kernel
theorem dX3_firstLayerAgain_16 : decode cX3_firstLayerAgain 16 = .ok (.invokestatic 241, 3) := by decide +kernel
theorem dX3_firstLayerAgain_19 : decode cX3_firstLayerAgain 19 = .ok (.ireturn, 1) := by decide +kernel
set_option maxRecDepth 20000 in
theorem ggX3_isReplayable_X3_firstLayerAgain : GoodIn wsX3_isReplayable wsX3_firstLayerAgain := goodIn_r _ [6, 7, 8, 9, 10, 11, 12, 13, 14, 15, 16, 17, 18, 19, 20, 21, 22, 23, 24, 25, 26, 27, 34, 35, 36, 37, 38, 39, 40] (by decide +kernel) (by decide +kernel)
set_option maxRecDepth 20000 in
theorem gX3_isReplayable_X3_firstLayerAgain : GoodIn wsX3_isReplayable (wsV RX3 246 RX3 yX3_firstLayerAgain wsX3_firstLayerAgain) := goodIn_app (goodIn_of _ (by decide +kernel)) ggX3_isReplayable_X3_firstLayerAgain
set_option maxRecDepth 20000 in
theorem ggX3_isReplayable_X0_isForgotten : GoodIn wsX3_isReplayable wsX0_isForgotten := goodIn_r _ [32, 33, 41, 42, 43, 44, 45, 46, 47] (by decide +kernel) (by decide +kernel)
set_option maxRecDepth 20000 in
theorem gX3_isReplayable_X0_isForgotten : GoodIn wsX3_isReplayable (wsV RX3 107 RX0 yX0_isForgotten wsX0_isForgotten) := goodIn_app (goodIn_of _ (by decide +kernel)) ggX3_isReplayable_X0_isForgotten
theorem dX3_isReplayable_0 : decode cX3_isReplayable 0 = .ok (.aload_n 0, 1) := by decide +kernel
theorem dX3_isReplayable_1 : decode cX3_isReplayable 1 = .ok (.iload_n 1, 1) := by decide +kernel
theorem dX3_isReplayable_2 : decode cX3_isReplayable 2 = .ok (.invokevirtual 246, 3) := by decide +kernel
theorem dX3_isReplayable_5 : decode cX3_isReplayable 5 = .ok (.istore_n 2, 1) := by decide +kernel
theorem dX3_isReplayable_6 : decode cX3_isReplayable 6 = .ok (.iload_n 2, 1) := by decide +kernel
theorem dX3_isReplayable_7 : decode cX3_isReplayable 7 = .ok (.iload_n 1, 1) := by decide +kernel
theorem dX3_isReplayable_8 : decode cX3_isReplayable 8 = .ok (.if_icmp .ge 14, 3) := by decide +kernel
theorem dX3_isReplayable_11 : decode cX3_isReplayable 11 = .ok (.aload_n 0, 1) := by decide +kernel
theorem dX3_isReplayable_12 : decode cX3_isReplayable 12 = .ok (.getfield 22, 3) := by decide +kernel
theorem dX3_isReplayable_15 : decode cX3_isReplayable 15 = .ok (.iload_n 2, 1) := by decide +kernel
theorem dX3_isReplayable_16 : decode cX3_isReplayable 16 = .ok (.invokevirtual 107, 3) := by decide +kernel
theorem dX3_isReplayable_19 : decode cX3_isReplayable 19 = .ok (.ifCond .ne 7, 3) := by decide +kernel
theorem dX3_isReplayable_22 : decode cX3_isReplayable 22 = .ok (.iconst 1, 1) := by decide +kernel
theorem dX3_isReplayable_23 : decode cX3_isReplayable 23 = .ok (.goto 4, 3) := by decide +kernel
theorem dX3_isReplayable_26 : decode cX3_isReplayable 26 = .ok (.iconst 0, 1) := by decide +kernel
theorem dX3_isReplayable_27 : decode cX3_isReplayable 27 = .ok (.ireturn, 1) := by decide +kernel
set_option maxRecDepth 20000 in
theorem ggX3_deedsAgain_X3_firstLayerAgain : GoodIn wsX3_deedsAgain wsX3_firstLayerAgain := goodIn_r _ [6, 7, 8, 9, 10, 11, 12, 13, 14, 15, 16, 17, 18, 19, 20, 21, 22, 23, 24, 25, 26, 27, 37, 38, 39, 40, 41, 42, 43] (by decide +kernel) (by decide +kernel)
set_option maxRecDepth 20000 in
theorem gX3_deedsAgain_X3_firstLayerAgain : GoodIn wsX3_deedsAgain (wsV RX3 246 RX3 yX3_firstLayerAgain wsX3_firstLayerAgain) := goodIn_app (goodIn_of _ (by decide +kernel)) ggX3_deedsAgain_X3_firstLayerAgain
set_option maxRecDepth 20000 in
theorem ggX3_deedsAgain_X0_deedsIn : GoodIn wsX3_deedsAgain wsX0_deedsIn := goodIn_r _ [32, 33, 34, 35, 31, 36, 44, 45, 46, 47, 48, 49, 50] (by decide +kernel) (by decide +kernel)
set_option maxRecDepth 20000 in
theorem gX3_deedsAgain_X0_deedsIn : GoodIn wsX3_deedsAgain (wsV RX3 123 RX0 yX0_deedsIn wsX0_deedsIn) := goodIn_app (goodIn_of _ (by decide +kernel)) ggX3_deedsAgain_X0_deedsIn
theorem dX3_deedsAgain_0 : decode cX3_deedsAgain 0 = .ok (.iconst 0, 1) := by decide +kernel
theorem dX3_deedsAgain_1 : decode cX3_deedsAgain 1 = .ok (.istore_n 2, 1) := by decide +kernel
theorem dX3_deedsAgain_2 : decode cX3_deedsAgain 2 = .ok (.aload_n 0, 1) := by decide +kernel
theorem dX3_deedsAgain_3 : decode cX3_deedsAgain 3 = .ok (.iload_n 1, 1) := by decide +kernel
theorem dX3_deedsAgain_4 : decode cX3_deedsAgain 4 = .ok (.invokevirtual 246, 3) := by decide +kernel
theorem dX3_deedsAgain_7 : decode cX3_deedsAgain 7 = .ok (.istore_n 3, 1) := by decide +kernel
theorem dX3_deedsAgain_8 : decode cX3_deedsAgain 8 = .ok (.iload_n 3, 1) := by decide +kernel
theorem dX3_deedsAgain_9 : decode cX3_deedsAgain 9 = .ok (.iload_n 1, 1) := by decide +kernel
theorem dX3_deedsAgain_10 : decode cX3_deedsAgain 10 = .ok (.if_icmp .ge 20, 3) := by decide +kernel
theorem dX3_deedsAgain_13 : decode cX3_deedsAgain 13 = .ok (.iload_n 2, 1) := by decide +kernel
theorem dX3_deedsAgain_14 : decode cX3_deedsAgain 14 = .ok (.aload_n 0, 1) := by decide +kernel
theorem dX3_deedsAgain_15 : decode cX3_deedsAgain 15 = .ok (.getfield 22, 3) := by decide +kernel
theorem dX3_deedsAgain_18 : decode cX3_deedsAgain 18 = .ok (.iload_n 3, 1) := by decide +kernel
theorem dX3_deedsAgain_19 : decode cX3_deedsAgain 19 = .ok (.invokevirtual 123, 3) := by decide +kernel
theorem dX3_deedsAgain_22 : decode cX3_deedsAgain 22 = .ok (.iadd, 1) := by decide +kernel
theorem dX3_deedsAgain_23 : decode cX3_deedsAgain 23 = .ok (.istore_n 2, 1) := by decide +kernel
theorem dX3_deedsAgain_24 : decode cX3_deedsAgain 24 = .ok (.iinc 3 1, 3) := by decide +kernel
theorem dX3_deedsAgain_27 : decode cX3_deedsAgain 27 = .ok (.goto (-19), 3) := by decide +kernel
theorem dX3_deedsAgain_30 : decode cX3_deedsAgain 30 = .ok (.iload_n 2, 1) := by decide +kernel
theorem dX3_deedsAgain_31 : decode cX3_deedsAgain 31 = .ok (.ireturn, 1) := by decide +kernel
set_option maxRecDepth 20000 in
theorem ggX3_replay_X1_latestUpTo : GoodIn wsX3_replay wsX1_latestUpTo := goodIn_r _ [8, 9, 10, 11, 12, 7, 13, 14, 15, 16, 17, 18, 107, 108, 109] (by decide +kernel) (by decide +kernel)
set_option maxRecDepth 20000 in
theorem gX3_replay_X1_latestUpTo : GoodIn wsX3_replay (wsV RX3 147 RX1 yX1_latestUpTo wsX1_latestUpTo) := goodIn_app (goodIn_of _ (by decide +kernel)) ggX3_replay_X1_latestUpTo
set_option maxRecDepth 20000 in
theorem ggX3_replay_X2_clear : GoodIn wsX3_replay wsX2_clear := goodIn_r _ [23, 24, 110] (by decide +kernel) (by decide +kernel)
set_option maxRecDepth 20000 in
theorem gX3_replay_X2_clear : GoodIn wsX3_replay (wsV RX3 159 RX2 yX2_clear wsX2_clear) := goodIn_app (goodIn_of _ (by decide +kernel)) ggX3_replay_X2_clear
set_option maxRecDepth 20000 in
theorem ggX3_replay_X1_putBack : GoodIn wsX3_replay wsX1_putBack := goodIn_r _ [28, 29, 30, 31, 7, 32, 33, 15, 16, 17, 18, 9, 34, 35, 36, 22, 37, 24, 38, 39, 40, 107, 108, 109, 110] (by decide +kernel) (by decide +kernel)
set_option maxRecDepth 20000 in
theorem gX3_replay_X1_putBack : GoodIn wsX3_replay (wsV RX3 249 RX1 yX1_putBack wsX1_putBack) := goodIn_app (goodIn_of _ (by decide +kernel)) ggX3_replay_X1_putBack
set_option maxRecDepth 20000 in
theorem ggX3_replay_X3_firstLayerAgain : GoodIn wsX3_replay wsX3_firstLayerAgain := goodIn_r _ [45, 1, 46, 47, 48, 49, 4, 5, 6, 7, 8, 9, 10, 11, 12, 13, 14, 15, 16, 17, 18, 50, 103, 104, 105, 106, 107, 108, 109] (by decide +kernel) (by decide +kernel)
set_option maxRecDepth 20000 in
theorem gX3_replay_X3_firstLayerAgain : GoodIn wsX3_replay (wsV RX3 246 RX3 yX3_firstLayerAgain wsX3_firstLayerAgain) := goodIn_app (goodIn_of _ (by decide +kernel)) ggX3_replay_X3_firstLayerAgain
set_option maxRecDepth 20000 in
theorem ggX3_replay_X0_doAgain : GoodIn wsX3_replay wsX0_doAgain := goodIn_r _ [55, 56, 57, 58, 54, 59, 60, 61, 62, 63, 64, 65, 66, 67, 68, 69, 70, 71, 72, 73, 74, 75, 76, 77, 78, 79, 80, 81, 82, 83, 84, 85, 86, 87, 88, 22, 89, 90, 91, 48, 92, 93, 47, 49, 94, 95, 96, 97, 24, 38, 39, 40, 98, 35, 36, 37, 99, 100, 101, 102, 111, 112, 113, 114, 115, 116, 117, 110] (by decide +kernel) (by decide +kernel)
set_option maxRecDepth 20000 in
theorem gX3_replay_X0_doAgain : GoodIn wsX3_replay (wsV RX3 171 RX0 yX0_doAgain wsX0_doAgain) := goodIn_app (goodIn_of _ (by decide +kernel)) ggX3_replay_X0_doAgain
theorem dX3_replay_0 : decode cX3_replay 0 = .ok (.aload_n 0, 1) := by decide +kernel
theorem dX3_replay_1 : decode cX3_replay 1 = .ok (.getfield 29, 3) := by decide +kernel
theorem dX3_replay_4 : decode cX3_replay 4 = .ok (.iload_n 1, 1) := by decide +kernel
theorem dX3_replay_5 : decode cX3_replay 5 = .ok (.invokevirtual 147, 3) := by decide +kernel
theorem dX3_replay_8 : decode cX3_replay 8 = .ok (.istore_n 2, 1) := by decide +kernel
theorem dX3_replay_9 : decode cX3_replay 9 = .ok (.iload_n 2, 1) := by decide +kernel
theorem dX3_replay_10 : decode cX3_replay 10 = .ok (.iconst (-1), 1) := by decide +kernel
theorem dX3_replay_11 : decode cX3_replay 11 = .ok (.if_icmp .ne 13, 3) := by decide +kernel
theorem dX3_replay_14 : decode cX3_replay 14 = .ok (.aload_n 0, 1) := by decide +kernel
theorem dX3_replay_15 : decode cX3_replay 15 = .ok (.getfield 16, 3) := by decide +kernel
theorem dX3_replay_18 : decode cX3_replay 18 = .ok (.invokevirtual 159, 3) := by decide +kernel
theorem dX3_replay_21 : decode cX3_replay 21 = .ok (.goto 15, 3) := by decide +kernel
theorem dX3_replay_24 : decode cX3_replay 24 = .ok (.aload_n 0, 1) := by decide +kernel
theorem dX3_replay_25 : decode cX3_replay 25 = .ok (.getfield 29, 3) := by decide +kernel
theorem dX3_replay_28 : decode cX3_replay 28 = .ok (.iload_n 2, 1) := by decide +kernel
theorem dX3_replay_29 : decode cX3_replay 29 = .ok (.aload_n 0, 1) := by decide +kernel
theorem dX3_replay_30 : decode cX3_replay 30 = .ok (.getfield 16, 3) := by decide +kernel
theorem dX3_replay_33 : decode cX3_replay 33 = .ok (.invokevirtual 249, 3) := by decide +kernel
theorem dX3_replay_36 : decode cX3_replay 36 = .ok (.aload_n 0, 1) := by decide +kernel
theorem dX3_replay_37 : decode cX3_replay 37 = .ok (.iload_n 1, 1) := by decide +kernel
theorem dX3_replay_38 : decode cX3_replay 38 = .ok (.invokevirtual 246, 3) := by decide +kernel
theorem dX3_replay_41 : decode cX3_replay 41 = .ok (.istore_n 3, 1) := by decide +kernel
theorem dX3_replay_42 : decode cX3_replay 42 = .ok (.iload_n 3, 1) := by decide +kernel
theorem dX3_replay_43 : decode cX3_replay 43 = .ok (.iload_n 1, 1) := by decide +kernel
theorem dX3_replay_44 : decode cX3_replay 44 = .ok (.if_icmp .ge 21, 3) := by decide +kernel
theorem dX3_replay_47 : decode cX3_replay 47 = .ok (.aload_n 0, 1) := by decide +kernel
theorem dX3_replay_48 : decode cX3_replay 48 = .ok (.getfield 22, 3) := by decide +kernel
theorem dX3_replay_51 : decode cX3_replay 51 = .ok (.iload_n 3, 1) := by decide +kernel
theorem dX3_replay_52 : decode cX3_replay 52 = .ok (.aload_n 0, 1) := by decide +kernel
theorem dX3_replay_53 : decode cX3_replay 53 = .ok (.getfield 16, 3) := by decide +kernel
theorem dX3_replay_56 : decode cX3_replay 56 = .ok (.invokevirtual 171, 3) := by decide +kernel
theorem dX3_replay_59 : decode cX3_replay 59 = .ok (.iinc 3 1, 3) := by decide +kernel
theorem dX3_replay_62 : decode cX3_replay 62 = .ok (.goto (-20), 3) := by decide +kernel
theorem dX3_replay_65 : decode cX3_replay 65 = .ok (.return_, 1) := by decide +kernel
set_option maxRecDepth 20000 in
theorem ggX3_stepInto_X1_find : GoodIn wsX3_stepInto wsX1_find := goodIn_r _ [8, 9, 10, 11, 7, 12, 13, 14, 15, 16, 17, 18, 19, 20, 21, 22, 100, 101, 102] (by decide +kernel) (by decide +kernel)
set_option maxRecDepth 20000 in
theorem gX3_stepInto_X1_find : GoodIn wsX3_stepInto (wsV RX3 74 RX1 yX1_find wsX1_find) := goodIn_app (goodIn_of _ (by decide +kernel)) ggX3_stepInto_X1_find
set_option maxRecDepth 20000 in
theorem ggX3_stepInto_X0_doAgain : GoodIn wsX3_stepInto wsX0_doAgain := goodIn_r _ [27, 28, 29, 30, 26, 31, 32, 33, 34, 35, 36, 37, 38, 39, 40, 41, 42, 43, 44, 45, 46, 47, 48, 49, 50, 51, 52, 53, 54, 55, 56, 57, 58, 59, 60, 61, 62, 63, 64, 65, 66, 67, 68, 69, 70, 71, 72, 73, 74, 75, 76, 77, 78, 79, 80, 81, 82, 83, 84, 85, 103, 104, 105, 106, 107, 108, 109, 110] (by decide +kernel) (by decide +kernel)
set_option maxRecDepth 20000 in
theorem gX3_stepInto_X0_doAgain : GoodIn wsX3_stepInto (wsV RX3 171 RX0 yX0_doAgain wsX0_doAgain) := goodIn_app (goodIn_of _ (by decide +kernel)) ggX3_stepInto_X0_doAgain
set_option maxRecDepth 20000 in
theorem ggX3_stepInto_X1_putBack : GoodIn wsX3_stepInto wsX1_putBack := goodIn_r _ [89, 90, 91, 92, 7, 93, 94, 19, 20, 21, 22, 13, 95, 79, 80, 61, 81, 74, 75, 76, 77, 100, 101, 102, 110] (by decide +kernel) (by decide +kernel)
set_option maxRecDepth 20000 in
theorem gX3_stepInto_X1_putBack : GoodIn wsX3_stepInto (wsV RX3 249 RX1 yX1_putBack wsX1_putBack) := goodIn_app (goodIn_of _ (by decide +kernel)) ggX3_stepInto_X1_putBack
theorem dX3_stepInto_0 : decode cX3_stepInto 0 = .ok (.aload_n 0, 1) := by decide +kernel
theorem dX3_stepInto_1 : decode cX3_stepInto 1 = .ok (.getfield 29, 3) := by decide +kernel
theorem dX3_stepInto_4 : decode cX3_stepInto 4 = .ok (.iload_n 1, 1) := by decide +kernel
theorem dX3_stepInto_5 : decode cX3_stepInto 5 = .ok (.invokevirtual 74, 3) := by decide +kernel
theorem dX3_stepInto_8 : decode cX3_stepInto 8 = .ok (.istore_n 2, 1) := by decide +kernel
theorem dX3_stepInto_9 : decode cX3_stepInto 9 = .ok (.iload_n 2, 1) := by decide +kernel
theorem dX3_stepInto_10 : decode cX3_stepInto 10 = .ok (.iconst (-1), 1) := by decide +kernel
theorem dX3_stepInto_11 : decode cX3_stepInto 11 = .ok (.if_icmp .ne 20, 3) := by decide +kernel
theorem dX3_stepInto_14 : decode cX3_stepInto 14 = .ok (.aload_n 0, 1) := by decide +kernel
theorem dX3_stepInto_15 : decode cX3_stepInto 15 = .ok (.getfield 22, 3) := by decide +kernel
theorem dX3_stepInto_18 : decode cX3_stepInto 18 = .ok (.iload_n 1, 1) := by decide +kernel
theorem dX3_stepInto_19 : decode cX3_stepInto 19 = .ok (.iconst 1, 1) := by decide +kernel
theorem dX3_stepInto_20 : decode cX3_stepInto 20 = .ok (.isub, 1) := by decide +kernel
theorem dX3_stepInto_21 : decode cX3_stepInto 21 = .ok (.aload_n 0, 1) := by decide +kernel
theorem dX3_stepInto_22 : decode cX3_stepInto 22 = .ok (.getfield 16, 3) := by decide +kernel
theorem dX3_stepInto_25 : decode cX3_stepInto 25 = .ok (.invokevirtual 171, 3) := by decide +kernel
theorem dX3_stepInto_28 : decode cX3_stepInto 28 = .ok (.goto 15, 3) := by decide +kernel
theorem dX3_stepInto_31 : decode cX3_stepInto 31 = .ok (.aload_n 0, 1) := by decide +kernel
theorem dX3_stepInto_32 : decode cX3_stepInto 32 = .ok (.getfield 29, 3) := by decide +kernel
theorem dX3_stepInto_35 : decode cX3_stepInto 35 = .ok (.iload_n 2, 1) := by decide +kernel
theorem dX3_stepInto_36 : decode cX3_stepInto 36 = .ok (.aload_n 0, 1) := by decide +kernel
theorem dX3_stepInto_37 : decode cX3_stepInto 37 = .ok (.getfield 16, 3) := by decide +kernel
theorem dX3_stepInto_40 : decode cX3_stepInto 40 = .ok (.invokevirtual 249, 3) := by decide +kernel
theorem dX3_stepInto_43 : decode cX3_stepInto 43 = .ok (.return_, 1) := by decide +kernel
set_option maxRecDepth 20000 in
theorem ggX3_sparedByCore_X3_isReplayable : GoodIn wsX3_sparedByCore wsX3_isReplayable := goodIn_r _ [7, 2, 8, 9, 10, 6, 11, 1, 12, 13, 14, 15, 16, 17, 18, 19, 20, 21, 22, 23, 24, 25, 26, 27, 28, 29, 30, 31, 32, 33, 34, 35, 36, 37, 59, 60, 61, 62, 63, 64, 65, 66, 67, 68, 69, 70, 71, 72] (by decide +kernel) (by decide +kernel)
set_option maxRecDepth 20000 in
theorem gX3_sparedByCore_X3_isReplayable : GoodIn wsX3_sparedByCore (wsV RX3 144 RX3 yX3_isReplayable wsX3_isReplayable) := goodIn_app (goodIn_of _ (by decide +kernel)) ggX3_sparedByCore_X3_isReplayable
set_option maxRecDepth 20000 in
theorem ggX3_sparedByCore_X0_count : GoodIn wsX3_sparedByCore wsX0_count := goodIn_r _ [41, 42, 66, 67, 68, 69, 70, 71, 72] (by decide +kernel) (by decide +kernel)
set_option maxRecDepth 20000 in
theorem gX3_sparedByCore_X0_count : GoodIn wsX3_sparedByCore (wsV RX3 61 RX0 yX0_count wsX0_count) := goodIn_app (goodIn_of _ (by decide +kernel)) ggX3_sparedByCore_X0_count
set_option maxRecDepth 20000 in
theorem ggX3_sparedByCore_X1_firstYearBehind : GoodIn wsX3_sparedByCore wsX1_firstYearBehind := goodIn_r _ [46, 21, 22, 23, 24, 19, 25, 26, 27, 28, 29, 30, 63, 64, 65] (by decide +kernel) (by decide +kernel)
set_option maxRecDepth 20000 in
theorem gX3_sparedByCore_X1_firstYearBehind : GoodIn wsX3_sparedByCore (wsV RX3 252 RX1 yX1_firstYearBehind wsX1_firstYearBehind) := goodIn_app (goodIn_of _ (by decide +kernel)) ggX3_sparedByCore_X1_firstYearBehind
set_option maxRecDepth 20000 in
theorem ggX3_sparedByCore_X3_deedsAgain : GoodIn wsX3_sparedByCore wsX3_deedsAgain := goodIn_r _ [50, 2, 8, 9, 10, 6, 11, 1, 12, 13, 14, 15, 16, 17, 18, 19, 20, 21, 22, 23, 24, 25, 26, 27, 28, 29, 30, 31, 51, 52, 53, 35, 54, 55, 56, 57, 58, 59, 60, 61, 62, 63, 64, 65, 66, 67, 68, 69, 70, 71, 72] (by decide +kernel) (by decide +kernel)
set_option maxRecDepth 20000 in
theorem gX3_sparedByCore_X3_deedsAgain : GoodIn wsX3_sparedByCore (wsV RX3 153 RX3 yX3_deedsAgain wsX3_deedsAgain) := goodIn_app (goodIn_of _ (by decide +kernel)) ggX3_sparedByCore_X3_deedsAgain
theorem dX3_sparedByCore_0 : decode cX3_sparedByCore 0 = .ok (.aload_n 0, 1) := by decide +kernel
theorem dX3_sparedByCore_1 : decode cX3_sparedByCore 1 = .ok (.iload_n 1, 1) := by decide +kernel
theorem dX3_sparedByCore_2 : decode cX3_sparedByCore 2 = .ok (.invokevirtual 144, 3) := by decide +kernel
theorem dX3_sparedByCore_5 : decode cX3_sparedByCore 5 = .ok (.ifCond .ne 5, 3) := by decide +kernel
theorem dX3_sparedByCore_8 : decode cX3_sparedByCore 8 = .ok (.iconst 0, 1) := by decide +kernel
theorem dX3_sparedByCore_9 : decode cX3_sparedByCore 9 = .ok (.ireturn, 1) := by decide +kernel
theorem dX3_sparedByCore_10 : decode cX3_sparedByCore 10 = .ok (.aload_n 0, 1) := by decide +kernel
theorem dX3_sparedByCore_11 : decode cX3_sparedByCore 11 = .ok (.getfield 29, 3) := by decide +kernel
theorem dX3_sparedByCore_14 : decode cX3_sparedByCore 14 = .ok (.iload_n 1, 1) := by decide +kernel
theorem dX3_sparedByCore_15 : decode cX3_sparedByCore 15 = .ok (.aload_n 0, 1) := by decide +kernel
theorem dX3_sparedByCore_16 : decode cX3_sparedByCore 16 = .ok (.getfield 22, 3) := by decide +kernel
theorem dX3_sparedByCore_19 : decode cX3_sparedByCore 19 = .ok (.invokevirtual 61, 3) := by decide +kernel
theorem dX3_sparedByCore_22 : decode cX3_sparedByCore 22 = .ok (.iconst 1, 1) := by decide +kernel
theorem dX3_sparedByCore_23 : decode cX3_sparedByCore 23 = .ok (.iadd, 1) := by decide +kernel
theorem dX3_sparedByCore_24 : decode cX3_sparedByCore 24 = .ok (.invokevirtual 252, 3) := by decide +kernel
theorem dX3_sparedByCore_27 : decode cX3_sparedByCore 27 = .ok (.istore_n 2, 1) := by decide +kernel
theorem dX3_sparedByCore_28 : decode cX3_sparedByCore 28 = .ok (.aload_n 0, 1) := by decide +kernel
theorem dX3_sparedByCore_29 : decode cX3_sparedByCore 29 = .ok (.iload_n 1, 1) := by decide +kernel
theorem dX3_sparedByCore_30 : decode cX3_sparedByCore 30 = .ok (.invokevirtual 153, 3) := by decide +kernel
theorem dX3_sparedByCore_33 : decode cX3_sparedByCore 33 = .ok (.iload_n 2, 1) := by decide +kernel
theorem dX3_sparedByCore_34 : decode cX3_sparedByCore 34 = .ok (.iload_n 1, 1) := by decide +kernel
theorem dX3_sparedByCore_35 : decode cX3_sparedByCore 35 = .ok (.isub, 1) := by decide +kernel
theorem dX3_sparedByCore_36 : decode cX3_sparedByCore 36 = .ok (.imul, 1) := by decide +kernel
theorem dX3_sparedByCore_37 : decode cX3_sparedByCore 37 = .ok (.ireturn, 1) := by decide +kernel
