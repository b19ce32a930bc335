theorem dX0_init_0 : decode cX0_init 0 = .ok (.aload_n 0, 1) := by decide +kernel
theorem dX0_init_1 : decode cX0_init 1 = .ok (.invokespecial 3, 3) := by decide +kernel
theorem dX0_init_4 : decode cX0_init 4 = .ok (.aload_n 0, 1) := by decide +kernel
theorem dX0_init_5 : decode cX0_init 5 = .ok (.sipush 480, 3) := by decide +kernel
theorem dX0_init_8 : decode cX0_init 8 = .ok (.newarray .int, 2) := by decide +kernel
theorem dX0_init_10 : decode cX0_init 10 = .ok (.putfield 9, 3) := by decide +kernel
theorem dX0_init_13 : decode cX0_init 13 = .ok (.aload_n 0, 1) := by decide +kernel
theorem dX0_init_14 : decode cX0_init 14 = .ok (.sipush 480, 3) := by decide +kernel
theorem dX0_init_17 : decode cX0_init 17 = .ok (.newarray .int, 2) := by decide +kernel
theorem dX0_init_19 : decode cX0_init 19 = .ok (.putfield 15, 3) := by decide +kernel
theorem dX0_init_22 : decode cX0_init 22 = .ok (.aload_n 0, 1) := by decide +kernel
theorem dX0_init_23 : decode cX0_init 23 = .ok (.sipush 480, 3) := by decide +kernel
theorem dX0_init_26 : decode cX0_init 26 = .ok (.newarray .int, 2) := by decide +kernel
theorem dX0_init_28 : decode cX0_init 28 = .ok (.putfield 18, 3) := by decide +kernel
theorem dX0_init_31 : decode cX0_init 31 = .ok (.aload_n 0, 1) := by decide +kernel
theorem dX0_init_32 : decode cX0_init 32 = .ok (.bipush 40, 2) := by decide +kernel
theorem dX0_init_34 : decode cX0_init 34 = .ok (.newarray .int, 2) := by decide +kernel
theorem dX0_init_36 : decode cX0_init 36 = .ok (.putfield 21, 3) := by decide +kernel
theorem dX0_init_39 : decode cX0_init 39 = .ok (.aload_n 0, 1) := by decide +kernel
theorem dX0_init_40 : decode cX0_init 40 = .ok (.bipush 40, 2) := by decide +kernel
theorem dX0_init_42 : decode cX0_init 42 = .ok (.newarray .int, 2) := by decide +kernel
theorem dX0_init_44 : decode cX0_init 44 = .ok (.putfield 24, 3) := by decide +kernel
theorem dX0_init_47 : decode cX0_init 47 = .ok (.return_, 1) := by decide +kernel
theorem dX0_count_0 : decode cX0_count 0 = .ok (.aload_n 0, 1) := by decide +kernel
theorem dX0_count_1 : decode cX0_count 1 = .ok (.getfield 27, 3) := by decide +kernel
theorem dX0_count_4 : decode cX0_count 4 = .ok (.ireturn, 1) := by decide +kernel
theorem dX0_hasRow_0 : decode cX0_hasRow 0 = .ok (.iload_n 0, 1) := by decide +kernel
theorem dX0_hasRow_1 : decode cX0_hasRow 1 = .ok (.ifCond .lt 13, 3) := by decide +kernel
theorem dX0_hasRow_4 : decode cX0_hasRow 4 = .ok (.iload_n 0, 1) := by decide +kernel
theorem dX0_hasRow_5 : decode cX0_hasRow 5 = .ok (.bipush 40, 2) := by decide +kernel
theorem dX0_hasRow_7 : decode cX0_hasRow 7 = .ok (.if_icmp .ge 7, 3) := by decide +kernel
theorem dX0_hasRow_10 : decode cX0_hasRow 10 = .ok (.iconst 1, 1) := by decide +kernel
theorem dX0_hasRow_11 : decode cX0_hasRow 11 = .ok (.goto 4, 3) := by decide +kernel
theorem dX0_hasRow_14 : decode cX0_hasRow 14 = .ok (.iconst 0, 1) := by decide +kernel
theorem dX0_hasRow_15 : decode cX0_hasRow 15 = .ok (.ireturn, 1) := by decide +kernel
theorem dX0_areFull_0 : decode cX0_areFull 0 = .ok (.aload_n 0, 1) := by decide +kernel
theorem dX0_areFull_1 : decode cX0_areFull 1 = .ok (.getfield 27, 3) := by decide +kernel
theorem dX0_areFull_4 : decode cX0_areFull 4 = .ok (.bipush 40, 2) := by decide +kernel
theorem dX0_areFull_6 : decode cX0_areFull 6 = .ok (.if_icmp .lt 7, 3) := by decide +kernel
theorem dX0_areFull_9 : decode cX0_areFull 9 = .ok (.iconst 1, 1) := by decide +kernel
theorem dX0_areFull_10 : decode cX0_areFull 10 = .ok (.goto 4, 3) := by decide +kernel
theorem dX0_areFull_13 : decode cX0_areFull 13 = .ok (.iconst 0, 1) := by decide +kernel
theorem dX0_areFull_14 : decode cX0_areFull 14 = .ok (.ireturn, 1) := by decide +kernel
set_option maxRecDepth 20000 in
theorem ggX0_hasRoomForDeed_X0_areFull : GoodIn wsX0_hasRoomForDeed wsX0_areFull := goodIn_r _ [6, 1, 15, 16, 17, 18, 19, 20, 21] (by decide +kernel) (by decide +kernel)
set_option maxRecDepth 20000 in
theorem gX0_hasRoomForDeed_X0_areFull : GoodIn wsX0_hasRoomForDeed (wsV RX0 31 RX0 yX0_areFull wsX0_areFull) := goodIn_app (goodIn_of _ (by decide +kernel)) ggX0_hasRoomForDeed_X0_areFull
set_option maxRecDepth 20000 in
theorem ggX0_hasRoomForDeed_X0_deedsIn : GoodIn wsX0_hasRoomForDeed wsX0_deedsIn := goodIn_r _ [10, 11, 12, 13, 5, 14, 15, 16, 17, 18, 19, 20, 21] (by decide +kernel) (by decide +kernel)
set_option maxRecDepth 20000 in
theorem gX0_hasRoomForDeed_X0_deedsIn : GoodIn wsX0_hasRoomForDeed (wsV RX0 35 RX0 yX0_deedsIn wsX0_deedsIn) := goodIn_app (goodIn_of _ (by decide +kernel)) ggX0_hasRoomForDeed_X0_deedsIn
theorem dX0_hasRoomForDeed_0 : decode cX0_hasRoomForDeed 0 = .ok (.aload_n 0, 1) := by decide +kernel
theorem dX0_hasRoomForDeed_1 : decode cX0_hasRoomForDeed 1 = .ok (.invokevirtual 31, 3) := by decide +kernel
theorem dX0_hasRoomForDeed_4 : decode cX0_hasRoomForDeed 4 = .ok (.ifCond .ne 20, 3) := by decide +kernel
theorem dX0_hasRoomForDeed_7 : decode cX0_hasRoomForDeed 7 = .ok (.aload_n 0, 1) := by decide +kernel
theorem dX0_hasRoomForDeed_8 : decode cX0_hasRoomForDeed 8 = .ok (.aload_n 0, 1) := by decide +kernel
theorem dX0_hasRoomForDeed_9 : decode cX0_hasRoomForDeed 9 = .ok (.getfield 27, 3) := by decide +kernel
theorem dX0_hasRoomForDeed_12 : decode cX0_hasRoomForDeed 12 = .ok (.invokevirtual 35, 3) := by decide +kernel
theorem dX0_hasRoomForDeed_15 : decode cX0_hasRoomForDeed 15 = .ok (.bipush 12, 2) := by decide +kernel
theorem dX0_hasRoomForDeed_17 : decode cX0_hasRoomForDeed 17 = .ok (.if_icmp .ge 7, 3) := by decide +kernel
theorem dX0_hasRoomForDeed_20 : decode cX0_hasRoomForDeed 20 = .ok (.iconst 1, 1) := by decide +kernel
theorem dX0_hasRoomForDeed_21 : decode cX0_hasRoomForDeed 21 = .ok (.goto 4, 3) := by decide +kernel
theorem dX0_hasRoomForDeed_24 : decode cX0_hasRoomForDeed 24 = .ok (.iconst 0, 1) := by decide +kernel
theorem dX0_hasRoomForDeed_25 : decode cX0_hasRoomForDeed 25 = .ok (.ireturn, 1) := by decide +kernel
set_option maxRecDepth 20000 in
theorem ggX0_deedsIn_X0_hasRow : GoodIn wsX0_deedsIn wsX0_hasRow := goodIn_r _ [5] (by decide +kernel) (by decide +kernel)
set_option maxRecDepth 20000 in
theorem gX0_deedsIn_X0_hasRow : GoodIn wsX0_deedsIn (va_wsS RX0 39 yX0_hasRow wsX0_hasRow) := goodIn_app (goodIn_of _ (by decide +kernel)) ggX0_deedsIn_X0_hasRow
theorem dX0_deedsIn_0 : decode cX0_deedsIn 0 = .ok (.iload_n 1, 1) := by decide +kernel
theorem dX0_deedsIn_1 : decode cX0_deedsIn 1 = .ok (.invokestatic 39, 3) := by decide +kernel
theorem dX0_deedsIn_4 : decode cX0_deedsIn 4 = .ok (.ifCond .eq 12, 3) := by decide +kernel
theorem dX0_deedsIn_7 : decode cX0_deedsIn 7 = .ok (.aload_n 0, 1) := by decide +kernel
theorem dX0_deedsIn_8 : decode cX0_deedsIn 8 = .ok (.getfield 21, 3) := by decide +kernel
theorem dX0_deedsIn_11 : decode cX0_deedsIn 11 = .ok (.iload_n 1, 1) := by decide +kernel
theorem dX0_deedsIn_12 : decode cX0_deedsIn 12 = .ok (.iaload, 1) := by decide +kernel
theorem dX0_deedsIn_13 : decode cX0_deedsIn 13 = .ok (.goto 4, 3) := by decide +kernel
theorem dX0_deedsIn_16 : decode cX0_deedsIn 16 = .ok (.iconst 0, 1) := by decide +kernel
theorem dX0_deedsIn_17 : decode cX0_deedsIn 17 = .ok (.ireturn, 1) := by decide +kernel
set_option maxRecDepth 20000 in
theorem ggX0_note_X0_hasRow : GoodIn wsX0_note wsX0_hasRow := goodIn_r _ [9] (by decide +kernel) (by decide +kernel)
set_option maxRecDepth 20000 in
theorem gX0_note_X0_hasRow : GoodIn wsX0_note (va_wsS RX0 39 yX0_hasRow wsX0_hasRow) := goodIn_app (goodIn_of _ (by decide +kernel)) ggX0_note_X0_hasRow
set_option maxRecDepth 20000 in
theorem ggX0_note_X0_hasRoomForDeed : GoodIn wsX0_note wsX0_hasRoomForDeed := goodIn_r _ [13, 1, 14, 15, 16, 8, 17, 18, 19, 20, 21, 2, 6, 7, 9, 25, 26, 27, 28, 29, 30, 31] (by decide +kernel) (by decide +kernel)
set_option maxRecDepth 20000 in
theorem gX0_note_X0_hasRoomForDeed : GoodIn wsX0_note (wsV RX0 43 RX0 yX0_hasRoomForDeed wsX0_hasRoomForDeed) := goodIn_app (goodIn_of _ (by decide +kernel)) ggX0_note_X0_hasRoomForDeed
set_option maxRecDepth 20000 in
theorem ggX0_note_X0_isSlot : GoodIn wsX0_note wsX0_isSlot := goodIn_r _ [24] (by decide +kernel) (by decide +kernel)
set_option maxRecDepth 20000 in
theorem gX0_note_X0_isSlot : GoodIn wsX0_note (va_wsS RX0 46 yX0_isSlot wsX0_isSlot) := goodIn_app (goodIn_of _ (by decide +kernel)) ggX0_note_X0_isSlot
theorem dX0_note_0 : decode cX0_note 0 = .ok (.aload_n 0, 1) := by decide +kernel
theorem dX0_note_1 : decode cX0_note 1 = .ok (.getfield 27, 3) := by decide +kernel
theorem dX0_note_4 : decode cX0_note 4 = .ok (.istore 4, 2) := by decide +kernel
theorem dX0_note_6 : decode cX0_note 6 = .ok (.iload 4, 2) := by decide +kernel
theorem dX0_note_8 : decode cX0_note 8 = .ok (.invokestatic 39, 3) := by decide +kernel
theorem dX0_note_11 : decode cX0_note 11 = .ok (.ifCond .eq 10, 3) := by decide +kernel
theorem dX0_note_14 : decode cX0_note 14 = .ok (.aload_n 0, 1) := by decide +kernel
theorem dX0_note_15 : decode cX0_note 15 = .ok (.invokevirtual 43, 3) := by decide +kernel
theorem dX0_note_18 : decode cX0_note 18 = .ok (.ifCond .ne 4, 3) := by decide +kernel
theorem dX0_note_21 : decode cX0_note 21 = .ok (.return_, 1) := by decide +kernel
theorem dX0_note_22 : decode cX0_note 22 = .ok (.iload 4, 2) := by decide +kernel
theorem dX0_note_24 : decode cX0_note 24 = .ok (.bipush 12, 2) := by decide +kernel
theorem dX0_note_26 : decode cX0_note 26 = .ok (.imul, 1) := by decide +kernel
theorem dX0_note_27 : decode cX0_note 27 = .ok (.aload_n 0, 1) := by decide +kernel
theorem dX0_note_28 : decode cX0_note 28 = .ok (.getfield 21, 3) := by decide +kernel
theorem dX0_note_31 : decode cX0_note 31 = .ok (.iload 4, 2) := by decide +kernel
theorem dX0_note_33 : decode cX0_note 33 = .ok (.iaload, 1) := by decide +kernel
theorem dX0_note_34 : decode cX0_note 34 = .ok (.iadd, 1) := by decide +kernel
theorem dX0_note_35 : decode cX0_note 35 = .ok (.istore 5, 2) := by decide +kernel
theorem dX0_note_37 : decode cX0_note 37 = .ok (.iload 5, 2) := by decide +kernel
theorem dX0_note_39 : decode cX0_note 39 = .ok (.invokestatic 46, 3) := by decide +kernel
theorem dX0_note_42 : decode cX0_note 42 = .ok (.ifCond .eq 38, 3) := by decide +kernel
theorem dX0_note_45 : decode cX0_note 45 = .ok (.aload_n 0, 1) := by decide +kernel
theorem dX0_note_46 : decode cX0_note 46 = .ok (.getfield 9, 3) := by decide +kernel
theorem dX0_note_49 : decode cX0_note 49 = .ok (.iload 5, 2) := by decide +kernel
theorem dX0_note_51 : decode cX0_note 51 = .ok (.iload_n 1, 1) := by decide +kernel
theorem dX0_note_52 : decode cX0_note 52 = .ok (.iastore, 1) := by decide +kernel
theorem dX0_note_53 : decode cX0_note 53 = .ok (.aload_n 0, 1) := by decide +kernel
theorem dX0_note_54 : decode cX0_note 54 = .ok (.getfield 15, 3) := by decide +kernel
theorem dX0_note_57 : decode cX0_note 57 = .ok (.iload 5, 2) := by decide +kernel
theorem dX0_note_59 : decode cX0_note 59 = .ok (.iload_n 2, 1) := by decide +kernel
theorem dX0_note_60 : decode cX0_note 60 = .ok (.iastore, 1) := by decide +kernel
theorem dX0_note_61 : decode cX0_note 61 = .ok (.aload_n 0, 1) := by decide +kernel
theorem dX0_note_62 : decode cX0_note 62 = .ok (.getfield 18, 3) := by decide +kernel
theorem dX0_note_65 : decode cX0_note 65 = .ok (.iload 5, 2) := by decide +kernel
theorem dX0_note_67 : decode cX0_note 67 = .ok (.iload_n 3, 1) := by decide +kernel
theorem dX0_note_68 : decode cX0_note 68 = .ok (.iastore, 1) := by decide +kernel
theorem dX0_note_69 : decode cX0_note 69 = .ok (.aload_n 0, 1) := by decide +kernel
theorem dX0_note_70 : decode cX0_note 70 = .ok (.getfield 21, 3) := by decide +kernel
theorem dX0_note_73 : decode cX0_note 73 = .ok (.iload 4, 2) := by decide +kernel
theorem dX0_note_75 : decode cX0_note 75 = .ok (.dup2, 1) := by decide +kernel
theorem dX0_note_76 : decode cX0_note 76 = .ok (.iaload, 1) := by decide +kernel
theorem dX0_note_77 : decode cX0_note 77 = .ok (.iconst 1, 1) := by decide +kernel
theorem dX0_note_78 : decode cX0_note 78 = .ok (.iadd, 1) := by decide +kernel
theorem dX0_note_79 : decode cX0_note 79 = .ok (.iastore, 1) := by decide +kernel
theorem dX0_note_80 : decode cX0_note 80 = .ok (.return_, 1) := by decide +kernel
set_option maxRecDepth 20000 in
theorem ggX0_close_X0_hasRow : GoodIn wsX0_close wsX0_hasRow := goodIn_r _ [6] (by decide +kernel) (by decide +kernel)
set_option maxRecDepth 20000 in
theorem gX0_close_X0_hasRow : GoodIn wsX0_close (va_wsS RX0 39 yX0_hasRow wsX0_hasRow) := goodIn_app (goodIn_of _ (by decide +kernel)) ggX0_close_X0_hasRow
set_option maxRecDepth 20000 in
theorem ggX0_close_X0_reckonSeal : GoodIn wsX0_close wsX0_reckonSeal := goodIn_r _ [10, 11, 12, 13, 5, 14, 2, 3, 4, 6, 15, 16, 17, 18, 19, 20, 21, 22, 23, 24, 25, 26, 27, 28, 29, 30, 31, 32, 33, 34, 35, 36, 37, 38, 39, 40, 41, 42, 43, 44, 45, 46, 47, 48] (by decide +kernel) (by decide +kernel)
set_option maxRecDepth 20000 in
theorem gX0_close_X0_reckonSeal : GoodIn wsX0_close (wsV RX0 49 RX0 yX0_reckonSeal wsX0_reckonSeal) := goodIn_app (goodIn_of _ (by decide +kernel)) ggX0_close_X0_reckonSeal
theorem dX0_close_0 : decode cX0_close 0 = .ok (.aload_n 0, 1) := by decide +kernel
theorem dX0_close_1 : decode cX0_close 1 = .ok (.getfield 27, 3) := by decide +kernel
theorem dX0_close_4 : decode cX0_close 4 = .ok (.istore_n 1, 1) := by decide +kernel
theorem dX0_close_5 : decode cX0_close 5 = .ok (.iload_n 1, 1) := by decide +kernel
theorem dX0_close_6 : decode cX0_close 6 = .ok (.invokestatic 39, 3) := by decide +kernel
theorem dX0_close_9 : decode cX0_close 9 = .ok (.ifCond .eq 24, 3) := by decide +kernel
theorem dX0_close_12 : decode cX0_close 12 = .ok (.aload_n 0, 1) := by decide +kernel
theorem dX0_close_13 : decode cX0_close 13 = .ok (.getfield 24, 3) := by decide +kernel
theorem dX0_close_16 : decode cX0_close 16 = .ok (.iload_n 1, 1) := by decide +kernel
theorem dX0_close_17 : decode cX0_close 17 = .ok (.aload_n 0, 1) := by decide +kernel
theorem dX0_close_18 : decode cX0_close 18 = .ok (.iload_n 1, 1) := by decide +kernel
theorem dX0_close_19 : decode cX0_close 19 = .ok (.invokevirtual 49, 3) := by decide +kernel
theorem dX0_close_22 : decode cX0_close 22 = .ok (.iastore, 1) := by decide +kernel
theorem dX0_close_23 : decode cX0_close 23 = .ok (.aload_n 0, 1) := by decide +kernel
theorem dX0_close_24 : decode cX0_close 24 = .ok (.dup, 1) := by decide +kernel
theorem dX0_close_25 : decode cX0_close 25 = .ok (.getfield 27, 3) := by decide +kernel
theorem dX0_close_28 : decode cX0_close 28 = .ok (.iconst 1, 1) := by decide +kernel
theorem dX0_close_29 : decode cX0_close 29 = .ok (.iadd, 1) := by decide +kernel
theorem dX0_close_30 : decode cX0_close 30 = .ok (.putfield 27, 3) := by decide +kernel
theorem dX0_close_33 : decode cX0_close 33 = .ok (.return_, 1) := by decide +kernel
set_option maxRecDepth 20000 in
theorem ggX0_forgetBelow_X0_hasRow : GoodIn wsX0_forgetBelow wsX0_hasRow := goodIn_r _ [14] (by decide +kernel) (by decide +kernel)
set_option maxRecDepth 20000 in
theorem gX0_forgetBelow_X0_hasRow : GoodIn wsX0_forgetBelow (va_wsS RX0 39 yX0_hasRow wsX0_hasRow) := goodIn_app (goodIn_of _ (by decide +kernel)) ggX0_forgetBelow_X0_hasRow
theorem dX0_forgetBelow_0 : decode cX0_forgetBelow 0 = .ok (.aload_n 0, 1) := by decide +kernel
theorem dX0_forgetBelow_1 : decode cX0_forgetBelow 1 = .ok (.getfield 52, 3) := by decide +kernel
theorem dX0_forgetBelow_4 : decode cX0_forgetBelow 4 = .ok (.istore_n 2, 1) := by decide +kernel
theorem dX0_forgetBelow_5 : decode cX0_forgetBelow 5 = .ok (.iload_n 1, 1) := by decide +kernel
theorem dX0_forgetBelow_6 : decode cX0_forgetBelow 6 = .ok (.aload_n 0, 1) := by decide +kernel
theorem dX0_forgetBelow_7 : decode cX0_forgetBelow 7 = .ok (.getfield 27, 3) := by decide +kernel
theorem dX0_forgetBelow_10 : decode cX0_forgetBelow 10 = .ok (.invokestatic 55, 3) := by decide +kernel
theorem dX0_forgetBelow_13 : decode cX0_forgetBelow 13 = .ok (.istore_n 3, 1) := by decide +kernel
theorem dX0_forgetBelow_14 : decode cX0_forgetBelow 14 = .ok (.iload_n 2, 1) := by decide +kernel
theorem dX0_forgetBelow_15 : decode cX0_forgetBelow 15 = .ok (.istore 4, 2) := by decide +kernel
theorem dX0_forgetBelow_17 : decode cX0_forgetBelow 17 = .ok (.iload 4, 2) := by decide +kernel
theorem dX0_forgetBelow_19 : decode cX0_forgetBelow 19 = .ok (.iload_n 3, 1) := by decide +kernel
theorem dX0_forgetBelow_20 : decode cX0_forgetBelow 20 = .ok (.if_icmp .ge 25, 3) := by decide +kernel
theorem dX0_forgetBelow_23 : decode cX0_forgetBelow 23 = .ok (.iload 4, 2) := by decide +kernel
theorem dX0_forgetBelow_25 : decode cX0_forgetBelow 25 = .ok (.invokestatic 39, 3) := by decide +kernel
theorem dX0_forgetBelow_28 : decode cX0_forgetBelow 28 = .ok (.ifCond .eq 11, 3) := by decide +kernel
theorem dX0_forgetBelow_31 : decode cX0_forgetBelow 31 = .ok (.aload_n 0, 1) := by decide +kernel
theorem dX0_forgetBelow_32 : decode cX0_forgetBelow 32 = .ok (.getfield 21, 3) := by decide +kernel
theorem dX0_forgetBelow_35 : decode cX0_forgetBelow 35 = .ok (.iload 4, 2) := by decide +kernel
theorem dX0_forgetBelow_37 : decode cX0_forgetBelow 37 = .ok (.iconst 0, 1) := by decide +kernel
theorem dX0_forgetBelow_38 : decode cX0_forgetBelow 38 = .ok (.iastore, 1) := by decide +kernel
theorem dX0_forgetBelow_39 : decode cX0_forgetBelow 39 = .ok (.iinc 4 1, 3) := by decide +kernel
theorem dX0_forgetBelow_42 : decode cX0_forgetBelow 42 = .ok (.goto (-25), 3) := by decide +kernel
theorem dX0_forgetBelow_45 : decode cX0_forgetBelow 45 = .ok (.aload_n 0, 1) := by decide +kernel
theorem dX0_forgetBelow_46 : decode cX0_forgetBelow 46 = .ok (.iload_n 2, 1) := by decide +kernel
theorem dX0_forgetBelow_47 : decode cX0_forgetBelow 47 = .ok (.iload_n 3, 1) := by decide +kernel
theorem dX0_forgetBelow_48 : decode cX0_forgetBelow 48 = .ok (.invokestatic 61, 3) := by decide +kernel
theorem dX0_forgetBelow_51 : decode cX0_forgetBelow 51 = .ok (.putfield 52, 3) := by decide +kernel
theorem dX0_forgetBelow_54 : decode cX0_forgetBelow 54 = .ok (.aload_n 0, 1) := by decide +kernel
theorem dX0_forgetBelow_55 : decode cX0_forgetBelow 55 = .ok (.getfield 52, 3) := by decide +kernel
theorem dX0_forgetBelow_58 : decode cX0_forgetBelow 58 = .ok (.iload_n 2, 1) := by decide +kernel
theorem dX0_forgetBelow_59 : decode cX0_forgetBelow 59 = .ok (.isub, 1) := by decide +kernel
theorem dX0_forgetBelow_60 : decode cX0_forgetBelow 60 = .ok (.ireturn, 1) := by decide +kernel
theorem dX0_isForgotten_0 : decode cX0_isForgotten 0 = .ok (.iload_n 1, 1) := by decide +kernel
theorem dX0_isForgotten_1 : decode cX0_isForgotten 1 = .ok (.ifCond .lt 15, 3) := by decide +kernel
theorem dX0_isForgotten_4 : decode cX0_isForgotten 4 = .ok (.iload_n 1, 1) := by decide +kernel
theorem dX0_isForgotten_5 : decode cX0_isForgotten 5 = .ok (.aload_n 0, 1) := by decide +kernel
theorem dX0_isForgotten_6 : decode cX0_isForgotten 6 = .ok (.getfield 52, 3) := by decide +kernel
theorem dX0_isForgotten_9 : decode cX0_isForgotten 9 = .ok (.if_icmp .ge 7, 3) := by decide +kernel
theorem dX0_isForgotten_12 : decode cX0_isForgotten 12 = .ok (.iconst 1, 1) := by decide +kernel
theorem dX0_isForgotten_13 : decode cX0_isForgotten 13 = .ok (.goto 4, 3) := by decide +kernel
theorem dX0_isForgotten_16 : decode cX0_isForgotten 16 = .ok (.iconst 0, 1) := by decide +kernel
theorem dX0_isForgotten_17 : decode cX0_isForgotten 17 = .ok (.ireturn, 1) := by decide +kernel
set_option maxRecDepth 20000 in
theorem ggX0_slotOf_X0_deedsIn : GoodIn wsX0_slotOf wsX0_deedsIn := goodIn_r _ [5, 6, 7, 8, 4, 9, 10, 11, 12, 13, 14, 15, 16] (by decide +kernel) (by decide +kernel)
set_option maxRecDepth 20000 in
theorem gX0_slotOf_X0_deedsIn : GoodIn wsX0_slotOf (wsV RX0 35 RX0 yX0_deedsIn wsX0_deedsIn) := goodIn_app (goodIn_of _ (by decide +kernel)) ggX0_slotOf_X0_deedsIn
theorem dX0_slotOf_0 : decode cX0_slotOf 0 = .ok (.iload_n 2, 1) := by decide +kernel
theorem dX0_slotOf_1 : decode cX0_slotOf 1 = .ok (.ifCond .lt 21, 3) := by decide +kernel
theorem dX0_slotOf_4 : decode cX0_slotOf 4 = .ok (.iload_n 2, 1) := by decide +kernel
theorem dX0_slotOf_5 : decode cX0_slotOf 5 = .ok (.aload_n 0, 1) := by decide +kernel
theorem dX0_slotOf_6 : decode cX0_slotOf 6 = .ok (.iload_n 1, 1) := by decide +kernel
theorem dX0_slotOf_7 : decode cX0_slotOf 7 = .ok (.invokevirtual 35, 3) := by decide +kernel
theorem dX0_slotOf_10 : decode cX0_slotOf 10 = .ok (.if_icmp .ge 12, 3) := by decide +kernel
theorem dX0_slotOf_13 : decode cX0_slotOf 13 = .ok (.iload_n 1, 1) := by decide +kernel
theorem dX0_slotOf_14 : decode cX0_slotOf 14 = .ok (.bipush 12, 2) := by decide +kernel
theorem dX0_slotOf_16 : decode cX0_slotOf 16 = .ok (.imul, 1) := by decide +kernel
theorem dX0_slotOf_17 : decode cX0_slotOf 17 = .ok (.iload_n 2, 1) := by decide +kernel
theorem dX0_slotOf_18 : decode cX0_slotOf 18 = .ok (.iadd, 1) := by decide +kernel
theorem dX0_slotOf_19 : decode cX0_slotOf 19 = .ok (.goto 4, 3) := by decide +kernel
theorem dX0_slotOf_22 : decode cX0_slotOf 22 = .ok (.iconst (-1), 1) := by decide +kernel
theorem dX0_slotOf_23 : decode cX0_slotOf 23 = .ok (.ireturn, 1) := by decide +kernel
theorem dX0_isSlot_0 : decode cX0_isSlot 0 = .ok (.iload_n 0, 1) := by decide +kernel
theorem dX0_isSlot_1 : decode cX0_isSlot 1 = .ok (.ifCond .lt 14, 3) := by decide +kernel
theorem dX0_isSlot_4 : decode cX0_isSlot 4 = .ok (.iload_n 0, 1) := by decide +kernel
theorem dX0_isSlot_5 : decode cX0_isSlot 5 = .ok (.sipush 480, 3) := by decide +kernel
theorem dX0_isSlot_8 : decode cX0_isSlot 8 = .ok (.if_icmp .ge 7, 3) := by decide +kernel
theorem dX0_isSlot_11 : decode cX0_isSlot 11 = .ok (.iconst 1, 1) := by decide +kernel
theorem dX0_isSlot_12 : decode cX0_isSlot 12 = .ok (.goto 4, 3) := by decide +kernel
theorem dX0_isSlot_15 : decode cX0_isSlot 15 = .ok (.iconst 0, 1) := by decide +kernel
theorem dX0_isSlot_16 : decode cX0_isSlot 16 = .ok (.ireturn, 1) := by decide +kernel
set_option maxRecDepth 20000 in
theorem ggX0_kindAt_X0_isSlot : GoodIn wsX0_kindAt wsX0_isSlot := goodIn_r _ [5] (by decide +kernel) (by decide +kernel)
set_option maxRecDepth 20000 in
theorem gX0_kindAt_X0_isSlot : GoodIn wsX0_kindAt (va_wsS RX0 46 yX0_isSlot wsX0_isSlot) := goodIn_app (goodIn_of _ (by decide +kernel)) ggX0_kindAt_X0_isSlot
theorem dX0_kindAt_0 : decode cX0_kindAt 0 = .ok (.iload_n 1, 1) := by decide +kernel
theorem dX0_kindAt_1 : decode cX0_kindAt 1 = .ok (.invokestatic 46, 3) := by decide +kernel
theorem dX0_kindAt_4 : decode cX0_kindAt 4 = .ok (.ifCond .eq 12, 3) := by decide +kernel
theorem dX0_kindAt_7 : decode cX0_kindAt 7 = .ok (.aload_n 0, 1) := by decide +kernel
theorem dX0_kindAt_8 : decode cX0_kindAt 8 = .ok (.getfield 9, 3) := by decide +kernel
theorem dX0_kindAt_11 : decode cX0_kindAt 11 = .ok (.iload_n 1, 1) := by decide +kernel
theorem dX0_kindAt_12 : decode cX0_kindAt 12 = .ok (.iaload, 1) := by decide +kernel
theorem dX0_kindAt_13 : decode cX0_kindAt 13 = .ok (.goto 4, 3) := by decide +kernel
theorem dX0_kindAt_16 : decode cX0_kindAt 16 = .ok (.iconst 0, 1) := by decide +kernel
theorem dX0_kindAt_17 : decode cX0_kindAt 17 = .ok (.ireturn, 1) := by decide +kernel
set_option maxRecDepth 20000 in
theorem ggX0_oneAt_X0_isSlot : GoodIn wsX0_oneAt wsX0_isSlot := goodIn_r _ [5] (by decide +kernel) (by decide +kernel)
set_option maxRecDepth 20000 in
theorem gX0_oneAt_X0_isSlot : GoodIn wsX0_oneAt (va_wsS RX0 46 yX0_isSlot wsX0_isSlot) := goodIn_app (goodIn_of _ (by decide +kernel)) ggX0_oneAt_X0_isSlot
theorem dX0_oneAt_0 : decode cX0_oneAt 0 = .ok (.iload_n 1, 1) := by decide +kernel
theorem dX0_oneAt_1 : decode cX0_oneAt 1 = .ok (.invokestatic 46, 3) := by decide +kernel
theorem dX0_oneAt_4 : decode cX0_oneAt 4 = .ok (.ifCond .eq 12, 3) := by decide +kernel
theorem dX0_oneAt_7 : decode cX0_oneAt 7 = .ok (.aload_n 0, 1) := by decide +kernel
theorem dX0_oneAt_8 : decode cX0_oneAt 8 = .ok (.getfield 15, 3) := by decide +kernel
theorem dX0_oneAt_11 : decode cX0_oneAt 11 = .ok (.iload_n 1, 1) := by decide +kernel
theorem dX0_oneAt_12 : decode cX0_oneAt 12 = .ok (.iaload, 1) := by decide +kernel
theorem dX0_oneAt_13 : decode cX0_oneAt 13 = .ok (.goto 4, 3) := by decide +kernel
theorem dX0_oneAt_16 : decode cX0_oneAt 16 = .ok (.iconst 0, 1) := by decide +kernel
theorem dX0_oneAt_17 : decode cX0_oneAt 17 = .ok (.ireturn, 1) := by decide +kernel
set_option maxRecDepth 20000 in
theorem ggX0_twoAt_X0_isSlot : GoodIn wsX0_twoAt wsX0_isSlot := goodIn_r _ [5] (by decide +kernel) (by decide +kernel)
set_option maxRecDepth 20000 in
theorem gX0_twoAt_X0_isSlot : GoodIn wsX0_twoAt (va_wsS RX0 46 yX0_isSlot wsX0_isSlot) := goodIn_app (goodIn_of _ (by decide +kernel)) ggX0_twoAt_X0_isSlot
theorem dX0_twoAt_0 : decode cX0_twoAt 0 = .ok (.iload_n 1, 1) := by decide +kernel
theorem dX0_twoAt_1 : decode cX0_twoAt 1 = .ok (.invokestatic 46, 3) := by decide +kernel
theorem dX0_twoAt_4 : decode cX0_twoAt 4 = .ok (.ifCond .eq 12, 3) := by decide +kernel
theorem dX0_twoAt_7 : decode cX0_twoAt 7 = .ok (.aload_n 0, 1) := by decide +kernel
theorem dX0_twoAt_8 : decode cX0_twoAt 8 = .ok (.getfield 18, 3) := by decide +kernel
theorem dX0_twoAt_11 : decode cX0_twoAt 11 = .ok (.iload_n 1, 1) := by decide +kernel
theorem dX0_twoAt_12 : decode cX0_twoAt 12 = .ok (.iaload, 1) := by decide +kernel
theorem dX0_twoAt_13 : decode cX0_twoAt 13 = .ok (.goto 4, 3) := by decide +kernel
theorem dX0_twoAt_16 : decode cX0_twoAt 16 = .ok (.iconst 0, 1) := by decide +kernel
theorem dX0_twoAt_17 : decode cX0_twoAt 17 = .ok (.ireturn, 1) := by decide +kernel
set_option maxRecDepth 20000 in
theorem ggX0_rewriteTwo_X0_isSlot : GoodIn wsX0_rewriteTwo wsX0_isSlot := goodIn_r _ [5] (by decide +kernel) (by decide +kernel)
set_option maxRecDepth 20000 in
theorem gX0_rewriteTwo_X0_isSlot : GoodIn wsX0_rewriteTwo (va_wsS RX0 46 yX0_isSlot wsX0_isSlot) := goodIn_app (goodIn_of _ (by decide +kernel)) ggX0_rewriteTwo_X0_isSlot
theorem dX0_rewriteTwo_0 : decode cX0_rewriteTwo 0 = .ok (.iload_n 1, 1) := by decide +kernel
theorem dX0_rewriteTwo_1 : decode cX0_rewriteTwo 1 = .ok (.invokestatic 46, 3) := by decide +kernel
theorem dX0_rewriteTwo_4 : decode cX0_rewriteTwo 4 = .ok (.ifCond .eq 10, 3) := by decide +kernel
theorem dX0_rewriteTwo_7 : decode cX0_rewriteTwo 7 = .ok (.aload_n 0, 1) := by decide +kernel
theorem dX0_rewriteTwo_8 : decode cX0_rewriteTwo 8 = .ok (.getfield 18, 3) := by decide +kernel
theorem dX0_rewriteTwo_11 : decode cX0_rewriteTwo 11 = .ok (.iload_n 1, 1) := by decide +kernel
theorem dX0_rewriteTwo_12 : decode cX0_rewriteTwo 12 = .ok (.iload_n 2, 1) := by decide +kernel
theorem dX0_rewriteTwo_13 : decode cX0_rewriteTwo 13 = .ok (.iastore, 1) := by decide +kernel
theorem dX0_rewriteTwo_14 : decode cX0_rewriteTwo 14 = .ok (.return_, 1) := by decide +kernel
set_option maxRecDepth 20000 in
theorem ggX0_writtenSeal_X0_hasRow : GoodIn wsX0_writtenSeal wsX0_hasRow := goodIn_r _ [5] (by decide +kernel) (by decide +kernel)
set_option maxRecDepth 20000 in
theorem gX0_writtenSeal_X0_hasRow : GoodIn wsX0_writtenSeal (va_wsS RX0 39 yX0_hasRow wsX0_hasRow) := goodIn_app (goodIn_of _ (by decide +kernel)) ggX0_writtenSeal_X0_hasRow
theorem dX0_writtenSeal_0 : decode cX0_writtenSeal 0 = .ok (.iload_n 1, 1) := by decide +kernel
theorem dX0_writtenSeal_1 : decode cX0_writtenSeal 1 = .ok (.invokestatic 39, 3) := by decide +kernel
theorem dX0_writtenSeal_4 : decode cX0_writtenSeal 4 = .ok (.ifCond .eq 12, 3) := by decide +kernel
theorem dX0_writtenSeal_7 : decode cX0_writtenSeal 7 = .ok (.aload_n 0, 1) := by decide +kernel
theorem dX0_writtenSeal_8 : decode cX0_writtenSeal 8 = .ok (.getfield 24, 3) := by decide +kernel
theorem dX0_writtenSeal_11 : decode cX0_writtenSeal 11 = .ok (.iload_n 1, 1) := by decide +kernel
theorem dX0_writtenSeal_12 : decode cX0_writtenSeal 12 = .ok (.iaload, 1) := by decide +kernel
theorem dX0_writtenSeal_13 : decode cX0_writtenSeal 13 = .ok (.goto 5, 3) := by decide +kernel
theorem dX0_writtenSeal_16 : decode cX0_writtenSeal 16 = .ok (.bipush 17, 2) := by decide +kernel
theorem dX0_writtenSeal_18 : decode cX0_writtenSeal 18 = .ok (.ireturn, 1) := by decide +kernel
set_option maxRecDepth 20000 in
theorem ggX0_isUntrue_X0_isForgotten : GoodIn wsX0_isUntrue wsX0_isForgotten := goodIn_r _ [5, 6, 46, 47, 48, 49, 50, 51, 52] (by decide +kernel) (by decide +kernel)
set_option maxRecDepth 20000 in
theorem gX0_isUntrue_X0_isForgotten : GoodIn wsX0_isUntrue (wsV RX0 64 RX0 yX0_isForgotten wsX0_isForgotten) := goodIn_app (goodIn_of _ (by decide +kernel)) ggX0_isUntrue_X0_isForgotten
set_option maxRecDepth 20000 in
theorem ggX0_isUntrue_X0_reckonSeal : GoodIn wsX0_isUntrue wsX0_reckonSeal := goodIn_r _ [10, 11, 12, 13, 4, 14, 15, 16, 17, 18, 19, 20, 21, 22, 23, 24, 25, 26, 27, 28, 29, 30, 31, 32, 33, 34, 35, 36, 37, 38, 39, 40, 41, 42, 43, 44, 45, 46, 47, 48, 49, 50, 51, 52] (by decide +kernel) (by decide +kernel)
set_option maxRecDepth 20000 in
theorem gX0_isUntrue_X0_reckonSeal : GoodIn wsX0_isUntrue (wsV RX0 49 RX0 yX0_reckonSeal wsX0_reckonSeal) := goodIn_app (goodIn_of _ (by decide +kernel)) ggX0_isUntrue_X0_reckonSeal
set_option maxRecDepth 20000 in
theorem ggX0_isUntrue_X0_writtenSeal : GoodIn wsX0_isUntrue wsX0_writtenSeal := goodIn_r _ [14, 15, 16, 17, 4, 18, 46, 47, 48, 49, 50, 51, 52] (by decide +kernel) (by decide +kernel)
set_option maxRecDepth 20000 in
theorem gX0_isUntrue_X0_writtenSeal : GoodIn wsX0_isUntrue (wsV RX0 67 RX0 yX0_writtenSeal wsX0_writtenSeal) := goodIn_app (goodIn_of _ (by decide +kernel)) ggX0_isUntrue_X0_writtenSeal
theorem dX0_isUntrue_0 : decode cX0_isUntrue 0 = .ok (.aload_n 0, 1) := by decide +kernel
theorem dX0_isUntrue_1 : decode cX0_isUntrue 1 = .ok (.iload_n 1, 1) := by decide +kernel
theorem dX0_isUntrue_2 : decode cX0_isUntrue 2 = .ok (.invokevirtual 64, 3) := by decide +kernel
theorem dX0_isUntrue_5 : decode cX0_isUntrue 5 = .ok (.ifCond .ne 20, 3) := by decide +kernel
theorem dX0_isUntrue_8 : decode cX0_isUntrue 8 = .ok (.aload_n 0, 1) := by decide +kernel
theorem dX0_isUntrue_9 : decode cX0_isUntrue 9 = .ok (.iload_n 1, 1) := by decide +kernel
theorem dX0_isUntrue_10 : decode cX0_isUntrue 10 = .ok (.invokevirtual 49, 3) := by decide +kernel
theorem dX0_isUntrue_13 : decode cX0_isUntrue 13 = .ok (.aload_n 0, 1) := by decide +kernel
theorem dX0_isUntrue_14 : decode cX0_isUntrue 14 = .ok (.iload_n 1, 1) := by decide +kernel
theorem dX0_isUntrue_15 : decode cX0_isUntrue 15 = .ok (.invokevirtual 67, 3) := by decide +kernel
theorem dX0_isUntrue_18 : decode cX0_isUntrue 18 = .ok (.if_icmp .eq 7, 3) := by decide +kernel
theorem dX0_isUntrue_21 : decode cX0_isUntrue 21 = .ok (.iconst 1, 1) := by decide +kernel
theorem dX0_isUntrue_22 : decode cX0_isUntrue 22 = .ok (.goto 4, 3) := by decide +kernel
theorem dX0_isUntrue_25 : decode cX0_isUntrue 25 = .ok (.iconst 0, 1) := by decide +kernel
theorem dX0_isUntrue_26 : decode cX0_isUntrue 26 = .ok (.ireturn, 1) := by decide +kernel
set_option maxRecDepth 20000 in
theorem ggX0_reckonSeal_X0_writtenSeal : GoodIn wsX0_reckonSeal wsX0_writtenSeal := goodIn_r _ [5, 6, 7, 8, 4, 9, 37, 38, 39, 40, 41, 42, 43] (by decide +kernel) (by decide +kernel)
set_option maxRecDepth 20000 in
theorem gX0_reckonSeal_X0_writtenSeal : GoodIn wsX0_reckonSeal (wsV RX0 67 RX0 yX0_writtenSeal wsX0_writtenSeal) := goodIn_app (goodIn_of _ (by decide +kernel)) ggX0_reckonSeal_X0_writtenSeal
set_option maxRecDepth 20000 in
theorem ggX0_reckonSeal_X0_deedsIn : GoodIn wsX0_reckonSeal wsX0_deedsIn := goodIn_r _ [13, 14, 7, 8, 4, 9, 37, 38, 39, 40, 41, 42, 43] (by decide +kernel) (by decide +kernel)
set_option maxRecDepth 20000 in
theorem gX0_reckonSeal_X0_deedsIn : GoodIn wsX0_reckonSeal (wsV RX0 35 RX0 yX0_deedsIn wsX0_deedsIn) := goodIn_app (goodIn_of _ (by decide +kernel)) ggX0_reckonSeal_X0_deedsIn
set_option maxRecDepth 20000 in
theorem ggX0_reckonSeal_X0_slotOf : GoodIn wsX0_reckonSeal wsX0_slotOf := goodIn_r _ [18, 10, 11, 12, 4, 13, 14, 7, 8, 9, 37, 38, 39, 40, 41, 42, 43] (by decide +kernel) (by decide +kernel)
set_option maxRecDepth 20000 in
theorem gX0_reckonSeal_X0_slotOf : GoodIn wsX0_reckonSeal (wsV RX0 70 RX0 yX0_slotOf wsX0_slotOf) := goodIn_app (goodIn_of _ (by decide +kernel)) ggX0_reckonSeal_X0_slotOf
set_option maxRecDepth 20000 in
theorem ggX0_reckonSeal_X0_kindAt : GoodIn wsX0_reckonSeal wsX0_kindAt := goodIn_r _ [22, 23, 24, 25, 4, 26, 37, 38, 39, 40, 41, 42, 43] (by decide +kernel) (by decide +kernel)
set_option maxRecDepth 20000 in
theorem gX0_reckonSeal_X0_kindAt : GoodIn wsX0_reckonSeal (wsV RX0 73 RX0 yX0_kindAt wsX0_kindAt) := goodIn_app (goodIn_of _ (by decide +kernel)) ggX0_reckonSeal_X0_kindAt
set_option maxRecDepth 20000 in
theorem ggX0_reckonSeal_X0_oneAt : GoodIn wsX0_reckonSeal wsX0_oneAt := goodIn_r _ [30, 31, 24, 25, 4, 26, 37, 38, 39, 40, 41, 42, 43] (by decide +kernel) (by decide +kernel)
set_option maxRecDepth 20000 in
theorem gX0_reckonSeal_X0_oneAt : GoodIn wsX0_reckonSeal (wsV RX0 76 RX0 yX0_oneAt wsX0_oneAt) := goodIn_app (goodIn_of _ (by decide +kernel)) ggX0_reckonSeal_X0_oneAt
set_option maxRecDepth 20000 in
theorem ggX0_reckonSeal_X0_twoAt : GoodIn wsX0_reckonSeal wsX0_twoAt := goodIn_r _ [35, 36, 24, 25, 4, 26, 37, 38, 39, 40, 41, 42, 43] (by decide +kernel) (by decide +kernel)
set_option maxRecDepth 20000 in
theorem gX0_reckonSeal_X0_twoAt : GoodIn wsX0_reckonSeal (wsV RX0 79 RX0 yX0_twoAt wsX0_twoAt) := goodIn_app (goodIn_of _ (by decide +kernel)) ggX0_reckonSeal_X0_twoAt
theorem dX0_reckonSeal_0 : decode cX0_reckonSeal 0 = .ok (.aload_n 0, 1) := by decide +kernel
theorem dX0_reckonSeal_1 : decode cX0_reckonSeal 1 = .ok (.iload_n 1, 1) := by decide +kernel
theorem dX0_reckonSeal_2 : decode cX0_reckonSeal 2 = .ok (.iconst 1, 1) := by decide +kernel
theorem dX0_reckonSeal_3 : decode cX0_reckonSeal 3 = .ok (.isub, 1) := by decide +kernel
theorem dX0_reckonSeal_4 : decode cX0_reckonSeal 4 = .ok (.invokevirtual 67, 3) := by decide +kernel
theorem dX0_reckonSeal_7 : decode cX0_reckonSeal 7 = .ok (.istore_n 2, 1) := by decide +kernel
theorem dX0_reckonSeal_8 : decode cX0_reckonSeal 8 = .ok (.aload_n 0, 1) := by decide +kernel
theorem dX0_reckonSeal_9 : decode cX0_reckonSeal 9 = .ok (.iload_n 1, 1) := by decide +kernel
theorem dX0_reckonSeal_10 : decode cX0_reckonSeal 10 = .ok (.invokevirtual 35, 3) := by decide +kernel
theorem dX0_reckonSeal_13 : decode cX0_reckonSeal 13 = .ok (.istore_n 3, 1) := by decide +kernel
theorem dX0_reckonSeal_14 : decode cX0_reckonSeal 14 = .ok (.iconst 0, 1) := by decide +kernel
theorem dX0_reckonSeal_15 : decode cX0_reckonSeal 15 = .ok (.istore 4, 2) := by decide +kernel
theorem dX0_reckonSeal_17 : decode cX0_reckonSeal 17 = .ok (.iload 4, 2) := by decide +kernel
theorem dX0_reckonSeal_19 : decode cX0_reckonSeal 19 = .ok (.iload_n 3, 1) := by decide +kernel
theorem dX0_reckonSeal_20 : decode cX0_reckonSeal 20 = .ok (.if_icmp .ge 53, 3) := by decide +kernel
theorem dX0_reckonSeal_23 : decode cX0_reckonSeal 23 = .ok (.aload_n 0, 1) := by decide +kernel
theorem dX0_reckonSeal_24 : decode cX0_reckonSeal 24 = .ok (.iload_n 1, 1) := by decide +kernel
theorem dX0_reckonSeal_25 : decode cX0_reckonSeal 25 = .ok (.iload 4, 2) := by decide +kernel
theorem dX0_reckonSeal_27 : decode cX0_reckonSeal 27 = .ok (.invokevirtual 70, 3) := by decide +kernel
theorem dX0_reckonSeal_30 : decode cX0_reckonSeal 30 = .ok (.istore 5, 2) := by decide +kernel
theorem dX0_reckonSeal_32 : decode cX0_reckonSeal 32 = .ok (.iload_n 2, 1) := by decide +kernel
theorem dX0_reckonSeal_33 : decode cX0_reckonSeal 33 = .ok (.bipush 31, 2) := by decide +kernel
theorem dX0_reckonSeal_35 : decode cX0_reckonSeal 35 = .ok (.imul, 1) := by decide +kernel
theorem dX0_reckonSeal_36 : decode cX0_reckonSeal 36 = .ok (.aload_n 0, 1) := by decide +kernel
theorem dX0_reckonSeal_37 : decode cX0_reckonSeal 37 = .ok (.iload 5, 2) := by decide +kernel
theorem dX0_reckonSeal_39 : decode cX0_reckonSeal 39 = .ok (.invokevirtual 73, 3) := by decide +kernel
theorem dX0_reckonSeal_42 : decode cX0_reckonSeal 42 = .ok (.iadd, 1) := by decide +kernel
theorem dX0_reckonSeal_43 : decode cX0_reckonSeal 43 = .ok (.aload_n 0, 1) := by decide +kernel
theorem dX0_reckonSeal_44 : decode cX0_reckonSeal 44 = .ok (.iload 5, 2) := by decide +kernel
theorem dX0_reckonSeal_46 : decode cX0_reckonSeal 46 = .ok (.invokevirtual 76, 3) := by decide +kernel
theorem dX0_reckonSeal_49 : decode cX0_reckonSeal 49 = .ok (.iconst 5, 1) := by decide +kernel
theorem dX0_reckonSeal_50 : decode cX0_reckonSeal 50 = .ok (.imul, 1) := by decide +kernel
theorem dX0_reckonSeal_51 : decode cX0_reckonSeal 51 = .ok (.iadd, 1) := by decide +kernel
theorem dX0_reckonSeal_52 : decode cX0_reckonSeal 52 = .ok (.aload_n 0, 1) := by decide +kernel
theorem dX0_reckonSeal_53 : decode cX0_reckonSeal 53 = .ok (.iload 5, 2) := by decide +kernel
theorem dX0_reckonSeal_55 : decode cX0_reckonSeal 55 = .ok (.invokevirtual 79, 3) := by decide +kernel
theorem dX0_reckonSeal_58 : decode cX0_reckonSeal 58 = .ok (.bipush 7, 2) := by decide +kernel
theorem dX0_reckonSeal_60 : decode cX0_reckonSeal 60 = .ok (.imul, 1) := by decide +kernel
theorem dX0_reckonSeal_61 : decode cX0_reckonSeal 61 = .ok (.iadd, 1) := by decide +kernel
theorem dX0_reckonSeal_62 : decode cX0_reckonSeal 62 = .ok (.sipush 10007, 3) := by decide +kernel
theorem dX0_reckonSeal_65 : decode cX0_reckonSeal 65 = .ok (.irem, 1) := by decide +kernel
theorem dX0_reckonSeal_66 : decode cX0_reckonSeal 66 = .ok (.istore_n 2, 1) := by decide +kernel
theorem dX0_reckonSeal_67 : decode cX0_reckonSeal 67 = .ok (.iinc 4 1, 3) := by decide +kernel
theorem dX0_reckonSeal_70 : decode cX0_reckonSeal 70 = .ok (.goto (-53), 3) := by decide +kernel
theorem dX0_reckonSeal_73 : decode cX0_reckonSeal 73 = .ok (.iload_n 2, 1) := by decide +kernel
theorem dX0_reckonSeal_74 : decode cX0_reckonSeal 74 = .ok (.ireturn, 1) := by decide +kernel
set_option maxRecDepth 20000 in
theorem ggX0_doAgain_X0_deedsIn : GoodIn wsX0_doAgain wsX0_deedsIn := goodIn_r _ [5, 6, 7, 8, 4, 9, 60, 61, 62, 63, 64, 65, 66] (by decide +kernel) (by decide +kernel)
set_option maxRecDepth 20000 in
theorem gX0_doAgain_X0_deedsIn : GoodIn wsX0_doAgain (wsV RX0 35 RX0 yX0_deedsIn wsX0_deedsIn) := goodIn_app (goodIn_of _ (by decide +kernel)) ggX0_doAgain_X0_deedsIn
set_option maxRecDepth 20000 in
theorem ggX0_doAgain_X0_slotOf : GoodIn wsX0_doAgain wsX0_slotOf := goodIn_r _ [13, 1, 2, 3, 4, 5, 6, 7, 8, 9, 60, 61, 62, 63, 64, 65, 66] (by decide +kernel) (by decide +kernel)
set_option maxRecDepth 20000 in
theorem gX0_doAgain_X0_slotOf : GoodIn wsX0_doAgain (wsV RX0 70 RX0 yX0_slotOf wsX0_slotOf) := goodIn_app (goodIn_of _ (by decide +kernel)) ggX0_doAgain_X0_slotOf
set_option maxRecDepth 20000 in
theorem ggX0_doAgain_X0_kindAt : GoodIn wsX0_doAgain wsX0_kindAt := goodIn_r _ [17, 18, 19, 20, 4, 21, 60, 61, 62, 63, 64, 65, 66] (by decide +kernel) (by decide +kernel)
set_option maxRecDepth 20000 in
theorem gX0_doAgain_X0_kindAt : GoodIn wsX0_doAgain (wsV RX0 73 RX0 yX0_kindAt wsX0_kindAt) := goodIn_app (goodIn_of _ (by decide +kernel)) ggX0_doAgain_X0_kindAt
set_option maxRecDepth 20000 in
theorem ggX0_doAgain_X0_oneAt : GoodIn wsX0_doAgain wsX0_oneAt := goodIn_r _ [25, 26, 19, 20, 4, 21, 60, 61, 62, 63, 64, 65, 66] (by decide +kernel) (by decide +kernel)
set_option maxRecDepth 20000 in
theorem gX0_doAgain_X0_oneAt : GoodIn wsX0_doAgain (wsV RX0 76 RX0 yX0_oneAt wsX0_oneAt) := goodIn_app (goodIn_of _ (by decide +kernel)) ggX0_doAgain_X0_oneAt
set_option maxRecDepth 20000 in
theorem ggX0_doAgain_X0_twoAt : GoodIn wsX0_doAgain wsX0_twoAt := goodIn_r _ [30, 31, 19, 20, 4, 21, 60, 61, 62, 63, 64, 65, 66] (by decide +kernel) (by decide +kernel)
set_option maxRecDepth 20000 in
theorem gX0_doAgain_X0_twoAt : GoodIn wsX0_doAgain (wsV RX0 79 RX0 yX0_twoAt wsX0_twoAt) := goodIn_app (goodIn_of _ (by decide +kernel)) ggX0_doAgain_X0_twoAt
set_option maxRecDepth 20000 in
theorem ggX0_doAgain_X2_perform : GoodIn wsX0_doAgain wsX2_perform := goodIn_r _ [36, 37, 38, 39, 40, 41, 42, 43, 44, 45, 46, 35, 47, 48, 49, 50, 51, 52, 53, 54, 55, 56, 57, 58, 59, 67] (by decide +kernel) (by decide +kernel)
set_option maxRecDepth 20000 in
theorem gX0_doAgain_X2_perform : GoodIn wsX0_doAgain (wsV RX0 82 RX2 yX2_perform wsX2_perform) := goodIn_app (goodIn_of _ (by decide +kernel)) ggX0_doAgain_X2_perform
theorem dX0_doAgain_0 : decode cX0_doAgain 0 = .ok (.aload_n 0, 1) := by decide +kernel
theorem dX0_doAgain_1 : decode cX0_doAgain 1 = .ok (.iload_n 1, 1) := by decide +kernel
theorem dX0_doAgain_2 : decode cX0_doAgain 2 = .ok (.invokevirtual 35, 3) := by decide +kernel
theorem dX0_doAgain_5 : decode cX0_doAgain 5 = .ok (.istore_n 3, 1) := by decide +kernel
theorem dX0_doAgain_6 : decode cX0_doAgain 6 = .ok (.iconst 0, 1) := by decide +kernel
theorem dX0_doAgain_7 : decode cX0_doAgain 7 = .ok (.istore 4, 2) := by decide +kernel
theorem dX0_doAgain_9 : decode cX0_doAgain 9 = .ok (.iload 4, 2) := by decide +kernel
theorem dX0_doAgain_11 : decode cX0_doAgain 11 = .ok (.iload_n 3, 1) := by decide +kernel
theorem dX0_doAgain_12 : decode cX0_doAgain 12 = .ok (.if_icmp .ge 40, 3) := by decide +kernel
theorem dX0_doAgain_15 : decode cX0_doAgain 15 = .ok (.aload_n 0, 1) := by decide +kernel
theorem dX0_doAgain_16 : decode cX0_doAgain 16 = .ok (.iload_n 1, 1) := by decide +kernel
theorem dX0_doAgain_17 : decode cX0_doAgain 17 = .ok (.iload 4, 2) := by decide +kernel
theorem dX0_doAgain_19 : decode cX0_doAgain 19 = .ok (.invokevirtual 70, 3) := by decide +kernel
theorem dX0_doAgain_22 : decode cX0_doAgain 22 = .ok (.istore 5, 2) := by decide +kernel
theorem dX0_doAgain_24 : decode cX0_doAgain 24 = .ok (.aload_n 2, 1) := by decide +kernel
theorem dX0_doAgain_25 : decode cX0_doAgain 25 = .ok (.aload_n 0, 1) := by decide +kernel
theorem dX0_doAgain_26 : decode cX0_doAgain 26 = .ok (.iload 5, 2) := by decide +kernel
theorem dX0_doAgain_28 : decode cX0_doAgain 28 = .ok (.invokevirtual 73, 3) := by decide +kernel
theorem dX0_doAgain_31 : decode cX0_doAgain 31 = .ok (.aload_n 0, 1) := by decide +kernel
theorem dX0_doAgain_32 : decode cX0_doAgain 32 = .ok (.iload 5, 2) := by decide +kernel
theorem dX0_doAgain_34 : decode cX0_doAgain 34 = .ok (.invokevirtual 76, 3) := by decide +kernel
theorem dX0_doAgain_37 : decode cX0_doAgain 37 = .ok (.aload_n 0, 1) := by decide +kernel
theorem dX0_doAgain_38 : decode cX0_doAgain 38 = .ok (.iload 5, 2) := by decide +kernel
theorem dX0_doAgain_40 : decode cX0_doAgain 40 = .ok (.invokevirtual 79, 3) := by decide +kernel
theorem dX0_doAgain_43 : decode cX0_doAgain 43 = .ok (.invokevirtual 82, 3) := by decide +kernel
theorem dX0_doAgain_46 : decode cX0_doAgain 46 = .ok (.iinc 4 1, 3) := by decide +kernel
theorem dX0_doAgain_49 : decode cX0_doAgain 49 = .ok (.goto (-40), 3) := by decide +kernel
theorem dX0_doAgain_52 : decode cX0_doAgain 52 = .ok (.return_, 1) := by decide +kernel
theorem dX1_init_0 : decode cX1_init 0 = .ok (.aload_n 0, 1) := by decide +kernel
theorem dX1_init_1 : decode cX1_init 1 = .ok (.invokespecial 3, 3) := by decide +kernel
theorem dX1_init_4 : decode cX1_init 4 = .ok (.aload_n 0, 1) := by decide +kernel
theorem dX1_init_5 : decode cX1_init 5 = .ok (.bipush 6, 2) := by decide +kernel
theorem dX1_init_7 : decode cX1_init 7 = .ok (.newarray .int, 2) := by decide +kernel
theorem dX1_init_9 : decode cX1_init 9 = .ok (.putfield 9, 3) := by decide +kernel
theorem dX1_init_12 : decode cX1_init 12 = .ok (.aload_n 0, 1) := by decide +kernel
theorem dX1_init_13 : decode cX1_init 13 = .ok (.bipush 48, 2) := by decide +kernel
theorem dX1_init_15 : decode cX1_init 15 = .ok (.newarray .int, 2) := by decide +kernel
theorem dX1_init_17 : decode cX1_init 17 = .ok (.putfield 15, 3) := by decide +kernel
theorem dX1_init_20 : decode cX1_init 20 = .ok (.return_, 1) := by decide +kernel
theorem dX1_count_0 : decode cX1_count 0 = .ok (.aload_n 0, 1) := by decide +kernel
theorem dX1_count_1 : decode cX1_count 1 = .ok (.getfield 18, 3) := by decide +kernel
theorem dX1_count_4 : decode cX1_count 4 = .ok (.ireturn, 1) := by decide +kernel
theorem dX1_has_0 : decode cX1_has 0 = .ok (.iload_n 1, 1) := by decide +kernel
theorem dX1_has_1 : decode cX1_has 1 = .ok (.ifCond .lt 21, 3) := by decide +kernel
theorem dX1_has_4 : decode cX1_has 4 = .ok (.iload_n 1, 1) := by decide +kernel
theorem dX1_has_5 : decode cX1_has 5 = .ok (.aload_n 0, 1) := by decide +kernel
theorem dX1_has_6 : decode cX1_has 6 = .ok (.getfield 18, 3) := by decide +kernel
theorem dX1_has_9 : decode cX1_has 9 = .ok (.if_icmp .ge 13, 3) := by decide +kernel
theorem dX1_has_12 : decode cX1_has 12 = .ok (.iload_n 1, 1) := by decide +kernel
theorem dX1_has_13 : decode cX1_has 13 = .ok (.bipush 6, 2) := by decide +kernel
theorem dX1_has_15 : decode cX1_has 15 = .ok (.if_icmp .ge 7, 3) := by decide +kernel
theorem dX1_has_18 : decode cX1_has 18 = .ok (.iconst 1, 1) := by decide +kernel
theorem dX1_has_19 : decode cX1_has 19 = .ok (.goto 4, 3) := by decide +kernel
theorem dX1_has_22 : decode cX1_has 22 = .ok (.iconst 0, 1) := by decide +kernel
theorem dX1_has_23 : decode cX1_has 23 = .ok (.ireturn, 1) := by decide +kernel
set_option maxRecDepth 20000 in
theorem ggX1_yearAt_X1_has : GoodIn wsX1_yearAt wsX1_has := goodIn_r _ [6, 7, 8, 9, 10] (by decide +kernel) (by decide +kernel)
set_option maxRecDepth 20000 in
theorem gX1_yearAt_X1_has : GoodIn wsX1_yearAt (wsV RX1 22 RX1 yX1_has wsX1_has) := goodIn_app (goodIn_of _ (by decide +kernel)) ggX1_yearAt_X1_has
theorem dX1_yearAt_0 : decode cX1_yearAt 0 = .ok (.aload_n 0, 1) := by decide +kernel
theorem dX1_yearAt_1 : decode cX1_yearAt 1 = .ok (.iload_n 1, 1) := by decide +kernel
theorem dX1_yearAt_2 : decode cX1_yearAt 2 = .ok (.invokevirtual 22, 3) := by decide +kernel
theorem dX1_yearAt_5 : decode cX1_yearAt 5 = .ok (.ifCond .eq 12, 3) := by decide +kernel
theorem dX1_yearAt_8 : decode cX1_yearAt 8 = .ok (.aload_n 0, 1) := by decide +kernel
theorem dX1_yearAt_9 : decode cX1_yearAt 9 = .ok (.getfield 9, 3) := by decide +kernel
theorem dX1_yearAt_12 : decode cX1_yearAt 12 = .ok (.iload_n 1, 1) := by decide +kernel
theorem dX1_yearAt_13 : decode cX1_yearAt 13 = .ok (.iaload, 1) := by decide +kernel
theorem dX1_yearAt_14 : decode cX1_yearAt 14 = .ok (.goto 4, 3) := by decide +kernel
theorem dX1_yearAt_17 : decode cX1_yearAt 17 = .ok (.iconst (-1), 1) := by decide +kernel
theorem dX1_yearAt_18 : decode cX1_yearAt 18 = .ok (.ireturn, 1) := by decide +kernel
set_option maxRecDepth 20000 in
theorem ggX1_find_X1_latestUpTo : GoodIn wsX1_find wsX1_latestUpTo := goodIn_r _ [5, 6, 7, 8, 9, 4, 10, 11, 12, 13, 14, 15, 16, 17, 18] (by decide +kernel) (by decide +kernel)
set_option maxRecDepth 20000 in
theorem gX1_find_X1_latestUpTo : GoodIn wsX1_find (wsV RX1 26 RX1 yX1_latestUpTo wsX1_latestUpTo) := goodIn_app (goodIn_of _ (by decide +kernel)) ggX1_find_X1_latestUpTo
set_option maxRecDepth 20000 in
theorem ggX1_find_X1_yearAt : GoodIn wsX1_find wsX1_yearAt := goodIn_r _ [10, 11, 12, 13, 14, 4, 15, 6, 16, 17, 18] (by decide +kernel) (by decide +kernel)
set_option maxRecDepth 20000 in
theorem gX1_find_X1_yearAt : GoodIn wsX1_find (wsV RX1 30 RX1 yX1_yearAt wsX1_yearAt) := goodIn_app (goodIn_of _ (by decide +kernel)) ggX1_find_X1_yearAt
theorem dX1_find_0 : decode cX1_find 0 = .ok (.aload_n 0, 1) := by decide +kernel
theorem dX1_find_1 : decode cX1_find 1 = .ok (.iload_n 1, 1) := by decide +kernel
theorem dX1_find_2 : decode cX1_find 2 = .ok (.invokevirtual 26, 3) := by decide +kernel
theorem dX1_find_5 : decode cX1_find 5 = .ok (.istore_n 2, 1) := by decide +kernel
theorem dX1_find_6 : decode cX1_find 6 = .ok (.iload_n 2, 1) := by decide +kernel
theorem dX1_find_7 : decode cX1_find 7 = .ok (.iconst (-1), 1) := by decide +kernel
theorem dX1_find_8 : decode cX1_find 8 = .ok (.if_icmp .eq 16, 3) := by decide +kernel
theorem dX1_find_11 : decode cX1_find 11 = .ok (.aload_n 0, 1) := by decide +kernel
theorem dX1_find_12 : decode cX1_find 12 = .ok (.iload_n 2, 1) := by decide +kernel
theorem dX1_find_13 : decode cX1_find 13 = .ok (.invokevirtual 30, 3) := by decide +kernel
theorem dX1_find_16 : decode cX1_find 16 = .ok (.iload_n 1, 1) := by decide +kernel
theorem dX1_find_17 : decode cX1_find 17 = .ok (.if_icmp .ne 7, 3) := by decide +kernel
theorem dX1_find_20 : decode cX1_find 20 = .ok (.iload_n 2, 1) := by decide +kernel
theorem dX1_find_21 : decode cX1_find 21 = .ok (.goto 4, 3) := by decide +kernel
theorem dX1_find_24 : decode cX1_find 24 = .ok (.iconst (-1), 1) := by decide +kernel
theorem dX1_find_25 : decode cX1_find 25 = .ok (.ireturn, 1) := by decide +kernel
set_option maxRecDepth 20000 in
theorem ggX1_latestUpTo_X1_yearAt : GoodIn wsX1_latestUpTo wsX1_yearAt := goodIn_r _ [6, 7, 8, 9, 10, 5, 11, 1, 12, 13, 14] (by decide +kernel) (by decide +kernel)
set_option maxRecDepth 20000 in
theorem gX1_latestUpTo_X1_yearAt : GoodIn wsX1_latestUpTo (wsV RX1 30 RX1 yX1_yearAt wsX1_yearAt) := goodIn_app (goodIn_of _ (by decide +kernel)) ggX1_latestUpTo_X1_yearAt
theorem dX1_latestUpTo_0 : decode cX1_latestUpTo 0 = .ok (.iconst (-1), 1) := by decide +kernel
theorem dX1_latestUpTo_1 : decode cX1_latestUpTo 1 = .ok (.istore_n 2, 1) := by decide +kernel
theorem dX1_latestUpTo_2 : decode cX1_latestUpTo 2 = .ok (.iconst 0, 1) := by decide +kernel
theorem dX1_latestUpTo_3 : decode cX1_latestUpTo 3 = .ok (.istore_n 3, 1) := by decide +kernel
theorem dX1_latestUpTo_4 : decode cX1_latestUpTo 4 = .ok (.iload_n 3, 1) := by decide +kernel
theorem dX1_latestUpTo_5 : decode cX1_latestUpTo 5 = .ok (.aload_n 0, 1) := by decide +kernel
theorem dX1_latestUpTo_6 : decode cX1_latestUpTo 6 = .ok (.getfield 18, 3) := by decide +kernel
theorem dX1_latestUpTo_9 : decode cX1_latestUpTo 9 = .ok (.if_icmp .ge 20, 3) := by decide +kernel
theorem dX1_latestUpTo_12 : decode cX1_latestUpTo 12 = .ok (.aload_n 0, 1) := by decide +kernel
theorem dX1_latestUpTo_13 : decode cX1_latestUpTo 13 = .ok (.iload_n 3, 1) := by decide +kernel
theorem dX1_latestUpTo_14 : decode cX1_latestUpTo 14 = .ok (.invokevirtual 30, 3) := by decide +kernel
theorem dX1_latestUpTo_17 : decode cX1_latestUpTo 17 = .ok (.iload_n 1, 1) := by decide +kernel
theorem dX1_latestUpTo_18 : decode cX1_latestUpTo 18 = .ok (.if_icmp .gt 5, 3) := by decide +kernel
theorem dX1_latestUpTo_21 : decode cX1_latestUpTo 21 = .ok (.iload_n 3, 1) := by decide +kernel
theorem dX1_latestUpTo_22 : decode cX1_latestUpTo 22 = .ok (.istore_n 2, 1) := by decide +kernel
theorem dX1_latestUpTo_23 : decode cX1_latestUpTo 23 = .ok (.iinc 3 1, 3) := by decide +kernel
theorem dX1_latestUpTo_26 : decode cX1_latestUpTo 26 = .ok (.goto (-22), 3) := by decide +kernel
theorem dX1_latestUpTo_29 : decode cX1_latestUpTo 29 = .ok (.iload_n 2, 1) := by decide +kernel
theorem dX1_latestUpTo_30 : decode cX1_latestUpTo 30 = .ok (.ireturn, 1) := by decide +kernel
set_option maxRecDepth 20000 in
theorem ggX1_firstYearBehind_X1_yearAt : GoodIn wsX1_firstYearBehind wsX1_yearAt := goodIn_r _ [6, 7, 8, 9, 10, 5, 11, 1, 12, 13, 14] (by decide +kernel) (by decide +kernel)
set_option maxRecDepth 20000 in
theorem gX1_firstYearBehind_X1_yearAt : GoodIn wsX1_firstYearBehind (wsV RX1 30 RX1 yX1_yearAt wsX1_yearAt) := goodIn_app (goodIn_of _ (by decide +kernel)) ggX1_firstYearBehind_X1_yearAt
theorem dX1_firstYearBehind_0 : decode cX1_firstYearBehind 0 = .ok (.iconst 0, 1) := by decide +kernel
theorem dX1_firstYearBehind_1 : decode cX1_firstYearBehind 1 = .ok (.istore_n 3, 1) := by decide +kernel
theorem dX1_firstYearBehind_2 : decode cX1_firstYearBehind 2 = .ok (.iload_n 3, 1) := by decide +kernel
theorem dX1_firstYearBehind_3 : decode cX1_firstYearBehind 3 = .ok (.aload_n 0, 1) := by decide +kernel
theorem dX1_firstYearBehind_4 : decode cX1_firstYearBehind 4 = .ok (.getfield 18, 3) := by decide +kernel
theorem dX1_firstYearBehind_7 : decode cX1_firstYearBehind 7 = .ok (.if_icmp .ge 24, 3) := by decide +kernel
theorem dX1_firstYearBehind_10 : decode cX1_firstYearBehind 10 = .ok (.aload_n 0, 1) := by decide +kernel
theorem dX1_firstYearBehind_11 : decode cX1_firstYearBehind 11 = .ok (.iload_n 3, 1) := by decide +kernel
theorem dX1_firstYearBehind_12 : decode cX1_firstYearBehind 12 = .ok (.invokevirtual 30, 3) := by decide +kernel
theorem dX1_firstYearBehind_15 : decode cX1_firstYearBehind 15 = .ok (.iload_n 1, 1) := by decide +kernel
theorem dX1_firstYearBehind_16 : decode cX1_firstYearBehind 16 = .ok (.if_icmp .le 9, 3) := by decide +kernel
theorem dX1_firstYearBehind_19 : decode cX1_firstYearBehind 19 = .ok (.aload_n 0, 1) := by decide +kernel
theorem dX1_firstYearBehind_20 : decode cX1_firstYearBehind 20 = .ok (.iload_n 3, 1) := by decide +kernel
theorem dX1_firstYearBehind_21 : decode cX1_firstYearBehind 21 = .ok (.invokevirtual 30, 3) := by decide +kernel
theorem dX1_firstYearBehind_24 : decode cX1_firstYearBehind 24 = .ok (.ireturn, 1) := by decide +kernel
theorem dX1_firstYearBehind_25 : decode cX1_firstYearBehind 25 = .ok (.iinc 3 1, 3) := by decide +kernel
theorem dX1_firstYearBehind_28 : decode cX1_firstYearBehind 28 = .ok (.goto (-26), 3) := by decide +kernel
theorem dX1_firstYearBehind_31 : decode cX1_firstYearBehind 31 = .ok (.iload_n 2, 1) := by decide +kernel
theorem dX1_firstYearBehind_32 : decode cX1_firstYearBehind 32 = .ok (.ireturn, 1) := by decide +kernel
set_option maxRecDepth 20000 in
theorem ggX1_draw_X1_remove : GoodIn wsX1_draw wsX1_remove := goodIn_r _ [8, 1, 2, 3, 9, 10, 11, 7, 12, 22, 23, 24] (by decide +kernel) (by decide +kernel)
set_option maxRecDepth 20000 in
theorem gX1_draw_X1_remove : GoodIn wsX1_draw (wsV RX1 33 RX1 yX1_remove wsX1_remove) := goodIn_app (goodIn_of _ (by decide +kernel)) ggX1_draw_X1_remove
set_option maxRecDepth 20000 in
theorem ggX1_draw_X2_heightAt : GoodIn wsX1_draw wsX2_heightAt := goodIn_r _ [17, 18, 19, 20, 16, 21, 25] (by decide +kernel) (by decide +kernel)
set_option maxRecDepth 20000 in
theorem gX1_draw_X2_heightAt : GoodIn wsX1_draw (wsV RX1 37 RX2 yX2_heightAt wsX2_heightAt) := goodIn_app (goodIn_of _ (by decide +kernel)) ggX1_draw_X2_heightAt
theorem dX1_draw_0 : decode cX1_draw 0 = .ok (.aload_n 0, 1) := by decide +kernel
theorem dX1_draw_1 : decode cX1_draw 1 = .ok (.getfield 18, 3) := by decide +kernel
theorem dX1_draw_4 : decode cX1_draw 4 = .ok (.bipush 6, 2) := by decide +kernel
theorem dX1_draw_6 : decode cX1_draw 6 = .ok (.if_icmp .lt 8, 3) := by decide +kernel
theorem dX1_draw_9 : decode cX1_draw 9 = .ok (.aload_n 0, 1) := by decide +kernel
theorem dX1_draw_10 : decode cX1_draw 10 = .ok (.iconst 0, 1) := by decide +kernel
theorem dX1_draw_11 : decode cX1_draw 11 = .ok (.invokevirtual 33, 3) := by decide +kernel
theorem dX1_draw_14 : decode cX1_draw 14 = .ok (.aload_n 0, 1) := by decide +kernel
theorem dX1_draw_15 : decode cX1_draw 15 = .ok (.getfield 18, 3) := by decide +kernel
theorem dX1_draw_18 : decode cX1_draw 18 = .ok (.istore_n 3, 1) := by decide +kernel
theorem dX1_draw_19 : decode cX1_draw 19 = .ok (.iload_n 3, 1) := by decide +kernel
theorem dX1_draw_20 : decode cX1_draw 20 = .ok (.ifCond .lt 9, 3) := by decide +kernel
theorem dX1_draw_23 : decode cX1_draw 23 = .ok (.iload_n 3, 1) := by decide +kernel
theorem dX1_draw_24 : decode cX1_draw 24 = .ok (.bipush 6, 2) := by decide +kernel
theorem dX1_draw_26 : decode cX1_draw 26 = .ok (.if_icmp .lt 4, 3) := by decide +kernel
theorem dX1_draw_29 : decode cX1_draw 29 = .ok (.return_, 1) := by decide +kernel
theorem dX1_draw_30 : decode cX1_draw 30 = .ok (.aload_n 0, 1) := by decide +kernel
theorem dX1_draw_31 : decode cX1_draw 31 = .ok (.dup, 1) := by decide +kernel
theorem dX1_draw_32 : decode cX1_draw 32 = .ok (.getfield 18, 3) := by decide +kernel
theorem dX1_draw_35 : decode cX1_draw 35 = .ok (.iconst 1, 1) := by decide +kernel
theorem dX1_draw_36 : decode cX1_draw 36 = .ok (.iadd, 1) := by decide +kernel
theorem dX1_draw_37 : decode cX1_draw 37 = .ok (.putfield 18, 3) := by decide +kernel
theorem dX1_draw_40 : decode cX1_draw 40 = .ok (.aload_n 0, 1) := by decide +kernel
theorem dX1_draw_41 : decode cX1_draw 41 = .ok (.getfield 9, 3) := by decide +kernel
theorem dX1_draw_44 : decode cX1_draw 44 = .ok (.iload_n 3, 1) := by decide +kernel
theorem dX1_draw_45 : decode cX1_draw 45 = .ok (.iload_n 1, 1) := by decide +kernel
theorem dX1_draw_46 : decode cX1_draw 46 = .ok (.iastore, 1) := by decide +kernel
theorem dX1_draw_47 : decode cX1_draw 47 = .ok (.iconst 0, 1) := by decide +kernel
theorem dX1_draw_48 : decode cX1_draw 48 = .ok (.istore 4, 2) := by decide +kernel
theorem dX1_draw_50 : decode cX1_draw 50 = .ok (.iload 4, 2) := by decide +kernel
theorem dX1_draw_52 : decode cX1_draw 52 = .ok (.bipush 8, 2) := by decide +kernel
theorem dX1_draw_54 : decode cX1_draw 54 = .ok (.if_icmp .ge 27, 3) := by decide +kernel
theorem dX1_draw_57 : decode cX1_draw 57 = .ok (.aload_n 0, 1) := by decide +kernel
theorem dX1_draw_58 : decode cX1_draw 58 = .ok (.getfield 15, 3) := by decide +kernel
theorem dX1_draw_61 : decode cX1_draw 61 = .ok (.iload_n 3, 1) := by decide +kernel
theorem dX1_draw_62 : decode cX1_draw 62 = .ok (.bipush 8, 2) := by decide +kernel
theorem dX1_draw_64 : decode cX1_draw 64 = .ok (.imul, 1) := by decide +kernel
theorem dX1_draw_65 : decode cX1_draw 65 = .ok (.iload 4, 2) := by decide +kernel
theorem dX1_draw_67 : decode cX1_draw 67 = .ok (.iadd, 1) := by decide +kernel
theorem dX1_draw_68 : decode cX1_draw 68 = .ok (.aload_n 2, 1) := by decide +kernel
theorem dX1_draw_69 : decode cX1_draw 69 = .ok (.iload 4, 2) := by decide +kernel
theorem dX1_draw_71 : decode cX1_draw 71 = .ok (.invokevirtual 37, 3) := by decide +kernel
theorem dX1_draw_74 : decode cX1_draw 74 = .ok (.iastore, 1) := by decide +kernel
theorem dX1_draw_75 : decode cX1_draw 75 = .ok (.iinc 4 1, 3) := by decide +kernel
theorem dX1_draw_78 : decode cX1_draw 78 = .ok (.goto (-28), 3) := by decide +kernel
theorem dX1_draw_81 : decode cX1_draw 81 = .ok (.return_, 1) := by decide +kernel
set_option maxRecDepth 20000 in
theorem ggX1_remove_X1_has : GoodIn wsX1_remove wsX1_has := goodIn_r _ [8, 1, 9, 10, 11] (by decide +kernel) (by decide +kernel)
set_option maxRecDepth 20000 in
theorem gX1_remove_X1_has : GoodIn wsX1_remove (wsV RX1 22 RX1 yX1_has wsX1_has) := goodIn_app (goodIn_of _ (by decide +kernel)) ggX1_remove_X1_has
theorem dX1_remove_0 : decode cX1_remove 0 = .ok (.aload_n 0, 1) := by decide +kernel
theorem dX1_remove_1 : decode cX1_remove 1 = .ok (.iload_n 1, 1) := by decide +kernel
theorem dX1_remove_2 : decode cX1_remove 2 = .ok (.invokevirtual 22, 3) := by decide +kernel
theorem dX1_remove_5 : decode cX1_remove 5 = .ok (.ifCond .ne 4, 3) := by decide +kernel
theorem dX1_remove_8 : decode cX1_remove 8 = .ok (.return_, 1) := by decide +kernel
theorem dX1_remove_9 : decode cX1_remove 9 = .ok (.iload_n 1, 1) := by decide +kernel
theorem dX1_remove_10 : decode cX1_remove 10 = .ok (.istore_n 2, 1) := by decide +kernel
theorem dX1_remove_11 : decode cX1_remove 11 = .ok (.iload_n 2, 1) := by decide +kernel
theorem dX1_remove_12 : decode cX1_remove 12 = .ok (.iconst 1, 1) := by decide +kernel
theorem dX1_remove_13 : decode cX1_remove 13 = .ok (.iadd, 1) := by decide +kernel
theorem dX1_remove_14 : decode cX1_remove 14 = .ok (.aload_n 0, 1) := by decide +kernel
theorem dX1_remove_15 : decode cX1_remove 15 = .ok (.getfield 18, 3) := by decide +kernel
theorem dX1_remove_18 : decode cX1_remove 18 = .ok (.if_icmp .ge 69, 3) := by decide +kernel
theorem dX1_remove_21 : decode cX1_remove 21 = .ok (.iload_n 2, 1) := by decide +kernel
theorem dX1_remove_22 : decode cX1_remove 22 = .ok (.iconst 1, 1) := by decide +kernel
theorem dX1_remove_23 : decode cX1_remove 23 = .ok (.iadd, 1) := by decide +kernel
theorem dX1_remove_24 : decode cX1_remove 24 = .ok (.bipush 6, 2) := by decide +kernel
theorem dX1_remove_26 : decode cX1_remove 26 = .ok (.if_icmp .ge 61, 3) := by decide +kernel
theorem dX1_remove_29 : decode cX1_remove 29 = .ok (.aload_n 0, 1) := by decide +kernel
theorem dX1_remove_30 : decode cX1_remove 30 = .ok (.getfield 9, 3) := by decide +kernel
theorem dX1_remove_33 : decode cX1_remove 33 = .ok (.iload_n 2, 1) := by decide +kernel
theorem dX1_remove_34 : decode cX1_remove 34 = .ok (.aload_n 0, 1) := by decide +kernel
theorem dX1_remove_35 : decode cX1_remove 35 = .ok (.getfield 9, 3) := by decide +kernel
theorem dX1_remove_38 : decode cX1_remove 38 = .ok (.iload_n 2, 1) := by decide +kernel
theorem dX1_remove_39 : decode cX1_remove 39 = .ok (.iconst 1, 1) := by decide +kernel
theorem dX1_remove_40 : decode cX1_remove 40 = .ok (.iadd, 1) := by decide +kernel
theorem dX1_remove_41 : decode cX1_remove 41 = .ok (.iaload, 1) := by decide +kernel
theorem dX1_remove_42 : decode cX1_remove 42 = .ok (.iastore, 1) := by decide +kernel
theorem dX1_remove_43 : decode cX1_remove 43 = .ok (.iconst 0, 1) := by decide +kernel
theorem dX1_remove_44 : decode cX1_remove 44 = .ok (.istore_n 3, 1) := by decide +kernel
theorem dX1_remove_45 : decode cX1_remove 45 = .ok (.iload_n 3, 1) := by decide +kernel
theorem dX1_remove_46 : decode cX1_remove 46 = .ok (.bipush 8, 2) := by decide +kernel
theorem dX1_remove_48 : decode cX1_remove 48 = .ok (.if_icmp .ge 33, 3) := by decide +kernel
theorem dX1_remove_51 : decode cX1_remove 51 = .ok (.aload_n 0, 1) := by decide +kernel
theorem dX1_remove_52 : decode cX1_remove 52 = .ok (.getfield 15, 3) := by decide +kernel
theorem dX1_remove_55 : decode cX1_remove 55 = .ok (.iload_n 2, 1) := by decide +kernel
theorem dX1_remove_56 : decode cX1_remove 56 = .ok (.bipush 8, 2) := by decide +kernel
theorem dX1_remove_58 : decode cX1_remove 58 = .ok (.imul, 1) := by decide +kernel
theorem dX1_remove_59 : decode cX1_remove 59 = .ok (.iload_n 3, 1) := by decide +kernel
theorem dX1_remove_60 : decode cX1_remove 60 = .ok (.iadd, 1) := by decide +kernel
theorem dX1_remove_61 : decode cX1_remove 61 = .ok (.aload_n 0, 1) := by decide +kernel
theorem dX1_remove_62 : decode cX1_remove 62 = .ok (.getfield 15, 3) := by decide +kernel
theorem dX1_remove_65 : decode cX1_remove 65 = .ok (.iload_n 2, 1) := by decide +kernel
theorem dX1_remove_66 : decode cX1_remove 66 = .ok (.iconst 1, 1) := by decide +kernel
theorem dX1_remove_67 : decode cX1_remove 67 = .ok (.iadd, 1) := by decide +kernel
theorem dX1_remove_68 : decode cX1_remove 68 = .ok (.bipush 8, 2) := by decide +kernel
theorem dX1_remove_70 : decode cX1_remove 70 = .ok (.imul, 1) := by decide +kernel
theorem dX1_remove_71 : decode cX1_remove 71 = .ok (.iload_n 3, 1) := by decide +kernel
theorem dX1_remove_72 : decode cX1_remove 72 = .ok (.iadd, 1) := by decide +kernel
theorem dX1_remove_73 : decode cX1_remove 73 = .ok (.iaload, 1) := by decide +kernel
theorem dX1_remove_74 : decode cX1_remove 74 = .ok (.iastore, 1) := by decide +kernel
theorem dX1_remove_75 : decode cX1_remove 75 = .ok (.iinc 3 1, 3) := by decide +kernel
theorem dX1_remove_78 : decode cX1_remove 78 = .ok (.goto (-33), 3) := by decide +kernel
theorem dX1_remove_81 : decode cX1_remove 81 = .ok (.iinc 2 1, 3) := by decide +kernel
theorem dX1_remove_84 : decode cX1_remove 84 = .ok (.goto (-73), 3) := by decide +kernel
theorem dX1_remove_87 : decode cX1_remove 87 = .ok (.aload_n 0, 1) := by decide +kernel
theorem dX1_remove_88 : decode cX1_remove 88 = .ok (.dup, 1) := by decide +kernel
theorem dX1_remove_89 : decode cX1_remove 89 = .ok (.getfield 18, 3) := by decide +kernel
theorem dX1_remove_92 : decode cX1_remove 92 = .ok (.iconst 1, 1) := by decide +kernel
theorem dX1_remove_93 : decode cX1_remove 93 = .ok (.isub, 1) := by decide +kernel
theorem dX1_remove_94 : decode cX1_remove 94 = .ok (.putfield 18, 3) := by decide +kernel
theorem dX1_remove_97 : decode cX1_remove 97 = .ok (.return_, 1) := by decide +kernel
set_option maxRecDepth 20000 in
theorem ggX1_totalOf_X1_heightAt : GoodIn wsX1_totalOf wsX1_heightAt := goodIn_r _ [5, 6, 7, 8, 9, 4, 10, 11, 12, 13, 14] (by decide +kernel) (by decide +kernel)
set_option maxRecDepth 20000 in
theorem gX1_totalOf_X1_heightAt : GoodIn wsX1_totalOf (wsV RX1 42 RX1 yX1_heightAt wsX1_heightAt) := goodIn_app (goodIn_of _ (by decide +kernel)) ggX1_totalOf_X1_heightAt
theorem dX1_totalOf_0 : decode cX1_totalOf 0 = .ok (.iconst 0, 1) := by decide +kernel
theorem dX1_totalOf_1 : decode cX1_totalOf 1 = .ok (.istore_n 2, 1) := by decide +kernel
theorem dX1_totalOf_2 : decode cX1_totalOf 2 = .ok (.iconst 0, 1) := by decide +kernel
theorem dX1_totalOf_3 : decode cX1_totalOf 3 = .ok (.istore_n 3, 1) := by decide +kernel
theorem dX1_totalOf_4 : decode cX1_totalOf 4 = .ok (.iload_n 3, 1) := by decide +kernel
theorem dX1_totalOf_5 : decode cX1_totalOf 5 = .ok (.bipush 8, 2) := by decide +kernel
theorem dX1_totalOf_7 : decode cX1_totalOf 7 = .ok (.if_icmp .ge 18, 3) := by decide +kernel
theorem dX1_totalOf_10 : decode cX1_totalOf 10 = .ok (.iload_n 2, 1) := by decide +kernel
theorem dX1_totalOf_11 : decode cX1_totalOf 11 = .ok (.aload_n 0, 1) := by decide +kernel
theorem dX1_totalOf_12 : decode cX1_totalOf 12 = .ok (.iload_n 1, 1) := by decide +kernel
theorem dX1_totalOf_13 : decode cX1_totalOf 13 = .ok (.iload_n 3, 1) := by decide +kernel
theorem dX1_totalOf_14 : decode cX1_totalOf 14 = .ok (.invokevirtual 42, 3) := by decide +kernel
theorem dX1_totalOf_17 : decode cX1_totalOf 17 = .ok (.iadd, 1) := by decide +kernel
theorem dX1_totalOf_18 : decode cX1_totalOf 18 = .ok (.istore_n 2, 1) := by decide +kernel
theorem dX1_totalOf_19 : decode cX1_totalOf 19 = .ok (.iinc 3 1, 3) := by decide +kernel
theorem dX1_totalOf_22 : decode cX1_totalOf 22 = .ok (.goto (-18), 3) := by decide +kernel
theorem dX1_totalOf_25 : decode cX1_totalOf 25 = .ok (.iload_n 2, 1) := by decide +kernel
theorem dX1_totalOf_26 : decode cX1_totalOf 26 = .ok (.ireturn, 1) := by decide +kernel
set_option maxRecDepth 20000 in
theorem ggX1_putBack_X1_heightAt : GoodIn wsX1_putBack wsX1_heightAt := goodIn_r _ [5, 6, 7, 8, 9, 4, 10, 11, 21, 22, 23] (by decide +kernel) (by decide +kernel)
set_option maxRecDepth 20000 in
theorem gX1_putBack_X1_heightAt : GoodIn wsX1_putBack (wsV RX1 42 RX1 yX1_heightAt wsX1_heightAt) := goodIn_app (goodIn_of _ (by decide +kernel)) ggX1_putBack_X1_heightAt
set_option maxRecDepth 20000 in
theorem ggX1_putBack_X2_setHeight : GoodIn wsX1_putBack wsX2_setHeight := goodIn_r _ [16, 17, 18, 19, 15, 20, 24] (by decide +kernel) (by decide +kernel)
set_option maxRecDepth 20000 in
theorem gX1_putBack_X2_setHeight : GoodIn wsX1_putBack (wsV RX1 45 RX2 yX2_setHeight wsX2_setHeight) := goodIn_app (goodIn_of _ (by decide +kernel)) ggX1_putBack_X2_setHeight
theorem dX1_putBack_0 : decode cX1_putBack 0 = .ok (.iconst 0, 1) := by decide +kernel
theorem dX1_putBack_1 : decode cX1_putBack 1 = .ok (.istore_n 3, 1) := by decide +kernel
theorem dX1_putBack_2 : decode cX1_putBack 2 = .ok (.iload_n 3, 1) := by decide +kernel
theorem dX1_putBack_3 : decode cX1_putBack 3 = .ok (.bipush 8, 2) := by decide +kernel
theorem dX1_putBack_5 : decode cX1_putBack 5 = .ok (.if_icmp .ge 20, 3) := by decide +kernel
theorem dX1_putBack_8 : decode cX1_putBack 8 = .ok (.aload_n 2, 1) := by decide +kernel
theorem dX1_putBack_9 : decode cX1_putBack 9 = .ok (.iload_n 3, 1) := by decide +kernel
theorem dX1_putBack_10 : decode cX1_putBack 10 = .ok (.aload_n 0, 1) := by decide +kernel
theorem dX1_putBack_11 : decode cX1_putBack 11 = .ok (.iload_n 1, 1) := by decide +kernel
theorem dX1_putBack_12 : decode cX1_putBack 12 = .ok (.iload_n 3, 1) := by decide +kernel
theorem dX1_putBack_13 : decode cX1_putBack 13 = .ok (.invokevirtual 42, 3) := by decide +kernel
theorem dX1_putBack_16 : decode cX1_putBack 16 = .ok (.invokevirtual 45, 3) := by decide +kernel
theorem dX1_putBack_19 : decode cX1_putBack 19 = .ok (.iinc 3 1, 3) := by decide +kernel
theorem dX1_putBack_22 : decode cX1_putBack 22 = .ok (.goto (-20), 3) := by decide +kernel
theorem dX1_putBack_25 : decode cX1_putBack 25 = .ok (.return_, 1) := by decide +kernel
set_option maxRecDepth 20000 in
theorem ggX1_heightAt_X1_has : GoodIn wsX1_heightAt wsX1_has := goodIn_r _ [6, 7, 8, 9, 10] (by decide +kernel) (by decide +kernel)
set_option maxRecDepth 20000 in
theorem gX1_heightAt_X1_has : GoodIn wsX1_heightAt (wsV RX1 22 RX1 yX1_has wsX1_has) := goodIn_app (goodIn_of _ (by decide +kernel)) ggX1_heightAt_X1_has
theorem dX1_heightAt_0 : decode cX1_heightAt 0 = .ok (.aload_n 0, 1) := by decide +kernel
theorem dX1_heightAt_1 : decode cX1_heightAt 1 = .ok (.iload_n 1, 1) := by decide +kernel
theorem dX1_heightAt_2 : decode cX1_heightAt 2 = .ok (.invokevirtual 22, 3) := by decide +kernel
theorem dX1_heightAt_5 : decode cX1_heightAt 5 = .ok (.ifCond .eq 27, 3) := by decide +kernel
theorem dX1_heightAt_8 : decode cX1_heightAt 8 = .ok (.iload_n 2, 1) := by decide +kernel
theorem dX1_heightAt_9 : decode cX1_heightAt 9 = .ok (.ifCond .lt 23, 3) := by decide +kernel
theorem dX1_heightAt_12 : decode cX1_heightAt 12 = .ok (.iload_n 2, 1) := by decide +kernel
theorem dX1_heightAt_13 : decode cX1_heightAt 13 = .ok (.bipush 8, 2) := by decide +kernel
theorem dX1_heightAt_15 : decode cX1_heightAt 15 = .ok (.if_icmp .ge 17, 3) := by decide +kernel
theorem dX1_heightAt_18 : decode cX1_heightAt 18 = .ok (.aload_n 0, 1) := by decide +kernel
theorem dX1_heightAt_19 : decode cX1_heightAt 19 = .ok (.getfield 15, 3) := by decide +kernel
theorem dX1_heightAt_22 : decode cX1_heightAt 22 = .ok (.iload_n 1, 1) := by decide +kernel
theorem dX1_heightAt_23 : decode cX1_heightAt 23 = .ok (.bipush 8, 2) := by decide +kernel
theorem dX1_heightAt_25 : decode cX1_heightAt 25 = .ok (.imul, 1) := by decide +kernel
theorem dX1_heightAt_26 : decode cX1_heightAt 26 = .ok (.iload_n 2, 1) := by decide +kernel
theorem dX1_heightAt_27 : decode cX1_heightAt 27 = .ok (.iadd, 1) := by decide +kernel
theorem dX1_heightAt_28 : decode cX1_heightAt 28 = .ok (.iaload, 1) := by decide +kernel
theorem dX1_heightAt_29 : decode cX1_heightAt 29 = .ok (.goto 4, 3) := by decide +kernel
theorem dX1_heightAt_32 : decode cX1_heightAt 32 = .ok (.iconst 0, 1) := by decide +kernel
theorem dX1_heightAt_33 : decode cX1_heightAt 33 = .ok (.ireturn, 1) := by decide +kernel
theorem dX2_init_0 : decode cX2_init 0 = .ok (.aload_n 0, 1) := by decide +kernel
theorem dX2_init_1 : decode cX2_init 1 = .ok (.invokespecial 3, 3) := by decide +kernel
theorem dX2_init_4 : decode cX2_init 4 = .ok (.aload_n 0, 1) := by decide +kernel
theorem dX2_init_5 : decode cX2_init 5 = .ok (.bipush 8, 2) := by decide +kernel
theorem dX2_init_7 : decode cX2_init 7 = .ok (.newarray .int, 2) := by decide +kernel
theorem dX2_init_9 : decode cX2_init 9 = .ok (.putfield 9, 3) := by decide +kernel
theorem dX2_init_12 : decode cX2_init 12 = .ok (.return_, 1) := by decide +kernel
theorem dX2_has_0 : decode cX2_has 0 = .ok (.iload_n 0, 1) := by decide +kernel
theorem dX2_has_1 : decode cX2_has 1 = .ok (.ifCond .lt 13, 3) := by decide +kernel
theorem dX2_has_4 : decode cX2_has 4 = .ok (.iload_n 0, 1) := by decide +kernel
theorem dX2_has_5 : decode cX2_has 5 = .ok (.bipush 8, 2) := by decide +kernel
theorem dX2_has_7 : decode cX2_has 7 = .ok (.if_icmp .ge 7, 3) := by decide +kernel
theorem dX2_has_10 : decode cX2_has 10 = .ok (.iconst 1, 1) := by decide +kernel
theorem dX2_has_11 : decode cX2_has 11 = .ok (.goto 4, 3) := by decide +kernel
theorem dX2_has_14 : decode cX2_has 14 = .ok (.iconst 0, 1) := by decide +kernel
theorem dX2_has_15 : decode cX2_has 15 = .ok (.ireturn, 1) := by decide +kernel
set_option maxRecDepth 20000 in
theorem ggX2_heightAt_X2_has : GoodIn wsX2_heightAt wsX2_has := goodIn_r _ [5] (by decide +kernel) (by decide +kernel)
set_option maxRecDepth 20000 in
theorem gX2_heightAt_X2_has : GoodIn wsX2_heightAt (va_wsS RX2 15 yX2_has wsX2_has) := goodIn_app (goodIn_of _ (by decide +kernel)) ggX2_heightAt_X2_has
theorem dX2_heightAt_0 : decode cX2_heightAt 0 = .ok (.iload_n 1, 1) := by decide +kernel
theorem dX2_heightAt_1 : decode cX2_heightAt 1 = .ok (.invokestatic 15, 3) := by decide +kernel
theorem dX2_heightAt_4 : decode cX2_heightAt 4 = .ok (.ifCond .eq 12, 3) := by decide +kernel
theorem dX2_heightAt_7 : decode cX2_heightAt 7 = .ok (.aload_n 0, 1) := by decide +kernel
theorem dX2_heightAt_8 : decode cX2_heightAt 8 = .ok (.getfield 9, 3) := by decide +kernel
theorem dX2_heightAt_11 : decode cX2_heightAt 11 = .ok (.iload_n 1, 1) := by decide +kernel
theorem dX2_heightAt_12 : decode cX2_heightAt 12 = .ok (.iaload, 1) := by decide +kernel
theorem dX2_heightAt_13 : decode cX2_heightAt 13 = .ok (.goto 4, 3) := by decide +kernel
theorem dX2_heightAt_16 : decode cX2_heightAt 16 = .ok (.iconst 0, 1) := by decide +kernel
theorem dX2_heightAt_17 : decode cX2_heightAt 17 = .ok (.ireturn, 1) := by decide +kernel
set_option maxRecDepth 20000 in
theorem ggX2_setHeight_X2_has : GoodIn wsX2_setHeight wsX2_has := goodIn_r _ [5] (by decide +kernel) (by decide +kernel)
set_option maxRecDepth 20000 in
theorem gX2_setHeight_X2_has : GoodIn wsX2_setHeight (va_wsS RX2 15 yX2_has wsX2_has) := goodIn_app (goodIn_of _ (by decide +kernel)) ggX2_setHeight_X2_has
theorem dX2_setHeight_0 : decode cX2_setHeight 0 = .ok (.iload_n 1, 1) := by decide +kernel
theorem dX2_setHeight_1 : decode cX2_setHeight 1 = .ok (.invokestatic 15, 3) := by decide +kernel
theorem dX2_setHeight_4 : decode cX2_setHeight 4 = .ok (.ifCond .eq 10, 3) := by decide +kernel
theorem dX2_setHeight_7 : decode cX2_setHeight 7 = .ok (.aload_n 0, 1) := by decide +kernel
theorem dX2_setHeight_8 : decode cX2_setHeight 8 = .ok (.getfield 9, 3) := by decide +kernel
theorem dX2_setHeight_11 : decode cX2_setHeight 11 = .ok (.iload_n 1, 1) := by decide +kernel
theorem dX2_setHeight_12 : decode cX2_setHeight 12 = .ok (.iload_n 2, 1) := by decide +kernel
theorem dX2_setHeight_13 : decode cX2_setHeight 13 = .ok (.iastore, 1) := by decide +kernel
theorem dX2_setHeight_14 : decode cX2_setHeight 14 = .ok (.return_, 1) := by decide +kernel
theorem dX2_total_0 : decode cX2_total 0 = .ok (.iconst 0, 1) := by decide +kernel
theorem dX2_total_1 : decode cX2_total 1 = .ok (.istore_n 1, 1) := by decide +kernel
theorem dX2_total_2 : decode cX2_total 2 = .ok (.iconst 0, 1) := by decide +kernel
theorem dX2_total_3 : decode cX2_total 3 = .ok (.istore_n 2, 1) := by decide +kernel
theorem dX2_total_4 : decode cX2_total 4 = .ok (.iload_n 2, 1) := by decide +kernel
theorem dX2_total_5 : decode cX2_total 5 = .ok (.bipush 8, 2) := by decide +kernel
theorem dX2_total_7 : decode cX2_total 7 = .ok (.if_icmp .ge 18, 3) := by decide +kernel
theorem dX2_total_10 : decode cX2_total 10 = .ok (.iload_n 1, 1) := by decide +kernel
theorem dX2_total_11 : decode cX2_total 11 = .ok (.aload_n 0, 1) := by decide +kernel
theorem dX2_total_12 : decode cX2_total 12 = .ok (.getfield 9, 3) := by decide +kernel
theorem dX2_total_15 : decode cX2_total 15 = .ok (.iload_n 2, 1) := by decide +kernel
theorem dX2_total_16 : decode cX2_total 16 = .ok (.iaload, 1) := by decide +kernel
theorem dX2_total_17 : decode cX2_total 17 = .ok (.iadd, 1) := by decide +kernel
theorem dX2_total_18 : decode cX2_total 18 = .ok (.istore_n 1, 1) := by decide +kernel
theorem dX2_total_19 : decode cX2_total 19 = .ok (.iinc 2 1, 3) := by decide +kernel
theorem dX2_total_22 : decode cX2_total 22 = .ok (.goto (-18), 3) := by decide +kernel
theorem dX2_total_25 : decode cX2_total 25 = .ok (.iload_n 1, 1) := by decide +kernel
theorem dX2_total_26 : decode cX2_total 26 = .ok (.ireturn, 1) := by decide +kernel
theorem dX2_clear_0 : decode cX2_clear 0 = .ok (.iconst 0, 1) := by decide +kernel
theorem dX2_clear_1 : decode cX2_clear 1 = .ok (.istore_n 1, 1) := by decide +kernel
theorem dX2_clear_2 : decode cX2_clear 2 = .ok (.iload_n 1, 1) := by decide +kernel
theorem dX2_clear_3 : decode cX2_clear 3 = .ok (.bipush 8, 2) := by decide +kernel
theorem dX2_clear_5 : decode cX2_clear 5 = .ok (.if_icmp .ge 16, 3) := by decide +kernel
theorem dX2_clear_8 : decode cX2_clear 8 = .ok (.aload_n 0, 1) := by decide +kernel
theorem dX2_clear_9 : decode cX2_clear 9 = .ok (.getfield 9, 3) := by decide +kernel
theorem dX2_clear_12 : decode cX2_clear 12 = .ok (.iload_n 1, 1) := by decide +kernel
theorem dX2_clear_13 : decode cX2_clear 13 = .ok (.iconst 0, 1) := by decide +kernel
theorem dX2_clear_14 : decode cX2_clear 14 = .ok (.iastore, 1) := by decide +kernel
theorem dX2_clear_15 : decode cX2_clear 15 = .ok (.iinc 1 1, 3) := by decide +kernel
theorem dX2_clear_18 : decode cX2_clear 18 = .ok (.goto (-16), 3) := by decide +kernel
theorem dX2_clear_21 : decode cX2_clear 21 = .ok (.return_, 1) := by decide +kernel
set_option maxRecDepth 20000 in
theorem ggX2_perform_X2_heightAt : GoodIn wsX2_perform wsX2_heightAt := goodIn_r _ [12, 13, 14, 15, 11, 16, 25] (by decide +kernel) (by decide +kernel)
set_option maxRecDepth 20000 in
theorem gX2_perform_X2_heightAt : GoodIn wsX2_perform (wsV RX2 19 RX2 yX2_heightAt wsX2_heightAt) := goodIn_app (goodIn_of _ (by decide +kernel)) ggX2_perform_X2_heightAt
set_option maxRecDepth 20000 in
theorem ggX2_perform_X2_setHeight : GoodIn wsX2_perform wsX2_setHeight := goodIn_r _ [20, 13, 14, 15, 11, 16, 25] (by decide +kernel) (by decide +kernel)
set_option maxRecDepth 20000 in
theorem gX2_perform_X2_setHeight : GoodIn wsX2_perform (wsV RX2 29 RX2 yX2_setHeight wsX2_setHeight) := goodIn_app (goodIn_of _ (by decide +kernel)) ggX2_perform_X2_setHeight
set_option maxRecDepth 20000 in
theorem ggX2_perform_X2_slide : GoodIn wsX2_perform wsX2_slide := goodIn_r _ [24, 1, 2, 3, 4, 8, 9, 10, 11, 12, 13, 14, 15, 16, 17, 18, 19, 20, 25] (by decide +kernel) (by decide +kernel)
set_option maxRecDepth 20000 in
theorem gX2_perform_X2_slide : GoodIn wsX2_perform (wsV RX2 36 RX2 yX2_slide wsX2_slide) := goodIn_app (goodIn_of _ (by decide +kernel)) ggX2_perform_X2_slide
theorem dX2_perform_0 : decode cX2_perform 0 = .ok (.iload_n 1, 1) := by decide +kernel
theorem dX2_perform_1 : decode cX2_perform 1 = .ok (.ifCond .ne 24, 3) := by decide +kernel
theorem dX2_perform_4 : decode cX2_perform 4 = .ok (.aload_n 0, 1) := by decide +kernel
theorem dX2_perform_5 : decode cX2_perform 5 = .ok (.iload_n 2, 1) := by decide +kernel
theorem dX2_perform_6 : decode cX2_perform 6 = .ok (.sipush 999, 3) := by decide +kernel
theorem dX2_perform_9 : decode cX2_perform 9 = .ok (.aload_n 0, 1) := by decide +kernel
theorem dX2_perform_10 : decode cX2_perform 10 = .ok (.iload_n 2, 1) := by decide +kernel
theorem dX2_perform_11 : decode cX2_perform 11 = .ok (.invokevirtual 19, 3) := by decide +kernel
theorem dX2_perform_14 : decode cX2_perform 14 = .ok (.iload_n 3, 1) := by decide +kernel
theorem dX2_perform_15 : decode cX2_perform 15 = .ok (.iadd, 1) := by decide +kernel
theorem dX2_perform_16 : decode cX2_perform 16 = .ok (.invokestatic 23, 3) := by decide +kernel
theorem dX2_perform_19 : decode cX2_perform 19 = .ok (.invokevirtual 29, 3) := by decide +kernel
theorem dX2_perform_22 : decode cX2_perform 22 = .ok (.goto 32, 3) := by decide +kernel
theorem dX2_perform_25 : decode cX2_perform 25 = .ok (.iload_n 1, 1) := by decide +kernel
theorem dX2_perform_26 : decode cX2_perform 26 = .ok (.iconst 1, 1) := by decide +kernel
theorem dX2_perform_27 : decode cX2_perform 27 = .ok (.if_icmp .ne 22, 3) := by decide +kernel
theorem dX2_perform_30 : decode cX2_perform 30 = .ok (.aload_n 0, 1) := by decide +kernel
theorem dX2_perform_31 : decode cX2_perform 31 = .ok (.iload_n 2, 1) := by decide +kernel
theorem dX2_perform_32 : decode cX2_perform 32 = .ok (.iconst 0, 1) := by decide +kernel
theorem dX2_perform_33 : decode cX2_perform 33 = .ok (.aload_n 0, 1) := by decide +kernel
theorem dX2_perform_34 : decode cX2_perform 34 = .ok (.iload_n 2, 1) := by decide +kernel
theorem dX2_perform_35 : decode cX2_perform 35 = .ok (.invokevirtual 19, 3) := by decide +kernel
theorem dX2_perform_38 : decode cX2_perform 38 = .ok (.iload_n 3, 1) := by decide +kernel
theorem dX2_perform_39 : decode cX2_perform 39 = .ok (.isub, 1) := by decide +kernel
theorem dX2_perform_40 : decode cX2_perform 40 = .ok (.invokestatic 33, 3) := by decide +kernel
theorem dX2_perform_43 : decode cX2_perform 43 = .ok (.invokevirtual 29, 3) := by decide +kernel
theorem dX2_perform_46 : decode cX2_perform 46 = .ok (.goto 8, 3) := by decide +kernel
theorem dX2_perform_49 : decode cX2_perform 49 = .ok (.aload_n 0, 1) := by decide +kernel
theorem dX2_perform_50 : decode cX2_perform 50 = .ok (.iload_n 2, 1) := by decide +kernel
theorem dX2_perform_51 : decode cX2_perform 51 = .ok (.invokevirtual 36, 3) := by decide +kernel
theorem dX2_perform_54 : decode cX2_perform 54 = .ok (.return_, 1) := by decide +kernel
set_option maxRecDepth 20000 in
theorem ggX2_slide_X2_heightAt : GoodIn wsX2_slide wsX2_heightAt := goodIn_r _ [9, 10, 11, 12, 8, 13, 18] (by decide +kernel) (by decide +kernel)
set_option maxRecDepth 20000 in
theorem gX2_slide_X2_heightAt : GoodIn wsX2_slide (wsV RX2 19 RX2 yX2_heightAt wsX2_heightAt) := goodIn_app (goodIn_of _ (by decide +kernel)) ggX2_slide_X2_heightAt
set_option maxRecDepth 20000 in
theorem ggX2_slide_X2_has : GoodIn wsX2_slide wsX2_has := goodIn_r _ [13] (by decide +kernel) (by decide +kernel)
set_option maxRecDepth 20000 in
theorem gX2_slide_X2_has : GoodIn wsX2_slide (va_wsS RX2 15 yX2_has wsX2_has) := goodIn_app (goodIn_of _ (by decide +kernel)) ggX2_slide_X2_has
set_option maxRecDepth 20000 in
theorem ggX2_slide_X2_setHeight : GoodIn wsX2_slide wsX2_setHeight := goodIn_r _ [17, 10, 11, 12, 8, 13, 18] (by decide +kernel) (by decide +kernel)
set_option maxRecDepth 20000 in
theorem gX2_slide_X2_setHeight : GoodIn wsX2_slide (wsV RX2 29 RX2 yX2_setHeight wsX2_setHeight) := goodIn_app (goodIn_of _ (by decide +kernel)) ggX2_slide_X2_setHeight
theorem dX2_slide_0 : decode cX2_slide 0 = .ok (.iload_n 1, 1) := by decide +kernel
theorem dX2_slide_1 : decode cX2_slide 1 = .ok (.iconst 1, 1) := by decide +kernel
theorem dX2_slide_2 : decode cX2_slide 2 = .ok (.iadd, 1) := by decide +kernel
theorem dX2_slide_3 : decode cX2_slide 3 = .ok (.istore_n 2, 1) := by decide +kernel
theorem dX2_slide_4 : decode cX2_slide 4 = .ok (.aload_n 0, 1) := by decide +kernel
theorem dX2_slide_5 : decode cX2_slide 5 = .ok (.iload_n 1, 1) := by decide +kernel
theorem dX2_slide_6 : decode cX2_slide 6 = .ok (.invokevirtual 19, 3) := by decide +kernel
theorem dX2_slide_9 : decode cX2_slide 9 = .ok (.bipush 10, 2) := by decide +kernel
theorem dX2_slide_11 : decode cX2_slide 11 = .ok (.idiv, 1) := by decide +kernel
theorem dX2_slide_12 : decode cX2_slide 12 = .ok (.istore_n 3, 1) := by decide +kernel
theorem dX2_slide_13 : decode cX2_slide 13 = .ok (.iload_n 2, 1) := by decide +kernel
theorem dX2_slide_14 : decode cX2_slide 14 = .ok (.invokestatic 15, 3) := by decide +kernel
theorem dX2_slide_17 : decode cX2_slide 17 = .ok (.ifCond .eq 29, 3) := by decide +kernel
theorem dX2_slide_20 : decode cX2_slide 20 = .ok (.iload_n 3, 1) := by decide +kernel
theorem dX2_slide_21 : decode cX2_slide 21 = .ok (.sipush 999, 3) := by decide +kernel
theorem dX2_slide_24 : decode cX2_slide 24 = .ok (.aload_n 0, 1) := by decide +kernel
theorem dX2_slide_25 : decode cX2_slide 25 = .ok (.iload_n 2, 1) := by decide +kernel
theorem dX2_slide_26 : decode cX2_slide 26 = .ok (.invokevirtual 19, 3) := by decide +kernel
theorem dX2_slide_29 : decode cX2_slide 29 = .ok (.isub, 1) := by decide +kernel
theorem dX2_slide_30 : decode cX2_slide 30 = .ok (.invokestatic 23, 3) := by decide +kernel
theorem dX2_slide_33 : decode cX2_slide 33 = .ok (.istore_n 3, 1) := by decide +kernel
theorem dX2_slide_34 : decode cX2_slide 34 = .ok (.aload_n 0, 1) := by decide +kernel
theorem dX2_slide_35 : decode cX2_slide 35 = .ok (.iload_n 2, 1) := by decide +kernel
theorem dX2_slide_36 : decode cX2_slide 36 = .ok (.aload_n 0, 1) := by decide +kernel
theorem dX2_slide_37 : decode cX2_slide 37 = .ok (.iload_n 2, 1) := by decide +kernel
theorem dX2_slide_38 : decode cX2_slide 38 = .ok (.invokevirtual 19, 3) := by decide +kernel
theorem dX2_slide_41 : decode cX2_slide 41 = .ok (.iload_n 3, 1) := by decide +kernel
theorem dX2_slide_42 : decode cX2_slide 42 = .ok (.iadd, 1) := by decide +kernel
theorem dX2_slide_43 : decode cX2_slide 43 = .ok (.invokevirtual 29, 3) := by decide +kernel
theorem dX2_slide_46 : decode cX2_slide 46 = .ok (.aload_n 0, 1) := by decide +kernel
theorem dX2_slide_47 : decode cX2_slide 47 = .ok (.iload_n 1, 1) := by decide +kernel
theorem dX2_slide_48 : decode cX2_slide 48 = .ok (.aload_n 0, 1) := by decide +kernel
theorem dX2_slide_49 : decode cX2_slide 49 = .ok (.iload_n 1, 1) := by decide +kernel
theorem dX2_slide_50 : decode cX2_slide 50 = .ok (.invokevirtual 19, 3) := by decide +kernel
theorem dX2_slide_53 : decode cX2_slide 53 = .ok (.iload_n 3, 1) := by decide +kernel
theorem dX2_slide_54 : decode cX2_slide 54 = .ok (.isub, 1) := by decide +kernel
theorem dX2_slide_55 : decode cX2_slide 55 = .ok (.invokevirtual 29, 3) := by decide +kernel
theorem dX2_slide_58 : decode cX2_slide 58 = .ok (.return_, 1) := by decide +kernel
