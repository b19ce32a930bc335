theorem dX4_init_0 : decode cX4_init 0 = .ok (.aload_n 0, 1) := by decide +kernel
theorem dX4_init_1 : decode cX4_init 1 = .ok (.invokespecial 1, 3) := by decide +kernel
theorem dX4_init_4 : decode cX4_init 4 = .ok (.aload_n 0, 1) := by decide +kernel
theorem dX4_init_5 : decode cX4_init 5 = .ok (.bipush 8, 2) := by decide +kernel
theorem dX4_init_7 : decode cX4_init 7 = .ok (.newarray .int, 2) := by decide +kernel
theorem dX4_init_9 : decode cX4_init 9 = .ok (.putfield 9, 3) := by decide +kernel
theorem dX4_init_12 : decode cX4_init 12 = .ok (.aload_n 0, 1) := by decide +kernel
theorem dX4_init_13 : decode cX4_init 13 = .ok (.sipush 480, 3) := by decide +kernel
theorem dX4_init_16 : decode cX4_init 16 = .ok (.newarray .int, 2) := by decide +kernel
theorem dX4_init_18 : decode cX4_init 18 = .ok (.putfield 13, 3) := by decide +kernel
theorem dX4_init_21 : decode cX4_init 21 = .ok (.aload_n 0, 1) := by decide +kernel
theorem dX4_init_22 : decode cX4_init 22 = .ok (.sipush 480, 3) := by decide +kernel
theorem dX4_init_25 : decode cX4_init 25 = .ok (.newarray .int, 2) := by decide +kernel
theorem dX4_init_27 : decode cX4_init 27 = .ok (.putfield 16, 3) := by decide +kernel
theorem dX4_init_30 : decode cX4_init 30 = .ok (.aload_n 0, 1) := by decide +kernel
theorem dX4_init_31 : decode cX4_init 31 = .ok (.sipush 480, 3) := by decide +kernel
theorem dX4_init_34 : decode cX4_init 34 = .ok (.newarray .int, 2) := by decide +kernel
theorem dX4_init_36 : decode cX4_init 36 = .ok (.putfield 19, 3) := by decide +kernel
theorem dX4_init_39 : decode cX4_init 39 = .ok (.aload_n 0, 1) := by decide +kernel
theorem dX4_init_40 : decode cX4_init 40 = .ok (.bipush 41, 2) := by decide +kernel
theorem dX4_init_42 : decode cX4_init 42 = .ok (.newarray .int, 2) := by decide +kernel
theorem dX4_init_44 : decode cX4_init 44 = .ok (.putfield 22, 3) := by decide +kernel
theorem dX4_init_47 : decode cX4_init 47 = .ok (.aload_n 0, 1) := by decide +kernel
theorem dX4_init_48 : decode cX4_init 48 = .ok (.bipush 40, 2) := by decide +kernel
theorem dX4_init_50 : decode cX4_init 50 = .ok (.newarray .int, 2) := by decide +kernel
theorem dX4_init_52 : decode cX4_init 52 = .ok (.putfield 25, 3) := by decide +kernel
theorem dX4_init_55 : decode cX4_init 55 = .ok (.aload_n 0, 1) := by decide +kernel
theorem dX4_init_56 : decode cX4_init 56 = .ok (.bipush 40, 2) := by decide +kernel
theorem dX4_init_58 : decode cX4_init 58 = .ok (.newarray .boolean, 2) := by decide +kernel
theorem dX4_init_60 : decode cX4_init 60 = .ok (.putfield 28, 3) := by decide +kernel
theorem dX4_init_63 : decode cX4_init 63 = .ok (.aload_n 0, 1) := by decide +kernel
theorem dX4_init_64 : decode cX4_init 64 = .ok (.bipush 6, 2) := by decide +kernel
theorem dX4_init_66 : decode cX4_init 66 = .ok (.newarray .int, 2) := by decide +kernel
theorem dX4_init_68 : decode cX4_init 68 = .ok (.putfield 32, 3) := by decide +kernel
theorem dX4_init_71 : decode cX4_init 71 = .ok (.aload_n 0, 1) := by decide +kernel
theorem dX4_init_72 : decode cX4_init 72 = .ok (.bipush 48, 2) := by decide +kernel
theorem dX4_init_74 : decode cX4_init 74 = .ok (.newarray .int, 2) := by decide +kernel
theorem dX4_init_76 : decode cX4_init 76 = .ok (.putfield 35, 3) := by decide +kernel
theorem dX4_init_79 : decode cX4_init 79 = .ok (.aload_n 0, 1) := by decide +kernel
theorem dX4_init_80 : decode cX4_init 80 = .ok (.bipush 8, 2) := by decide +kernel
theorem dX4_init_82 : decode cX4_init 82 = .ok (.newarray .int, 2) := by decide +kernel
theorem dX4_init_84 : decode cX4_init 84 = .ok (.putfield 38, 3) := by decide +kernel
theorem dX4_init_87 : decode cX4_init 87 = .ok (.return_, 1) := by decide +kernel
theorem dX4_thrown_0 : decode cX4_thrown 0 = .ok (.aload_n 0, 1) := by decide +kernel
theorem dX4_thrown_1 : decode cX4_thrown 1 = .ok (.getfield 41, 3) := by decide +kernel
theorem dX4_thrown_4 : decode cX4_thrown 4 = .ok (.ireturn, 1) := by decide +kernel
theorem dX4_fail_0 : decode cX4_fail 0 = .ok (.aload_n 0, 1) := by decide +kernel
theorem dX4_fail_1 : decode cX4_fail 1 = .ok (.iload_n 1, 1) := by decide +kernel
theorem dX4_fail_2 : decode cX4_fail 2 = .ok (.putfield 41, 3) := by decide +kernel
theorem dX4_fail_5 : decode cX4_fail 5 = .ok (.iconst 0, 1) := by decide +kernel
theorem dX4_fail_6 : decode cX4_fail 6 = .ok (.ireturn, 1) := by decide +kernel
theorem dX4_told_0 : decode cX4_told 0 = .ok (.aload_n 0, 1) := by decide +kernel
theorem dX4_told_1 : decode cX4_told 1 = .ok (.iconst 0, 1) := by decide +kernel
theorem dX4_told_2 : decode cX4_told 2 = .ok (.putfield 41, 3) := by decide +kernel
theorem dX4_told_5 : decode cX4_told 5 = .ok (.iload_n 1, 1) := by decide +kernel
theorem dX4_told_6 : decode cX4_told 6 = .ok (.ireturn, 1) := by decide +kernel
theorem dX4_isIn_0 : decode cX4_isIn 0 = .ok (.iload_n 0, 1) := by decide +kernel
theorem dX4_isIn_1 : decode cX4_isIn 1 = .ok (.iload_n 1, 1) := by decide +kernel
theorem dX4_isIn_2 : decode cX4_isIn 2 = .ok (.if_icmp .lt 12, 3) := by decide +kernel
theorem dX4_isIn_5 : decode cX4_isIn 5 = .ok (.iload_n 0, 1) := by decide +kernel
theorem dX4_isIn_6 : decode cX4_isIn 6 = .ok (.iload_n 2, 1) := by decide +kernel
theorem dX4_isIn_7 : decode cX4_isIn 7 = .ok (.if_icmp .gt 7, 3) := by decide +kernel
theorem dX4_isIn_10 : decode cX4_isIn 10 = .ok (.iconst 1, 1) := by decide +kernel
theorem dX4_isIn_11 : decode cX4_isIn 11 = .ok (.goto 4, 3) := by decide +kernel
theorem dX4_isIn_14 : decode cX4_isIn 14 = .ok (.iconst 0, 1) := by decide +kernel
theorem dX4_isIn_15 : decode cX4_isIn 15 = .ok (.ireturn, 1) := by decide +kernel
set_option maxRecDepth 20000 in
theorem ggX4_isPlace_X4_isIn : GoodIn wsX4_isPlace wsX4_isIn := goodIn_r _ [4] (by decide +kernel) (by decide +kernel)
set_option maxRecDepth 20000 in
theorem gX4_isPlace_X4_isIn : GoodIn wsX4_isPlace (va_wsS RX4 45 yX4_isIn wsX4_isIn) := goodIn_app (goodIn_of _ (by decide +kernel)) ggX4_isPlace_X4_isIn
theorem dX4_isPlace_0 : decode cX4_isPlace 0 = .ok (.iload_n 0, 1) := by decide +kernel
theorem dX4_isPlace_1 : decode cX4_isPlace 1 = .ok (.iconst 0, 1) := by decide +kernel
theorem dX4_isPlace_2 : decode cX4_isPlace 2 = .ok (.bipush 7, 2) := by decide +kernel
theorem dX4_isPlace_4 : decode cX4_isPlace 4 = .ok (.invokestatic 45, 3) := by decide +kernel
theorem dX4_isPlace_7 : decode cX4_isPlace 7 = .ok (.ireturn, 1) := by decide +kernel
set_option maxRecDepth 20000 in
theorem ggX4_isLayer_X4_isIn : GoodIn wsX4_isLayer wsX4_isIn := goodIn_r _ [5] (by decide +kernel) (by decide +kernel)
set_option maxRecDepth 20000 in
theorem gX4_isLayer_X4_isIn : GoodIn wsX4_isLayer (va_wsS RX4 45 yX4_isIn wsX4_isIn) := goodIn_app (goodIn_of _ (by decide +kernel)) ggX4_isLayer_X4_isIn
theorem dX4_isLayer_0 : decode cX4_isLayer 0 = .ok (.iload_n 1, 1) := by decide +kernel
theorem dX4_isLayer_1 : decode cX4_isLayer 1 = .ok (.iconst 0, 1) := by decide +kernel
theorem dX4_isLayer_2 : decode cX4_isLayer 2 = .ok (.aload_n 0, 1) := by decide +kernel
theorem dX4_isLayer_3 : decode cX4_isLayer 3 = .ok (.getfield 49, 3) := by decide +kernel
theorem dX4_isLayer_6 : decode cX4_isLayer 6 = .ok (.iconst 1, 1) := by decide +kernel
theorem dX4_isLayer_7 : decode cX4_isLayer 7 = .ok (.isub, 1) := by decide +kernel
theorem dX4_isLayer_8 : decode cX4_isLayer 8 = .ok (.invokestatic 45, 3) := by decide +kernel
theorem dX4_isLayer_11 : decode cX4_isLayer 11 = .ok (.ireturn, 1) := by decide +kernel
set_option maxRecDepth 20000 in
theorem ggX4_isYear_X4_isIn : GoodIn wsX4_isYear wsX4_isIn := goodIn_r _ [5] (by decide +kernel) (by decide +kernel)
set_option maxRecDepth 20000 in
theorem gX4_isYear_X4_isIn : GoodIn wsX4_isYear (va_wsS RX4 45 yX4_isIn wsX4_isIn) := goodIn_app (goodIn_of _ (by decide +kernel)) ggX4_isYear_X4_isIn
theorem dX4_isYear_0 : decode cX4_isYear 0 = .ok (.iload_n 1, 1) := by decide +kernel
theorem dX4_isYear_1 : decode cX4_isYear 1 = .ok (.iconst 0, 1) := by decide +kernel
theorem dX4_isYear_2 : decode cX4_isYear 2 = .ok (.aload_n 0, 1) := by decide +kernel
theorem dX4_isYear_3 : decode cX4_isYear 3 = .ok (.getfield 49, 3) := by decide +kernel
theorem dX4_isYear_6 : decode cX4_isYear 6 = .ok (.invokestatic 45, 3) := by decide +kernel
theorem dX4_isYear_9 : decode cX4_isYear 9 = .ok (.ireturn, 1) := by decide +kernel
theorem dX4_work_0 : decode cX4_work 0 = .ok (.aload_n 0, 1) := by decide +kernel
theorem dX4_work_1 : decode cX4_work 1 = .ok (.getfield 16, 3) := by decide +kernel
theorem dX4_work_4 : decode cX4_work 4 = .ok (.iload_n 2, 1) := by decide +kernel
theorem dX4_work_5 : decode cX4_work 5 = .ok (.iaload, 1) := by decide +kernel
theorem dX4_work_6 : decode cX4_work 6 = .ok (.istore_n 3, 1) := by decide +kernel
theorem dX4_work_7 : decode cX4_work 7 = .ok (.aload_n 0, 1) := by decide +kernel
theorem dX4_work_8 : decode cX4_work 8 = .ok (.getfield 13, 3) := by decide +kernel
theorem dX4_work_11 : decode cX4_work 11 = .ok (.iload_n 2, 1) := by decide +kernel
theorem dX4_work_12 : decode cX4_work 12 = .ok (.iaload, 1) := by decide +kernel
theorem dX4_work_13 : decode cX4_work 13 = .ok (.ifCond .ne 25, 3) := by decide +kernel
theorem dX4_work_16 : decode cX4_work 16 = .ok (.aload_n 1, 1) := by decide +kernel
theorem dX4_work_17 : decode cX4_work 17 = .ok (.iload_n 3, 1) := by decide +kernel
theorem dX4_work_18 : decode cX4_work 18 = .ok (.sipush 999, 3) := by decide +kernel
theorem dX4_work_21 : decode cX4_work 21 = .ok (.aload_n 1, 1) := by decide +kernel
theorem dX4_work_22 : decode cX4_work 22 = .ok (.iload_n 3, 1) := by decide +kernel
theorem dX4_work_23 : decode cX4_work 23 = .ok (.iaload, 1) := by decide +kernel
theorem dX4_work_24 : decode cX4_work 24 = .ok (.aload_n 0, 1) := by decide +kernel
theorem dX4_work_25 : decode cX4_work 25 = .ok (.getfield 19, 3) := by decide +kernel
theorem dX4_work_28 : decode cX4_work 28 = .ok (.iload_n 2, 1) := by decide +kernel
theorem dX4_work_29 : decode cX4_work 29 = .ok (.iaload, 1) := by decide +kernel
theorem dX4_work_30 : decode cX4_work 30 = .ok (.iadd, 1) := by decide +kernel
theorem dX4_work_31 : decode cX4_work 31 = .ok (.invokestatic 52, 3) := by decide +kernel
theorem dX4_work_34 : decode cX4_work 34 = .ok (.iastore, 1) := by decide +kernel
theorem dX4_work_35 : decode cX4_work 35 = .ok (.goto 81, 3) := by decide +kernel
theorem dX4_work_38 : decode cX4_work 38 = .ok (.aload_n 0, 1) := by decide +kernel
theorem dX4_work_39 : decode cX4_work 39 = .ok (.getfield 13, 3) := by decide +kernel
theorem dX4_work_42 : decode cX4_work 42 = .ok (.iload_n 2, 1) := by decide +kernel
theorem dX4_work_43 : decode cX4_work 43 = .ok (.iaload, 1) := by decide +kernel
theorem dX4_work_44 : decode cX4_work 44 = .ok (.iconst 1, 1) := by decide +kernel
theorem dX4_work_45 : decode cX4_work 45 = .ok (.if_icmp .ne 23, 3) := by decide +kernel
theorem dX4_work_48 : decode cX4_work 48 = .ok (.aload_n 1, 1) := by decide +kernel
theorem dX4_work_49 : decode cX4_work 49 = .ok (.iload_n 3, 1) := by decide +kernel
theorem dX4_work_50 : decode cX4_work 50 = .ok (.iconst 0, 1) := by decide +kernel
theorem dX4_work_51 : decode cX4_work 51 = .ok (.aload_n 1, 1) := by decide +kernel
theorem dX4_work_52 : decode cX4_work 52 = .ok (.iload_n 3, 1) := by decide +kernel
theorem dX4_work_53 : decode cX4_work 53 = .ok (.iaload, 1) := by decide +kernel
theorem dX4_work_54 : decode cX4_work 54 = .ok (.aload_n 0, 1) := by decide +kernel
theorem dX4_work_55 : decode cX4_work 55 = .ok (.getfield 19, 3) := by decide +kernel
theorem dX4_work_58 : decode cX4_work 58 = .ok (.iload_n 2, 1) := by decide +kernel
theorem dX4_work_59 : decode cX4_work 59 = .ok (.iaload, 1) := by decide +kernel
theorem dX4_work_60 : decode cX4_work 60 = .ok (.isub, 1) := by decide +kernel
theorem dX4_work_61 : decode cX4_work 61 = .ok (.invokestatic 58, 3) := by decide +kernel
theorem dX4_work_64 : decode cX4_work 64 = .ok (.iastore, 1) := by decide +kernel
theorem dX4_work_65 : decode cX4_work 65 = .ok (.goto 51, 3) := by decide +kernel
theorem dX4_work_68 : decode cX4_work 68 = .ok (.aload_n 1, 1) := by decide +kernel
theorem dX4_work_69 : decode cX4_work 69 = .ok (.iload_n 3, 1) := by decide +kernel
theorem dX4_work_70 : decode cX4_work 70 = .ok (.iaload, 1) := by decide +kernel
theorem dX4_work_71 : decode cX4_work 71 = .ok (.bipush 10, 2) := by decide +kernel
theorem dX4_work_73 : decode cX4_work 73 = .ok (.idiv, 1) := by decide +kernel
theorem dX4_work_74 : decode cX4_work 74 = .ok (.istore 4, 2) := by decide +kernel
theorem dX4_work_76 : decode cX4_work 76 = .ok (.iload_n 3, 1) := by decide +kernel
theorem dX4_work_77 : decode cX4_work 77 = .ok (.bipush 7, 2) := by decide +kernel
theorem dX4_work_79 : decode cX4_work 79 = .ok (.if_icmp .ge 29, 3) := by decide +kernel
theorem dX4_work_82 : decode cX4_work 82 = .ok (.iload 4, 2) := by decide +kernel
theorem dX4_work_84 : decode cX4_work 84 = .ok (.sipush 999, 3) := by decide +kernel
theorem dX4_work_87 : decode cX4_work 87 = .ok (.aload_n 1, 1) := by decide +kernel
theorem dX4_work_88 : decode cX4_work 88 = .ok (.iload_n 3, 1) := by decide +kernel
theorem dX4_work_89 : decode cX4_work 89 = .ok (.iconst 1, 1) := by decide +kernel
theorem dX4_work_90 : decode cX4_work 90 = .ok (.iadd, 1) := by decide +kernel
theorem dX4_work_91 : decode cX4_work 91 = .ok (.iaload, 1) := by decide +kernel
theorem dX4_work_92 : decode cX4_work 92 = .ok (.isub, 1) := by decide +kernel
theorem dX4_work_93 : decode cX4_work 93 = .ok (.invokestatic 52, 3) := by decide +kernel
theorem dX4_work_96 : decode cX4_work 96 = .ok (.istore 4, 2) := by decide +kernel
theorem dX4_work_98 : decode cX4_work 98 = .ok (.aload_n 1, 1) := by decide +kernel
theorem dX4_work_99 : decode cX4_work 99 = .ok (.iload_n 3, 1) := by decide +kernel
theorem dX4_work_100 : decode cX4_work 100 = .ok (.iconst 1, 1) := by decide +kernel
theorem dX4_work_101 : decode cX4_work 101 = .ok (.iadd, 1) := by decide +kernel
theorem dX4_work_102 : decode cX4_work 102 = .ok (.dup2, 1) := by decide +kernel
theorem dX4_work_103 : decode cX4_work 103 = .ok (.iaload, 1) := by decide +kernel
theorem dX4_work_104 : decode cX4_work 104 = .ok (.iload 4, 2) := by decide +kernel
theorem dX4_work_106 : decode cX4_work 106 = .ok (.iadd, 1) := by decide +kernel
theorem dX4_work_107 : decode cX4_work 107 = .ok (.iastore, 1) := by decide +kernel
theorem dX4_work_108 : decode cX4_work 108 = .ok (.aload_n 1, 1) := by decide +kernel
theorem dX4_work_109 : decode cX4_work 109 = .ok (.iload_n 3, 1) := by decide +kernel
theorem dX4_work_110 : decode cX4_work 110 = .ok (.dup2, 1) := by decide +kernel
theorem dX4_work_111 : decode cX4_work 111 = .ok (.iaload, 1) := by decide +kernel
theorem dX4_work_112 : decode cX4_work 112 = .ok (.iload 4, 2) := by decide +kernel
theorem dX4_work_114 : decode cX4_work 114 = .ok (.isub, 1) := by decide +kernel
theorem dX4_work_115 : decode cX4_work 115 = .ok (.iastore, 1) := by decide +kernel
theorem dX4_work_116 : decode cX4_work 116 = .ok (.return_, 1) := by decide +kernel
theorem dX4_isFull_0 : decode cX4_isFull 0 = .ok (.aload_n 0, 1) := by decide +kernel
theorem dX4_isFull_1 : decode cX4_isFull 1 = .ok (.getfield 49, 3) := by decide +kernel
theorem dX4_isFull_4 : decode cX4_isFull 4 = .ok (.bipush 40, 2) := by decide +kernel
theorem dX4_isFull_6 : decode cX4_isFull 6 = .ok (.if_icmp .eq 17, 3) := by decide +kernel
theorem dX4_isFull_9 : decode cX4_isFull 9 = .ok (.aload_n 0, 1) := by decide +kernel
theorem dX4_isFull_10 : decode cX4_isFull 10 = .ok (.getfield 22, 3) := by decide +kernel
theorem dX4_isFull_13 : decode cX4_isFull 13 = .ok (.aload_n 0, 1) := by decide +kernel
theorem dX4_isFull_14 : decode cX4_isFull 14 = .ok (.getfield 49, 3) := by decide +kernel
theorem dX4_isFull_17 : decode cX4_isFull 17 = .ok (.iaload, 1) := by decide +kernel
theorem dX4_isFull_18 : decode cX4_isFull 18 = .ok (.bipush 12, 2) := by decide +kernel
theorem dX4_isFull_20 : decode cX4_isFull 20 = .ok (.if_icmp .ne 7, 3) := by decide +kernel
theorem dX4_isFull_23 : decode cX4_isFull 23 = .ok (.iconst 1, 1) := by decide +kernel
theorem dX4_isFull_24 : decode cX4_isFull 24 = .ok (.goto 4, 3) := by decide +kernel
theorem dX4_isFull_27 : decode cX4_isFull 27 = .ok (.iconst 0, 1) := by decide +kernel
theorem dX4_isFull_28 : decode cX4_isFull 28 = .ok (.ireturn, 1) := by decide +kernel
set_option maxRecDepth 20000 in
theorem ggX4_deed_X4_work : GoodIn wsX4_deed wsX4_work := goodIn_r _ [11, 4, 3, 5, 12, 13, 14, 15, 16, 17, 18, 19, 20, 21, 22, 23, 24, 25, 26, 27, 28, 29, 30, 31] (by decide +kernel) (by decide +kernel)
set_option maxRecDepth 20000 in
theorem gX4_deed_X4_work : GoodIn wsX4_deed (wsV RX4 61 RX4 yX4_work wsX4_work) := goodIn_app (goodIn_of _ (by decide +kernel)) ggX4_deed_X4_work
theorem dX4_deed_0 : decode cX4_deed 0 = .ok (.bipush 12, 2) := by decide +kernel
theorem dX4_deed_2 : decode cX4_deed 2 = .ok (.aload_n 0, 1) := by decide +kernel
theorem dX4_deed_3 : decode cX4_deed 3 = .ok (.getfield 49, 3) := by decide +kernel
theorem dX4_deed_6 : decode cX4_deed 6 = .ok (.imul, 1) := by decide +kernel
theorem dX4_deed_7 : decode cX4_deed 7 = .ok (.aload_n 0, 1) := by decide +kernel
theorem dX4_deed_8 : decode cX4_deed 8 = .ok (.getfield 22, 3) := by decide +kernel
theorem dX4_deed_11 : decode cX4_deed 11 = .ok (.aload_n 0, 1) := by decide +kernel
theorem dX4_deed_12 : decode cX4_deed 12 = .ok (.getfield 49, 3) := by decide +kernel
theorem dX4_deed_15 : decode cX4_deed 15 = .ok (.iaload, 1) := by decide +kernel
theorem dX4_deed_16 : decode cX4_deed 16 = .ok (.iadd, 1) := by decide +kernel
theorem dX4_deed_17 : decode cX4_deed 17 = .ok (.istore 4, 2) := by decide +kernel
theorem dX4_deed_19 : decode cX4_deed 19 = .ok (.aload_n 0, 1) := by decide +kernel
theorem dX4_deed_20 : decode cX4_deed 20 = .ok (.getfield 13, 3) := by decide +kernel
theorem dX4_deed_23 : decode cX4_deed 23 = .ok (.iload 4, 2) := by decide +kernel
theorem dX4_deed_25 : decode cX4_deed 25 = .ok (.iload_n 1, 1) := by decide +kernel
theorem dX4_deed_26 : decode cX4_deed 26 = .ok (.iastore, 1) := by decide +kernel
theorem dX4_deed_27 : decode cX4_deed 27 = .ok (.aload_n 0, 1) := by decide +kernel
theorem dX4_deed_28 : decode cX4_deed 28 = .ok (.getfield 16, 3) := by decide +kernel
theorem dX4_deed_31 : decode cX4_deed 31 = .ok (.iload 4, 2) := by decide +kernel
theorem dX4_deed_33 : decode cX4_deed 33 = .ok (.iload_n 2, 1) := by decide +kernel
theorem dX4_deed_34 : decode cX4_deed 34 = .ok (.iastore, 1) := by decide +kernel
theorem dX4_deed_35 : decode cX4_deed 35 = .ok (.aload_n 0, 1) := by decide +kernel
theorem dX4_deed_36 : decode cX4_deed 36 = .ok (.getfield 19, 3) := by decide +kernel
theorem dX4_deed_39 : decode cX4_deed 39 = .ok (.iload 4, 2) := by decide +kernel
theorem dX4_deed_41 : decode cX4_deed 41 = .ok (.iload_n 3, 1) := by decide +kernel
theorem dX4_deed_42 : decode cX4_deed 42 = .ok (.iastore, 1) := by decide +kernel
theorem dX4_deed_43 : decode cX4_deed 43 = .ok (.aload_n 0, 1) := by decide +kernel
theorem dX4_deed_44 : decode cX4_deed 44 = .ok (.getfield 22, 3) := by decide +kernel
theorem dX4_deed_47 : decode cX4_deed 47 = .ok (.aload_n 0, 1) := by decide +kernel
theorem dX4_deed_48 : decode cX4_deed 48 = .ok (.getfield 49, 3) := by decide +kernel
theorem dX4_deed_51 : decode cX4_deed 51 = .ok (.dup2, 1) := by decide +kernel
theorem dX4_deed_52 : decode cX4_deed 52 = .ok (.iaload, 1) := by decide +kernel
theorem dX4_deed_53 : decode cX4_deed 53 = .ok (.iconst 1, 1) := by decide +kernel
theorem dX4_deed_54 : decode cX4_deed 54 = .ok (.iadd, 1) := by decide +kernel
theorem dX4_deed_55 : decode cX4_deed 55 = .ok (.iastore, 1) := by decide +kernel
theorem dX4_deed_56 : decode cX4_deed 56 = .ok (.aload_n 0, 1) := by decide +kernel
theorem dX4_deed_57 : decode cX4_deed 57 = .ok (.aload_n 0, 1) := by decide +kernel
theorem dX4_deed_58 : decode cX4_deed 58 = .ok (.getfield 9, 3) := by decide +kernel
theorem dX4_deed_61 : decode cX4_deed 61 = .ok (.iload 4, 2) := by decide +kernel
theorem dX4_deed_63 : decode cX4_deed 63 = .ok (.invokevirtual 61, 3) := by decide +kernel
theorem dX4_deed_66 : decode cX4_deed 66 = .ok (.aload_n 0, 1) := by decide +kernel
theorem dX4_deed_67 : decode cX4_deed 67 = .ok (.getfield 9, 3) := by decide +kernel
theorem dX4_deed_70 : decode cX4_deed 70 = .ok (.iload_n 2, 1) := by decide +kernel
theorem dX4_deed_71 : decode cX4_deed 71 = .ok (.iaload, 1) := by decide +kernel
theorem dX4_deed_72 : decode cX4_deed 72 = .ok (.ireturn, 1) := by decide +kernel
set_option maxRecDepth 20000 in
theorem ggX4_amount_X4_isPlace : GoodIn wsX4_amount wsX4_isPlace := goodIn_r _ [5, 6, 7, 4, 8] (by decide +kernel) (by decide +kernel)
set_option maxRecDepth 20000 in
theorem gX4_amount_X4_isPlace : GoodIn wsX4_amount (va_wsS RX4 65 yX4_isPlace wsX4_isPlace) := goodIn_app (goodIn_of _ (by decide +kernel)) ggX4_amount_X4_isPlace
set_option maxRecDepth 20000 in
theorem ggX4_amount_X4_fail : GoodIn wsX4_amount wsX4_fail := goodIn_r _ [12, 1, 38, 39, 40, 41, 42, 43, 44, 45, 46, 47, 48, 49, 50] (by decide +kernel) (by decide +kernel)
set_option maxRecDepth 20000 in
theorem gX4_amount_X4_fail : GoodIn wsX4_amount (wsV RX4 69 RX4 yX4_fail wsX4_fail) := goodIn_app (goodIn_of _ (by decide +kernel)) ggX4_amount_X4_fail
set_option maxRecDepth 20000 in
theorem ggX4_amount_X4_isIn : GoodIn wsX4_amount wsX4_isIn := goodIn_r _ [8] (by decide +kernel) (by decide +kernel)
set_option maxRecDepth 20000 in
theorem gX4_amount_X4_isIn : GoodIn wsX4_amount (va_wsS RX4 45 yX4_isIn wsX4_isIn) := goodIn_app (goodIn_of _ (by decide +kernel)) ggX4_amount_X4_isIn
set_option maxRecDepth 20000 in
theorem ggX4_amount_X4_isFull : GoodIn wsX4_amount wsX4_isFull := goodIn_r _ [16, 17, 18, 38, 39, 40, 41, 42, 43, 44, 45, 46, 47, 48, 49, 50] (by decide +kernel) (by decide +kernel)
set_option maxRecDepth 20000 in
theorem gX4_amount_X4_isFull : GoodIn wsX4_amount (wsV RX4 73 RX4 yX4_isFull wsX4_isFull) := goodIn_app (goodIn_of _ (by decide +kernel)) ggX4_amount_X4_isFull
set_option maxRecDepth 20000 in
theorem ggX4_amount_X4_deed : GoodIn wsX4_amount wsX4_deed := goodIn_r _ [22, 17, 18, 23, 24, 25, 26, 27, 28, 29, 4, 30, 31, 32, 33, 34, 35, 36, 37, 38, 39, 40, 41, 42, 43, 44, 45, 46, 47, 48, 49, 50] (by decide +kernel) (by decide +kernel)
set_option maxRecDepth 20000 in
theorem gX4_amount_X4_deed : GoodIn wsX4_amount (wsV RX4 77 RX4 yX4_deed wsX4_deed) := goodIn_app (goodIn_of _ (by decide +kernel)) ggX4_amount_X4_deed
theorem dX4_amount_0 : decode cX4_amount 0 = .ok (.aload_n 0, 1) := by decide +kernel
theorem dX4_amount_1 : decode cX4_amount 1 = .ok (.iconst 0, 1) := by decide +kernel
theorem dX4_amount_2 : decode cX4_amount 2 = .ok (.putfield 41, 3) := by decide +kernel
theorem dX4_amount_5 : decode cX4_amount 5 = .ok (.iload_n 2, 1) := by decide +kernel
theorem dX4_amount_6 : decode cX4_amount 6 = .ok (.invokestatic 65, 3) := by decide +kernel
theorem dX4_amount_9 : decode cX4_amount 9 = .ok (.ifCond .ne 9, 3) := by decide +kernel
theorem dX4_amount_12 : decode cX4_amount 12 = .ok (.aload_n 0, 1) := by decide +kernel
theorem dX4_amount_13 : decode cX4_amount 13 = .ok (.iconst 1, 1) := by decide +kernel
theorem dX4_amount_14 : decode cX4_amount 14 = .ok (.invokevirtual 69, 3) := by decide +kernel
theorem dX4_amount_17 : decode cX4_amount 17 = .ok (.ireturn, 1) := by decide +kernel
theorem dX4_amount_18 : decode cX4_amount 18 = .ok (.iload_n 3, 1) := by decide +kernel
theorem dX4_amount_19 : decode cX4_amount 19 = .ok (.iconst 1, 1) := by decide +kernel
theorem dX4_amount_20 : decode cX4_amount 20 = .ok (.bipush 99, 2) := by decide +kernel
theorem dX4_amount_22 : decode cX4_amount 22 = .ok (.invokestatic 45, 3) := by decide +kernel
theorem dX4_amount_25 : decode cX4_amount 25 = .ok (.ifCond .ne 9, 3) := by decide +kernel
theorem dX4_amount_28 : decode cX4_amount 28 = .ok (.aload_n 0, 1) := by decide +kernel
theorem dX4_amount_29 : decode cX4_amount 29 = .ok (.iconst 2, 1) := by decide +kernel
theorem dX4_amount_30 : decode cX4_amount 30 = .ok (.invokevirtual 69, 3) := by decide +kernel
theorem dX4_amount_33 : decode cX4_amount 33 = .ok (.ireturn, 1) := by decide +kernel
theorem dX4_amount_34 : decode cX4_amount 34 = .ok (.aload_n 0, 1) := by decide +kernel
theorem dX4_amount_35 : decode cX4_amount 35 = .ok (.invokevirtual 73, 3) := by decide +kernel
theorem dX4_amount_38 : decode cX4_amount 38 = .ok (.ifCond .eq 11, 3) := by decide +kernel
theorem dX4_amount_41 : decode cX4_amount 41 = .ok (.aload_n 0, 1) := by decide +kernel
theorem dX4_amount_42 : decode cX4_amount 42 = .ok (.iconst 3, 1) := by decide +kernel
theorem dX4_amount_43 : decode cX4_amount 43 = .ok (.invokevirtual 69, 3) := by decide +kernel
theorem dX4_amount_46 : decode cX4_amount 46 = .ok (.goto 10, 3) := by decide +kernel
theorem dX4_amount_49 : decode cX4_amount 49 = .ok (.aload_n 0, 1) := by decide +kernel
theorem dX4_amount_50 : decode cX4_amount 50 = .ok (.iload_n 1, 1) := by decide +kernel
theorem dX4_amount_51 : decode cX4_amount 51 = .ok (.iload_n 2, 1) := by decide +kernel
theorem dX4_amount_52 : decode cX4_amount 52 = .ok (.iload_n 3, 1) := by decide +kernel
theorem dX4_amount_53 : decode cX4_amount 53 = .ok (.invokevirtual 77, 3) := by decide +kernel
theorem dX4_amount_56 : decode cX4_amount 56 = .ok (.ireturn, 1) := by decide +kernel
set_option maxRecDepth 20000 in
theorem ggX4_snow_X4_amount : GoodIn wsX4_snow wsX4_amount := goodIn_r _ [5, 6, 7, 8, 4, 9, 10, 11, 12, 13, 14, 15, 16, 17, 18, 19, 20, 21, 22, 23, 24, 25, 26, 27, 28, 29, 30, 31, 32, 33, 34, 35, 36, 37, 38, 39, 40, 41, 42, 43, 44, 45, 46, 47, 48, 49, 50, 51, 52, 53, 54] (by decide +kernel) (by decide +kernel)
set_option maxRecDepth 20000 in
theorem gX4_snow_X4_amount : GoodIn wsX4_snow (wsV RX4 81 RX4 yX4_amount wsX4_amount) := goodIn_app (goodIn_of _ (by decide +kernel)) ggX4_snow_X4_amount
theorem dX4_snow_0 : decode cX4_snow 0 = .ok (.aload_n 0, 1) := by decide +kernel
theorem dX4_snow_1 : decode cX4_snow 1 = .ok (.iconst 0, 1) := by decide +kernel
theorem dX4_snow_2 : decode cX4_snow 2 = .ok (.iload_n 1, 1) := by decide +kernel
theorem dX4_snow_3 : decode cX4_snow 3 = .ok (.iload_n 2, 1) := by decide +kernel
theorem dX4_snow_4 : decode cX4_snow 4 = .ok (.invokevirtual 81, 3) := by decide +kernel
theorem dX4_snow_7 : decode cX4_snow 7 = .ok (.ireturn, 1) := by decide +kernel
set_option maxRecDepth 20000 in
theorem ggX4_melt_X4_amount : GoodIn wsX4_melt wsX4_amount := goodIn_r _ [5, 6, 7, 8, 4, 9, 10, 11, 12, 13, 14, 15, 16, 17, 18, 19, 20, 21, 22, 23, 24, 25, 26, 27, 28, 29, 30, 31, 32, 33, 34, 35, 36, 37, 38, 39, 40, 41, 42, 43, 44, 45, 46, 47, 48, 49, 50, 51, 52, 53, 54] (by decide +kernel) (by decide +kernel)
set_option maxRecDepth 20000 in
theorem gX4_melt_X4_amount : GoodIn wsX4_melt (wsV RX4 81 RX4 yX4_amount wsX4_amount) := goodIn_app (goodIn_of _ (by decide +kernel)) ggX4_melt_X4_amount
theorem dX4_melt_0 : decode cX4_melt 0 = .ok (.aload_n 0, 1) := by decide +kernel
theorem dX4_melt_1 : decode cX4_melt 1 = .ok (.iconst 1, 1) := by decide +kernel
theorem dX4_melt_2 : decode cX4_melt 2 = .ok (.iload_n 1, 1) := by decide +kernel
theorem dX4_melt_3 : decode cX4_melt 3 = .ok (.iload_n 2, 1) := by decide +kernel
theorem dX4_melt_4 : decode cX4_melt 4 = .ok (.invokevirtual 81, 3) := by decide +kernel
theorem dX4_melt_7 : decode cX4_melt 7 = .ok (.ireturn, 1) := by decide +kernel
set_option maxRecDepth 20000 in
theorem ggX4_flow_X4_isPlace : GoodIn wsX4_flow wsX4_isPlace := goodIn_r _ [5, 6, 7, 4, 8] (by decide +kernel) (by decide +kernel)
set_option maxRecDepth 20000 in
theorem gX4_flow_X4_isPlace : GoodIn wsX4_flow (va_wsS RX4 65 yX4_isPlace wsX4_isPlace) := goodIn_app (goodIn_of _ (by decide +kernel)) ggX4_flow_X4_isPlace
set_option maxRecDepth 20000 in
theorem ggX4_flow_X4_fail : GoodIn wsX4_flow wsX4_fail := goodIn_r _ [12, 1, 38, 39, 40, 41, 42, 43, 44, 45, 46, 47, 48, 49, 50] (by decide +kernel) (by decide +kernel)
set_option maxRecDepth 20000 in
theorem gX4_flow_X4_fail : GoodIn wsX4_flow (wsV RX4 69 RX4 yX4_fail wsX4_fail) := goodIn_app (goodIn_of _ (by decide +kernel)) ggX4_flow_X4_fail
set_option maxRecDepth 20000 in
theorem ggX4_flow_X4_isFull : GoodIn wsX4_flow wsX4_isFull := goodIn_r _ [16, 17, 18, 38, 39, 40, 41, 42, 43, 44, 45, 46, 47, 48, 49, 50] (by decide +kernel) (by decide +kernel)
set_option maxRecDepth 20000 in
theorem gX4_flow_X4_isFull : GoodIn wsX4_flow (wsV RX4 73 RX4 yX4_isFull wsX4_isFull) := goodIn_app (goodIn_of _ (by decide +kernel)) ggX4_flow_X4_isFull
set_option maxRecDepth 20000 in
theorem ggX4_flow_X4_deed : GoodIn wsX4_flow wsX4_deed := goodIn_r _ [22, 17, 18, 23, 24, 25, 26, 27, 28, 29, 4, 30, 31, 32, 33, 34, 35, 36, 37, 38, 39, 40, 41, 42, 43, 44, 45, 46, 47, 48, 49, 50] (by decide +kernel) (by decide +kernel)
set_option maxRecDepth 20000 in
theorem gX4_flow_X4_deed : GoodIn wsX4_flow (wsV RX4 77 RX4 yX4_deed wsX4_deed) := goodIn_app (goodIn_of _ (by decide +kernel)) ggX4_flow_X4_deed
theorem dX4_flow_0 : decode cX4_flow 0 = .ok (.aload_n 0, 1) := by decide +kernel
theorem dX4_flow_1 : decode cX4_flow 1 = .ok (.iconst 0, 1) := by decide +kernel
theorem dX4_flow_2 : decode cX4_flow 2 = .ok (.putfield 41, 3) := by decide +kernel
theorem dX4_flow_5 : decode cX4_flow 5 = .ok (.iload_n 1, 1) := by decide +kernel
theorem dX4_flow_6 : decode cX4_flow 6 = .ok (.invokestatic 65, 3) := by decide +kernel
theorem dX4_flow_9 : decode cX4_flow 9 = .ok (.ifCond .ne 9, 3) := by decide +kernel
theorem dX4_flow_12 : decode cX4_flow 12 = .ok (.aload_n 0, 1) := by decide +kernel
theorem dX4_flow_13 : decode cX4_flow 13 = .ok (.iconst 1, 1) := by decide +kernel
theorem dX4_flow_14 : decode cX4_flow 14 = .ok (.invokevirtual 69, 3) := by decide +kernel
theorem dX4_flow_17 : decode cX4_flow 17 = .ok (.ireturn, 1) := by decide +kernel
theorem dX4_flow_18 : decode cX4_flow 18 = .ok (.aload_n 0, 1) := by decide +kernel
theorem dX4_flow_19 : decode cX4_flow 19 = .ok (.invokevirtual 73, 3) := by decide +kernel
theorem dX4_flow_22 : decode cX4_flow 22 = .ok (.ifCond .eq 11, 3) := by decide +kernel
theorem dX4_flow_25 : decode cX4_flow 25 = .ok (.aload_n 0, 1) := by decide +kernel
theorem dX4_flow_26 : decode cX4_flow 26 = .ok (.iconst 2, 1) := by decide +kernel
theorem dX4_flow_27 : decode cX4_flow 27 = .ok (.invokevirtual 69, 3) := by decide +kernel
theorem dX4_flow_30 : decode cX4_flow 30 = .ok (.goto 10, 3) := by decide +kernel
theorem dX4_flow_33 : decode cX4_flow 33 = .ok (.aload_n 0, 1) := by decide +kernel
theorem dX4_flow_34 : decode cX4_flow 34 = .ok (.iconst 2, 1) := by decide +kernel
theorem dX4_flow_35 : decode cX4_flow 35 = .ok (.iload_n 1, 1) := by decide +kernel
theorem dX4_flow_36 : decode cX4_flow 36 = .ok (.iconst 0, 1) := by decide +kernel
theorem dX4_flow_37 : decode cX4_flow 37 = .ok (.invokevirtual 77, 3) := by decide +kernel
theorem dX4_flow_40 : decode cX4_flow 40 = .ok (.ireturn, 1) := by decide +kernel
theorem dX4_sealed_0 : decode cX4_sealed 0 = .ok (.iload_n 1, 1) := by decide +kernel
theorem dX4_sealed_1 : decode cX4_sealed 1 = .ok (.ifCond .ne 8, 3) := by decide +kernel
theorem dX4_sealed_4 : decode cX4_sealed 4 = .ok (.bipush 17, 2) := by decide +kernel
theorem dX4_sealed_6 : decode cX4_sealed 6 = .ok (.goto 11, 3) := by decide +kernel
theorem dX4_sealed_9 : decode cX4_sealed 9 = .ok (.aload_n 0, 1) := by decide +kernel
theorem dX4_sealed_10 : decode cX4_sealed 10 = .ok (.getfield 25, 3) := by decide +kernel
theorem dX4_sealed_13 : decode cX4_sealed 13 = .ok (.iload_n 1, 1) := by decide +kernel
theorem dX4_sealed_14 : decode cX4_sealed 14 = .ok (.iconst 1, 1) := by decide +kernel
theorem dX4_sealed_15 : decode cX4_sealed 15 = .ok (.isub, 1) := by decide +kernel
theorem dX4_sealed_16 : decode cX4_sealed 16 = .ok (.iaload, 1) := by decide +kernel
theorem dX4_sealed_17 : decode cX4_sealed 17 = .ok (.istore_n 2, 1) := by decide +kernel
theorem dX4_sealed_18 : decode cX4_sealed 18 = .ok (.bipush 12, 2) := by decide +kernel
theorem dX4_sealed_20 : decode cX4_sealed 20 = .ok (.iload_n 1, 1) := by decide +kernel
theorem dX4_sealed_21 : decode cX4_sealed 21 = .ok (.imul, 1) := by decide +kernel
theorem dX4_sealed_22 : decode cX4_sealed 22 = .ok (.istore_n 3, 1) := by decide +kernel
theorem dX4_sealed_23 : decode cX4_sealed 23 = .ok (.iload_n 3, 1) := by decide +kernel
theorem dX4_sealed_24 : decode cX4_sealed 24 = .ok (.bipush 12, 2) := by decide +kernel
theorem dX4_sealed_26 : decode cX4_sealed 26 = .ok (.iload_n 1, 1) := by decide +kernel
theorem dX4_sealed_27 : decode cX4_sealed 27 = .ok (.imul, 1) := by decide +kernel
theorem dX4_sealed_28 : decode cX4_sealed 28 = .ok (.aload_n 0, 1) := by decide +kernel
theorem dX4_sealed_29 : decode cX4_sealed 29 = .ok (.getfield 22, 3) := by decide +kernel
theorem dX4_sealed_32 : decode cX4_sealed 32 = .ok (.iload_n 1, 1) := by decide +kernel
theorem dX4_sealed_33 : decode cX4_sealed 33 = .ok (.iaload, 1) := by decide +kernel
theorem dX4_sealed_34 : decode cX4_sealed 34 = .ok (.iadd, 1) := by decide +kernel
theorem dX4_sealed_35 : decode cX4_sealed 35 = .ok (.if_icmp .ge 44, 3) := by decide +kernel
theorem dX4_sealed_38 : decode cX4_sealed 38 = .ok (.bipush 31, 2) := by decide +kernel
theorem dX4_sealed_40 : decode cX4_sealed 40 = .ok (.iload_n 2, 1) := by decide +kernel
theorem dX4_sealed_41 : decode cX4_sealed 41 = .ok (.imul, 1) := by decide +kernel
theorem dX4_sealed_42 : decode cX4_sealed 42 = .ok (.aload_n 0, 1) := by decide +kernel
theorem dX4_sealed_43 : decode cX4_sealed 43 = .ok (.getfield 13, 3) := by decide +kernel
theorem dX4_sealed_46 : decode cX4_sealed 46 = .ok (.iload_n 3, 1) := by decide +kernel
theorem dX4_sealed_47 : decode cX4_sealed 47 = .ok (.iaload, 1) := by decide +kernel
theorem dX4_sealed_48 : decode cX4_sealed 48 = .ok (.iadd, 1) := by decide +kernel
theorem dX4_sealed_49 : decode cX4_sealed 49 = .ok (.iconst 5, 1) := by decide +kernel
theorem dX4_sealed_50 : decode cX4_sealed 50 = .ok (.aload_n 0, 1) := by decide +kernel
theorem dX4_sealed_51 : decode cX4_sealed 51 = .ok (.getfield 16, 3) := by decide +kernel
theorem dX4_sealed_54 : decode cX4_sealed 54 = .ok (.iload_n 3, 1) := by decide +kernel
theorem dX4_sealed_55 : decode cX4_sealed 55 = .ok (.iaload, 1) := by decide +kernel
theorem dX4_sealed_56 : decode cX4_sealed 56 = .ok (.imul, 1) := by decide +kernel
theorem dX4_sealed_57 : decode cX4_sealed 57 = .ok (.iadd, 1) := by decide +kernel
theorem dX4_sealed_58 : decode cX4_sealed 58 = .ok (.bipush 7, 2) := by decide +kernel
theorem dX4_sealed_60 : decode cX4_sealed 60 = .ok (.aload_n 0, 1) := by decide +kernel
theorem dX4_sealed_61 : decode cX4_sealed 61 = .ok (.getfield 19, 3) := by decide +kernel
theorem dX4_sealed_64 : decode cX4_sealed 64 = .ok (.iload_n 3, 1) := by decide +kernel
theorem dX4_sealed_65 : decode cX4_sealed 65 = .ok (.iaload, 1) := by decide +kernel
theorem dX4_sealed_66 : decode cX4_sealed 66 = .ok (.imul, 1) := by decide +kernel
theorem dX4_sealed_67 : decode cX4_sealed 67 = .ok (.iadd, 1) := by decide +kernel
theorem dX4_sealed_68 : decode cX4_sealed 68 = .ok (.sipush 10007, 3) := by decide +kernel
theorem dX4_sealed_71 : decode cX4_sealed 71 = .ok (.irem, 1) := by decide +kernel
theorem dX4_sealed_72 : decode cX4_sealed 72 = .ok (.istore_n 2, 1) := by decide +kernel
theorem dX4_sealed_73 : decode cX4_sealed 73 = .ok (.iinc 3 1, 3) := by decide +kernel
theorem dX4_sealed_76 : decode cX4_sealed 76 = .ok (.goto (-53), 3) := by decide +kernel
theorem dX4_sealed_79 : decode cX4_sealed 79 = .ok (.iload_n 2, 1) := by decide +kernel
theorem dX4_sealed_80 : decode cX4_sealed 80 = .ok (.ireturn, 1) := by decide +kernel
theorem dX4_drop_0 : decode cX4_drop 0 = .ok (.aload_n 0, 1) := by decide +kernel
theorem dX4_drop_1 : decode cX4_drop 1 = .ok (.dup, 1) := by decide +kernel
theorem dX4_drop_2 : decode cX4_drop 2 = .ok (.getfield 84, 3) := by decide +kernel
theorem dX4_drop_5 : decode cX4_drop 5 = .ok (.iconst 1, 1) := by decide +kernel
theorem dX4_drop_6 : decode cX4_drop 6 = .ok (.isub, 1) := by decide +kernel
theorem dX4_drop_7 : decode cX4_drop 7 = .ok (.putfield 84, 3) := by decide +kernel
theorem dX4_drop_10 : decode cX4_drop 10 = .ok (.iload_n 1, 1) := by decide +kernel
theorem dX4_drop_11 : decode cX4_drop 11 = .ok (.istore_n 2, 1) := by decide +kernel
theorem dX4_drop_12 : decode cX4_drop 12 = .ok (.iload_n 2, 1) := by decide +kernel
theorem dX4_drop_13 : decode cX4_drop 13 = .ok (.aload_n 0, 1) := by decide +kernel
theorem dX4_drop_14 : decode cX4_drop 14 = .ok (.getfield 84, 3) := by decide +kernel
theorem dX4_drop_17 : decode cX4_drop 17 = .ok (.if_icmp .ge 46, 3) := by decide +kernel
theorem dX4_drop_20 : decode cX4_drop 20 = .ok (.aload_n 0, 1) := by decide +kernel
theorem dX4_drop_21 : decode cX4_drop 21 = .ok (.getfield 32, 3) := by decide +kernel
theorem dX4_drop_24 : decode cX4_drop 24 = .ok (.iload_n 2, 1) := by decide +kernel
theorem dX4_drop_25 : decode cX4_drop 25 = .ok (.aload_n 0, 1) := by decide +kernel
theorem dX4_drop_26 : decode cX4_drop 26 = .ok (.getfield 32, 3) := by decide +kernel
theorem dX4_drop_29 : decode cX4_drop 29 = .ok (.iload_n 2, 1) := by decide +kernel
theorem dX4_drop_30 : decode cX4_drop 30 = .ok (.iconst 1, 1) := by decide +kernel
theorem dX4_drop_31 : decode cX4_drop 31 = .ok (.iadd, 1) := by decide +kernel
theorem dX4_drop_32 : decode cX4_drop 32 = .ok (.iaload, 1) := by decide +kernel
theorem dX4_drop_33 : decode cX4_drop 33 = .ok (.iastore, 1) := by decide +kernel
theorem dX4_drop_34 : decode cX4_drop 34 = .ok (.aload_n 0, 1) := by decide +kernel
theorem dX4_drop_35 : decode cX4_drop 35 = .ok (.getfield 35, 3) := by decide +kernel
theorem dX4_drop_38 : decode cX4_drop 38 = .ok (.bipush 8, 2) := by decide +kernel
theorem dX4_drop_40 : decode cX4_drop 40 = .ok (.iload_n 2, 1) := by decide +kernel
theorem dX4_drop_41 : decode cX4_drop 41 = .ok (.iconst 1, 1) := by decide +kernel
theorem dX4_drop_42 : decode cX4_drop 42 = .ok (.iadd, 1) := by decide +kernel
theorem dX4_drop_43 : decode cX4_drop 43 = .ok (.imul, 1) := by decide +kernel
theorem dX4_drop_44 : decode cX4_drop 44 = .ok (.aload_n 0, 1) := by decide +kernel
theorem dX4_drop_45 : decode cX4_drop 45 = .ok (.getfield 35, 3) := by decide +kernel
theorem dX4_drop_48 : decode cX4_drop 48 = .ok (.bipush 8, 2) := by decide +kernel
theorem dX4_drop_50 : decode cX4_drop 50 = .ok (.iload_n 2, 1) := by decide +kernel
theorem dX4_drop_51 : decode cX4_drop 51 = .ok (.imul, 1) := by decide +kernel
theorem dX4_drop_52 : decode cX4_drop 52 = .ok (.bipush 8, 2) := by decide +kernel
theorem dX4_drop_54 : decode cX4_drop 54 = .ok (.invokestatic 87, 3) := by decide +kernel
theorem dX4_drop_57 : decode cX4_drop 57 = .ok (.iinc 2 1, 3) := by decide +kernel
theorem dX4_drop_60 : decode cX4_drop 60 = .ok (.goto (-48), 3) := by decide +kernel
theorem dX4_drop_63 : decode cX4_drop 63 = .ok (.return_, 1) := by decide +kernel
set_option maxRecDepth 20000 in
theorem ggX4_endYear_X4_fail : GoodIn wsX4_endYear wsX4_fail := goodIn_r _ [16, 1, 29, 30, 31, 32, 33, 34, 35, 36, 37, 38, 39, 40, 41] (by decide +kernel) (by decide +kernel)
set_option maxRecDepth 20000 in
theorem gX4_endYear_X4_fail : GoodIn wsX4_endYear (wsV RX4 69 RX4 yX4_fail wsX4_fail) := goodIn_app (goodIn_of _ (by decide +kernel)) ggX4_endYear_X4_fail
set_option maxRecDepth 20000 in
theorem ggX4_endYear_X4_sealed : GoodIn wsX4_endYear wsX4_sealed := goodIn_r _ [20, 3, 21, 22, 23, 24, 29, 30, 31, 32, 33, 34, 35, 36, 37, 38, 39, 40, 41] (by decide +kernel) (by decide +kernel)
set_option maxRecDepth 20000 in
theorem gX4_endYear_X4_sealed : GoodIn wsX4_endYear (wsV RX4 93 RX4 yX4_sealed wsX4_sealed) := goodIn_app (goodIn_of _ (by decide +kernel)) ggX4_endYear_X4_sealed
set_option maxRecDepth 20000 in
theorem ggX4_endYear_X4_drop : GoodIn wsX4_endYear wsX4_drop := goodIn_r _ [28, 4, 5, 7, 8, 9, 10, 11, 29, 30, 31, 32, 33, 34, 35, 36, 37, 38, 39, 40, 41] (by decide +kernel) (by decide +kernel)
set_option maxRecDepth 20000 in
theorem gX4_endYear_X4_drop : GoodIn wsX4_endYear (wsV RX4 96 RX4 yX4_drop wsX4_drop) := goodIn_app (goodIn_of _ (by decide +kernel)) ggX4_endYear_X4_drop
theorem dX4_endYear_0 : decode cX4_endYear 0 = .ok (.aload_n 0, 1) := by decide +kernel
theorem dX4_endYear_1 : decode cX4_endYear 1 = .ok (.iconst 0, 1) := by decide +kernel
theorem dX4_endYear_2 : decode cX4_endYear 2 = .ok (.putfield 41, 3) := by decide +kernel
theorem dX4_endYear_5 : decode cX4_endYear 5 = .ok (.aload_n 0, 1) := by decide +kernel
theorem dX4_endYear_6 : decode cX4_endYear 6 = .ok (.getfield 49, 3) := by decide +kernel
theorem dX4_endYear_9 : decode cX4_endYear 9 = .ok (.bipush 40, 2) := by decide +kernel
theorem dX4_endYear_11 : decode cX4_endYear 11 = .ok (.if_icmp .ne 9, 3) := by decide +kernel
theorem dX4_endYear_14 : decode cX4_endYear 14 = .ok (.aload_n 0, 1) := by decide +kernel
theorem dX4_endYear_15 : decode cX4_endYear 15 = .ok (.iconst 1, 1) := by decide +kernel
theorem dX4_endYear_16 : decode cX4_endYear 16 = .ok (.invokevirtual 69, 3) := by decide +kernel
theorem dX4_endYear_19 : decode cX4_endYear 19 = .ok (.ireturn, 1) := by decide +kernel
theorem dX4_endYear_20 : decode cX4_endYear 20 = .ok (.aload_n 0, 1) := by decide +kernel
theorem dX4_endYear_21 : decode cX4_endYear 21 = .ok (.getfield 25, 3) := by decide +kernel
theorem dX4_endYear_24 : decode cX4_endYear 24 = .ok (.aload_n 0, 1) := by decide +kernel
theorem dX4_endYear_25 : decode cX4_endYear 25 = .ok (.getfield 49, 3) := by decide +kernel
theorem dX4_endYear_28 : decode cX4_endYear 28 = .ok (.aload_n 0, 1) := by decide +kernel
theorem dX4_endYear_29 : decode cX4_endYear 29 = .ok (.aload_n 0, 1) := by decide +kernel
theorem dX4_endYear_30 : decode cX4_endYear 30 = .ok (.getfield 49, 3) := by decide +kernel
theorem dX4_endYear_33 : decode cX4_endYear 33 = .ok (.invokevirtual 93, 3) := by decide +kernel
theorem dX4_endYear_36 : decode cX4_endYear 36 = .ok (.iastore, 1) := by decide +kernel
theorem dX4_endYear_37 : decode cX4_endYear 37 = .ok (.aload_n 0, 1) := by decide +kernel
theorem dX4_endYear_38 : decode cX4_endYear 38 = .ok (.dup, 1) := by decide +kernel
theorem dX4_endYear_39 : decode cX4_endYear 39 = .ok (.getfield 49, 3) := by decide +kernel
theorem dX4_endYear_42 : decode cX4_endYear 42 = .ok (.iconst 1, 1) := by decide +kernel
theorem dX4_endYear_43 : decode cX4_endYear 43 = .ok (.iadd, 1) := by decide +kernel
theorem dX4_endYear_44 : decode cX4_endYear 44 = .ok (.putfield 49, 3) := by decide +kernel
theorem dX4_endYear_47 : decode cX4_endYear 47 = .ok (.iload_n 1, 1) := by decide +kernel
theorem dX4_endYear_48 : decode cX4_endYear 48 = .ok (.ifCond .eq 61, 3) := by decide +kernel
theorem dX4_endYear_51 : decode cX4_endYear 51 = .ok (.aload_n 0, 1) := by decide +kernel
theorem dX4_endYear_52 : decode cX4_endYear 52 = .ok (.getfield 84, 3) := by decide +kernel
theorem dX4_endYear_55 : decode cX4_endYear 55 = .ok (.bipush 6, 2) := by decide +kernel
theorem dX4_endYear_57 : decode cX4_endYear 57 = .ok (.if_icmp .ne 8, 3) := by decide +kernel
theorem dX4_endYear_60 : decode cX4_endYear 60 = .ok (.aload_n 0, 1) := by decide +kernel
theorem dX4_endYear_61 : decode cX4_endYear 61 = .ok (.iconst 0, 1) := by decide +kernel
theorem dX4_endYear_62 : decode cX4_endYear 62 = .ok (.invokevirtual 96, 3) := by decide +kernel
theorem dX4_endYear_65 : decode cX4_endYear 65 = .ok (.aload_n 0, 1) := by decide +kernel
theorem dX4_endYear_66 : decode cX4_endYear 66 = .ok (.getfield 32, 3) := by decide +kernel
theorem dX4_endYear_69 : decode cX4_endYear 69 = .ok (.aload_n 0, 1) := by decide +kernel
theorem dX4_endYear_70 : decode cX4_endYear 70 = .ok (.getfield 84, 3) := by decide +kernel
theorem dX4_endYear_73 : decode cX4_endYear 73 = .ok (.aload_n 0, 1) := by decide +kernel
theorem dX4_endYear_74 : decode cX4_endYear 74 = .ok (.getfield 49, 3) := by decide +kernel
theorem dX4_endYear_77 : decode cX4_endYear 77 = .ok (.iastore, 1) := by decide +kernel
theorem dX4_endYear_78 : decode cX4_endYear 78 = .ok (.aload_n 0, 1) := by decide +kernel
theorem dX4_endYear_79 : decode cX4_endYear 79 = .ok (.getfield 9, 3) := by decide +kernel
theorem dX4_endYear_82 : decode cX4_endYear 82 = .ok (.iconst 0, 1) := by decide +kernel
theorem dX4_endYear_83 : decode cX4_endYear 83 = .ok (.aload_n 0, 1) := by decide +kernel
theorem dX4_endYear_84 : decode cX4_endYear 84 = .ok (.getfield 35, 3) := by decide +kernel
theorem dX4_endYear_87 : decode cX4_endYear 87 = .ok (.bipush 8, 2) := by decide +kernel
theorem dX4_endYear_89 : decode cX4_endYear 89 = .ok (.aload_n 0, 1) := by decide +kernel
theorem dX4_endYear_90 : decode cX4_endYear 90 = .ok (.getfield 84, 3) := by decide +kernel
theorem dX4_endYear_93 : decode cX4_endYear 93 = .ok (.imul, 1) := by decide +kernel
theorem dX4_endYear_94 : decode cX4_endYear 94 = .ok (.bipush 8, 2) := by decide +kernel
theorem dX4_endYear_96 : decode cX4_endYear 96 = .ok (.invokestatic 87, 3) := by decide +kernel
theorem dX4_endYear_99 : decode cX4_endYear 99 = .ok (.aload_n 0, 1) := by decide +kernel
theorem dX4_endYear_100 : decode cX4_endYear 100 = .ok (.dup, 1) := by decide +kernel
theorem dX4_endYear_101 : decode cX4_endYear 101 = .ok (.getfield 84, 3) := by decide +kernel
theorem dX4_endYear_104 : decode cX4_endYear 104 = .ok (.iconst 1, 1) := by decide +kernel
theorem dX4_endYear_105 : decode cX4_endYear 105 = .ok (.iadd, 1) := by decide +kernel
theorem dX4_endYear_106 : decode cX4_endYear 106 = .ok (.putfield 84, 3) := by decide +kernel
theorem dX4_endYear_109 : decode cX4_endYear 109 = .ok (.aload_n 0, 1) := by decide +kernel
theorem dX4_endYear_110 : decode cX4_endYear 110 = .ok (.getfield 49, 3) := by decide +kernel
theorem dX4_endYear_113 : decode cX4_endYear 113 = .ok (.ireturn, 1) := by decide +kernel
theorem dX4_core_0 : decode cX4_core 0 = .ok (.iconst 0, 1) := by decide +kernel
theorem dX4_core_1 : decode cX4_core 1 = .ok (.istore_n 2, 1) := by decide +kernel
theorem dX4_core_2 : decode cX4_core 2 = .ok (.iload_n 2, 1) := by decide +kernel
theorem dX4_core_3 : decode cX4_core 3 = .ok (.aload_n 0, 1) := by decide +kernel
theorem dX4_core_4 : decode cX4_core 4 = .ok (.getfield 84, 3) := by decide +kernel
theorem dX4_core_7 : decode cX4_core 7 = .ok (.if_icmp .ge 21, 3) := by decide +kernel
theorem dX4_core_10 : decode cX4_core 10 = .ok (.aload_n 0, 1) := by decide +kernel
theorem dX4_core_11 : decode cX4_core 11 = .ok (.getfield 32, 3) := by decide +kernel
theorem dX4_core_14 : decode cX4_core 14 = .ok (.iload_n 2, 1) := by decide +kernel
theorem dX4_core_15 : decode cX4_core 15 = .ok (.iaload, 1) := by decide +kernel
theorem dX4_core_16 : decode cX4_core 16 = .ok (.iload_n 1, 1) := by decide +kernel
theorem dX4_core_17 : decode cX4_core 17 = .ok (.if_icmp .ne 5, 3) := by decide +kernel
theorem dX4_core_20 : decode cX4_core 20 = .ok (.iload_n 2, 1) := by decide +kernel
theorem dX4_core_21 : decode cX4_core 21 = .ok (.ireturn, 1) := by decide +kernel
theorem dX4_core_22 : decode cX4_core 22 = .ok (.iinc 2 1, 3) := by decide +kernel
theorem dX4_core_25 : decode cX4_core 25 = .ok (.goto (-23), 3) := by decide +kernel
theorem dX4_core_28 : decode cX4_core 28 = .ok (.iconst (-1), 1) := by decide +kernel
theorem dX4_core_29 : decode cX4_core 29 = .ok (.ireturn, 1) := by decide +kernel
set_option maxRecDepth 20000 in
theorem ggX4_compact_X4_isIn : GoodIn wsX4_compact wsX4_isIn := goodIn_r _ [8] (by decide +kernel) (by decide +kernel)
set_option maxRecDepth 20000 in
theorem gX4_compact_X4_isIn : GoodIn wsX4_compact (va_wsS RX4 45 yX4_isIn wsX4_isIn) := goodIn_app (goodIn_of _ (by decide +kernel)) ggX4_compact_X4_isIn
set_option maxRecDepth 20000 in
theorem ggX4_compact_X4_fail : GoodIn wsX4_compact wsX4_fail := goodIn_r _ [12, 1, 19, 20, 21, 22, 23, 24, 25, 26, 27, 28, 29, 30, 31] (by decide +kernel) (by decide +kernel)
set_option maxRecDepth 20000 in
theorem gX4_compact_X4_fail : GoodIn wsX4_compact (wsV RX4 69 RX4 yX4_fail wsX4_fail) := goodIn_app (goodIn_of _ (by decide +kernel)) ggX4_compact_X4_fail
set_option maxRecDepth 20000 in
theorem ggX4_compact_X4_core : GoodIn wsX4_compact wsX4_core := goodIn_r _ [16, 17, 18, 19, 20, 21, 22, 23, 24, 25, 26, 27, 28, 29, 30, 31] (by decide +kernel) (by decide +kernel)
set_option maxRecDepth 20000 in
theorem gX4_compact_X4_core : GoodIn wsX4_compact (wsV RX4 100 RX4 yX4_core wsX4_core) := goodIn_app (goodIn_of _ (by decide +kernel)) ggX4_compact_X4_core
theorem dX4_compact_0 : decode cX4_compact 0 = .ok (.aload_n 0, 1) := by decide +kernel
theorem dX4_compact_1 : decode cX4_compact 1 = .ok (.iconst 0, 1) := by decide +kernel
theorem dX4_compact_2 : decode cX4_compact 2 = .ok (.putfield 41, 3) := by decide +kernel
theorem dX4_compact_5 : decode cX4_compact 5 = .ok (.iload_n 1, 1) := by decide +kernel
theorem dX4_compact_6 : decode cX4_compact 6 = .ok (.iconst 1, 1) := by decide +kernel
theorem dX4_compact_7 : decode cX4_compact 7 = .ok (.aload_n 0, 1) := by decide +kernel
theorem dX4_compact_8 : decode cX4_compact 8 = .ok (.getfield 49, 3) := by decide +kernel
theorem dX4_compact_11 : decode cX4_compact 11 = .ok (.invokestatic 45, 3) := by decide +kernel
theorem dX4_compact_14 : decode cX4_compact 14 = .ok (.ifCond .ne 9, 3) := by decide +kernel
theorem dX4_compact_17 : decode cX4_compact 17 = .ok (.aload_n 0, 1) := by decide +kernel
theorem dX4_compact_18 : decode cX4_compact 18 = .ok (.iconst 1, 1) := by decide +kernel
theorem dX4_compact_19 : decode cX4_compact 19 = .ok (.invokevirtual 69, 3) := by decide +kernel
theorem dX4_compact_22 : decode cX4_compact 22 = .ok (.ireturn, 1) := by decide +kernel
theorem dX4_compact_23 : decode cX4_compact 23 = .ok (.aload_n 0, 1) := by decide +kernel
theorem dX4_compact_24 : decode cX4_compact 24 = .ok (.iload_n 1, 1) := by decide +kernel
theorem dX4_compact_25 : decode cX4_compact 25 = .ok (.invokevirtual 100, 3) := by decide +kernel
theorem dX4_compact_28 : decode cX4_compact 28 = .ok (.iconst (-1), 1) := by decide +kernel
theorem dX4_compact_29 : decode cX4_compact 29 = .ok (.if_icmp .ne 9, 3) := by decide +kernel
theorem dX4_compact_32 : decode cX4_compact 32 = .ok (.aload_n 0, 1) := by decide +kernel
theorem dX4_compact_33 : decode cX4_compact 33 = .ok (.iconst 2, 1) := by decide +kernel
theorem dX4_compact_34 : decode cX4_compact 34 = .ok (.invokevirtual 69, 3) := by decide +kernel
theorem dX4_compact_37 : decode cX4_compact 37 = .ok (.ireturn, 1) := by decide +kernel
theorem dX4_compact_38 : decode cX4_compact 38 = .ok (.iconst 0, 1) := by decide +kernel
theorem dX4_compact_39 : decode cX4_compact 39 = .ok (.istore_n 2, 1) := by decide +kernel
theorem dX4_compact_40 : decode cX4_compact 40 = .ok (.iconst 0, 1) := by decide +kernel
theorem dX4_compact_41 : decode cX4_compact 41 = .ok (.istore_n 3, 1) := by decide +kernel
theorem dX4_compact_42 : decode cX4_compact 42 = .ok (.iload_n 3, 1) := by decide +kernel
theorem dX4_compact_43 : decode cX4_compact 43 = .ok (.iload_n 1, 1) := by decide +kernel
theorem dX4_compact_44 : decode cX4_compact 44 = .ok (.if_icmp .ge 40, 3) := by decide +kernel
theorem dX4_compact_47 : decode cX4_compact 47 = .ok (.iload_n 2, 1) := by decide +kernel
theorem dX4_compact_48 : decode cX4_compact 48 = .ok (.aload_n 0, 1) := by decide +kernel
theorem dX4_compact_49 : decode cX4_compact 49 = .ok (.getfield 28, 3) := by decide +kernel
theorem dX4_compact_52 : decode cX4_compact 52 = .ok (.iload_n 3, 1) := by decide +kernel
theorem dX4_compact_53 : decode cX4_compact 53 = .ok (.baload, 1) := by decide +kernel
theorem dX4_compact_54 : decode cX4_compact 54 = .ok (.ifCond .eq 7, 3) := by decide +kernel
theorem dX4_compact_57 : decode cX4_compact 57 = .ok (.iconst 0, 1) := by decide +kernel
theorem dX4_compact_58 : decode cX4_compact 58 = .ok (.goto 4, 3) := by decide +kernel
theorem dX4_compact_61 : decode cX4_compact 61 = .ok (.iconst 1, 1) := by decide +kernel
theorem dX4_compact_62 : decode cX4_compact 62 = .ok (.iadd, 1) := by decide +kernel
theorem dX4_compact_63 : decode cX4_compact 63 = .ok (.istore_n 2, 1) := by decide +kernel
theorem dX4_compact_64 : decode cX4_compact 64 = .ok (.aload_n 0, 1) := by decide +kernel
theorem dX4_compact_65 : decode cX4_compact 65 = .ok (.getfield 28, 3) := by decide +kernel
theorem dX4_compact_68 : decode cX4_compact 68 = .ok (.iload_n 3, 1) := by decide +kernel
theorem dX4_compact_69 : decode cX4_compact 69 = .ok (.iconst 1, 1) := by decide +kernel
theorem dX4_compact_70 : decode cX4_compact 70 = .ok (.bastore, 1) := by decide +kernel
theorem dX4_compact_71 : decode cX4_compact 71 = .ok (.aload_n 0, 1) := by decide +kernel
theorem dX4_compact_72 : decode cX4_compact 72 = .ok (.getfield 22, 3) := by decide +kernel
theorem dX4_compact_75 : decode cX4_compact 75 = .ok (.iload_n 3, 1) := by decide +kernel
theorem dX4_compact_76 : decode cX4_compact 76 = .ok (.iconst 0, 1) := by decide +kernel
theorem dX4_compact_77 : decode cX4_compact 77 = .ok (.iastore, 1) := by decide +kernel
theorem dX4_compact_78 : decode cX4_compact 78 = .ok (.iinc 3 1, 3) := by decide +kernel
theorem dX4_compact_81 : decode cX4_compact 81 = .ok (.goto (-39), 3) := by decide +kernel
theorem dX4_compact_84 : decode cX4_compact 84 = .ok (.iload_n 2, 1) := by decide +kernel
theorem dX4_compact_85 : decode cX4_compact 85 = .ok (.ireturn, 1) := by decide +kernel
set_option maxRecDepth 20000 in
theorem ggX4_forge_X4_isLayer : GoodIn wsX4_forge wsX4_isLayer := goodIn_r _ [9, 10, 11, 12, 8, 13, 18, 19, 20, 21, 22, 23, 24, 25, 26, 27, 28, 29, 30] (by decide +kernel) (by decide +kernel)
set_option maxRecDepth 20000 in
theorem gX4_forge_X4_isLayer : GoodIn wsX4_forge (wsV RX4 103 RX4 yX4_isLayer wsX4_isLayer) := goodIn_app (goodIn_of _ (by decide +kernel)) ggX4_forge_X4_isLayer
set_option maxRecDepth 20000 in
theorem ggX4_forge_X4_isIn : GoodIn wsX4_forge wsX4_isIn := goodIn_r _ [13] (by decide +kernel) (by decide +kernel)
set_option maxRecDepth 20000 in
theorem gX4_forge_X4_isIn : GoodIn wsX4_forge (va_wsS RX4 45 yX4_isIn wsX4_isIn) := goodIn_app (goodIn_of _ (by decide +kernel)) ggX4_forge_X4_isIn
set_option maxRecDepth 20000 in
theorem ggX4_forge_X4_fail : GoodIn wsX4_forge wsX4_fail := goodIn_r _ [17, 1, 18, 19, 20, 21, 22, 23, 24, 25, 26, 27, 28, 29, 30] (by decide +kernel) (by decide +kernel)
set_option maxRecDepth 20000 in
theorem gX4_forge_X4_fail : GoodIn wsX4_forge (wsV RX4 69 RX4 yX4_fail wsX4_fail) := goodIn_app (goodIn_of _ (by decide +kernel)) ggX4_forge_X4_fail
theorem dX4_forge_0 : decode cX4_forge 0 = .ok (.aload_n 0, 1) := by decide +kernel
theorem dX4_forge_1 : decode cX4_forge 1 = .ok (.iconst 0, 1) := by decide +kernel
theorem dX4_forge_2 : decode cX4_forge 2 = .ok (.putfield 41, 3) := by decide +kernel
theorem dX4_forge_5 : decode cX4_forge 5 = .ok (.aload_n 0, 1) := by decide +kernel
theorem dX4_forge_6 : decode cX4_forge 6 = .ok (.iload_n 1, 1) := by decide +kernel
theorem dX4_forge_7 : decode cX4_forge 7 = .ok (.invokevirtual 103, 3) := by decide +kernel
theorem dX4_forge_10 : decode cX4_forge 10 = .ok (.ifCond .eq 19, 3) := by decide +kernel
theorem dX4_forge_13 : decode cX4_forge 13 = .ok (.iload_n 2, 1) := by decide +kernel
theorem dX4_forge_14 : decode cX4_forge 14 = .ok (.iconst 0, 1) := by decide +kernel
theorem dX4_forge_15 : decode cX4_forge 15 = .ok (.aload_n 0, 1) := by decide +kernel
theorem dX4_forge_16 : decode cX4_forge 16 = .ok (.getfield 22, 3) := by decide +kernel
theorem dX4_forge_19 : decode cX4_forge 19 = .ok (.iload_n 1, 1) := by decide +kernel
theorem dX4_forge_20 : decode cX4_forge 20 = .ok (.iaload, 1) := by decide +kernel
theorem dX4_forge_21 : decode cX4_forge 21 = .ok (.iconst 1, 1) := by decide +kernel
theorem dX4_forge_22 : decode cX4_forge 22 = .ok (.isub, 1) := by decide +kernel
theorem dX4_forge_23 : decode cX4_forge 23 = .ok (.invokestatic 45, 3) := by decide +kernel
theorem dX4_forge_26 : decode cX4_forge 26 = .ok (.ifCond .ne 9, 3) := by decide +kernel
theorem dX4_forge_29 : decode cX4_forge 29 = .ok (.aload_n 0, 1) := by decide +kernel
theorem dX4_forge_30 : decode cX4_forge 30 = .ok (.iconst 1, 1) := by decide +kernel
theorem dX4_forge_31 : decode cX4_forge 31 = .ok (.invokevirtual 69, 3) := by decide +kernel
theorem dX4_forge_34 : decode cX4_forge 34 = .ok (.ireturn, 1) := by decide +kernel
theorem dX4_forge_35 : decode cX4_forge 35 = .ok (.bipush 12, 2) := by decide +kernel
theorem dX4_forge_37 : decode cX4_forge 37 = .ok (.iload_n 1, 1) := by decide +kernel
theorem dX4_forge_38 : decode cX4_forge 38 = .ok (.imul, 1) := by decide +kernel
theorem dX4_forge_39 : decode cX4_forge 39 = .ok (.iload_n 2, 1) := by decide +kernel
theorem dX4_forge_40 : decode cX4_forge 40 = .ok (.iadd, 1) := by decide +kernel
theorem dX4_forge_41 : decode cX4_forge 41 = .ok (.istore 4, 2) := by decide +kernel
theorem dX4_forge_43 : decode cX4_forge 43 = .ok (.aload_n 0, 1) := by decide +kernel
theorem dX4_forge_44 : decode cX4_forge 44 = .ok (.getfield 13, 3) := by decide +kernel
theorem dX4_forge_47 : decode cX4_forge 47 = .ok (.iload 4, 2) := by decide +kernel
theorem dX4_forge_49 : decode cX4_forge 49 = .ok (.iaload, 1) := by decide +kernel
theorem dX4_forge_50 : decode cX4_forge 50 = .ok (.iconst 2, 1) := by decide +kernel
theorem dX4_forge_51 : decode cX4_forge 51 = .ok (.if_icmp .ne 10, 3) := by decide +kernel
theorem dX4_forge_54 : decode cX4_forge 54 = .ok (.iload_n 3, 1) := by decide +kernel
theorem dX4_forge_55 : decode cX4_forge 55 = .ok (.ifCond .eq 22, 3) := by decide +kernel
theorem dX4_forge_58 : decode cX4_forge 58 = .ok (.goto 13, 3) := by decide +kernel
theorem dX4_forge_61 : decode cX4_forge 61 = .ok (.iload_n 3, 1) := by decide +kernel
theorem dX4_forge_62 : decode cX4_forge 62 = .ok (.iconst 1, 1) := by decide +kernel
theorem dX4_forge_63 : decode cX4_forge 63 = .ok (.bipush 99, 2) := by decide +kernel
theorem dX4_forge_65 : decode cX4_forge 65 = .ok (.invokestatic 45, 3) := by decide +kernel
theorem dX4_forge_68 : decode cX4_forge 68 = .ok (.ifCond .ne 9, 3) := by decide +kernel
theorem dX4_forge_71 : decode cX4_forge 71 = .ok (.aload_n 0, 1) := by decide +kernel
theorem dX4_forge_72 : decode cX4_forge 72 = .ok (.iconst 2, 1) := by decide +kernel
theorem dX4_forge_73 : decode cX4_forge 73 = .ok (.invokevirtual 69, 3) := by decide +kernel
theorem dX4_forge_76 : decode cX4_forge 76 = .ok (.ireturn, 1) := by decide +kernel
theorem dX4_forge_77 : decode cX4_forge 77 = .ok (.aload_n 0, 1) := by decide +kernel
theorem dX4_forge_78 : decode cX4_forge 78 = .ok (.getfield 19, 3) := by decide +kernel
theorem dX4_forge_81 : decode cX4_forge 81 = .ok (.iload 4, 2) := by decide +kernel
theorem dX4_forge_83 : decode cX4_forge 83 = .ok (.iaload, 1) := by decide +kernel
theorem dX4_forge_84 : decode cX4_forge 84 = .ok (.istore 5, 2) := by decide +kernel
theorem dX4_forge_86 : decode cX4_forge 86 = .ok (.aload_n 0, 1) := by decide +kernel
theorem dX4_forge_87 : decode cX4_forge 87 = .ok (.getfield 19, 3) := by decide +kernel
theorem dX4_forge_90 : decode cX4_forge 90 = .ok (.iload 4, 2) := by decide +kernel
theorem dX4_forge_92 : decode cX4_forge 92 = .ok (.iload_n 3, 1) := by decide +kernel
theorem dX4_forge_93 : decode cX4_forge 93 = .ok (.iastore, 1) := by decide +kernel
theorem dX4_forge_94 : decode cX4_forge 94 = .ok (.iload 5, 2) := by decide +kernel
theorem dX4_forge_96 : decode cX4_forge 96 = .ok (.ireturn, 1) := by decide +kernel
set_option maxRecDepth 20000 in
theorem ggX4_throwAway_X4_core : GoodIn wsX4_throwAway wsX4_core := goodIn_r _ [8, 3, 9, 23, 24, 25, 26, 27, 28, 29, 30, 31, 32, 33, 34, 35] (by decide +kernel) (by decide +kernel)
set_option maxRecDepth 20000 in
theorem gX4_throwAway_X4_core : GoodIn wsX4_throwAway (wsV RX4 100 RX4 yX4_core wsX4_core) := goodIn_app (goodIn_of _ (by decide +kernel)) ggX4_throwAway_X4_core
set_option maxRecDepth 20000 in
theorem ggX4_throwAway_X4_fail : GoodIn wsX4_throwAway wsX4_fail := goodIn_r _ [13, 1, 23, 24, 25, 26, 27, 28, 29, 30, 31, 32, 33, 34, 35] (by decide +kernel) (by decide +kernel)
set_option maxRecDepth 20000 in
theorem gX4_throwAway_X4_fail : GoodIn wsX4_throwAway (wsV RX4 69 RX4 yX4_fail wsX4_fail) := goodIn_app (goodIn_of _ (by decide +kernel)) ggX4_throwAway_X4_fail
set_option maxRecDepth 20000 in
theorem ggX4_throwAway_X4_drop : GoodIn wsX4_throwAway wsX4_drop := goodIn_r _ [17, 3, 9, 18, 19, 20, 21, 22, 23, 24, 25, 26, 27, 28, 29, 30, 31, 32, 33, 34, 35] (by decide +kernel) (by decide +kernel)
set_option maxRecDepth 20000 in
theorem gX4_throwAway_X4_drop : GoodIn wsX4_throwAway (wsV RX4 96 RX4 yX4_drop wsX4_drop) := goodIn_app (goodIn_of _ (by decide +kernel)) ggX4_throwAway_X4_drop
theorem dX4_throwAway_0 : decode cX4_throwAway 0 = .ok (.aload_n 0, 1) := by decide +kernel
theorem dX4_throwAway_1 : decode cX4_throwAway 1 = .ok (.iconst 0, 1) := by decide +kernel
theorem dX4_throwAway_2 : decode cX4_throwAway 2 = .ok (.putfield 41, 3) := by decide +kernel
theorem dX4_throwAway_5 : decode cX4_throwAway 5 = .ok (.aload_n 0, 1) := by decide +kernel
theorem dX4_throwAway_6 : decode cX4_throwAway 6 = .ok (.iload_n 1, 1) := by decide +kernel
theorem dX4_throwAway_7 : decode cX4_throwAway 7 = .ok (.invokevirtual 100, 3) := by decide +kernel
theorem dX4_throwAway_10 : decode cX4_throwAway 10 = .ok (.istore_n 2, 1) := by decide +kernel
theorem dX4_throwAway_11 : decode cX4_throwAway 11 = .ok (.iload_n 2, 1) := by decide +kernel
theorem dX4_throwAway_12 : decode cX4_throwAway 12 = .ok (.iconst (-1), 1) := by decide +kernel
theorem dX4_throwAway_13 : decode cX4_throwAway 13 = .ok (.if_icmp .ne 9, 3) := by decide +kernel
theorem dX4_throwAway_16 : decode cX4_throwAway 16 = .ok (.aload_n 0, 1) := by decide +kernel
theorem dX4_throwAway_17 : decode cX4_throwAway 17 = .ok (.iconst 1, 1) := by decide +kernel
theorem dX4_throwAway_18 : decode cX4_throwAway 18 = .ok (.invokevirtual 69, 3) := by decide +kernel
theorem dX4_throwAway_21 : decode cX4_throwAway 21 = .ok (.ireturn, 1) := by decide +kernel
theorem dX4_throwAway_22 : decode cX4_throwAway 22 = .ok (.aload_n 0, 1) := by decide +kernel
theorem dX4_throwAway_23 : decode cX4_throwAway 23 = .ok (.getfield 28, 3) := by decide +kernel
theorem dX4_throwAway_26 : decode cX4_throwAway 26 = .ok (.iload_n 1, 1) := by decide +kernel
theorem dX4_throwAway_27 : decode cX4_throwAway 27 = .ok (.iconst 1, 1) := by decide +kernel
theorem dX4_throwAway_28 : decode cX4_throwAway 28 = .ok (.isub, 1) := by decide +kernel
theorem dX4_throwAway_29 : decode cX4_throwAway 29 = .ok (.baload, 1) := by decide +kernel
theorem dX4_throwAway_30 : decode cX4_throwAway 30 = .ok (.ifCond .eq 9, 3) := by decide +kernel
theorem dX4_throwAway_33 : decode cX4_throwAway 33 = .ok (.aload_n 0, 1) := by decide +kernel
theorem dX4_throwAway_34 : decode cX4_throwAway 34 = .ok (.iconst 2, 1) := by decide +kernel
theorem dX4_throwAway_35 : decode cX4_throwAway 35 = .ok (.invokevirtual 69, 3) := by decide +kernel
theorem dX4_throwAway_38 : decode cX4_throwAway 38 = .ok (.ireturn, 1) := by decide +kernel
theorem dX4_throwAway_39 : decode cX4_throwAway 39 = .ok (.aload_n 0, 1) := by decide +kernel
theorem dX4_throwAway_40 : decode cX4_throwAway 40 = .ok (.iload_n 2, 1) := by decide +kernel
theorem dX4_throwAway_41 : decode cX4_throwAway 41 = .ok (.invokevirtual 96, 3) := by decide +kernel
theorem dX4_throwAway_44 : decode cX4_throwAway 44 = .ok (.aload_n 0, 1) := by decide +kernel
theorem dX4_throwAway_45 : decode cX4_throwAway 45 = .ok (.getfield 84, 3) := by decide +kernel
theorem dX4_throwAway_48 : decode cX4_throwAway 48 = .ok (.ireturn, 1) := by decide +kernel
set_option maxRecDepth 20000 in
theorem ggX4_year_X4_told : GoodIn wsX4_year wsX4_told := goodIn_r _ [6, 7, 8, 9, 10, 11, 12, 13, 14, 15, 16, 17, 18, 19, 20] (by decide +kernel) (by decide +kernel)
set_option maxRecDepth 20000 in
theorem gX4_year_X4_told : GoodIn wsX4_year (wsV RX4 106 RX4 yX4_told wsX4_told) := goodIn_app (goodIn_of _ (by decide +kernel)) ggX4_year_X4_told
theorem dX4_year_0 : decode cX4_year 0 = .ok (.aload_n 0, 1) := by decide +kernel
theorem dX4_year_1 : decode cX4_year 1 = .ok (.aload_n 0, 1) := by decide +kernel
theorem dX4_year_2 : decode cX4_year 2 = .ok (.getfield 49, 3) := by decide +kernel
theorem dX4_year_5 : decode cX4_year 5 = .ok (.invokevirtual 106, 3) := by decide +kernel
theorem dX4_year_8 : decode cX4_year 8 = .ok (.ireturn, 1) := by decide +kernel
set_option maxRecDepth 20000 in
theorem ggX4_iceAt_X4_isPlace : GoodIn wsX4_iceAt wsX4_isPlace := goodIn_r _ [6, 7, 8, 5, 9] (by decide +kernel) (by decide +kernel)
set_option maxRecDepth 20000 in
theorem gX4_iceAt_X4_isPlace : GoodIn wsX4_iceAt (va_wsS RX4 65 yX4_isPlace wsX4_isPlace) := goodIn_app (goodIn_of _ (by decide +kernel)) ggX4_iceAt_X4_isPlace
set_option maxRecDepth 20000 in
theorem ggX4_iceAt_X4_fail : GoodIn wsX4_iceAt wsX4_fail := goodIn_r _ [13, 1, 14, 15, 16, 17, 18, 19, 20, 21, 22, 23, 24, 25, 26] (by decide +kernel) (by decide +kernel)
set_option maxRecDepth 20000 in
theorem gX4_iceAt_X4_fail : GoodIn wsX4_iceAt (wsV RX4 69 RX4 yX4_fail wsX4_fail) := goodIn_app (goodIn_of _ (by decide +kernel)) ggX4_iceAt_X4_fail
theorem dX4_iceAt_0 : decode cX4_iceAt 0 = .ok (.aload_n 0, 1) := by decide +kernel
theorem dX4_iceAt_1 : decode cX4_iceAt 1 = .ok (.iconst 0, 1) := by decide +kernel
theorem dX4_iceAt_2 : decode cX4_iceAt 2 = .ok (.putfield 41, 3) := by decide +kernel
theorem dX4_iceAt_5 : decode cX4_iceAt 5 = .ok (.iload_n 1, 1) := by decide +kernel
theorem dX4_iceAt_6 : decode cX4_iceAt 6 = .ok (.invokestatic 65, 3) := by decide +kernel
theorem dX4_iceAt_9 : decode cX4_iceAt 9 = .ok (.ifCond .eq 12, 3) := by decide +kernel
theorem dX4_iceAt_12 : decode cX4_iceAt 12 = .ok (.aload_n 0, 1) := by decide +kernel
theorem dX4_iceAt_13 : decode cX4_iceAt 13 = .ok (.getfield 9, 3) := by decide +kernel
theorem dX4_iceAt_16 : decode cX4_iceAt 16 = .ok (.iload_n 1, 1) := by decide +kernel
theorem dX4_iceAt_17 : decode cX4_iceAt 17 = .ok (.iaload, 1) := by decide +kernel
theorem dX4_iceAt_18 : decode cX4_iceAt 18 = .ok (.goto 8, 3) := by decide +kernel
theorem dX4_iceAt_21 : decode cX4_iceAt 21 = .ok (.aload_n 0, 1) := by decide +kernel
theorem dX4_iceAt_22 : decode cX4_iceAt 22 = .ok (.iconst 1, 1) := by decide +kernel
theorem dX4_iceAt_23 : decode cX4_iceAt 23 = .ok (.invokevirtual 69, 3) := by decide +kernel
theorem dX4_iceAt_26 : decode cX4_iceAt 26 = .ok (.ireturn, 1) := by decide +kernel
theorem dX4_sum_0 : decode cX4_sum 0 = .ok (.iconst 0, 1) := by decide +kernel
theorem dX4_sum_1 : decode cX4_sum 1 = .ok (.istore_n 2, 1) := by decide +kernel
theorem dX4_sum_2 : decode cX4_sum 2 = .ok (.iload_n 1, 1) := by decide +kernel
theorem dX4_sum_3 : decode cX4_sum 3 = .ok (.istore_n 3, 1) := by decide +kernel
theorem dX4_sum_4 : decode cX4_sum 4 = .ok (.iload_n 3, 1) := by decide +kernel
theorem dX4_sum_5 : decode cX4_sum 5 = .ok (.iload_n 1, 1) := by decide +kernel
theorem dX4_sum_6 : decode cX4_sum 6 = .ok (.bipush 8, 2) := by decide +kernel
theorem dX4_sum_8 : decode cX4_sum 8 = .ok (.iadd, 1) := by decide +kernel
theorem dX4_sum_9 : decode cX4_sum 9 = .ok (.if_icmp .ge 15, 3) := by decide +kernel
theorem dX4_sum_12 : decode cX4_sum 12 = .ok (.iload_n 2, 1) := by decide +kernel
theorem dX4_sum_13 : decode cX4_sum 13 = .ok (.aload_n 0, 1) := by decide +kernel
theorem dX4_sum_14 : decode cX4_sum 14 = .ok (.iload_n 3, 1) := by decide +kernel
theorem dX4_sum_15 : decode cX4_sum 15 = .ok (.iaload, 1) := by decide +kernel
theorem dX4_sum_16 : decode cX4_sum 16 = .ok (.iadd, 1) := by decide +kernel
theorem dX4_sum_17 : decode cX4_sum 17 = .ok (.istore_n 2, 1) := by decide +kernel
theorem dX4_sum_18 : decode cX4_sum 18 = .ok (.iinc 3 1, 3) := by decide +kernel
theorem dX4_sum_21 : decode cX4_sum 21 = .ok (.goto (-17), 3) := by decide +kernel
theorem dX4_sum_24 : decode cX4_sum 24 = .ok (.iload_n 2, 1) := by decide +kernel
theorem dX4_sum_25 : decode cX4_sum 25 = .ok (.ireturn, 1) := by decide +kernel
set_option maxRecDepth 20000 in
theorem ggX4_ice_X4_sum : GoodIn wsX4_ice wsX4_sum := goodIn_r _ [5] (by decide +kernel) (by decide +kernel)
set_option maxRecDepth 20000 in
theorem gX4_ice_X4_sum : GoodIn wsX4_ice (va_wsS RX4 109 yX4_sum wsX4_sum) := goodIn_app (goodIn_of _ (by decide +kernel)) ggX4_ice_X4_sum
set_option maxRecDepth 20000 in
theorem ggX4_ice_X4_told : GoodIn wsX4_ice wsX4_told := goodIn_r _ [9, 10, 11, 12, 13, 14, 15, 16, 17, 18, 19, 20, 21, 22, 23] (by decide +kernel) (by decide +kernel)
set_option maxRecDepth 20000 in
theorem gX4_ice_X4_told : GoodIn wsX4_ice (wsV RX4 106 RX4 yX4_told wsX4_told) := goodIn_app (goodIn_of _ (by decide +kernel)) ggX4_ice_X4_told
theorem dX4_ice_0 : decode cX4_ice 0 = .ok (.aload_n 0, 1) := by decide +kernel
theorem dX4_ice_1 : decode cX4_ice 1 = .ok (.aload_n 0, 1) := by decide +kernel
theorem dX4_ice_2 : decode cX4_ice 2 = .ok (.getfield 9, 3) := by decide +kernel
theorem dX4_ice_5 : decode cX4_ice 5 = .ok (.iconst 0, 1) := by decide +kernel
theorem dX4_ice_6 : decode cX4_ice 6 = .ok (.invokestatic 109, 3) := by decide +kernel
theorem dX4_ice_9 : decode cX4_ice 9 = .ok (.invokevirtual 106, 3) := by decide +kernel
theorem dX4_ice_12 : decode cX4_ice 12 = .ok (.ireturn, 1) := by decide +kernel
theorem dX4_thick_0 : decode cX4_thick 0 = .ok (.iconst 0, 1) := by decide +kernel
theorem dX4_thick_1 : decode cX4_thick 1 = .ok (.istore_n 1, 1) := by decide +kernel
theorem dX4_thick_2 : decode cX4_thick 2 = .ok (.iconst 1, 1) := by decide +kernel
theorem dX4_thick_3 : decode cX4_thick 3 = .ok (.istore_n 2, 1) := by decide +kernel
theorem dX4_thick_4 : decode cX4_thick 4 = .ok (.iload_n 2, 1) := by decide +kernel
theorem dX4_thick_5 : decode cX4_thick 5 = .ok (.bipush 8, 2) := by decide +kernel
theorem dX4_thick_7 : decode cX4_thick 7 = .ok (.if_icmp .ge 26, 3) := by decide +kernel
theorem dX4_thick_10 : decode cX4_thick 10 = .ok (.aload_n 0, 1) := by decide +kernel
theorem dX4_thick_11 : decode cX4_thick 11 = .ok (.getfield 9, 3) := by decide +kernel
theorem dX4_thick_14 : decode cX4_thick 14 = .ok (.iload_n 2, 1) := by decide +kernel
theorem dX4_thick_15 : decode cX4_thick 15 = .ok (.iaload, 1) := by decide +kernel
theorem dX4_thick_16 : decode cX4_thick 16 = .ok (.aload_n 0, 1) := by decide +kernel
theorem dX4_thick_17 : decode cX4_thick 17 = .ok (.getfield 9, 3) := by decide +kernel
theorem dX4_thick_20 : decode cX4_thick 20 = .ok (.iload_n 1, 1) := by decide +kernel
theorem dX4_thick_21 : decode cX4_thick 21 = .ok (.iaload, 1) := by decide +kernel
theorem dX4_thick_22 : decode cX4_thick 22 = .ok (.if_icmp .le 5, 3) := by decide +kernel
theorem dX4_thick_25 : decode cX4_thick 25 = .ok (.iload_n 2, 1) := by decide +kernel
theorem dX4_thick_26 : decode cX4_thick 26 = .ok (.istore_n 1, 1) := by decide +kernel
theorem dX4_thick_27 : decode cX4_thick 27 = .ok (.iinc 2 1, 3) := by decide +kernel
theorem dX4_thick_30 : decode cX4_thick 30 = .ok (.goto (-26), 3) := by decide +kernel
theorem dX4_thick_33 : decode cX4_thick 33 = .ok (.iload_n 1, 1) := by decide +kernel
theorem dX4_thick_34 : decode cX4_thick 34 = .ok (.ireturn, 1) := by decide +kernel
set_option maxRecDepth 20000 in
theorem ggX4_thickest_X4_thick : GoodIn wsX4_thickest wsX4_thick := goodIn_r _ [5, 6, 12, 13, 14, 15, 16, 17, 18, 19, 20, 21, 22, 23, 24] (by decide +kernel) (by decide +kernel)
set_option maxRecDepth 20000 in
theorem gX4_thickest_X4_thick : GoodIn wsX4_thickest (wsV RX4 113 RX4 yX4_thick wsX4_thick) := goodIn_app (goodIn_of _ (by decide +kernel)) ggX4_thickest_X4_thick
set_option maxRecDepth 20000 in
theorem ggX4_thickest_X4_told : GoodIn wsX4_thickest wsX4_told := goodIn_r _ [10, 11, 12, 13, 14, 15, 16, 17, 18, 19, 20, 21, 22, 23, 24] (by decide +kernel) (by decide +kernel)
set_option maxRecDepth 20000 in
theorem gX4_thickest_X4_told : GoodIn wsX4_thickest (wsV RX4 106 RX4 yX4_told wsX4_told) := goodIn_app (goodIn_of _ (by decide +kernel)) ggX4_thickest_X4_told
theorem dX4_thickest_0 : decode cX4_thickest 0 = .ok (.aload_n 0, 1) := by decide +kernel
theorem dX4_thickest_1 : decode cX4_thickest 1 = .ok (.aload_n 0, 1) := by decide +kernel
theorem dX4_thickest_2 : decode cX4_thickest 2 = .ok (.invokevirtual 113, 3) := by decide +kernel
theorem dX4_thickest_5 : decode cX4_thickest 5 = .ok (.invokevirtual 106, 3) := by decide +kernel
theorem dX4_thickest_8 : decode cX4_thickest 8 = .ok (.ireturn, 1) := by decide +kernel
set_option maxRecDepth 20000 in
theorem ggX4_deeds_X4_told : GoodIn wsX4_deeds wsX4_told := goodIn_r _ [7, 8, 9, 10, 11, 12, 13, 14, 15, 16, 17, 18, 19, 20, 21] (by decide +kernel) (by decide +kernel)
set_option maxRecDepth 20000 in
theorem gX4_deeds_X4_told : GoodIn wsX4_deeds (wsV RX4 106 RX4 yX4_told wsX4_told) := goodIn_app (goodIn_of _ (by decide +kernel)) ggX4_deeds_X4_told
theorem dX4_deeds_0 : decode cX4_deeds 0 = .ok (.aload_n 0, 1) := by decide +kernel
theorem dX4_deeds_1 : decode cX4_deeds 1 = .ok (.aload_n 0, 1) := by decide +kernel
theorem dX4_deeds_2 : decode cX4_deeds 2 = .ok (.getfield 22, 3) := by decide +kernel
theorem dX4_deeds_5 : decode cX4_deeds 5 = .ok (.aload_n 0, 1) := by decide +kernel
theorem dX4_deeds_6 : decode cX4_deeds 6 = .ok (.getfield 49, 3) := by decide +kernel
theorem dX4_deeds_9 : decode cX4_deeds 9 = .ok (.iaload, 1) := by decide +kernel
theorem dX4_deeds_10 : decode cX4_deeds 10 = .ok (.invokevirtual 106, 3) := by decide +kernel
theorem dX4_deeds_13 : decode cX4_deeds 13 = .ok (.ireturn, 1) := by decide +kernel
set_option maxRecDepth 20000 in
theorem ggX4_deedsOf_X4_isLayer : GoodIn wsX4_deedsOf wsX4_isLayer := goodIn_r _ [7, 8, 9, 10, 6, 11, 16, 17, 18, 19, 20, 21, 22, 23, 24, 25, 26, 27, 28] (by decide +kernel) (by decide +kernel)
set_option maxRecDepth 20000 in
theorem gX4_deedsOf_X4_isLayer : GoodIn wsX4_deedsOf (wsV RX4 103 RX4 yX4_isLayer wsX4_isLayer) := goodIn_app (goodIn_of _ (by decide +kernel)) ggX4_deedsOf_X4_isLayer
set_option maxRecDepth 20000 in
theorem ggX4_deedsOf_X4_fail : GoodIn wsX4_deedsOf wsX4_fail := goodIn_r _ [15, 1, 16, 17, 18, 19, 20, 21, 22, 23, 24, 25, 26, 27, 28] (by decide +kernel) (by decide +kernel)
set_option maxRecDepth 20000 in
theorem gX4_deedsOf_X4_fail : GoodIn wsX4_deedsOf (wsV RX4 69 RX4 yX4_fail wsX4_fail) := goodIn_app (goodIn_of _ (by decide +kernel)) ggX4_deedsOf_X4_fail
theorem dX4_deedsOf_0 : decode cX4_deedsOf 0 = .ok (.aload_n 0, 1) := by decide +kernel
theorem dX4_deedsOf_1 : decode cX4_deedsOf 1 = .ok (.iconst 0, 1) := by decide +kernel
theorem dX4_deedsOf_2 : decode cX4_deedsOf 2 = .ok (.putfield 41, 3) := by decide +kernel
theorem dX4_deedsOf_5 : decode cX4_deedsOf 5 = .ok (.aload_n 0, 1) := by decide +kernel
theorem dX4_deedsOf_6 : decode cX4_deedsOf 6 = .ok (.iload_n 1, 1) := by decide +kernel
theorem dX4_deedsOf_7 : decode cX4_deedsOf 7 = .ok (.invokevirtual 103, 3) := by decide +kernel
theorem dX4_deedsOf_10 : decode cX4_deedsOf 10 = .ok (.ifCond .eq 12, 3) := by decide +kernel
theorem dX4_deedsOf_13 : decode cX4_deedsOf 13 = .ok (.aload_n 0, 1) := by decide +kernel
theorem dX4_deedsOf_14 : decode cX4_deedsOf 14 = .ok (.getfield 22, 3) := by decide +kernel
theorem dX4_deedsOf_17 : decode cX4_deedsOf 17 = .ok (.iload_n 1, 1) := by decide +kernel
theorem dX4_deedsOf_18 : decode cX4_deedsOf 18 = .ok (.iaload, 1) := by decide +kernel
theorem dX4_deedsOf_19 : decode cX4_deedsOf 19 = .ok (.goto 8, 3) := by decide +kernel
theorem dX4_deedsOf_22 : decode cX4_deedsOf 22 = .ok (.aload_n 0, 1) := by decide +kernel
theorem dX4_deedsOf_23 : decode cX4_deedsOf 23 = .ok (.iconst 1, 1) := by decide +kernel
theorem dX4_deedsOf_24 : decode cX4_deedsOf 24 = .ok (.invokevirtual 69, 3) := by decide +kernel
theorem dX4_deedsOf_27 : decode cX4_deedsOf 27 = .ok (.ireturn, 1) := by decide +kernel
set_option maxRecDepth 20000 in
theorem ggX4_sealOf_X4_isLayer : GoodIn wsX4_sealOf wsX4_isLayer := goodIn_r _ [7, 8, 9, 10, 6, 11, 16, 17, 18, 19, 20, 21, 22, 23, 24, 25, 26, 27, 28] (by decide +kernel) (by decide +kernel)
set_option maxRecDepth 20000 in
theorem gX4_sealOf_X4_isLayer : GoodIn wsX4_sealOf (wsV RX4 103 RX4 yX4_isLayer wsX4_isLayer) := goodIn_app (goodIn_of _ (by decide +kernel)) ggX4_sealOf_X4_isLayer
set_option maxRecDepth 20000 in
theorem ggX4_sealOf_X4_fail : GoodIn wsX4_sealOf wsX4_fail := goodIn_r _ [15, 1, 16, 17, 18, 19, 20, 21, 22, 23, 24, 25, 26, 27, 28] (by decide +kernel) (by decide +kernel)
set_option maxRecDepth 20000 in
theorem gX4_sealOf_X4_fail : GoodIn wsX4_sealOf (wsV RX4 69 RX4 yX4_fail wsX4_fail) := goodIn_app (goodIn_of _ (by decide +kernel)) ggX4_sealOf_X4_fail
theorem dX4_sealOf_0 : decode cX4_sealOf 0 = .ok (.aload_n 0, 1) := by decide +kernel
theorem dX4_sealOf_1 : decode cX4_sealOf 1 = .ok (.iconst 0, 1) := by decide +kernel
theorem dX4_sealOf_2 : decode cX4_sealOf 2 = .ok (.putfield 41, 3) := by decide +kernel
theorem dX4_sealOf_5 : decode cX4_sealOf 5 = .ok (.aload_n 0, 1) := by decide +kernel
theorem dX4_sealOf_6 : decode cX4_sealOf 6 = .ok (.iload_n 1, 1) := by decide +kernel
theorem dX4_sealOf_7 : decode cX4_sealOf 7 = .ok (.invokevirtual 103, 3) := by decide +kernel
theorem dX4_sealOf_10 : decode cX4_sealOf 10 = .ok (.ifCond .eq 12, 3) := by decide +kernel
theorem dX4_sealOf_13 : decode cX4_sealOf 13 = .ok (.aload_n 0, 1) := by decide +kernel
theorem dX4_sealOf_14 : decode cX4_sealOf 14 = .ok (.getfield 25, 3) := by decide +kernel
theorem dX4_sealOf_17 : decode cX4_sealOf 17 = .ok (.iload_n 1, 1) := by decide +kernel
theorem dX4_sealOf_18 : decode cX4_sealOf 18 = .ok (.iaload, 1) := by decide +kernel
theorem dX4_sealOf_19 : decode cX4_sealOf 19 = .ok (.goto 8, 3) := by decide +kernel
theorem dX4_sealOf_22 : decode cX4_sealOf 22 = .ok (.aload_n 0, 1) := by decide +kernel
theorem dX4_sealOf_23 : decode cX4_sealOf 23 = .ok (.iconst 1, 1) := by decide +kernel
theorem dX4_sealOf_24 : decode cX4_sealOf 24 = .ok (.invokevirtual 69, 3) := by decide +kernel
theorem dX4_sealOf_27 : decode cX4_sealOf 27 = .ok (.ireturn, 1) := by decide +kernel
set_option maxRecDepth 20000 in
theorem ggX4_isCompacted_X4_isLayer : GoodIn wsX4_isCompacted wsX4_isLayer := goodIn_r _ [7, 8, 9, 10, 6, 11, 12, 13, 14, 15, 16, 17, 18, 19, 20, 21, 22, 23, 24] (by decide +kernel) (by decide +kernel)
set_option maxRecDepth 20000 in
theorem gX4_isCompacted_X4_isLayer : GoodIn wsX4_isCompacted (wsV RX4 103 RX4 yX4_isLayer wsX4_isLayer) := goodIn_app (goodIn_of _ (by decide +kernel)) ggX4_isCompacted_X4_isLayer
theorem dX4_isCompacted_0 : decode cX4_isCompacted 0 = .ok (.aload_n 0, 1) := by decide +kernel
theorem dX4_isCompacted_1 : decode cX4_isCompacted 1 = .ok (.aload_n 0, 1) := by decide +kernel
theorem dX4_isCompacted_2 : decode cX4_isCompacted 2 = .ok (.iload_n 1, 1) := by decide +kernel
theorem dX4_isCompacted_3 : decode cX4_isCompacted 3 = .ok (.invokevirtual 103, 3) := by decide +kernel
theorem dX4_isCompacted_6 : decode cX4_isCompacted 6 = .ok (.ifCond .eq 7, 3) := by decide +kernel
theorem dX4_isCompacted_9 : decode cX4_isCompacted 9 = .ok (.iconst 0, 1) := by decide +kernel
theorem dX4_isCompacted_10 : decode cX4_isCompacted 10 = .ok (.goto 4, 3) := by decide +kernel
theorem dX4_isCompacted_13 : decode cX4_isCompacted 13 = .ok (.iconst 1, 1) := by decide +kernel
theorem dX4_isCompacted_14 : decode cX4_isCompacted 14 = .ok (.putfield 41, 3) := by decide +kernel
theorem dX4_isCompacted_17 : decode cX4_isCompacted 17 = .ok (.aload_n 0, 1) := by decide +kernel
theorem dX4_isCompacted_18 : decode cX4_isCompacted 18 = .ok (.getfield 41, 3) := by decide +kernel
theorem dX4_isCompacted_21 : decode cX4_isCompacted 21 = .ok (.ifCond .ne 16, 3) := by decide +kernel
theorem dX4_isCompacted_24 : decode cX4_isCompacted 24 = .ok (.aload_n 0, 1) := by decide +kernel
theorem dX4_isCompacted_25 : decode cX4_isCompacted 25 = .ok (.getfield 28, 3) := by decide +kernel
theorem dX4_isCompacted_28 : decode cX4_isCompacted 28 = .ok (.iload_n 1, 1) := by decide +kernel
theorem dX4_isCompacted_29 : decode cX4_isCompacted 29 = .ok (.baload, 1) := by decide +kernel
theorem dX4_isCompacted_30 : decode cX4_isCompacted 30 = .ok (.ifCond .eq 7, 3) := by decide +kernel
theorem dX4_isCompacted_33 : decode cX4_isCompacted 33 = .ok (.iconst 1, 1) := by decide +kernel
theorem dX4_isCompacted_34 : decode cX4_isCompacted 34 = .ok (.goto 4, 3) := by decide +kernel
theorem dX4_isCompacted_37 : decode cX4_isCompacted 37 = .ok (.iconst 0, 1) := by decide +kernel
theorem dX4_isCompacted_38 : decode cX4_isCompacted 38 = .ok (.ireturn, 1) := by decide +kernel
set_option maxRecDepth 20000 in
theorem ggX4_isForged_X4_sealed : GoodIn wsX4_isForged wsX4_sealed := goodIn_r _ [7, 2, 8, 9, 10, 11, 12, 13, 14, 15, 16, 17, 18, 19, 20, 21, 22, 23, 24] (by decide +kernel) (by decide +kernel)
set_option maxRecDepth 20000 in
theorem gX4_isForged_X4_sealed : GoodIn wsX4_isForged (wsV RX4 93 RX4 yX4_sealed wsX4_sealed) := goodIn_app (goodIn_of _ (by decide +kernel)) ggX4_isForged_X4_sealed
theorem dX4_isForged_0 : decode cX4_isForged 0 = .ok (.aload_n 0, 1) := by decide +kernel
theorem dX4_isForged_1 : decode cX4_isForged 1 = .ok (.getfield 28, 3) := by decide +kernel
theorem dX4_isForged_4 : decode cX4_isForged 4 = .ok (.iload_n 1, 1) := by decide +kernel
theorem dX4_isForged_5 : decode cX4_isForged 5 = .ok (.baload, 1) := by decide +kernel
theorem dX4_isForged_6 : decode cX4_isForged 6 = .ok (.ifCond .ne 21, 3) := by decide +kernel
theorem dX4_isForged_9 : decode cX4_isForged 9 = .ok (.aload_n 0, 1) := by decide +kernel
theorem dX4_isForged_10 : decode cX4_isForged 10 = .ok (.iload_n 1, 1) := by decide +kernel
theorem dX4_isForged_11 : decode cX4_isForged 11 = .ok (.invokevirtual 93, 3) := by decide +kernel
theorem dX4_isForged_14 : decode cX4_isForged 14 = .ok (.aload_n 0, 1) := by decide +kernel
theorem dX4_isForged_15 : decode cX4_isForged 15 = .ok (.getfield 25, 3) := by decide +kernel
theorem dX4_isForged_18 : decode cX4_isForged 18 = .ok (.iload_n 1, 1) := by decide +kernel
theorem dX4_isForged_19 : decode cX4_isForged 19 = .ok (.iaload, 1) := by decide +kernel
theorem dX4_isForged_20 : decode cX4_isForged 20 = .ok (.if_icmp .eq 7, 3) := by decide +kernel
theorem dX4_isForged_23 : decode cX4_isForged 23 = .ok (.iconst 1, 1) := by decide +kernel
theorem dX4_isForged_24 : decode cX4_isForged 24 = .ok (.goto 4, 3) := by decide +kernel
theorem dX4_isForged_27 : decode cX4_isForged 27 = .ok (.iconst 0, 1) := by decide +kernel
theorem dX4_isForged_28 : decode cX4_isForged 28 = .ok (.ireturn, 1) := by decide +kernel
set_option maxRecDepth 20000 in
theorem ggX4_isFalse_X4_isLayer : GoodIn wsX4_isFalse wsX4_isLayer := goodIn_r _ [6, 7, 8, 9, 5, 10, 25, 26, 27, 28, 29, 30, 31, 32, 33, 34, 35, 36, 37] (by decide +kernel) (by decide +kernel)
set_option maxRecDepth 20000 in
theorem gX4_isFalse_X4_isLayer : GoodIn wsX4_isFalse (wsV RX4 103 RX4 yX4_isLayer wsX4_isLayer) := goodIn_app (goodIn_of _ (by decide +kernel)) ggX4_isFalse_X4_isLayer
set_option maxRecDepth 20000 in
theorem ggX4_isFalse_X4_isForged : GoodIn wsX4_isFalse wsX4_isForged := goodIn_r _ [14, 15, 16, 17, 18, 19, 5, 20, 21, 22, 23, 24, 25, 26, 27, 28, 29, 30, 31, 32, 33, 34, 35, 36, 37] (by decide +kernel) (by decide +kernel)
set_option maxRecDepth 20000 in
theorem gX4_isFalse_X4_isForged : GoodIn wsX4_isFalse (wsV RX4 117 RX4 yX4_isForged wsX4_isForged) := goodIn_app (goodIn_of _ (by decide +kernel)) ggX4_isFalse_X4_isForged
theorem dX4_isFalse_0 : decode cX4_isFalse 0 = .ok (.aload_n 0, 1) := by decide +kernel
theorem dX4_isFalse_1 : decode cX4_isFalse 1 = .ok (.aload_n 0, 1) := by decide +kernel
theorem dX4_isFalse_2 : decode cX4_isFalse 2 = .ok (.iload_n 1, 1) := by decide +kernel
theorem dX4_isFalse_3 : decode cX4_isFalse 3 = .ok (.invokevirtual 103, 3) := by decide +kernel
theorem dX4_isFalse_6 : decode cX4_isFalse 6 = .ok (.ifCond .eq 7, 3) := by decide +kernel
theorem dX4_isFalse_9 : decode cX4_isFalse 9 = .ok (.iconst 0, 1) := by decide +kernel
theorem dX4_isFalse_10 : decode cX4_isFalse 10 = .ok (.goto 4, 3) := by decide +kernel
theorem dX4_isFalse_13 : decode cX4_isFalse 13 = .ok (.iconst 1, 1) := by decide +kernel
theorem dX4_isFalse_14 : decode cX4_isFalse 14 = .ok (.putfield 41, 3) := by decide +kernel
theorem dX4_isFalse_17 : decode cX4_isFalse 17 = .ok (.aload_n 0, 1) := by decide +kernel
theorem dX4_isFalse_18 : decode cX4_isFalse 18 = .ok (.getfield 41, 3) := by decide +kernel
theorem dX4_isFalse_21 : decode cX4_isFalse 21 = .ok (.ifCond .ne 15, 3) := by decide +kernel
theorem dX4_isFalse_24 : decode cX4_isFalse 24 = .ok (.aload_n 0, 1) := by decide +kernel
theorem dX4_isFalse_25 : decode cX4_isFalse 25 = .ok (.iload_n 1, 1) := by decide +kernel
theorem dX4_isFalse_26 : decode cX4_isFalse 26 = .ok (.invokevirtual 117, 3) := by decide +kernel
theorem dX4_isFalse_29 : decode cX4_isFalse 29 = .ok (.ifCond .eq 7, 3) := by decide +kernel
theorem dX4_isFalse_32 : decode cX4_isFalse 32 = .ok (.iconst 1, 1) := by decide +kernel
theorem dX4_isFalse_33 : decode cX4_isFalse 33 = .ok (.goto 4, 3) := by decide +kernel
theorem dX4_isFalse_36 : decode cX4_isFalse 36 = .ok (.iconst 0, 1) := by decide +kernel
theorem dX4_isFalse_37 : decode cX4_isFalse 37 = .ok (.ireturn, 1) := by decide +kernel
set_option maxRecDepth 20000 in
theorem ggX4_firstForged_X4_isForged : GoodIn wsX4_firstForged wsX4_isForged := goodIn_r _ [6, 7, 8, 9, 10, 11, 5, 12, 13, 14, 15, 16, 17, 18, 19, 20, 21, 22, 23, 24, 25, 26, 27, 28, 29] (by decide +kernel) (by decide +kernel)
set_option maxRecDepth 20000 in
theorem gX4_firstForged_X4_isForged : GoodIn wsX4_firstForged (wsV RX4 117 RX4 yX4_isForged wsX4_isForged) := goodIn_app (goodIn_of _ (by decide +kernel)) ggX4_firstForged_X4_isForged
theorem dX4_firstForged_0 : decode cX4_firstForged 0 = .ok (.iconst 0, 1) := by decide +kernel
theorem dX4_firstForged_1 : decode cX4_firstForged 1 = .ok (.istore_n 1, 1) := by decide +kernel
theorem dX4_firstForged_2 : decode cX4_firstForged 2 = .ok (.iload_n 1, 1) := by decide +kernel
theorem dX4_firstForged_3 : decode cX4_firstForged 3 = .ok (.aload_n 0, 1) := by decide +kernel
theorem dX4_firstForged_4 : decode cX4_firstForged 4 = .ok (.getfield 49, 3) := by decide +kernel
theorem dX4_firstForged_7 : decode cX4_firstForged 7 = .ok (.if_icmp .ge 19, 3) := by decide +kernel
theorem dX4_firstForged_10 : decode cX4_firstForged 10 = .ok (.aload_n 0, 1) := by decide +kernel
theorem dX4_firstForged_11 : decode cX4_firstForged 11 = .ok (.iload_n 1, 1) := by decide +kernel
theorem dX4_firstForged_12 : decode cX4_firstForged 12 = .ok (.invokevirtual 117, 3) := by decide +kernel
theorem dX4_firstForged_15 : decode cX4_firstForged 15 = .ok (.ifCond .eq 5, 3) := by decide +kernel
theorem dX4_firstForged_18 : decode cX4_firstForged 18 = .ok (.iload_n 1, 1) := by decide +kernel
theorem dX4_firstForged_19 : decode cX4_firstForged 19 = .ok (.ireturn, 1) := by decide +kernel
theorem dX4_firstForged_20 : decode cX4_firstForged 20 = .ok (.iinc 1 1, 3) := by decide +kernel
theorem dX4_firstForged_23 : decode cX4_firstForged 23 = .ok (.goto (-21), 3) := by decide +kernel
theorem dX4_firstForged_26 : decode cX4_firstForged 26 = .ok (.iconst (-1), 1) := by decide +kernel
theorem dX4_firstForged_27 : decode cX4_firstForged 27 = .ok (.ireturn, 1) := by decide +kernel
set_option maxRecDepth 20000 in
theorem ggX4_firstFalse_X4_firstForged : GoodIn wsX4_firstFalse wsX4_firstForged := goodIn_r _ [5, 6, 7, 8, 9, 4, 10, 11, 12, 13, 14, 15, 16, 17, 18, 19, 20, 26, 27, 28, 29, 30, 31, 32, 33, 34, 35, 36, 37, 38] (by decide +kernel) (by decide +kernel)
set_option maxRecDepth 20000 in
theorem gX4_firstFalse_X4_firstForged : GoodIn wsX4_firstFalse (wsV RX4 120 RX4 yX4_firstForged wsX4_firstForged) := goodIn_app (goodIn_of _ (by decide +kernel)) ggX4_firstFalse_X4_firstForged
set_option maxRecDepth 20000 in
theorem ggX4_firstFalse_X4_told : GoodIn wsX4_firstFalse wsX4_told := goodIn_r _ [24, 25, 26, 27, 28, 29, 30, 31, 32, 33, 34, 35, 36, 37, 38] (by decide +kernel) (by decide +kernel)
set_option maxRecDepth 20000 in
theorem gX4_firstFalse_X4_told : GoodIn wsX4_firstFalse (wsV RX4 106 RX4 yX4_told wsX4_told) := goodIn_app (goodIn_of _ (by decide +kernel)) ggX4_firstFalse_X4_told
theorem dX4_firstFalse_0 : decode cX4_firstFalse 0 = .ok (.aload_n 0, 1) := by decide +kernel
theorem dX4_firstFalse_1 : decode cX4_firstFalse 1 = .ok (.aload_n 0, 1) := by decide +kernel
theorem dX4_firstFalse_2 : decode cX4_firstFalse 2 = .ok (.invokevirtual 120, 3) := by decide +kernel
theorem dX4_firstFalse_5 : decode cX4_firstFalse 5 = .ok (.invokevirtual 106, 3) := by decide +kernel
theorem dX4_firstFalse_8 : decode cX4_firstFalse 8 = .ok (.ireturn, 1) := by decide +kernel
set_option maxRecDepth 20000 in
theorem ggX4_cores_X4_told : GoodIn wsX4_cores wsX4_told := goodIn_r _ [6, 7, 8, 9, 10, 11, 12, 13, 14, 15, 16, 17, 18, 19, 20] (by decide +kernel) (by decide +kernel)
set_option maxRecDepth 20000 in
theorem gX4_cores_X4_told : GoodIn wsX4_cores (wsV RX4 106 RX4 yX4_told wsX4_told) := goodIn_app (goodIn_of _ (by decide +kernel)) ggX4_cores_X4_told
theorem dX4_cores_0 : decode cX4_cores 0 = .ok (.aload_n 0, 1) := by decide +kernel
theorem dX4_cores_1 : decode cX4_cores 1 = .ok (.aload_n 0, 1) := by decide +kernel
theorem dX4_cores_2 : decode cX4_cores 2 = .ok (.getfield 84, 3) := by decide +kernel
theorem dX4_cores_5 : decode cX4_cores 5 = .ok (.invokevirtual 106, 3) := by decide +kernel
theorem dX4_cores_8 : decode cX4_cores 8 = .ok (.ireturn, 1) := by decide +kernel
set_option maxRecDepth 20000 in
theorem ggX4_isCore_X4_isIn : GoodIn wsX4_isCore wsX4_isIn := goodIn_r _ [5] (by decide +kernel) (by decide +kernel)
set_option maxRecDepth 20000 in
theorem gX4_isCore_X4_isIn : GoodIn wsX4_isCore (va_wsS RX4 45 yX4_isIn wsX4_isIn) := goodIn_app (goodIn_of _ (by decide +kernel)) ggX4_isCore_X4_isIn
theorem dX4_isCore_0 : decode cX4_isCore 0 = .ok (.iload_n 1, 1) := by decide +kernel
theorem dX4_isCore_1 : decode cX4_isCore 1 = .ok (.iconst 0, 1) := by decide +kernel
theorem dX4_isCore_2 : decode cX4_isCore 2 = .ok (.aload_n 0, 1) := by decide +kernel
theorem dX4_isCore_3 : decode cX4_isCore 3 = .ok (.getfield 84, 3) := by decide +kernel
theorem dX4_isCore_6 : decode cX4_isCore 6 = .ok (.iconst 1, 1) := by decide +kernel
theorem dX4_isCore_7 : decode cX4_isCore 7 = .ok (.isub, 1) := by decide +kernel
theorem dX4_isCore_8 : decode cX4_isCore 8 = .ok (.invokestatic 45, 3) := by decide +kernel
theorem dX4_isCore_11 : decode cX4_isCore 11 = .ok (.ireturn, 1) := by decide +kernel
set_option maxRecDepth 20000 in
theorem ggX4_yearOf_X4_isCore : GoodIn wsX4_yearOf wsX4_isCore := goodIn_r _ [7, 8, 9, 10, 6, 11, 16, 17, 18, 19, 20, 21, 22, 23, 24, 25, 26, 27, 28] (by decide +kernel) (by decide +kernel)
set_option maxRecDepth 20000 in
theorem gX4_yearOf_X4_isCore : GoodIn wsX4_yearOf (wsV RX4 123 RX4 yX4_isCore wsX4_isCore) := goodIn_app (goodIn_of _ (by decide +kernel)) ggX4_yearOf_X4_isCore
set_option maxRecDepth 20000 in
theorem ggX4_yearOf_X4_fail : GoodIn wsX4_yearOf wsX4_fail := goodIn_r _ [15, 1, 16, 17, 18, 19, 20, 21, 22, 23, 24, 25, 26, 27, 28] (by decide +kernel) (by decide +kernel)
set_option maxRecDepth 20000 in
theorem gX4_yearOf_X4_fail : GoodIn wsX4_yearOf (wsV RX4 69 RX4 yX4_fail wsX4_fail) := goodIn_app (goodIn_of _ (by decide +kernel)) ggX4_yearOf_X4_fail
theorem dX4_yearOf_0 : decode cX4_yearOf 0 = .ok (.aload_n 0, 1) := by decide +kernel
theorem dX4_yearOf_1 : decode cX4_yearOf 1 = .ok (.iconst 0, 1) := by decide +kernel
theorem dX4_yearOf_2 : decode cX4_yearOf 2 = .ok (.putfield 41, 3) := by decide +kernel
theorem dX4_yearOf_5 : decode cX4_yearOf 5 = .ok (.aload_n 0, 1) := by decide +kernel
theorem dX4_yearOf_6 : decode cX4_yearOf 6 = .ok (.iload_n 1, 1) := by decide +kernel
theorem dX4_yearOf_7 : decode cX4_yearOf 7 = .ok (.invokevirtual 123, 3) := by decide +kernel
theorem dX4_yearOf_10 : decode cX4_yearOf 10 = .ok (.ifCond .eq 12, 3) := by decide +kernel
theorem dX4_yearOf_13 : decode cX4_yearOf 13 = .ok (.aload_n 0, 1) := by decide +kernel
theorem dX4_yearOf_14 : decode cX4_yearOf 14 = .ok (.getfield 32, 3) := by decide +kernel
theorem dX4_yearOf_17 : decode cX4_yearOf 17 = .ok (.iload_n 1, 1) := by decide +kernel
theorem dX4_yearOf_18 : decode cX4_yearOf 18 = .ok (.iaload, 1) := by decide +kernel
theorem dX4_yearOf_19 : decode cX4_yearOf 19 = .ok (.goto 8, 3) := by decide +kernel
theorem dX4_yearOf_22 : decode cX4_yearOf 22 = .ok (.aload_n 0, 1) := by decide +kernel
theorem dX4_yearOf_23 : decode cX4_yearOf 23 = .ok (.iconst 1, 1) := by decide +kernel
theorem dX4_yearOf_24 : decode cX4_yearOf 24 = .ok (.invokevirtual 69, 3) := by decide +kernel
theorem dX4_yearOf_27 : decode cX4_yearOf 27 = .ok (.ireturn, 1) := by decide +kernel
set_option maxRecDepth 20000 in
theorem ggX4_iceOfCore_X4_isCore : GoodIn wsX4_iceOfCore wsX4_isCore := goodIn_r _ [7, 8, 9, 10, 6, 11, 19, 20, 21, 22, 23, 24, 25, 26, 27, 28, 29, 30, 31] (by decide +kernel) (by decide +kernel)
set_option maxRecDepth 20000 in
theorem gX4_iceOfCore_X4_isCore : GoodIn wsX4_iceOfCore (wsV RX4 123 RX4 yX4_isCore wsX4_isCore) := goodIn_app (goodIn_of _ (by decide +kernel)) ggX4_iceOfCore_X4_isCore
set_option maxRecDepth 20000 in
theorem ggX4_iceOfCore_X4_sum : GoodIn wsX4_iceOfCore wsX4_sum := goodIn_r _ [14] (by decide +kernel) (by decide +kernel)
set_option maxRecDepth 20000 in
theorem gX4_iceOfCore_X4_sum : GoodIn wsX4_iceOfCore (va_wsS RX4 109 yX4_sum wsX4_sum) := goodIn_app (goodIn_of _ (by decide +kernel)) ggX4_iceOfCore_X4_sum
set_option maxRecDepth 20000 in
theorem ggX4_iceOfCore_X4_fail : GoodIn wsX4_iceOfCore wsX4_fail := goodIn_r _ [18, 1, 19, 20, 21, 22, 23, 24, 25, 26, 27, 28, 29, 30, 31] (by decide +kernel) (by decide +kernel)
set_option maxRecDepth 20000 in
theorem gX4_iceOfCore_X4_fail : GoodIn wsX4_iceOfCore (wsV RX4 69 RX4 yX4_fail wsX4_fail) := goodIn_app (goodIn_of _ (by decide +kernel)) ggX4_iceOfCore_X4_fail
theorem dX4_iceOfCore_0 : decode cX4_iceOfCore 0 = .ok (.aload_n 0, 1) := by decide +kernel
theorem dX4_iceOfCore_1 : decode cX4_iceOfCore 1 = .ok (.iconst 0, 1) := by decide +kernel
theorem dX4_iceOfCore_2 : decode cX4_iceOfCore 2 = .ok (.putfield 41, 3) := by decide +kernel
theorem dX4_iceOfCore_5 : decode cX4_iceOfCore 5 = .ok (.aload_n 0, 1) := by decide +kernel
theorem dX4_iceOfCore_6 : decode cX4_iceOfCore 6 = .ok (.iload_n 1, 1) := by decide +kernel
theorem dX4_iceOfCore_7 : decode cX4_iceOfCore 7 = .ok (.invokevirtual 123, 3) := by decide +kernel
theorem dX4_iceOfCore_10 : decode cX4_iceOfCore 10 = .ok (.ifCond .eq 17, 3) := by decide +kernel
theorem dX4_iceOfCore_13 : decode cX4_iceOfCore 13 = .ok (.aload_n 0, 1) := by decide +kernel
theorem dX4_iceOfCore_14 : decode cX4_iceOfCore 14 = .ok (.getfield 35, 3) := by decide +kernel
theorem dX4_iceOfCore_17 : decode cX4_iceOfCore 17 = .ok (.bipush 8, 2) := by decide +kernel
theorem dX4_iceOfCore_19 : decode cX4_iceOfCore 19 = .ok (.iload_n 1, 1) := by decide +kernel
theorem dX4_iceOfCore_20 : decode cX4_iceOfCore 20 = .ok (.imul, 1) := by decide +kernel
theorem dX4_iceOfCore_21 : decode cX4_iceOfCore 21 = .ok (.invokestatic 109, 3) := by decide +kernel
theorem dX4_iceOfCore_24 : decode cX4_iceOfCore 24 = .ok (.goto 8, 3) := by decide +kernel
theorem dX4_iceOfCore_27 : decode cX4_iceOfCore 27 = .ok (.aload_n 0, 1) := by decide +kernel
theorem dX4_iceOfCore_28 : decode cX4_iceOfCore 28 = .ok (.iconst 1, 1) := by decide +kernel
theorem dX4_iceOfCore_29 : decode cX4_iceOfCore 29 = .ok (.invokevirtual 69, 3) := by decide +kernel
theorem dX4_iceOfCore_32 : decode cX4_iceOfCore 32 = .ok (.ireturn, 1) := by decide +kernel
theorem dX4_before_0 : decode cX4_before 0 = .ok (.aload_n 0, 1) := by decide +kernel
theorem dX4_before_1 : decode cX4_before 1 = .ok (.getfield 84, 3) := by decide +kernel
theorem dX4_before_4 : decode cX4_before 4 = .ok (.iconst 1, 1) := by decide +kernel
theorem dX4_before_5 : decode cX4_before 5 = .ok (.isub, 1) := by decide +kernel
theorem dX4_before_6 : decode cX4_before 6 = .ok (.istore_n 2, 1) := by decide +kernel
theorem dX4_before_7 : decode cX4_before 7 = .ok (.iload_n 2, 1) := by decide +kernel
theorem dX4_before_8 : decode cX4_before 8 = .ok (.ifCond .lt 19, 3) := by decide +kernel
theorem dX4_before_11 : decode cX4_before 11 = .ok (.aload_n 0, 1) := by decide +kernel
theorem dX4_before_12 : decode cX4_before 12 = .ok (.getfield 32, 3) := by decide +kernel
theorem dX4_before_15 : decode cX4_before 15 = .ok (.iload_n 2, 1) := by decide +kernel
theorem dX4_before_16 : decode cX4_before 16 = .ok (.iaload, 1) := by decide +kernel
theorem dX4_before_17 : decode cX4_before 17 = .ok (.iload_n 1, 1) := by decide +kernel
theorem dX4_before_18 : decode cX4_before 18 = .ok (.if_icmp .le 9, 3) := by decide +kernel
theorem dX4_before_21 : decode cX4_before 21 = .ok (.iinc 2 (-1), 3) := by decide +kernel
theorem dX4_before_24 : decode cX4_before 24 = .ok (.goto (-17), 3) := by decide +kernel
theorem dX4_before_27 : decode cX4_before 27 = .ok (.iload_n 2, 1) := by decide +kernel
theorem dX4_before_28 : decode cX4_before 28 = .ok (.ireturn, 1) := by decide +kernel
set_option maxRecDepth 20000 in
theorem ggX4_from_X4_before : GoodIn wsX4_from wsX4_before := goodIn_r _ [6, 7, 1, 8, 9, 10, 11, 12, 13, 14, 15, 16, 17, 18, 19, 20] (by decide +kernel) (by decide +kernel)
set_option maxRecDepth 20000 in
theorem gX4_from_X4_before : GoodIn wsX4_from (wsV RX4 126 RX4 yX4_before wsX4_before) := goodIn_app (goodIn_of _ (by decide +kernel)) ggX4_from_X4_before
theorem dX4_from_0 : decode cX4_from 0 = .ok (.aload_n 0, 1) := by decide +kernel
theorem dX4_from_1 : decode cX4_from 1 = .ok (.iload_n 1, 1) := by decide +kernel
theorem dX4_from_2 : decode cX4_from 2 = .ok (.invokevirtual 126, 3) := by decide +kernel
theorem dX4_from_5 : decode cX4_from 5 = .ok (.ifCond .ge 7, 3) := by decide +kernel
theorem dX4_from_8 : decode cX4_from 8 = .ok (.iconst 0, 1) := by decide +kernel
theorem dX4_from_9 : decode cX4_from 9 = .ok (.goto 13, 3) := by decide +kernel
theorem dX4_from_12 : decode cX4_from 12 = .ok (.aload_n 0, 1) := by decide +kernel
theorem dX4_from_13 : decode cX4_from 13 = .ok (.getfield 32, 3) := by decide +kernel
theorem dX4_from_16 : decode cX4_from 16 = .ok (.aload_n 0, 1) := by decide +kernel
theorem dX4_from_17 : decode cX4_from 17 = .ok (.iload_n 1, 1) := by decide +kernel
theorem dX4_from_18 : decode cX4_from 18 = .ok (.invokevirtual 126, 3) := by decide +kernel
theorem dX4_from_21 : decode cX4_from 21 = .ok (.iaload, 1) := by decide +kernel
theorem dX4_from_22 : decode cX4_from 22 = .ok (.ireturn, 1) := by decide +kernel
set_option maxRecDepth 20000 in
theorem ggX4_can_X4_from : GoodIn wsX4_can wsX4_from := goodIn_r _ [6, 7, 8, 9, 10, 5, 11, 12, 13, 14, 15, 16, 17, 18, 19, 20, 21, 22, 23, 24, 25] (by decide +kernel) (by decide +kernel)
set_option maxRecDepth 20000 in
theorem gX4_can_X4_from : GoodIn wsX4_can (wsV RX4 129 RX4 yX4_from wsX4_from) := goodIn_app (goodIn_of _ (by decide +kernel)) ggX4_can_X4_from
theorem dX4_can_0 : decode cX4_can 0 = .ok (.aload_n 0, 1) := by decide +kernel
theorem dX4_can_1 : decode cX4_can 1 = .ok (.iload_n 1, 1) := by decide +kernel
theorem dX4_can_2 : decode cX4_can 2 = .ok (.invokevirtual 129, 3) := by decide +kernel
theorem dX4_can_5 : decode cX4_can 5 = .ok (.istore_n 2, 1) := by decide +kernel
theorem dX4_can_6 : decode cX4_can 6 = .ok (.iload_n 2, 1) := by decide +kernel
theorem dX4_can_7 : decode cX4_can 7 = .ok (.iload_n 1, 1) := by decide +kernel
theorem dX4_can_8 : decode cX4_can 8 = .ok (.if_icmp .ge 20, 3) := by decide +kernel
theorem dX4_can_11 : decode cX4_can 11 = .ok (.aload_n 0, 1) := by decide +kernel
theorem dX4_can_12 : decode cX4_can 12 = .ok (.getfield 28, 3) := by decide +kernel
theorem dX4_can_15 : decode cX4_can 15 = .ok (.iload_n 2, 1) := by decide +kernel
theorem dX4_can_16 : decode cX4_can 16 = .ok (.baload, 1) := by decide +kernel
theorem dX4_can_17 : decode cX4_can 17 = .ok (.ifCond .eq 5, 3) := by decide +kernel
theorem dX4_can_20 : decode cX4_can 20 = .ok (.iconst 0, 1) := by decide +kernel
theorem dX4_can_21 : decode cX4_can 21 = .ok (.ireturn, 1) := by decide +kernel
theorem dX4_can_22 : decode cX4_can 22 = .ok (.iinc 2 1, 3) := by decide +kernel
theorem dX4_can_25 : decode cX4_can 25 = .ok (.goto (-19), 3) := by decide +kernel
theorem dX4_can_28 : decode cX4_can 28 = .ok (.iconst 1, 1) := by decide +kernel
theorem dX4_can_29 : decode cX4_can 29 = .ok (.ireturn, 1) := by decide +kernel
theorem dX4_cost_0 : decode cX4_cost 0 = .ok (.iconst 0, 1) := by decide +kernel
theorem dX4_cost_1 : decode cX4_cost 1 = .ok (.istore_n 3, 1) := by decide +kernel
theorem dX4_cost_2 : decode cX4_cost 2 = .ok (.iload_n 1, 1) := by decide +kernel
theorem dX4_cost_3 : decode cX4_cost 3 = .ok (.istore 4, 2) := by decide +kernel
theorem dX4_cost_5 : decode cX4_cost 5 = .ok (.iload 4, 2) := by decide +kernel
theorem dX4_cost_7 : decode cX4_cost 7 = .ok (.iload_n 2, 1) := by decide +kernel
theorem dX4_cost_8 : decode cX4_cost 8 = .ok (.if_icmp .ge 19, 3) := by decide +kernel
theorem dX4_cost_11 : decode cX4_cost 11 = .ok (.iload_n 3, 1) := by decide +kernel
theorem dX4_cost_12 : decode cX4_cost 12 = .ok (.aload_n 0, 1) := by decide +kernel
theorem dX4_cost_13 : decode cX4_cost 13 = .ok (.getfield 22, 3) := by decide +kernel
theorem dX4_cost_16 : decode cX4_cost 16 = .ok (.iload 4, 2) := by decide +kernel
theorem dX4_cost_18 : decode cX4_cost 18 = .ok (.iaload, 1) := by decide +kernel
theorem dX4_cost_19 : decode cX4_cost 19 = .ok (.iadd, 1) := by decide +kernel
theorem dX4_cost_20 : decode cX4_cost 20 = .ok (.istore_n 3, 1) := by decide +kernel
theorem dX4_cost_21 : decode cX4_cost 21 = .ok (.iinc 4 1, 3) := by decide +kernel
theorem dX4_cost_24 : decode cX4_cost 24 = .ok (.goto (-19), 3) := by decide +kernel
theorem dX4_cost_27 : decode cX4_cost 27 = .ok (.iload_n 3, 1) := by decide +kernel
theorem dX4_cost_28 : decode cX4_cost 28 = .ok (.ireturn, 1) := by decide +kernel
set_option maxRecDepth 20000 in
theorem ggX4_replay_X4_before : GoodIn wsX4_replay wsX4_before := goodIn_r _ [8, 9, 10, 29, 30, 31, 32, 33, 34, 35, 36, 37, 38, 39, 40, 41] (by decide +kernel) (by decide +kernel)
set_option maxRecDepth 20000 in
theorem gX4_replay_X4_before : GoodIn wsX4_replay (wsV RX4 126 RX4 yX4_before wsX4_before) := goodIn_app (goodIn_of _ (by decide +kernel)) ggX4_replay_X4_before
set_option maxRecDepth 20000 in
theorem ggX4_replay_X4_from : GoodIn wsX4_replay wsX4_from := goodIn_r _ [14, 10, 4, 5, 6, 7, 8, 9, 29, 30, 31, 32, 33, 34, 35, 36, 37, 38, 39, 40, 41] (by decide +kernel) (by decide +kernel)
set_option maxRecDepth 20000 in
theorem gX4_replay_X4_from : GoodIn wsX4_replay (wsV RX4 129 RX4 yX4_from wsX4_from) := goodIn_app (goodIn_of _ (by decide +kernel)) ggX4_replay_X4_from
set_option maxRecDepth 20000 in
theorem ggX4_replay_X4_work : GoodIn wsX4_replay wsX4_work := goodIn_r _ [18, 19, 20, 21, 22, 23, 24, 25, 26, 27, 28, 29, 30, 31, 32, 33, 34, 35, 36, 37, 38, 39, 40, 41] (by decide +kernel) (by decide +kernel)
set_option maxRecDepth 20000 in
theorem gX4_replay_X4_work : GoodIn wsX4_replay (wsV RX4 61 RX4 yX4_work wsX4_work) := goodIn_app (goodIn_of _ (by decide +kernel)) ggX4_replay_X4_work
theorem dX4_replay_0 : decode cX4_replay 0 = .ok (.aload_n 0, 1) := by decide +kernel
theorem dX4_replay_1 : decode cX4_replay 1 = .ok (.iload_n 1, 1) := by decide +kernel
theorem dX4_replay_2 : decode cX4_replay 2 = .ok (.invokevirtual 126, 3) := by decide +kernel
theorem dX4_replay_5 : decode cX4_replay 5 = .ok (.istore_n 2, 1) := by decide +kernel
theorem dX4_replay_6 : decode cX4_replay 6 = .ok (.iconst 0, 1) := by decide +kernel
theorem dX4_replay_7 : decode cX4_replay 7 = .ok (.istore_n 3, 1) := by decide +kernel
theorem dX4_replay_8 : decode cX4_replay 8 = .ok (.iload_n 3, 1) := by decide +kernel
theorem dX4_replay_9 : decode cX4_replay 9 = .ok (.bipush 8, 2) := by decide +kernel
theorem dX4_replay_11 : decode cX4_replay 11 = .ok (.if_icmp .ge 34, 3) := by decide +kernel
theorem dX4_replay_14 : decode cX4_replay 14 = .ok (.aload_n 0, 1) := by decide +kernel
theorem dX4_replay_15 : decode cX4_replay 15 = .ok (.getfield 38, 3) := by decide +kernel
theorem dX4_replay_18 : decode cX4_replay 18 = .ok (.iload_n 3, 1) := by decide +kernel
theorem dX4_replay_19 : decode cX4_replay 19 = .ok (.iload_n 2, 1) := by decide +kernel
theorem dX4_replay_20 : decode cX4_replay 20 = .ok (.ifCond .ge 7, 3) := by decide +kernel
theorem dX4_replay_23 : decode cX4_replay 23 = .ok (.iconst 0, 1) := by decide +kernel
theorem dX4_replay_24 : decode cX4_replay 24 = .ok (.goto 14, 3) := by decide +kernel
theorem dX4_replay_27 : decode cX4_replay 27 = .ok (.aload_n 0, 1) := by decide +kernel
theorem dX4_replay_28 : decode cX4_replay 28 = .ok (.getfield 35, 3) := by decide +kernel
theorem dX4_replay_31 : decode cX4_replay 31 = .ok (.bipush 8, 2) := by decide +kernel
theorem dX4_replay_33 : decode cX4_replay 33 = .ok (.iload_n 2, 1) := by decide +kernel
theorem dX4_replay_34 : decode cX4_replay 34 = .ok (.imul, 1) := by decide +kernel
theorem dX4_replay_35 : decode cX4_replay 35 = .ok (.iload_n 3, 1) := by decide +kernel
theorem dX4_replay_36 : decode cX4_replay 36 = .ok (.iadd, 1) := by decide +kernel
theorem dX4_replay_37 : decode cX4_replay 37 = .ok (.iaload, 1) := by decide +kernel
theorem dX4_replay_38 : decode cX4_replay 38 = .ok (.iastore, 1) := by decide +kernel
theorem dX4_replay_39 : decode cX4_replay 39 = .ok (.iinc 3 1, 3) := by decide +kernel
theorem dX4_replay_42 : decode cX4_replay 42 = .ok (.goto (-34), 3) := by decide +kernel
theorem dX4_replay_45 : decode cX4_replay 45 = .ok (.aload_n 0, 1) := by decide +kernel
theorem dX4_replay_46 : decode cX4_replay 46 = .ok (.iload_n 1, 1) := by decide +kernel
theorem dX4_replay_47 : decode cX4_replay 47 = .ok (.invokevirtual 129, 3) := by decide +kernel
theorem dX4_replay_50 : decode cX4_replay 50 = .ok (.istore_n 3, 1) := by decide +kernel
theorem dX4_replay_51 : decode cX4_replay 51 = .ok (.iload_n 3, 1) := by decide +kernel
theorem dX4_replay_52 : decode cX4_replay 52 = .ok (.iload_n 1, 1) := by decide +kernel
theorem dX4_replay_53 : decode cX4_replay 53 = .ok (.if_icmp .ge 47, 3) := by decide +kernel
theorem dX4_replay_56 : decode cX4_replay 56 = .ok (.bipush 12, 2) := by decide +kernel
theorem dX4_replay_58 : decode cX4_replay 58 = .ok (.iload_n 3, 1) := by decide +kernel
theorem dX4_replay_59 : decode cX4_replay 59 = .ok (.imul, 1) := by decide +kernel
theorem dX4_replay_60 : decode cX4_replay 60 = .ok (.istore 4, 2) := by decide +kernel
theorem dX4_replay_62 : decode cX4_replay 62 = .ok (.iload 4, 2) := by decide +kernel
theorem dX4_replay_64 : decode cX4_replay 64 = .ok (.bipush 12, 2) := by decide +kernel
theorem dX4_replay_66 : decode cX4_replay 66 = .ok (.iload_n 3, 1) := by decide +kernel
theorem dX4_replay_67 : decode cX4_replay 67 = .ok (.imul, 1) := by decide +kernel
theorem dX4_replay_68 : decode cX4_replay 68 = .ok (.aload_n 0, 1) := by decide +kernel
theorem dX4_replay_69 : decode cX4_replay 69 = .ok (.getfield 22, 3) := by decide +kernel
theorem dX4_replay_72 : decode cX4_replay 72 = .ok (.iload_n 3, 1) := by decide +kernel
theorem dX4_replay_73 : decode cX4_replay 73 = .ok (.iaload, 1) := by decide +kernel
theorem dX4_replay_74 : decode cX4_replay 74 = .ok (.iadd, 1) := by decide +kernel
theorem dX4_replay_75 : decode cX4_replay 75 = .ok (.if_icmp .ge 19, 3) := by decide +kernel
theorem dX4_replay_78 : decode cX4_replay 78 = .ok (.aload_n 0, 1) := by decide +kernel
theorem dX4_replay_79 : decode cX4_replay 79 = .ok (.aload_n 0, 1) := by decide +kernel
theorem dX4_replay_80 : decode cX4_replay 80 = .ok (.getfield 38, 3) := by decide +kernel
theorem dX4_replay_83 : decode cX4_replay 83 = .ok (.iload 4, 2) := by decide +kernel
theorem dX4_replay_85 : decode cX4_replay 85 = .ok (.invokevirtual 61, 3) := by decide +kernel
theorem dX4_replay_88 : decode cX4_replay 88 = .ok (.iinc 4 1, 3) := by decide +kernel
theorem dX4_replay_91 : decode cX4_replay 91 = .ok (.goto (-29), 3) := by decide +kernel
theorem dX4_replay_94 : decode cX4_replay 94 = .ok (.iinc 3 1, 3) := by decide +kernel
theorem dX4_replay_97 : decode cX4_replay 97 = .ok (.goto (-46), 3) := by decide +kernel
theorem dX4_replay_100 : decode cX4_replay 100 = .ok (.return_, 1) := by decide +kernel
set_option maxRecDepth 20000 in
theorem ggX4_canReplay_X4_isYear : GoodIn wsX4_canReplay wsX4_isYear := goodIn_r _ [6, 7, 8, 9, 5, 10, 26, 27, 28, 29, 30, 31, 32, 33, 34, 35, 36, 37, 38] (by decide +kernel) (by decide +kernel)
set_option maxRecDepth 20000 in
theorem gX4_canReplay_X4_isYear : GoodIn wsX4_canReplay (wsV RX4 132 RX4 yX4_isYear wsX4_isYear) := goodIn_app (goodIn_of _ (by decide +kernel)) ggX4_canReplay_X4_isYear
set_option maxRecDepth 20000 in
theorem ggX4_canReplay_X4_can : GoodIn wsX4_canReplay wsX4_can := goodIn_r _ [14, 15, 16, 17, 18, 5, 19, 20, 21, 22, 23, 24, 25, 26, 27, 28, 29, 30, 31, 32, 33, 34, 35, 36, 37, 38] (by decide +kernel) (by decide +kernel)
set_option maxRecDepth 20000 in
theorem gX4_canReplay_X4_can : GoodIn wsX4_canReplay (wsV RX4 135 RX4 yX4_can wsX4_can) := goodIn_app (goodIn_of _ (by decide +kernel)) ggX4_canReplay_X4_can
theorem dX4_canReplay_0 : decode cX4_canReplay 0 = .ok (.aload_n 0, 1) := by decide +kernel
theorem dX4_canReplay_1 : decode cX4_canReplay 1 = .ok (.aload_n 0, 1) := by decide +kernel
theorem dX4_canReplay_2 : decode cX4_canReplay 2 = .ok (.iload_n 1, 1) := by decide +kernel
theorem dX4_canReplay_3 : decode cX4_canReplay 3 = .ok (.invokevirtual 132, 3) := by decide +kernel
theorem dX4_canReplay_6 : decode cX4_canReplay 6 = .ok (.ifCond .eq 7, 3) := by decide +kernel
theorem dX4_canReplay_9 : decode cX4_canReplay 9 = .ok (.iconst 0, 1) := by decide +kernel
theorem dX4_canReplay_10 : decode cX4_canReplay 10 = .ok (.goto 4, 3) := by decide +kernel
theorem dX4_canReplay_13 : decode cX4_canReplay 13 = .ok (.iconst 1, 1) := by decide +kernel
theorem dX4_canReplay_14 : decode cX4_canReplay 14 = .ok (.putfield 41, 3) := by decide +kernel
theorem dX4_canReplay_17 : decode cX4_canReplay 17 = .ok (.aload_n 0, 1) := by decide +kernel
theorem dX4_canReplay_18 : decode cX4_canReplay 18 = .ok (.getfield 41, 3) := by decide +kernel
theorem dX4_canReplay_21 : decode cX4_canReplay 21 = .ok (.ifCond .ne 15, 3) := by decide +kernel
theorem dX4_canReplay_24 : decode cX4_canReplay 24 = .ok (.aload_n 0, 1) := by decide +kernel
theorem dX4_canReplay_25 : decode cX4_canReplay 25 = .ok (.iload_n 1, 1) := by decide +kernel
theorem dX4_canReplay_26 : decode cX4_canReplay 26 = .ok (.invokevirtual 135, 3) := by decide +kernel
theorem dX4_canReplay_29 : decode cX4_canReplay 29 = .ok (.ifCond .eq 7, 3) := by decide +kernel
theorem dX4_canReplay_32 : decode cX4_canReplay 32 = .ok (.iconst 1, 1) := by decide +kernel
theorem dX4_canReplay_33 : decode cX4_canReplay 33 = .ok (.goto 4, 3) := by decide +kernel
theorem dX4_canReplay_36 : decode cX4_canReplay 36 = .ok (.iconst 0, 1) := by decide +kernel
theorem dX4_canReplay_37 : decode cX4_canReplay 37 = .ok (.ireturn, 1) := by decide +kernel
set_option maxRecDepth 20000 in
theorem ggX4_replayedFrom_X4_isYear : GoodIn wsX4_replayedFrom wsX4_isYear := goodIn_r _ [7, 8, 9, 10, 6, 11, 21, 22, 23, 24, 25, 26, 27, 28, 29, 30, 31, 32, 33] (by decide +kernel) (by decide +kernel)
set_option maxRecDepth 20000 in
theorem gX4_replayedFrom_X4_isYear : GoodIn wsX4_replayedFrom (wsV RX4 132 RX4 yX4_isYear wsX4_isYear) := goodIn_app (goodIn_of _ (by decide +kernel)) ggX4_replayedFrom_X4_isYear
set_option maxRecDepth 20000 in
theorem ggX4_replayedFrom_X4_fail : GoodIn wsX4_replayedFrom wsX4_fail := goodIn_r _ [15, 1, 21, 22, 23, 24, 25, 26, 27, 28, 29, 30, 31, 32, 33] (by decide +kernel) (by decide +kernel)
set_option maxRecDepth 20000 in
theorem gX4_replayedFrom_X4_fail : GoodIn wsX4_replayedFrom (wsV RX4 69 RX4 yX4_fail wsX4_fail) := goodIn_app (goodIn_of _ (by decide +kernel)) ggX4_replayedFrom_X4_fail
set_option maxRecDepth 20000 in
theorem ggX4_replayedFrom_X4_before : GoodIn wsX4_replayedFrom wsX4_before := goodIn_r _ [19, 20, 2, 21, 22, 23, 24, 25, 26, 27, 28, 29, 30, 31, 32, 33] (by decide +kernel) (by decide +kernel)
set_option maxRecDepth 20000 in
theorem gX4_replayedFrom_X4_before : GoodIn wsX4_replayedFrom (wsV RX4 126 RX4 yX4_before wsX4_before) := goodIn_app (goodIn_of _ (by decide +kernel)) ggX4_replayedFrom_X4_before
theorem dX4_replayedFrom_0 : decode cX4_replayedFrom 0 = .ok (.aload_n 0, 1) := by decide +kernel
theorem dX4_replayedFrom_1 : decode cX4_replayedFrom 1 = .ok (.iconst 0, 1) := by decide +kernel
theorem dX4_replayedFrom_2 : decode cX4_replayedFrom 2 = .ok (.putfield 41, 3) := by decide +kernel
theorem dX4_replayedFrom_5 : decode cX4_replayedFrom 5 = .ok (.aload_n 0, 1) := by decide +kernel
theorem dX4_replayedFrom_6 : decode cX4_replayedFrom 6 = .ok (.iload_n 1, 1) := by decide +kernel
theorem dX4_replayedFrom_7 : decode cX4_replayedFrom 7 = .ok (.invokevirtual 132, 3) := by decide +kernel
theorem dX4_replayedFrom_10 : decode cX4_replayedFrom 10 = .ok (.ifCond .ne 9, 3) := by decide +kernel
theorem dX4_replayedFrom_13 : decode cX4_replayedFrom 13 = .ok (.aload_n 0, 1) := by decide +kernel
theorem dX4_replayedFrom_14 : decode cX4_replayedFrom 14 = .ok (.iconst 1, 1) := by decide +kernel
theorem dX4_replayedFrom_15 : decode cX4_replayedFrom 15 = .ok (.invokevirtual 69, 3) := by decide +kernel
theorem dX4_replayedFrom_18 : decode cX4_replayedFrom 18 = .ok (.ireturn, 1) := by decide +kernel
theorem dX4_replayedFrom_19 : decode cX4_replayedFrom 19 = .ok (.aload_n 0, 1) := by decide +kernel
theorem dX4_replayedFrom_20 : decode cX4_replayedFrom 20 = .ok (.iload_n 1, 1) := by decide +kernel
theorem dX4_replayedFrom_21 : decode cX4_replayedFrom 21 = .ok (.invokevirtual 126, 3) := by decide +kernel
theorem dX4_replayedFrom_24 : decode cX4_replayedFrom 24 = .ok (.ifCond .ge 7, 3) := by decide +kernel
theorem dX4_replayedFrom_27 : decode cX4_replayedFrom 27 = .ok (.iconst (-1), 1) := by decide +kernel
theorem dX4_replayedFrom_28 : decode cX4_replayedFrom 28 = .ok (.goto 13, 3) := by decide +kernel
theorem dX4_replayedFrom_31 : decode cX4_replayedFrom 31 = .ok (.aload_n 0, 1) := by decide +kernel
theorem dX4_replayedFrom_32 : decode cX4_replayedFrom 32 = .ok (.getfield 32, 3) := by decide +kernel
theorem dX4_replayedFrom_35 : decode cX4_replayedFrom 35 = .ok (.aload_n 0, 1) := by decide +kernel
theorem dX4_replayedFrom_36 : decode cX4_replayedFrom 36 = .ok (.iload_n 1, 1) := by decide +kernel
theorem dX4_replayedFrom_37 : decode cX4_replayedFrom 37 = .ok (.invokevirtual 126, 3) := by decide +kernel
theorem dX4_replayedFrom_40 : decode cX4_replayedFrom 40 = .ok (.iaload, 1) := by decide +kernel
theorem dX4_replayedFrom_41 : decode cX4_replayedFrom 41 = .ok (.ireturn, 1) := by decide +kernel
set_option maxRecDepth 20000 in
theorem ggX4_replayCost_X4_isYear : GoodIn wsX4_replayCost wsX4_isYear := goodIn_r _ [6, 7, 8, 9, 5, 10, 35, 36, 37, 38, 39, 40, 41, 42, 43, 44, 45, 46, 47] (by decide +kernel) (by decide +kernel)
set_option maxRecDepth 20000 in
theorem gX4_replayCost_X4_isYear : GoodIn wsX4_replayCost (wsV RX4 132 RX4 yX4_isYear wsX4_isYear) := goodIn_app (goodIn_of _ (by decide +kernel)) ggX4_replayCost_X4_isYear
set_option maxRecDepth 20000 in
theorem ggX4_replayCost_X4_fail : GoodIn wsX4_replayCost wsX4_fail := goodIn_r _ [14, 1, 35, 36, 37, 38, 39, 40, 41, 42, 43, 44, 45, 46, 47] (by decide +kernel) (by decide +kernel)
set_option maxRecDepth 20000 in
theorem gX4_replayCost_X4_fail : GoodIn wsX4_replayCost (wsV RX4 69 RX4 yX4_fail wsX4_fail) := goodIn_app (goodIn_of _ (by decide +kernel)) ggX4_replayCost_X4_fail
set_option maxRecDepth 20000 in
theorem ggX4_replayCost_X4_can : GoodIn wsX4_replayCost wsX4_can := goodIn_r _ [18, 19, 20, 21, 22, 5, 23, 24, 25, 26, 27, 28, 29, 35, 36, 37, 38, 39, 40, 41, 42, 43, 44, 45, 46, 47] (by decide +kernel) (by decide +kernel)
set_option maxRecDepth 20000 in
theorem gX4_replayCost_X4_can : GoodIn wsX4_replayCost (wsV RX4 135 RX4 yX4_can wsX4_can) := goodIn_app (goodIn_of _ (by decide +kernel)) ggX4_replayCost_X4_can
set_option maxRecDepth 20000 in
theorem ggX4_replayCost_X4_from : GoodIn wsX4_replayCost wsX4_from := goodIn_r _ [23, 24, 25, 26, 27, 5, 28, 29, 35, 36, 37, 38, 39, 40, 41, 42, 43, 44, 45, 46, 47] (by decide +kernel) (by decide +kernel)
set_option maxRecDepth 20000 in
theorem gX4_replayCost_X4_from : GoodIn wsX4_replayCost (wsV RX4 129 RX4 yX4_from wsX4_from) := goodIn_app (goodIn_of _ (by decide +kernel)) ggX4_replayCost_X4_from
set_option maxRecDepth 20000 in
theorem ggX4_replayCost_X4_cost : GoodIn wsX4_replayCost wsX4_cost := goodIn_r _ [33, 34, 35, 36, 37, 38, 39, 40, 41, 42, 43, 44, 45, 46, 47] (by decide +kernel) (by decide +kernel)
set_option maxRecDepth 20000 in
theorem gX4_replayCost_X4_cost : GoodIn wsX4_replayCost (wsV RX4 138 RX4 yX4_cost wsX4_cost) := goodIn_app (goodIn_of _ (by decide +kernel)) ggX4_replayCost_X4_cost
theorem dX4_replayCost_0 : decode cX4_replayCost 0 = .ok (.aload_n 0, 1) := by decide +kernel
theorem dX4_replayCost_1 : decode cX4_replayCost 1 = .ok (.iconst 0, 1) := by decide +kernel
theorem dX4_replayCost_2 : decode cX4_replayCost 2 = .ok (.putfield 41, 3) := by decide +kernel
theorem dX4_replayCost_5 : decode cX4_replayCost 5 = .ok (.aload_n 0, 1) := by decide +kernel
theorem dX4_replayCost_6 : decode cX4_replayCost 6 = .ok (.iload_n 1, 1) := by decide +kernel
theorem dX4_replayCost_7 : decode cX4_replayCost 7 = .ok (.invokevirtual 132, 3) := by decide +kernel
theorem dX4_replayCost_10 : decode cX4_replayCost 10 = .ok (.ifCond .ne 9, 3) := by decide +kernel
theorem dX4_replayCost_13 : decode cX4_replayCost 13 = .ok (.aload_n 0, 1) := by decide +kernel
theorem dX4_replayCost_14 : decode cX4_replayCost 14 = .ok (.iconst 1, 1) := by decide +kernel
theorem dX4_replayCost_15 : decode cX4_replayCost 15 = .ok (.invokevirtual 69, 3) := by decide +kernel
theorem dX4_replayCost_18 : decode cX4_replayCost 18 = .ok (.ireturn, 1) := by decide +kernel
theorem dX4_replayCost_19 : decode cX4_replayCost 19 = .ok (.aload_n 0, 1) := by decide +kernel
theorem dX4_replayCost_20 : decode cX4_replayCost 20 = .ok (.iload_n 1, 1) := by decide +kernel
theorem dX4_replayCost_21 : decode cX4_replayCost 21 = .ok (.invokevirtual 135, 3) := by decide +kernel
theorem dX4_replayCost_24 : decode cX4_replayCost 24 = .ok (.ifCond .eq 16, 3) := by decide +kernel
theorem dX4_replayCost_27 : decode cX4_replayCost 27 = .ok (.aload_n 0, 1) := by decide +kernel
theorem dX4_replayCost_28 : decode cX4_replayCost 28 = .ok (.aload_n 0, 1) := by decide +kernel
theorem dX4_replayCost_29 : decode cX4_replayCost 29 = .ok (.iload_n 1, 1) := by decide +kernel
theorem dX4_replayCost_30 : decode cX4_replayCost 30 = .ok (.invokevirtual 129, 3) := by decide +kernel
theorem dX4_replayCost_33 : decode cX4_replayCost 33 = .ok (.iload_n 1, 1) := by decide +kernel
theorem dX4_replayCost_34 : decode cX4_replayCost 34 = .ok (.invokevirtual 138, 3) := by decide +kernel
theorem dX4_replayCost_37 : decode cX4_replayCost 37 = .ok (.goto 8, 3) := by decide +kernel
theorem dX4_replayCost_40 : decode cX4_replayCost 40 = .ok (.aload_n 0, 1) := by decide +kernel
theorem dX4_replayCost_41 : decode cX4_replayCost 41 = .ok (.iconst 2, 1) := by decide +kernel
theorem dX4_replayCost_42 : decode cX4_replayCost 42 = .ok (.invokevirtual 69, 3) := by decide +kernel
theorem dX4_replayCost_45 : decode cX4_replayCost 45 = .ok (.ireturn, 1) := by decide +kernel
set_option maxRecDepth 20000 in
theorem ggX4_iceInYear_X4_isPlace : GoodIn wsX4_iceInYear wsX4_isPlace := goodIn_r _ [6, 7, 8, 5, 9] (by decide +kernel) (by decide +kernel)
set_option maxRecDepth 20000 in
theorem gX4_iceInYear_X4_isPlace : GoodIn wsX4_iceInYear (va_wsS RX4 65 yX4_isPlace wsX4_isPlace) := goodIn_app (goodIn_of _ (by decide +kernel)) ggX4_iceInYear_X4_isPlace
set_option maxRecDepth 20000 in
theorem ggX4_iceInYear_X4_fail : GoodIn wsX4_iceInYear wsX4_fail := goodIn_r _ [13, 1, 54, 55, 56, 57, 58, 59, 60, 61, 62, 63, 64, 65, 66] (by decide +kernel) (by decide +kernel)
set_option maxRecDepth 20000 in
theorem gX4_iceInYear_X4_fail : GoodIn wsX4_iceInYear (wsV RX4 69 RX4 yX4_fail wsX4_fail) := goodIn_app (goodIn_of _ (by decide +kernel)) ggX4_iceInYear_X4_fail
set_option maxRecDepth 20000 in
theorem ggX4_iceInYear_X4_isYear : GoodIn wsX4_iceInYear wsX4_isYear := goodIn_r _ [17, 18, 7, 8, 5, 9, 54, 55, 56, 57, 58, 59, 60, 61, 62, 63, 64, 65, 66] (by decide +kernel) (by decide +kernel)
set_option maxRecDepth 20000 in
theorem gX4_iceInYear_X4_isYear : GoodIn wsX4_iceInYear (wsV RX4 132 RX4 yX4_isYear wsX4_isYear) := goodIn_app (goodIn_of _ (by decide +kernel)) ggX4_iceInYear_X4_isYear
set_option maxRecDepth 20000 in
theorem ggX4_iceInYear_X4_can : GoodIn wsX4_iceInYear wsX4_can := goodIn_r _ [22, 23, 24, 25, 26, 5, 27, 28, 29, 30, 31, 32, 33, 54, 55, 56, 57, 58, 59, 60, 61, 62, 63, 64, 65, 66] (by decide +kernel) (by decide +kernel)
set_option maxRecDepth 20000 in
theorem gX4_iceInYear_X4_can : GoodIn wsX4_iceInYear (wsV RX4 135 RX4 yX4_can wsX4_can) := goodIn_app (goodIn_of _ (by decide +kernel)) ggX4_iceInYear_X4_can
set_option maxRecDepth 20000 in
theorem ggX4_iceInYear_X4_replay : GoodIn wsX4_iceInYear wsX4_replay := goodIn_r _ [37, 2, 38, 39, 29, 30, 31, 5, 32, 33, 28, 24, 25, 26, 27, 40, 41, 42, 43, 44, 45, 46, 47, 48, 49, 50, 51, 52, 53, 54, 55, 56, 57, 58, 59, 60, 61, 62, 63, 64, 65, 66] (by decide +kernel) (by decide +kernel)
set_option maxRecDepth 20000 in
theorem gX4_iceInYear_X4_replay : GoodIn wsX4_iceInYear (wsV RX4 141 RX4 yX4_replay wsX4_replay) := goodIn_app (goodIn_of _ (by decide +kernel)) ggX4_iceInYear_X4_replay
theorem dX4_iceInYear_0 : decode cX4_iceInYear 0 = .ok (.aload_n 0, 1) := by decide +kernel
theorem dX4_iceInYear_1 : decode cX4_iceInYear 1 = .ok (.iconst 0, 1) := by decide +kernel
theorem dX4_iceInYear_2 : decode cX4_iceInYear 2 = .ok (.putfield 41, 3) := by decide +kernel
theorem dX4_iceInYear_5 : decode cX4_iceInYear 5 = .ok (.iload_n 2, 1) := by decide +kernel
theorem dX4_iceInYear_6 : decode cX4_iceInYear 6 = .ok (.invokestatic 65, 3) := by decide +kernel
theorem dX4_iceInYear_9 : decode cX4_iceInYear 9 = .ok (.ifCond .ne 9, 3) := by decide +kernel
theorem dX4_iceInYear_12 : decode cX4_iceInYear 12 = .ok (.aload_n 0, 1) := by decide +kernel
theorem dX4_iceInYear_13 : decode cX4_iceInYear 13 = .ok (.iconst 1, 1) := by decide +kernel
theorem dX4_iceInYear_14 : decode cX4_iceInYear 14 = .ok (.invokevirtual 69, 3) := by decide +kernel
theorem dX4_iceInYear_17 : decode cX4_iceInYear 17 = .ok (.ireturn, 1) := by decide +kernel
theorem dX4_iceInYear_18 : decode cX4_iceInYear 18 = .ok (.aload_n 0, 1) := by decide +kernel
theorem dX4_iceInYear_19 : decode cX4_iceInYear 19 = .ok (.iload_n 1, 1) := by decide +kernel
theorem dX4_iceInYear_20 : decode cX4_iceInYear 20 = .ok (.invokevirtual 132, 3) := by decide +kernel
theorem dX4_iceInYear_23 : decode cX4_iceInYear 23 = .ok (.ifCond .ne 9, 3) := by decide +kernel
theorem dX4_iceInYear_26 : decode cX4_iceInYear 26 = .ok (.aload_n 0, 1) := by decide +kernel
theorem dX4_iceInYear_27 : decode cX4_iceInYear 27 = .ok (.iconst 2, 1) := by decide +kernel
theorem dX4_iceInYear_28 : decode cX4_iceInYear 28 = .ok (.invokevirtual 69, 3) := by decide +kernel
theorem dX4_iceInYear_31 : decode cX4_iceInYear 31 = .ok (.ireturn, 1) := by decide +kernel
theorem dX4_iceInYear_32 : decode cX4_iceInYear 32 = .ok (.aload_n 0, 1) := by decide +kernel
theorem dX4_iceInYear_33 : decode cX4_iceInYear 33 = .ok (.iload_n 1, 1) := by decide +kernel
theorem dX4_iceInYear_34 : decode cX4_iceInYear 34 = .ok (.invokevirtual 135, 3) := by decide +kernel
theorem dX4_iceInYear_37 : decode cX4_iceInYear 37 = .ok (.ifCond .ne 9, 3) := by decide +kernel
theorem dX4_iceInYear_40 : decode cX4_iceInYear 40 = .ok (.aload_n 0, 1) := by decide +kernel
theorem dX4_iceInYear_41 : decode cX4_iceInYear 41 = .ok (.iconst 3, 1) := by decide +kernel
theorem dX4_iceInYear_42 : decode cX4_iceInYear 42 = .ok (.invokevirtual 69, 3) := by decide +kernel
theorem dX4_iceInYear_45 : decode cX4_iceInYear 45 = .ok (.ireturn, 1) := by decide +kernel
theorem dX4_iceInYear_46 : decode cX4_iceInYear 46 = .ok (.aload_n 0, 1) := by decide +kernel
theorem dX4_iceInYear_47 : decode cX4_iceInYear 47 = .ok (.iload_n 1, 1) := by decide +kernel
theorem dX4_iceInYear_48 : decode cX4_iceInYear 48 = .ok (.invokevirtual 141, 3) := by decide +kernel
theorem dX4_iceInYear_51 : decode cX4_iceInYear 51 = .ok (.aload_n 0, 1) := by decide +kernel
theorem dX4_iceInYear_52 : decode cX4_iceInYear 52 = .ok (.getfield 38, 3) := by decide +kernel
theorem dX4_iceInYear_55 : decode cX4_iceInYear 55 = .ok (.iload_n 2, 1) := by decide +kernel
theorem dX4_iceInYear_56 : decode cX4_iceInYear 56 = .ok (.iaload, 1) := by decide +kernel
theorem dX4_iceInYear_57 : decode cX4_iceInYear 57 = .ok (.ireturn, 1) := by decide +kernel
set_option maxRecDepth 20000 in
theorem ggX4_richest_X4_can : GoodIn wsX4_richest wsX4_can := goodIn_r _ [7, 8, 9, 10, 11, 6, 12, 13, 14, 15, 16, 17, 18, 42, 43, 44, 45, 46, 47, 48, 49, 50, 51, 52, 53, 54] (by decide +kernel) (by decide +kernel)
set_option maxRecDepth 20000 in
theorem gX4_richest_X4_can : GoodIn wsX4_richest (wsV RX4 135 RX4 yX4_can wsX4_can) := goodIn_app (goodIn_of _ (by decide +kernel)) ggX4_richest_X4_can
set_option maxRecDepth 20000 in
theorem ggX4_richest_X4_replay : GoodIn wsX4_richest wsX4_replay := goodIn_r _ [22, 2, 23, 24, 14, 15, 16, 6, 17, 18, 13, 9, 10, 11, 12, 25, 26, 27, 28, 29, 30, 31, 32, 33, 34, 35, 36, 37, 38, 42, 43, 44, 45, 46, 47, 48, 49, 50, 51, 52, 53, 54] (by decide +kernel) (by decide +kernel)
set_option maxRecDepth 20000 in
theorem gX4_richest_X4_replay : GoodIn wsX4_richest (wsV RX4 141 RX4 yX4_replay wsX4_replay) := goodIn_app (goodIn_of _ (by decide +kernel)) ggX4_richest_X4_replay
set_option maxRecDepth 20000 in
theorem ggX4_richest_X4_sum : GoodIn wsX4_richest wsX4_sum := goodIn_r _ [41] (by decide +kernel) (by decide +kernel)
set_option maxRecDepth 20000 in
theorem gX4_richest_X4_sum : GoodIn wsX4_richest (va_wsS RX4 109 yX4_sum wsX4_sum) := goodIn_app (goodIn_of _ (by decide +kernel)) ggX4_richest_X4_sum
theorem dX4_richest_0 : decode cX4_richest 0 = .ok (.iconst (-1), 1) := by decide +kernel
theorem dX4_richest_1 : decode cX4_richest 1 = .ok (.istore_n 1, 1) := by decide +kernel
theorem dX4_richest_2 : decode cX4_richest 2 = .ok (.iconst (-1), 1) := by decide +kernel
theorem dX4_richest_3 : decode cX4_richest 3 = .ok (.istore_n 2, 1) := by decide +kernel
theorem dX4_richest_4 : decode cX4_richest 4 = .ok (.iconst 0, 1) := by decide +kernel
theorem dX4_richest_5 : decode cX4_richest 5 = .ok (.istore_n 3, 1) := by decide +kernel
theorem dX4_richest_6 : decode cX4_richest 6 = .ok (.iload_n 3, 1) := by decide +kernel
theorem dX4_richest_7 : decode cX4_richest 7 = .ok (.aload_n 0, 1) := by decide +kernel
theorem dX4_richest_8 : decode cX4_richest 8 = .ok (.getfield 49, 3) := by decide +kernel
theorem dX4_richest_11 : decode cX4_richest 11 = .ok (.if_icmp .gt 51, 3) := by decide +kernel
theorem dX4_richest_14 : decode cX4_richest 14 = .ok (.aload_n 0, 1) := by decide +kernel
theorem dX4_richest_15 : decode cX4_richest 15 = .ok (.iload_n 3, 1) := by decide +kernel
theorem dX4_richest_16 : decode cX4_richest 16 = .ok (.invokevirtual 135, 3) := by decide +kernel
theorem dX4_richest_19 : decode cX4_richest 19 = .ok (.ifCond .ne 6, 3) := by decide +kernel
theorem dX4_richest_22 : decode cX4_richest 22 = .ok (.goto 34, 3) := by decide +kernel
theorem dX4_richest_25 : decode cX4_richest 25 = .ok (.aload_n 0, 1) := by decide +kernel
theorem dX4_richest_26 : decode cX4_richest 26 = .ok (.iload_n 3, 1) := by decide +kernel
theorem dX4_richest_27 : decode cX4_richest 27 = .ok (.invokevirtual 141, 3) := by decide +kernel
theorem dX4_richest_30 : decode cX4_richest 30 = .ok (.aload_n 0, 1) := by decide +kernel
theorem dX4_richest_31 : decode cX4_richest 31 = .ok (.getfield 38, 3) := by decide +kernel
theorem dX4_richest_34 : decode cX4_richest 34 = .ok (.iconst 0, 1) := by decide +kernel
theorem dX4_richest_35 : decode cX4_richest 35 = .ok (.invokestatic 109, 3) := by decide +kernel
theorem dX4_richest_38 : decode cX4_richest 38 = .ok (.iload_n 2, 1) := by decide +kernel
theorem dX4_richest_39 : decode cX4_richest 39 = .ok (.if_icmp .gt 6, 3) := by decide +kernel
theorem dX4_richest_42 : decode cX4_richest 42 = .ok (.goto 14, 3) := by decide +kernel
theorem dX4_richest_45 : decode cX4_richest 45 = .ok (.iload_n 3, 1) := by decide +kernel
theorem dX4_richest_46 : decode cX4_richest 46 = .ok (.istore_n 1, 1) := by decide +kernel
theorem dX4_richest_47 : decode cX4_richest 47 = .ok (.aload_n 0, 1) := by decide +kernel
theorem dX4_richest_48 : decode cX4_richest 48 = .ok (.getfield 38, 3) := by decide +kernel
theorem dX4_richest_51 : decode cX4_richest 51 = .ok (.iconst 0, 1) := by decide +kernel
theorem dX4_richest_52 : decode cX4_richest 52 = .ok (.invokestatic 109, 3) := by decide +kernel
theorem dX4_richest_55 : decode cX4_richest 55 = .ok (.istore_n 2, 1) := by decide +kernel
theorem dX4_richest_56 : decode cX4_richest 56 = .ok (.iinc 3 1, 3) := by decide +kernel
theorem dX4_richest_59 : decode cX4_richest 59 = .ok (.goto (-53), 3) := by decide +kernel
theorem dX4_richest_62 : decode cX4_richest 62 = .ok (.iload_n 1, 1) := by decide +kernel
theorem dX4_richest_63 : decode cX4_richest 63 = .ok (.ireturn, 1) := by decide +kernel
set_option maxRecDepth 20000 in
theorem ggX4_richestYear_X4_richest : GoodIn wsX4_richestYear wsX4_richest := goodIn_r _ [5, 6, 7, 8, 9, 10, 4, 11, 12, 13, 14, 15, 16, 17, 18, 19, 20, 21, 22, 23, 24, 25, 26, 27, 28, 29, 30, 31, 32, 33, 34, 35, 36, 37, 38, 39, 40, 41, 42, 43, 44, 45, 51, 52, 53, 54, 55, 56, 57, 58, 59, 60, 61, 62, 63] (by decide +kernel) (by decide +kernel)
set_option maxRecDepth 20000 in
theorem gX4_richestYear_X4_richest : GoodIn wsX4_richestYear (wsV RX4 144 RX4 yX4_richest wsX4_richest) := goodIn_app (goodIn_of _ (by decide +kernel)) ggX4_richestYear_X4_richest
set_option maxRecDepth 20000 in
theorem ggX4_richestYear_X4_told : GoodIn wsX4_richestYear wsX4_told := goodIn_r _ [49, 50, 51, 52, 53, 54, 55, 56, 57, 58, 59, 60, 61, 62, 63] (by decide +kernel) (by decide +kernel)
set_option maxRecDepth 20000 in
theorem gX4_richestYear_X4_told : GoodIn wsX4_richestYear (wsV RX4 106 RX4 yX4_told wsX4_told) := goodIn_app (goodIn_of _ (by decide +kernel)) ggX4_richestYear_X4_told
theorem dX4_richestYear_0 : decode cX4_richestYear 0 = .ok (.aload_n 0, 1) := by decide +kernel
theorem dX4_richestYear_1 : decode cX4_richestYear 1 = .ok (.aload_n 0, 1) := by decide +kernel
theorem dX4_richestYear_2 : decode cX4_richestYear 2 = .ok (.invokevirtual 144, 3) := by decide +kernel
theorem dX4_richestYear_5 : decode cX4_richestYear 5 = .ok (.invokevirtual 106, 3) := by decide +kernel
theorem dX4_richestYear_8 : decode cX4_richestYear 8 = .ok (.ireturn, 1) := by decide +kernel
set_option maxRecDepth 20000 in
theorem ggX4_iceAfter_X4_isIn : GoodIn wsX4_iceAfter wsX4_isIn := goodIn_r _ [13] (by decide +kernel) (by decide +kernel)
set_option maxRecDepth 20000 in
theorem gX4_iceAfter_X4_isIn : GoodIn wsX4_iceAfter (va_wsS RX4 45 yX4_isIn wsX4_isIn) := goodIn_app (goodIn_of _ (by decide +kernel)) ggX4_iceAfter_X4_isIn
set_option maxRecDepth 20000 in
theorem ggX4_iceAfter_X4_fail : GoodIn wsX4_iceAfter wsX4_fail := goodIn_r _ [17, 1, 35, 36, 37, 38, 39, 40, 41, 42, 43, 44, 45, 46, 47] (by decide +kernel) (by decide +kernel)
set_option maxRecDepth 20000 in
theorem gX4_iceAfter_X4_fail : GoodIn wsX4_iceAfter (wsV RX4 69 RX4 yX4_fail wsX4_fail) := goodIn_app (goodIn_of _ (by decide +kernel)) ggX4_iceAfter_X4_fail
set_option maxRecDepth 20000 in
theorem ggX4_iceAfter_X4_work : GoodIn wsX4_iceAfter wsX4_work := goodIn_r _ [21, 22, 23, 24, 25, 26, 27, 28, 29, 30, 31, 35, 36, 37, 38, 39, 40, 41, 42, 43, 44, 45, 46, 47] (by decide +kernel) (by decide +kernel)
set_option maxRecDepth 20000 in
theorem gX4_iceAfter_X4_work : GoodIn wsX4_iceAfter (wsV RX4 61 RX4 yX4_work wsX4_work) := goodIn_app (goodIn_of _ (by decide +kernel)) ggX4_iceAfter_X4_work
set_option maxRecDepth 20000 in
theorem ggX4_iceAfter_X4_sum : GoodIn wsX4_iceAfter wsX4_sum := goodIn_r _ [34] (by decide +kernel) (by decide +kernel)
set_option maxRecDepth 20000 in
theorem gX4_iceAfter_X4_sum : GoodIn wsX4_iceAfter (va_wsS RX4 109 yX4_sum wsX4_sum) := goodIn_app (goodIn_of _ (by decide +kernel)) ggX4_iceAfter_X4_sum
theorem dX4_iceAfter_0 : decode cX4_iceAfter 0 = .ok (.aload_n 0, 1) := by decide +kernel
theorem dX4_iceAfter_1 : decode cX4_iceAfter 1 = .ok (.iconst 0, 1) := by decide +kernel
theorem dX4_iceAfter_2 : decode cX4_iceAfter 2 = .ok (.putfield 41, 3) := by decide +kernel
theorem dX4_iceAfter_5 : decode cX4_iceAfter 5 = .ok (.iload_n 1, 1) := by decide +kernel
theorem dX4_iceAfter_6 : decode cX4_iceAfter 6 = .ok (.iconst 1, 1) := by decide +kernel
theorem dX4_iceAfter_7 : decode cX4_iceAfter 7 = .ok (.bipush 30, 2) := by decide +kernel
theorem dX4_iceAfter_9 : decode cX4_iceAfter 9 = .ok (.invokestatic 45, 3) := by decide +kernel
theorem dX4_iceAfter_12 : decode cX4_iceAfter 12 = .ok (.ifCond .ne 9, 3) := by decide +kernel
theorem dX4_iceAfter_15 : decode cX4_iceAfter 15 = .ok (.aload_n 0, 1) := by decide +kernel
theorem dX4_iceAfter_16 : decode cX4_iceAfter 16 = .ok (.iconst 1, 1) := by decide +kernel
theorem dX4_iceAfter_17 : decode cX4_iceAfter 17 = .ok (.invokevirtual 69, 3) := by decide +kernel
theorem dX4_iceAfter_20 : decode cX4_iceAfter 20 = .ok (.ireturn, 1) := by decide +kernel
theorem dX4_iceAfter_21 : decode cX4_iceAfter 21 = .ok (.aload_n 0, 1) := by decide +kernel
theorem dX4_iceAfter_22 : decode cX4_iceAfter 22 = .ok (.getfield 9, 3) := by decide +kernel
theorem dX4_iceAfter_25 : decode cX4_iceAfter 25 = .ok (.iconst 0, 1) := by decide +kernel
theorem dX4_iceAfter_26 : decode cX4_iceAfter 26 = .ok (.aload_n 0, 1) := by decide +kernel
theorem dX4_iceAfter_27 : decode cX4_iceAfter 27 = .ok (.getfield 38, 3) := by decide +kernel
theorem dX4_iceAfter_30 : decode cX4_iceAfter 30 = .ok (.iconst 0, 1) := by decide +kernel
theorem dX4_iceAfter_31 : decode cX4_iceAfter 31 = .ok (.bipush 8, 2) := by decide +kernel
theorem dX4_iceAfter_33 : decode cX4_iceAfter 33 = .ok (.invokestatic 87, 3) := by decide +kernel
theorem dX4_iceAfter_36 : decode cX4_iceAfter 36 = .ok (.iconst 0, 1) := by decide +kernel
theorem dX4_iceAfter_37 : decode cX4_iceAfter 37 = .ok (.istore_n 2, 1) := by decide +kernel
theorem dX4_iceAfter_38 : decode cX4_iceAfter 38 = .ok (.iload_n 2, 1) := by decide +kernel
theorem dX4_iceAfter_39 : decode cX4_iceAfter 39 = .ok (.iload_n 1, 1) := by decide +kernel
theorem dX4_iceAfter_40 : decode cX4_iceAfter 40 = .ok (.if_icmp .ge 66, 3) := by decide +kernel
theorem dX4_iceAfter_43 : decode cX4_iceAfter 43 = .ok (.aload_n 0, 1) := by decide +kernel
theorem dX4_iceAfter_44 : decode cX4_iceAfter 44 = .ok (.getfield 49, 3) := by decide +kernel
theorem dX4_iceAfter_47 : decode cX4_iceAfter 47 = .ok (.ifCond .le 59, 3) := by decide +kernel
theorem dX4_iceAfter_50 : decode cX4_iceAfter 50 = .ok (.bipush 12, 2) := by decide +kernel
theorem dX4_iceAfter_52 : decode cX4_iceAfter 52 = .ok (.aload_n 0, 1) := by decide +kernel
theorem dX4_iceAfter_53 : decode cX4_iceAfter 53 = .ok (.getfield 49, 3) := by decide +kernel
theorem dX4_iceAfter_56 : decode cX4_iceAfter 56 = .ok (.iconst 1, 1) := by decide +kernel
theorem dX4_iceAfter_57 : decode cX4_iceAfter 57 = .ok (.isub, 1) := by decide +kernel
theorem dX4_iceAfter_58 : decode cX4_iceAfter 58 = .ok (.imul, 1) := by decide +kernel
theorem dX4_iceAfter_59 : decode cX4_iceAfter 59 = .ok (.istore_n 3, 1) := by decide +kernel
theorem dX4_iceAfter_60 : decode cX4_iceAfter 60 = .ok (.iload_n 3, 1) := by decide +kernel
theorem dX4_iceAfter_61 : decode cX4_iceAfter 61 = .ok (.bipush 12, 2) := by decide +kernel
theorem dX4_iceAfter_63 : decode cX4_iceAfter 63 = .ok (.aload_n 0, 1) := by decide +kernel
theorem dX4_iceAfter_64 : decode cX4_iceAfter 64 = .ok (.getfield 49, 3) := by decide +kernel
theorem dX4_iceAfter_67 : decode cX4_iceAfter 67 = .ok (.iconst 1, 1) := by decide +kernel
theorem dX4_iceAfter_68 : decode cX4_iceAfter 68 = .ok (.isub, 1) := by decide +kernel
theorem dX4_iceAfter_69 : decode cX4_iceAfter 69 = .ok (.imul, 1) := by decide +kernel
theorem dX4_iceAfter_70 : decode cX4_iceAfter 70 = .ok (.aload_n 0, 1) := by decide +kernel
theorem dX4_iceAfter_71 : decode cX4_iceAfter 71 = .ok (.getfield 22, 3) := by decide +kernel
theorem dX4_iceAfter_74 : decode cX4_iceAfter 74 = .ok (.aload_n 0, 1) := by decide +kernel
theorem dX4_iceAfter_75 : decode cX4_iceAfter 75 = .ok (.getfield 49, 3) := by decide +kernel
theorem dX4_iceAfter_78 : decode cX4_iceAfter 78 = .ok (.iconst 1, 1) := by decide +kernel
theorem dX4_iceAfter_79 : decode cX4_iceAfter 79 = .ok (.isub, 1) := by decide +kernel
theorem dX4_iceAfter_80 : decode cX4_iceAfter 80 = .ok (.iaload, 1) := by decide +kernel
theorem dX4_iceAfter_81 : decode cX4_iceAfter 81 = .ok (.iadd, 1) := by decide +kernel
theorem dX4_iceAfter_82 : decode cX4_iceAfter 82 = .ok (.if_icmp .ge 18, 3) := by decide +kernel
theorem dX4_iceAfter_85 : decode cX4_iceAfter 85 = .ok (.aload_n 0, 1) := by decide +kernel
theorem dX4_iceAfter_86 : decode cX4_iceAfter 86 = .ok (.aload_n 0, 1) := by decide +kernel
theorem dX4_iceAfter_87 : decode cX4_iceAfter 87 = .ok (.getfield 38, 3) := by decide +kernel
theorem dX4_iceAfter_90 : decode cX4_iceAfter 90 = .ok (.iload_n 3, 1) := by decide +kernel
theorem dX4_iceAfter_91 : decode cX4_iceAfter 91 = .ok (.invokevirtual 61, 3) := by decide +kernel
theorem dX4_iceAfter_94 : decode cX4_iceAfter 94 = .ok (.iinc 3 1, 3) := by decide +kernel
theorem dX4_iceAfter_97 : decode cX4_iceAfter 97 = .ok (.goto (-37), 3) := by decide +kernel
theorem dX4_iceAfter_100 : decode cX4_iceAfter 100 = .ok (.iinc 2 1, 3) := by decide +kernel
theorem dX4_iceAfter_103 : decode cX4_iceAfter 103 = .ok (.goto (-65), 3) := by decide +kernel
theorem dX4_iceAfter_106 : decode cX4_iceAfter 106 = .ok (.aload_n 0, 1) := by decide +kernel
theorem dX4_iceAfter_107 : decode cX4_iceAfter 107 = .ok (.getfield 38, 3) := by decide +kernel
theorem dX4_iceAfter_110 : decode cX4_iceAfter 110 = .ok (.iconst 0, 1) := by decide +kernel
theorem dX4_iceAfter_111 : decode cX4_iceAfter 111 = .ok (.invokestatic 109, 3) := by decide +kernel
theorem dX4_iceAfter_114 : decode cX4_iceAfter 114 = .ok (.ireturn, 1) := by decide +kernel
set_option maxRecDepth 20000 in
theorem ggX4_all_X4_can : GoodIn wsX4_all wsX4_can := goodIn_r _ [10, 11, 12, 13, 14, 9, 15, 16, 17, 18, 19, 20, 21, 27, 28, 29, 30, 31, 32, 33, 34, 35, 36, 37, 38, 39] (by decide +kernel) (by decide +kernel)
set_option maxRecDepth 20000 in
theorem gX4_all_X4_can : GoodIn wsX4_all (wsV RX4 135 RX4 yX4_can wsX4_can) := goodIn_app (goodIn_of _ (by decide +kernel)) ggX4_all_X4_can
set_option maxRecDepth 20000 in
theorem ggX4_all_X4_from : GoodIn wsX4_all wsX4_from := goodIn_r _ [15, 16, 17, 18, 19, 9, 20, 21, 27, 28, 29, 30, 31, 32, 33, 34, 35, 36, 37, 38, 39] (by decide +kernel) (by decide +kernel)
set_option maxRecDepth 20000 in
theorem gX4_all_X4_from : GoodIn wsX4_all (wsV RX4 129 RX4 yX4_from wsX4_from) := goodIn_app (goodIn_of _ (by decide +kernel)) ggX4_all_X4_from
set_option maxRecDepth 20000 in
theorem ggX4_all_X4_cost : GoodIn wsX4_all wsX4_cost := goodIn_r _ [25, 26, 27, 28, 29, 30, 31, 32, 33, 34, 35, 36, 37, 38, 39] (by decide +kernel) (by decide +kernel)
set_option maxRecDepth 20000 in
theorem gX4_all_X4_cost : GoodIn wsX4_all (wsV RX4 138 RX4 yX4_cost wsX4_cost) := goodIn_app (goodIn_of _ (by decide +kernel)) ggX4_all_X4_cost
theorem dX4_all_0 : decode cX4_all 0 = .ok (.iconst 0, 1) := by decide +kernel
theorem dX4_all_1 : decode cX4_all 1 = .ok (.istore_n 2, 1) := by decide +kernel
theorem dX4_all_2 : decode cX4_all 2 = .ok (.iconst 0, 1) := by decide +kernel
theorem dX4_all_3 : decode cX4_all 3 = .ok (.istore_n 3, 1) := by decide +kernel
theorem dX4_all_4 : decode cX4_all 4 = .ok (.iload_n 3, 1) := by decide +kernel
theorem dX4_all_5 : decode cX4_all 5 = .ok (.aload_n 0, 1) := by decide +kernel
theorem dX4_all_6 : decode cX4_all 6 = .ok (.getfield 49, 3) := by decide +kernel
theorem dX4_all_9 : decode cX4_all 9 = .ok (.if_icmp .gt 47, 3) := by decide +kernel
theorem dX4_all_12 : decode cX4_all 12 = .ok (.aload_n 0, 1) := by decide +kernel
theorem dX4_all_13 : decode cX4_all 13 = .ok (.iload_n 3, 1) := by decide +kernel
theorem dX4_all_14 : decode cX4_all 14 = .ok (.invokevirtual 135, 3) := by decide +kernel
theorem dX4_all_17 : decode cX4_all 17 = .ok (.ifCond .eq 33, 3) := by decide +kernel
theorem dX4_all_20 : decode cX4_all 20 = .ok (.iload_n 2, 1) := by decide +kernel
theorem dX4_all_21 : decode cX4_all 21 = .ok (.aload_n 0, 1) := by decide +kernel
theorem dX4_all_22 : decode cX4_all 22 = .ok (.iload_n 1, 1) := by decide +kernel
theorem dX4_all_23 : decode cX4_all 23 = .ok (.iload_n 3, 1) := by decide +kernel
theorem dX4_all_24 : decode cX4_all 24 = .ok (.if_icmp .gt 15, 3) := by decide +kernel
theorem dX4_all_27 : decode cX4_all 27 = .ok (.iload_n 1, 1) := by decide +kernel
theorem dX4_all_28 : decode cX4_all 28 = .ok (.aload_n 0, 1) := by decide +kernel
theorem dX4_all_29 : decode cX4_all 29 = .ok (.iload_n 3, 1) := by decide +kernel
theorem dX4_all_30 : decode cX4_all 30 = .ok (.invokevirtual 129, 3) := by decide +kernel
theorem dX4_all_33 : decode cX4_all 33 = .ok (.invokestatic 58, 3) := by decide +kernel
theorem dX4_all_36 : decode cX4_all 36 = .ok (.goto 8, 3) := by decide +kernel
theorem dX4_all_39 : decode cX4_all 39 = .ok (.aload_n 0, 1) := by decide +kernel
theorem dX4_all_40 : decode cX4_all 40 = .ok (.iload_n 3, 1) := by decide +kernel
theorem dX4_all_41 : decode cX4_all 41 = .ok (.invokevirtual 129, 3) := by decide +kernel
theorem dX4_all_44 : decode cX4_all 44 = .ok (.iload_n 3, 1) := by decide +kernel
theorem dX4_all_45 : decode cX4_all 45 = .ok (.invokevirtual 138, 3) := by decide +kernel
theorem dX4_all_48 : decode cX4_all 48 = .ok (.iadd, 1) := by decide +kernel
theorem dX4_all_49 : decode cX4_all 49 = .ok (.istore_n 2, 1) := by decide +kernel
theorem dX4_all_50 : decode cX4_all 50 = .ok (.iinc 3 1, 3) := by decide +kernel
theorem dX4_all_53 : decode cX4_all 53 = .ok (.goto (-49), 3) := by decide +kernel
theorem dX4_all_56 : decode cX4_all 56 = .ok (.iload_n 2, 1) := by decide +kernel
theorem dX4_all_57 : decode cX4_all 57 = .ok (.ireturn, 1) := by decide +kernel
set_option maxRecDepth 20000 in
theorem ggX4_coreWanted_X4_all : GoodIn wsX4_coreWanted wsX4_all := goodIn_r _ [6, 1, 7, 8, 9, 10, 11, 12, 13, 5, 14, 15, 16, 17, 18, 19, 20, 21, 22, 23, 24, 25, 26, 27, 28, 29, 30, 31, 32, 33, 34, 35, 36, 37, 38, 39, 40, 41, 42, 43] (by decide +kernel) (by decide +kernel)
set_option maxRecDepth 20000 in
theorem gX4_coreWanted_X4_all : GoodIn wsX4_coreWanted (wsV RX4 147 RX4 yX4_all wsX4_all) := goodIn_app (goodIn_of _ (by decide +kernel)) ggX4_coreWanted_X4_all
set_option maxRecDepth 20000 in
theorem ggX4_coreWanted_X4_can : GoodIn wsX4_coreWanted wsX4_can := goodIn_r _ [14, 15, 16, 17, 18, 5, 19, 20, 21, 22, 23, 24, 25, 31, 32, 33, 34, 35, 36, 37, 38, 39, 40, 41, 42, 43] (by decide +kernel) (by decide +kernel)
set_option maxRecDepth 20000 in
theorem gX4_coreWanted_X4_can : GoodIn wsX4_coreWanted (wsV RX4 135 RX4 yX4_can wsX4_can) := goodIn_app (goodIn_of _ (by decide +kernel)) ggX4_coreWanted_X4_can
theorem dX4_coreWanted_0 : decode cX4_coreWanted 0 = .ok (.iconst (-1), 1) := by decide +kernel
theorem dX4_coreWanted_1 : decode cX4_coreWanted 1 = .ok (.istore_n 1, 1) := by decide +kernel
theorem dX4_coreWanted_2 : decode cX4_coreWanted 2 = .ok (.aload_n 0, 1) := by decide +kernel
theorem dX4_coreWanted_3 : decode cX4_coreWanted 3 = .ok (.iconst 0, 1) := by decide +kernel
theorem dX4_coreWanted_4 : decode cX4_coreWanted 4 = .ok (.invokevirtual 147, 3) := by decide +kernel
theorem dX4_coreWanted_7 : decode cX4_coreWanted 7 = .ok (.istore_n 2, 1) := by decide +kernel
theorem dX4_coreWanted_8 : decode cX4_coreWanted 8 = .ok (.iconst 1, 1) := by decide +kernel
theorem dX4_coreWanted_9 : decode cX4_coreWanted 9 = .ok (.istore_n 3, 1) := by decide +kernel
theorem dX4_coreWanted_10 : decode cX4_coreWanted 10 = .ok (.iload_n 3, 1) := by decide +kernel
theorem dX4_coreWanted_11 : decode cX4_coreWanted 11 = .ok (.aload_n 0, 1) := by decide +kernel
theorem dX4_coreWanted_12 : decode cX4_coreWanted 12 = .ok (.getfield 49, 3) := by decide +kernel
theorem dX4_coreWanted_15 : decode cX4_coreWanted 15 = .ok (.if_icmp .gt 37, 3) := by decide +kernel
theorem dX4_coreWanted_18 : decode cX4_coreWanted 18 = .ok (.aload_n 0, 1) := by decide +kernel
theorem dX4_coreWanted_19 : decode cX4_coreWanted 19 = .ok (.iload_n 3, 1) := by decide +kernel
theorem dX4_coreWanted_20 : decode cX4_coreWanted 20 = .ok (.invokevirtual 135, 3) := by decide +kernel
theorem dX4_coreWanted_23 : decode cX4_coreWanted 23 = .ok (.ifCond .eq 23, 3) := by decide +kernel
theorem dX4_coreWanted_26 : decode cX4_coreWanted 26 = .ok (.aload_n 0, 1) := by decide +kernel
theorem dX4_coreWanted_27 : decode cX4_coreWanted 27 = .ok (.iload_n 3, 1) := by decide +kernel
theorem dX4_coreWanted_28 : decode cX4_coreWanted 28 = .ok (.invokevirtual 147, 3) := by decide +kernel
theorem dX4_coreWanted_31 : decode cX4_coreWanted 31 = .ok (.iload_n 2, 1) := by decide +kernel
theorem dX4_coreWanted_32 : decode cX4_coreWanted 32 = .ok (.if_icmp .lt 6, 3) := by decide +kernel
theorem dX4_coreWanted_35 : decode cX4_coreWanted 35 = .ok (.goto 11, 3) := by decide +kernel
theorem dX4_coreWanted_38 : decode cX4_coreWanted 38 = .ok (.iload_n 3, 1) := by decide +kernel
theorem dX4_coreWanted_39 : decode cX4_coreWanted 39 = .ok (.istore_n 1, 1) := by decide +kernel
theorem dX4_coreWanted_40 : decode cX4_coreWanted 40 = .ok (.aload_n 0, 1) := by decide +kernel
theorem dX4_coreWanted_41 : decode cX4_coreWanted 41 = .ok (.iload_n 3, 1) := by decide +kernel
theorem dX4_coreWanted_42 : decode cX4_coreWanted 42 = .ok (.invokevirtual 147, 3) := by decide +kernel
theorem dX4_coreWanted_45 : decode cX4_coreWanted 45 = .ok (.istore_n 2, 1) := by decide +kernel
theorem dX4_coreWanted_46 : decode cX4_coreWanted 46 = .ok (.iinc 3 1, 3) := by decide +kernel
theorem dX4_coreWanted_49 : decode cX4_coreWanted 49 = .ok (.goto (-39), 3) := by decide +kernel
theorem dX4_coreWanted_52 : decode cX4_coreWanted 52 = .ok (.iload_n 1, 1) := by decide +kernel
theorem dX4_coreWanted_53 : decode cX4_coreWanted 53 = .ok (.ireturn, 1) := by decide +kernel
set_option maxRecDepth 20000 in
theorem ggX4_bestCore_X4_coreWanted : GoodIn wsX4_bestCore wsX4_coreWanted := goodIn_r _ [5, 6, 7, 8, 9, 4, 10, 11, 12, 13, 14, 15, 16, 17, 18, 19, 20, 21, 22, 23, 24, 25, 26, 27, 28, 29, 30, 31, 32, 33, 34, 40, 41, 42, 43, 44, 45, 46, 47, 48, 49, 50, 51, 52] (by decide +kernel) (by decide +kernel)
set_option maxRecDepth 20000 in
theorem gX4_bestCore_X4_coreWanted : GoodIn wsX4_bestCore (wsV RX4 150 RX4 yX4_coreWanted wsX4_coreWanted) := goodIn_app (goodIn_of _ (by decide +kernel)) ggX4_bestCore_X4_coreWanted
set_option maxRecDepth 20000 in
theorem ggX4_bestCore_X4_told : GoodIn wsX4_bestCore wsX4_told := goodIn_r _ [38, 39, 40, 41, 42, 43, 44, 45, 46, 47, 48, 49, 50, 51, 52] (by decide +kernel) (by decide +kernel)
set_option maxRecDepth 20000 in
theorem gX4_bestCore_X4_told : GoodIn wsX4_bestCore (wsV RX4 106 RX4 yX4_told wsX4_told) := goodIn_app (goodIn_of _ (by decide +kernel)) ggX4_bestCore_X4_told
theorem dX4_bestCore_0 : decode cX4_bestCore 0 = .ok (.aload_n 0, 1) := by decide +kernel
theorem dX4_bestCore_1 : decode cX4_bestCore 1 = .ok (.aload_n 0, 1) := by decide +kernel
theorem dX4_bestCore_2 : decode cX4_bestCore 2 = .ok (.invokevirtual 150, 3) := by decide +kernel
theorem dX4_bestCore_5 : decode cX4_bestCore 5 = .ok (.invokevirtual 106, 3) := by decide +kernel
theorem dX4_bestCore_8 : decode cX4_bestCore 8 = .ok (.ireturn, 1) := by decide +kernel
set_option maxRecDepth 20000 in
theorem ggX4_meanIce_X4_sum : GoodIn wsX4_meanIce wsX4_sum := goodIn_r _ [7] (by decide +kernel) (by decide +kernel)
set_option maxRecDepth 20000 in
theorem gX4_meanIce_X4_sum : GoodIn wsX4_meanIce (va_wsS RX4 109 yX4_sum wsX4_sum) := goodIn_app (goodIn_of _ (by decide +kernel)) ggX4_meanIce_X4_sum
theorem dX4_meanIce_0 : decode cX4_meanIce 0 = .ok (.aload_n 0, 1) := by decide +kernel
theorem dX4_meanIce_1 : decode cX4_meanIce 1 = .ok (.iconst 0, 1) := by decide +kernel
theorem dX4_meanIce_2 : decode cX4_meanIce 2 = .ok (.putfield 41, 3) := by decide +kernel
theorem dX4_meanIce_5 : decode cX4_meanIce 5 = .ok (.aload_n 0, 1) := by decide +kernel
theorem dX4_meanIce_6 : decode cX4_meanIce 6 = .ok (.getfield 9, 3) := by decide +kernel
theorem dX4_meanIce_9 : decode cX4_meanIce 9 = .ok (.iconst 0, 1) := by decide +kernel
theorem dX4_meanIce_10 : decode cX4_meanIce 10 = .ok (.invokestatic 109, 3) := by decide +kernel
theorem dX4_meanIce_13 : decode cX4_meanIce 13 = .ok (.i2d, 1) := by decide +kernel
theorem dX4_meanIce_14 : decode cX4_meanIce 14 = .ok (.ldc2_w 153, 3) := by decide +kernel
theorem dX4_meanIce_17 : decode cX4_meanIce 17 = .ok (.ddiv, 1) := by decide +kernel
theorem dX4_meanIce_18 : decode cX4_meanIce 18 = .ok (.dreturn, 1) := by decide +kernel
set_option maxRecDepth 20000 in
theorem ggX4_digest_X4_sum : GoodIn wsX4_digest wsX4_sum := goodIn_r _ [16] (by decide +kernel) (by decide +kernel)
set_option maxRecDepth 20000 in
theorem gX4_digest_X4_sum : GoodIn wsX4_digest (va_wsS RX4 109 yX4_sum wsX4_sum) := goodIn_app (goodIn_of _ (by decide +kernel)) ggX4_digest_X4_sum
set_option maxRecDepth 20000 in
theorem ggX4_digest_X4_thick : GoodIn wsX4_digest wsX4_thick := goodIn_r _ [20, 4, 80, 81, 82, 83, 84, 85, 86, 87, 88, 89, 90, 91, 92] (by decide +kernel) (by decide +kernel)
set_option maxRecDepth 20000 in
theorem gX4_digest_X4_thick : GoodIn wsX4_digest (wsV RX4 113 RX4 yX4_thick wsX4_thick) := goodIn_app (goodIn_of _ (by decide +kernel)) ggX4_digest_X4_thick
set_option maxRecDepth 20000 in
theorem ggX4_digest_X4_firstForged : GoodIn wsX4_digest wsX4_firstForged := goodIn_r _ [24, 3, 25, 26, 27, 15, 28, 10, 9, 29, 30, 31, 32, 5, 33, 34, 35, 80, 81, 82, 83, 84, 85, 86, 87, 88, 89, 90, 91, 92] (by decide +kernel) (by decide +kernel)
set_option maxRecDepth 20000 in
theorem gX4_digest_X4_firstForged : GoodIn wsX4_digest (wsV RX4 120 RX4 yX4_firstForged wsX4_firstForged) := goodIn_app (goodIn_of _ (by decide +kernel)) ggX4_digest_X4_firstForged
set_option maxRecDepth 20000 in
theorem ggX4_digest_X4_richest : GoodIn wsX4_digest wsX4_richest := goodIn_r _ [39, 3, 40, 41, 42, 43, 15, 44, 10, 45, 46, 47, 48, 11, 49, 50, 51, 52, 6, 53, 54, 55, 56, 12, 5, 57, 58, 59, 60, 34, 33, 35, 61, 62, 63, 64, 65, 66, 67, 13, 14, 16, 80, 81, 82, 83, 84, 85, 86, 87, 88, 89, 90, 91, 92] (by decide +kernel) (by decide +kernel)
set_option maxRecDepth 20000 in
theorem gX4_digest_X4_richest : GoodIn wsX4_digest (wsV RX4 144 RX4 yX4_richest wsX4_richest) := goodIn_app (goodIn_of _ (by decide +kernel)) ggX4_digest_X4_richest
set_option maxRecDepth 20000 in
theorem ggX4_digest_X4_coreWanted : GoodIn wsX4_digest wsX4_coreWanted := goodIn_r _ [71, 3, 72, 73, 74, 15, 75, 65, 66, 63, 67, 41, 42, 43, 44, 10, 45, 46, 47, 48, 11, 49, 50, 51, 52, 6, 76, 77, 78, 79, 5, 80, 81, 82, 83, 84, 85, 86, 87, 88, 89, 90, 91, 92] (by decide +kernel) (by decide +kernel)
set_option maxRecDepth 20000 in
theorem gX4_digest_X4_coreWanted : GoodIn wsX4_digest (wsV RX4 150 RX4 yX4_coreWanted wsX4_coreWanted) := goodIn_app (goodIn_of _ (by decide +kernel)) ggX4_digest_X4_coreWanted
set_option maxRecDepth 20000 in
theorem ggX4_digest_X4_isForged : GoodIn wsX4_digest wsX4_isForged := goodIn_r _ [28, 10, 9, 29, 30, 31, 15, 32, 5, 33, 34, 35, 80, 81, 82, 83, 84, 85, 86, 87, 88, 89, 90, 91, 92] (by decide +kernel) (by decide +kernel)
set_option maxRecDepth 20000 in
theorem gX4_digest_X4_isForged : GoodIn wsX4_digest (wsV RX4 117 RX4 yX4_isForged wsX4_isForged) := goodIn_app (goodIn_of _ (by decide +kernel)) ggX4_digest_X4_isForged
set_option maxRecDepth 20000 in
theorem ggX4_digest_X4_can : GoodIn wsX4_digest wsX4_can := goodIn_r _ [44, 10, 45, 46, 47, 15, 48, 11, 49, 50, 51, 52, 6, 80, 81, 82, 83, 84, 85, 86, 87, 88, 89, 90, 91, 92] (by decide +kernel) (by decide +kernel)
set_option maxRecDepth 20000 in
theorem gX4_digest_X4_can : GoodIn wsX4_digest (wsV RX4 135 RX4 yX4_can wsX4_can) := goodIn_app (goodIn_of _ (by decide +kernel)) ggX4_digest_X4_can
set_option maxRecDepth 20000 in
theorem ggX4_digest_X4_before : GoodIn wsX4_digest wsX4_before := goodIn_r _ [52, 6, 11, 80, 81, 82, 83, 84, 85, 86, 87, 88, 89, 90, 91, 92] (by decide +kernel) (by decide +kernel)
set_option maxRecDepth 20000 in
theorem gX4_digest_X4_before : GoodIn wsX4_digest (wsV RX4 126 RX4 yX4_before wsX4_before) := goodIn_app (goodIn_of _ (by decide +kernel)) ggX4_digest_X4_before
theorem dX4_digest_0 : decode cX4_digest 0 = .ok (.aload_n 0, 1) := by decide +kernel
theorem dX4_digest_1 : decode cX4_digest 1 = .ok (.iconst 0, 1) := by decide +kernel
theorem dX4_digest_2 : decode cX4_digest 2 = .ok (.putfield 41, 3) := by decide +kernel
theorem dX4_digest_5 : decode cX4_digest 5 = .ok (.bipush 8, 2) := by decide +kernel
theorem dX4_digest_7 : decode cX4_digest 7 = .ok (.newarray .int, 2) := by decide +kernel
theorem dX4_digest_9 : decode cX4_digest 9 = .ok (.dup, 1) := by decide +kernel
theorem dX4_digest_10 : decode cX4_digest 10 = .ok (.iconst 0, 1) := by decide +kernel
theorem dX4_digest_11 : decode cX4_digest 11 = .ok (.aload_n 0, 1) := by decide +kernel
theorem dX4_digest_12 : decode cX4_digest 12 = .ok (.getfield 49, 3) := by decide +kernel
theorem dX4_digest_15 : decode cX4_digest 15 = .ok (.iastore, 1) := by decide +kernel
theorem dX4_digest_16 : decode cX4_digest 16 = .ok (.dup, 1) := by decide +kernel
theorem dX4_digest_17 : decode cX4_digest 17 = .ok (.iconst 1, 1) := by decide +kernel
theorem dX4_digest_18 : decode cX4_digest 18 = .ok (.aload_n 0, 1) := by decide +kernel
theorem dX4_digest_19 : decode cX4_digest 19 = .ok (.getfield 9, 3) := by decide +kernel
theorem dX4_digest_22 : decode cX4_digest 22 = .ok (.iconst 0, 1) := by decide +kernel
theorem dX4_digest_23 : decode cX4_digest 23 = .ok (.invokestatic 109, 3) := by decide +kernel
theorem dX4_digest_26 : decode cX4_digest 26 = .ok (.iastore, 1) := by decide +kernel
theorem dX4_digest_27 : decode cX4_digest 27 = .ok (.dup, 1) := by decide +kernel
theorem dX4_digest_28 : decode cX4_digest 28 = .ok (.iconst 2, 1) := by decide +kernel
theorem dX4_digest_29 : decode cX4_digest 29 = .ok (.aload_n 0, 1) := by decide +kernel
theorem dX4_digest_30 : decode cX4_digest 30 = .ok (.invokevirtual 113, 3) := by decide +kernel
theorem dX4_digest_33 : decode cX4_digest 33 = .ok (.iastore, 1) := by decide +kernel
theorem dX4_digest_34 : decode cX4_digest 34 = .ok (.dup, 1) := by decide +kernel
theorem dX4_digest_35 : decode cX4_digest 35 = .ok (.iconst 3, 1) := by decide +kernel
theorem dX4_digest_36 : decode cX4_digest 36 = .ok (.aload_n 0, 1) := by decide +kernel
theorem dX4_digest_37 : decode cX4_digest 37 = .ok (.getfield 22, 3) := by decide +kernel
theorem dX4_digest_40 : decode cX4_digest 40 = .ok (.aload_n 0, 1) := by decide +kernel
theorem dX4_digest_41 : decode cX4_digest 41 = .ok (.getfield 49, 3) := by decide +kernel
theorem dX4_digest_44 : decode cX4_digest 44 = .ok (.iaload, 1) := by decide +kernel
theorem dX4_digest_45 : decode cX4_digest 45 = .ok (.iastore, 1) := by decide +kernel
theorem dX4_digest_46 : decode cX4_digest 46 = .ok (.dup, 1) := by decide +kernel
theorem dX4_digest_47 : decode cX4_digest 47 = .ok (.iconst 4, 1) := by decide +kernel
theorem dX4_digest_48 : decode cX4_digest 48 = .ok (.aload_n 0, 1) := by decide +kernel
theorem dX4_digest_49 : decode cX4_digest 49 = .ok (.invokevirtual 120, 3) := by decide +kernel
theorem dX4_digest_52 : decode cX4_digest 52 = .ok (.iastore, 1) := by decide +kernel
theorem dX4_digest_53 : decode cX4_digest 53 = .ok (.dup, 1) := by decide +kernel
theorem dX4_digest_54 : decode cX4_digest 54 = .ok (.iconst 5, 1) := by decide +kernel
theorem dX4_digest_55 : decode cX4_digest 55 = .ok (.aload_n 0, 1) := by decide +kernel
theorem dX4_digest_56 : decode cX4_digest 56 = .ok (.getfield 84, 3) := by decide +kernel
theorem dX4_digest_59 : decode cX4_digest 59 = .ok (.iastore, 1) := by decide +kernel
theorem dX4_digest_60 : decode cX4_digest 60 = .ok (.dup, 1) := by decide +kernel
theorem dX4_digest_61 : decode cX4_digest 61 = .ok (.bipush 6, 2) := by decide +kernel
theorem dX4_digest_63 : decode cX4_digest 63 = .ok (.aload_n 0, 1) := by decide +kernel
theorem dX4_digest_64 : decode cX4_digest 64 = .ok (.invokevirtual 144, 3) := by decide +kernel
theorem dX4_digest_67 : decode cX4_digest 67 = .ok (.iastore, 1) := by decide +kernel
theorem dX4_digest_68 : decode cX4_digest 68 = .ok (.dup, 1) := by decide +kernel
theorem dX4_digest_69 : decode cX4_digest 69 = .ok (.bipush 7, 2) := by decide +kernel
theorem dX4_digest_71 : decode cX4_digest 71 = .ok (.aload_n 0, 1) := by decide +kernel
theorem dX4_digest_72 : decode cX4_digest 72 = .ok (.invokevirtual 150, 3) := by decide +kernel
theorem dX4_digest_75 : decode cX4_digest 75 = .ok (.iastore, 1) := by decide +kernel
theorem dX4_digest_76 : decode cX4_digest 76 = .ok (.astore_n 1, 1) := by decide +kernel
theorem dX4_digest_77 : decode cX4_digest 77 = .ok (.ldc2_w 155, 3) := by decide +kernel
theorem dX4_digest_80 : decode cX4_digest 80 = .ok (.lstore_n 2, 1) := by decide +kernel
theorem dX4_digest_81 : decode cX4_digest 81 = .ok (.aload_n 1, 1) := by decide +kernel
theorem dX4_digest_82 : decode cX4_digest 82 = .ok (.astore 4, 2) := by decide +kernel
theorem dX4_digest_84 : decode cX4_digest 84 = .ok (.aload 4, 2) := by decide +kernel
theorem dX4_digest_86 : decode cX4_digest 86 = .ok (.arraylength, 1) := by decide +kernel
theorem dX4_digest_87 : decode cX4_digest 87 = .ok (.istore 5, 2) := by decide +kernel
theorem dX4_digest_89 : decode cX4_digest 89 = .ok (.iconst 0, 1) := by decide +kernel
theorem dX4_digest_90 : decode cX4_digest 90 = .ok (.istore 6, 2) := by decide +kernel
theorem dX4_digest_92 : decode cX4_digest 92 = .ok (.iload 6, 2) := by decide +kernel
theorem dX4_digest_94 : decode cX4_digest 94 = .ok (.iload 5, 2) := by decide +kernel
theorem dX4_digest_96 : decode cX4_digest 96 = .ok (.if_icmp .ge 26, 3) := by decide +kernel
theorem dX4_digest_99 : decode cX4_digest 99 = .ok (.aload 4, 2) := by decide +kernel
theorem dX4_digest_101 : decode cX4_digest 101 = .ok (.iload 6, 2) := by decide +kernel
theorem dX4_digest_103 : decode cX4_digest 103 = .ok (.iaload, 1) := by decide +kernel
theorem dX4_digest_104 : decode cX4_digest 104 = .ok (.istore 7, 2) := by decide +kernel
theorem dX4_digest_106 : decode cX4_digest 106 = .ok (.lload_n 2, 1) := by decide +kernel
theorem dX4_digest_107 : decode cX4_digest 107 = .ok (.ldc2_w 157, 3) := by decide +kernel
theorem dX4_digest_110 : decode cX4_digest 110 = .ok (.lmul, 1) := by decide +kernel
theorem dX4_digest_111 : decode cX4_digest 111 = .ok (.iload 7, 2) := by decide +kernel
theorem dX4_digest_113 : decode cX4_digest 113 = .ok (.i2l, 1) := by decide +kernel
theorem dX4_digest_114 : decode cX4_digest 114 = .ok (.ladd, 1) := by decide +kernel
theorem dX4_digest_115 : decode cX4_digest 115 = .ok (.lstore_n 2, 1) := by decide +kernel
theorem dX4_digest_116 : decode cX4_digest 116 = .ok (.iinc 6 1, 3) := by decide +kernel
theorem dX4_digest_119 : decode cX4_digest 119 = .ok (.goto (-27), 3) := by decide +kernel
theorem dX4_digest_122 : decode cX4_digest 122 = .ok (.iconst 0, 1) := by decide +kernel
theorem dX4_digest_123 : decode cX4_digest 123 = .ok (.istore 4, 2) := by decide +kernel
theorem dX4_digest_125 : decode cX4_digest 125 = .ok (.iload 4, 2) := by decide +kernel
theorem dX4_digest_127 : decode cX4_digest 127 = .ok (.bipush 8, 2) := by decide +kernel
theorem dX4_digest_129 : decode cX4_digest 129 = .ok (.if_icmp .ge 24, 3) := by decide +kernel
theorem dX4_digest_132 : decode cX4_digest 132 = .ok (.lload_n 2, 1) := by decide +kernel
theorem dX4_digest_133 : decode cX4_digest 133 = .ok (.ldc2_w 157, 3) := by decide +kernel
theorem dX4_digest_136 : decode cX4_digest 136 = .ok (.lmul, 1) := by decide +kernel
theorem dX4_digest_137 : decode cX4_digest 137 = .ok (.aload_n 0, 1) := by decide +kernel
theorem dX4_digest_138 : decode cX4_digest 138 = .ok (.getfield 9, 3) := by decide +kernel
theorem dX4_digest_141 : decode cX4_digest 141 = .ok (.iload 4, 2) := by decide +kernel
theorem dX4_digest_143 : decode cX4_digest 143 = .ok (.iaload, 1) := by decide +kernel
theorem dX4_digest_144 : decode cX4_digest 144 = .ok (.i2l, 1) := by decide +kernel
theorem dX4_digest_145 : decode cX4_digest 145 = .ok (.ladd, 1) := by decide +kernel
theorem dX4_digest_146 : decode cX4_digest 146 = .ok (.lstore_n 2, 1) := by decide +kernel
theorem dX4_digest_147 : decode cX4_digest 147 = .ok (.iinc 4 1, 3) := by decide +kernel
theorem dX4_digest_150 : decode cX4_digest 150 = .ok (.goto (-25), 3) := by decide +kernel
theorem dX4_digest_153 : decode cX4_digest 153 = .ok (.iconst 0, 1) := by decide +kernel
theorem dX4_digest_154 : decode cX4_digest 154 = .ok (.istore 4, 2) := by decide +kernel
theorem dX4_digest_156 : decode cX4_digest 156 = .ok (.iload 4, 2) := by decide +kernel
theorem dX4_digest_158 : decode cX4_digest 158 = .ok (.aload_n 0, 1) := by decide +kernel
theorem dX4_digest_159 : decode cX4_digest 159 = .ok (.getfield 49, 3) := by decide +kernel
theorem dX4_digest_162 : decode cX4_digest 162 = .ok (.if_icmp .ge 111, 3) := by decide +kernel
theorem dX4_digest_165 : decode cX4_digest 165 = .ok (.iconst 4, 1) := by decide +kernel
theorem dX4_digest_166 : decode cX4_digest 166 = .ok (.newarray .int, 2) := by decide +kernel
theorem dX4_digest_168 : decode cX4_digest 168 = .ok (.dup, 1) := by decide +kernel
theorem dX4_digest_169 : decode cX4_digest 169 = .ok (.iconst 0, 1) := by decide +kernel
theorem dX4_digest_170 : decode cX4_digest 170 = .ok (.aload_n 0, 1) := by decide +kernel
theorem dX4_digest_171 : decode cX4_digest 171 = .ok (.getfield 22, 3) := by decide +kernel
theorem dX4_digest_174 : decode cX4_digest 174 = .ok (.iload 4, 2) := by decide +kernel
theorem dX4_digest_176 : decode cX4_digest 176 = .ok (.iaload, 1) := by decide +kernel
theorem dX4_digest_177 : decode cX4_digest 177 = .ok (.iastore, 1) := by decide +kernel
theorem dX4_digest_178 : decode cX4_digest 178 = .ok (.dup, 1) := by decide +kernel
theorem dX4_digest_179 : decode cX4_digest 179 = .ok (.iconst 1, 1) := by decide +kernel
theorem dX4_digest_180 : decode cX4_digest 180 = .ok (.aload_n 0, 1) := by decide +kernel
theorem dX4_digest_181 : decode cX4_digest 181 = .ok (.getfield 25, 3) := by decide +kernel
theorem dX4_digest_184 : decode cX4_digest 184 = .ok (.iload 4, 2) := by decide +kernel
theorem dX4_digest_186 : decode cX4_digest 186 = .ok (.iaload, 1) := by decide +kernel
theorem dX4_digest_187 : decode cX4_digest 187 = .ok (.iastore, 1) := by decide +kernel
theorem dX4_digest_188 : decode cX4_digest 188 = .ok (.dup, 1) := by decide +kernel
theorem dX4_digest_189 : decode cX4_digest 189 = .ok (.iconst 2, 1) := by decide +kernel
theorem dX4_digest_190 : decode cX4_digest 190 = .ok (.aload_n 0, 1) := by decide +kernel
theorem dX4_digest_191 : decode cX4_digest 191 = .ok (.getfield 28, 3) := by decide +kernel
theorem dX4_digest_194 : decode cX4_digest 194 = .ok (.iload 4, 2) := by decide +kernel
theorem dX4_digest_196 : decode cX4_digest 196 = .ok (.baload, 1) := by decide +kernel
theorem dX4_digest_197 : decode cX4_digest 197 = .ok (.ifCond .eq 7, 3) := by decide +kernel
theorem dX4_digest_200 : decode cX4_digest 200 = .ok (.iconst 1, 1) := by decide +kernel
theorem dX4_digest_201 : decode cX4_digest 201 = .ok (.goto 4, 3) := by decide +kernel
theorem dX4_digest_204 : decode cX4_digest 204 = .ok (.iconst 0, 1) := by decide +kernel
theorem dX4_digest_205 : decode cX4_digest 205 = .ok (.iastore, 1) := by decide +kernel
theorem dX4_digest_206 : decode cX4_digest 206 = .ok (.dup, 1) := by decide +kernel
theorem dX4_digest_207 : decode cX4_digest 207 = .ok (.iconst 3, 1) := by decide +kernel
theorem dX4_digest_208 : decode cX4_digest 208 = .ok (.aload_n 0, 1) := by decide +kernel
theorem dX4_digest_209 : decode cX4_digest 209 = .ok (.iload 4, 2) := by decide +kernel
theorem dX4_digest_211 : decode cX4_digest 211 = .ok (.invokevirtual 117, 3) := by decide +kernel
theorem dX4_digest_214 : decode cX4_digest 214 = .ok (.ifCond .eq 7, 3) := by decide +kernel
theorem dX4_digest_217 : decode cX4_digest 217 = .ok (.iconst 1, 1) := by decide +kernel
theorem dX4_digest_218 : decode cX4_digest 218 = .ok (.goto 4, 3) := by decide +kernel
theorem dX4_digest_221 : decode cX4_digest 221 = .ok (.iconst 0, 1) := by decide +kernel
theorem dX4_digest_222 : decode cX4_digest 222 = .ok (.iastore, 1) := by decide +kernel
theorem dX4_digest_223 : decode cX4_digest 223 = .ok (.astore 5, 2) := by decide +kernel
theorem dX4_digest_225 : decode cX4_digest 225 = .ok (.aload 5, 2) := by decide +kernel
theorem dX4_digest_227 : decode cX4_digest 227 = .ok (.astore 6, 2) := by decide +kernel
theorem dX4_digest_229 : decode cX4_digest 229 = .ok (.aload 6, 2) := by decide +kernel
theorem dX4_digest_231 : decode cX4_digest 231 = .ok (.arraylength, 1) := by decide +kernel
theorem dX4_digest_232 : decode cX4_digest 232 = .ok (.istore 7, 2) := by decide +kernel
theorem dX4_digest_234 : decode cX4_digest 234 = .ok (.iconst 0, 1) := by decide +kernel
theorem dX4_digest_235 : decode cX4_digest 235 = .ok (.istore 8, 2) := by decide +kernel
theorem dX4_digest_237 : decode cX4_digest 237 = .ok (.iload 8, 2) := by decide +kernel
theorem dX4_digest_239 : decode cX4_digest 239 = .ok (.iload 7, 2) := by decide +kernel
theorem dX4_digest_241 : decode cX4_digest 241 = .ok (.if_icmp .ge 26, 3) := by decide +kernel
theorem dX4_digest_244 : decode cX4_digest 244 = .ok (.aload 6, 2) := by decide +kernel
theorem dX4_digest_246 : decode cX4_digest 246 = .ok (.iload 8, 2) := by decide +kernel
theorem dX4_digest_248 : decode cX4_digest 248 = .ok (.iaload, 1) := by decide +kernel
theorem dX4_digest_249 : decode cX4_digest 249 = .ok (.istore 9, 2) := by decide +kernel
theorem dX4_digest_251 : decode cX4_digest 251 = .ok (.lload_n 2, 1) := by decide +kernel
theorem dX4_digest_252 : decode cX4_digest 252 = .ok (.ldc2_w 157, 3) := by decide +kernel
theorem dX4_digest_255 : decode cX4_digest 255 = .ok (.lmul, 1) := by decide +kernel
theorem dX4_digest_256 : decode cX4_digest 256 = .ok (.iload 9, 2) := by decide +kernel
theorem dX4_digest_258 : decode cX4_digest 258 = .ok (.i2l, 1) := by decide +kernel
theorem dX4_digest_259 : decode cX4_digest 259 = .ok (.ladd, 1) := by decide +kernel
theorem dX4_digest_260 : decode cX4_digest 260 = .ok (.lstore_n 2, 1) := by decide +kernel
theorem dX4_digest_261 : decode cX4_digest 261 = .ok (.iinc 8 1, 3) := by decide +kernel
theorem dX4_digest_264 : decode cX4_digest 264 = .ok (.goto (-27), 3) := by decide +kernel
theorem dX4_digest_267 : decode cX4_digest 267 = .ok (.iinc 4 1, 3) := by decide +kernel
theorem dX4_digest_270 : decode cX4_digest 270 = .ok (.goto (-114), 3) := by decide +kernel
theorem dX4_digest_273 : decode cX4_digest 273 = .ok (.iconst 0, 1) := by decide +kernel
theorem dX4_digest_274 : decode cX4_digest 274 = .ok (.istore 4, 2) := by decide +kernel
theorem dX4_digest_276 : decode cX4_digest 276 = .ok (.iload 4, 2) := by decide +kernel
theorem dX4_digest_278 : decode cX4_digest 278 = .ok (.aload_n 0, 1) := by decide +kernel
theorem dX4_digest_279 : decode cX4_digest 279 = .ok (.getfield 84, 3) := by decide +kernel
theorem dX4_digest_282 : decode cX4_digest 282 = .ok (.if_icmp .ge 44, 3) := by decide +kernel
theorem dX4_digest_285 : decode cX4_digest 285 = .ok (.lload_n 2, 1) := by decide +kernel
theorem dX4_digest_286 : decode cX4_digest 286 = .ok (.ldc2_w 157, 3) := by decide +kernel
theorem dX4_digest_289 : decode cX4_digest 289 = .ok (.lmul, 1) := by decide +kernel
theorem dX4_digest_290 : decode cX4_digest 290 = .ok (.aload_n 0, 1) := by decide +kernel
theorem dX4_digest_291 : decode cX4_digest 291 = .ok (.getfield 32, 3) := by decide +kernel
theorem dX4_digest_294 : decode cX4_digest 294 = .ok (.iload 4, 2) := by decide +kernel
theorem dX4_digest_296 : decode cX4_digest 296 = .ok (.iaload, 1) := by decide +kernel
theorem dX4_digest_297 : decode cX4_digest 297 = .ok (.i2l, 1) := by decide +kernel
theorem dX4_digest_298 : decode cX4_digest 298 = .ok (.ladd, 1) := by decide +kernel
theorem dX4_digest_299 : decode cX4_digest 299 = .ok (.lstore_n 2, 1) := by decide +kernel
theorem dX4_digest_300 : decode cX4_digest 300 = .ok (.lload_n 2, 1) := by decide +kernel
theorem dX4_digest_301 : decode cX4_digest 301 = .ok (.ldc2_w 157, 3) := by decide +kernel
theorem dX4_digest_304 : decode cX4_digest 304 = .ok (.lmul, 1) := by decide +kernel
theorem dX4_digest_305 : decode cX4_digest 305 = .ok (.aload_n 0, 1) := by decide +kernel
theorem dX4_digest_306 : decode cX4_digest 306 = .ok (.getfield 35, 3) := by decide +kernel
theorem dX4_digest_309 : decode cX4_digest 309 = .ok (.bipush 8, 2) := by decide +kernel
theorem dX4_digest_311 : decode cX4_digest 311 = .ok (.iload 4, 2) := by decide +kernel
theorem dX4_digest_313 : decode cX4_digest 313 = .ok (.imul, 1) := by decide +kernel
theorem dX4_digest_314 : decode cX4_digest 314 = .ok (.invokestatic 109, 3) := by decide +kernel
theorem dX4_digest_317 : decode cX4_digest 317 = .ok (.i2l, 1) := by decide +kernel
theorem dX4_digest_318 : decode cX4_digest 318 = .ok (.ladd, 1) := by decide +kernel
theorem dX4_digest_319 : decode cX4_digest 319 = .ok (.lstore_n 2, 1) := by decide +kernel
theorem dX4_digest_320 : decode cX4_digest 320 = .ok (.iinc 4 1, 3) := by decide +kernel
theorem dX4_digest_323 : decode cX4_digest 323 = .ok (.goto (-47), 3) := by decide +kernel
theorem dX4_digest_326 : decode cX4_digest 326 = .ok (.iconst 0, 1) := by decide +kernel
theorem dX4_digest_327 : decode cX4_digest 327 = .ok (.istore 4, 2) := by decide +kernel
theorem dX4_digest_329 : decode cX4_digest 329 = .ok (.iload 4, 2) := by decide +kernel
theorem dX4_digest_331 : decode cX4_digest 331 = .ok (.aload_n 0, 1) := by decide +kernel
theorem dX4_digest_332 : decode cX4_digest 332 = .ok (.getfield 49, 3) := by decide +kernel
theorem dX4_digest_335 : decode cX4_digest 335 = .ok (.if_icmp .gt 63, 3) := by decide +kernel
theorem dX4_digest_338 : decode cX4_digest 338 = .ok (.lload_n 2, 1) := by decide +kernel
theorem dX4_digest_339 : decode cX4_digest 339 = .ok (.ldc2_w 157, 3) := by decide +kernel
theorem dX4_digest_342 : decode cX4_digest 342 = .ok (.lmul, 1) := by decide +kernel
theorem dX4_digest_343 : decode cX4_digest 343 = .ok (.aload_n 0, 1) := by decide +kernel
theorem dX4_digest_344 : decode cX4_digest 344 = .ok (.iload 4, 2) := by decide +kernel
theorem dX4_digest_346 : decode cX4_digest 346 = .ok (.invokevirtual 135, 3) := by decide +kernel
theorem dX4_digest_349 : decode cX4_digest 349 = .ok (.ifCond .eq 7, 3) := by decide +kernel
theorem dX4_digest_352 : decode cX4_digest 352 = .ok (.iconst 1, 1) := by decide +kernel
theorem dX4_digest_353 : decode cX4_digest 353 = .ok (.goto 4, 3) := by decide +kernel
theorem dX4_digest_356 : decode cX4_digest 356 = .ok (.iconst 0, 1) := by decide +kernel
theorem dX4_digest_357 : decode cX4_digest 357 = .ok (.i2l, 1) := by decide +kernel
theorem dX4_digest_358 : decode cX4_digest 358 = .ok (.ladd, 1) := by decide +kernel
theorem dX4_digest_359 : decode cX4_digest 359 = .ok (.lstore_n 2, 1) := by decide +kernel
theorem dX4_digest_360 : decode cX4_digest 360 = .ok (.lload_n 2, 1) := by decide +kernel
theorem dX4_digest_361 : decode cX4_digest 361 = .ok (.ldc2_w 157, 3) := by decide +kernel
theorem dX4_digest_364 : decode cX4_digest 364 = .ok (.lmul, 1) := by decide +kernel
theorem dX4_digest_365 : decode cX4_digest 365 = .ok (.aload_n 0, 1) := by decide +kernel
theorem dX4_digest_366 : decode cX4_digest 366 = .ok (.iload 4, 2) := by decide +kernel
theorem dX4_digest_368 : decode cX4_digest 368 = .ok (.invokevirtual 126, 3) := by decide +kernel
theorem dX4_digest_371 : decode cX4_digest 371 = .ok (.ifCond .ge 7, 3) := by decide +kernel
theorem dX4_digest_374 : decode cX4_digest 374 = .ok (.iconst (-1), 1) := by decide +kernel
theorem dX4_digest_375 : decode cX4_digest 375 = .ok (.goto 14, 3) := by decide +kernel
theorem dX4_digest_378 : decode cX4_digest 378 = .ok (.aload_n 0, 1) := by decide +kernel
theorem dX4_digest_379 : decode cX4_digest 379 = .ok (.getfield 32, 3) := by decide +kernel
theorem dX4_digest_382 : decode cX4_digest 382 = .ok (.aload_n 0, 1) := by decide +kernel
theorem dX4_digest_383 : decode cX4_digest 383 = .ok (.iload 4, 2) := by decide +kernel
theorem dX4_digest_385 : decode cX4_digest 385 = .ok (.invokevirtual 126, 3) := by decide +kernel
theorem dX4_digest_388 : decode cX4_digest 388 = .ok (.iaload, 1) := by decide +kernel
theorem dX4_digest_389 : decode cX4_digest 389 = .ok (.i2l, 1) := by decide +kernel
theorem dX4_digest_390 : decode cX4_digest 390 = .ok (.ladd, 1) := by decide +kernel
theorem dX4_digest_391 : decode cX4_digest 391 = .ok (.lstore_n 2, 1) := by decide +kernel
theorem dX4_digest_392 : decode cX4_digest 392 = .ok (.iinc 4 1, 3) := by decide +kernel
theorem dX4_digest_395 : decode cX4_digest 395 = .ok (.goto (-66), 3) := by decide +kernel
theorem dX4_digest_398 : decode cX4_digest 398 = .ok (.lload_n 2, 1) := by decide +kernel
theorem dX4_digest_399 : decode cX4_digest 399 = .ok (.lreturn, 1) := by decide +kernel
theorem dJ9_max_7cf53_0 : decode cJ9_max_7cf53 0 = .ok (.iload_n 0, 1) := by decide +kernel
theorem dJ9_max_7cf53_1 : decode cJ9_max_7cf53 1 = .ok (.iload_n 1, 1) := by decide +kernel
theorem dJ9_max_7cf53_2 : decode cJ9_max_7cf53 2 = .ok (.if_icmp .lt 7, 3) := by decide +kernel
theorem dJ9_max_7cf53_5 : decode cJ9_max_7cf53 5 = .ok (.iload_n 0, 1) := by decide +kernel
theorem dJ9_max_7cf53_6 : decode cJ9_max_7cf53 6 = .ok (.goto 4, 3) := by decide +kernel
theorem dJ9_max_7cf53_9 : decode cJ9_max_7cf53 9 = .ok (.iload_n 1, 1) := by decide +kernel
theorem dJ9_max_7cf53_10 : decode cJ9_max_7cf53 10 = .ok (.ireturn, 1) := by decide +kernel
theorem dJ9_min_7cf53_0 : decode cJ9_min_7cf53 0 = .ok (.iload_n 0, 1) := by decide +kernel
theorem dJ9_min_7cf53_1 : decode cJ9_min_7cf53 1 = .ok (.iload_n 1, 1) := by decide +kernel
theorem dJ9_min_7cf53_2 : decode cJ9_min_7cf53 2 = .ok (.if_icmp .gt 7, 3) := by decide +kernel
theorem dJ9_min_7cf53_5 : decode cJ9_min_7cf53 5 = .ok (.iload_n 0, 1) := by decide +kernel
theorem dJ9_min_7cf53_6 : decode cJ9_min_7cf53 6 = .ok (.goto 4, 3) := by decide +kernel
theorem dJ9_min_7cf53_9 : decode cJ9_min_7cf53 9 = .ok (.iload_n 1, 1) := by decide +kernel
theorem dJ9_min_7cf53_10 : decode cJ9_min_7cf53 10 = .ok (.ireturn, 1) := by decide +kernel
set_option maxRecDepth 20000 in
theorem ggL_snow_X3_snow : GoodIn wsL_snow wsX3_snow := goodIn_ca (goodIn_ca (goodIn_ca (goodIn_r _ [8, 9, 10, 7, 11, 12, 13, 14, 15, 16, 17, 18, 19, 20, 21, 22, 23, 24, 25, 26, 27, 28, 29, 30, 31, 32, 33, 34, 35, 36, 37, 38, 39, 40, 41, 42, 43, 44, 45, 46, 47, 48, 49, 50, 51, 52, 53, 54, 55, 56, 57, 58, 59, 60, 61, 62, 63, 64, 65, 66, 67, 68, 69, 70, 71, 72, 73, 74, 75, 76, 77, 78, 79, 80, 81, 82, 83, 84, 85, 86, 87, 88, 89, 90, 91, 92, 93, 94, 95, 96, 97, 98, 99, 100] (by decide +kernel) (by decide +kernel)) (goodIn_sub (fun _ h => List.mem_cons_of_mem _ (List.mem_append_left _ (List.mem_append_left _ (List.mem_append_right _ h)))) (by decide +kernel))) (goodIn_sub (fun _ h => List.mem_cons_of_mem _ (List.mem_append_left _ (List.mem_append_right _ h))) (by decide +kernel))) (goodIn_sub (fun _ h => List.mem_cons_of_mem _ (List.mem_append_right _ h)) (by decide +kernel))
set_option maxRecDepth 20000 in
theorem gL_snow_X3_snow : GoodIn wsL_snow (wsV RL 7 RX3 yX3_snow wsX3_snow) := goodIn_app (goodIn_of _ (by decide +kernel)) ggL_snow_X3_snow
