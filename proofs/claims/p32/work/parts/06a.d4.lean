theorem dX4_init_0 : decode cX4_init 0 = .ok (.aload_n 0, 1) := by decide +kernel
theorem dX4_init_1 : decode cX4_init 1 = .ok (.invokespecial 1, 3) := by decide +kernel
theorem dX4_init_4 : decode cX4_init 4 = .ok (.aload_n 0, 1) := by decide +kernel
theorem dX4_init_5 : decode cX4_init 5 = .ok (.bipush 8, 2) := by decide +kernel
theorem dX4_init_7 : decode cX4_init 7 = .ok (.newarray .int, 2) := by decide +kernel
theorem dX4_init_9 : decode cX4_init 9 = .ok (.putfield 7, 3) := by decide +kernel
theorem dX4_init_12 : decode cX4_init 12 = .ok (.aload_n 0, 1) := by decide +kernel
theorem dX4_init_13 : decode cX4_init 13 = .ok (.iconst 0, 1) := by decide +kernel
theorem dX4_init_14 : decode cX4_init 14 = .ok (.newarray .int, 2) := by decide +kernel
theorem dX4_init_16 : decode cX4_init 16 = .ok (.putfield 13, 3) := by decide +kernel
theorem dX4_init_19 : decode cX4_init 19 = .ok (.aload_n 0, 1) := by decide +kernel
theorem dX4_init_20 : decode cX4_init 20 = .ok (.iconst 0, 1) := by decide +kernel
theorem dX4_init_21 : decode cX4_init 21 = .ok (.anewarray 16, 3) := by decide +kernel
theorem dX4_init_24 : decode cX4_init 24 = .ok (.putfield 17, 3) := by decide +kernel
theorem dX4_init_27 : decode cX4_init 27 = .ok (.aload_n 0, 1) := by decide +kernel
theorem dX4_init_28 : decode cX4_init 28 = .ok (.iconst 0, 1) := by decide +kernel
theorem dX4_init_29 : decode cX4_init 29 = .ok (.anewarray 16, 3) := by decide +kernel
theorem dX4_init_32 : decode cX4_init 32 = .ok (.putfield 21, 3) := by decide +kernel
theorem dX4_init_35 : decode cX4_init 35 = .ok (.return_, 1) := by decide +kernel
theorem dX4_with_0 : decode cX4_with 0 = .ok (.aload_n 0, 1) := by decide +kernel
theorem dX4_with_1 : decode cX4_with 1 = .ok (.arraylength, 1) := by decide +kernel
theorem dX4_with_2 : decode cX4_with 2 = .ok (.iconst 3, 1) := by decide +kernel
theorem dX4_with_3 : decode cX4_with 3 = .ok (.iadd, 1) := by decide +kernel
theorem dX4_with_4 : decode cX4_with 4 = .ok (.newarray .int, 2) := by decide +kernel
theorem dX4_with_6 : decode cX4_with 6 = .ok (.astore 4, 2) := by decide +kernel
theorem dX4_with_8 : decode cX4_with 8 = .ok (.iconst 0, 1) := by decide +kernel
theorem dX4_with_9 : decode cX4_with 9 = .ok (.istore 5, 2) := by decide +kernel
theorem dX4_with_11 : decode cX4_with 11 = .ok (.iload 5, 2) := by decide +kernel
theorem dX4_with_13 : decode cX4_with 13 = .ok (.aload_n 0, 1) := by decide +kernel
theorem dX4_with_14 : decode cX4_with 14 = .ok (.arraylength, 1) := by decide +kernel
theorem dX4_with_15 : decode cX4_with 15 = .ok (.if_icmp .ge 18, 3) := by decide +kernel
theorem dX4_with_18 : decode cX4_with 18 = .ok (.aload 4, 2) := by decide +kernel
theorem dX4_with_20 : decode cX4_with 20 = .ok (.iload 5, 2) := by decide +kernel
theorem dX4_with_22 : decode cX4_with 22 = .ok (.aload_n 0, 1) := by decide +kernel
theorem dX4_with_23 : decode cX4_with 23 = .ok (.iload 5, 2) := by decide +kernel
theorem dX4_with_25 : decode cX4_with 25 = .ok (.iaload, 1) := by decide +kernel
theorem dX4_with_26 : decode cX4_with 26 = .ok (.iastore, 1) := by decide +kernel
theorem dX4_with_27 : decode cX4_with 27 = .ok (.iinc 5 1, 3) := by decide +kernel
theorem dX4_with_30 : decode cX4_with 30 = .ok (.goto (-19), 3) := by decide +kernel
theorem dX4_with_33 : decode cX4_with 33 = .ok (.aload 4, 2) := by decide +kernel
theorem dX4_with_35 : decode cX4_with 35 = .ok (.aload_n 0, 1) := by decide +kernel
theorem dX4_with_36 : decode cX4_with 36 = .ok (.arraylength, 1) := by decide +kernel
theorem dX4_with_37 : decode cX4_with 37 = .ok (.iload_n 1, 1) := by decide +kernel
theorem dX4_with_38 : decode cX4_with 38 = .ok (.iastore, 1) := by decide +kernel
theorem dX4_with_39 : decode cX4_with 39 = .ok (.aload 4, 2) := by decide +kernel
theorem dX4_with_41 : decode cX4_with 41 = .ok (.aload_n 0, 1) := by decide +kernel
theorem dX4_with_42 : decode cX4_with 42 = .ok (.arraylength, 1) := by decide +kernel
theorem dX4_with_43 : decode cX4_with 43 = .ok (.iconst 1, 1) := by decide +kernel
theorem dX4_with_44 : decode cX4_with 44 = .ok (.iadd, 1) := by decide +kernel
theorem dX4_with_45 : decode cX4_with 45 = .ok (.iload_n 2, 1) := by decide +kernel
theorem dX4_with_46 : decode cX4_with 46 = .ok (.iastore, 1) := by decide +kernel
theorem dX4_with_47 : decode cX4_with 47 = .ok (.aload 4, 2) := by decide +kernel
theorem dX4_with_49 : decode cX4_with 49 = .ok (.aload_n 0, 1) := by decide +kernel
theorem dX4_with_50 : decode cX4_with 50 = .ok (.arraylength, 1) := by decide +kernel
theorem dX4_with_51 : decode cX4_with 51 = .ok (.iconst 2, 1) := by decide +kernel
theorem dX4_with_52 : decode cX4_with 52 = .ok (.iadd, 1) := by decide +kernel
theorem dX4_with_53 : decode cX4_with 53 = .ok (.iload_n 3, 1) := by decide +kernel
theorem dX4_with_54 : decode cX4_with 54 = .ok (.iastore, 1) := by decide +kernel
theorem dX4_with_55 : decode cX4_with 55 = .ok (.aload 4, 2) := by decide +kernel
theorem dX4_with_57 : decode cX4_with 57 = .ok (.areturn, 1) := by decide +kernel
theorem dX4_with__0 : decode cX4_with_ 0 = .ok (.aload_n 0, 1) := by decide +kernel
theorem dX4_with__1 : decode cX4_with_ 1 = .ok (.arraylength, 1) := by decide +kernel
theorem dX4_with__2 : decode cX4_with_ 2 = .ok (.iconst 1, 1) := by decide +kernel
theorem dX4_with__3 : decode cX4_with_ 3 = .ok (.iadd, 1) := by decide +kernel
theorem dX4_with__4 : decode cX4_with_ 4 = .ok (.anewarray 16, 3) := by decide +kernel
theorem dX4_with__7 : decode cX4_with_ 7 = .ok (.astore_n 2, 1) := by decide +kernel
theorem dX4_with__8 : decode cX4_with_ 8 = .ok (.iconst 0, 1) := by decide +kernel
theorem dX4_with__9 : decode cX4_with_ 9 = .ok (.istore_n 3, 1) := by decide +kernel
theorem dX4_with__10 : decode cX4_with_ 10 = .ok (.iload_n 3, 1) := by decide +kernel
theorem dX4_with__11 : decode cX4_with_ 11 = .ok (.aload_n 0, 1) := by decide +kernel
theorem dX4_with__12 : decode cX4_with_ 12 = .ok (.arraylength, 1) := by decide +kernel
theorem dX4_with__13 : decode cX4_with_ 13 = .ok (.if_icmp .ge 15, 3) := by decide +kernel
theorem dX4_with__16 : decode cX4_with_ 16 = .ok (.aload_n 2, 1) := by decide +kernel
theorem dX4_with__17 : decode cX4_with_ 17 = .ok (.iload_n 3, 1) := by decide +kernel
theorem dX4_with__18 : decode cX4_with_ 18 = .ok (.aload_n 0, 1) := by decide +kernel
theorem dX4_with__19 : decode cX4_with_ 19 = .ok (.iload_n 3, 1) := by decide +kernel
theorem dX4_with__20 : decode cX4_with_ 20 = .ok (.aaload, 1) := by decide +kernel
theorem dX4_with__21 : decode cX4_with_ 21 = .ok (.aastore, 1) := by decide +kernel
theorem dX4_with__22 : decode cX4_with_ 22 = .ok (.iinc 3 1, 3) := by decide +kernel
theorem dX4_with__25 : decode cX4_with_ 25 = .ok (.goto (-15), 3) := by decide +kernel
theorem dX4_with__28 : decode cX4_with_ 28 = .ok (.aload_n 2, 1) := by decide +kernel
theorem dX4_with__29 : decode cX4_with_ 29 = .ok (.aload_n 0, 1) := by decide +kernel
theorem dX4_with__30 : decode cX4_with_ 30 = .ok (.arraylength, 1) := by decide +kernel
theorem dX4_with__31 : decode cX4_with_ 31 = .ok (.aload_n 1, 1) := by decide +kernel
theorem dX4_with__32 : decode cX4_with_ 32 = .ok (.aastore, 1) := by decide +kernel
theorem dX4_with__33 : decode cX4_with_ 33 = .ok (.aload_n 2, 1) := by decide +kernel
theorem dX4_with__34 : decode cX4_with_ 34 = .ok (.areturn, 1) := by decide +kernel
theorem dX4_without_0 : decode cX4_without 0 = .ok (.aload_n 0, 1) := by decide +kernel
theorem dX4_without_1 : decode cX4_without 1 = .ok (.arraylength, 1) := by decide +kernel
theorem dX4_without_2 : decode cX4_without 2 = .ok (.iconst 1, 1) := by decide +kernel
theorem dX4_without_3 : decode cX4_without 3 = .ok (.isub, 1) := by decide +kernel
theorem dX4_without_4 : decode cX4_without 4 = .ok (.anewarray 16, 3) := by decide +kernel
theorem dX4_without_7 : decode cX4_without 7 = .ok (.astore_n 2, 1) := by decide +kernel
theorem dX4_without_8 : decode cX4_without 8 = .ok (.iconst 0, 1) := by decide +kernel
theorem dX4_without_9 : decode cX4_without 9 = .ok (.istore_n 3, 1) := by decide +kernel
theorem dX4_without_10 : decode cX4_without 10 = .ok (.iload_n 3, 1) := by decide +kernel
theorem dX4_without_11 : decode cX4_without 11 = .ok (.aload_n 2, 1) := by decide +kernel
theorem dX4_without_12 : decode cX4_without 12 = .ok (.arraylength, 1) := by decide +kernel
theorem dX4_without_13 : decode cX4_without 13 = .ok (.if_icmp .ge 26, 3) := by decide +kernel
theorem dX4_without_16 : decode cX4_without 16 = .ok (.aload_n 2, 1) := by decide +kernel
theorem dX4_without_17 : decode cX4_without 17 = .ok (.iload_n 3, 1) := by decide +kernel
theorem dX4_without_18 : decode cX4_without 18 = .ok (.aload_n 0, 1) := by decide +kernel
theorem dX4_without_19 : decode cX4_without 19 = .ok (.iload_n 3, 1) := by decide +kernel
theorem dX4_without_20 : decode cX4_without 20 = .ok (.iload_n 1, 1) := by decide +kernel
theorem dX4_without_21 : decode cX4_without 21 = .ok (.if_icmp .ge 7, 3) := by decide +kernel
theorem dX4_without_24 : decode cX4_without 24 = .ok (.iload_n 3, 1) := by decide +kernel
theorem dX4_without_25 : decode cX4_without 25 = .ok (.goto 6, 3) := by decide +kernel
theorem dX4_without_28 : decode cX4_without 28 = .ok (.iload_n 3, 1) := by decide +kernel
theorem dX4_without_29 : decode cX4_without 29 = .ok (.iconst 1, 1) := by decide +kernel
theorem dX4_without_30 : decode cX4_without 30 = .ok (.iadd, 1) := by decide +kernel
theorem dX4_without_31 : decode cX4_without 31 = .ok (.aaload, 1) := by decide +kernel
theorem dX4_without_32 : decode cX4_without 32 = .ok (.aastore, 1) := by decide +kernel
theorem dX4_without_33 : decode cX4_without 33 = .ok (.iinc 3 1, 3) := by decide +kernel
theorem dX4_without_36 : decode cX4_without 36 = .ok (.goto (-26), 3) := by decide +kernel
theorem dX4_without_39 : decode cX4_without 39 = .ok (.aload_n 2, 1) := by decide +kernel
theorem dX4_without_40 : decode cX4_without 40 = .ok (.areturn, 1) := by decide +kernel
theorem dX4_work_0 : decode cX4_work 0 = .ok (.iload_n 1, 1) := by decide +kernel
theorem dX4_work_1 : decode cX4_work 1 = .ok (.ifCond .ne 20, 3) := by decide +kernel
theorem dX4_work_4 : decode cX4_work 4 = .ok (.aload_n 0, 1) := by decide +kernel
theorem dX4_work_5 : decode cX4_work 5 = .ok (.iload_n 2, 1) := by decide +kernel
theorem dX4_work_6 : decode cX4_work 6 = .ok (.dup2, 1) := by decide +kernel
theorem dX4_work_7 : decode cX4_work 7 = .ok (.iaload, 1) := by decide +kernel
theorem dX4_work_8 : decode cX4_work 8 = .ok (.iload_n 3, 1) := by decide +kernel
theorem dX4_work_9 : decode cX4_work 9 = .ok (.sipush 999, 3) := by decide +kernel
theorem dX4_work_12 : decode cX4_work 12 = .ok (.aload_n 0, 1) := by decide +kernel
theorem dX4_work_13 : decode cX4_work 13 = .ok (.iload_n 2, 1) := by decide +kernel
theorem dX4_work_14 : decode cX4_work 14 = .ok (.iaload, 1) := by decide +kernel
theorem dX4_work_15 : decode cX4_work 15 = .ok (.isub, 1) := by decide +kernel
theorem dX4_work_16 : decode cX4_work 16 = .ok (.invokestatic 24, 3) := by decide +kernel
theorem dX4_work_19 : decode cX4_work 19 = .ok (.iadd, 1) := by decide +kernel
theorem dX4_work_20 : decode cX4_work 20 = .ok (.iastore, 1) := by decide +kernel
theorem dX4_work_21 : decode cX4_work 21 = .ok (.iload_n 1, 1) := by decide +kernel
theorem dX4_work_22 : decode cX4_work 22 = .ok (.iconst 1, 1) := by decide +kernel
theorem dX4_work_23 : decode cX4_work 23 = .ok (.if_icmp .ne 16, 3) := by decide +kernel
theorem dX4_work_26 : decode cX4_work 26 = .ok (.aload_n 0, 1) := by decide +kernel
theorem dX4_work_27 : decode cX4_work 27 = .ok (.iload_n 2, 1) := by decide +kernel
theorem dX4_work_28 : decode cX4_work 28 = .ok (.dup2, 1) := by decide +kernel
theorem dX4_work_29 : decode cX4_work 29 = .ok (.iaload, 1) := by decide +kernel
theorem dX4_work_30 : decode cX4_work 30 = .ok (.iload_n 3, 1) := by decide +kernel
theorem dX4_work_31 : decode cX4_work 31 = .ok (.aload_n 0, 1) := by decide +kernel
theorem dX4_work_32 : decode cX4_work 32 = .ok (.iload_n 2, 1) := by decide +kernel
theorem dX4_work_33 : decode cX4_work 33 = .ok (.iaload, 1) := by decide +kernel
theorem dX4_work_34 : decode cX4_work 34 = .ok (.invokestatic 24, 3) := by decide +kernel
theorem dX4_work_37 : decode cX4_work 37 = .ok (.isub, 1) := by decide +kernel
theorem dX4_work_38 : decode cX4_work 38 = .ok (.iastore, 1) := by decide +kernel
theorem dX4_work_39 : decode cX4_work 39 = .ok (.iload_n 1, 1) := by decide +kernel
theorem dX4_work_40 : decode cX4_work 40 = .ok (.iconst 2, 1) := by decide +kernel
theorem dX4_work_41 : decode cX4_work 41 = .ok (.if_icmp .ge 4, 3) := by decide +kernel
theorem dX4_work_44 : decode cX4_work 44 = .ok (.return_, 1) := by decide +kernel
theorem dX4_work_45 : decode cX4_work 45 = .ok (.aload_n 0, 1) := by decide +kernel
theorem dX4_work_46 : decode cX4_work 46 = .ok (.iload_n 2, 1) := by decide +kernel
theorem dX4_work_47 : decode cX4_work 47 = .ok (.iaload, 1) := by decide +kernel
theorem dX4_work_48 : decode cX4_work 48 = .ok (.bipush 10, 2) := by decide +kernel
theorem dX4_work_50 : decode cX4_work 50 = .ok (.idiv, 1) := by decide +kernel
theorem dX4_work_51 : decode cX4_work 51 = .ok (.istore 4, 2) := by decide +kernel
theorem dX4_work_53 : decode cX4_work 53 = .ok (.iload_n 2, 1) := by decide +kernel
theorem dX4_work_54 : decode cX4_work 54 = .ok (.bipush 7, 2) := by decide +kernel
theorem dX4_work_56 : decode cX4_work 56 = .ok (.if_icmp .ne 13, 3) := by decide +kernel
theorem dX4_work_59 : decode cX4_work 59 = .ok (.aload_n 0, 1) := by decide +kernel
theorem dX4_work_60 : decode cX4_work 60 = .ok (.bipush 7, 2) := by decide +kernel
theorem dX4_work_62 : decode cX4_work 62 = .ok (.dup2, 1) := by decide +kernel
theorem dX4_work_63 : decode cX4_work 63 = .ok (.iaload, 1) := by decide +kernel
theorem dX4_work_64 : decode cX4_work 64 = .ok (.iload 4, 2) := by decide +kernel
theorem dX4_work_66 : decode cX4_work 66 = .ok (.isub, 1) := by decide +kernel
theorem dX4_work_67 : decode cX4_work 67 = .ok (.iastore, 1) := by decide +kernel
theorem dX4_work_68 : decode cX4_work 68 = .ok (.return_, 1) := by decide +kernel
theorem dX4_work_69 : decode cX4_work 69 = .ok (.iload 4, 2) := by decide +kernel
theorem dX4_work_71 : decode cX4_work 71 = .ok (.ifCond .le 36, 3) := by decide +kernel
theorem dX4_work_74 : decode cX4_work 74 = .ok (.aload_n 0, 1) := by decide +kernel
theorem dX4_work_75 : decode cX4_work 75 = .ok (.iload_n 2, 1) := by decide +kernel
theorem dX4_work_76 : decode cX4_work 76 = .ok (.iconst 1, 1) := by decide +kernel
theorem dX4_work_77 : decode cX4_work 77 = .ok (.iadd, 1) := by decide +kernel
theorem dX4_work_78 : decode cX4_work 78 = .ok (.iaload, 1) := by decide +kernel
theorem dX4_work_79 : decode cX4_work 79 = .ok (.sipush 999, 3) := by decide +kernel
theorem dX4_work_82 : decode cX4_work 82 = .ok (.if_icmp .ge 25, 3) := by decide +kernel
theorem dX4_work_85 : decode cX4_work 85 = .ok (.aload_n 0, 1) := by decide +kernel
theorem dX4_work_86 : decode cX4_work 86 = .ok (.iload_n 2, 1) := by decide +kernel
theorem dX4_work_87 : decode cX4_work 87 = .ok (.dup2, 1) := by decide +kernel
theorem dX4_work_88 : decode cX4_work 88 = .ok (.iaload, 1) := by decide +kernel
theorem dX4_work_89 : decode cX4_work 89 = .ok (.iconst 1, 1) := by decide +kernel
theorem dX4_work_90 : decode cX4_work 90 = .ok (.isub, 1) := by decide +kernel
theorem dX4_work_91 : decode cX4_work 91 = .ok (.iastore, 1) := by decide +kernel
theorem dX4_work_92 : decode cX4_work 92 = .ok (.aload_n 0, 1) := by decide +kernel
theorem dX4_work_93 : decode cX4_work 93 = .ok (.iload_n 2, 1) := by decide +kernel
theorem dX4_work_94 : decode cX4_work 94 = .ok (.iconst 1, 1) := by decide +kernel
theorem dX4_work_95 : decode cX4_work 95 = .ok (.iadd, 1) := by decide +kernel
theorem dX4_work_96 : decode cX4_work 96 = .ok (.dup2, 1) := by decide +kernel
theorem dX4_work_97 : decode cX4_work 97 = .ok (.iaload, 1) := by decide +kernel
theorem dX4_work_98 : decode cX4_work 98 = .ok (.iconst 1, 1) := by decide +kernel
theorem dX4_work_99 : decode cX4_work 99 = .ok (.iadd, 1) := by decide +kernel
theorem dX4_work_100 : decode cX4_work 100 = .ok (.iastore, 1) := by decide +kernel
theorem dX4_work_101 : decode cX4_work 101 = .ok (.iinc 4 (-1), 3) := by decide +kernel
theorem dX4_work_104 : decode cX4_work 104 = .ok (.goto (-35), 3) := by decide +kernel
theorem dX4_work_107 : decode cX4_work 107 = .ok (.return_, 1) := by decide +kernel
theorem dX4_total_0 : decode cX4_total 0 = .ok (.iconst 0, 1) := by decide +kernel
theorem dX4_total_1 : decode cX4_total 1 = .ok (.istore_n 1, 1) := by decide +kernel
theorem dX4_total_2 : decode cX4_total 2 = .ok (.aload_n 0, 1) := by decide +kernel
theorem dX4_total_3 : decode cX4_total 3 = .ok (.astore_n 2, 1) := by decide +kernel
theorem dX4_total_4 : decode cX4_total 4 = .ok (.aload_n 2, 1) := by decide +kernel
theorem dX4_total_5 : decode cX4_total 5 = .ok (.arraylength, 1) := by decide +kernel
theorem dX4_total_6 : decode cX4_total 6 = .ok (.istore_n 3, 1) := by decide +kernel
theorem dX4_total_7 : decode cX4_total 7 = .ok (.iconst 0, 1) := by decide +kernel
theorem dX4_total_8 : decode cX4_total 8 = .ok (.istore 4, 2) := by decide +kernel
theorem dX4_total_10 : decode cX4_total 10 = .ok (.iload 4, 2) := by decide +kernel
theorem dX4_total_12 : decode cX4_total 12 = .ok (.iload_n 3, 1) := by decide +kernel
theorem dX4_total_13 : decode cX4_total 13 = .ok (.if_icmp .ge 20, 3) := by decide +kernel
theorem dX4_total_16 : decode cX4_total 16 = .ok (.aload_n 2, 1) := by decide +kernel
theorem dX4_total_17 : decode cX4_total 17 = .ok (.iload 4, 2) := by decide +kernel
theorem dX4_total_19 : decode cX4_total 19 = .ok (.iaload, 1) := by decide +kernel
theorem dX4_total_20 : decode cX4_total 20 = .ok (.istore 5, 2) := by decide +kernel
theorem dX4_total_22 : decode cX4_total 22 = .ok (.iload_n 1, 1) := by decide +kernel
theorem dX4_total_23 : decode cX4_total 23 = .ok (.iload 5, 2) := by decide +kernel
theorem dX4_total_25 : decode cX4_total 25 = .ok (.iadd, 1) := by decide +kernel
theorem dX4_total_26 : decode cX4_total 26 = .ok (.istore_n 1, 1) := by decide +kernel
theorem dX4_total_27 : decode cX4_total 27 = .ok (.iinc 4 1, 3) := by decide +kernel
theorem dX4_total_30 : decode cX4_total 30 = .ok (.goto (-20), 3) := by decide +kernel
theorem dX4_total_33 : decode cX4_total 33 = .ok (.iload_n 1, 1) := by decide +kernel
theorem dX4_total_34 : decode cX4_total 34 = .ok (.ireturn, 1) := by decide +kernel
set_option maxRecDepth 20000 in
theorem ggX4_deed_X4_with : GoodIn wsX4_deed wsX4_with := goodIn_r _ [6, 7] (by decide +kernel) (by decide +kernel)
set_option maxRecDepth 20000 in
theorem gX4_deed_X4_with : GoodIn wsX4_deed (va_wsS RX4 30 yX4_with wsX4_with) := goodIn_app (goodIn_of _ (by decide +kernel)) ggX4_deed_X4_with
set_option maxRecDepth 20000 in
theorem ggX4_deed_X4_work : GoodIn wsX4_deed wsX4_work := goodIn_r _ [10, 11, 12, 13, 14] (by decide +kernel) (by decide +kernel)
set_option maxRecDepth 20000 in
theorem gX4_deed_X4_work : GoodIn wsX4_deed (va_wsS RX4 34 yX4_work wsX4_work) := goodIn_app (goodIn_of _ (by decide +kernel)) ggX4_deed_X4_work
theorem dX4_deed_0 : decode cX4_deed 0 = .ok (.aload_n 0, 1) := by decide +kernel
theorem dX4_deed_1 : decode cX4_deed 1 = .ok (.aload_n 0, 1) := by decide +kernel
theorem dX4_deed_2 : decode cX4_deed 2 = .ok (.getfield 13, 3) := by decide +kernel
theorem dX4_deed_5 : decode cX4_deed 5 = .ok (.iload_n 1, 1) := by decide +kernel
theorem dX4_deed_6 : decode cX4_deed 6 = .ok (.iload_n 2, 1) := by decide +kernel
theorem dX4_deed_7 : decode cX4_deed 7 = .ok (.iload_n 3, 1) := by decide +kernel
theorem dX4_deed_8 : decode cX4_deed 8 = .ok (.invokestatic 30, 3) := by decide +kernel
theorem dX4_deed_11 : decode cX4_deed 11 = .ok (.putfield 13, 3) := by decide +kernel
theorem dX4_deed_14 : decode cX4_deed 14 = .ok (.aload_n 0, 1) := by decide +kernel
theorem dX4_deed_15 : decode cX4_deed 15 = .ok (.getfield 7, 3) := by decide +kernel
theorem dX4_deed_18 : decode cX4_deed 18 = .ok (.iload_n 1, 1) := by decide +kernel
theorem dX4_deed_19 : decode cX4_deed 19 = .ok (.iload_n 2, 1) := by decide +kernel
theorem dX4_deed_20 : decode cX4_deed 20 = .ok (.iload_n 3, 1) := by decide +kernel
theorem dX4_deed_21 : decode cX4_deed 21 = .ok (.invokestatic 34, 3) := by decide +kernel
theorem dX4_deed_24 : decode cX4_deed 24 = .ok (.aload_n 0, 1) := by decide +kernel
theorem dX4_deed_25 : decode cX4_deed 25 = .ok (.getfield 7, 3) := by decide +kernel
theorem dX4_deed_28 : decode cX4_deed 28 = .ok (.iload_n 2, 1) := by decide +kernel
theorem dX4_deed_29 : decode cX4_deed 29 = .ok (.iaload, 1) := by decide +kernel
theorem dX4_deed_30 : decode cX4_deed 30 = .ok (.ireturn, 1) := by decide +kernel
theorem dX4_seal_0 : decode cX4_seal 0 = .ok (.iload_n 1, 1) := by decide +kernel
theorem dX4_seal_1 : decode cX4_seal 1 = .ok (.ifCond .ne 8, 3) := by decide +kernel
theorem dX4_seal_4 : decode cX4_seal 4 = .ok (.bipush 17, 2) := by decide +kernel
theorem dX4_seal_6 : decode cX4_seal 6 = .ok (.goto 13, 3) := by decide +kernel
theorem dX4_seal_9 : decode cX4_seal 9 = .ok (.aload_n 0, 1) := by decide +kernel
theorem dX4_seal_10 : decode cX4_seal 10 = .ok (.getfield 17, 3) := by decide +kernel
theorem dX4_seal_13 : decode cX4_seal 13 = .ok (.iload_n 1, 1) := by decide +kernel
theorem dX4_seal_14 : decode cX4_seal 14 = .ok (.iconst 1, 1) := by decide +kernel
theorem dX4_seal_15 : decode cX4_seal 15 = .ok (.isub, 1) := by decide +kernel
theorem dX4_seal_16 : decode cX4_seal 16 = .ok (.aaload, 1) := by decide +kernel
theorem dX4_seal_17 : decode cX4_seal 17 = .ok (.iconst 0, 1) := by decide +kernel
theorem dX4_seal_18 : decode cX4_seal 18 = .ok (.iaload, 1) := by decide +kernel
theorem dX4_seal_19 : decode cX4_seal 19 = .ok (.istore_n 2, 1) := by decide +kernel
theorem dX4_seal_20 : decode cX4_seal 20 = .ok (.iconst 2, 1) := by decide +kernel
theorem dX4_seal_21 : decode cX4_seal 21 = .ok (.istore_n 3, 1) := by decide +kernel
theorem dX4_seal_22 : decode cX4_seal 22 = .ok (.iload_n 3, 1) := by decide +kernel
theorem dX4_seal_23 : decode cX4_seal 23 = .ok (.aload_n 0, 1) := by decide +kernel
theorem dX4_seal_24 : decode cX4_seal 24 = .ok (.getfield 17, 3) := by decide +kernel
theorem dX4_seal_27 : decode cX4_seal 27 = .ok (.iload_n 1, 1) := by decide +kernel
theorem dX4_seal_28 : decode cX4_seal 28 = .ok (.aaload, 1) := by decide +kernel
theorem dX4_seal_29 : decode cX4_seal 29 = .ok (.arraylength, 1) := by decide +kernel
theorem dX4_seal_30 : decode cX4_seal 30 = .ok (.if_icmp .ge 54, 3) := by decide +kernel
theorem dX4_seal_33 : decode cX4_seal 33 = .ok (.iload_n 2, 1) := by decide +kernel
theorem dX4_seal_34 : decode cX4_seal 34 = .ok (.bipush 31, 2) := by decide +kernel
theorem dX4_seal_36 : decode cX4_seal 36 = .ok (.imul, 1) := by decide +kernel
theorem dX4_seal_37 : decode cX4_seal 37 = .ok (.aload_n 0, 1) := by decide +kernel
theorem dX4_seal_38 : decode cX4_seal 38 = .ok (.getfield 17, 3) := by decide +kernel
theorem dX4_seal_41 : decode cX4_seal 41 = .ok (.iload_n 1, 1) := by decide +kernel
theorem dX4_seal_42 : decode cX4_seal 42 = .ok (.aaload, 1) := by decide +kernel
theorem dX4_seal_43 : decode cX4_seal 43 = .ok (.iload_n 3, 1) := by decide +kernel
theorem dX4_seal_44 : decode cX4_seal 44 = .ok (.iaload, 1) := by decide +kernel
theorem dX4_seal_45 : decode cX4_seal 45 = .ok (.iadd, 1) := by decide +kernel
theorem dX4_seal_46 : decode cX4_seal 46 = .ok (.aload_n 0, 1) := by decide +kernel
theorem dX4_seal_47 : decode cX4_seal 47 = .ok (.getfield 17, 3) := by decide +kernel
theorem dX4_seal_50 : decode cX4_seal 50 = .ok (.iload_n 1, 1) := by decide +kernel
theorem dX4_seal_51 : decode cX4_seal 51 = .ok (.aaload, 1) := by decide +kernel
theorem dX4_seal_52 : decode cX4_seal 52 = .ok (.iload_n 3, 1) := by decide +kernel
theorem dX4_seal_53 : decode cX4_seal 53 = .ok (.iconst 1, 1) := by decide +kernel
theorem dX4_seal_54 : decode cX4_seal 54 = .ok (.iadd, 1) := by decide +kernel
theorem dX4_seal_55 : decode cX4_seal 55 = .ok (.iaload, 1) := by decide +kernel
theorem dX4_seal_56 : decode cX4_seal 56 = .ok (.iconst 5, 1) := by decide +kernel
theorem dX4_seal_57 : decode cX4_seal 57 = .ok (.imul, 1) := by decide +kernel
theorem dX4_seal_58 : decode cX4_seal 58 = .ok (.iadd, 1) := by decide +kernel
theorem dX4_seal_59 : decode cX4_seal 59 = .ok (.aload_n 0, 1) := by decide +kernel
theorem dX4_seal_60 : decode cX4_seal 60 = .ok (.getfield 17, 3) := by decide +kernel
theorem dX4_seal_63 : decode cX4_seal 63 = .ok (.iload_n 1, 1) := by decide +kernel
theorem dX4_seal_64 : decode cX4_seal 64 = .ok (.aaload, 1) := by decide +kernel
theorem dX4_seal_65 : decode cX4_seal 65 = .ok (.iload_n 3, 1) := by decide +kernel
theorem dX4_seal_66 : decode cX4_seal 66 = .ok (.iconst 2, 1) := by decide +kernel
theorem dX4_seal_67 : decode cX4_seal 67 = .ok (.iadd, 1) := by decide +kernel
theorem dX4_seal_68 : decode cX4_seal 68 = .ok (.iaload, 1) := by decide +kernel
theorem dX4_seal_69 : decode cX4_seal 69 = .ok (.bipush 7, 2) := by decide +kernel
theorem dX4_seal_71 : decode cX4_seal 71 = .ok (.imul, 1) := by decide +kernel
theorem dX4_seal_72 : decode cX4_seal 72 = .ok (.iadd, 1) := by decide +kernel
theorem dX4_seal_73 : decode cX4_seal 73 = .ok (.sipush 10007, 3) := by decide +kernel
theorem dX4_seal_76 : decode cX4_seal 76 = .ok (.irem, 1) := by decide +kernel
theorem dX4_seal_77 : decode cX4_seal 77 = .ok (.istore_n 2, 1) := by decide +kernel
theorem dX4_seal_78 : decode cX4_seal 78 = .ok (.iinc 3 3, 3) := by decide +kernel
theorem dX4_seal_81 : decode cX4_seal 81 = .ok (.goto (-59), 3) := by decide +kernel
theorem dX4_seal_84 : decode cX4_seal 84 = .ok (.iload_n 2, 1) := by decide +kernel
theorem dX4_seal_85 : decode cX4_seal 85 = .ok (.ireturn, 1) := by decide +kernel
set_option maxRecDepth 20000 in
theorem ggX4_end_X4_with_ : GoodIn wsX4_end wsX4_with_ := goodIn_r _ [9, 10] (by decide +kernel) (by decide +kernel)
set_option maxRecDepth 20000 in
theorem gX4_end_X4_with_ : GoodIn wsX4_end (va_wsS RX4 38 yX4_with_ wsX4_with_) := goodIn_app (goodIn_of _ (by decide +kernel)) ggX4_end_X4_with_
set_option maxRecDepth 20000 in
theorem ggX4_end_X4_seal : GoodIn wsX4_end wsX4_seal := goodIn_r _ [14, 3, 18, 19, 20, 21, 22] (by decide +kernel) (by decide +kernel)
set_option maxRecDepth 20000 in
theorem gX4_end_X4_seal : GoodIn wsX4_end (wsV RX4 41 RX4 yX4_seal wsX4_seal) := goodIn_app (goodIn_of _ (by decide +kernel)) ggX4_end_X4_seal
set_option maxRecDepth 20000 in
theorem ggX4_end_X4_without : GoodIn wsX4_end wsX4_without := goodIn_r _ [17, 10] (by decide +kernel) (by decide +kernel)
set_option maxRecDepth 20000 in
theorem gX4_end_X4_without : GoodIn wsX4_end (va_wsS RX4 45 yX4_without wsX4_without) := goodIn_app (goodIn_of _ (by decide +kernel)) ggX4_end_X4_without
theorem dX4_end_0 : decode cX4_end 0 = .ok (.aload_n 0, 1) := by decide +kernel
theorem dX4_end_1 : decode cX4_end 1 = .ok (.getfield 13, 3) := by decide +kernel
theorem dX4_end_4 : decode cX4_end 4 = .ok (.arraylength, 1) := by decide +kernel
theorem dX4_end_5 : decode cX4_end 5 = .ok (.iconst 2, 1) := by decide +kernel
theorem dX4_end_6 : decode cX4_end 6 = .ok (.iadd, 1) := by decide +kernel
theorem dX4_end_7 : decode cX4_end 7 = .ok (.newarray .int, 2) := by decide +kernel
theorem dX4_end_9 : decode cX4_end 9 = .ok (.astore_n 2, 1) := by decide +kernel
theorem dX4_end_10 : decode cX4_end 10 = .ok (.iconst 0, 1) := by decide +kernel
theorem dX4_end_11 : decode cX4_end 11 = .ok (.istore_n 3, 1) := by decide +kernel
theorem dX4_end_12 : decode cX4_end 12 = .ok (.iload_n 3, 1) := by decide +kernel
theorem dX4_end_13 : decode cX4_end 13 = .ok (.aload_n 0, 1) := by decide +kernel
theorem dX4_end_14 : decode cX4_end 14 = .ok (.getfield 13, 3) := by decide +kernel
theorem dX4_end_17 : decode cX4_end 17 = .ok (.arraylength, 1) := by decide +kernel
theorem dX4_end_18 : decode cX4_end 18 = .ok (.if_icmp .ge 20, 3) := by decide +kernel
theorem dX4_end_21 : decode cX4_end 21 = .ok (.aload_n 2, 1) := by decide +kernel
theorem dX4_end_22 : decode cX4_end 22 = .ok (.iload_n 3, 1) := by decide +kernel
theorem dX4_end_23 : decode cX4_end 23 = .ok (.iconst 2, 1) := by decide +kernel
theorem dX4_end_24 : decode cX4_end 24 = .ok (.iadd, 1) := by decide +kernel
theorem dX4_end_25 : decode cX4_end 25 = .ok (.aload_n 0, 1) := by decide +kernel
theorem dX4_end_26 : decode cX4_end 26 = .ok (.getfield 13, 3) := by decide +kernel
theorem dX4_end_29 : decode cX4_end 29 = .ok (.iload_n 3, 1) := by decide +kernel
theorem dX4_end_30 : decode cX4_end 30 = .ok (.iaload, 1) := by decide +kernel
theorem dX4_end_31 : decode cX4_end 31 = .ok (.iastore, 1) := by decide +kernel
theorem dX4_end_32 : decode cX4_end 32 = .ok (.iinc 3 1, 3) := by decide +kernel
theorem dX4_end_35 : decode cX4_end 35 = .ok (.goto (-23), 3) := by decide +kernel
theorem dX4_end_38 : decode cX4_end 38 = .ok (.aload_n 0, 1) := by decide +kernel
theorem dX4_end_39 : decode cX4_end 39 = .ok (.aload_n 0, 1) := by decide +kernel
theorem dX4_end_40 : decode cX4_end 40 = .ok (.getfield 17, 3) := by decide +kernel
theorem dX4_end_43 : decode cX4_end 43 = .ok (.aload_n 2, 1) := by decide +kernel
theorem dX4_end_44 : decode cX4_end 44 = .ok (.invokestatic 38, 3) := by decide +kernel
theorem dX4_end_47 : decode cX4_end 47 = .ok (.putfield 17, 3) := by decide +kernel
theorem dX4_end_50 : decode cX4_end 50 = .ok (.aload_n 2, 1) := by decide +kernel
theorem dX4_end_51 : decode cX4_end 51 = .ok (.iconst 0, 1) := by decide +kernel
theorem dX4_end_52 : decode cX4_end 52 = .ok (.aload_n 0, 1) := by decide +kernel
theorem dX4_end_53 : decode cX4_end 53 = .ok (.aload_n 0, 1) := by decide +kernel
theorem dX4_end_54 : decode cX4_end 54 = .ok (.getfield 17, 3) := by decide +kernel
theorem dX4_end_57 : decode cX4_end 57 = .ok (.arraylength, 1) := by decide +kernel
theorem dX4_end_58 : decode cX4_end 58 = .ok (.iconst 1, 1) := by decide +kernel
theorem dX4_end_59 : decode cX4_end 59 = .ok (.isub, 1) := by decide +kernel
theorem dX4_end_60 : decode cX4_end 60 = .ok (.invokevirtual 41, 3) := by decide +kernel
theorem dX4_end_63 : decode cX4_end 63 = .ok (.iastore, 1) := by decide +kernel
theorem dX4_end_64 : decode cX4_end 64 = .ok (.aload_n 0, 1) := by decide +kernel
theorem dX4_end_65 : decode cX4_end 65 = .ok (.iconst 0, 1) := by decide +kernel
theorem dX4_end_66 : decode cX4_end 66 = .ok (.newarray .int, 2) := by decide +kernel
theorem dX4_end_68 : decode cX4_end 68 = .ok (.putfield 13, 3) := by decide +kernel
theorem dX4_end_71 : decode cX4_end 71 = .ok (.iload_n 1, 1) := by decide +kernel
theorem dX4_end_72 : decode cX4_end 72 = .ok (.ifCond .ne 4, 3) := by decide +kernel
theorem dX4_end_75 : decode cX4_end 75 = .ok (.return_, 1) := by decide +kernel
theorem dX4_end_76 : decode cX4_end 76 = .ok (.bipush 9, 2) := by decide +kernel
theorem dX4_end_78 : decode cX4_end 78 = .ok (.newarray .int, 2) := by decide +kernel
theorem dX4_end_80 : decode cX4_end 80 = .ok (.astore_n 3, 1) := by decide +kernel
theorem dX4_end_81 : decode cX4_end 81 = .ok (.aload_n 3, 1) := by decide +kernel
theorem dX4_end_82 : decode cX4_end 82 = .ok (.iconst 0, 1) := by decide +kernel
theorem dX4_end_83 : decode cX4_end 83 = .ok (.aload_n 0, 1) := by decide +kernel
theorem dX4_end_84 : decode cX4_end 84 = .ok (.getfield 17, 3) := by decide +kernel
theorem dX4_end_87 : decode cX4_end 87 = .ok (.arraylength, 1) := by decide +kernel
theorem dX4_end_88 : decode cX4_end 88 = .ok (.iastore, 1) := by decide +kernel
theorem dX4_end_89 : decode cX4_end 89 = .ok (.iconst 0, 1) := by decide +kernel
theorem dX4_end_90 : decode cX4_end 90 = .ok (.istore 4, 2) := by decide +kernel
theorem dX4_end_92 : decode cX4_end 92 = .ok (.iload 4, 2) := by decide +kernel
theorem dX4_end_94 : decode cX4_end 94 = .ok (.bipush 8, 2) := by decide +kernel
theorem dX4_end_96 : decode cX4_end 96 = .ok (.if_icmp .ge 22, 3) := by decide +kernel
theorem dX4_end_99 : decode cX4_end 99 = .ok (.aload_n 3, 1) := by decide +kernel
theorem dX4_end_100 : decode cX4_end 100 = .ok (.iload 4, 2) := by decide +kernel
theorem dX4_end_102 : decode cX4_end 102 = .ok (.iconst 1, 1) := by decide +kernel
theorem dX4_end_103 : decode cX4_end 103 = .ok (.iadd, 1) := by decide +kernel
theorem dX4_end_104 : decode cX4_end 104 = .ok (.aload_n 0, 1) := by decide +kernel
theorem dX4_end_105 : decode cX4_end 105 = .ok (.getfield 7, 3) := by decide +kernel
theorem dX4_end_108 : decode cX4_end 108 = .ok (.iload 4, 2) := by decide +kernel
theorem dX4_end_110 : decode cX4_end 110 = .ok (.iaload, 1) := by decide +kernel
theorem dX4_end_111 : decode cX4_end 111 = .ok (.iastore, 1) := by decide +kernel
theorem dX4_end_112 : decode cX4_end 112 = .ok (.iinc 4 1, 3) := by decide +kernel
theorem dX4_end_115 : decode cX4_end 115 = .ok (.goto (-23), 3) := by decide +kernel
theorem dX4_end_118 : decode cX4_end 118 = .ok (.aload_n 0, 1) := by decide +kernel
theorem dX4_end_119 : decode cX4_end 119 = .ok (.getfield 21, 3) := by decide +kernel
theorem dX4_end_122 : decode cX4_end 122 = .ok (.arraylength, 1) := by decide +kernel
theorem dX4_end_123 : decode cX4_end 123 = .ok (.bipush 6, 2) := by decide +kernel
theorem dX4_end_125 : decode cX4_end 125 = .ok (.if_icmp .ne 15, 3) := by decide +kernel
theorem dX4_end_128 : decode cX4_end 128 = .ok (.aload_n 0, 1) := by decide +kernel
theorem dX4_end_129 : decode cX4_end 129 = .ok (.aload_n 0, 1) := by decide +kernel
theorem dX4_end_130 : decode cX4_end 130 = .ok (.getfield 21, 3) := by decide +kernel
theorem dX4_end_133 : decode cX4_end 133 = .ok (.iconst 0, 1) := by decide +kernel
theorem dX4_end_134 : decode cX4_end 134 = .ok (.invokestatic 45, 3) := by decide +kernel
theorem dX4_end_137 : decode cX4_end 137 = .ok (.putfield 21, 3) := by decide +kernel
theorem dX4_end_140 : decode cX4_end 140 = .ok (.aload_n 0, 1) := by decide +kernel
theorem dX4_end_141 : decode cX4_end 141 = .ok (.aload_n 0, 1) := by decide +kernel
theorem dX4_end_142 : decode cX4_end 142 = .ok (.getfield 21, 3) := by decide +kernel
theorem dX4_end_145 : decode cX4_end 145 = .ok (.aload_n 3, 1) := by decide +kernel
theorem dX4_end_146 : decode cX4_end 146 = .ok (.invokestatic 38, 3) := by decide +kernel
theorem dX4_end_149 : decode cX4_end 149 = .ok (.putfield 21, 3) := by decide +kernel
theorem dX4_end_152 : decode cX4_end 152 = .ok (.return_, 1) := by decide +kernel
set_option maxRecDepth 20000 in
theorem ggX4_isFalse_X4_seal : GoodIn wsX4_isFalse wsX4_seal := goodIn_r _ [6, 1, 7, 8, 9, 10, 11] (by decide +kernel) (by decide +kernel)
set_option maxRecDepth 20000 in
theorem gX4_isFalse_X4_seal : GoodIn wsX4_isFalse (wsV RX4 41 RX4 yX4_seal wsX4_seal) := goodIn_app (goodIn_of _ (by decide +kernel)) ggX4_isFalse_X4_seal
theorem dX4_isFalse_0 : decode cX4_isFalse 0 = .ok (.aload_n 0, 1) := by decide +kernel
theorem dX4_isFalse_1 : decode cX4_isFalse 1 = .ok (.getfield 17, 3) := by decide +kernel
theorem dX4_isFalse_4 : decode cX4_isFalse 4 = .ok (.iload_n 1, 1) := by decide +kernel
theorem dX4_isFalse_5 : decode cX4_isFalse 5 = .ok (.aaload, 1) := by decide +kernel
theorem dX4_isFalse_6 : decode cX4_isFalse 6 = .ok (.iconst 1, 1) := by decide +kernel
theorem dX4_isFalse_7 : decode cX4_isFalse 7 = .ok (.iaload, 1) := by decide +kernel
theorem dX4_isFalse_8 : decode cX4_isFalse 8 = .ok (.ifCond .ne 23, 3) := by decide +kernel
theorem dX4_isFalse_11 : decode cX4_isFalse 11 = .ok (.aload_n 0, 1) := by decide +kernel
theorem dX4_isFalse_12 : decode cX4_isFalse 12 = .ok (.iload_n 1, 1) := by decide +kernel
theorem dX4_isFalse_13 : decode cX4_isFalse 13 = .ok (.invokevirtual 41, 3) := by decide +kernel
theorem dX4_isFalse_16 : decode cX4_isFalse 16 = .ok (.aload_n 0, 1) := by decide +kernel
theorem dX4_isFalse_17 : decode cX4_isFalse 17 = .ok (.getfield 17, 3) := by decide +kernel
theorem dX4_isFalse_20 : decode cX4_isFalse 20 = .ok (.iload_n 1, 1) := by decide +kernel
theorem dX4_isFalse_21 : decode cX4_isFalse 21 = .ok (.aaload, 1) := by decide +kernel
theorem dX4_isFalse_22 : decode cX4_isFalse 22 = .ok (.iconst 0, 1) := by decide +kernel
theorem dX4_isFalse_23 : decode cX4_isFalse 23 = .ok (.iaload, 1) := by decide +kernel
theorem dX4_isFalse_24 : decode cX4_isFalse 24 = .ok (.if_icmp .eq 7, 3) := by decide +kernel
theorem dX4_isFalse_27 : decode cX4_isFalse 27 = .ok (.iconst 1, 1) := by decide +kernel
theorem dX4_isFalse_28 : decode cX4_isFalse 28 = .ok (.goto 4, 3) := by decide +kernel
theorem dX4_isFalse_31 : decode cX4_isFalse 31 = .ok (.iconst 0, 1) := by decide +kernel
theorem dX4_isFalse_32 : decode cX4_isFalse 32 = .ok (.ireturn, 1) := by decide +kernel
set_option maxRecDepth 20000 in
theorem ggX4_isSame_X3_year : GoodIn wsX4_isSame wsX3_year := goodIn_r _ [10, 11, 12, 13, 14, 15, 16, 17, 191, 192, 193, 194, 195, 196, 197, 198, 199, 200, 201] (by decide +kernel) (by decide +kernel)
set_option maxRecDepth 20000 in
theorem gX4_isSame_X3_year : GoodIn wsX4_isSame (wsV RX4 53 RX3 yX3_year wsX3_year) := goodIn_app (goodIn_of _ (by decide +kernel)) ggX4_isSame_X3_year
set_option maxRecDepth 20000 in
theorem ggX4_isSame_X3_ice : GoodIn wsX4_isSame wsX3_ice := goodIn_r _ [21, 22, 23, 24, 25, 26, 27, 28, 191, 192, 193, 194, 202] (by decide +kernel) (by decide +kernel)
set_option maxRecDepth 20000 in
theorem gX4_isSame_X3_ice : GoodIn wsX4_isSame (wsV RX4 59 RX3 yX3_ice wsX3_ice) := goodIn_app (goodIn_of _ (by decide +kernel)) ggX4_isSame_X3_ice
set_option maxRecDepth 20000 in
theorem ggX4_isSame_X4_total : GoodIn wsX4_isSame wsX4_total := goodIn_r _ [32] (by decide +kernel) (by decide +kernel)
set_option maxRecDepth 20000 in
theorem gX4_isSame_X4_total : GoodIn wsX4_isSame (va_wsS RX4 61 yX4_total wsX4_total) := goodIn_app (goodIn_of _ (by decide +kernel)) ggX4_isSame_X4_total
set_option maxRecDepth 20000 in
theorem ggX4_isSame_X3_deeds : GoodIn wsX4_isSame wsX3_deeds := goodIn_r _ [36, 11, 12, 13, 14, 15, 16, 17, 37, 38, 39, 40, 41, 42, 43, 44, 191, 192, 193, 194, 195, 196, 197, 198, 199, 200, 201] (by decide +kernel) (by decide +kernel)
set_option maxRecDepth 20000 in
theorem gX4_isSame_X3_deeds : GoodIn wsX4_isSame (wsV RX4 65 RX3 yX3_deeds wsX3_deeds) := goodIn_app (goodIn_of _ (by decide +kernel)) ggX4_isSame_X3_deeds
set_option maxRecDepth 20000 in
theorem ggX4_isSame_X3_cores : GoodIn wsX4_isSame wsX3_cores := goodIn_r _ [48, 49, 50, 51, 52, 53, 54, 55, 191, 192, 193, 194, 203, 204, 205] (by decide +kernel) (by decide +kernel)
set_option maxRecDepth 20000 in
theorem gX4_isSame_X3_cores : GoodIn wsX4_isSame (wsV RX4 67 RX3 yX3_cores wsX3_cores) := goodIn_app (goodIn_of _ (by decide +kernel)) ggX4_isSame_X3_cores
set_option maxRecDepth 20000 in
theorem ggX4_isSame_X3_meanIce : GoodIn wsX4_isSame wsX3_meanIce := goodIn_r _ [59, 22, 60, 23, 24, 25, 26, 27, 28, 191, 192, 193, 194, 202] (by decide +kernel) (by decide +kernel)
set_option maxRecDepth 20000 in
theorem gX4_isSame_X3_meanIce : GoodIn wsX4_isSame (wsV RX4 69 RX3 yX3_meanIce wsX3_meanIce) := goodIn_app (goodIn_of _ (by decide +kernel)) ggX4_isSame_X3_meanIce
set_option maxRecDepth 20000 in
theorem ggX4_isSame_X3_iceAt : GoodIn wsX4_isSame wsX3_iceAt := goodIn_ca (goodIn_r _ [64, 22, 65, 66, 9, 67, 68, 69, 70, 71, 72, 26, 73, 28, 74, 75, 76, 191, 192, 193, 194, 202] (by decide +kernel) (by decide +kernel)) (goodIn_sub (fun _ h => List.mem_cons_of_mem _ (List.mem_append_right _ h)) (by decide +kernel))
set_option maxRecDepth 20000 in
theorem gX4_isSame_X3_iceAt : GoodIn wsX4_isSame (wsV RX4 75 RX3 yX3_iceAt wsX3_iceAt) := goodIn_app (goodIn_of _ (by decide +kernel)) ggX4_isSame_X3_iceAt
set_option maxRecDepth 20000 in
theorem ggX4_isSame_X4_isFalse : GoodIn wsX4_isSame wsX4_isFalse := goodIn_r _ [80, 1, 81, 82, 83, 31, 84, 186, 187, 188, 189, 190] (by decide +kernel) (by decide +kernel)
set_option maxRecDepth 20000 in
theorem gX4_isSame_X4_isFalse : GoodIn wsX4_isSame (wsV RX4 78 RX4 yX4_isFalse wsX4_isFalse) := goodIn_app (goodIn_of _ (by decide +kernel)) ggX4_isSame_X4_isFalse
set_option maxRecDepth 20000 in
theorem ggX4_isSame_X3_deedsOf : GoodIn wsX4_isSame wsX3_deedsOf := goodIn_ca (goodIn_r _ [88, 11, 89, 90, 91, 9, 92, 68, 69, 12, 13, 14, 15, 16, 17, 37, 38, 39, 40, 41, 42, 43, 44, 191, 192, 193, 194, 195, 196, 197, 198, 199, 200, 201] (by decide +kernel) (by decide +kernel)) (goodIn_sub (fun _ h => List.mem_cons_of_mem _ (List.mem_append_right _ h)) (by decide +kernel))
set_option maxRecDepth 20000 in
theorem gX4_isSame_X3_deedsOf : GoodIn wsX4_isSame (wsV RX4 82 RX3 yX3_deedsOf wsX3_deedsOf) := goodIn_app (goodIn_of _ (by decide +kernel)) ggX4_isSame_X3_deedsOf
set_option maxRecDepth 20000 in
theorem ggX4_isSame_X3_sealOf : GoodIn wsX4_isSame wsX3_sealOf := goodIn_ca (goodIn_r _ [96, 11, 89, 90, 91, 9, 92, 68, 69, 12, 13, 14, 15, 16, 17, 97, 98, 99, 100, 101, 42, 43, 44, 191, 192, 193, 194, 195, 196, 197, 198, 199, 200, 201] (by decide +kernel) (by decide +kernel)) (goodIn_sub (fun _ h => List.mem_cons_of_mem _ (List.mem_append_right _ h)) (by decide +kernel))
set_option maxRecDepth 20000 in
theorem gX4_isSame_X3_sealOf : GoodIn wsX4_isSame (wsV RX4 85 RX3 yX3_sealOf wsX3_sealOf) := goodIn_app (goodIn_of _ (by decide +kernel)) ggX4_isSame_X3_sealOf
set_option maxRecDepth 20000 in
theorem ggX4_isSame_X3_isCompacted : GoodIn wsX4_isSame wsX3_isCompacted := goodIn_ca (goodIn_r _ [105, 11, 89, 90, 91, 9, 92, 68, 69, 12, 13, 14, 15, 16, 17, 106, 107, 108, 109, 110, 191, 192, 193, 194, 195, 196, 197, 198, 199, 200, 201] (by decide +kernel) (by decide +kernel)) (goodIn_sub (fun _ h => List.mem_cons_of_mem _ (List.mem_append_right _ h)) (by decide +kernel))
set_option maxRecDepth 20000 in
theorem gX4_isSame_X3_isCompacted : GoodIn wsX4_isSame (wsV RX4 88 RX3 yX3_isCompacted wsX3_isCompacted) := goodIn_app (goodIn_of _ (by decide +kernel)) ggX4_isSame_X3_isCompacted
set_option maxRecDepth 20000 in
theorem ggX4_isSame_X3_isFalse : GoodIn wsX4_isSame wsX3_isFalse := goodIn_ca (goodIn_r _ [114, 11, 89, 90, 91, 9, 92, 68, 69, 12, 13, 14, 15, 16, 17, 115, 116, 117, 118, 119, 107, 108, 109, 110, 120, 121, 122, 123, 124, 98, 99, 100, 101, 42, 43, 44, 125, 38, 39, 40, 41, 126, 127, 128, 129, 130, 131, 132, 133, 134, 135, 136, 137, 138, 139, 140, 141, 142, 143, 144, 145, 146, 147, 191, 192, 193, 194, 195, 196, 197, 198, 199, 200, 201] (by decide +kernel) (by decide +kernel)) (goodIn_sub (fun _ h => List.mem_cons_of_mem _ (List.mem_append_right _ h)) (by decide +kernel))
set_option maxRecDepth 20000 in
theorem gX4_isSame_X3_isFalse : GoodIn wsX4_isSame (wsV RX4 91 RX3 yX3_isFalse wsX3_isFalse) := goodIn_app (goodIn_of _ (by decide +kernel)) ggX4_isSame_X3_isFalse
set_option maxRecDepth 20000 in
theorem ggX4_isSame_X3_yearOf : GoodIn wsX4_isSame wsX3_yearOf := goodIn_ca (goodIn_r _ [151, 49, 152, 153, 154, 9, 155, 68, 69, 50, 51, 52, 53, 54, 55, 156, 157, 158, 159, 160, 161, 162, 163, 164, 191, 192, 193, 194, 203, 204, 205] (by decide +kernel) (by decide +kernel)) (goodIn_sub (fun _ h => List.mem_cons_of_mem _ (List.mem_append_right _ h)) (by decide +kernel))
set_option maxRecDepth 20000 in
theorem gX4_isSame_X3_yearOf : GoodIn wsX4_isSame (wsV RX4 92 RX3 yX3_yearOf wsX3_yearOf) := goodIn_app (goodIn_of _ (by decide +kernel)) ggX4_isSame_X3_yearOf
set_option maxRecDepth 20000 in
theorem ggX4_isSame_X3_iceOfCore : GoodIn wsX4_isSame wsX3_iceOfCore := goodIn_ca (goodIn_r _ [168, 49, 152, 153, 154, 9, 155, 68, 69, 50, 51, 52, 53, 54, 55, 169, 170, 171, 172, 173, 174, 175, 176, 177, 161, 162, 163, 164, 191, 192, 193, 194, 203, 204, 205] (by decide +kernel) (by decide +kernel)) (goodIn_sub (fun _ h => List.mem_cons_of_mem _ (List.mem_append_right _ h)) (by decide +kernel))
set_option maxRecDepth 20000 in
theorem gX4_isSame_X3_iceOfCore : GoodIn wsX4_isSame (wsV RX4 95 RX3 yX3_iceOfCore wsX3_iceOfCore) := goodIn_app (goodIn_of _ (by decide +kernel)) ggX4_isSame_X3_iceOfCore
set_option maxRecDepth 20000 in
theorem ggX4_isSame_X3_thickest : GoodIn wsX4_isSame wsX3_thickest := goodIn_r _ [181, 22, 70, 71, 72, 26, 73, 28, 74, 75, 76, 191, 192, 193, 194, 202] (by decide +kernel) (by decide +kernel)
set_option maxRecDepth 20000 in
theorem gX4_isSame_X3_thickest : GoodIn wsX4_isSame (wsV RX4 98 RX3 yX3_thickest wsX3_thickest) := goodIn_app (goodIn_of _ (by decide +kernel)) ggX4_isSame_X3_thickest
set_option maxRecDepth 20000 in
theorem ggX4_isSame_X3_firstFalse : GoodIn wsX4_isSame wsX3_firstFalse := goodIn_r _ [185, 11, 12, 13, 14, 15, 16, 17, 115, 116, 117, 118, 119, 107, 108, 109, 110, 120, 121, 122, 123, 124, 98, 99, 100, 101, 42, 43, 44, 125, 38, 39, 40, 41, 126, 127, 128, 129, 130, 131, 132, 133, 134, 135, 136, 137, 138, 139, 140, 141, 142, 143, 144, 145, 146, 147, 191, 192, 193, 194, 195, 196, 197, 198, 199, 200, 201] (by decide +kernel) (by decide +kernel)
set_option maxRecDepth 20000 in
theorem gX4_isSame_X3_firstFalse : GoodIn wsX4_isSame (wsV RX4 101 RX3 yX3_firstFalse wsX3_firstFalse) := goodIn_app (goodIn_of _ (by decide +kernel)) ggX4_isSame_X3_firstFalse
theorem dX4_isSame_0 : decode cX4_isSame 0 = .ok (.aload_n 0, 1) := by decide +kernel
theorem dX4_isSame_1 : decode cX4_isSame 1 = .ok (.getfield 17, 3) := by decide +kernel
theorem dX4_isSame_4 : decode cX4_isSame 4 = .ok (.arraylength, 1) := by decide +kernel
theorem dX4_isSame_5 : decode cX4_isSame 5 = .ok (.istore_n 2, 1) := by decide +kernel
theorem dX4_isSame_6 : decode cX4_isSame 6 = .ok (.aload_n 1, 1) := by decide +kernel
theorem dX4_isSame_7 : decode cX4_isSame 7 = .ok (.invokevirtual 53, 3) := by decide +kernel
theorem dX4_isSame_10 : decode cX4_isSame 10 = .ok (.iload_n 2, 1) := by decide +kernel
theorem dX4_isSame_11 : decode cX4_isSame 11 = .ok (.if_icmp .ne 63, 3) := by decide +kernel
theorem dX4_isSame_14 : decode cX4_isSame 14 = .ok (.aload_n 1, 1) := by decide +kernel
theorem dX4_isSame_15 : decode cX4_isSame 15 = .ok (.invokevirtual 59, 3) := by decide +kernel
theorem dX4_isSame_18 : decode cX4_isSame 18 = .ok (.aload_n 0, 1) := by decide +kernel
theorem dX4_isSame_19 : decode cX4_isSame 19 = .ok (.getfield 7, 3) := by decide +kernel
theorem dX4_isSame_22 : decode cX4_isSame 22 = .ok (.invokestatic 61, 3) := by decide +kernel
theorem dX4_isSame_25 : decode cX4_isSame 25 = .ok (.if_icmp .ne 49, 3) := by decide +kernel
theorem dX4_isSame_28 : decode cX4_isSame 28 = .ok (.aload_n 1, 1) := by decide +kernel
theorem dX4_isSame_29 : decode cX4_isSame 29 = .ok (.invokevirtual 65, 3) := by decide +kernel
theorem dX4_isSame_32 : decode cX4_isSame 32 = .ok (.aload_n 0, 1) := by decide +kernel
theorem dX4_isSame_33 : decode cX4_isSame 33 = .ok (.getfield 13, 3) := by decide +kernel
theorem dX4_isSame_36 : decode cX4_isSame 36 = .ok (.arraylength, 1) := by decide +kernel
theorem dX4_isSame_37 : decode cX4_isSame 37 = .ok (.iconst 3, 1) := by decide +kernel
theorem dX4_isSame_38 : decode cX4_isSame 38 = .ok (.idiv, 1) := by decide +kernel
theorem dX4_isSame_39 : decode cX4_isSame 39 = .ok (.if_icmp .ne 35, 3) := by decide +kernel
theorem dX4_isSame_42 : decode cX4_isSame 42 = .ok (.aload_n 1, 1) := by decide +kernel
theorem dX4_isSame_43 : decode cX4_isSame 43 = .ok (.invokevirtual 67, 3) := by decide +kernel
theorem dX4_isSame_46 : decode cX4_isSame 46 = .ok (.aload_n 0, 1) := by decide +kernel
theorem dX4_isSame_47 : decode cX4_isSame 47 = .ok (.getfield 21, 3) := by decide +kernel
theorem dX4_isSame_50 : decode cX4_isSame 50 = .ok (.arraylength, 1) := by decide +kernel
theorem dX4_isSame_51 : decode cX4_isSame 51 = .ok (.if_icmp .ne 23, 3) := by decide +kernel
theorem dX4_isSame_54 : decode cX4_isSame 54 = .ok (.aload_n 1, 1) := by decide +kernel
theorem dX4_isSame_55 : decode cX4_isSame 55 = .ok (.invokevirtual 69, 3) := by decide +kernel
theorem dX4_isSame_58 : decode cX4_isSame 58 = .ok (.aload_n 0, 1) := by decide +kernel
theorem dX4_isSame_59 : decode cX4_isSame 59 = .ok (.getfield 7, 3) := by decide +kernel
theorem dX4_isSame_62 : decode cX4_isSame 62 = .ok (.invokestatic 61, 3) := by decide +kernel
theorem dX4_isSame_65 : decode cX4_isSame 65 = .ok (.i2d, 1) := by decide +kernel
theorem dX4_isSame_66 : decode cX4_isSame 66 = .ok (.ldc2_w 73, 3) := by decide +kernel
theorem dX4_isSame_69 : decode cX4_isSame 69 = .ok (.ddiv, 1) := by decide +kernel
theorem dX4_isSame_70 : decode cX4_isSame 70 = .ok (.dcmp .l, 1) := by decide +kernel
theorem dX4_isSame_71 : decode cX4_isSame 71 = .ok (.ifCond .eq 5, 3) := by decide +kernel
theorem dX4_isSame_74 : decode cX4_isSame 74 = .ok (.iconst 0, 1) := by decide +kernel
theorem dX4_isSame_75 : decode cX4_isSame 75 = .ok (.ireturn, 1) := by decide +kernel
theorem dX4_isSame_76 : decode cX4_isSame 76 = .ok (.bipush 7, 2) := by decide +kernel
theorem dX4_isSame_78 : decode cX4_isSame 78 = .ok (.istore_n 3, 1) := by decide +kernel
theorem dX4_isSame_79 : decode cX4_isSame 79 = .ok (.bipush 7, 2) := by decide +kernel
theorem dX4_isSame_81 : decode cX4_isSame 81 = .ok (.istore 4, 2) := by decide +kernel
theorem dX4_isSame_83 : decode cX4_isSame 83 = .ok (.iload 4, 2) := by decide +kernel
theorem dX4_isSame_85 : decode cX4_isSame 85 = .ok (.ifCond .lt 46, 3) := by decide +kernel
theorem dX4_isSame_88 : decode cX4_isSame 88 = .ok (.aload_n 0, 1) := by decide +kernel
theorem dX4_isSame_89 : decode cX4_isSame 89 = .ok (.getfield 7, 3) := by decide +kernel
theorem dX4_isSame_92 : decode cX4_isSame 92 = .ok (.iload 4, 2) := by decide +kernel
theorem dX4_isSame_94 : decode cX4_isSame 94 = .ok (.iaload, 1) := by decide +kernel
theorem dX4_isSame_95 : decode cX4_isSame 95 = .ok (.aload_n 0, 1) := by decide +kernel
theorem dX4_isSame_96 : decode cX4_isSame 96 = .ok (.getfield 7, 3) := by decide +kernel
theorem dX4_isSame_99 : decode cX4_isSame 99 = .ok (.iload_n 3, 1) := by decide +kernel
theorem dX4_isSame_100 : decode cX4_isSame 100 = .ok (.iaload, 1) := by decide +kernel
theorem dX4_isSame_101 : decode cX4_isSame 101 = .ok (.if_icmp .lt 6, 3) := by decide +kernel
theorem dX4_isSame_104 : decode cX4_isSame 104 = .ok (.iload 4, 2) := by decide +kernel
theorem dX4_isSame_106 : decode cX4_isSame 106 = .ok (.istore_n 3, 1) := by decide +kernel
theorem dX4_isSame_107 : decode cX4_isSame 107 = .ok (.aload_n 1, 1) := by decide +kernel
theorem dX4_isSame_108 : decode cX4_isSame 108 = .ok (.iload 4, 2) := by decide +kernel
theorem dX4_isSame_110 : decode cX4_isSame 110 = .ok (.invokevirtual 75, 3) := by decide +kernel
theorem dX4_isSame_113 : decode cX4_isSame 113 = .ok (.aload_n 0, 1) := by decide +kernel
theorem dX4_isSame_114 : decode cX4_isSame 114 = .ok (.getfield 7, 3) := by decide +kernel
theorem dX4_isSame_117 : decode cX4_isSame 117 = .ok (.iload 4, 2) := by decide +kernel
theorem dX4_isSame_119 : decode cX4_isSame 119 = .ok (.iaload, 1) := by decide +kernel
theorem dX4_isSame_120 : decode cX4_isSame 120 = .ok (.if_icmp .eq 5, 3) := by decide +kernel
theorem dX4_isSame_123 : decode cX4_isSame 123 = .ok (.iconst 0, 1) := by decide +kernel
theorem dX4_isSame_124 : decode cX4_isSame 124 = .ok (.ireturn, 1) := by decide +kernel
theorem dX4_isSame_125 : decode cX4_isSame 125 = .ok (.iinc 4 (-1), 3) := by decide +kernel
theorem dX4_isSame_128 : decode cX4_isSame 128 = .ok (.goto (-45), 3) := by decide +kernel
theorem dX4_isSame_131 : decode cX4_isSame 131 = .ok (.iconst (-1), 1) := by decide +kernel
theorem dX4_isSame_132 : decode cX4_isSame 132 = .ok (.istore 4, 2) := by decide +kernel
theorem dX4_isSame_134 : decode cX4_isSame 134 = .ok (.iload_n 2, 1) := by decide +kernel
theorem dX4_isSame_135 : decode cX4_isSame 135 = .ok (.iconst 1, 1) := by decide +kernel
theorem dX4_isSame_136 : decode cX4_isSame 136 = .ok (.isub, 1) := by decide +kernel
theorem dX4_isSame_137 : decode cX4_isSame 137 = .ok (.istore 5, 2) := by decide +kernel
theorem dX4_isSame_139 : decode cX4_isSame 139 = .ok (.iload 5, 2) := by decide +kernel
theorem dX4_isSame_141 : decode cX4_isSame 141 = .ok (.ifCond .lt 105, 3) := by decide +kernel
theorem dX4_isSame_144 : decode cX4_isSame 144 = .ok (.aload_n 0, 1) := by decide +kernel
theorem dX4_isSame_145 : decode cX4_isSame 145 = .ok (.iload 5, 2) := by decide +kernel
theorem dX4_isSame_147 : decode cX4_isSame 147 = .ok (.invokevirtual 78, 3) := by decide +kernel
theorem dX4_isSame_150 : decode cX4_isSame 150 = .ok (.ifCond .eq 7, 3) := by decide +kernel
theorem dX4_isSame_153 : decode cX4_isSame 153 = .ok (.iload 5, 2) := by decide +kernel
theorem dX4_isSame_155 : decode cX4_isSame 155 = .ok (.istore 4, 2) := by decide +kernel
theorem dX4_isSame_157 : decode cX4_isSame 157 = .ok (.aload_n 1, 1) := by decide +kernel
theorem dX4_isSame_158 : decode cX4_isSame 158 = .ok (.iload 5, 2) := by decide +kernel
theorem dX4_isSame_160 : decode cX4_isSame 160 = .ok (.invokevirtual 82, 3) := by decide +kernel
theorem dX4_isSame_163 : decode cX4_isSame 163 = .ok (.aload_n 0, 1) := by decide +kernel
theorem dX4_isSame_164 : decode cX4_isSame 164 = .ok (.getfield 17, 3) := by decide +kernel
theorem dX4_isSame_167 : decode cX4_isSame 167 = .ok (.iload 5, 2) := by decide +kernel
theorem dX4_isSame_169 : decode cX4_isSame 169 = .ok (.aaload, 1) := by decide +kernel
theorem dX4_isSame_170 : decode cX4_isSame 170 = .ok (.arraylength, 1) := by decide +kernel
theorem dX4_isSame_171 : decode cX4_isSame 171 = .ok (.iconst 2, 1) := by decide +kernel
theorem dX4_isSame_172 : decode cX4_isSame 172 = .ok (.isub, 1) := by decide +kernel
theorem dX4_isSame_173 : decode cX4_isSame 173 = .ok (.iconst 3, 1) := by decide +kernel
theorem dX4_isSame_174 : decode cX4_isSame 174 = .ok (.idiv, 1) := by decide +kernel
theorem dX4_isSame_175 : decode cX4_isSame 175 = .ok (.if_icmp .ne 63, 3) := by decide +kernel
theorem dX4_isSame_178 : decode cX4_isSame 178 = .ok (.aload_n 1, 1) := by decide +kernel
theorem dX4_isSame_179 : decode cX4_isSame 179 = .ok (.iload 5, 2) := by decide +kernel
theorem dX4_isSame_181 : decode cX4_isSame 181 = .ok (.invokevirtual 85, 3) := by decide +kernel
theorem dX4_isSame_184 : decode cX4_isSame 184 = .ok (.aload_n 0, 1) := by decide +kernel
theorem dX4_isSame_185 : decode cX4_isSame 185 = .ok (.getfield 17, 3) := by decide +kernel
theorem dX4_isSame_188 : decode cX4_isSame 188 = .ok (.iload 5, 2) := by decide +kernel
theorem dX4_isSame_190 : decode cX4_isSame 190 = .ok (.aaload, 1) := by decide +kernel
theorem dX4_isSame_191 : decode cX4_isSame 191 = .ok (.iconst 0, 1) := by decide +kernel
theorem dX4_isSame_192 : decode cX4_isSame 192 = .ok (.iaload, 1) := by decide +kernel
theorem dX4_isSame_193 : decode cX4_isSame 193 = .ok (.if_icmp .ne 45, 3) := by decide +kernel
theorem dX4_isSame_196 : decode cX4_isSame 196 = .ok (.aload_n 1, 1) := by decide +kernel
theorem dX4_isSame_197 : decode cX4_isSame 197 = .ok (.iload 5, 2) := by decide +kernel
theorem dX4_isSame_199 : decode cX4_isSame 199 = .ok (.invokevirtual 88, 3) := by decide +kernel
theorem dX4_isSame_202 : decode cX4_isSame 202 = .ok (.aload_n 0, 1) := by decide +kernel
theorem dX4_isSame_203 : decode cX4_isSame 203 = .ok (.getfield 17, 3) := by decide +kernel
theorem dX4_isSame_206 : decode cX4_isSame 206 = .ok (.iload 5, 2) := by decide +kernel
theorem dX4_isSame_208 : decode cX4_isSame 208 = .ok (.aaload, 1) := by decide +kernel
theorem dX4_isSame_209 : decode cX4_isSame 209 = .ok (.iconst 1, 1) := by decide +kernel
theorem dX4_isSame_210 : decode cX4_isSame 210 = .ok (.iaload, 1) := by decide +kernel
theorem dX4_isSame_211 : decode cX4_isSame 211 = .ok (.iconst 1, 1) := by decide +kernel
theorem dX4_isSame_212 : decode cX4_isSame 212 = .ok (.if_icmp .ne 7, 3) := by decide +kernel
theorem dX4_isSame_215 : decode cX4_isSame 215 = .ok (.iconst 1, 1) := by decide +kernel
theorem dX4_isSame_216 : decode cX4_isSame 216 = .ok (.goto 4, 3) := by decide +kernel
theorem dX4_isSame_219 : decode cX4_isSame 219 = .ok (.iconst 0, 1) := by decide +kernel
theorem dX4_isSame_220 : decode cX4_isSame 220 = .ok (.if_icmp .ne 18, 3) := by decide +kernel
theorem dX4_isSame_223 : decode cX4_isSame 223 = .ok (.aload_n 1, 1) := by decide +kernel
theorem dX4_isSame_224 : decode cX4_isSame 224 = .ok (.iload 5, 2) := by decide +kernel
theorem dX4_isSame_226 : decode cX4_isSame 226 = .ok (.invokevirtual 91, 3) := by decide +kernel
theorem dX4_isSame_229 : decode cX4_isSame 229 = .ok (.aload_n 0, 1) := by decide +kernel
theorem dX4_isSame_230 : decode cX4_isSame 230 = .ok (.iload 5, 2) := by decide +kernel
theorem dX4_isSame_232 : decode cX4_isSame 232 = .ok (.invokevirtual 78, 3) := by decide +kernel
theorem dX4_isSame_235 : decode cX4_isSame 235 = .ok (.if_icmp .eq 5, 3) := by decide +kernel
theorem dX4_isSame_238 : decode cX4_isSame 238 = .ok (.iconst 0, 1) := by decide +kernel
theorem dX4_isSame_239 : decode cX4_isSame 239 = .ok (.ireturn, 1) := by decide +kernel
theorem dX4_isSame_240 : decode cX4_isSame 240 = .ok (.iinc 5 (-1), 3) := by decide +kernel
theorem dX4_isSame_243 : decode cX4_isSame 243 = .ok (.goto (-104), 3) := by decide +kernel
theorem dX4_isSame_246 : decode cX4_isSame 246 = .ok (.iconst 0, 1) := by decide +kernel
theorem dX4_isSame_247 : decode cX4_isSame 247 = .ok (.istore 5, 2) := by decide +kernel
theorem dX4_isSame_249 : decode cX4_isSame 249 = .ok (.iload 5, 2) := by decide +kernel
theorem dX4_isSame_251 : decode cX4_isSame 251 = .ok (.aload_n 0, 1) := by decide +kernel
theorem dX4_isSame_252 : decode cX4_isSame 252 = .ok (.getfield 21, 3) := by decide +kernel
theorem dX4_isSame_255 : decode cX4_isSame 255 = .ok (.arraylength, 1) := by decide +kernel
theorem dX4_isSame_256 : decode cX4_isSame 256 = .ok (.if_icmp .ge 58, 3) := by decide +kernel
theorem dX4_isSame_259 : decode cX4_isSame 259 = .ok (.aload_n 1, 1) := by decide +kernel
theorem dX4_isSame_260 : decode cX4_isSame 260 = .ok (.iload 5, 2) := by decide +kernel
theorem dX4_isSame_262 : decode cX4_isSame 262 = .ok (.invokevirtual 92, 3) := by decide +kernel
theorem dX4_isSame_265 : decode cX4_isSame 265 = .ok (.aload_n 0, 1) := by decide +kernel
theorem dX4_isSame_266 : decode cX4_isSame 266 = .ok (.getfield 21, 3) := by decide +kernel
theorem dX4_isSame_269 : decode cX4_isSame 269 = .ok (.iload 5, 2) := by decide +kernel
theorem dX4_isSame_271 : decode cX4_isSame 271 = .ok (.aaload, 1) := by decide +kernel
theorem dX4_isSame_272 : decode cX4_isSame 272 = .ok (.iconst 0, 1) := by decide +kernel
theorem dX4_isSame_273 : decode cX4_isSame 273 = .ok (.iaload, 1) := by decide +kernel
theorem dX4_isSame_274 : decode cX4_isSame 274 = .ok (.if_icmp .ne 32, 3) := by decide +kernel
theorem dX4_isSame_277 : decode cX4_isSame 277 = .ok (.aload_n 1, 1) := by decide +kernel
theorem dX4_isSame_278 : decode cX4_isSame 278 = .ok (.iload 5, 2) := by decide +kernel
theorem dX4_isSame_280 : decode cX4_isSame 280 = .ok (.invokevirtual 95, 3) := by decide +kernel
theorem dX4_isSame_283 : decode cX4_isSame 283 = .ok (.aload_n 0, 1) := by decide +kernel
theorem dX4_isSame_284 : decode cX4_isSame 284 = .ok (.getfield 21, 3) := by decide +kernel
theorem dX4_isSame_287 : decode cX4_isSame 287 = .ok (.iload 5, 2) := by decide +kernel
theorem dX4_isSame_289 : decode cX4_isSame 289 = .ok (.aaload, 1) := by decide +kernel
theorem dX4_isSame_290 : decode cX4_isSame 290 = .ok (.invokestatic 61, 3) := by decide +kernel
theorem dX4_isSame_293 : decode cX4_isSame 293 = .ok (.aload_n 0, 1) := by decide +kernel
theorem dX4_isSame_294 : decode cX4_isSame 294 = .ok (.getfield 21, 3) := by decide +kernel
theorem dX4_isSame_297 : decode cX4_isSame 297 = .ok (.iload 5, 2) := by decide +kernel
theorem dX4_isSame_299 : decode cX4_isSame 299 = .ok (.aaload, 1) := by decide +kernel
theorem dX4_isSame_300 : decode cX4_isSame 300 = .ok (.iconst 0, 1) := by decide +kernel
theorem dX4_isSame_301 : decode cX4_isSame 301 = .ok (.iaload, 1) := by decide +kernel
theorem dX4_isSame_302 : decode cX4_isSame 302 = .ok (.isub, 1) := by decide +kernel
theorem dX4_isSame_303 : decode cX4_isSame 303 = .ok (.if_icmp .eq 5, 3) := by decide +kernel
theorem dX4_isSame_306 : decode cX4_isSame 306 = .ok (.iconst 0, 1) := by decide +kernel
theorem dX4_isSame_307 : decode cX4_isSame 307 = .ok (.ireturn, 1) := by decide +kernel
theorem dX4_isSame_308 : decode cX4_isSame 308 = .ok (.iinc 5 1, 3) := by decide +kernel
theorem dX4_isSame_311 : decode cX4_isSame 311 = .ok (.goto (-62), 3) := by decide +kernel
theorem dX4_isSame_314 : decode cX4_isSame 314 = .ok (.aload_n 1, 1) := by decide +kernel
theorem dX4_isSame_315 : decode cX4_isSame 315 = .ok (.invokevirtual 98, 3) := by decide +kernel
theorem dX4_isSame_318 : decode cX4_isSame 318 = .ok (.iload_n 3, 1) := by decide +kernel
theorem dX4_isSame_319 : decode cX4_isSame 319 = .ok (.if_icmp .ne 16, 3) := by decide +kernel
theorem dX4_isSame_322 : decode cX4_isSame 322 = .ok (.aload_n 1, 1) := by decide +kernel
theorem dX4_isSame_323 : decode cX4_isSame 323 = .ok (.invokevirtual 101, 3) := by decide +kernel
theorem dX4_isSame_326 : decode cX4_isSame 326 = .ok (.iload 4, 2) := by decide +kernel
theorem dX4_isSame_328 : decode cX4_isSame 328 = .ok (.if_icmp .ne 7, 3) := by decide +kernel
theorem dX4_isSame_331 : decode cX4_isSame 331 = .ok (.iconst 1, 1) := by decide +kernel
theorem dX4_isSame_332 : decode cX4_isSame 332 = .ok (.goto 4, 3) := by decide +kernel
theorem dX4_isSame_335 : decode cX4_isSame 335 = .ok (.iconst 0, 1) := by decide +kernel
theorem dX4_isSame_336 : decode cX4_isSame 336 = .ok (.ireturn, 1) := by decide +kernel
